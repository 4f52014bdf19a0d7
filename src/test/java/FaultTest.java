/** Promise 4: fault. */
final class FaultTest {
    private static final HalfDone X = new HalfDone();

    public static void main(String[] args) {
        wills();
        numbersOfWills();
        laws();
        beginnings();
        sorts();
        Check.finish();
    }

    private static void due(int sort, String text, int want) {
        Check.tape(X, text);
        int bytes = X.count(5);
        Check.due("fault(" + sort + ") of '" + text + "'", X.fault(sort), want);
        Check.due("the tape of '" + text + "' stays", X.count(5), bytes);
    }

    private static void wills() {
        due(0, "", 0);
        due(0, "   ", 3);
        due(0, "t:a1;h", -1);
        due(0, "h;t:a1", -1);
        due(0, "ga;h;gb;t:a1;ga;gc", -1);
        due(0, " t v 5 r 7 d 1 : a 1 b 2 ; h a 3 k 4 ; g b ", -1);
        due(0, "td1r5v3:a1;hk1e1d1c1b1a1", -1);
        due(0, "t:a1b2c3d4e5a6b7c8;h", -1);
        due(0, "t:a1;t:a1;t:a1;t:a1;t:a1;t:a1;h;h;h;h;h;h;ga;gb;gc;gd", -1);
        due(0, "t:a1", 4);
        due(0, "h", 1);
        due(0, "h;ga", 4);
        due(0, "t", 1);
        due(0, "t:", 2);
        due(0, "t:a", 3);
        due(0, "tv", 2);
        due(0, "t:a1;h;", 7);
        due(0, "t:a1;;h", 5);
        due(0, ";t:a1;h", 0);
        due(0, "x", 0);
        due(0, "T:a1;h", 0);
        due(0, "t;h", 1);
        due(0, "ta1:a1;h", 1);
        due(0, "tk1:a1;h", 1);
        due(0, "tv:a1;h", 2);
        due(0, "t::a1;h", 2);
        due(0, "t:a1:b1;h", 4);
        due(0, "t:a1v3;h", 4);
        due(0, "t:f1;h", 2);
        due(0, "t:a1;hf1", 6);
        due(0, "t:a1;hv1", 6);
        due(0, "t:a1;h:a1", 6);
        due(0, "t:a1;ha", 7);
        due(0, "t:a1;ha;h", 7);
        due(0, "t:a1;h;g", 8);
        due(0, "t:a1;h;gf", 8);
        due(0, "t:a1;h;gk", 8);
        due(0, "t:a1;h;ga1", 9);
        due(0, "t:a1;h;gaa", 9);
        due(0, "t:a1;h ;g;h", 9);
        due(0, "tv1v1:a1;h", 3);
        due(0, "tv1r2d0r3:a1;h", 7);
        due(0, "t:a1;ha1b1a1", 10);
        due(0, "t:a1;hk1k1", 8);
        due(0, "t:a1b2c3d4e5a6b7c8a1;h", 18);
        due(0, "t:a1b2c3d4e5a6b7c8 a;h", 19);
        due(0, "t:a1;t:a1;t:a1;t:a1;t:a1;t:a1;t", 30);
        due(0, "h;h;h;h;h;h;t:a1;h", 17);
        due(0, "ga;ga;ga;ga;ga", 12);
        due(0, "t:a1\t;h", 4);
        due(0, "t:a1;h\u00e9", 6);
        due(0, "td2:a1;h", 8);
        due(0, "td2:a1;h ", 9);
        due(0, "td2:a1;h;x", 9);
        due(0, "td1:a1;h", -1);
        due(0, "t:a1;td8:a1a1a1a1a1a1a1;h", 25);
    }

    private static void numbersOfWills() {
        due(0, "tv0:a1;h", -1);
        due(0, "tv99:a1;h", -1);
        due(0, "tv00:a1;h", -1);
        due(0, "tv100:a1;h", 4);
        due(0, "tv000:a1;h", 4);
        due(0, "tv1 0:a1;h", 4);
        due(0, "tr1:a1;h", -1);
        due(0, "tr01:a1;h", -1);
        due(0, "tr0:a1;h", 2);
        due(0, "tr00:a1;h", 3);
        due(0, "tr000:a1;h", 4);
        due(0, "tr 0 :a1;h", 3);
        due(0, "td08:a1a1a1a1a1a1a1a1;h", -1);
        due(0, "td9:a1;h", 2);
        due(0, "td12:a1;h", 3);
        due(0, "td91:a1;h", 3);
        due(0, "td912:a1;h", 4);
        due(0, "t:a9;h", -1);
        due(0, "t:a0;h", 3);
        due(0, "t:a0", 3);
        due(0, "t:a10;h", 4);
        due(0, "t:a01;h", 3);
        due(0, "t:a00;h", 3);
        due(0, "t:a001;h", 3);
        due(0, "t: a 0 1;h", 5);
        due(0, "t:a1b05;h", 5);
        due(0, "t:a90;h", 4);
        due(0, "t:a999;h", 4);
        due(0, "td2:a0;h", 5);
        due(0, "t:a1b2c3d4e5a6b7c00;h", 17);
        due(0, "t:a1b2c3d4e5a6b7c80;h", 18);
        due(0, "t:a1 0;h", 5);
        due(0, "t:a1;ha9k09", -1);
        due(0, "t:a1;ha10", 8);
        due(0, "t:a1;ha010", 9);
        due(0, "t:a1;ha000", 9);
        due(0, "t:a1;ha0k00", -1);
        due(0, "t:a1;hk10", 8);
        due(0, "t:a1;hk99", 8);
        due(0, "t:a1;hk999", 9);
    }

    private static void laws() {
        due(1, "", 0);
        due(1, "y", 1);
        due(1, "y:", 2);
        due(1, "x", 0);
        due(1, "y1", 1);
        due(1, "y:1", -1);
        due(1, " y : 1 ", -1);
        due(1, "y:9999", -1);
        due(1, "y:0000", -1);
        due(1, "y:12345", 6);
        due(1, "y:00000", 6);
        due(1, "y:1 2", 4);
        due(1, "y:v*k+s/d-n*p+c-i", -1);
        due(1, "y:z", 2);
        due(1, "y:vk", 3);
        due(1, "y:2v", 3);
        due(1, "y:-1", 2);
        due(1, "y:v+", 4);
        due(1, "y:v+-1", 4);
        due(1, "y:v?1", 3);
        due(1, "y:v&k=1?1", 3);
        due(1, "y:v>1", 5);
        due(1, "y:v>1?", 6);
        due(1, "y:v>1?1", -1);
        due(1, "y:v>1?1>2", 7);
        due(1, "y:v>1?1?2", 7);
        due(1, "y:v>1>2?1", 5);
        due(1, "y:v=k&s<d|n>p?1", -1);
        due(1, "y:v=k&s?1", 7);
        due(1, "y:v=k&?1", 6);
        due(1, "y:(v=1)?2", -1);
        due(1, "y:(v=1)", 7);
        due(1, "y:(v=1)+1", 7);
        due(1, "y:(v)", 4);
        due(1, "y:(v+1)*2", 6);
        due(1, "y:(v=1", 6);
        due(1, "y:(v=1]?1", 6);
        due(1, "y:[v=1]?1", 4);
        due(1, "y:[v+1]*2", -1);
        due(1, "y:[v+1]=2?1", -1);
        due(1, "y:[v", 4);
        due(1, "y:[]", 3);
        due(1, "y:!v=1?1", -1);
        due(1, "y:!v=1", 6);
        due(1, "y:!v", 4);
        due(1, "y:!v?1", 4);
        due(1, "y:!!(v=1|!k=2)&c=1?1", -1);
        due(1, "y:v=!1?1", 4);
        due(1, "y:v=(1)?1", 4);
        due(1, "y:v=1&!k=1|(c=1)?[1]", -1);
        due(1, "y:1)", 3);
        due(1, "y:1;", 4);
        due(1, "y:1;y:2;y:v>1?3", -1);
        due(1, "y:1;;y:2", 4);
        due(1, "y:1;y", 5);
        due(1, "y:!!!!!!v=1?1", -1);
        due(1, "y:!!!!!!!v=1?1", 8);
        due(1, "y:!!!!!![v]=1?1", 8);
        due(1, "y:!!!!!(v=[1])?1", 10);
        due(1, "y:((((((v=1))))))?1", -1);
        due(1, "y:(((((((v=1)))))))?1", 8);
        due(1, "y:[[[[[[1]]]]]]", -1);
        due(1, "y:[[[[[[[1]]]]]]]", 8);
        due(1, "y:((((([1]=1)))))?[[[[[[1]]]]]]", -1);
        due(1, "y:!v=1&!v=1&!v=1&!v=1&!v=1&!v=1&!v=1?1", -1);
        due(1, "y:[1]+[1]+[1]+[1]+[1]+[1]+[1]", -1);
    }

    private static void beginnings() {
        due(2, "", 0);
        due(2, "  ", 2);
        due(2, "0", -1);
        due(2, "123456789012", -1);
        due(2, "1234567890123", 12);
        due(2, " 1 2 3 ", -1);
        due(2, "1 2 3 4 5 6 7 8 9 0 1 2 3", 24);
        due(2, "12a", 2);
        due(2, "a", 0);
        due(2, "1;2", 1);
    }

    private static void sorts() {
        Check.tape(X, "1");
        Check.due("fault(-1)", X.fault(-1), -2);
        Check.due("fault(3)", X.fault(3), -2);
        Check.due("fault(2147483647)", X.fault(Integer.MAX_VALUE), -2);
        Check.due("fault(-2147483648)", X.fault(Integer.MIN_VALUE), -2);
    }
}
