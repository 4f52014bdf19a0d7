import java.io.IOException;
import java.lang.reflect.Constructor;
import java.lang.reflect.Field;
import java.lang.reflect.Method;
import java.lang.reflect.Modifier;
import java.nio.file.Files;
import java.nio.file.Path;
import java.util.Set;
import java.util.TreeSet;
import java.util.regex.Matcher;
import java.util.regex.Pattern;

/** The public face, and those rules of LANGUAGE.md that can be seen from outside or in the text. */
final class FaceTest {
    private static final String FACE = "int feed(int,int,int,int,int)|boolean end(int)|int fault(int)|int text(int)"
            + "|int thing(int,int)|int step(int,int,int)|int heir(int,int)|int tools(int)|boolean law(int)"
            + "|int takes(int,int,int)|int alone(int,int)|int who(int)|int stuck(int)|int team(int,int)|int helpers(int)"
            + "|int give(int,int)|int teach(int,int)|int days(int)|int generation(long)|int undo()|int deal(int)"
            + "|int best(int,int)|int learn(int)|int begin(int,int)|int spite(int,int)|int wish(int,int)|int rests(int)"
            + "|int gains(int,int)|int ends(int,int,int,int)|int shortest(int,int,int)|int judged(int,int,int)"
            + "|int dearest(int,int,int)|int ended(int,int,int)|int stood(int)|int sold()|int sign(int,int)|int image()"
            + "|int back()|int count(int)";

    public static void main(String[] args) throws IOException {
        face();
        classesInside();
        text(Files.readString(Path.of("src/main/java/HalfDone.java")));
        Check.finish();
    }

    private static void face() {
        Set<String> want = new TreeSet<>(Set.of(FACE.split("\\|")));
        Set<String> names = new TreeSet<>();
        for (String one : want) {
            names.add(one.substring(one.indexOf(' ') + 1, one.indexOf('(')));
        }
        Set<String> got = new TreeSet<>();
        for (Method m : HalfDone.class.getDeclaredMethods()) {
            if (Modifier.isPrivate(m.getModifiers())) {
                Check.due("a private method " + m.getName() + " with a public one's name", names.contains(m.getName()), false);
            } else {
                StringBuilder types = new StringBuilder();
                for (Class<?> type : m.getParameterTypes()) {
                    types.append(types.length() == 0 ? "" : ",").append(type);
                }
                got.add(m.getReturnType() + " " + m.getName() + "(" + types + ")");
                Check.due(m.getName() + " is public and of objects", m.getModifiers(), Modifier.PUBLIC);
            }
        }
        Check.due("the face is " + got, got.equals(want), true);
        for (Field f : HalfDone.class.getDeclaredFields()) {
            boolean known = f.getName().equals("NONE") || f.getName().equals("HIDDEN");
            Check.due(f.getName() + " is private", Modifier.isPrivate(f.getModifiers()), !known);
        }
        Constructor<?>[] made = HalfDone.class.getDeclaredConstructors();
        Check.due("one constructor", made.length, 1);
        Check.due("it is public", made[0].getModifiers(), Modifier.PUBLIC);
        Check.due("without parameters", made[0].getParameterCount(), 0);
        Check.due("the class is public and final", HalfDone.class.getModifiers(), Modifier.PUBLIC | Modifier.FINAL);
    }

    private static void classesInside() {
        Class<?>[] inside = HalfDone.class.getDeclaredClasses();
        Check.due("twelve classes at most", inside.length <= 11, true);
        for (Class<?> one : inside) {
            Check.due(one + " is static", Modifier.isStatic(one.getModifiers()), true);
            Check.due(one + " is not public", Modifier.isPublic(one.getModifiers()), false);
            int fields = 0;
            for (Field f : one.getDeclaredFields()) {
                boolean fixed = Modifier.isStatic(f.getModifiers());
                Check.due(f + " is final, if static", !fixed || Modifier.isFinal(f.getModifiers()), true);
                fields += fixed ? 0 : 1;
            }
            Check.due(one + " has twenty fields at most", fields <= 20, true);
            for (Method m : one.getDeclaredMethods()) {
                Check.due(m + " has seven parameters at most", m.getParameterCount() <= 7, true);
            }
        }
    }

    private static void text(String source) {
        for (String none : new String[] {"->", "::", "\\bcatch\\b", "\\bfinally\\b", "\\bassert\\b", "\\bsynchronized\\b",
            "static \\{", "\\bpackage\\b", "\\bSystem\\.(?!arraycopy)", "Exact\\(", "\\bdouble\\b", "\\bfloat\\b"}) {
            Check.due(none + " in the text", Pattern.compile(none).matcher(source).find(), false);
        }
        Matcher imported = Pattern.compile("(?m)^import (.*);$").matcher(source);
        while (imported.find()) {
            Check.due(imported.group(1), Set.of("java.util.Arrays", "java.util.NoSuchElementException")
                    .contains(imported.group(1)), true);
        }
        int from = 0;
        int line = 0;
        for (String one : source.split("\n")) {
            line++;
            if (one.matches("(    |        )[^ ].*\\) (throws \\w+ )?\\{")) {
                from = line;
            } else if (one.matches("(    |        )\\}")) {
                Check.due("the method at line " + from + " is short", line - from <= 60, true);
            }
        }
    }
}
