/-! THE ABSTRACT MACHINE: a frame's pc, locals, operand stack, and a store of numbered cells; a small interpreter of the instructions that the system uses -/
abbrev aSt : Type := Nat → Nat → Value
abbrev aC : Type := Nat × List Value × List Value × aSt
/-- go on there; or return; or call (method, arguments) and go on there -/
abbrev aR : Type := aC ⊕ ((Option Value × aSt) ⊕ (Nat × List Value × aC))
/-- arrays outside of the store: length and contents -/
abbrev aXt : Type := Nat → Option (Nat × (Nat → Int32))
def aUp (σ : aSt) (a k : Nat) (v : Value) : aSt := fun b j => if b = a then (if j = k then v else σ b j) else σ b j
def aI (v : Value) : Int32 := match v with
  | .int x => x
  | _ => 0
def aJ (v : Value) : Int64 := match v with
  | .long x => x
  | _ => 0
def aV (ad : Nat → Nat) (v : Value) : Value := match v with
  | .ref a => .ref (ad a)
  | v => v
def aGo (pc : Nat) (lv st : List Value) (σ : aSt) : Option aR := some (.inl (pc, lv, st, σ))
def aJp (pc : Nat) (off : Int) (lv st : List Value) (σ : aSt) : Option aR := match (pc : Int) + off with
  | .ofNat t => aGo t lv st σ
  | .negSucc _ => none
def aNoL (lv : List Value) : Nat → Bool
  | 0 => true
  | i + 1 => match lv[i]? with
    | some v => v.category == 1
    | none => true
def aPut1 (pc : Nat) (lv : List Value) (i : Nat) (v : Value) (st : List Value) (σ : aSt) : Option aR := match Nat.blt i lv.length && aNoL lv i with
  | true => aGo pc (lv.set i v) st σ
  | false => none
def aPut2 (pc : Nat) (lv : List Value) (i : Nat) (v : Value) (st : List Value) (σ : aSt) : Option aR := match Nat.blt (i + 1) lv.length && aNoL lv i with
  | true => aGo pc ((lv.set i v).set (i + 1) .null) st σ
  | false => none
def aLdI (pc : Nat) (lv : List Value) (i : Nat) (st : List Value) (σ : aSt) : Option aR := match lv[i]? with
  | some (.int x) => aGo pc lv (.int x :: st) σ
  | _ => none
def aLdL (pc : Nat) (lv : List Value) (i : Nat) (st : List Value) (σ : aSt) : Option aR := match lv[i]? with
  | some (.long x) => aGo pc lv (.long x :: st) σ
  | _ => none
def aLdR (pc : Nat) (lv : List Value) (i : Nat) (st : List Value) (σ : aSt) : Option aR := match lv[i]? with
  | some (.ref x) => aGo pc lv (.ref x :: st) σ
  | _ => none
def aStI (pc : Nat) (lv : List Value) (i : Nat) (st : List Value) (σ : aSt) : Option aR := match st with
  | .int x :: r => aPut1 pc lv i (.int x) r σ
  | _ => none
def aStR (pc : Nat) (lv : List Value) (i : Nat) (st : List Value) (σ : aSt) : Option aR := match st with
  | .ref x :: r => aPut1 pc lv i (.ref x) r σ
  | _ => none
def aStL (pc : Nat) (lv : List Value) (i : Nat) (st : List Value) (σ : aSt) : Option aR := match st with
  | .long x :: r => aPut2 pc lv i (.long x) r σ
  | _ => none
/-- two ints off the stack -/
def aII (f : Int32 → Int32 → Value) (pc : Nat) (lv st : List Value) (σ : aSt) : Option aR := match st with
  | .int y :: .int x :: r => aGo (pc + 1) lv (f x y :: r) σ
  | _ => none
/-- two longs off the stack -/
def aLL (f : Int64 → Int64 → Value) (pc : Nat) (lv st : List Value) (σ : aSt) : Option aR := match st with
  | .long y :: .long x :: r => aGo (pc + 1) lv (f x y :: r) σ
  | _ => none
/-- an int over a long -/
def aLI (f : Int64 → Int32 → Value) (pc : Nat) (lv st : List Value) (σ : aSt) : Option aR := match st with
  | .int y :: .long x :: r => aGo (pc + 1) lv (f x y :: r) σ
  | _ => none
def aI1 (f : Int32 → Value) (pc : Nat) (lv st : List Value) (σ : aSt) : Option aR := match st with
  | .int x :: r => aGo (pc + 1) lv (f x :: r) σ
  | _ => none
def aL1 (f : Int64 → Value) (pc : Nat) (lv st : List Value) (σ : aSt) : Option aR := match st with
  | .long x :: r => aGo (pc + 1) lv (f x :: r) σ
  | _ => none
def aIID (f : Int32 → Int32 → Value) (pc : Nat) (lv st : List Value) (σ : aSt) : Option aR := match st with
  | .int y :: .int x :: r => if y = 0 then none else aGo (pc + 1) lv (f x y :: r) σ
  | _ => none
def aLLD (f : Int64 → Int64 → Value) (pc : Nat) (lv st : List Value) (σ : aSt) : Option aR := match st with
  | .long y :: .long x :: r => if y = 0 then none else aGo (pc + 1) lv (f x y :: r) σ
  | _ => none
def aIf (P : Int32 → Prop) (dec : ∀ x, Decidable (P x)) (pc : Nat) (off : Int) (lv st : List Value) (σ : aSt) : Option aR := match st with
  | .int x :: r => match (pc : Int) + off with
    | .ofNat t => @ite _ (P x) (dec x) (aGo t lv r σ) (aGo (pc + 3) lv r σ)
    | .negSucc _ => none
  | _ => none
def aIc (P : Int32 → Int32 → Prop) (dec : ∀ x y, Decidable (P x y)) (pc : Nat) (off : Int) (lv st : List Value) (σ : aSt) : Option aR := match st with
  | .int y :: .int x :: r => match (pc : Int) + off with
    | .ofNat t => @ite _ (P x y) (dec x y) (aGo t lv r σ) (aGo (pc + 3) lv r σ)
    | .negSucc _ => none
  | _ => none
/-- an array's int: in the store, or outside -/
def aIld (X : aXt) (S : List aSh) (σ : aSt) (a : Nat) (i : Int32) : Option Value := match S[a]? with
  | some (.inr (0, n)) => if ¬ (i < 0 ∨ n ≤ i.toNatClampNeg) then some (.int (aI (σ a i.toNatClampNeg))) else none
  | some _ => none
  | none => match X a with
    | some (n, f) => if ¬ (i < 0 ∨ n ≤ i.toNatClampNeg) then some (.int (f i.toNatClampNeg)) else none
    | none => none
def aLen (X : aXt) (S : List aSh) (a : Nat) : Option Value := match S[a]? with
  | some (.inr (_, n)) => some (.int (Int32.ofNat n))
  | some _ => none
  | none => match X a with
    | some (n, _) => some (.int (Int32.ofNat n))
    | none => none
def aCat : List Value → Nat
  | [] => 0
  | v :: r => v.category + aCat r
/-- n values off the stack, in the order in which they were pushed -/
def aTk : Nat → List Value → List Value → Option (List Value × List Value)
  | 0, acc, st => some (acc, st)
  | _ + 1, _, [] => none
  | n + 1, acc, v :: st => aTk n (v :: acc) st
def aOk (kind : Nat) (v : Value) : Bool := match kind, v with
  | 0, .int _ => true
  | 1, .int x => x == 0 || x == 1
  | 2, .long _ => true
  | 3, .ref _ => true
  | _, _ => false
def aGd (b : Bool) (o : Option aR) : Option aR := match b with
  | true => o
  | false => none
/-- the JDK's members that are one step -/
def aPrim (S : List aSh) (K : Nat) (pc : Nat) (lv st : List Value) (σ : aSt) : Option aR := match K with
  | 0 => match st with
    | .int y :: .int x :: r => aGd (Nat.ble (aCat r) 8) (aGo (pc + 3) lv (.int (if x < y then y else x) :: r) σ)
    | _ => none
  | 1 => match st with
    | .int y :: .int x :: r => aGd (Nat.ble (aCat r) 8) (aGo (pc + 3) lv (.int (if y < x then y else x) :: r) σ)
    | _ => none
  | 2 => match st with
    | .long y :: .long x :: r => aGd (Nat.ble (aCat r) 8) (aGo (pc + 3) lv (.long (if y < x then x else y) :: r) σ)
    | _ => none
  | 3 => match st with
    | .long y :: .long x :: r => aGd (Nat.ble (aCat r) 8) (aGo (pc + 3) lv (.long (if y < x then y else x) :: r) σ)
    | _ => none
  | 4 => match st with
    | .int n :: .int dp :: .ref a1 :: .int sp :: .ref a0 :: r => match S[a0]?, S[a1]? with
      | some (.inr (0, n0)), some (.inr (0, n1)) => if ((¬ sp < 0) ∧ (¬ dp < 0) ∧ (¬ n < 0)) ∧ (sp.toNatClampNeg + n.toNatClampNeg ≤ n0 ∧ dp.toNatClampNeg + n.toNatClampNeg ≤ n1) then aGd (Nat.ble (aCat r) 8) (aGo (pc + 3) lv r (fun b j => if b = a1 then (if dp.toNatClampNeg ≤ j ∧ j < dp.toNatClampNeg + n.toNatClampNeg then σ a0 (sp.toNatClampNeg + (j - dp.toNatClampNeg)) else σ b j) else σ b j)) else none
      | _, _ => none
    | _ => none
  | _ => none
def aIns (X : aXt) (S : List aSh) (M : aM) (pc : Nat) (ins : Instr) (lv st : List Value) (σ : aSt) : Option aR := match ins with
  | .iconst n => aGo (pc + 1) lv (.int (Int32.ofInt n) :: st) σ
  | .bipush n => aGo (pc + 2) lv (.int (Int8.ofInt n).toInt32 :: st) σ
  | .sipush n => aGo (pc + 3) lv (.int (Int16.ofInt n).toInt32 :: st) σ
  | .lconst n => aGo (pc + 1) lv (.long (Int64.ofNat (n : Nat)) :: st) σ
  | .ldc i => match aFd (aCs M).2.2.2 i with
    | some (.int v, _) => aGo (pc + 2) lv (.int v :: st) σ
    | some (.ref v, _) => aGd (Nat.ble 2000 v) (aGo (pc + 2) lv (.ref v :: st) σ)
    | _ => none
  | .ldc_w i => match aFd (aCs M).2.2.2 i with
    | some (.int v, _) => aGo (pc + 3) lv (.int v :: st) σ
    | some (.ref v, _) => aGd (Nat.ble 2000 v) (aGo (pc + 3) lv (.ref v :: st) σ)
    | _ => none
  | .ldc2_w i => match aFd (aCs M).2.2.2 i with
    | some (.long v, _) => aGo (pc + 3) lv (.long v :: st) σ
    | _ => none
  | .getstatic i => match aFd (aCs M).2.2.2 i with
    | some (.ref v, _) => aGd (Nat.blt v 2000) (aGo (pc + 3) lv (.ref v :: st) σ)
    | _ => none
  | .iload_n k => aLdI (pc + 1) lv k st σ
  | .iload k => aLdI (pc + 2) lv k st σ
  | .lload_n k => aLdL (pc + 1) lv k st σ
  | .lload k => aLdL (pc + 2) lv k st σ
  | .aload_n k => aLdR (pc + 1) lv k st σ
  | .aload k => aLdR (pc + 2) lv k st σ
  | .istore_n k => aStI (pc + 1) lv k st σ
  | .istore k => aStI (pc + 2) lv k st σ
  | .lstore_n k => aStL (pc + 1) lv k st σ
  | .lstore k => aStL (pc + 2) lv k st σ
  | .astore_n k => aStR (pc + 1) lv k st σ
  | .astore k => aStR (pc + 2) lv k st σ
  | .iinc i n => match lv[i]? with
    | some (.int x) => aPut1 (pc + 3) lv i (.int (x + Int32.ofInt n)) st σ
    | _ => none
  | .iadd => aII (fun x y => .int (x + y)) pc lv st σ
  | .isub => aII (fun x y => .int (x - y)) pc lv st σ
  | .imul => aII (fun x y => .int (x * y)) pc lv st σ
  | .iand => aII (fun x y => .int (x &&& y)) pc lv st σ
  | .ior => aII (fun x y => .int (x ||| y)) pc lv st σ
  | .ixor => aII (fun x y => .int (x ^^^ y)) pc lv st σ
  | .ishl => aII (fun x y => .int (x <<< (y &&& 31))) pc lv st σ
  | .ishr => aII (fun x y => .int (x >>> (y &&& 31))) pc lv st σ
  | .iushr => aII (fun x y => .int (x.toUInt32 >>> (y.toUInt32 &&& Int32.toUInt32 31)).toInt32) pc lv st σ
  | .idiv => aIID (fun x y => .int (x / y)) pc lv st σ
  | .irem => aIID (fun x y => .int (x - x / y * y)) pc lv st σ
  | .ladd => aLL (fun x y => .long (x + y)) pc lv st σ
  | .lsub => aLL (fun x y => .long (x - y)) pc lv st σ
  | .lmul => aLL (fun x y => .long (x * y)) pc lv st σ
  | .land => aLL (fun x y => .long (x &&& y)) pc lv st σ
  | .lor => aLL (fun x y => .long (x ||| y)) pc lv st σ
  | .ldiv => aLLD (fun x y => .long (x / y)) pc lv st σ
  | .lrem => aLLD (fun x y => .long (x - x / y * y)) pc lv st σ
  | .lshl => aLI (fun x y => .long (x <<< (y.toInt64 &&& 63))) pc lv st σ
  | .lushr => aLI (fun x y => .long (x.toUInt64 >>> (y.toInt64.toUInt64 &&& Int64.toUInt64 63)).toInt64) pc lv st σ
  | .lcmp => aLL (fun x y => .int (lg_cmp x y)) pc lv st σ
  | .i2l => aI1 (fun x => .long x.toInt64) pc lv st σ
  | .i2b => aI1 (fun x => .int x.toInt8.toInt32) pc lv st σ
  | .l2i => aL1 (fun x => .int x.toInt32) pc lv st σ
  | .pop => match st with
    | v :: r => match v.category == 1 with
      | true => aGo (pc + 1) lv r σ
      | false => none
    | _ => none
  | .dup => match st with
    | v :: r => match v.category == 1 with
      | true => aGo (pc + 1) lv (v :: v :: r) σ
      | false => none
    | _ => none
  | .dup2 => match st with
    | v :: u :: r => match v.category == 1 && u.category == 1 with
      | true => aGo (pc + 1) lv (v :: u :: v :: u :: r) σ
      | false => none
    | _ => none
  | .ifCond c off => match c with
    | .eq => aIf (fun x => x = 0) (fun _ => inferInstance) pc off lv st σ
    | .ne => aIf (fun x => ¬ x = 0) (fun _ => inferInstance) pc off lv st σ
    | .lt => aIf (fun x => x < 0) (fun _ => inferInstance) pc off lv st σ
    | .ge => aIf (fun x => 0 ≤ x) (fun _ => inferInstance) pc off lv st σ
    | .gt => aIf (fun x => 0 < x) (fun _ => inferInstance) pc off lv st σ
    | .le => aIf (fun x => x ≤ 0) (fun _ => inferInstance) pc off lv st σ
  | .if_icmp c off => match c with
    | .eq => aIc (fun x y => x = y) (fun _ _ => inferInstance) pc off lv st σ
    | .ne => aIc (fun x y => ¬ x = y) (fun _ _ => inferInstance) pc off lv st σ
    | .lt => aIc (fun x y => x < y) (fun _ _ => inferInstance) pc off lv st σ
    | .ge => aIc (fun x y => y ≤ x) (fun _ _ => inferInstance) pc off lv st σ
    | .gt => aIc (fun x y => y < x) (fun _ _ => inferInstance) pc off lv st σ
    | .le => aIc (fun x y => x ≤ y) (fun _ _ => inferInstance) pc off lv st σ
  | .goto off => aJp pc off lv st σ
  | .tableswitch dflt lo hi offs => match st with
    | .int x :: r => if x.toInt < lo ∨ hi < x.toInt then aJp pc dflt lv r σ else match offs[(x.toInt - lo).toNat]? with
      | some off => aJp pc off lv r σ
      | none => none
    | _ => none
  | .lookupswitch dflt ps => match st with
    | .int x :: r => if (ps.toList.zip (ps.toList.drop 1)).all (fun (a, next) => a.1 < next.1) = true then aJp pc (Op.lookupswitch.offset ps.toList dflt x.toInt) lv r σ else none
    | _ => none
  | .iaload => match st with
    | .int i :: .ref a :: r => match aIld X S σ a i with
      | some v => aGo (pc + 1) lv (v :: r) σ
      | none => none
    | _ => none
  | .baload => match st with
    | .int i :: .ref a :: r => match S[a]? with
      | some (.inr (t, n)) => if (t = 1 ∨ t = 2) ∧ ¬ (i < 0 ∨ n ≤ i.toNatClampNeg) then aGo (pc + 1) lv (.int (aI (σ a i.toNatClampNeg)) :: r) σ else none
      | _ => none
    | _ => none
  | .laload => match st with
    | .int i :: .ref a :: r => match S[a]? with
      | some (.inr (t, n)) => if t = 3 ∧ ¬ (i < 0 ∨ n ≤ i.toNatClampNeg) then aGo (pc + 1) lv (.long (aJ (σ a i.toNatClampNeg)) :: r) σ else none
      | _ => none
    | _ => none
  | .aaload => match st with
    | .int i :: .ref a :: r => match S[a]? with
      | some (.inr (t, n)) => if t = 4 ∧ ¬ (i < 0 ∨ n ≤ i.toNatClampNeg) then match σ a i.toNatClampNeg with
        | .ref b => aGo (pc + 1) lv (.ref b :: r) σ
        | _ => none
        else none
      | _ => none
    | _ => none
  | .iastore => match st with
    | .int x :: .int i :: .ref a :: r => match S[a]? with
      | some (.inr (t, n)) => if t = 0 ∧ ¬ (i < 0 ∨ n ≤ i.toNatClampNeg) then aGo (pc + 1) lv r (aUp σ a i.toNatClampNeg (.int x)) else none
      | _ => none
    | _ => none
  | .bastore => match st with
    | .int x :: .int i :: .ref a :: r => match S[a]? with
      | some (.inr (t, n)) => if (t = 1 ∨ t = 2) ∧ ¬ (i < 0 ∨ n ≤ i.toNatClampNeg) then aGo (pc + 1) lv r (aUp σ a i.toNatClampNeg (.int (vp_nar (if t = 1 then .byte else .boolean) x))) else none
      | _ => none
    | _ => none
  | .lastore => match st with
    | .long x :: .int i :: .ref a :: r => match S[a]? with
      | some (.inr (t, n)) => if t = 3 ∧ ¬ (i < 0 ∨ n ≤ i.toNatClampNeg) then aGo (pc + 1) lv r (aUp σ a i.toNatClampNeg (.long x)) else none
      | _ => none
    | _ => none
  | .arraylength => match st with
    | .ref a :: r => match aLen X S a with
      | some v => aGo (pc + 1) lv (v :: r) σ
      | none => none
    | _ => none
  | .getfield i => match st with
    | .ref a :: r => match aFd (aCs M).2.1 i with
      | some (ci, k, _, _) => match S[a]? with
        | some (.inl cj) => match Nat.beq ci cj with
          | true => aGo (pc + 3) lv (σ a k :: r) σ
          | false => none
        | _ => none
      | none => none
    | _ => none
  | .putfield i => match st with
    | v :: .ref a :: r => match aFd (aCs M).2.1 i with
      | some (ci, k, kd, _) => match S[a]? with
        | some (.inl cj) => match Nat.beq ci cj && aOk kd v with
          | true => aGo (pc + 3) lv r (aUp σ a k v)
          | false => none
        | _ => none
      | none => none
    | _ => none
  | .invokestatic i => match aFd (aCs M).2.2.1 i with
    | some (kd, K, n, _) => match Nat.beq kd 0 with
      | true => aPrim S K pc lv st σ
      | false => match aTk n [] st with
        | some (as, r) => match Nat.beq kd 1 && Nat.ble (aCat r) 8 with
          | true => some (.inr (.inr (K, as, (pc + 3, lv, r, σ))))
          | false => none
        | none => none
    | none => none
  | .invokevirtual i => match aFd (aCs M).2.2.1 i with
    | some (kd, K, n, _) => match aTk n [] st with
      | some (as, .ref a :: r) => match S[a]? with
        | some (.inl ci) => match Nat.beq kd (ci + 2) && Nat.ble (aCat r) 8 with
          | true => some (.inr (.inr (K, .ref a :: as, (pc + 3, lv, r, σ))))
          | false => none
        | _ => none
      | _ => none
    | none => none
  | .ireturn => match st with
    | [.int x] => match aRt M with
      | some .int => some (.inr (.inl (some (.int x), σ)))
      | some .boolean => if x = 0 ∨ x = 1 then some (.inr (.inl (some (.int x), σ))) else none
      | _ => none
    | _ => none
  | .lreturn => match st with
    | [.long x] => match aRt M with
      | some .long => some (.inr (.inl (some (.long x), σ)))
      | _ => none
    | _ => none
  | .return_ => match st, aRt M with
    | [], none => some (.inr (.inl (none, σ)))
    | _, _ => none
  | _ => none
def aStep (X : aXt) (S : List aSh) (M : aM) (pc : Nat) (lv st : List Value) (σ : aSt) : Option aR := match aFd (aCo M) pc with
  | some q => aIns X S M pc q.1 lv st σ
  | none => none
/-- a method's locals at its entry -/
def aArg : List Value → List Value
  | [] => []
  | v :: r => match v.category == 2 with
    | true => v :: .null :: aArg r
    | false => v :: aArg r
def aEnt (M : aM) (as : List Value) : List Value := aArg as ++ List.replicate (aML M - (aArg as).length) .null
def aExec (X : aXt) (S : List aSh) (P : List aM) : Nat → Nat → aM → Nat → List Value → List Value → aSt → Option (Option Value × aSt)
  | 0, _, _, _, _, _, _ => none
  | f + 1, d, M, pc, lv, st, σ => match aStep X S M pc lv st σ with
    | none => none
    | some (.inl (pc', lv', st', σ')) => aExec X S P f d M pc' lv' st' σ'
    | some (.inr (.inl r)) => some r
    | some (.inr (.inr (K, as, (pc', lv', st', σ')))) => match d with
      | 0 => none
      | d' + 1 => match P[K]? with
        | none => none
        | some M' => match Nat.ble (aArg as).length (aML M') with
          | false => none
          | true => match aExec X S P f d' M' 0 (aEnt M' as) [] σ' with
            | none => none
            | some (v, σ2) => aExec X S P f (d' + 1) M pc' lv' (v.toList ++ st') σ2
