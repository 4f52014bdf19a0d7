/-! THE PURE MACHINE: runs with three methods told ahead (texts, floorDiv); a memory of whole numbers; what a stretch of code asks for, as a proposition -/
def oTx (r : Nat) : List Int := match r with
  | 2000 => [121]
  | 2001 => [118, 107, 115, 100, 110, 112, 99, 105]
  | 2002 => [118, 114, 100]
  | 2003 => [97, 98, 99, 100, 101]
  | 2004 => [97, 98, 99, 100, 101, 107]
  | _ => []
def bAm : List Int → Int → Int
  | [], _ => 0
  | b :: l, c => if c = b then 1 else bAm l c
def bPl : List Int → Int → Int → Int
  | [], _, _ => -1
  | b :: l, c, k => if c = b then k else bPl l c (k + 1)
def oOr (K : Nat) (as : List Value) : Option Value := match K with
  | 13 => match as with
    | [.int s] => some (.int (Int32.ofInt ((s + 999999).toInt / 1000000)))
    | _ => none
  | 175 => match as with
    | [.ref r, .int c] => match Nat.ble 2000 r && Nat.ble r 2004 with
      | true => some (.int (Int32.ofInt (bAm (oTx r) c.toInt)))
      | false => none
    | _ => none
  | 198 => match as with
    | [.ref r, .int c] => match Nat.ble 2000 r && Nat.ble r 2004 with
      | true => some (.int (Int32.ofInt (bPl (oTx r) c.toInt 0)))
      | false => none
    | _ => none
  | _ => none
def oExec (X : aXt) (S : List aSh) (P : List aM) : Nat → Nat → aM → Nat → List Value → List Value → aSt → Option (Option Value × aSt)
  | 0, _, _, _, _, _, _ => none
  | f + 1, d, M, pc, lv, st, σ => match aStep X S M pc lv st σ with
    | none => none
    | some (.inl (pc', lv', st', σ')) => oExec X S P f d M pc' lv' st' σ'
    | some (.inr (.inl r)) => some r
    | some (.inr (.inr (K, as, (pc', lv', st', σ')))) => match d with
      | 0 => none
      | d' + 1 => match oOr K as with
        | some v => oExec X S P f (d' + 1) M pc' lv' (v :: st') σ'
        | none => match P[K]? with
          | none => none
          | some M' => match Nat.ble (aArg as).length (aML M') with
            | false => none
            | true => match oExec X S P f d' M' 0 (aEnt M' as) [] σ' with
              | none => none
              | some (v, σ2) => oExec X S P f (d' + 1) M pc' lv' (v.toList ++ st') σ2
theorem oExec_mono {X : aXt} {S : List aSh} {P : List aM} : ∀ (f g d : Nat) (M : aM) (pc : Nat) (lv st : List Value) (σ : aSt) (r : Option Value × aSt), f ≤ g → oExec X S P f d M pc lv st σ = some r → oExec X S P g d M pc lv st σ = some r := by
  intro f
  induction f with
  | zero => intro g d M pc lv st σ r _ h; cases h
  | succ f ih =>
    intro g d M pc lv st σ r hg h
    cases g with
    | zero => omega
    | succ g =>
      have hg : f ≤ g := by omega
      rw [oExec] at h ⊢
      cases hs : aStep X S M pc lv st σ with
      | none => rw [hs] at h; cases h
      | some q =>
        rw [hs] at h
        match q, h with
        | .inl (pc', lv', st', σ'), h => exact ih g d M pc' lv' st' σ' r hg h
        | .inr (.inl r'), h => exact h
        | .inr (.inr (K, as, (pc', lv', st', σ'))), h =>
          simp only at h ⊢
          match d, h with
          | 0, h => cases h
          | d' + 1, h =>
            simp only at h ⊢
            cases ho : oOr K as with
            | some v =>
              rw [ho] at h
              simp only at h ⊢
              exact ih g (d' + 1) M pc' lv' (v :: st') σ' r hg h
            | none =>
              rw [ho] at h
              simp only at h ⊢
              cases hP : P[K]? with
              | none => rw [hP] at h; cases h
              | some M' =>
                rw [hP] at h
                simp only at h ⊢
                cases hb : Nat.ble (aArg as).length (aML M') with
                | false => rw [hb] at h; cases h
                | true =>
                  rw [hb] at h
                  simp only at h ⊢
                  cases he : oExec X S P f d' M' 0 (aEnt M' as) [] σ' with
                  | none => rw [he] at h; cases h
                  | some q2 =>
                    rw [he] at h
                    rw [ih g d' M' 0 (aEnt M' as) [] σ' q2 hg he]
                    match q2, h with
                    | (v, σ2), h => exact ih g (d' + 1) M pc' lv' (v.toList ++ st') σ2 r hg h
/-! values, memory -/
abbrev bV : Type := Int ⊕ (Nat ⊕ (Int ⊕ (Unit ⊕ (Nat × Int))))
abbrev vi (z : Int) : bV := .inl z
abbrev vr (a : Nat) : bV := .inr (.inl a)
abbrev vl (z : Int) : bV := .inr (.inr (.inl z))
abbrev vn : bV := .inr (.inr (.inr (.inl ())))
abbrev vw (a : Nat) (i : Int) : bV := .inr (.inr (.inr (.inr (a, i))))
abbrev bMm : Type := (Bool × Bool × Bool) × (Nat → Int → Int)
abbrev bPo : Type := Int → bMm → Prop
abbrev inR (z : Int) : Prop := -2147483648 ≤ z ∧ z ≤ 2147483647
abbrev inL (z : Int) : Prop := -9223372036854775808 ≤ z ∧ z ≤ 9223372036854775807
def bVal (v : bV) : Value := match v with
  | .inl z => .int (Int32.ofInt z)
  | .inr (.inl a) => .ref a
  | .inr (.inr (.inl z)) => .long (Int64.ofInt z)
  | .inr (.inr (.inr (.inl _))) => .null
  | .inr (.inr (.inr (.inr (a, i)))) => .ref (a + 1 + i.toNat)
/-- rows of rows: the outer row, how many, how long -/
def bOut (a : Nat) : Bool := Nat.beq a 7 || (Nat.beq a 17 || (Nat.beq a 25 || Nat.beq a 37))
def bRow (a : Nat) : Bool := (Nat.ble 8 a && Nat.ble a 13) || ((Nat.ble 18 a && Nat.ble a 23) || ((Nat.ble 26 a && Nat.ble a 30) || (Nat.ble 38 a && Nat.ble a 77)))
def bAd (a : Nat) : Nat × Int := match bRow a with
  | false => (a, 0)
  | true => match Nat.ble a 13 with
    | true => (7, ((a - 8 : Nat) : Int) * 1000)
    | false => match Nat.ble a 23 with
      | true => (17, ((a - 18 : Nat) : Int) * 1000)
      | false => match Nat.ble a 30 with
        | true => (25, ((a - 26 : Nat) : Int) * 1000)
        | false => (37, ((a - 38 : Nat) : Int) * 1000)
def bMe (μ : bMm) (a : Nat) (k : Int) : Int := μ.2 (bAd a).1 ((bAd a).2 + k)
def bRf (bt : Bool × Bool × Bool) (a k r : Nat) : Nat := match a with
  | 0 => match k with
    | 10 => match bt.1 with
      | false => 100
      | true => 110
    | 11 => match bt.2.1 with
      | false => 100
      | true => 110
    | _ => r
  | 120 => match k with
    | 5 => match bt.2.2 with
      | false => 121
      | true => 122
    | _ => r
  | _ => r
def bRs (bt : Bool × Bool × Bool) (a k b : Nat) : Option (Bool × Bool × Bool) := match a with
  | 0 => match k with
    | 10 => match b with
      | 100 => some (false, bt.2)
      | 110 => some (true, bt.2)
      | _ => none
    | 11 => match b with
      | 100 => some (bt.1, false, bt.2.2)
      | 110 => some (bt.1, true, bt.2.2)
      | _ => none
    | _ => none
  | 120 => match k with
    | 5 => match b with
      | 121 => some (bt.1, bt.2.1, false)
      | 122 => some (bt.1, bt.2.1, true)
      | _ => none
    | _ => none
  | _ => none
def bF (a k : Nat) : Value := (aF0.getD a []).getD k .null
def bσ (μ : bMm) : aSt := fun a k => match aS[a]? with
  | none => .null
  | some (.inr (t, _)) => match t with
    | 4 => aI0 a k
    | 3 => .long (Int64.ofInt (μ.2 a k))
    | _ => .int (Int32.ofInt (bMe μ a k))
  | some (.inl _) => match bF a k with
    | .int _ => .int (Int32.ofInt (μ.2 a k))
    | .long _ => .long (Int64.ofInt (μ.2 a k))
    | .ref r => .ref (bRf μ.1 a k r)
    | v => v
def up (m : Nat → Int → Int) (a : Nat) (k z : Int) : Nat → Int → Int := fun b j => if b = a then (if j = k then z else m b j) else m b j
def bUp (μ : bMm) (a : Nat) (k z : Int) : bMm := (μ.1, up μ.2 a k z)
def cp (m : Nat → Int → Int) (a1 : Nat) (o1 : Int) (a0 : Nat) (o0 n : Int) : Nat → Int → Int := fun b j => if b = a1 then (if o1 ≤ j ∧ j < o1 + n then m a0 (o0 + (j - o1)) else m b j) else m b j
def bCp (μ : bMm) (a1 : Nat) (o1 : Int) (a0 : Nat) (o0 n : Int) : bMm := (μ.1, cp μ.2 a1 o1 a0 o0 n)
/-! operators that aren't plain on whole numbers -/
def bAnd (x y : Int) : Int := (Int32.ofInt x &&& Int32.ofInt y).toInt
def bOrr (x y : Int) : Int := (Int32.ofInt x ||| Int32.ofInt y).toInt
def bXor (x y : Int) : Int := (Int32.ofInt x ^^^ Int32.ofInt y).toInt
def bShl (x y : Int) : Int := (Int32.ofInt x <<< (Int32.ofInt y &&& 31)).toInt
def bShr (x y : Int) : Int := (Int32.ofInt x >>> (Int32.ofInt y &&& 31)).toInt
def bUsh (x y : Int) : Int := ((Int32.ofInt x).toUInt32 >>> ((Int32.ofInt y).toUInt32 &&& Int32.toUInt32 31)).toInt32.toInt
def bByt (x : Int) : Int := (Int32.ofInt x).toInt8.toInt32.toInt
def bNar (t : Nat) (x : Int) : Int := (vp_nar (if t = 1 then .byte else .boolean) (Int32.ofInt x)).toInt
def lAnd (x y : Int) : Int := (Int64.ofInt x &&& Int64.ofInt y).toInt
def lOrr (x y : Int) : Int := (Int64.ofInt x ||| Int64.ofInt y).toInt
def lShl (x y : Int) : Int := (Int64.ofInt x <<< ((Int32.ofInt y).toInt64 &&& 63)).toInt
def lUsh (x y : Int) : Int := ((Int64.ofInt x).toUInt64 >>> ((Int32.ofInt y).toInt64.toUInt64 &&& Int64.toUInt64 63)).toInt64.toInt
/-! what stands outside of the store: the script, static rows -/
def bStL (a : Nat) : List Int32 := match a with
  | 1001 => [1, 10, 100, 1000, 10000, 100000, 1000000]
  | 1002 => [0, 1, 0]
  | 1003 => [99, 99, 8]
  | _ => []
def bX (xs : List Int32) : aXt := fun a => match a with
  | 1000 => some (xs.length, fun j => xs.getD j 0)
  | 1001 => some (7, fun j => (bStL 1001).getD j 0)
  | 1002 => some (3, fun j => (bStL 1002).getD j 0)
  | 1003 => some (3, fun j => (bStL 1003).getD j 0)
  | _ => none
def bXn (xs : List Int32) (a : Nat) : Option Int := match a with
  | 1000 => some (xs.length : Int)
  | 1001 => some 7
  | 1002 => some 3
  | 1003 => some 3
  | _ => none
def bXv (xs : List Int32) (a : Nat) (i : Int) : Int := match a with
  | 1000 => (xs.getD i.toNat 0).toInt
  | _ => ((bStL a).getD i.toNat 0).toInt
/-! runs -/
def bArg : List bV → List bV
  | [] => []
  | v :: r => match v with
    | .inr (.inr (.inl z)) => vl z :: vn :: bArg r
    | v => v :: bArg r
def bEnt (M : aM) (as : List bV) : List bV := bArg as ++ List.replicate (aML M - (bArg as).length) vn
def bRes (M : aM) (v : Option Value) (z : Int) : Prop := match aRt M with
  | none => v = none
  | some _ => v = some (.int (Int32.ofInt z))
def bGo (xs : List Int32) (d : Nat) (M : aM) (pc : Nat) (lv st : List bV) (μ : bMm) (Q : bPo) : Prop :=
  ∃ (f : Nat) (v : Option Value) (z : Int) (μ' : bMm), oExec (bX xs) aS aProg f d M pc (lv.map bVal) (st.map bVal) (bσ μ) = some (v, bσ μ') ∧ bRes M v z ∧ Q z μ'
def bC (xs : List Int32) (rk : Nat) (K : Nat) (as : List bV) (μ : bMm) (Q : bPo) : Prop :=
  ∀ (M : aM), aProg[K]? = some M → ∀ d, rk ≤ d → bGo xs d M 0 (bEnt M as) [] μ Q
/-! an instruction -/
def bCt (v : bV) : Bool := match v with
  | .inr (.inr (.inl _)) => false
  | _ => true
def bNoL (lv : List bV) : Nat → Bool
  | 0 => true
  | i + 1 => match lv[i]? with
    | some v => bCt v
    | none => true
def bCat : List bV → Nat
  | [] => 0
  | v :: r => match bCt v with
    | true => 1 + bCat r
    | false => 2 + bCat r
def bTk : Nat → List bV → List bV → Option (List bV × List bV)
  | 0, acc, st => some (acc, st)
  | _ + 1, _, [] => none
  | n + 1, acc, v :: st => bTk n (v :: acc) st
def wJ (nx : Nat → Prop) (pc : Nat) (off : Int) : Prop := match (pc : Int) + off with
  | .ofNat t => nx t
  | .negSucc _ => False
def wP1 (nx : List bV → Prop) (lv : List bV) (i : Nat) (v : bV) : Prop := match Nat.blt i lv.length && bNoL lv i with
  | true => nx (lv.set i v)
  | false => False
def wP2 (nx : List bV → Prop) (lv : List bV) (i : Nat) (v : bV) : Prop := match Nat.blt (i + 1) lv.length && bNoL lv i with
  | true => nx ((lv.set i v).set (i + 1) vn)
  | false => False
def wLi (nx : bV → Prop) (lv : List bV) (i : Nat) : Prop := match lv[i]? with
  | some (.inl z) => nx (.inl z)
  | _ => False
def wLl (nx : bV → Prop) (lv : List bV) (i : Nat) : Prop := match lv[i]? with
  | some (.inr (.inr (.inl z))) => nx (.inr (.inr (.inl z)))
  | _ => False
def wLr (nx : bV → Prop) (lv : List bV) (i : Nat) : Prop := match lv[i]? with
  | some (.inr (.inl a)) => nx (.inr (.inl a))
  | some (.inr (.inr (.inr (.inr q)))) => nx (.inr (.inr (.inr (.inr q))))
  | _ => False
def wII (nx : Int → Int → List bV → Prop) (st : List bV) : Prop := match st with
  | .inl y :: .inl x :: r => nx x y r
  | _ => False
def wLL (nx : Int → Int → List bV → Prop) (st : List bV) : Prop := match st with
  | .inr (.inr (.inl y)) :: .inr (.inr (.inl x)) :: r => nx x y r
  | _ => False
def wLI (nx : Int → Int → List bV → Prop) (st : List bV) : Prop := match st with
  | .inl y :: .inr (.inr (.inl x)) :: r => nx x y r
  | _ => False
def wLd (xs : List Int32) (μ : bMm) (ty : Nat → Bool) (v : bV) (i : Int) (κ : Int → Prop) : Prop := match v with
  | .inr (.inl a) => match bRow a with
    | true => False
    | false => match aS[a]? with
      | some (.inr (t, n)) => match ty t with
        | true => (0 ≤ i ∧ i < (n : Int)) ∧ κ (μ.2 a i)
        | false => False
      | some (.inl _) => False
      | none => match ty 0 with
        | true => match bXn xs a with
          | some n => (0 ≤ i ∧ i < n) ∧ κ (bXv xs a i)
          | none => False
        | false => False
  | .inr (.inr (.inr (.inr (a, r)))) => match ty 0 && bOut a with
    | true => match aS[a]? with
      | some (.inr (_, n)) => match aS[a + 1]? with
        | some (.inr (_, w)) => ((0 ≤ r ∧ r < (n : Int)) ∧ 0 ≤ i ∧ i < (w : Int)) ∧ κ (μ.2 a (r * 1000 + i))
        | _ => False
      | _ => False
    | false => False
  | _ => False
def wSt (μ : bMm) (ty : Nat → Bool) (v : bV) (i : Int) (z : Nat → Int) (κ : bMm → Prop) : Prop := match v with
  | .inr (.inl a) => match bRow a with
    | true => False
    | false => match aS[a]? with
      | some (.inr (t, n)) => match ty t with
        | true => (0 ≤ i ∧ i < (n : Int)) ∧ κ (bUp μ a i (z t))
        | false => False
      | _ => False
  | .inr (.inr (.inr (.inr (a, r)))) => match ty 0 && bOut a with
    | true => match aS[a]? with
      | some (.inr (_, n)) => match aS[a + 1]? with
        | some (.inr (_, w)) => ((0 ≤ r ∧ r < (n : Int)) ∧ 0 ≤ i ∧ i < (w : Int)) ∧ κ (bUp μ a (r * 1000 + i) (z 0))
        | _ => False
      | _ => False
    | false => False
  | _ => False
/-- an int row: where it lies, how long -/
def wAr (v : bV) (κ : Nat → Int → Int → Prop) : Prop := match v with
  | .inr (.inl a) => match bRow a with
    | true => False
    | false => match aS[a]? with
      | some (.inr (0, n)) => κ a 0 (n : Int)
      | _ => False
  | .inr (.inr (.inr (.inr (a, r)))) => match bOut a with
    | true => match aS[a]? with
      | some (.inr (_, n)) => match aS[a + 1]? with
        | some (.inr (_, w)) => (0 ≤ r ∧ r < (n : Int)) ∧ κ a (r * 1000) (w : Int)
        | _ => False
      | _ => False
    | false => False
  | _ => False
def wLn (xs : List Int32) (v : bV) (κ : Int → Prop) : Prop := match v with
  | .inr (.inl a) => match aS[a]? with
    | some (.inr (_, n)) => κ (n : Int)
    | some (.inl _) => False
    | none => match bXn xs a with
      | some n => κ n
      | none => False
  | .inr (.inr (.inr (.inr (a, r)))) => match bOut a with
    | true => match aS[a]? with
      | some (.inr (_, n)) => match aS[a + 1]? with
        | some (.inr (_, w)) => (0 ≤ r ∧ r < (n : Int)) ∧ κ (w : Int)
        | _ => False
      | _ => False
    | false => False
  | _ => False
def bFl (μ : bMm) (a k : Nat) (κ : bV → Prop) : Prop := match bF a k with
  | .int _ => κ (.inl (μ.2 a k))
  | .long _ => κ (.inr (.inr (.inl (μ.2 a k))))
  | .ref r => κ (.inr (.inl (bRf μ.1 a k r)))
  | _ => False
def bPf (μ : bMm) (a k kd : Nat) (v : bV) (κ : bMm → Prop) : Prop := match kd with
  | 0 => match v with
    | .inl z => match bF a k with
      | .int _ => κ (bUp μ a k z)
      | _ => False
    | _ => False
  | 1 => match v with
    | .inl z => match bF a k with
      | .int _ => (z = 0 ∨ z = 1) ∧ κ (bUp μ a k z)
      | _ => False
    | _ => False
  | 2 => match v with
    | .inr (.inr (.inl z)) => match bF a k with
      | .long _ => κ (bUp μ a k z)
      | _ => False
    | _ => False
  | 3 => match v with
    | .inr (.inl b) => match bRs μ.1 a k b with
      | some bt => κ (bt, μ.2)
      | none => False
    | _ => False
  | _ => False
def wSwT (nx : Nat → Prop) (pc : Nat) (x : Int) : Int → List Int → Prop
  | _, [] => True
  | k, off :: r => (x = k → wJ nx pc off) ∧ wSwT nx pc x (k + 1) r
def wSwL (nx : Nat → Prop) (pc : Nat) (x : Int) (dflt : Int) : List (Int × Int) → Prop
  | [] => wJ nx pc dflt
  | q :: r => (x = q.1 → wJ nx pc q.2) ∧ (¬ x = q.1 → wSwL nx pc x dflt r)
def bPush (K : Nat) (z : Int) (st : List bV) : List bV := match aProg[K]? with
  | some M => match aRt M with
    | none => st
    | some _ => .inl z :: st
  | none => st
/-- the JDK's members that are one step -/
def wPr (nx : List bV → bMm → Prop) (K : Nat) (st : List bV) (μ : bMm) : Prop := match K with
  | 0 => match st with
    | .inl y :: .inl x :: r => match Nat.ble (bCat r) 8 with
      | true => (inR x ∧ inR y) ∧ nx (.inl (max x y) :: r) μ
      | false => False
    | _ => False
  | 1 => match st with
    | .inl y :: .inl x :: r => match Nat.ble (bCat r) 8 with
      | true => (inR x ∧ inR y) ∧ nx (.inl (min x y) :: r) μ
      | false => False
    | _ => False
  | 2 => match st with
    | .inr (.inr (.inl y)) :: .inr (.inr (.inl x)) :: r => match Nat.ble (bCat r) 8 with
      | true => (inL x ∧ inL y) ∧ nx (.inr (.inr (.inl (max x y))) :: r) μ
      | false => False
    | _ => False
  | 3 => match st with
    | .inr (.inr (.inl y)) :: .inr (.inr (.inl x)) :: r => match Nat.ble (bCat r) 8 with
      | true => (inL x ∧ inL y) ∧ nx (.inr (.inr (.inl (min x y))) :: r) μ
      | false => False
    | _ => False
  | 4 => match st with
    | .inl n :: .inl dp :: v1 :: .inl sp :: v0 :: r => match Nat.ble (bCat r) 8 with
      | true => wAr v0 (fun A0 b0 n0 => wAr v1 (fun A1 b1 n1 => ((0 ≤ sp ∧ 0 ≤ dp ∧ 0 ≤ n) ∧ sp + n ≤ n0 ∧ dp + n ≤ n1) ∧ nx r (bCp μ A1 (b1 + dp) A0 (b0 + sp) n)))
      | false => False
    | _ => False
  | _ => False
def wI (xs : List Int32) (M : aM) (nx : Nat → List bV → List bV → bMm → Prop) (cl : Nat → List bV → bMm → bPo → Prop) (rt : bPo) (pc : Nat) (ins : Instr) (nin : Option (Instr × Nat)) (lv st : List bV) (μ : bMm) : Prop := match ins with
  | .iconst n => nx (pc + 1) lv (.inl n :: st) μ
  | .bipush n => match decide (-128 ≤ n ∧ n ≤ 127) with
    | true => nx (pc + 2) lv (.inl n :: st) μ
    | false => False
  | .sipush n => match decide (-32768 ≤ n ∧ n ≤ 32767) with
    | true => nx (pc + 3) lv (.inl n :: st) μ
    | false => False
  | .lconst n => nx (pc + 1) lv (.inr (.inr (.inl ((n : Nat) : Int))) :: st) μ
  | .ldc i => match aFd (aCs M).2.2.2 i with
    | some (.int v, _) => nx (pc + 2) lv (.inl v.toInt :: st) μ
    | some (.ref v, _) => match Nat.ble 2000 v with
      | true => nx (pc + 2) lv (.inr (.inl v) :: st) μ
      | false => False
    | _ => False
  | .ldc_w i => match aFd (aCs M).2.2.2 i with
    | some (.int v, _) => nx (pc + 3) lv (.inl v.toInt :: st) μ
    | some (.ref v, _) => match Nat.ble 2000 v with
      | true => nx (pc + 3) lv (.inr (.inl v) :: st) μ
      | false => False
    | _ => False
  | .ldc2_w i => match aFd (aCs M).2.2.2 i with
    | some (.long v, _) => nx (pc + 3) lv (.inr (.inr (.inl v.toInt)) :: st) μ
    | _ => False
  | .getstatic i => match aFd (aCs M).2.2.2 i with
    | some (.ref v, _) => match Nat.blt v 2000 with
      | true => nx (pc + 3) lv (.inr (.inl v) :: st) μ
      | false => False
    | _ => False
  | .iload_n k => wLi (fun v => nx (pc + 1) lv (v :: st) μ) lv k
  | .iload k => wLi (fun v => nx (pc + 2) lv (v :: st) μ) lv k
  | .lload_n k => wLl (fun v => nx (pc + 1) lv (v :: st) μ) lv k
  | .lload k => wLl (fun v => nx (pc + 2) lv (v :: st) μ) lv k
  | .aload_n k => wLr (fun v => nx (pc + 1) lv (v :: st) μ) lv k
  | .aload k => wLr (fun v => nx (pc + 2) lv (v :: st) μ) lv k
  | .istore_n k => match st with
    | .inl z :: r => wP1 (fun lv' => nx (pc + 1) lv' r μ) lv k (.inl z)
    | _ => False
  | .istore k => match st with
    | .inl z :: r => wP1 (fun lv' => nx (pc + 2) lv' r μ) lv k (.inl z)
    | _ => False
  | .lstore_n k => match st with
    | .inr (.inr (.inl z)) :: r => wP2 (fun lv' => nx (pc + 1) lv' r μ) lv k (.inr (.inr (.inl z)))
    | _ => False
  | .lstore k => match st with
    | .inr (.inr (.inl z)) :: r => wP2 (fun lv' => nx (pc + 2) lv' r μ) lv k (.inr (.inr (.inl z)))
    | _ => False
  | .astore_n k => match st with
    | .inr (.inl a) :: r => wP1 (fun lv' => nx (pc + 1) lv' r μ) lv k (.inr (.inl a))
    | .inr (.inr (.inr (.inr q))) :: r => wP1 (fun lv' => nx (pc + 1) lv' r μ) lv k (.inr (.inr (.inr (.inr q))))
    | _ => False
  | .astore k => match st with
    | .inr (.inl a) :: r => wP1 (fun lv' => nx (pc + 2) lv' r μ) lv k (.inr (.inl a))
    | .inr (.inr (.inr (.inr q))) :: r => wP1 (fun lv' => nx (pc + 2) lv' r μ) lv k (.inr (.inr (.inr (.inr q))))
    | _ => False
  | .iinc i n => wLi (fun v => match v with
    | .inl x => wP1 (fun lv' => nx (pc + 3) lv' st μ) lv i (.inl (x + n))
    | _ => False) lv i
  | .iadd => wII (fun x y r => nx (pc + 1) lv (.inl (x + y) :: r) μ) st
  | .isub => wII (fun x y r => nx (pc + 1) lv (.inl (x - y) :: r) μ) st
  | .imul => wII (fun x y r => nx (pc + 1) lv (.inl (x * y) :: r) μ) st
  | .iand => wII (fun x y r => nx (pc + 1) lv (.inl (bAnd x y) :: r) μ) st
  | .ior => wII (fun x y r => nx (pc + 1) lv (.inl (bOrr x y) :: r) μ) st
  | .ixor => wII (fun x y r => nx (pc + 1) lv (.inl (bXor x y) :: r) μ) st
  | .ishl => wII (fun x y r => nx (pc + 1) lv (.inl (bShl x y) :: r) μ) st
  | .ishr => wII (fun x y r => nx (pc + 1) lv (.inl (bShr x y) :: r) μ) st
  | .iushr => wII (fun x y r => nx (pc + 1) lv (.inl (bUsh x y) :: r) μ) st
  | .idiv => wII (fun x y r => (inR x ∧ inR y ∧ ¬ y = 0) ∧ nx (pc + 1) lv (.inl (x.tdiv y) :: r) μ) st
  | .irem => wII (fun x y r => (inR x ∧ inR y ∧ ¬ y = 0) ∧ nx (pc + 1) lv (.inl (x.tmod y) :: r) μ) st
  | .ladd => wLL (fun x y r => nx (pc + 1) lv (.inr (.inr (.inl (x + y))) :: r) μ) st
  | .lsub => wLL (fun x y r => nx (pc + 1) lv (.inr (.inr (.inl (x - y))) :: r) μ) st
  | .lmul => wLL (fun x y r => nx (pc + 1) lv (.inr (.inr (.inl (x * y))) :: r) μ) st
  | .land => wLL (fun x y r => nx (pc + 1) lv (.inr (.inr (.inl (lAnd x y))) :: r) μ) st
  | .lor => wLL (fun x y r => nx (pc + 1) lv (.inr (.inr (.inl (lOrr x y))) :: r) μ) st
  | .ldiv => wLL (fun x y r => (inL x ∧ inL y ∧ ¬ y = 0) ∧ nx (pc + 1) lv (.inr (.inr (.inl (x.tdiv y))) :: r) μ) st
  | .lrem => wLL (fun x y r => (inL x ∧ inL y ∧ ¬ y = 0) ∧ nx (pc + 1) lv (.inr (.inr (.inl (x.tmod y))) :: r) μ) st
  | .lshl => wLI (fun x y r => nx (pc + 1) lv (.inr (.inr (.inl (lShl x y))) :: r) μ) st
  | .lushr => wLI (fun x y r => nx (pc + 1) lv (.inr (.inr (.inl (lUsh x y))) :: r) μ) st
  | .lcmp => wLL (fun x y r => match nin with
    | some (.ifCond c off, _) => (inL x ∧ inL y) ∧ match c with
      | .eq => (x = y → wJ (fun t => nx t lv r μ) (pc + 1) off) ∧ (¬ x = y → nx (pc + 4) lv r μ)
      | .ne => (¬ x = y → wJ (fun t => nx t lv r μ) (pc + 1) off) ∧ (x = y → nx (pc + 4) lv r μ)
      | .lt => (x < y → wJ (fun t => nx t lv r μ) (pc + 1) off) ∧ (y ≤ x → nx (pc + 4) lv r μ)
      | .ge => (y ≤ x → wJ (fun t => nx t lv r μ) (pc + 1) off) ∧ (x < y → nx (pc + 4) lv r μ)
      | .gt => (y < x → wJ (fun t => nx t lv r μ) (pc + 1) off) ∧ (x ≤ y → nx (pc + 4) lv r μ)
      | .le => (x ≤ y → wJ (fun t => nx t lv r μ) (pc + 1) off) ∧ (y < x → nx (pc + 4) lv r μ)
    | _ => False) st
  | .i2l => match st with
    | .inl x :: r => inR x ∧ nx (pc + 1) lv (.inr (.inr (.inl x)) :: r) μ
    | _ => False
  | .i2b => match st with
    | .inl x :: r => nx (pc + 1) lv (.inl (bByt x) :: r) μ
    | _ => False
  | .l2i => match st with
    | .inr (.inr (.inl x)) :: r => nx (pc + 1) lv (.inl x :: r) μ
    | _ => False
  | .pop => match st with
    | v :: r => match bCt v with
      | true => nx (pc + 1) lv r μ
      | false => False
    | _ => False
  | .dup => match st with
    | v :: r => match bCt v with
      | true => nx (pc + 1) lv (v :: v :: r) μ
      | false => False
    | _ => False
  | .dup2 => match st with
    | v :: u :: r => match bCt v && bCt u with
      | true => nx (pc + 1) lv (v :: u :: v :: u :: r) μ
      | false => False
    | _ => False
  | .ifCond c off => match st with
    | .inl x :: r => inR x ∧ match c with
      | .eq => (x = 0 → wJ (fun t => nx t lv r μ) pc off) ∧ (¬ x = 0 → nx (pc + 3) lv r μ)
      | .ne => (¬ x = 0 → wJ (fun t => nx t lv r μ) pc off) ∧ (x = 0 → nx (pc + 3) lv r μ)
      | .lt => (x < 0 → wJ (fun t => nx t lv r μ) pc off) ∧ (0 ≤ x → nx (pc + 3) lv r μ)
      | .ge => (0 ≤ x → wJ (fun t => nx t lv r μ) pc off) ∧ (x < 0 → nx (pc + 3) lv r μ)
      | .gt => (0 < x → wJ (fun t => nx t lv r μ) pc off) ∧ (x ≤ 0 → nx (pc + 3) lv r μ)
      | .le => (x ≤ 0 → wJ (fun t => nx t lv r μ) pc off) ∧ (0 < x → nx (pc + 3) lv r μ)
    | _ => False
  | .if_icmp c off => wII (fun x y r => (inR x ∧ inR y) ∧ match c with
      | .eq => (x = y → wJ (fun t => nx t lv r μ) pc off) ∧ (¬ x = y → nx (pc + 3) lv r μ)
      | .ne => (¬ x = y → wJ (fun t => nx t lv r μ) pc off) ∧ (x = y → nx (pc + 3) lv r μ)
      | .lt => (x < y → wJ (fun t => nx t lv r μ) pc off) ∧ (y ≤ x → nx (pc + 3) lv r μ)
      | .ge => (y ≤ x → wJ (fun t => nx t lv r μ) pc off) ∧ (x < y → nx (pc + 3) lv r μ)
      | .gt => (y < x → wJ (fun t => nx t lv r μ) pc off) ∧ (x ≤ y → nx (pc + 3) lv r μ)
      | .le => (x ≤ y → wJ (fun t => nx t lv r μ) pc off) ∧ (y < x → nx (pc + 3) lv r μ)) st
  | .goto off => wJ (fun t => nx t lv st μ) pc off
  | .tableswitch dflt lo hi offs => match st with
    | .inl x :: r => inR x ∧ ((x < lo ∨ hi < x) → wJ (fun t => nx t lv r μ) pc dflt) ∧ wSwT (fun t => nx t lv r μ) pc x lo offs.toList
    | _ => False
  | .lookupswitch dflt ps => match st with
    | .inl x :: r => match (ps.toList.zip (ps.toList.drop 1)).all (fun (a, next) => a.1 < next.1) with
      | true => inR x ∧ wSwL (fun t => nx t lv r μ) pc x dflt ps.toList
      | false => False
    | _ => False
  | .iaload => match st with
    | .inl i :: v :: r => wLd xs μ (fun t => Nat.beq t 0) v i (fun z => nx (pc + 1) lv (.inl z :: r) μ)
    | _ => False
  | .baload => match st with
    | .inl i :: .inr (.inl a) :: r => wLd xs μ (fun t => Nat.beq t 1 || Nat.beq t 2) (.inr (.inl a)) i (fun z => nx (pc + 1) lv (.inl z :: r) μ)
    | _ => False
  | .laload => match st with
    | .inl i :: .inr (.inl a) :: r => wLd xs μ (fun t => Nat.beq t 3) (.inr (.inl a)) i (fun z => nx (pc + 1) lv (.inr (.inr (.inl z)) :: r) μ)
    | _ => False
  | .aaload => match st with
    | .inl i :: .inr (.inl a) :: r => match bOut a with
      | true => match aS[a]? with
        | some (.inr (_, n)) => (0 ≤ i ∧ i < (n : Int)) ∧ nx (pc + 1) lv (.inr (.inr (.inr (.inr (a, i)))) :: r) μ
        | _ => False
      | false => False
    | _ => False
  | .iastore => match st with
    | .inl x :: .inl i :: v :: r => wSt μ (fun t => Nat.beq t 0) v i (fun _ => x) (fun μ' => nx (pc + 1) lv r μ')
    | _ => False
  | .bastore => match st with
    | .inl x :: .inl i :: .inr (.inl a) :: r => wSt μ (fun t => Nat.beq t 1 || Nat.beq t 2) (.inr (.inl a)) i (fun t => bNar t x) (fun μ' => nx (pc + 1) lv r μ')
    | _ => False
  | .lastore => match st with
    | .inr (.inr (.inl x)) :: .inl i :: .inr (.inl a) :: r => wSt μ (fun t => Nat.beq t 3) (.inr (.inl a)) i (fun _ => x) (fun μ' => nx (pc + 1) lv r μ')
    | _ => False
  | .arraylength => match st with
    | v :: r => wLn xs v (fun z => nx (pc + 1) lv (.inl z :: r) μ)
    | _ => False
  | .getfield i => match st with
    | .inr (.inl a) :: r => match aFd (aCs M).2.1 i with
      | some (ci, k, _, _) => match aS[a]? with
        | some (.inl cj) => match Nat.beq ci cj with
          | true => bFl μ a k (fun v => nx (pc + 3) lv (v :: r) μ)
          | false => False
        | _ => False
      | none => False
    | _ => False
  | .putfield i => match st with
    | v :: .inr (.inl a) :: r => match aFd (aCs M).2.1 i with
      | some (ci, k, kd, _) => match aS[a]? with
        | some (.inl cj) => match Nat.beq ci cj with
          | true => bPf μ a k kd v (fun μ' => nx (pc + 3) lv r μ')
          | false => False
        | _ => False
      | none => False
    | _ => False
  | .invokestatic i => match aFd (aCs M).2.2.1 i with
    | some (kd, K, n, _) => match Nat.beq kd 0 with
      | true => wPr (fun st' μ' => nx (pc + 3) lv st' μ') K st μ
      | false => match bTk n [] st with
        | some (as, r) => match Nat.beq kd 1 && Nat.ble (bCat r) 8 with
          | true => cl K as μ (fun z μ' => nx (pc + 3) lv (bPush K z r) μ')
          | false => False
        | none => False
    | none => False
  | .invokevirtual i => match aFd (aCs M).2.2.1 i with
    | some (kd, K, n, _) => match bTk n [] st with
      | some (as, .inr (.inl a) :: r) => match aS[a]? with
        | some (.inl ci) => match Nat.beq kd (ci + 2) && Nat.ble (bCat r) 8 with
          | true => cl K (.inr (.inl a) :: as) μ (fun z μ' => nx (pc + 3) lv (bPush K z r) μ')
          | false => False
        | _ => False
      | _ => False
    | none => False
  | .ireturn => match st with
    | [.inl x] => match aRt M with
      | some .int => rt x μ
      | some .boolean => (x = 0 ∨ x = 1) ∧ rt x μ
      | _ => False
    | _ => False
  | .return_ => match st with
    | [] => match aRt M with
      | none => rt 0 μ
      | _ => False
    | _ => False
  | _ => False
def bOr (K : Nat) (as : List bV) (κ : Int → Prop) : Option Prop := match K with
  | 13 => match as with
    | [.inl s] => some (inR (s + 999999) ∧ κ ((s + 999999) / 1000000))
    | _ => some False
  | 175 => match as with
    | [.inr (.inl r), .inl c] => match Nat.ble 2000 r && Nat.ble r 2004 with
      | true => some (inR c ∧ κ (bAm (oTx r) c))
      | false => some False
    | _ => some False
  | 198 => match as with
    | [.inr (.inl r), .inl c] => match Nat.ble 2000 r && Nat.ble r 2004 with
      | true => some (inR c ∧ κ (bPl (oTx r) c 0))
      | false => some False
    | _ => some False
  | _ => none
/-- a stretch of code from pc on: to its cuts, with short callees inside -/
def wX (xs : List Int32) (rk : Nat → Nat) (stops inl : List Nat) (d r0 : Nat) : Nat → aM → Nat → Nat → List bV → List bV → bMm → bPo → Prop
  | 0, _, _, _, _, _, _, _ => False
  | f + 1, M, j, pc, lv, st, μ, Q => match aFd (aCo M) pc with
    | none => False
    | some q => wI xs M
      (fun pc' lv' st' μ' => match Nat.beq j 0 && stops.elem pc' with
        | true => bGo xs d M pc' lv' st' μ' Q
        | false => wX xs rk stops inl d r0 f M j pc' lv' st' μ' Q)
      (fun K as μ' κ => match bOr K as (fun z => κ z μ') with
        | some P => match Nat.ble (j + 1) r0 with
          | true => P
          | false => False
        | none => match aProg[K]? with
          | none => False
          | some M' => match Nat.ble (bArg as).length (aML M') && Nat.ble (j + 1) r0 with
            | false => False
            | true => match inl.elem K with
              | true => wX xs rk stops inl d r0 f M' (j + 1) 0 (bEnt M' as) [] μ' κ
              | false => match Nat.ble (rk K + (j + 1)) r0 with
                | true => bC xs (rk K) K as μ' κ
                | false => bGo xs (d - (j + 1)) M' 0 (bEnt M' as) [] μ' κ)
      Q pc q.1 (aFd (aCo M) (pc + 1)) lv st μ
