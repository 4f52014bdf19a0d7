/-! THE PURE MACHINE: runs with three methods told ahead (texts, floorDiv); a memory of whole numbers; what a stretch of code asks for, as a proposition -/
def oTx (r : Nat) : List Int := match r with
  | 2000 => [121]
  | 2001 => [118, 107, 115, 100, 110, 112, 99, 105]
  | 2002 => [118, 114, 100]
  | 2003 => [97, 98, 99, 100, 101]
  | 2004 => [97, 98, 99, 100, 101, 107]
  | _ => []
def bAm : List Int → Int → Int
  | [], _ => 0
  | b :: l, c => if c = b then 1 else bAm l c
def bPl : List Int → Int → Int → Int
  | [], _, _ => -1
  | b :: l, c, k => if c = b then k else bPl l c (k + 1)
def oOr (K : Nat) (as : List Value) : Option Value := match K with
  | 13 => match as with
    | [.int s] => some (.int (Int32.ofInt ((s + 999999).toInt / 1000000)))
    | _ => none
  | 175 => match as with
    | [.ref r, .int c] => match Nat.ble 2000 r && Nat.ble r 2004 with
      | true => some (.int (Int32.ofInt (bAm (oTx r) c.toInt)))
      | false => none
    | _ => none
  | 198 => match as with
    | [.ref r, .int c] => match Nat.ble 2000 r && Nat.ble r 2004 with
      | true => some (.int (Int32.ofInt (bPl (oTx r) c.toInt 0)))
      | false => none
    | _ => none
  | _ => none
def oExec (X : aXt) (S : List aSh) (P : List aM) : Nat → Nat → aM → Nat → List Value → List Value → aSt → Option (Option Value × aSt)
  | 0, _, _, _, _, _, _ => none
  | f + 1, d, M, pc, lv, st, σ => match aStep X S M pc lv st σ with
    | none => none
    | some (.inl (pc', lv', st', σ')) => oExec X S P f d M pc' lv' st' σ'
    | some (.inr (.inl r)) => some r
    | some (.inr (.inr (K, as, (pc', lv', st', σ')))) => match d with
      | 0 => none
      | d' + 1 => match oOr K as with
        | some v => match Nat.ble 5 d' with
          | true => oExec X S P f (d' + 1) M pc' lv' (v :: st') σ'
          | false => none
        | none => match P[K]? with
          | none => none
          | some M' => match Nat.ble (aArg as).length (aML M') with
            | false => none
            | true => match oExec X S P f d' M' 0 (aEnt M' as) [] σ' with
              | none => none
              | some (v, σ2) => oExec X S P f (d' + 1) M pc' lv' (v.toList ++ st') σ2
theorem oExec_mono {X : aXt} {S : List aSh} {P : List aM} : ∀ (f g d : Nat) (M : aM) (pc : Nat) (lv st : List Value) (σ : aSt) (r : Option Value × aSt), f ≤ g → oExec X S P f d M pc lv st σ = some r → oExec X S P g d M pc lv st σ = some r := by
  intro f
  induction f with
  | zero => intro g d M pc lv st σ r _ h; cases h
  | succ f ih =>
    intro g d M pc lv st σ r hg h
    cases g with
    | zero => omega
    | succ g =>
      have hg : f ≤ g := by omega
      rw [oExec] at h ⊢
      cases hs : aStep X S M pc lv st σ with
      | none => rw [hs] at h; cases h
      | some q =>
        rw [hs] at h
        match q, h with
        | .inl (pc', lv', st', σ'), h => exact ih g d M pc' lv' st' σ' r hg h
        | .inr (.inl r'), h => exact h
        | .inr (.inr (K, as, (pc', lv', st', σ'))), h =>
          simp only at h ⊢
          match d, h with
          | 0, h => cases h
          | d' + 1, h =>
            simp only at h ⊢
            cases ho : oOr K as with
            | some v =>
              rw [ho] at h
              simp only at h ⊢
              split at h
              · exact ih g (d' + 1) M pc' lv' (v :: st') σ' r hg h
              · cases h
            | none =>
              rw [ho] at h
              simp only at h ⊢
              cases hP : P[K]? with
              | none => rw [hP] at h; cases h
              | some M' =>
                rw [hP] at h
                simp only at h ⊢
                cases hb : Nat.ble (aArg as).length (aML M') with
                | false => rw [hb] at h; cases h
                | true =>
                  rw [hb] at h
                  simp only at h ⊢
                  cases he : oExec X S P f d' M' 0 (aEnt M' as) [] σ' with
                  | none => rw [he] at h; cases h
                  | some q2 =>
                    rw [he] at h
                    rw [ih g d' M' 0 (aEnt M' as) [] σ' q2 hg he]
                    match q2, h with
                    | (v, σ2), h => exact ih g (d' + 1) M pc' lv' (v.toList ++ st') σ2 r hg h
/-! values, memory -/
abbrev bV : Type := Int ⊕ (Nat ⊕ (Int ⊕ (Unit ⊕ ((Nat × Int) ⊕ (Int ⊕ Int)))))
abbrev vi (z : Int) : bV := .inl z
abbrev vr (a : Nat) : bV := .inr (.inl a)
abbrev vl (z : Int) : bV := .inr (.inr (.inl z))
abbrev vn : bV := .inr (.inr (.inr (.inl ())))
abbrev vw (a : Nat) (i : Int) : bV := .inr (.inr (.inr (.inr (.inl (a, i)))))
/-- written numbers (int, long): of them the code's own questions are answered by counting -/
abbrev vc (z : Int) : bV := .inr (.inr (.inr (.inr (.inr (.inl z)))))
abbrev vk (z : Int) : bV := .inr (.inr (.inr (.inr (.inr (.inr z)))))
abbrev bMm : Type := (Bool × Bool × Bool) × (Nat → Int → Int)
abbrev bPo : Type := Int → bMm → Prop
abbrev inR (z : Int) : Prop := -2147483648 ≤ z ∧ z ≤ 2147483647
abbrev inL (z : Int) : Prop := -9223372036854775808 ≤ z ∧ z ≤ 9223372036854775807
def bVal (v : bV) : Value := match v with
  | .inl z => .int (Int32.ofInt z)
  | .inr (.inl a) => .ref a
  | .inr (.inr (.inl z)) => .long (Int64.ofInt z)
  | .inr (.inr (.inr (.inl _))) => .null
  | .inr (.inr (.inr (.inr (.inl (a, i))))) => .ref (a + 1 + i.toNat)
  | .inr (.inr (.inr (.inr (.inr (.inl z))))) => .int (Int32.ofInt z)
  | .inr (.inr (.inr (.inr (.inr (.inr z))))) => .long (Int64.ofInt z)
def bNm (v : bV) : bV := match v with
  | .inr (.inr (.inr (.inr (.inr (.inl z))))) => .inl z
  | .inr (.inr (.inr (.inr (.inr (.inr z))))) => .inr (.inr (.inl z))
  | v => v
/-- an int; a long -/
def bZ (v : bV) : Option Int := match v with
  | .inl z => some z
  | .inr (.inr (.inr (.inr (.inr (.inl z))))) => some z
  | _ => none
def bL (v : bV) : Option Int := match v with
  | .inr (.inr (.inl z)) => some z
  | .inr (.inr (.inr (.inr (.inr (.inr z))))) => some z
  | _ => none
def bG (v : bV) : Bool := match v with
  | .inr (.inr (.inr (.inr (.inr _)))) => true
  | _ => false
/-- in bounds: asked of what isn't written -/
def wR (v : bV) (z : Int) (P : Prop) : Prop := match bG v with
  | true => match decide (inR z) with
    | true => P
    | false => False
  | false => inR z ∧ P
def wRL (v : bV) (z : Int) (P : Prop) : Prop := match bG v with
  | true => match decide (inL z) with
    | true => P
    | false => False
  | false => inL z ∧ P
def wIx (v : bV) (z n : Int) (P : Prop) : Prop := match bG v with
  | true => match decide (0 ≤ z ∧ z < n) with
    | true => P
    | false => False
  | false => (0 ≤ z ∧ z < n) ∧ P
/-- rows of rows: the outer row, how many, how long -/
def bOut (a : Nat) : Bool := Nat.beq a 7 || (Nat.beq a 17 || (Nat.beq a 25 || Nat.beq a 37))
def bRow (a : Nat) : Bool := (Nat.ble 8 a && Nat.ble a 13) || ((Nat.ble 18 a && Nat.ble a 23) || ((Nat.ble 26 a && Nat.ble a 30) || (Nat.ble 38 a && Nat.ble a 77)))
def bAd (a : Nat) : Nat × Int := match bRow a with
  | false => (a, 0)
  | true => match Nat.ble a 13 with
    | true => (7, ((a - 8 : Nat) : Int) * 1000)
    | false => match Nat.ble a 23 with
      | true => (17, ((a - 18 : Nat) : Int) * 1000)
      | false => match Nat.ble a 30 with
        | true => (25, ((a - 26 : Nat) : Int) * 1000)
        | false => (37, ((a - 38 : Nat) : Int) * 1000)
def bMe (μ : bMm) (a : Nat) (k : Int) : Int := μ.2 (bAd a).1 ((bAd a).2 + k)
def bRf (bt : Bool × Bool × Bool) (a k r : Nat) : Nat := match a with
  | 0 => match k with
    | 10 => match bt.1 with
      | false => 100
      | true => 110
    | 11 => match bt.2.1 with
      | false => 100
      | true => 110
    | _ => r
  | 120 => match k with
    | 5 => match bt.2.2 with
      | false => 121
      | true => 122
    | _ => r
  | _ => r
def bRs (bt : Bool × Bool × Bool) (a k b : Nat) : Option (Bool × Bool × Bool) := match a with
  | 0 => match k with
    | 10 => match b with
      | 100 => some (false, bt.2)
      | 110 => some (true, bt.2)
      | _ => none
    | 11 => match b with
      | 100 => some (bt.1, false, bt.2.2)
      | 110 => some (bt.1, true, bt.2.2)
      | _ => none
    | _ => none
  | 120 => match k with
    | 5 => match b with
      | 121 => some (bt.1, bt.2.1, false)
      | 122 => some (bt.1, bt.2.1, true)
      | _ => none
    | _ => none
  | _ => none
def bF (a k : Nat) : Value := (aF0.getD a []).getD k .null
def bVo (μ : bMm) (a k : Nat) (v : Value) : Value := match v with
  | .int _ => .int (Int32.ofInt (μ.2 a k))
  | .long _ => .long (Int64.ofInt (μ.2 a k))
  | .ref r => .ref (bRf μ.1 a k r)
  | v => v
def bVa (μ : bMm) (a k t : Nat) : Value := match t with
  | 4 => aI0 a k
  | 3 => .long (Int64.ofInt (μ.2 a k))
  | _ => .int (Int32.ofInt (bMe μ a k))
def bVs (μ : bMm) (a k : Nat) (sh : Option aSh) : Value := match sh with
  | none => .null
  | some (.inr (t, n)) => match Nat.blt k n with
    | true => bVa μ a k t
    | false => .null
  | some (.inl _) => bVo μ a k (bF a k)
def bσ (μ : bMm) : aSt := fun a k => bVs μ a k aS[a]?
def up (m : Nat → Int → Int) (a : Nat) (k z : Int) : Nat → Int → Int := fun b j => if b = a then (if j = k then z else m b j) else m b j
def bUp (μ : bMm) (a : Nat) (k z : Int) : bMm := (μ.1, up μ.2 a k z)
def cp (m : Nat → Int → Int) (a1 : Nat) (o1 : Int) (a0 : Nat) (o0 n : Int) : Nat → Int → Int := fun b j => if b = a1 then (if o1 ≤ j ∧ j < o1 + n then m a0 (o0 + (j - o1)) else m b j) else m b j
def bCp (μ : bMm) (a1 : Nat) (o1 : Int) (a0 : Nat) (o0 n : Int) : bMm := (μ.1, cp μ.2 a1 o1 a0 o0 n)
/-! operators that aren't plain on whole numbers -/
def bAnd (x y : Int) : Int := (Int32.ofInt x &&& Int32.ofInt y).toInt
def bOrr (x y : Int) : Int := (Int32.ofInt x ||| Int32.ofInt y).toInt
def bXor (x y : Int) : Int := (Int32.ofInt x ^^^ Int32.ofInt y).toInt
def bShl (x y : Int) : Int := (Int32.ofInt x <<< (Int32.ofInt y &&& 31)).toInt
def bShr (x y : Int) : Int := (Int32.ofInt x >>> (Int32.ofInt y &&& 31)).toInt
def bUsh (x y : Int) : Int := ((Int32.ofInt x).toUInt32 >>> ((Int32.ofInt y).toUInt32 &&& Int32.toUInt32 31)).toInt32.toInt
def bByt (x : Int) : Int := (Int32.ofInt x).toInt8.toInt32.toInt
def bNar (t : Nat) (x : Int) : Int := (vp_nar (if t = 1 then .byte else .boolean) (Int32.ofInt x)).toInt
def lAnd (x y : Int) : Int := (Int64.ofInt x &&& Int64.ofInt y).toInt
def lOrr (x y : Int) : Int := (Int64.ofInt x ||| Int64.ofInt y).toInt
def lShl (x y : Int) : Int := (Int64.ofInt x <<< ((Int32.ofInt y).toInt64 &&& 63)).toInt
def lUsh (x y : Int) : Int := ((Int64.ofInt x).toUInt64 >>> ((Int32.ofInt y).toInt64.toUInt64 &&& Int64.toUInt64 63)).toInt64.toInt
/-! what stands outside of the store: the script, static rows -/
def bStL (a : Nat) : List Int32 := match a with
  | 1001 => [1, 10, 100, 1000, 10000, 100000, 1000000]
  | 1002 => [0, 1, 0]
  | 1003 => [99, 99, 8]
  | _ => []
def bX (xs : List Int32) : aXt := fun a => match a with
  | 1000 => some ((xs.take 3072).length, fun j => (xs.take 3072).getD j 0)
  | 1001 => some (7, fun j => (bStL 1001).getD j 0)
  | 1002 => some (3, fun j => (bStL 1002).getD j 0)
  | 1003 => some (3, fun j => (bStL 1003).getD j 0)
  | _ => none
def bXn (xs : List Int32) (a : Nat) : Option Int := match a with
  | 1000 => some ((xs.take 3072).length : Int)
  | 1001 => some 7
  | 1002 => some 3
  | 1003 => some 3
  | _ => none
def bXv (xs : List Int32) (a : Nat) (i : Int) : Int := match a with
  | 1000 => ((xs.take 3072).getD i.toNat 0).toInt
  | _ => ((bStL a).getD i.toNat 0).toInt
/-! runs -/
def bArg : List bV → List bV
  | [] => []
  | v :: r => match bL v with
    | some _ => v :: vn :: bArg r
    | none => v :: bArg r
def bEnt (M : aM) (as : List bV) : List bV := bArg as ++ List.replicate (aML M - (bArg as).length) vn
def bRes (M : aM) (v : Option Value) (z : Int) : Prop := match aRt M with
  | none => v = none
  | some _ => v = some (.int (Int32.ofInt z))
def bGo (xs : List Int32) (d : Nat) (M : aM) (pc : Nat) (lv st : List bV) (μ : bMm) (Q : bPo) : Prop :=
  ∃ (f : Nat) (v : Option Value) (z : Int) (μ' : bMm), oExec (bX xs) aS aProg f d M pc (lv.map bVal) (st.map bVal) (bσ μ) = some (v, bσ μ') ∧ bRes M v z ∧ Q z μ'
def bC (xs : List Int32) (rk : Nat) (K : Nat) (as : List bV) (μ : bMm) (Q : bPo) : Prop :=
  ∀ (M : aM), aProg[K]? = some M → ∀ d, rk ≤ d → bGo xs d M 0 (bEnt M as) [] μ Q
/-! an instruction -/
def bCt (v : bV) : Bool := match bL v with
  | some _ => false
  | none => true
def bNoL (lv : List bV) : Nat → Bool
  | 0 => true
  | i + 1 => match lv[i]? with
    | some v => bCt v
    | none => true
def bCat : List bV → Nat
  | [] => 0
  | v :: r => match bCt v with
    | true => 1 + bCat r
    | false => 2 + bCat r
def bTk : Nat → List bV → List bV → Option (List bV × List bV)
  | 0, acc, st => some (acc, st)
  | _ + 1, _, [] => none
  | n + 1, acc, v :: st => bTk n (v :: acc) st
def wJ (nx : Nat → Prop) (pc : Nat) (off : Int) : Prop := match (pc : Int) + off with
  | .ofNat t => nx t
  | .negSucc _ => False
def wP1 (nx : List bV → Prop) (lv : List bV) (i : Nat) (v : bV) : Prop := match Nat.blt i lv.length && bNoL lv i with
  | true => nx (lv.set i v)
  | false => False
def wP2 (nx : List bV → Prop) (lv : List bV) (i : Nat) (v : bV) : Prop := match Nat.blt (i + 1) lv.length && bNoL lv i with
  | true => nx ((lv.set i v).set (i + 1) vn)
  | false => False
def wLi (nx : bV → Prop) (lv : List bV) (i : Nat) : Prop := match lv[i]? with
  | some v => match bZ v with
    | some _ => nx v
    | none => False
  | none => False
def wLl (nx : bV → Prop) (lv : List bV) (i : Nat) : Prop := match lv[i]? with
  | some v => match bL v with
    | some _ => nx v
    | none => False
  | none => False
/-- a reference -/
def bRe (v : bV) : Bool := match v with
  | .inr (.inl _) => true
  | .inr (.inr (.inr (.inr (.inl _)))) => true
  | _ => false
def wLr (nx : bV → Prop) (lv : List bV) (i : Nat) : Prop := match lv[i]? with
  | some v => match bRe v with
    | true => nx v
    | false => False
  | none => False
def wI1 (nx : bV → Int → List bV → Prop) (st : List bV) : Prop := match st with
  | v :: r => match bZ v with
    | some z => nx v z r
    | none => False
  | [] => False
def wII (nx : bV → bV → Int → Int → List bV → Prop) (st : List bV) : Prop := match st with
  | v :: u :: r => match bZ v with
    | some y => match bZ u with
      | some x => nx u v x y r
      | none => False
    | none => False
  | _ => False
def wLL (nx : bV → bV → Int → Int → List bV → Prop) (st : List bV) : Prop := match st with
  | v :: u :: r => match bL v with
    | some y => match bL u with
      | some x => nx u v x y r
      | none => False
    | none => False
  | _ => False
def wLI (nx : Int → Int → List bV → Prop) (st : List bV) : Prop := match st with
  | v :: u :: r => match bZ v with
    | some y => match bL u with
      | some x => nx x y r
      | none => False
    | none => False
  | _ => False
def wLd (xs : List Int32) (μ : bMm) (ty : Nat → Bool) (v iv : bV) (i : Int) (κ : Int → Prop) : Prop := match v with
  | .inr (.inl a) => match bRow a with
    | true => False
    | false => match aS[a]? with
      | some (.inr (t, n)) => match ty t with
        | true => wIx iv i (n : Int) (κ (μ.2 a i))
        | false => False
      | some (.inl _) => False
      | none => match ty 0 with
        | true => match bXn xs a with
          | some n => wIx iv i n (κ (bXv xs a i))
          | none => False
        | false => False
  | .inr (.inr (.inr (.inr (.inl (a, r))))) => match ty 0 && bOut a with
    | true => match aS[a]? with
      | some (.inr (_, n)) => match aS[a + 1]? with
        | some (.inr (_, w)) => (0 ≤ r ∧ r < (n : Int)) ∧ wIx iv i (w : Int) (κ (μ.2 a (r * 1000 + i)))
        | _ => False
      | _ => False
    | false => False
  | _ => False
def wSt (μ : bMm) (ty : Nat → Bool) (v iv : bV) (i : Int) (z : Nat → Int) (κ : bMm → Prop) : Prop := match v with
  | .inr (.inl a) => match bRow a with
    | true => False
    | false => match aS[a]? with
      | some (.inr (t, n)) => match ty t with
        | true => wIx iv i (n : Int) (κ (bUp μ a i (z t)))
        | false => False
      | _ => False
  | .inr (.inr (.inr (.inr (.inl (a, r))))) => match ty 0 && bOut a with
    | true => match aS[a]? with
      | some (.inr (_, n)) => match aS[a + 1]? with
        | some (.inr (_, w)) => (0 ≤ r ∧ r < (n : Int)) ∧ wIx iv i (w : Int) (κ (bUp μ a (r * 1000 + i) (z 0)))
        | _ => False
      | _ => False
    | false => False
  | _ => False
/-- an int row: where it lies, how long -/
def wAr (v : bV) (κ : Nat → Int → Int → Prop) : Prop := match v with
  | .inr (.inl a) => match bRow a with
    | true => False
    | false => match aS[a]? with
      | some (.inr (0, n)) => κ a 0 (n : Int)
      | _ => False
  | .inr (.inr (.inr (.inr (.inl (a, r))))) => match bOut a with
    | true => match aS[a]? with
      | some (.inr (_, n)) => match aS[a + 1]? with
        | some (.inr (_, w)) => (0 ≤ r ∧ r < (n : Int)) ∧ κ a (r * 1000) (w : Int)
        | _ => False
      | _ => False
    | false => False
  | _ => False
def wLn (xs : List Int32) (v : bV) (κ : Int → Prop) : Prop := match v with
  | .inr (.inl a) => match aS[a]? with
    | some (.inr (_, n)) => κ (n : Int)
    | some (.inl _) => False
    | none => match bXn xs a with
      | some n => κ n
      | none => False
  | .inr (.inr (.inr (.inr (.inl (a, r))))) => match bOut a with
    | true => match aS[a]? with
      | some (.inr (_, n)) => match aS[a + 1]? with
        | some (.inr (_, w)) => (0 ≤ r ∧ r < (n : Int)) ∧ κ (w : Int)
        | _ => False
      | _ => False
    | false => False
  | _ => False
def bFl (μ : bMm) (a k : Nat) (κ : bV → Prop) : Prop := match bF a k with
  | .int _ => κ (.inl (μ.2 a k))
  | .long _ => κ (.inr (.inr (.inl (μ.2 a k))))
  | .ref r => κ (.inr (.inl (bRf μ.1 a k r)))
  | _ => False
def bPf (μ : bMm) (a k kd : Nat) (v : bV) (κ : bMm → Prop) : Prop := match kd with
  | 0 => match bZ v with
    | some z => match bF a k with
      | .int _ => κ (bUp μ a k z)
      | _ => False
    | none => False
  | 1 => match bZ v with
    | some z => match bF a k with
      | .int _ => match bG v with
        | true => match decide (z = 0 ∨ z = 1) with
          | true => κ (bUp μ a k z)
          | false => False
        | false => (z = 0 ∨ z = 1) ∧ κ (bUp μ a k z)
      | _ => False
    | none => False
  | 2 => match bL v with
    | some z => match bF a k with
      | .long _ => κ (bUp μ a k z)
      | _ => False
    | none => False
  | 3 => match v with
    | .inr (.inl b) => match bRs μ.1 a k b with
      | some bt => κ (bt, μ.2)
      | none => False
    | _ => False
  | _ => False
def wSwT (nx : Nat → Prop) (pc : Nat) (x : Int) : Int → List Int → Prop
  | _, [] => True
  | k, off :: r => (x = k → wJ nx pc off) ∧ wSwT nx pc x (k + 1) r
def wSwL (nx : Nat → Prop) (pc : Nat) (x : Int) (dflt : Int) : List (Int × Int) → Prop
  | [] => wJ nx pc dflt
  | q :: r => (x = q.1 → wJ nx pc q.2) ∧ (¬ x = q.1 → wSwL nx pc x dflt r)
def bPush (K : Nat) (v : bV) (st : List bV) : List bV := match aProg[K]? with
  | some M => match aRt M with
    | none => st
    | some _ => v :: st
  | none => st
/-- the JDK's members that are one step -/
def wPr (nx : List bV → bMm → Prop) (K : Nat) (st : List bV) (μ : bMm) : Prop := match K with
  | 0 => wII (fun u v x y r => match Nat.ble (bCat r) 8 with
      | true => wR u x (wR v y (nx (.inl (max x y) :: r) μ))
      | false => False) st
  | 1 => wII (fun u v x y r => match Nat.ble (bCat r) 8 with
      | true => wR u x (wR v y (nx (.inl (min x y) :: r) μ))
      | false => False) st
  | 2 => wLL (fun u v x y r => match Nat.ble (bCat r) 8 with
      | true => wRL u x (wRL v y (nx (.inr (.inr (.inl (max x y))) :: r) μ))
      | false => False) st
  | 3 => wLL (fun u v x y r => match Nat.ble (bCat r) 8 with
      | true => wRL u x (wRL v y (nx (.inr (.inr (.inl (min x y))) :: r) μ))
      | false => False) st
  | 4 => match st with
    | nv :: dv :: v1 :: sv :: v0 :: r => match Nat.ble (bCat r) 8 with
      | true => match bZ nv with
        | some n => match bZ dv with
          | some dp => match bZ sv with
            | some sp => wAr v0 (fun A0 b0 n0 => wAr v1 (fun A1 b1 n1 => ((0 ≤ sp ∧ 0 ≤ dp ∧ 0 ≤ n) ∧ sp + n ≤ n0 ∧ dp + n ≤ n1) ∧ nx r (bCp μ A1 (b1 + dp) A0 (b0 + sp) n)))
            | none => False
          | none => False
        | none => False
      | false => False
    | _ => False
  | _ => False
/-- two ways, by a question -/
def wBr (g : Bool) (b : Bool) (p q : Prop) (A B : Prop) : Prop := match g with
  | true => match b with
    | true => A
    | false => B
  | false => (p → A) ∧ (q → B)
def wIf (v : bV) (x : Int) (c : Jvm.ClassFile.Cond) (A B : Prop) : Prop := match c with
  | .eq => wBr (bG v) (decide (x = 0)) (x = 0) (¬ x = 0) A B
  | .ne => wBr (bG v) (decide (¬ x = 0)) (¬ x = 0) (x = 0) A B
  | .lt => wBr (bG v) (decide (x < 0)) (x < 0) (0 ≤ x) A B
  | .ge => wBr (bG v) (decide (0 ≤ x)) (0 ≤ x) (x < 0) A B
  | .gt => wBr (bG v) (decide (0 < x)) (0 < x) (x ≤ 0) A B
  | .le => wBr (bG v) (decide (x ≤ 0)) (x ≤ 0) (0 < x) A B
def wCm (g : Bool) (x y : Int) (c : Jvm.ClassFile.Cond) (A B : Prop) : Prop := match c with
  | .eq => wBr g (decide (x = y)) (x = y) (¬ x = y) A B
  | .ne => wBr g (decide (¬ x = y)) (¬ x = y) (x = y) A B
  | .lt => wBr g (decide (x < y)) (x < y) (y ≤ x) A B
  | .ge => wBr g (decide (y ≤ x)) (y ≤ x) (x < y) A B
  | .gt => wBr g (decide (y < x)) (y < x) (x ≤ y) A B
  | .le => wBr g (decide (x ≤ y)) (x ≤ y) (y < x) A B
def wDv (v : bV) (y : Int) (P : Prop) : Prop := match bG v with
  | true => match decide (inR y ∧ ¬ y = 0) with
    | true => P
    | false => False
  | false => (inR y ∧ ¬ y = 0) ∧ P
def wDvL (v : bV) (y : Int) (P : Prop) : Prop := match bG v with
  | true => match decide (inL y ∧ ¬ y = 0) with
    | true => P
    | false => False
  | false => (inL y ∧ ¬ y = 0) ∧ P
def wI (xs : List Int32) (M : aM) (nx : Nat → List bV → List bV → bMm → Prop) (cl : Nat → List bV → bMm → (bV → bMm → Prop) → Prop) (rt : bV → bMm → Prop) (pc : Nat) (ins : Instr) (nin : Option (Instr × Nat)) (lv st : List bV) (μ : bMm) : Prop := match ins with
  | .iconst n => nx (pc + 1) lv (vc n :: st) μ
  | .bipush n => match decide (-128 ≤ n ∧ n ≤ 127) with
    | true => nx (pc + 2) lv (vc n :: st) μ
    | false => False
  | .sipush n => match decide (-32768 ≤ n ∧ n ≤ 32767) with
    | true => nx (pc + 3) lv (vc n :: st) μ
    | false => False
  | .lconst n => nx (pc + 1) lv (vk ((n : Nat) : Int) :: st) μ
  | .ldc i => match aFd (aCs M).2.2.2 i with
    | some (.int v, _) => nx (pc + 2) lv (vc v.toInt :: st) μ
    | some (.ref v, _) => match Nat.ble 2000 v with
      | true => nx (pc + 2) lv (.inr (.inl v) :: st) μ
      | false => False
    | _ => False
  | .ldc_w i => match aFd (aCs M).2.2.2 i with
    | some (.int v, _) => nx (pc + 3) lv (vc v.toInt :: st) μ
    | some (.ref v, _) => match Nat.ble 2000 v with
      | true => nx (pc + 3) lv (.inr (.inl v) :: st) μ
      | false => False
    | _ => False
  | .ldc2_w i => match aFd (aCs M).2.2.2 i with
    | some (.long v, _) => nx (pc + 3) lv (vk v.toInt :: st) μ
    | _ => False
  | .getstatic i => match aFd (aCs M).2.2.2 i with
    | some (.ref v, _) => match Nat.blt v 2000 with
      | true => nx (pc + 3) lv (.inr (.inl v) :: st) μ
      | false => False
    | _ => False
  | .iload_n k => wLi (fun v => nx (pc + 1) lv (v :: st) μ) lv k
  | .iload k => wLi (fun v => nx (pc + 2) lv (v :: st) μ) lv k
  | .lload_n k => wLl (fun v => nx (pc + 1) lv (v :: st) μ) lv k
  | .lload k => wLl (fun v => nx (pc + 2) lv (v :: st) μ) lv k
  | .aload_n k => wLr (fun v => nx (pc + 1) lv (v :: st) μ) lv k
  | .aload k => wLr (fun v => nx (pc + 2) lv (v :: st) μ) lv k
  | .istore_n k => wI1 (fun v _ r => wP1 (fun lv' => nx (pc + 1) lv' r μ) lv k v) st
  | .istore k => wI1 (fun v _ r => wP1 (fun lv' => nx (pc + 2) lv' r μ) lv k v) st
  | .lstore_n k => match st with
    | v :: r => match bL v with
      | some z => wP2 (fun lv' => nx (pc + 1) lv' r μ) lv k (.inr (.inr (.inl z)))
      | none => False
    | _ => False
  | .lstore k => match st with
    | v :: r => match bL v with
      | some z => wP2 (fun lv' => nx (pc + 2) lv' r μ) lv k (.inr (.inr (.inl z)))
      | none => False
    | _ => False
  | .astore_n k => match st with
    | v :: r => match bRe v with
      | true => wP1 (fun lv' => nx (pc + 1) lv' r μ) lv k v
      | false => False
    | _ => False
  | .astore k => match st with
    | v :: r => match bRe v with
      | true => wP1 (fun lv' => nx (pc + 2) lv' r μ) lv k v
      | false => False
    | _ => False
  | .iinc i n => match lv[i]? with
    | some v => match bZ v with
      | some x => wP1 (fun lv' => nx (pc + 3) lv' st μ) lv i (.inl (x + n))
      | none => False
    | none => False
  | .iadd => wII (fun _ _ x y r => nx (pc + 1) lv (.inl (x + y) :: r) μ) st
  | .isub => wII (fun _ _ x y r => nx (pc + 1) lv (.inl (x - y) :: r) μ) st
  | .imul => wII (fun _ _ x y r => nx (pc + 1) lv (.inl (x * y) :: r) μ) st
  | .iand => wII (fun _ _ x y r => nx (pc + 1) lv (.inl (bAnd x y) :: r) μ) st
  | .ior => wII (fun _ _ x y r => nx (pc + 1) lv (.inl (bOrr x y) :: r) μ) st
  | .ixor => wII (fun _ _ x y r => nx (pc + 1) lv (.inl (bXor x y) :: r) μ) st
  | .ishl => wII (fun _ _ x y r => nx (pc + 1) lv (.inl (bShl x y) :: r) μ) st
  | .ishr => wII (fun _ _ x y r => nx (pc + 1) lv (.inl (bShr x y) :: r) μ) st
  | .iushr => wII (fun _ _ x y r => nx (pc + 1) lv (.inl (bUsh x y) :: r) μ) st
  | .idiv => wII (fun u v x y r => wR u x (wDv v y (nx (pc + 1) lv (.inl (x.tdiv y) :: r) μ))) st
  | .irem => wII (fun u v x y r => wR u x (wDv v y (nx (pc + 1) lv (.inl (x.tmod y) :: r) μ))) st
  | .ladd => wLL (fun _ _ x y r => nx (pc + 1) lv (.inr (.inr (.inl (x + y))) :: r) μ) st
  | .lsub => wLL (fun _ _ x y r => nx (pc + 1) lv (.inr (.inr (.inl (x - y))) :: r) μ) st
  | .lmul => wLL (fun _ _ x y r => nx (pc + 1) lv (.inr (.inr (.inl (x * y))) :: r) μ) st
  | .land => wLL (fun _ _ x y r => nx (pc + 1) lv (.inr (.inr (.inl (lAnd x y))) :: r) μ) st
  | .lor => wLL (fun _ _ x y r => nx (pc + 1) lv (.inr (.inr (.inl (lOrr x y))) :: r) μ) st
  | .ldiv => wLL (fun u v x y r => wRL u x (wDvL v y (nx (pc + 1) lv (.inr (.inr (.inl (x.tdiv y))) :: r) μ))) st
  | .lrem => wLL (fun u v x y r => wRL u x (wDvL v y (nx (pc + 1) lv (.inr (.inr (.inl (x.tmod y))) :: r) μ))) st
  | .lshl => wLI (fun x y r => nx (pc + 1) lv (.inr (.inr (.inl (lShl x y))) :: r) μ) st
  | .lushr => wLI (fun x y r => nx (pc + 1) lv (.inr (.inr (.inl (lUsh x y))) :: r) μ) st
  | .lcmp => wLL (fun u v x y r => match nin with
    | some (.ifCond c off, _) => wJ (fun t => wRL u x (wRL v y (wCm (bG u && bG v) x y c (nx t lv r μ) (nx (pc + 4) lv r μ)))) (pc + 1) off
    | _ => False) st
  | .i2l => wI1 (fun v x r => match bG v with
    | true => match decide (inR x) with
      | true => nx (pc + 1) lv (vk x :: r) μ
      | false => False
    | false => inR x ∧ nx (pc + 1) lv (.inr (.inr (.inl x)) :: r) μ) st
  | .i2b => wI1 (fun _ x r => nx (pc + 1) lv (.inl (bByt x) :: r) μ) st
  | .l2i => match st with
    | v :: r => match bL v with
      | some x => nx (pc + 1) lv (.inl x :: r) μ
      | none => False
    | _ => False
  | .pop => match st with
    | v :: r => match bCt v with
      | true => nx (pc + 1) lv r μ
      | false => False
    | _ => False
  | .dup => match st with
    | v :: r => match bCt v with
      | true => nx (pc + 1) lv (v :: v :: r) μ
      | false => False
    | _ => False
  | .dup2 => match st with
    | v :: u :: r => match bCt v && bCt u with
      | true => nx (pc + 1) lv (v :: u :: v :: u :: r) μ
      | false => False
    | _ => False
  | .ifCond c off => wI1 (fun v x r => wJ (fun t => wR v x (wIf v x c (nx t lv r μ) (nx (pc + 3) lv r μ))) pc off) st
  | .if_icmp c off => wII (fun u v x y r => wJ (fun t => wR u x (wR v y (wCm (bG u && bG v) x y c (nx t lv r μ) (nx (pc + 3) lv r μ)))) pc off) st
  | .goto off => wJ (fun t => nx t lv st μ) pc off
  | .tableswitch dflt lo hi offs => wI1 (fun _ x r => match decide ((offs.size : Int) = hi - lo + 1) with
      | true => inR x ∧ ((x < lo ∨ hi < x) → wJ (fun t => nx t lv r μ) pc dflt) ∧ wSwT (fun t => nx t lv r μ) pc x lo offs.toList
      | false => False) st
  | .lookupswitch dflt ps => wI1 (fun _ x r => match (ps.toList.zip (ps.toList.drop 1)).all (fun (a, next) => a.1 < next.1) with
      | true => inR x ∧ wSwL (fun t => nx t lv r μ) pc x dflt ps.toList
      | false => False) st
  | .iaload => wI1 (fun iv i r0 => match r0 with
    | v :: r => wLd xs μ (fun t => Nat.beq t 0) v iv i (fun z => nx (pc + 1) lv (.inl z :: r) μ)
    | _ => False) st
  | .baload => wI1 (fun iv i r0 => match r0 with
    | .inr (.inl a) :: r => wLd xs μ (fun t => Nat.beq t 1 || Nat.beq t 2) (.inr (.inl a)) iv i (fun z => nx (pc + 1) lv (.inl z :: r) μ)
    | _ => False) st
  | .laload => wI1 (fun iv i r0 => match r0 with
    | .inr (.inl a) :: r => wLd xs μ (fun t => Nat.beq t 3) (.inr (.inl a)) iv i (fun z => nx (pc + 1) lv (.inr (.inr (.inl z)) :: r) μ)
    | _ => False) st
  | .aaload => wI1 (fun iv i r0 => match r0 with
    | .inr (.inl a) :: r => match bOut a with
      | true => match aS[a]? with
        | some (.inr (_, n)) => wIx iv i (n : Int) (nx (pc + 1) lv (vw a i :: r) μ)
        | _ => False
      | false => False
    | _ => False) st
  | .iastore => match st with
    | xv :: iv :: v :: r => match bZ xv with
      | some x => match bZ iv with
        | some i => wSt μ (fun t => Nat.beq t 0) v iv i (fun _ => x) (fun μ' => nx (pc + 1) lv r μ')
        | none => False
      | none => False
    | _ => False
  | .bastore => match st with
    | xv :: iv :: .inr (.inl a) :: r => match bZ xv with
      | some x => match bZ iv with
        | some i => wSt μ (fun t => Nat.beq t 1 || Nat.beq t 2) (.inr (.inl a)) iv i (fun t => bNar t x) (fun μ' => nx (pc + 1) lv r μ')
        | none => False
      | none => False
    | _ => False
  | .lastore => match st with
    | xv :: iv :: .inr (.inl a) :: r => match bL xv with
      | some x => match bZ iv with
        | some i => wSt μ (fun t => Nat.beq t 3) (.inr (.inl a)) iv i (fun _ => x) (fun μ' => nx (pc + 1) lv r μ')
        | none => False
      | none => False
    | _ => False
  | .arraylength => match st with
    | v :: r => wLn xs v (fun z => nx (pc + 1) lv (.inl z :: r) μ)
    | _ => False
  | .getfield i => match st with
    | .inr (.inl a) :: r => match aFd (aCs M).2.1 i with
      | some (ci, k, _, _) => match aS[a]? with
        | some (.inl cj) => match Nat.beq ci cj with
          | true => bFl μ a k (fun v => nx (pc + 3) lv (v :: r) μ)
          | false => False
        | _ => False
      | none => False
    | _ => False
  | .putfield i => match st with
    | v :: .inr (.inl a) :: r => match aFd (aCs M).2.1 i with
      | some (ci, k, kd, _) => match aS[a]? with
        | some (.inl cj) => match Nat.beq ci cj with
          | true => bPf μ a k kd v (fun μ' => nx (pc + 3) lv r μ')
          | false => False
        | _ => False
      | none => False
    | _ => False
  | .invokestatic i => match aFd (aCs M).2.2.1 i with
    | some (kd, K, n, _) => match Nat.beq kd 0 with
      | true => wPr (fun st' μ' => nx (pc + 3) lv st' μ') K st μ
      | false => match bTk n [] st with
        | some (as, r) => match Nat.beq kd 1 && Nat.ble (bCat r) 8 with
          | true => cl K as μ (fun v μ' => nx (pc + 3) lv (bPush K v r) μ')
          | false => False
        | none => False
    | none => False
  | .invokevirtual i => match aFd (aCs M).2.2.1 i with
    | some (kd, K, n, _) => match bTk n [] st with
      | some (as, .inr (.inl a) :: r) => match aS[a]? with
        | some (.inl ci) => match Nat.beq kd (ci + 2) && Nat.ble (bCat r) 8 with
          | true => cl K (.inr (.inl a) :: as) μ (fun v μ' => nx (pc + 3) lv (bPush K v r) μ')
          | false => False
        | _ => False
      | _ => False
    | none => False
  | .ireturn => match st with
    | [v] => match bZ v with
      | some x => match aRt M with
        | some .int => rt v μ
        | some .boolean => match bG v with
          | true => match decide (x = 0 ∨ x = 1) with
            | true => rt v μ
            | false => False
          | false => (x = 0 ∨ x = 1) ∧ rt v μ
        | _ => False
      | none => False
    | _ => False
  | .return_ => match st with
    | [] => match aRt M with
      | none => rt (vc 0) μ
      | _ => False
    | _ => False
  | _ => False
def bOr (K : Nat) (as : List bV) (κ : bV → Prop) : Option Prop := match K with
  | 13 => match as with
    | [.inl s] => some (inR (s + 999999) ∧ κ (.inl ((s + 999999) / 1000000)))
    | _ => some False
  | 175 => match as with
    | [.inr (.inl r), .inl c] => match Nat.ble 2000 r && Nat.ble r 2004 with
      | true => some (inR c ∧ κ (.inl (bAm (oTx r) c)))
      | false => some False
    | _ => some False
  | 198 => match as with
    | [.inr (.inl r), .inl c] => match Nat.ble 2000 r && Nat.ble r 2004 with
      | true => some (inR c ∧ κ (.inl (bPl (oTx r) c 0)))
      | false => some False
    | _ => some False
  | _ => none
def bTop (Q : bPo) (v : bV) (μ : bMm) : Prop := match bZ v with
  | some z => Q z μ
  | none => False
/-- what is still wanted of the locals -/
def bMk : List Bool → List bV → List bV
  | [], lv => lv
  | _ :: _, [] => []
  | k :: ks, v :: lv => match k || !(bCt v) with
    | true => v :: bMk ks lv
    | false => vn :: bMk ks lv
/-- what a callee leaves of the three references that change: all, the text's not, none -/
def wBk (mo : Nat) (bt : Bool × Bool × Bool) (κ : bV → bMm → Prop) (z : Int) (μ : bMm) : Prop := match mo with
  | 0 => μ.1 = bt ∧ κ (.inl z) (bt, μ.2)
  | 1 => (μ.1.1 = bt.1 ∧ μ.1.2.1 = bt.2.1) ∧ κ (.inl z) ((bt.1, bt.2.1, μ.1.2.2), μ.2)
  | _ => κ (.inl z) μ
/-- a stretch of code from pc on: to its cuts, with short callees inside -/
def wX (xs : List Int32) (rk mo : Nat → Nat) (stops : List (Nat × List Bool)) (inl : List Nat) (d r0 : Nat) (Z : Nat → List bV → List bV → bMm → Prop) : Nat → aM → Nat → Nat → List bV → List bV → bMm → (bV → bMm → Prop) → Prop
  | 0, _, _, _, _, _, _, _ => False
  | f + 1, M, j, pc, lv, st, μ, κ => match aFd (aCo M) pc with
    | none => False
    | some q => wI xs M
      (fun pc' lv' st' μ' => match j with
        | 0 => match aFd stops pc' with
          | some ks => Z pc' ((bMk ks lv').map bNm) (st'.map bNm) μ'
          | none => wX xs rk mo stops inl d r0 Z f M 0 pc' lv' st' μ' κ
        | j' + 1 => wX xs rk mo stops inl d r0 Z f M (j' + 1) pc' lv' st' μ' κ)
      (fun K as μ' κ' => match bOr K (as.map bNm) (fun v => κ' v μ') with
        | some P => match Nat.ble (j + 6) r0 with
          | true => P
          | false => False
        | none => match aProg[K]? with
          | none => False
          | some M' => match Nat.ble (bArg as).length (aML M') && Nat.ble (j + 1) r0 with
            | false => False
            | true => match inl.elem K with
              | true => wX xs rk mo stops inl d r0 Z f M' (j + 1) 0 (bEnt M' as) [] μ' κ'
              | false => match Nat.ble (rk K + (j + 1)) r0 with
                | true => bC xs (rk K) K (as.map bNm) μ' (wBk (mo K) μ'.1 κ')
                | false => bGo xs (d - (j + 1)) M' 0 (bEnt M' (as.map bNm)) [] μ' (wBk (mo K) μ'.1 κ'))
      κ pc q.1 (aFd (aCo M) (pc + 1)) lv st μ
def bW (b : Bool) : Nat := match b with
  | false => 100
  | true => 110
def bT (b : Bool) : Nat := match b with
  | false => 121
  | true => 122
def bTn (b : Bool) : Int := match b with
  | false => 240
  | true => 1440
