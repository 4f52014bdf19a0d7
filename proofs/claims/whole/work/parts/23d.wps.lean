/-! THE RULES' SOUNDNESS, 4: an instruction -/
theorem bPut1 {pc : Nat} {lv : List bV} {i : Nat} {v : bV} (h : (Nat.blt i lv.length && bNoL lv i) = true) (st : List Value) (σ : aSt) : aPut1 pc (lv.map bVal) i (bVal v) st σ = some (.inl (pc, (lv.set i v).map bVal, st, σ)) := by
  unfold aPut1
  rw [List.length_map, bNoL_val, h, bSet_val]
  rfl
theorem bPut2 {pc : Nat} {lv : List bV} {i : Nat} {v : bV} (h : (Nat.blt (i + 1) lv.length && bNoL lv i) = true) (st : List Value) (σ : aSt) : aPut2 pc (lv.map bVal) i (bVal v) st σ = some (.inl (pc, ((lv.set i v).set (i + 1) vn).map bVal, st, σ)) := by
  unfold aPut2
  rw [List.length_map, bNoL_val, h, bSet_val, show (Value.null) = bVal vn from rfl, bSet_val]
  rfl
theorem cP_32 {c : Jvm.ClassFile.Cond} {x y : Int} (hx : inR x) (hy : inR y) : cP c x y ↔ (match c with
    | .eq => Int32.ofInt x = Int32.ofInt y
    | .ne => ¬ Int32.ofInt x = Int32.ofInt y
    | .lt => Int32.ofInt x < Int32.ofInt y
    | .ge => Int32.ofInt y ≤ Int32.ofInt x
    | .gt => Int32.ofInt y < Int32.ofInt x
    | .le => Int32.ofInt x ≤ Int32.ofInt y) := by
  cases c
  · exact (i32_eq hx hy).symm
  · exact not_congr (i32_eq hx hy).symm
  · exact (i32_lt hx hy).symm
  · exact (i32_le hy hx).symm
  · exact (i32_lt hy hx).symm
  · exact (i32_le hx hy).symm
theorem aIfc {c : Jvm.ClassFile.Cond} {X : aXt} {S : List aSh} {M : aM} {pc t : Nat} {off : Int} {lv r : List Value} {σ : aSt} {x : Int} (hx : inR x) (e : (pc : Int) + off = .ofNat t) : (cP c x 0 → aIns X S M pc (.ifCond c off) lv (.int (Int32.ofInt x) :: r) σ = aGo t lv r σ) ∧ (¬ cP c x 0 → aIns X S M pc (.ifCond c off) lv (.int (Int32.ofInt x) :: r) σ = aGo (pc + 3) lv r σ) := by
  have h0 : inR 0 := by decide
  have hq := cP_32 (c := c) hx h0
  rw [i32_zero] at hq
  cases c <;> (simp only [aIns, aIf_of e]; exact ⟨fun h => if_pos (hq.mp h), fun h => if_neg (fun n => h (hq.mpr n))⟩)
theorem aIcc {c : Jvm.ClassFile.Cond} {X : aXt} {S : List aSh} {M : aM} {pc t : Nat} {off : Int} {lv r : List Value} {σ : aSt} {x y : Int} (hx : inR x) (hy : inR y) (e : (pc : Int) + off = .ofNat t) : (cP c x y → aIns X S M pc (.if_icmp c off) lv (.int (Int32.ofInt y) :: .int (Int32.ofInt x) :: r) σ = aGo t lv r σ) ∧ (¬ cP c x y → aIns X S M pc (.if_icmp c off) lv (.int (Int32.ofInt y) :: .int (Int32.ofInt x) :: r) σ = aGo (pc + 3) lv r σ) := by
  have hq := cP_32 (c := c) hx hy
  cases c <;> (simp only [aIns, aIc_of e]; exact ⟨fun h => if_pos (hq.mp h), fun h => if_neg (fun n => h (hq.mpr n))⟩)
/-- a branch that isn't taken still has a place to go to -/
theorem wJ_of_not {P : Prop} {nx : Nat → Prop} {pc : Nat} {off : Int} (h : P → wJ nx pc off) (hp : P) : ∃ t : Nat, (pc : Int) + off = .ofNat t ∧ nx t := wJ_inv (h hp)
theorem lg_cmp_of {x y : Int} (hx : inL x) (hy : inL y) : lg_cmp (Int64.ofInt x) (Int64.ofInt y) = Int32.ofInt (if x > y then 1 else if x = y then 0 else -1) := by
  unfold lg_cmp
  have h1 : (Int64.ofInt x > Int64.ofInt y) ↔ x > y := i64_lt hy hx
  have h2 := i64_eq hx hy
  by_cases e1 : x > y
  · rw [if_pos e1, if_pos (h1.mpr e1)]
    rfl
  · rw [if_neg e1, if_neg (fun n => e1 (h1.mp n))]
    by_cases e2 : x = y
    · rw [if_pos e2, if_pos (h2.mpr e2)]
      rfl
    · rw [if_neg e2, if_neg (fun n => e2 (h2.mp n))]
      rfl
theorem cP_cmp (c : Jvm.ClassFile.Cond) (x y : Int) : cP c (if x > y then 1 else if x = y then 0 else -1) 0 ↔ cP c x y := by
  by_cases e1 : x > y
  · rw [if_pos e1]
    cases c <;> simp only [cP] <;> omega
  · rw [if_neg e1]
    by_cases e2 : x = y
    · rw [if_pos e2]
      subst e2
      cases c <;> simp [cP]
    · rw [if_neg e2]
      cases c <;> simp only [cP] <;> omega
theorem tmod_32 {x y : Int} (hx : inR x) (hy : inR y) : Int32.ofInt (x.tmod y) = Int32.ofInt x - Int32.ofInt x / Int32.ofInt y * Int32.ofInt y := by
  rw [Int.tmod_def, Int32.ofInt_sub, Int32.ofInt_mul, Int32.ofInt_tdiv hx.1 hx.2 hy.1 hy.2, Int32.mul_comm]
theorem tmod_64 {x y : Int} (hx : inL x) (hy : inL y) : Int64.ofInt (x.tmod y) = Int64.ofInt x - Int64.ofInt x / Int64.ofInt y * Int64.ofInt y := by
  rw [Int.tmod_def, Int64.ofInt_sub, Int64.ofInt_mul, Int64.ofInt_tdiv hx.1 hx.2 hy.1 hy.2, Int64.mul_comm]
theorem i32_ne0 {y : Int} (hy : inR y) (h : ¬ y = 0) : ¬ Int32.ofInt y = 0 := by
  rw [← i32_zero, i32_eq hy (by decide)]
  exact h
theorem i64_ne0 {y : Int} (hy : inL y) (h : ¬ y = 0) : ¬ Int64.ofInt y = 0 := by
  rw [show (0 : Int64) = Int64.ofInt 0 from rfl, i64_eq hy (by decide)]
  exact h
/-- lengths of rows are small -/
def bShOK (sh : aSh) : Bool := match sh with
  | .inl _ => true
  | .inr (_, n) => Nat.blt n 10000
theorem aS_small : aS.all bShOK = true := by decide +kernel
theorem aS_len {a t n : Nat} (h : aS[a]? = some (.inr (t, n))) : n < 2147483648 := by
  have := List.all_eq_true.mp aS_small _ (List.mem_of_getElem? h)
  have := Nat.le_of_ble_eq_true this
  omega
theorem aS_out : (List.range 151).all (fun a => match aS[a]? with
  | some (.inl _) => !(bRow a) && !(bOut a)
  | some (.inr (t, _)) => (Nat.beq t 4 == bOut a) && (!(bRow a) || Nat.beq t 0)
  | none => true) = true := by decide +kernel
theorem aS_lt {a : Nat} {sh : aSh} (h : aS[a]? = some sh) : a < 151 := by
  have := (List.getElem?_eq_some_iff.mp h).1
  exact this
theorem aS_obj {a c : Nat} (h : aS[a]? = some (.inl c)) : bRow a = false ∧ bOut a = false := by
  have := List.all_eq_true.mp aS_out a (List.mem_range.mpr (aS_lt h))
  rw [h] at this
  simpa using this
theorem aS_arr {a t n : Nat} (h : aS[a]? = some (.inr (t, n))) : (t = 4 ↔ bOut a = true) ∧ (bRow a = true → t = 0) := by
  have := List.all_eq_true.mp aS_out a (List.mem_range.mpr (aS_lt h))
  rw [h] at this
  simp only [Bool.and_eq_true] at this
  obtain ⟨h1, h2⟩ := this
  refine ⟨?_, fun hr => ?_⟩
  · cases hb : bOut a with
    | true =>
      rw [hb] at h1
      exact ⟨fun _ => rfl, fun _ => Nat.eq_of_beq_eq_true (by simpa using h1)⟩
    | false =>
      rw [hb] at h1
      refine ⟨fun e => ?_, fun n => by cases n⟩
      subst e
      exact absurd h1 (by decide)
  · rw [hr] at h2
    exact Nat.eq_of_beq_eq_true (by simpa using h2)
theorem bXn_some {xs : List Int32} {a : Nat} {n : Int} (h : bXn xs a = some n) : ∃ f : Nat → Int32, ∃ k : Nat, bX xs a = some (k, f) ∧ n = k ∧ ∀ i : Int, f i.toNat = Int32.ofInt (bXv xs a i) := by
  unfold bXn at h
  split at h
  · cases h
    exact ⟨fun j => (xs.take 3072).getD j 0, (xs.take 3072).length, rfl, rfl, fun i => (Int32.ofInt_toInt _).symm⟩
  · cases h
    exact ⟨fun j => (bStL 1001).getD j 0, 7, rfl, rfl, fun i => (Int32.ofInt_toInt _).symm⟩
  · cases h
    exact ⟨fun j => (bStL 1002).getD j 0, 3, rfl, rfl, fun i => (Int32.ofInt_toInt _).symm⟩
  · cases h
    exact ⟨fun j => (bStL 1003).getD j 0, 3, rfl, rfl, fun i => (Int32.ofInt_toInt _).symm⟩
  · cases h
theorem nat_cast {i : Int} (h : 0 ≤ i) : ((i.toNat : Nat) : Int) = i := Int.toNat_of_nonneg h
/-- an int's place -/
def bIp (t : Nat) : Bool := Nat.beq t 0 || (Nat.beq t 1 || Nat.beq t 2)
theorem bVa_int {μ : bMm} {a k t : Nat} (h : bIp t = true) : bVa μ a k t = .int (Int32.ofInt (bMe μ a k)) := by
  match t, h with
  | 0, _ => rfl
  | 1, _ => rfl
  | 2, _ => rfl
/-- what a row holds at a place -/
theorem bσ_ldi {μ : bMm} {a t n : Nat} {i : Int} (h : aS[a]? = some (.inr (t, n))) (ht : bIp t = true) (hr : bRow a = false) (h0 : 0 ≤ i) (h1 : i < n) : bσ μ a i.toNat = .int (Int32.ofInt (μ.2 a i)) := by
  rw [bσ_arr h (by omega), bVa_int ht, bMe_plain hr, nat_cast h0]
theorem bσ_ldl {μ : bMm} {a n : Nat} {i : Int} (h : aS[a]? = some (.inr (3, n))) (h0 : 0 ≤ i) (h1 : i < n) : bσ μ a i.toNat = .long (Int64.ofInt (μ.2 a i)) := by
  rw [bσ_arr h (by omega)]
  show Value.long _ = _
  rw [nat_cast h0]
theorem bσ_ldr {μ : bMm} {a t n u w : Nat} {r i : Int} (h : bOut a = true) (h1 : aS[a]? = some (.inr (t, n))) (h2 : aS[a + 1]? = some (.inr (u, w))) (hr0 : 0 ≤ r) (hr : r < n) (h0 : 0 ≤ i) (hi : i < w) : aS[a + 1 + r.toNat]? = some (.inr (0, w)) ∧ bσ μ (a + 1 + r.toNat) i.toNat = .int (Int32.ofInt (μ.2 a (r * 1000 + i))) := by
  obtain ⟨rfl, rfl, hw, hR⟩ := bRows h h1 h2
  obtain ⟨e1, e2, e3, -⟩ := hR r.toNat (by omega)
  refine ⟨e1, ?_⟩
  rw [bσ_arr e1 (by omega)]
  show Value.int (Int32.ofInt (bMe _ _ _)) = _
  rw [bMe_row e2 e3, nat_cast hr0, nat_cast h0]
