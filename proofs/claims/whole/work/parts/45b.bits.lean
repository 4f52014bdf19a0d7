/-! B: masks -/
def qB (s k : Int) : Bool := Nat.testBit s.toNat k.toNat
theorem qB_f : ∀ s : Fin 64, ∀ k : Fin 6, (bAnd (bShr (s.val : Int) (k.val : Int)) 1 = 1 ↔ Nat.testBit s.val k.val = true) := by decide +kernel
theorem qB_t {s k : Int} (s0 : 0 ≤ s) (s1 : s < 64) (k0 : 0 ≤ k) (k1 : k < 6) : bAnd (bShr s k) 1 = 1 ↔ qB s k = true := by
  obtain ⟨a, rfl⟩ := Int.eq_ofNat_of_zero_le s0
  obtain ⟨b, rfl⟩ := Int.eq_ofNat_of_zero_le k0
  exact qB_f ⟨a, by omega⟩ ⟨b, by omega⟩
theorem qB_0 {k : Int} : qB 0 k = false := by
  unfold qB
  rw [show (0 : Int).toNat = 0 from rfl, Nat.zero_testBit]
theorem qpw_f : ∀ p : Fin 7, bShl 1 (p.val : Int) = 2 ^ p.val := by decide +kernel
theorem qpw_e {p : Int} (p0 : 0 ≤ p) (p1 : p ≤ 6) : bShl 1 p = 2 ^ p.toNat := by
  obtain ⟨a, rfl⟩ := Int.eq_ofNat_of_zero_le p0
  exact qpw_f ⟨a, by omega⟩
theorem qpw_s {p : Int} (p0 : 0 ≤ p) (p1 : p < 6) : bShl 1 (p + 1) = 2 * bShl 1 p := by
  rw [qpw_e p0 (by omega), qpw_e (by omega) (by omega), show (p + 1).toNat = p.toNat + 1 by omega, Int.pow_succ]
  omega
theorem qpw_m {p q : Int} (p0 : 0 ≤ p) (h : p ≤ q) (q1 : q ≤ 6) : bShl 1 p ≤ bShl 1 q := by
  have H : ∀ p q : Fin 7, p.val ≤ q.val → bShl 1 (p.val : Int) ≤ bShl 1 (q.val : Int) := by decide +kernel
  obtain ⟨a, rfl⟩ := Int.eq_ofNat_of_zero_le p0
  obtain ⟨b, rfl⟩ := Int.eq_ofNat_of_zero_le (show 0 ≤ q by omega)
  exact H ⟨a, by omega⟩ ⟨b, by omega⟩ (by show a ≤ b; omega)
theorem qB_addN : ∀ p : Fin 6, ∀ r : Fin 32, r.val < 2 ^ p.val → ∀ k : Fin 6, Nat.testBit (2 ^ p.val + r.val) k.val = (Nat.testBit r.val k.val || decide (k.val = p.val)) := by decide +kernel
theorem qB_lt {r p : Int} (r0 : 0 ≤ r) (p0 : 0 ≤ p) (p1 : p ≤ 6) (h : r < bShl 1 p) : ∀ k, p ≤ k → qB r k = false := by
  intro k hk
  rw [qpw_e p0 p1] at h
  obtain ⟨a, rfl⟩ := Int.eq_ofNat_of_zero_le r0
  unfold qB
  refine Nat.testBit_lt_two_pow ?_
  rw [Int.toNat_natCast]
  have h1 : a < 2 ^ p.toNat := by
    have : ((2 ^ p.toNat : Nat) : Int) = (2 : Int) ^ p.toNat := by rw [Int.natCast_pow]; rfl
    omega
  exact Nat.lt_of_lt_of_le h1 (Nat.pow_le_pow_right (by omega) (by omega))
theorem qB_add {r p k : Int} (r0 : 0 ≤ r) (p0 : 0 ≤ p) (p1 : p < 6) (h : r < bShl 1 p) (k0 : 0 ≤ k) (k1 : k < 6) : qB (bShl 1 p + r) k = (qB r k || decide (k = p)) := by
  rw [qpw_e p0 (by omega)] at h ⊢
  obtain ⟨a, rfl⟩ := Int.eq_ofNat_of_zero_le r0
  obtain ⟨b, rfl⟩ := Int.eq_ofNat_of_zero_le p0
  obtain ⟨c, rfl⟩ := Int.eq_ofNat_of_zero_le k0
  have e1 : ((2 ^ b : Nat) : Int) = (2 : Int) ^ b := by rw [Int.natCast_pow]; rfl
  rw [Int.toNat_natCast] at h ⊢
  have h1 : a < 2 ^ b := by omega
  have h32 : 2 ^ b ≤ 32 := by
    have H : ∀ b : Fin 6, 2 ^ b.val ≤ 32 := by decide
    exact H ⟨b, by omega⟩
  have := qB_addN ⟨b, by omega⟩ ⟨a, by omega⟩ h1 ⟨c, by omega⟩
  unfold qB
  rw [show ((2 : Int) ^ b + (a : Int)).toNat = 2 ^ b + a by omega, Int.toNat_natCast, Int.toNat_natCast]
  dsimp only at this
  rw [this]
  congr 1
  by_cases e : c = b
  · rw [decide_eq_true e, decide_eq_true (by omega)]
  · rw [decide_eq_false e, decide_eq_false (by omega)]
theorem qB_full {n k : Int} (n0 : 0 ≤ n) (n1 : n ≤ 6) (k0 : 0 ≤ k) (k1 : k < 6) : qB (bShl 1 n - 1) k = decide (k < n) := by
  have H : ∀ n : Fin 7, ∀ k : Fin 6, Nat.testBit (bShl 1 (n.val : Int) - 1).toNat k.val = decide (k.val < n.val) := by decide +kernel
  obtain ⟨a, rfl⟩ := Int.eq_ofNat_of_zero_le n0
  obtain ⟨b, rfl⟩ := Int.eq_ofNat_of_zero_le k0
  have := H ⟨a, by omega⟩ ⟨b, by omega⟩
  unfold qB
  rw [Int.toNat_natCast]
  dsimp only at this
  rw [this]
  by_cases e : b < a
  · rw [decide_eq_true e, decide_eq_true (by omega)]
  · rw [decide_eq_false e, decide_eq_false (by omega)]
/-- part of a mask -/
def qSu (q s : Int) : Prop := q.toNat &&& s.toNat = q.toNat
theorem qSu_B {q s k : Int} (h : qSu q s) (hb : qB q k = true) : qB s k = true := by
  unfold qSu at h
  unfold qB at *
  rw [← h, Nat.testBit_and, Bool.and_eq_true] at hb
  exact hb.2
theorem qB_ext {q s : Int} (q0 : 0 ≤ q) (q1 : q < 64) (s0 : 0 ≤ s) (s1 : s < 64) (h : ∀ k, 0 ≤ k → k < 6 → qB q k = qB s k) : q = s := by
  obtain ⟨a, rfl⟩ := Int.eq_ofNat_of_zero_le q0
  obtain ⟨b, rfl⟩ := Int.eq_ofNat_of_zero_le s0
  have : a = b := by
    refine Nat.eq_of_testBit_eq (fun i => ?_)
    by_cases hi : i < 6
    · have := h (i : Int) (by omega) (by omega)
      unfold qB at this
      rw [Int.toNat_natCast, Int.toNat_natCast, Int.toNat_natCast] at this
      exact this
    · have h64 : 64 ≤ 2 ^ i := by
        calc 64 = 2 ^ 6 := rfl
          _ ≤ 2 ^ i := Nat.pow_le_pow_right (by omega) (by omega)
      rw [Nat.testBit_lt_two_pow (show a < 2 ^ i by omega), Nat.testBit_lt_two_pow (show b < 2 ^ i by omega)]
  rw [this]
theorem qSu_of {q s : Int} (q0 : 0 ≤ q) (q1 : q < 64) (h : ∀ k, 0 ≤ k → k < 6 → qB q k = true → qB s k = true) : qSu q s := by
  unfold qSu
  obtain ⟨a, rfl⟩ := Int.eq_ofNat_of_zero_le q0
  refine Nat.eq_of_testBit_eq (fun i => ?_)
  rw [Nat.testBit_and, Int.toNat_natCast]
  by_cases hi : i < 6
  · have := h (i : Int) (by omega) (by omega)
    unfold qB at this
    rw [Int.toNat_natCast, Int.toNat_natCast] at this
    cases e : Nat.testBit a i with
    | false => rfl
    | true => rw [this e]; rfl
  · have h64 : 64 ≤ 2 ^ i := by
      calc 64 = 2 ^ 6 := rfl
        _ ≤ 2 ^ i := Nat.pow_le_pow_right (by omega) (by omega)
    rw [Nat.testBit_lt_two_pow (show a < 2 ^ i by omega), Bool.false_and]
theorem qAndN {a b : Nat} (ha : a < 2147483648) (hb : b < 2147483648) : bAnd (a : Int) (b : Int) = ((a &&& b : Nat) : Int) := by
  unfold bAnd
  have e : (Int32.ofInt (a : Int) &&& Int32.ofInt (b : Int)).toInt = (BitVec.ofInt 32 (a : Int) &&& BitVec.ofInt 32 (b : Int)).toInt := rfl
  rw [e]
  have hn : (BitVec.ofInt 32 (a : Int) &&& BitVec.ofInt 32 (b : Int)).toNat = a &&& b := by
    rw [BitVec.toNat_and, BitVec.toNat_ofInt, BitVec.toNat_ofInt]
    show ((a : Int) % 4294967296).toNat &&& ((b : Int) % 4294967296).toNat = _
    rw [show ((a : Int) % 4294967296).toNat = a by omega, show ((b : Int) % 4294967296).toNat = b by omega]
  have hl : a &&& b ≤ a := Nat.and_le_left
  rw [BitVec.toInt_eq_toNat_of_lt (by rw [hn]; omega), hn]
theorem qXorN {a b : Nat} (ha : a < 64) (hb : b < 64) : bXor (a : Int) (b : Int) = ((a ^^^ b : Nat) : Int) ∧ a ^^^ b < 64 := by
  have hl : a ^^^ b < 2 ^ 6 := Nat.xor_lt_two_pow ha hb
  have hl : a ^^^ b < 64 := hl
  refine ⟨?_, hl⟩
  unfold bXor
  have e : (Int32.ofInt (a : Int) ^^^ Int32.ofInt (b : Int)).toInt = (BitVec.ofInt 32 (a : Int) ^^^ BitVec.ofInt 32 (b : Int)).toInt := rfl
  rw [e]
  have hn : (BitVec.ofInt 32 (a : Int) ^^^ BitVec.ofInt 32 (b : Int)).toNat = a ^^^ b := by
    rw [BitVec.toNat_xor, BitVec.toNat_ofInt, BitVec.toNat_ofInt]
    show ((a : Int) % 4294967296).toNat ^^^ ((b : Int) % 4294967296).toNat = _
    rw [show ((a : Int) % 4294967296).toNat = a by omega, show ((b : Int) % 4294967296).toNat = b by omega]
  rw [BitVec.toInt_eq_toNat_of_lt (by rw [hn]; omega), hn]
theorem qnx_N : ∀ s : Fin 64, ∀ x : Fin 64, x.val &&& s.val = x.val → 0 < x.val → ((x.val - 1) &&& s.val < x.val ∧ ((x.val - 1) &&& s.val) &&& s.val = (x.val - 1) &&& s.val) ∧ ∀ q : Fin 64, q.val &&& s.val = q.val → q.val < x.val → q.val ≤ (x.val - 1) &&& s.val := by decide +kernel
/-- the next part of a mask -/
theorem qnxp {s x : Int} (s0 : 0 ≤ s) (s1 : s < 64) (x0 : 0 < x) (x1 : x < 64) (h : qSu x s) : 0 ≤ bAnd (x - 1) s ∧ bAnd (x - 1) s < x ∧ qSu (bAnd (x - 1) s) s ∧ ∀ q, 0 ≤ q → qSu q s → q < x → q ≤ bAnd (x - 1) s := by
  obtain ⟨a, rfl⟩ := Int.eq_ofNat_of_zero_le s0
  obtain ⟨b, rfl⟩ := Int.eq_ofNat_of_zero_le (show 0 ≤ x by omega)
  unfold qSu at *
  rw [Int.toNat_natCast, Int.toNat_natCast] at h
  have e : bAnd ((b : Int) - 1) (a : Int) = (((b - 1) &&& a : Nat) : Int) := by
    rw [show (b : Int) - 1 = ((b - 1 : Nat) : Int) by omega, qAndN (by omega) (by omega)]
  rw [e]
  have := qnx_N ⟨a, by omega⟩ ⟨b, by omega⟩ h (by show 0 < b; omega)
  dsimp only at this
  refine ⟨by omega, by omega, ?_, fun q q0 hq hx => ?_⟩
  · rw [Int.toNat_natCast, Int.toNat_natCast]
    exact this.1.2
  · obtain ⟨c, rfl⟩ := Int.eq_ofNat_of_zero_le q0
    rw [Int.toNat_natCast, Int.toNat_natCast] at hq
    have := this.2 ⟨c, by omega⟩ hq (by show c < b; omega)
    dsimp only at this
    omega
theorem qxo {s q : Int} (s0 : 0 ≤ s) (s1 : s < 64) (q0 : 0 ≤ q) (q1 : q < 64) (h : qSu q s) : 0 ≤ bXor s q ∧ bXor s q < 64 ∧ (∀ k, qB (bXor s q) k = (qB s k && !qB q k)) := by
  obtain ⟨a, rfl⟩ := Int.eq_ofNat_of_zero_le s0
  obtain ⟨b, rfl⟩ := Int.eq_ofNat_of_zero_le q0
  obtain ⟨e, hl⟩ := qXorN (a := a) (b := b) (by omega) (by omega)
  rw [e]
  refine ⟨by omega, by omega, fun k => ?_⟩
  have hs := fun hb => qSu_B (k := k) h hb
  unfold qB at *
  rw [Int.toNat_natCast, Int.toNat_natCast] at *
  rw [Int.toNat_natCast, Nat.testBit_xor]
  cases e2 : Nat.testBit b k.toNat with
  | false => cases Nat.testBit a k.toNat <;> rfl
  | true => rw [hs e2]; rfl
/-- masks of all there are -/
theorem qmk (p : Int → Bool) : ∀ n, 0 ≤ n → n ≤ 6 → ∃ q, 0 ≤ q ∧ q < bShl 1 n ∧ ∀ k, 0 ≤ k → k < n → qB q k = p k := by
  refine qAsc (fun _ => ⟨0, by omega, by decide +kernel, fun k a b => by omega⟩) ?_
  intro n hn ih h6
  obtain ⟨q, q0, q1, hq⟩ := ih (by omega)
  have ps := qpw_s hn (show n < 6 by omega)
  by_cases e : p n = true
  · refine ⟨bShl 1 n + q, by omega, by omega, fun k a b => ?_⟩
    rw [qB_add q0 hn (by omega) q1 a (by omega)]
    by_cases ek : k = n
    · rw [decide_eq_true ek, Bool.or_true, ek, e]
    · rw [decide_eq_false ek, Bool.or_false]
      exact hq k a (by omega)
  · refine ⟨q, q0, by omega, fun k a b => ?_⟩
    by_cases ek : k = n
    · rw [ek, qB_lt q0 hn (by omega) q1 n (by omega)]
      exact (Bool.eq_false_iff.mpr e).symm
    · exact hq k a (by omega)
