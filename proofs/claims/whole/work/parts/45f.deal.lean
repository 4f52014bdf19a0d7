/-! B: the class deals -/
/-- the best dealings of all sets -/
def qDm (m : Nat → Int → Int) (T P N pl : Int → Int) (n nT : Int) (hs : Int → Prop) : Prop := ∀ s, 0 ≤ s → s < bShl 1 n → qBt (fun h => qAd T P N h) (qRo T) (qVa T) (qWt nT) nT (N 66) hs (qX N pl s) (m 84 s)
theorem qWt_sum {nT : Int} (h0 : 0 ≤ nT) (h6 : nT ≤ 6) {χ : Int → Bool} : 0 ≤ qsB χ (qWt nT) nT ∧ qsB χ (qWt nT) nT ≤ 111111 := by
  have nn : ∀ t, 0 ≤ qWt nT t := fun t => by unfold qWt qt10; exact Int.pow_nonneg (by omega)
  refine ⟨qsB_nn nT h0 (fun u _ _ _ => nn u), ?_⟩
  have h1 : qsB χ (qWt nT) nT ≤ qsB (fun _ => true) (qWt nT) nT := qsB_mo nT h0 (fun _ _ _ _ => rfl) (fun u _ _ _ => nn u)
  have h2 : qsB (fun _ => true) (qWt nT) nT ≤ 111111 := by
    have : nT = 0 ∨ nT = 1 ∨ nT = 2 ∨ nT = 3 ∨ nT = 4 ∨ nT = 5 ∨ nT = 6 := by omega
    rcases this with rfl | rfl | rfl | rfl | rfl | rfl | rfl <;> decide +kernel
  omega
section DLC
variable {xs : List Int32} {d : Nat} {Q : bPo} {b b0 b1 b2 : Bool} {m : Nat → Int → Int} {nT nH : Int} {T P E U N : Int → Int} {t s h k : Int}
variable {pl : Int → Int} {n : Int} {m' : Nat → Int → Int} {hs : Int → Prop}
theorem qVa_sum (hW : qWF nT nH T P E U N) {χ : Int → Bool} : 0 ≤ qsB χ (qVa T) nT ∧ qsB χ (qVa T) nT ≤ 594 := by
  have wn := qw_n hW
  refine ⟨qsB_nn nT wn.1.1 (fun u u0 u1 _ => (qw_t hW u0 u1).1.1), ?_⟩
  have := qsB_ub (χ := χ) (f := qVa T) (show (0 : Int) ≤ 99 by omega) nT wn.1.1 (fun u u0 u1 _ => (qw_t hW u0 u1).1.2)
  omega
theorem qBt_bd (hW : qWF nT nH T P E U N) {A : Int → Int → Int} {r : Int → Int} {c z : Int} {χ : Int → Bool} (hh : ∀ x, hs x → 0 ≤ x ∧ x < 6) (hb : qBt A r (qVa T) (qWt nT) nT c hs χ z) : -999999 ≤ z ∧ z ≤ 594000000 := by
  have wn := qw_n hW
  obtain ⟨⟨a, ha, ea⟩, _⟩ := hb
  have h9 : ∀ t, 0 ≤ t → t < nT → χ t = true → 0 ≤ a t ∧ a t ≤ 9 := fun t t0 t1 ht => by
    rcases ha.1 t t0 t1 ht with e | e
    · omega
    · have := hh _ e
      omega
  have wp : ∀ t, 0 ≤ qWt nT t := fun t => by unfold qWt qt10; exact Int.pow_nonneg (by omega)
  rw [← ea]
  unfold qSc
  constructor
  · have h1 : qsB χ (fun t => -9 * qWt nT t) nT ≤ qsB χ (fun t => (if a t = 9 then 0 else qVa T t * 1000000) - a t * qWt nT t) nT := by
      refine qsB_lb nT wn.1.1 (fun u u0 u1 hu => ?_)
      have b1 := h9 u u0 u1 hu
      have b2 := (qw_t hW u0 u1).1.1
      have b3 : a u * qWt nT u ≤ 9 * qWt nT u := Int.mul_le_mul_of_nonneg_right b1.2 (wp u)
      have b4 : 0 ≤ qVa T u := b2
      split <;> omega
    rw [qsB_mul nT wn.1.1] at h1
    have h2 := qWt_sum (χ := χ) wn.1.1 wn.1.2
    omega
  · have h1 := qsB_ub (χ := χ) (f := fun t => (if a t = 9 then 0 else qVa T t * 1000000) - a t * qWt nT t) (show (0 : Int) ≤ 99000000 by omega) nT wn.1.1 (fun u u0 u1 hu => by
      have b1 := h9 u u0 u1 hu
      have b2 := (qw_t hW u0 u1).1
      have b3 : 0 ≤ a u * qWt nT u := Int.mul_nonneg b1.1 (wp u)
      have b4 : qVa T u ≤ 99 := b2.2
      try dsimp only
      split <;> omega)
    omega
theorem qRb_of (hW : qWF nT nH T P E U N) (hL : qLs m T N pl n nT) {x : Int} (x0 : 0 ≤ x ∧ x ≤ 216) (hS : qSp m T P N pl n nT h x) (hb : ∀ s, 0 ≤ s → s < bShl 1 n → -999999 ≤ m 84 s ∧ m 84 s ≤ 594000000) : qRb m n := by
  have wn := qw_n hW
  intro q q0 q1
  have h1 := hL.2 q q0 q1
  have h2 := (hS q q0 q1).2
  rw [h1.1, h1.2]
  refine ⟨qVa_sum hW, qWt_sum wn.1.1 wn.1.2, ?_, hb q q0 q1⟩
  rcases h2 with ⟨_, _, a, c⟩ | ⟨_, a⟩ <;> omega
theorem qX_df {q : Int} (s0 : 0 ≤ s) (s1 : s < 64) (q0 : 0 ≤ q) (hq : qSu q s) : qdf (qX N pl s) (qX N pl q) t = qX N pl (bXor s q) t := by
  have ql := qSu_le s0 hq
  have e := (qxo s0 s1 q0 (by omega) hq).2.2 (pl t)
  unfold qdf qX
  rw [e]
  cases decide (N (6 * t + 2) = 0) <;> simp
theorem qX_mk (hL : qLs m T N pl n nT) (hn : 0 ≤ n ∧ n ≤ 6) (s0 : 0 ≤ s) (s1 : s < bShl 1 n) (p : Int → Bool) : ∃ q, (0 ≤ q ∧ qSu q s) ∧ ∀ t, 0 ≤ t → t < nT → qX N pl q t = (qX N pl s t && p t) := by
  have pb := qpw (n := n) hn.1 hn.2
  obtain ⟨q, q0, q1, hq⟩ := qmk (fun k => qB s k && p (m 80 k)) n hn.1 hn.2
  refine ⟨q, ⟨q0, qSu_of q0 (by omega) (fun k k0 k1 hb => ?_)⟩, fun t t0 t1 => ?_⟩
  · by_cases e : k < n
    · rw [hq k k0 e, Bool.and_eq_true] at hb
      exact hb.1
    · rw [qB_lt q0 hn.1 hn.2 q1 k (by omega)] at hb
      exact absurd hb (by simp)
  · unfold qX
    by_cases e : N (6 * t + 2) = 0
    · have h1 := hL.1.2.1 t t0 t1 e
      rw [hq (pl t) h1.1 h1.2.1, h1.2.2, Bool.and_assoc]
    · rw [decide_eq_false e, Bool.false_and, Bool.false_and, Bool.false_and]
theorem qX_sub {q : Int} (hq : qSu q s) (hx : qX N pl q t = true) : qX N pl s t = true := by
  unfold qX at *
  rw [Bool.and_eq_true] at *
  exact ⟨hx.1, qSu_B hq hx.2⟩
theorem qShr_bt {M : Int} (hW : qWF nT nH T P E U N) (hL : qLs m T N pl n nT) (hn : 0 ≤ n ∧ n ≤ 6) (hS : qSp m T P N pl n nT h 0) (h9 : ¬ h = 9) (hh : ¬ hs h) (s0 : 0 ≤ s) (s1 : s < bShl 1 n) (hz : ∀ q, 0 ≤ q → q ≤ s → qBt (fun h => qAd T P N h) (qRo T) (qVa T) (qWt nT) nT (N 66) hs (qX N pl q) (m 84 q)) (hM : qShr m h s M) : qBt (fun h => qAd T P N h) (qRo T) (qVa T) (qWt nT) nT (N 66) (fun x => hs x ∨ x = h) (qX N pl s) M := by
  have wn := qw_n hW
  have pb := qpw (n := n) hn.1 hn.2
  obtain ⟨m1, m2, m3⟩ := hM
  have xl : ∀ q, 0 ≤ q → qSu q s → 0 ≤ bXor s q ∧ bXor s q ≤ s := fun q q0 hq => by
    by_cases e : q = 0
    · have ql := qSu_le s0 hq
      obtain ⟨a, c, e2⟩ := qxo s0 (by omega) q0 (by omega) hq
      exact ⟨a, qSu_le s0 (qSu_of a c (fun k _ _ hb => by rw [e2 k, Bool.and_eq_true] at hb; exact hb.1))⟩
    · have := qxo_lt s0 (by omega) (show 0 < q by omega) hq
      omega
  refine qBt_step (zf := fun q => m 84 (bXor s q)) (I := fun q => 0 ≤ q ∧ qSu q s) (Y := fun q => qX N pl q) wn.1.1 h9 hh (fun p => qX_mk hL hn s0 s1 p) (fun q hq _ => ?_) (hz s s0 (by omega)) m1 (fun q hq _ hne hf => ?_) ?_
  · have x1 := xl q hq.1 hq.2
    exact qBt_cg wn.1.1 (fun u _ _ => (qX_df s0 (by omega) hq.1 hq.2).symm) (hz _ x1.1 x1.2)
  · have ql := qSu_le s0 hq.2
    have qp : 0 < q := by
      by_cases e : q = 0
      · obtain ⟨t, _, _, ht⟩ := hne
        rw [e] at ht
        rw [qX_0] at ht
        exact absurd ht (by simp)
      · omega
    have h1 := hL.2 q hq.1 (by omega)
    have h2 := (hS q hq.1 (by omega)).2
    rw [show N 66 + 0 = N 66 by omega] at h2
    have h3 : ¬ m 83 q = -1 := by
      rcases h2 with ⟨_, _, a, _⟩ | ⟨a, _⟩
      · omega
      · exact absurd hf a
    have := m2 q qp hq.2 h3
    rw [h1.1, h1.2] at this
    exact this
  · rcases m3 with e | ⟨q, qp, hq, h3, e⟩
    · exact Or.inl e
    · have ql := qSu_le s0 hq
      have h1 := hL.2 q (by omega) (by omega)
      have h2 := (hS q (by omega) (by omega)).2
      rw [show N 66 + 0 = N 66 by omega] at h2
      refine Or.inr ⟨q, ⟨by omega, hq⟩, fun t _ _ ht => qX_sub hq ht, ?_, ?_⟩
      · rcases h2 with ⟨a, _⟩ | ⟨_, a⟩
        · exact a
        · exact absurd a h3
      · rw [h1.1, h1.2] at e
        exact e
end DLC
