/-! B: ACTS: rows of what changes, the past of both sides -/
def qset (f : Int → Int) (k z : Int) : Int → Int := fun j => if j = k then z else f j
theorem qup_f {m : Nat → Int → Int} {a : Nat} {k z : Int} : up m a k z a = qset (m a) k z := by funext j; simp [up, qset]
theorem qset_s {f : Int → Int} {k z : Int} : qset f k z k = z := by simp [qset]
theorem qset_o {f : Int → Int} {k z j : Int} (h : ¬ j = k) : qset f k z j = f j := by simp [qset, h]
section LV
variable {nT nH : Int} {T L L' N N' : Int → Int} {t h k z : Int}
theorem qLv_congr (h6 : nT ≤ 6) (h7 : nH ≤ 6) (hL : ∀ i, 0 ≤ i → i < 67 → L' i = L i) (hv : qLv nT nH L N) : qLv nT nH L' N := by
  refine ⟨fun t h0 h1 => ?_, fun h k h0 h1 h2 h3 => ?_, ?_⟩
  · have e := hv.1 t h0 h1
    rw [hL (0 + t) (by omega) (by omega), hL (6 + t) (by omega) (by omega), hL (12 + t) (by omega) (by omega), hL (18 + t) (by omega) (by omega), hL (24 + t) (by omega) (by omega), hL (30 + t) (by omega) (by omega)]
    exact e
  · rw [hL _ (by omega) (by omega)]
    exact hv.2.1 h k h0 h1 h2 h3
  · rw [hL _ (by omega) (by omega)]
    exact hv.2.2
theorem qLv_congr2 (h6 : nT ≤ 6) (h7 : nH ≤ 6) (hL : ∀ i, 0 ≤ i → i < 67 → N' i = N i) (hv : qLv nT nH L N) : qLv nT nH L N' := by
  refine ⟨fun t h0 h1 => ?_, fun h k h0 h1 h2 h3 => ?_, ?_⟩
  · have e := hv.1 t h0 h1
    rw [hL (6 * t) (by omega) (by omega), hL (6 * t + 1) (by omega) (by omega), hL (6 * t + 2) (by omega) (by omega), hL (6 * t + 3) (by omega) (by omega), hL (6 * t + 4) (by omega) (by omega), hL (6 * t + 5) (by omega) (by omega)]
    exact e
  · rw [hL _ (by omega) (by omega)]
    exact hv.2.1 h k h0 h1 h2 h3
  · rw [hL _ (by omega) (by omega)]
    exact hv.2.2
theorem qNw_congr (h6 : nT ≤ 6) (h7 : nH ≤ 6) (hL : ∀ i, 0 ≤ i → i < 67 → N' i = N i) (hv : qNw nT nH T N) : qNw nT nH T N' := by
  refine ⟨fun t h0 h1 => ?_, fun h k h0 h1 h2 h3 => ?_, ?_⟩
  · have e := hv.1 t h0 h1
    rw [hL (6 * t) (by omega) (by omega), hL (6 * t + 1) (by omega) (by omega), hL (6 * t + 2) (by omega) (by omega), hL (6 * t + 3) (by omega) (by omega), hL (6 * t + 4) (by omega) (by omega), hL (6 * t + 5) (by omega) (by omega)]
    exact e
  · rw [hL _ (by omega) (by omega)]
    exact hv.2.1 h k h0 h1 h2 h3
  · rw [hL _ (by omega) (by omega)]
    exact hv.2.2
theorem qLv_dn (h6 : nT ≤ 6) (h7 : nH ≤ 6) (t0 : 0 ≤ t) (t1 : t < nT) (hv : qLv nT nH L N) : qLv nT nH (qset L (0 + t) z) (qset N (6 * t) z) := by
  refine ⟨fun t' a0 a1 => ?_, fun h k b0 b1 b2 b3 => ?_, ?_⟩
  · have e := hv.1 t' a0 a1
    simp only [qset]
    refine ⟨?_, ?_, ?_, ?_, ?_, ?_⟩ <;> (split <;> split <;> omega)
  · have e := hv.2.1 h k b0 b1 b2 b3
    simp only [qset]
    split <;> split <;> omega
  · have e := hv.2.2
    simp only [qset]
    split <;> split <;> omega
theorem qLv_go (h6 : nT ≤ 6) (h7 : nH ≤ 6) (t0 : 0 ≤ t) (t1 : t < nT) (hv : qLv nT nH L N) : qLv nT nH (qset L (6 + t) z) (qset N (6 * t + 3) z) := by
  refine ⟨fun t' a0 a1 => ?_, fun h k b0 b1 b2 b3 => ?_, ?_⟩
  · have e := hv.1 t' a0 a1
    simp only [qset]
    refine ⟨?_, ?_, ?_, ?_, ?_, ?_⟩ <;> (split <;> split <;> omega)
  · have e := hv.2.1 h k b0 b1 b2 b3
    simp only [qset]
    split <;> split <;> omega
  · have e := hv.2.2
    simp only [qset]
    split <;> split <;> omega
theorem qLv_ho (h6 : nT ≤ 6) (h7 : nH ≤ 6) (t0 : 0 ≤ t) (t1 : t < nT) (hv : qLv nT nH L N) : qLv nT nH (qset L (12 + t) z) (qset N (6 * t + 1) z) := by
  refine ⟨fun t' a0 a1 => ?_, fun h k b0 b1 b2 b3 => ?_, ?_⟩
  · have e := hv.1 t' a0 a1
    simp only [qset]
    refine ⟨?_, ?_, ?_, ?_, ?_, ?_⟩ <;> (split <;> split <;> omega)
  · have e := hv.2.1 h k b0 b1 b2 b3
    simp only [qset]
    split <;> split <;> omega
  · have e := hv.2.2
    simp only [qset]
    split <;> split <;> omega
theorem qLv_st (h6 : nT ≤ 6) (h7 : nH ≤ 6) (t0 : 0 ≤ t) (t1 : t < nT) (hv : qLv nT nH L N) : qLv nT nH (qset L (18 + t) z) (qset N (6 * t + 2) z) := by
  refine ⟨fun t' a0 a1 => ?_, fun h k b0 b1 b2 b3 => ?_, ?_⟩
  · have e := hv.1 t' a0 a1
    simp only [qset]
    refine ⟨?_, ?_, ?_, ?_, ?_, ?_⟩ <;> (split <;> split <;> omega)
  · have e := hv.2.1 h k b0 b1 b2 b3
    simp only [qset]
    split <;> split <;> omega
  · have e := hv.2.2
    simp only [qset]
    split <;> split <;> omega
theorem qLv_on (h6 : nT ≤ 6) (h7 : nH ≤ 6) (t0 : 0 ≤ t) (t1 : t < nT) (hv : qLv nT nH L N) : qLv nT nH (qset L (24 + t) z) (qset N (6 * t + 4) z) := by
  refine ⟨fun t' a0 a1 => ?_, fun h k b0 b1 b2 b3 => ?_, ?_⟩
  · have e := hv.1 t' a0 a1
    simp only [qset]
    refine ⟨?_, ?_, ?_, ?_, ?_, ?_⟩ <;> (split <;> split <;> omega)
  · have e := hv.2.1 h k b0 b1 b2 b3
    simp only [qset]
    split <;> split <;> omega
  · have e := hv.2.2
    simp only [qset]
    split <;> split <;> omega
theorem qLv_by (h6 : nT ≤ 6) (h7 : nH ≤ 6) (t0 : 0 ≤ t) (t1 : t < nT) (hv : qLv nT nH L N) : qLv nT nH (qset L (30 + t) z) (qset N (6 * t + 5) z) := by
  refine ⟨fun t' a0 a1 => ?_, fun h k b0 b1 b2 b3 => ?_, ?_⟩
  · have e := hv.1 t' a0 a1
    simp only [qset]
    refine ⟨?_, ?_, ?_, ?_, ?_, ?_⟩ <;> (split <;> split <;> omega)
  · have e := hv.2.1 h k b0 b1 b2 b3
    simp only [qset]
    split <;> split <;> omega
  · have e := hv.2.2
    simp only [qset]
    split <;> split <;> omega
theorem qLv_sk (h6 : nT ≤ 6) (h7 : nH ≤ 6) (h0 : 0 ≤ h) (h1 : h < nH) (h2 : 0 ≤ k) (h3 : k < 5) (hv : qLv nT nH L N) : qLv nT nH (qset L (36 + h * 5 + k) z) (qset N (36 + 5 * h + k) z) := by
  refine ⟨fun t' a0 a1 => ?_, fun h k b0 b1 b2 b3 => ?_, ?_⟩
  · have e := hv.1 t' a0 a1
    simp only [qset]
    refine ⟨?_, ?_, ?_, ?_, ?_, ?_⟩ <;> (split <;> split <;> omega)
  · have e := hv.2.1 h k b0 b1 b2 b3
    simp only [qset]
    split <;> split <;> omega
  · have e := hv.2.2
    simp only [qset]
    split <;> split <;> omega
theorem qLv_day (h6 : nT ≤ 6) (h7 : nH ≤ 6) (hv : qLv nT nH L N) : qLv nT nH (qset L 66 z) (qset N 66 z) := by
  refine ⟨fun t' a0 a1 => ?_, fun h k b0 b1 b2 b3 => ?_, ?_⟩
  · have e := hv.1 t' a0 a1
    simp only [qset]
    refine ⟨?_, ?_, ?_, ?_, ?_, ?_⟩ <;> (split <;> split <;> omega)
  · have e := hv.2.1 h k b0 b1 b2 b3
    simp only [qset]
    split <;> split <;> omega
  · have e := hv.2.2
    rw [qset_s, qset_s]
theorem qNw_ho (h6 : nT ≤ 6) (h7 : nH ≤ 6) (t0 : 0 ≤ t) (t1 : t < nT) (hz : -1 ≤ z ∧ z < nH) (hv : qNw nT nH T N) : qNw nT nH T (qset N (6 * t + 1) z) := by
  refine ⟨fun t' a0 a1 => ?_, fun h k b0 b1 b2 b3 => ?_, ?_⟩
  · have e := hv.1 t' a0 a1
    rw [qset_o (show ¬ 6 * t' = 6 * t + 1 by omega), qset_o (show ¬ 6 * t' + 2 = 6 * t + 1 by omega), qset_o (show ¬ 6 * t' + 3 = 6 * t + 1 by omega), qset_o (show ¬ 6 * t' + 4 = 6 * t + 1 by omega), qset_o (show ¬ 6 * t' + 5 = 6 * t + 1 by omega)]
    refine ⟨e.1, ?_, e.2.2⟩
    simp only [qset]
    split
    · exact hz
    · exact e.2.1
  · rw [qset_o (by omega)]
    exact hv.2.1 h k b0 b1 b2 b3
  · rw [qset_o (by omega)]
    exact hv.2.2
theorem qNw_sk (h6 : nT ≤ 6) (h7 : nH ≤ 6) (h0 : 0 ≤ h) (h1 : h < nH) (h2 : 0 ≤ k) (h3 : k < 5) (hz : 0 ≤ z ∧ z ≤ 9) (hv : qNw nT nH T N) : qNw nT nH T (qset N (36 + 5 * h + k) z) := by
  refine ⟨fun t' a0 a1 => ?_, fun h k b0 b1 b2 b3 => ?_, ?_⟩
  · have e := hv.1 t' a0 a1
    rw [qset_o (by omega), qset_o (by omega), qset_o (by omega), qset_o (by omega), qset_o (by omega), qset_o (by omega)]
    exact e
  · simp only [qset]
    split
    · exact hz
    · exact hv.2.1 h k b0 b1 b2 b3
  · rw [qset_o (by omega)]
    exact hv.2.2
end LV
/-! the past: c rows, A -/
def qpc (c : Int) : Int := min (c + 1) 40
def qpA (c : Int) (A : Int → Int → Int) (N : Int → Int) : Int → Int → Int := fun j => if j = qpc c - 1 then N else if c < 40 then A j else A (j + 1)
def qPc (m : Nat → Int → Int) (nT nH : Int) (T : Int → Int) (c : Int) (A : Int → Int → Int) : Prop :=
  m 36 3 = c ∧ (0 ≤ m 36 2 ∧ m 36 2 < 40) ∧ (0 ≤ c ∧ c ≤ 40) ∧ ∀ j, 0 ≤ j → j < c → qNw nT nH T (A j) ∧ qLv nT nH (fun i => m 37 (((m 36 2 - c + j + 40) % 40) * 1000 + i)) (A j)
def qPm (m : Nat → Int → Int) (c : Int) (A : Int → Int → Int) : Prop := m 120 38 = c ∧ ∀ j i, 0 ≤ j → j < c → 0 ≤ i → i < 67 → m 136 (67 * j + i) = A j i
def qFkeep (a : Nat) (k : Int) : Prop := a = 37 ∨ (a = 36 ∧ (k = 2 ∨ k = 3))
def qFrem (a : Nat) (k : Int) : Prop := a = 136 ∨ (a = 120 ∧ k = 38)
section PAST
variable {xs : List Int32} {d : Nat} {Q : bPo} {b b0 b1 b2 : Bool} {m : Nat → Int → Int} {nT nH : Int} {T P E U N : Int → Int} {t s h k : Int}
variable {c : Int} {A : Int → Int → Int}
theorem c_keep (hW : qWF nT nH T P E U N) (hE : qER m (bW b) nT nH T P E U N) (hp : qPc m nT nH T c A) (hQ : ∀ m', qFr qFkeep m m' → qPc m' nT nH T (qpc c) (qpA c A N) → Q 0 ((b0, b1, b2), m')) : bC xs 1 105 [vr 36, vr (bW b + 9)] ((b0, b1, b2), m) Q := by
  obtain ⟨p1, p2, p3, p4⟩ := hp
  have wn := qw_n hW
  have hw := qW b
  refine qC rfl fun d hd => r_X8_keep_0 hd ⟨p2, p2, ?_⟩
  rw [p1]
  (with_reducible repeat' (first | exact True.intro | apply And.intro | intro _))
  all_goals first | omega | skip
  have em : Int.tmod (m 36 2 + 1) 40 = (m 36 2 + 1) % 40 := Int.tmod_eq_emod_of_nonneg (by omega)
  refine hQ _ (qFr_up (qFr_up (qFr_cp qFr.refl ?_) ?_) ?_) ?_
  · intro j _ _
    exact Or.inl rfl
  · exact Or.inr ⟨rfl, Or.inl rfl⟩
  · exact Or.inr ⟨rfl, Or.inr rfl⟩
  · have e3 : ∀ K : Nat → Int → Int, (up (up K 36 2 (Int.tmod (m 36 2 + 1) 40)) 36 3 (min (c + 1) 40)) 36 2 = (m 36 2 + 1) % 40 := fun K => by rw [qup_o (by omega), qup_s, em]
    have e4 : ∀ K : Nat → Int → Int, (up (up K 36 2 (Int.tmod (m 36 2 + 1) 40)) 36 3 (min (c + 1) 40)) 37 = K 37 := fun K => by rw [qup_n (by omega), qup_n (by omega)]
    refine ⟨by rw [qup_s]; rfl, by rw [e3]; omega, by unfold qpc; omega, ?_⟩
    intro j j0 j1
    rw [e3, e4]
    have hc : qpc c = min (c + 1) 40 := rfl
    by_cases hj : j = qpc c - 1
    · have er : ((m 36 2 + 1) % 40 - qpc c + j + 40) % 40 = m 36 2 := by omega
      rw [er]
      unfold qpA
      rw [if_pos hj]
      refine ⟨qw_nw hW, qLv_congr (by omega) (by omega) (L := m (bW b + 9)) ?_ hE.2⟩
      intro i i0 i1
      rw [qcp_i (by omega) (by omega)]
      congr 1
      omega
    · unfold qpA
      rw [if_neg hj]
      by_cases h40 : c < 40
      · have er : ((m 36 2 + 1) % 40 - qpc c + j + 40) % 40 = (m 36 2 - c + j + 40) % 40 := by omega
        rw [er, if_pos h40]
        refine ⟨(p4 j j0 (by omega)).1, qLv_congr (by omega) (by omega) ?_ (p4 j j0 (by omega)).2⟩
        intro i i0 i1
        try dsimp only
        rw [qcp_o (by omega)]
      · have er : ((m 36 2 + 1) % 40 - qpc c + j + 40) % 40 = (m 36 2 - c + (j + 1) + 40) % 40 := by omega
        rw [er, if_neg h40]
        refine ⟨(p4 (j + 1) (by omega) (by omega)).1, qLv_congr (by omega) (by omega) ?_ (p4 (j + 1) (by omega) (by omega)).2⟩
        intro i i0 i1
        try dsimp only
        rw [qcp_o (by omega)]
theorem d_rem51 {c0 : Int} (hd : 1 ≤ d) (hc : 0 ≤ c0 ∧ c0 < 40) {m1 : Nat → Int → Int} (e : m1 120 38 = c0) (hQ : ∀ m', qFr qFrem m1 m' → m' 120 38 = c0 + 1 → (∀ i, 0 ≤ i → i < 67 → m' 136 (67 * c0 + i) = m1 135 i) → (∀ k, k < 67 * c0 → m' 136 k = m1 136 k) → Q 0 ((b0, b1, b2), m')) : bGo xs d aM_X12_remember 51 [vr 120, vi 0] [] ((b0, b1, b2), m1) Q := by
  suffices H : ∀ x, x ≤ 67 → 0 ≤ x → ∀ m', qFr qFrem m1 m' → m' 120 38 = c0 → (∀ i, 0 ≤ i → i < x → m' 136 (67 * c0 + i) = m1 135 i) → (∀ k, k < 67 * c0 → m' 136 k = m1 136 k) → bGo xs d aM_X12_remember 51 [vr 120, vi x] [] ((b0, b1, b2), m') Q from H 0 (by omega) (by omega) m1 qFr.refl e (fun i _ _ => by omega) (fun k _ => rfl)
  refine qUpto ?_
  intro x hx ih x0 m' hf e' h1 h2
  refine r_X12_remember_51 hd ?_
  have e5 : m' 135 = m1 135 := qFr_at hf 135 (by intro k; unfold qFrem; omega)
  rw [e', e5]
  by_cases hlt : x < 67
  · (with_reducible repeat' (first | exact True.intro | apply And.intro | intro _))
    all_goals first | omega | skip
    refine ih hlt (by omega) _ (qFr_up hf (Or.inl rfl)) ?_ ?_ ?_
    · rw [qup_n (by omega)]; exact e'
    · intro i i0 i1
      rw [qup_if]
      split
      · congr 1; omega
      · exact h1 i i0 (by omega)
    · intro k hk
      rw [qup_o (by omega)]
      exact h2 k hk
  · (with_reducible repeat' (first | exact True.intro | apply And.intro | intro _))
    all_goals first | omega | skip
    refine hQ _ (qFr_up hf (Or.inr ⟨rfl, rfl⟩)) ?_ ?_ ?_
    · rw [qup_s]
    · intro i i0 i1
      rw [qup_n (by omega)]
      exact h1 i i0 (by omega)
    · intro k hk
      rw [qup_n (by omega)]
      exact h2 k hk
theorem d_remember (hp : qPm m c A) (hc : 0 ≤ c ∧ c ≤ 40) (hN : m 135 = N) (hQ : ∀ m', qFr qFrem m m' → qPm m' (qpc c) (qpA c A N) → Q 0 ((b0, b1, b2), m')) : bC xs 1 233 [vr 120] ((b0, b1, b2), m) Q := by
  obtain ⟨p1, p2⟩ := hp
  refine qC rfl fun d hd => r_X12_remember_0 hd ?_
  rw [p1]
  refine ⟨by omega, fun h => ?_, fun h => ?_⟩
  · refine d_rem51 hd (show 0 ≤ c ∧ c < 40 by omega) p1 ?_
    intro m' hf e1 h1 h2
    refine hQ m' hf ⟨by rw [e1]; unfold qpc; omega, ?_⟩
    intro j i j0 j1 i0 i1
    have e2 : qpc c = c + 1 := by unfold qpc; omega
    unfold qpA
    rw [e2]
    by_cases hj : j = c + 1 - 1
    · rw [if_pos hj, ← hN, show j = c by omega]
      exact h1 i i0 i1
    · rw [if_neg hj, if_pos (by omega), h2 _ (by omega)]
      exact p2 j i j0 (by omega) i0 i1
  · suffices H : ∀ x, x ≤ 2613 → 0 ≤ x → ∀ m', qFr qFrem m m' → m' 120 38 = 40 → (∀ k, 0 ≤ k → k < x → m' 136 k = m 136 (k + 67)) → (∀ k, x ≤ k → m' 136 k = m 136 k) → bGo xs d aM_X12_remember 11 [vr 120, vi x] [] ((b0, b1, b2), m') Q from H 0 (by omega) (by omega) m qFr.refl (by omega) (fun k _ _ => by omega) (fun k _ => rfl)
    refine qUpto ?_
    intro x hx ih x0 m' hf e' h1 h2
    refine r_X12_remember_11 hd ?_
    rw [e']
    by_cases hlt : x < 2613
    · (with_reducible repeat' (first | exact True.intro | apply And.intro | intro _))
      all_goals first | omega | skip
      refine ih hlt (by omega) _ (qFr_up hf (Or.inl rfl)) ?_ ?_ ?_
      · rw [qup_n (by omega)]; exact e'
      · intro k k0 k1
        rw [qup_if]
        split
        · rename_i ek
          rw [ek]
          exact h2 _ (by omega)
        · exact h1 k k0 (by omega)
      · intro k hk
        rw [qup_o (by omega)]
        exact h2 k (by omega)
    · (with_reducible repeat' (first | exact True.intro | apply And.intro | intro _))
      all_goals first | omega | skip
      refine d_rem51 (c0 := 39) hd (by omega) (by rw [qup_s]; omega) ?_
      intro m2 hf2 e1 g1 g2
      have hf3 : qFr qFrem m m2 := (qFr_up hf (Or.inr ⟨rfl, rfl⟩)).trans hf2
      refine hQ m2 hf3 ⟨by rw [e1]; unfold qpc; omega, ?_⟩
      intro j i j0 j1 i0 i1
      have e2 : qpc c = 40 := by unfold qpc; omega
      have e5 : m' 135 = m 135 := qFr_at hf 135 (by intro k; unfold qFrem; omega)
      unfold qpA
      rw [e2]
      by_cases hj : j = 40 - 1
      · rw [if_pos hj, ← hN, show j = 39 by omega, g1 i i0 i1, qup_n (by omega), e5]
      · rw [if_neg hj, if_neg (by omega), g2 _ (by omega), qup_n (by omega), h1 _ (by omega) (by omega), show 67 * j + i + 67 = 67 * (j + 1) + i by omega]
        exact p2 (j + 1) i (by omega) (by omega) i0 i1
end PAST
