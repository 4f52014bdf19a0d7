/-! B: give, teach, undo, image, back -/
def qFact (w : Nat) (a : Nat) (k : Int) : Prop := a = 37 ∨ (a = 36 ∧ (k = 2 ∨ k = 3)) ∨ a = w + 9 ∨ a = w + 8
def qFam (a : Nat) (k : Int) : Prop := a = 136 ∨ a = 135 ∨ a = 137 ∨ (a = 120 ∧ (k = 0 ∨ k = 38 ∨ k = 40))
/-- behind an act: the class -/
def qAC (m m' : Nat → Int → Int) (w : Nat) (nT nH : Int) (T N' : Int → Int) (c' : Int) (A' : Int → Int → Int) : Prop := qFr (qFact w) m m' ∧ qLv nT nH (m' (w + 9)) N' ∧ qPc m' nT nH T c' A'
/-- behind an act: the reference -/
def qAM (m m' : Nat → Int → Int) (N' : Int → Int) (c' : Int) (A' : Int → Int → Int) : Prop := qFr qFam m m' ∧ m' 135 = N' ∧ qPm m' c' A'
theorem qTo.fr {m m' : Nat → Int → Int} {w : Nat} {nT nH : Int} {T P E U : Int → Int} (hE : qTo m w nT nH T P E U) (h0 : m' w 9 = m w 9 ∧ m' w 10 = m w 10) (h1 : m' (w + 1) = m (w + 1)) (h2 : m' (w + 2) = m (w + 2)) (h3 : m' (w + 3) = m (w + 3)) (h4 : m' (w + 4) = m (w + 4)) (h5 : m' (w + 5) = m (w + 5)) (h6 : m' (w + 6) = m (w + 6)) (h7 : m' (w + 7) = m (w + 7)) : qTo m' w nT nH T P E U := by
  unfold qTo at *
  rw [h0.1, h0.2, h1, h2, h3, h4, h5, h6, h7]
  exact hE
theorem qTo_fr {P' : Nat → Int → Prop} {m m' : Nat → Int → Int} {w : Nat} {nT nH : Int} {T P E U : Int → Int} (hf : qFr P' m m') (hE : qTo m w nT nH T P E U) (hP : ∀ a k, w ≤ a → a ≤ w + 7 → ¬ P' a k) : qTo m' w nT nH T P E U :=
  hE.fr ⟨hf _ _ (hP _ _ (by omega) (by omega)), hf _ _ (hP _ _ (by omega) (by omega))⟩ (qFr_at hf _ (fun k => hP _ k (by omega) (by omega))) (qFr_at hf _ (fun k => hP _ k (by omega) (by omega))) (qFr_at hf _ (fun k => hP _ k (by omega) (by omega))) (qFr_at hf _ (fun k => hP _ k (by omega) (by omega))) (qFr_at hf _ (fun k => hP _ k (by omega) (by omega))) (qFr_at hf _ (fun k => hP _ k (by omega) (by omega))) (qFr_at hf _ (fun k => hP _ k (by omega) (by omega)))
theorem qPc_fr {P' : Nat → Int → Prop} {m m' : Nat → Int → Int} {nT nH : Int} {T : Int → Int} {c : Int} {A : Int → Int → Int} (hf : qFr P' m m') (hp : qPc m nT nH T c A) (h1 : ¬ P' 36 2 ∧ ¬ P' 36 3) (h2 : ∀ k, ¬ P' 37 k) : qPc m' nT nH T c A := by
  unfold qPc at *
  rw [hf _ _ h1.1, hf _ _ h1.2, qFr_at hf 37 h2]
  exact hp
theorem qPm_fr {P' : Nat → Int → Prop} {m m' : Nat → Int → Int} {c : Int} {A : Int → Int → Int} (hf : qFr P' m m') (hp : qPm m c A) (h1 : ¬ P' 120 38) (h2 : ∀ k, ¬ P' 136 k) : qPm m' c A := by
  unfold qPm at *
  rw [hf _ _ h1, qFr_at hf 136 h2]
  exact hp
theorem qPm_up {m : Nat → Int → Int} {a : Nat} {k z : Int} {c : Int} {A : Int → Int → Int} (hp : qPm m c A) (h1 : ¬ (a = 120 ∧ k = 38)) (h2 : ¬ a = 136) : qPm (up m a k z) c A :=
  qPm_fr (P' := fun a' k' => a' = a ∧ k' = k) (qFr_up qFr.refl ⟨rfl, rfl⟩) hp (fun h => h1 ⟨h.1.symm, h.2.symm⟩) (fun k h => h2 h.1.symm)
theorem qPc_up {m : Nat → Int → Int} {a : Nat} {k z : Int} {nT nH : Int} {T : Int → Int} {c : Int} {A : Int → Int → Int} (hp : qPc m nT nH T c A) (h1 : ¬ a = 36) (h2 : ¬ a = 37) : qPc (up m a k z) nT nH T c A :=
  qPc_fr (P' := fun a' k' => a' = a ∧ k' = k) (qFr_up qFr.refl ⟨rfl, rfl⟩) hp ⟨fun h => h1 h.1.symm, fun h => h1 h.1.symm⟩ (fun k h => h2 h.1.symm)
section ACTS
variable {xs : List Int32} {d : Nat} {Q : bPo} {b b0 b1 b2 : Bool} {m : Nat → Int → Int} {nT nH : Int} {T P E U N : Int → Int} {t s h k : Int}
variable {c : Int} {A : Int → Int → Int}
def qgv (N : Int → Int) (nT nH t h : Int) : Prop := ((0 ≤ t ∧ t < nT) ∧ N (6 * t + 2) = 0) ∧ (h = -1 ∨ (0 ≤ h ∧ h < nH)) ∧ ¬ N (6 * t + 1) = h
theorem c_give (hW : qWF nT nH T P E U N) (hE : qER m (bW b0) nT nH T P E U N) (hp : qPc m nT nH T c A) (x1 : inR t) (x2 : inR h) (hn : ¬ qgv N nT nH t h → Q (-1) ((b0, b1, b2), m)) (hy : qgv N nT nH t h → ∀ m', qAC m m' (bW b0) nT nH T (qset N (6 * t + 1) h) (qpc c) (qpA c A N) → Q (qpc c) ((b0, b1, b2), m')) : bC xs 3 143 [vr 0, vi t, vi h] ((b0, b1, b2), m) Q := by
  refine qC rfl fun d hd => r_X11_give_0 hd ?_
  have wn := qw_n hW
  have en := qe_n hE
  have hw := qW b0
  unfold qgv at hn hy
  rw [en.1, en.2]
  by_cases ht : 0 ≤ t ∧ t < nT
  · have el := qe_l hE ht.1 ht.2
    have ws := qw_st hW ht.1 ht.2
    have wh := qw_ho hW ht.1 ht.2
    rw [el.2.2.2.1, el.2.2.1]
    have hk : (((0 ≤ t ∧ t < nT) ∧ N (6 * t + 2) = 0) ∧ (h = -1 ∨ (0 ≤ h ∧ h < nH)) ∧ ¬ N (6 * t + 1) = h) → bC xs 1 105 [vr 36, vr (bW b0 + 9)] ((b0, b1, b2), m) (fun z1 μ2 => (μ2.1 = (b0, b1, b2)) ∧ ((0 ≤ 12 + t ∧ 12 + t < 67) ∧ (Q (μ2.2 36 3) ((b0, b1, b2), up μ2.2 (bW b0 + 9) (12 + t) h)))) := by
      intro hc
      refine c_keep hW hE hp ?_
      intro m' hf hp'
      refine ⟨rfl, by omega, ?_⟩
      try dsimp only
      rw [hp'.1]
      refine hy hc _ ⟨qFr_up (hf.mono (fun a k h => ?_)) (Or.inr (Or.inr (Or.inl rfl))), ?_, qPc_up hp' (by omega) (by omega)⟩
      · unfold qFkeep at h
        unfold qFact
        omega
      · rw [qup_f, qFr_at hf (bW b0 + 9) (fun k => by unfold qFkeep; omega)]
        exact qLv_ho (by omega) (by omega) ht.1 ht.2 hE.2
    (with_reducible repeat' (first | exact True.intro | apply And.intro | intro _))
    all_goals first | omega | exact hn (by omega) | exact hk (by omega)
  · (with_reducible repeat' (first | exact True.intro | apply And.intro | intro _))
    all_goals first | omega | exact hn (by omega)
theorem d_give (hW : qWF nT nH T P E U N) (hM : qMR m nT nH T P E U N) (hp : qPm m c A) (hc : 0 ≤ c ∧ c ≤ 40) (x1 : inR t) (x2 : inR h) (hn : ¬ qgv N nT nH t h → Q (-1) ((b0, b1, b2), up m 120 0 0)) (hy : qgv N nT nH t h → ∀ m', qAM m m' (qset N (6 * t + 1) h) (qpc c) (qpA c A N) → Q (qpc c) ((b0, b1, b2), m')) : bC xs 3 234 [vr 120, vi t, vi h] ((b0, b1, b2), m) Q := by
  refine qC rfl fun d hd => r_X12_give_0 hd ?_
  have wn := qw_n hW
  unfold qgv at hn hy
  simp only [hM.1, hM.2.1, hM.2.2.1, hM.2.2.2.1, hM.2.2.2.2.1, hM.2.2.2.2.2.1, hM.2.2.2.2.2.2]
  by_cases ht : 0 ≤ t ∧ t < nT
  · have ws := qw_st hW ht.1 ht.2
    have wh := qw_ho hW ht.1 ht.2
    have hk : (((0 ≤ t ∧ t < nT) ∧ N (6 * t + 2) = 0) ∧ (h = -1 ∨ (0 ≤ h ∧ h < nH)) ∧ ¬ N (6 * t + 1) = h) → bC xs 1 233 [vr 120] ((b0, b1, b2), up m 120 0 0) (fun z1 μ2 => (μ2.1 = (b0, b1, b2)) ∧ ((0 ≤ (6 * t) + 1 ∧ (6 * t) + 1 < 67) ∧ (Q (μ2.2 120 38) ((b0, b1, b2), up μ2.2 135 ((6 * t) + 1) h)))) := by
      intro hc'
      refine d_remember (N := N) (qPm_up hp (by omega) (by omega)) hc (by rw [qup_n (by omega)]; exact hM.2.2.2.2.2.2) ?_
      intro m' hf hp'
      refine ⟨rfl, by omega, ?_⟩
      try dsimp only
      rw [hp'.1]
      refine hy hc' _ ⟨qFr_up (((qFr_up qFr.refl (by unfold qFam; omega)) : qFr qFam m (up m 120 0 0)).trans (hf.mono (fun a k h => ?_))) (by unfold qFam; omega), ?_, qPm_up hp' (by omega) (by omega)⟩
      · unfold qFrem at h
        unfold qFam
        omega
      · rw [qup_f, qFr_at hf 135 (fun k => by unfold qFrem; omega), qup_n (by omega), hM.2.2.2.2.2.2]
    (with_reducible repeat' (first | exact True.intro | apply And.intro | intro _))
    all_goals first | omega | exact hn (by omega) | exact hk (by omega)
  · (with_reducible repeat' (first | exact True.intro | apply And.intro | intro _))
    all_goals first | omega | exact hn (by omega)
def qtc (N : Int → Int) (nH h k : Int) : Prop := (0 ≤ h ∧ h < nH) ∧ (0 ≤ k ∧ k < 5) ∧ ¬ N (36 + 5 * h + k) = 9
theorem c_teach (hW : qWF nT nH T P E U N) (hE : qER m (bW b0) nT nH T P E U N) (hp : qPc m nT nH T c A) (x1 : inR h) (x2 : inR k) (hn : ¬ qtc N nH h k → Q (-1) ((b0, b1, b2), m)) (hy : qtc N nH h k → ∀ m', qAC m m' (bW b0) nT nH T (qset N (36 + 5 * h + k) (N (36 + 5 * h + k) + 1)) (qpc c) (qpA c A N) → Q (N (36 + 5 * h + k) + 1) ((b0, b1, b2), m')) : bC xs 2 144 [vr 0, vi h, vi k] ((b0, b1, b2), m) Q := by
  refine qC rfl fun d hd => r_X11_teach_0 hd ?_
  have wn := qw_n hW
  have en := qe_n hE
  have hw := qW b0
  unfold qtc at hn hy
  rw [en.2]
  by_cases ht : (0 ≤ h ∧ h < nH) ∧ 0 ≤ k ∧ k < 5
  · have ek := qe_sk hE ht.1.1 ht.1.2 ht.2.1 ht.2.2
    have wk := qw_sk hW ht.1.1 ht.1.2 ht.2.1 ht.2.2
    rw [ek]
    (with_reducible repeat' (first | exact True.intro | apply And.intro | intro _))
    all_goals first | omega | exact hn (by omega) | skip
    refine c_keep hW hE hp ?_
    intro m' hf hp'
    have e9 : m' (bW b0 + 9) = m (bW b0 + 9) := qFr_at hf (bW b0 + 9) (fun k => by unfold qFkeep; omega)
    try dsimp only
    rw [qup_s, e9, ek]
    refine ⟨rfl, by omega, by omega, by omega, hy (by omega) _ ⟨qFr_up (hf.mono (fun a k h => ?_)) (Or.inr (Or.inr (Or.inl rfl))), ?_, qPc_up hp' (by omega) (by omega)⟩⟩
    · unfold qFkeep at h
      unfold qFact
      omega
    · rw [qup_f, e9]
      exact qLv_sk (by omega) (by omega) ht.1.1 ht.1.2 ht.2.1 ht.2.2 hE.2
  · (with_reducible repeat' (first | exact True.intro | apply And.intro | intro _))
    all_goals first | omega | exact hn (by omega)
theorem d_teach (hW : qWF nT nH T P E U N) (hM : qMR m nT nH T P E U N) (hp : qPm m c A) (hc : 0 ≤ c ∧ c ≤ 40) (x1 : inR h) (x2 : inR k) (hn : ¬ qtc N nH h k → Q (-1) ((b0, b1, b2), up m 120 0 0)) (hy : qtc N nH h k → ∀ m', qAM m m' (qset N (36 + 5 * h + k) (N (36 + 5 * h + k) + 1)) (qpc c) (qpA c A N) → Q (N (36 + 5 * h + k) + 1) ((b0, b1, b2), m')) : bC xs 2 235 [vr 120, vi h, vi k] ((b0, b1, b2), m) Q := by
  refine qC rfl fun d hd => r_X12_teach_0 hd ?_
  have wn := qw_n hW
  unfold qtc at hn hy
  simp only [hM.1, hM.2.1, hM.2.2.1, hM.2.2.2.1, hM.2.2.2.2.1, hM.2.2.2.2.2.1, hM.2.2.2.2.2.2]
  by_cases ht : (0 ≤ h ∧ h < nH) ∧ 0 ≤ k ∧ k < 5
  · have wk := qw_sk hW ht.1.1 ht.1.2 ht.2.1 ht.2.2
    (with_reducible repeat' (first | exact True.intro | apply And.intro | intro _))
    all_goals first | omega | exact hn (by omega) | skip
    refine d_remember (N := N) (qPm_up hp (by omega) (by omega)) hc (by rw [qup_n (by omega)]; exact hM.2.2.2.2.2.2) ?_
    intro m' hf hp'
    have e9 : m' 135 = N := by rw [qFr_at hf 135 (fun k => by unfold qFrem; omega), qup_n (by omega), hM.2.2.2.2.2.2]
    try dsimp only
    rw [qup_s, e9]
    refine ⟨rfl, by omega, by omega, by omega, hy (by omega) _ ⟨qFr_up (((qFr_up qFr.refl (by unfold qFam; omega)) : qFr qFam m (up m 120 0 0)).trans (hf.mono (fun a k h => ?_))) (by unfold qFam; omega), ?_, qPm_up hp' (by omega) (by omega)⟩⟩
    · unfold qFrem at h
      unfold qFam
      omega
    · rw [qup_f, e9]
  · (with_reducible repeat' (first | exact True.intro | apply And.intro | intro _))
    all_goals first | omega | exact hn (by omega)
theorem c_undo (hW : qWF nT nH T P E U N) (hE : qER m (bW b0) nT nH T P E U N) (hp : qPc m nT nH T c A) (hn : c = 0 → Q (-1) ((b0, b1, b2), m)) (hy : ¬ c = 0 → ∀ m', qAC m m' (bW b0) nT nH T (A (c - 1)) (c - 1) A → Q (c - 1) ((b0, b1, b2), m')) : bC xs 2 147 [vr 0] ((b0, b1, b2), m) Q := by
  refine qC rfl fun d hd => r_X11_undo_0 hd ?_
  have wn := qw_n hW
  have hw := qW b0
  refine qC rfl fun d hd => r_X8_takeBack_0 hd ?_
  obtain ⟨p1, p2, p3, p4⟩ := hp
  rw [p1]
  have em : Int.tmod (m 36 2 + 40 - 1) 40 = (m 36 2 + 39) % 40 := by rw [Int.tmod_eq_emod_of_nonneg (by omega)]; congr 1; omega
  rw [em]
  refine ⟨by omega, fun h => ?_, fun h => ⟨rfl, by omega, fun _ => hn h, fun h => by omega⟩⟩
  (with_reducible repeat' (first | exact True.intro | apply And.intro | intro _))
  all_goals first | omega | rfl | skip
  try dsimp only
  have e3 : (cp (up (up m 36 2 ((m 36 2 + 39) % 40)) 36 3 (c - 1)) (bW b0 + 9) (0 + 0) 37 ((m 36 2 + 39) % 40 * 1000 + 0) 67) 36 = qset (qset (m 36) 2 ((m 36 2 + 39) % 40)) 3 (c - 1) := by
    rw [qcp_n (by omega), qup_f, qup_f]
  have e4 : (cp (up (up m 36 2 ((m 36 2 + 39) % 40)) 36 3 (c - 1)) (bW b0 + 9) (0 + 0) 37 ((m 36 2 + 39) % 40 * 1000 + 0) 67) 37 = m 37 := by
    rw [qcp_n (by omega), qup_n (by omega), qup_n (by omega)]
  rw [e3, qset_s]
  refine hy h _ ⟨qFr_cp (qFr_up (qFr_up qFr.refl (by unfold qFact; omega)) (by unfold qFact; omega)) (fun j _ _ => by unfold qFact; omega), ?_, ?_⟩
  · refine qLv_congr (by omega) (by omega) ?_ (p4 (c - 1) (by omega) (by omega)).2
    intro i i0 i1
    rw [qcp_i (by omega) (by omega), qup_n (by omega), qup_n (by omega)]
    congr 1
    omega
  · unfold qPc
    rw [e3, e4, qset_s, qset_o (by omega), qset_s]
    refine ⟨rfl, by omega, by omega, ?_⟩
    intro j j0 j1
    have er : ((m 36 2 + 39) % 40 - (c - 1) + j + 40) % 40 = (m 36 2 - c + j + 40) % 40 := by omega
    rw [er]
    exact p4 j j0 (by omega)
theorem d_undo (hp : qPm m c A) (hc : 0 ≤ c ∧ c ≤ 40) (hn : c = 0 → Q (-1) ((b0, b1, b2), up m 120 0 0)) (hy : ¬ c = 0 → ∀ m', qFr qFam m m' → (∀ i, 0 ≤ i → i < 67 → m' 135 i = A (c - 1) i) → qPm m' (c - 1) A → Q (c - 1) ((b0, b1, b2), m')) : bC xs 1 241 [vr 120] ((b0, b1, b2), m) Q := by
  obtain ⟨p1, p2⟩ := hp
  refine qC rfl fun d hd => r_X12_undo_0 hd ?_
  rw [p1]
  refine ⟨by omega, fun h => ?_, fun h => hn h⟩
  have e0 : up (up m 120 0 0) 120 38 (c - 1) 120 38 = c - 1 := qup_s
  suffices H : ∀ x, x ≤ 67 → 0 ≤ x → ∀ m', qFr (fun a _ => a = 135) (up (up m 120 0 0) 120 38 (c - 1)) m' → (∀ i, 0 ≤ i → i < x → m' 135 i = A (c - 1) i) → bGo xs d aM_X12_undo 26 [vr 120, vi x] [] ((b0, b1, b2), m') Q from H 0 (by omega) (by omega) _ qFr.refl (fun i _ _ => by omega)
  refine qUpto ?_
  intro x hx ih x0 m' hf h1
  refine r_X12_undo_26 hd ?_
  have e1 : m' 120 38 = c - 1 := by rw [hf 120 38 (by omega)]; exact e0
  have e2 : m' 136 = m 136 := by rw [qFr_at hf 136 (fun k => by omega), qup_n (by omega), qup_n (by omega)]
  rw [e1, e2]
  by_cases hlt : x < 67
  · (with_reducible repeat' (first | exact True.intro | apply And.intro | intro _))
    all_goals first | omega | skip
    refine ih hlt (by omega) _ (qFr_up hf rfl) ?_
    intro i i0 i1
    rw [qup_if]
    split
    · rename_i e
      rw [e]
      exact p2 (c - 1) x (by omega) (by omega) (by omega) (by omega)
    · exact h1 i i0 (by omega)
  · (with_reducible repeat' (first | exact True.intro | apply And.intro | intro _))
    all_goals first | omega | skip
    have hf2 : qFr qFam m m' := (qFr_up (qFr_up qFr.refl (by unfold qFam; omega)) (by unfold qFam; omega)).trans (hf.mono (fun a k h => by unfold qFam; omega))
    refine hy h m' hf2 (fun i i0 i1 => h1 i i0 (by omega)) ⟨e1, ?_⟩
    intro j i j0 j1 i0 i1
    rw [e2]
    exact p2 j i j0 (by omega) i0 i1
/-- the image -/
def qIm (m : Nat → Int → Int) (nT nH : Int) (T : Int → Int) : Prop := (m 36 4 = 0 ∨ m 36 4 = 1) ∧ m 36 4 = m 120 59 ∧ (m 36 4 = 1 → qNw nT nH T (m 149) ∧ qLv nT nH (m 78) (m 149))
theorem c_image (hW : qWF nT nH T P E U N) (hE : qER m (bW b0) nT nH T P E U N) (hn : ¬ 0 < nT → Q (-1) ((b0, b1, b2), m)) (hy : 0 < nT → ∀ m', qFr (fun a k => a = 78 ∨ (a = 36 ∧ k = 4)) m m' → m' 36 4 = 1 → qLv nT nH (m' 78) N → Q (N 66) ((b0, b1, b2), m')) : bC xs 2 148 [vr 0] ((b0, b1, b2), m) Q := by
  refine qC rfl fun d hd => r_X11_image_0 hd ?_
  have wn := qw_n hW
  have en := qe_n hE
  have hw := qW b0
  rw [en.1]
  refine ⟨by omega, fun h => hn (by omega), fun h => ?_⟩
  refine qC rfl fun d hd => r_X8_keepImage_0 hd ?_
  (with_reducible repeat' (first | exact True.intro | apply And.intro | intro _))
  all_goals first | omega | rfl | skip
  try dsimp only
  have e9 : (up (cp m 78 (0 + 0) (bW b0 + 9) (0 + 0) 67) 36 4 1) (bW b0 + 9) 66 = N 66 := by
    rw [qup_n (by omega), qcp_n (by omega), qe_day hE]
  rw [e9]
  refine hy h _ (qFr_up (qFr_cp qFr.refl (fun j _ _ => Or.inl rfl)) (Or.inr ⟨rfl, rfl⟩)) qup_s ?_
  refine qLv_congr (by omega) (by omega) ?_ hE.2
  intro i i0 i1
  rw [qup_n (by omega), qcp_i (by omega) (by omega)]
  congr 1
  omega
theorem d_image (hW : qWF nT nH T P E U N) (hM : qMR m nT nH T P E U N) (hn : ¬ 0 < nT → Q (-1) ((b0, b1, b2), up m 120 0 0)) (hy : 0 < nT → ∀ m', qFr (fun a k => a = 149 ∨ (a = 120 ∧ (k = 59 ∨ k = 0))) m m' → m' 120 59 = 1 → (∀ i, 0 ≤ i → i < 67 → m' 149 i = N i) → Q (N 66) ((b0, b1, b2), m')) : bC xs 1 278 [vr 120] ((b0, b1, b2), m) Q := by
  refine qC rfl fun d hd => r_X12_image_0 hd ?_
  have wn := qw_n hW
  simp only [hM.1, hM.2.1, hM.2.2.1, hM.2.2.2.1, hM.2.2.2.2.1, hM.2.2.2.2.2.1, hM.2.2.2.2.2.2]
  refine ⟨by omega, fun h => ?_, fun h => hn (by omega)⟩
  suffices H : ∀ x, x ≤ 67 → 0 ≤ x → ∀ m', qFr (fun a _ => a = 149) (up m 120 0 0) m' → (∀ i, 0 ≤ i → i < x → m' 149 i = N i) → bGo xs d aM_X12_image 16 [vr 120, vi x] [] ((b0, b1, b2), m') Q from H 0 (by omega) (by omega) _ qFr.refl (fun i _ _ => by omega)
  refine qUpto ?_
  intro x hx ih x0 m' hf h1
  refine r_X12_image_16 hd ?_
  have e2 : m' 135 = N := by rw [qFr_at hf 135 (fun k => by omega), qup_n (by omega), hM.2.2.2.2.2.2]
  rw [e2]
  by_cases hlt : x < 67
  · (with_reducible repeat' (first | exact True.intro | apply And.intro | intro _))
    all_goals first | omega | skip
    refine ih hlt (by omega) _ (qFr_up hf rfl) ?_
    intro i i0 i1
    rw [qup_if]
    split
    · rename_i e
      rw [e]
    · exact h1 i i0 (by omega)
  · (with_reducible repeat' (first | exact True.intro | apply And.intro | intro _))
    all_goals first | omega | skip
    refine hy (by omega) _ (qFr_up ((qFr_up qFr.refl (by omega) : qFr (fun a k => a = 149 ∨ (a = 120 ∧ (k = 59 ∨ k = 0))) m (up m 120 0 0)).trans (hf.mono (fun a k h => Or.inl h))) (by omega)) qup_s ?_
    intro i i0 i1
    rw [qup_n (by omega)]
    exact h1 i i0 (by omega)
theorem c_back (hW : qWF nT nH T P E U N) (hE : qER m (bW b0) nT nH T P E U N) {G : Int → Int} (hi : m 36 4 = 0 ∨ m 36 4 = 1) (hg : m 36 4 = 1 → qLv nT nH (m 78) G) (hp : qPc m nT nH T c A) (hn : m 36 4 = 0 → Q (-1) ((b0, b1, b2), m)) (hy : m 36 4 = 1 → ∀ m', qAC m m' (bW b0) nT nH T G 0 A → Q (G 66) ((b0, b1, b2), m')) : bC xs 2 149 [vr 0] ((b0, b1, b2), m) Q := by
  refine qC rfl fun d hd => r_X11_back_0 hd ?_
  have wn := qw_n hW
  have hw := qW b0
  refine qC rfl fun d hd => r_X8_bringBack_0 hd ?_
  refine ⟨by omega, fun h => ?_, fun h => ⟨rfl, by omega, fun _ => hn h, fun h => by omega⟩⟩
  have h1 : m 36 4 = 1 := by omega
  (with_reducible repeat' (first | exact True.intro | apply And.intro | intro _))
  all_goals first | omega | rfl | skip
  try dsimp only
  have e9 : ∀ i, 0 ≤ i → i < 67 → (up (cp m (bW b0 + 9) (0 + 0) 78 (0 + 0) 67) 36 3 0) (bW b0 + 9) i = m 78 i := by
    intro i i0 i1
    rw [qup_n (by omega), qcp_i (by omega) (by omega)]
    congr 1
    omega
  rw [e9 66 (by omega) (by omega), (hg h1).2.2]
  refine hy h1 _ ⟨qFr_up (qFr_cp qFr.refl (fun j _ _ => by unfold qFact; omega)) (by unfold qFact; omega), qLv_congr (by omega) (by omega) e9 (hg h1), ?_⟩
  obtain ⟨p1, p2, p3, p4⟩ := hp
  unfold qPc
  rw [qup_s, qup_o (by omega), qcp_n (by omega)]
  exact ⟨rfl, p2, by omega, fun j j0 j1 => by omega⟩
theorem d_back {G : Int → Int} (hi : m 120 59 = 0 ∨ m 120 59 = 1) (hg : m 149 = G) (hn : m 120 59 = 0 → Q (-1) ((b0, b1, b2), up m 120 0 0)) (hy : m 120 59 = 1 → ∀ m', qFr qFam m m' → (∀ i, 0 ≤ i → i < 67 → m' 135 i = G i) → qPm m' 0 A → Q (G 66) ((b0, b1, b2), m')) : bC xs 1 279 [vr 120] ((b0, b1, b2), m) Q := by
  refine qC rfl fun d hd => r_X12_back_0 hd ?_
  refine ⟨by omega, fun h => ?_, fun h => hn (by omega)⟩
  suffices H : ∀ x, x ≤ 67 → 0 ≤ x → ∀ m', qFr (fun a _ => a = 135) (up m 120 0 0) m' → (∀ i, 0 ≤ i → i < x → m' 135 i = G i) → bGo xs d aM_X12_back 16 [vr 120, vi x] [] ((b0, b1, b2), m') Q from H 0 (by omega) (by omega) _ qFr.refl (fun i _ _ => by omega)
  refine qUpto ?_
  intro x hx ih x0 m' hf h1
  refine r_X12_back_16 hd ?_
  have e2 : m' 149 = G := by rw [qFr_at hf 149 (fun k => by omega), qup_n (by omega), hg]
  rw [e2]
  by_cases hlt : x < 67
  · (with_reducible repeat' (first | exact True.intro | apply And.intro | intro _))
    all_goals first | omega | skip
    refine ih hlt (by omega) _ (qFr_up hf rfl) ?_
    intro i i0 i1
    rw [qup_if]
    split
    · rename_i e
      rw [e]
    · exact h1 i i0 (by omega)
  · (with_reducible repeat' (first | exact True.intro | apply And.intro | intro _))
    all_goals first | omega | skip
    rw [h1 66 (by omega) (by omega)]
    have hf2 : qFr qFam m (up m' 120 38 0) := qFr_up ((qFr_up qFr.refl (by unfold qFam; omega) : qFr qFam m (up m 120 0 0)).trans (hf.mono (fun a k h => by unfold qFam; omega))) (by unfold qFam; omega)
    refine hy (by omega) _ hf2 ?_ ⟨qup_s, fun j i j0 j1 => by omega⟩
    intro i i0 i1
    rw [qup_n (by omega)]
    exact h1 i i0 (by omega)
end ACTS
