/-! B: fills; the day on both sides -/
section FILL
variable {xs : List Int32} {d : Nat} {Q : bPo} {b b0 b1 b2 : Bool} {m : Nat → Int → Int} {nT nH : Int} {T P E U N : Int → Int} {t s h k : Int}
theorem c_fillA {z : Int} (hQ : ∀ m', qFr (fun a _ => a = 15) m m' → (∀ k, 0 ≤ k → k < 8 → m' (15) k = z) → Q 0 ((b0, b1, b2), m')) : bC xs 1 283 [vr (15), vi z] ((b0, b1, b2), m) Q := by
  refine qC rfl fun d hd => r_J7_fill_53178A_0 hd ?_
  suffices H : ∀ x, x ≤ 8 → 0 ≤ x → ∀ m', qFr (fun a _ => a = 15) m m' → (∀ k, 0 ≤ k → k < x → m' (15) k = z) → bGo xs d aM_J7_fill_53178 5 [vr (15), vi z, vi x, vi 8] [] ((b0, b1, b2), m') Q from H 0 (by omega) (by omega) m qFr.refl (fun k _ _ => by omega)
  refine qUpto ?_
  intro x hx ih x0 m' hf h1
  refine r_J7_fill_53178A_5 hd ?_
  by_cases hlt : x < 8
  · (with_reducible repeat' (first | exact True.intro | apply And.intro | intro _))
    all_goals first | omega | skip
    refine ih hlt (by omega) _ (qFr_up hf rfl) ?_
    intro k k0 k1
    rw [qup_if]
    split
    · rfl
    · exact h1 k k0 (by omega)
  · (with_reducible repeat' (first | exact True.intro | apply And.intro | intro _))
    all_goals first | omega | skip
    exact hQ m' hf (fun k k0 k1 => h1 k k0 (by omega))
theorem c_fillC {z : Int} (hQ : ∀ m', qFr (fun a _ => a = bW b + 7) m m' → (∀ k, 0 ≤ k → k < 5 → m' (bW b + 7) k = z) → Q 0 ((b0, b1, b2), m')) : bC xs 1 283 [vr (bW b + 7), vi z] ((b0, b1, b2), m) Q := by
  refine qC rfl fun d hd => r_J7_fill_53178C_0 hd ?_
  suffices H : ∀ x, x ≤ 5 → 0 ≤ x → ∀ m', qFr (fun a _ => a = bW b + 7) m m' → (∀ k, 0 ≤ k → k < x → m' (bW b + 7) k = z) → bGo xs d aM_J7_fill_53178 5 [vr (bW b + 7), vi z, vi x, vi 5] [] ((b0, b1, b2), m') Q from H 0 (by omega) (by omega) m qFr.refl (fun k _ _ => by omega)
  refine qUpto ?_
  intro x hx ih x0 m' hf h1
  refine r_J7_fill_53178C_5 hd ?_
  by_cases hlt : x < 5
  · (with_reducible repeat' (first | exact True.intro | apply And.intro | intro _))
    all_goals first | omega | skip
    refine ih hlt (by omega) _ (qFr_up hf rfl) ?_
    intro k k0 k1
    rw [qup_if]
    split
    · rfl
    · exact h1 k k0 (by omega)
  · (with_reducible repeat' (first | exact True.intro | apply And.intro | intro _))
    all_goals first | omega | skip
    exact hQ m' hf (fun k k0 k1 => h1 k k0 (by omega))
theorem c_fillD {z : Int} (hQ : ∀ m', qFr (fun a _ => a = bW b + 9) m m' → (∀ k, 0 ≤ k → k < 67 → m' (bW b + 9) k = z) → Q 0 ((b0, b1, b2), m')) : bC xs 1 283 [vr (bW b + 9), vi z] ((b0, b1, b2), m) Q := by
  refine qC rfl fun d hd => r_J7_fill_53178D_0 hd ?_
  suffices H : ∀ x, x ≤ 67 → 0 ≤ x → ∀ m', qFr (fun a _ => a = bW b + 9) m m' → (∀ k, 0 ≤ k → k < x → m' (bW b + 9) k = z) → bGo xs d aM_J7_fill_53178 5 [vr (bW b + 9), vi z, vi x, vi 67] [] ((b0, b1, b2), m') Q from H 0 (by omega) (by omega) m qFr.refl (fun k _ _ => by omega)
  refine qUpto ?_
  intro x hx ih x0 m' hf h1
  refine r_J7_fill_53178D_5 hd ?_
  by_cases hlt : x < 67
  · (with_reducible repeat' (first | exact True.intro | apply And.intro | intro _))
    all_goals first | omega | skip
    refine ih hlt (by omega) _ (qFr_up hf rfl) ?_
    intro k k0 k1
    rw [qup_if]
    split
    · rfl
    · exact h1 k k0 (by omega)
  · (with_reducible repeat' (first | exact True.intro | apply And.intro | intro _))
    all_goals first | omega | skip
    exact hQ m' hf (fun k k0 k1 => h1 k k0 (by omega))
theorem c_fillE {z : Int} (hQ : ∀ m', qFr (fun a _ => a = bW b + 8) m m' → (∀ k, 0 ≤ k → k < 5 → m' (bW b + 8) k = z) → Q 0 ((b0, b1, b2), m')) : bC xs 1 283 [vr (bW b + 8), vi z] ((b0, b1, b2), m) Q := by
  refine qC rfl fun d hd => r_J7_fill_53178E_0 hd ?_
  suffices H : ∀ x, x ≤ 5 → 0 ≤ x → ∀ m', qFr (fun a _ => a = bW b + 8) m m' → (∀ k, 0 ≤ k → k < x → m' (bW b + 8) k = z) → bGo xs d aM_J7_fill_53178 5 [vr (bW b + 8), vi z, vi x, vi 5] [] ((b0, b1, b2), m') Q from H 0 (by omega) (by omega) m qFr.refl (fun k _ _ => by omega)
  refine qUpto ?_
  intro x hx ih x0 m' hf h1
  refine r_J7_fill_53178E_5 hd ?_
  by_cases hlt : x < 5
  · (with_reducible repeat' (first | exact True.intro | apply And.intro | intro _))
    all_goals first | omega | skip
    refine ih hlt (by omega) _ (qFr_up hf rfl) ?_
    intro k k0 k1
    rw [qup_if]
    split
    · rfl
    · exact h1 k k0 (by omega)
  · (with_reducible repeat' (first | exact True.intro | apply And.intro | intro _))
    all_goals first | omega | skip
    exact hQ m' hf (fun k k0 k1 => h1 k k0 (by omega))
theorem c_fillF {z : Int} (hQ : ∀ m', qFr (fun a _ => a = 99) m m' → (∀ k, 0 ≤ k → k < 6 → m' (99) k = z) → Q 0 ((b0, b1, b2), m')) : bC xs 1 283 [vr (99), vi z] ((b0, b1, b2), m) Q := by
  refine qC rfl fun d hd => r_J7_fill_53178F_0 hd ?_
  suffices H : ∀ x, x ≤ 6 → 0 ≤ x → ∀ m', qFr (fun a _ => a = 99) m m' → (∀ k, 0 ≤ k → k < x → m' (99) k = z) → bGo xs d aM_J7_fill_53178 5 [vr (99), vi z, vi x, vi 6] [] ((b0, b1, b2), m') Q from H 0 (by omega) (by omega) m qFr.refl (fun k _ _ => by omega)
  refine qUpto ?_
  intro x hx ih x0 m' hf h1
  refine r_J7_fill_53178F_5 hd ?_
  by_cases hlt : x < 6
  · (with_reducible repeat' (first | exact True.intro | apply And.intro | intro _))
    all_goals first | omega | skip
    refine ih hlt (by omega) _ (qFr_up hf rfl) ?_
    intro k k0 k1
    rw [qup_if]
    split
    · rfl
    · exact h1 k k0 (by omega)
  · (with_reducible repeat' (first | exact True.intro | apply And.intro | intro _))
    all_goals first | omega | skip
    exact hQ m' hf (fun k k0 k1 => h1 k k0 (by omega))
theorem c_fillB {z x0 : Int} (h0 : 0 ≤ x0 ∧ x0 < 6) (hQ : ∀ m', qFr (fun a k => a = 17 ∧ x0 * 1000 ≤ k ∧ k < x0 * 1000 + 160) m m' → (∀ k, 0 ≤ k → k < 160 → m' 17 (x0 * 1000 + k) = z) → Q 0 ((b0, b1, b2), m')) : bC xs 1 283 [vw 17 x0, vi z] ((b0, b1, b2), m) Q := by
  refine qC rfl fun d hd => r_J7_fill_53178B_0 hd ?_
  suffices H : ∀ x, x ≤ 160 → 0 ≤ x → ∀ m', qFr (fun a k => a = 17 ∧ x0 * 1000 ≤ k ∧ k < x0 * 1000 + 160) m m' → (∀ k, 0 ≤ k → k < x → m' 17 (x0 * 1000 + k) = z) → bGo xs d aM_J7_fill_53178 5 [vw 17 x0, vi z, vi x, vi 160] [] ((b0, b1, b2), m') Q by
    (with_reducible repeat' (first | exact True.intro | apply And.intro | intro _))
    all_goals first | omega | exact H 0 (by omega) (by omega) m qFr.refl (fun k _ _ => by omega)
  refine qUpto ?_
  intro x hx ih x1 m' hf h1
  refine r_J7_fill_53178B_5 hd ?_
  by_cases hlt : x < 160
  · (with_reducible repeat' (first | exact True.intro | apply And.intro | intro _))
    all_goals first | omega | skip
    refine ih hlt (by omega) _ (qFr_up hf ⟨rfl, by omega, by omega⟩) ?_
    intro k k0 k1
    rw [qup_if]
    split
    · rfl
    · exact h1 k k0 (by omega)
  · (with_reducible repeat' (first | exact True.intro | apply And.intro | intro _))
    all_goals first | omega | skip
    exact hQ m' hf (fun k k0 k1 => h1 k k0 (by omega))
end FILL
section CDAY
variable {xs : List Int32} {d : Nat} {Q : bPo} {b b0 b1 b2 : Bool} {m : Nat → Int → Int} {nT nH : Int} {T P E U N : Int → Int} {t s h k : Int}
variable {N0 W : Int → Int}
theorem c_workOf (hW : qWF nT nH T P E U N0) (hT : qTo m (bW b) nT nH T P E U) (hL : qLv nT nH (m (bW b + 9)) N) (hN : qNd nT nH T N) (h0 : 0 ≤ h) (h1 : h < nH) (hQ : Q (qwk T P N nT h) ((b0, b1, b2), m)) : bC xs 3 67 [vr (bW b), vi h] ((b0, b1, b2), m) Q := by
  refine qC rfl fun d hd => r_X4_workOf_0 hd ?_
  have wn := qw_n hW
  suffices H : ∀ t, t ≤ nT → 0 ≤ t → Q (qfst (qwkp T P N h) nT t) ((b0, b1, b2), m) → bGo xs d aM_X4_workOf 2 [vr (bW b), vi h, vi t, vn] [] ((b0, b1, b2), m) Q from H 0 (by omega) (by omega) hQ
  refine qUpto ?_
  intro t ht ih t0 hq
  refine r_X4_workOf_2 hd ?_
  rw [hT.1.1]
  by_cases hlt : t < nT
  · have el := hL.1 t t0 hlt
    have et := hT.2.1 t t0 hlt
    have wt := qw_t hW t0 hlt
    have nd := hN.1 t t0 hlt
    rw [qfst_lt hlt] at hq
    unfold qwkp at hq
    simp only [decide_eq_true_eq] at hq
    simp only [el.1, el.2.2.1, el.2.2.2.1, et.2.2]
    by_cases hs : N (6 * t) < T (4 * t + 3)
    · have ep := hT.2.2.1 t (N (6 * t)) t0 hlt nd.1.1 hs
      have wp := qw_p hW t0 hlt nd.1.1 hs
      have ek := hL.2.1 h (P (2 * (8 * t + N (6 * t)))) h0 h1 (by omega) (by omega)
      have nk := hN.2.1 h (P (2 * (8 * t + N (6 * t)))) h0 h1 (by omega) (by omega)
      simp only [ep.1, ek]
      (with_reducible repeat' (first | exact True.intro | apply And.intro | intro _))
      all_goals first | omega | exact ih hlt (by omega) (by rw [if_neg (by omega)] at hq; exact hq) | (rw [if_pos (by omega)] at hq; exact hq)
    · rw [if_neg (by omega)] at hq
      (with_reducible repeat' (first | exact True.intro | apply And.intro | intro _))
      all_goals first | omega | exact ih hlt (by omega) hq
  · rw [qfst_ge (by omega)] at hq
    (with_reducible repeat' (first | exact True.intro | apply And.intro | intro _))
    all_goals first | omega | exact hq
theorem c_workAt {x : Int} (hW : qWF nT nH T P E U N0) (hT : qTo m (bW b) nT nH T P E U) (hL : qLv nT nH (m (bW b + 9)) N) (hN : qNd nT nH T N) (hw : ∀ k, 0 ≤ k → k < 5 → m (bW b + 8) k = W k) (hw2 : ∀ k, 0 ≤ k → k < 5 → 0 ≤ W k ∧ W k ≤ x) (hx : x ≤ 9) (h0 : 0 ≤ h) (h1 : h < nH) (t0 : 0 ≤ t) (t1 : t < nT) (hs : N (6 * t) < T (4 * t + 3)) (hQ : ∀ m', qFr (fun a _ => a = bW b + 9 ∨ a = bW b + 8) m m' → qLv nT nH (m' (bW b + 9)) (qwa P U N W h t).1 → (∀ k, 0 ≤ k → k < 5 → m' (bW b + 8) k = (qwa P U N W h t).2 k) → Q 0 ((b0, b1, b2), m')) : bC xs 2 68 [vr (bW b), vi t, vi h] ((b0, b1, b2), m) Q := by
  refine qC rfl fun d hd => r_X4_workAt_0 hd ?_
  have wn := qw_n hW
  have el := hL.1 t t0 t1
  have et := hT.2.1 t t0 t1
  have wt := qw_t hW t0 t1
  have nd := hN.1 t t0 t1
  have ep := hT.2.2.1 t (N (6 * t)) t0 t1 nd.1.1 hs
  have wp := qw_p hW t0 t1 nd.1.1 hs
  have ek := hL.2.1 h (P (2 * (8 * t + N (6 * t)))) h0 h1 (by omega) (by omega)
  have nk := hN.2.1 h (P (2 * (8 * t + N (6 * t)))) h0 h1 (by omega) (by omega)
  have eu := hT.2.2.2.2 (P (2 * (8 * t + N (6 * t)))) (by omega) (by omega)
  have wu := qw_u hW (show 0 ≤ P (2 * (8 * t + N (6 * t))) by omega) (by omega)
  have ew := hw (P (2 * (8 * t + N (6 * t)))) (by omega) (by omega)
  have ww := hw2 (P (2 * (8 * t + N (6 * t)))) (by omega) (by omega)
  simp (disch := omega) only [el.1, el.2.1, ep.1, ep.2, ek, eu, ew, qup_s, qup_o, qup_n]
  unfold qwa qwa2 at hQ
  have hyes : ¬ (0 < U (P (2 * (8 * t + N (6 * t)))) ∧ U (P (2 * (8 * t + N (6 * t)))) ≤ W (P (2 * (8 * t + N (6 * t))))) → (N (6 * t + 3) + N (36 + 5 * h + P (2 * (8 * t + N (6 * t)))) < 3 * P (2 * (8 * t + N (6 * t)) + 1)) → Q 0 ((b0, b1, b2), up (up m (bW b + 8) (P (2 * (8 * t + N (6 * t)))) (W (P (2 * (8 * t + N (6 * t)))) + 1)) (bW b + 9) (6 + t) (N (6 * t + 3) + N (36 + 5 * h + P (2 * (8 * t + N (6 * t)))))) := by
    intro c1 c2
    rw [if_neg c1] at hQ
    dsimp only at hQ
    rw [if_pos c2] at hQ
    refine hQ _ (qFr_up (qFr_up qFr.refl (by omega)) (by omega)) ?_ ?_
    · rw [qup_f, qup_n (by omega)]
      exact qLv_go (by omega) (by omega) t0 t1 hL
    · intro k k0 k1
      rw [qup_n (by omega), qup_f]
      simp only [qset]
      split
      · rfl
      · exact hw k k0 k1
  have hno : ¬ (0 < U (P (2 * (8 * t + N (6 * t)))) ∧ U (P (2 * (8 * t + N (6 * t)))) ≤ W (P (2 * (8 * t + N (6 * t))))) → ¬ (N (6 * t + 3) + N (36 + 5 * h + P (2 * (8 * t + N (6 * t)))) < 3 * P (2 * (8 * t + N (6 * t)) + 1)) → Q 0 ((b0, b1, b2), up (up (up (up m (bW b + 8) (P (2 * (8 * t + N (6 * t)))) (W (P (2 * (8 * t + N (6 * t)))) + 1)) (bW b + 9) (6 + t) (N (6 * t + 3) + N (36 + 5 * h + P (2 * (8 * t + N (6 * t)))))) (bW b + 9) (6 + t) 0) (bW b + 9) (0 + t) (N (6 * t) + 1)) := by
    intro c1 c2
    rw [if_neg c1] at hQ
    dsimp only at hQ
    rw [if_neg c2] at hQ
    refine hQ _ (qFr_up (qFr_up (qFr_up (qFr_up qFr.refl (by omega)) (by omega)) (by omega)) (by omega)) ?_ ?_
    · rw [qup_f, qup_f, qup_f, qup_n (by omega)]
      have := qLv_dn (z := N (6 * t) + 1) (by omega) (by omega) t0 t1 (qLv_go (z := 0) (by omega) (by omega) t0 t1 (qLv_go (z := N (6 * t + 3) + N (36 + 5 * h + P (2 * (8 * t + N (6 * t))))) (by omega) (by omega) t0 t1 hL))
      refine qLv_congr2 (by omega) (by omega) ?_ this
      intro i i0 i1
      simp only [qset]
      split <;> split <;> first | rfl | omega
    · intro k k0 k1
      rw [qup_n (by omega), qup_n (by omega), qup_n (by omega), qup_f]
      simp only [qset]
      split
      · rfl
      · exact hw k k0 k1
  have hrest : (0 < U (P (2 * (8 * t + N (6 * t)))) ∧ U (P (2 * (8 * t + N (6 * t)))) ≤ W (P (2 * (8 * t + N (6 * t))))) → Q 0 ((b0, b1, b2), m) := by
    intro c1
    rw [if_pos c1] at hQ
    exact hQ m qFr.refl hL hw
  (with_reducible repeat' (first | exact True.intro | apply And.intro | intro _))
  all_goals first | omega | exact hyes (by omega) (by omega) | exact hno (by omega) (by omega) | exact hrest (by omega)
theorem c_closeDay (hW : qWF nT nH T P E U N0) (hT : qTo m (bW b) nT nH T P E U) (hL : qLv nT nH (m (bW b + 9)) N) (hN : qNd nT nH T N) (t0 : 0 ≤ t) (t1 : t < nT) (ho : N (6 * t + 2) = 0) (hQ : ∀ m', qFr (fun a _ => a = bW b + 9 ∨ a = bW b + 8) m m' → qLv nT nH (m' (bW b + 9)) (qcl T t N) → Q 0 ((b0, b1, b2), m')) : bC xs 1 69 [vr (bW b), vi t] ((b0, b1, b2), m) Q := by
  refine qC rfl fun d hd => r_X4_closeDay_0 hd ?_
  have wn := qw_n hW
  have el := hL.1 t t0 t1
  have et := hT.2.1 t t0 t1
  have wt := qw_t hW t0 t1
  have nd := hN.1 t t0 t1
  have ed := hL.2.2
  have wd := hN.2.2
  simp (disch := omega) only [el.1, el.2.2.1, et.2.1, et.2.2, ed, qup_s, qup_o, qup_n]
  unfold qcl at hQ
  rw [if_pos ho] at hQ
  have h1 : N (6 * t) = T (4 * t + 3) → Q 0 ((b0, b1, b2), up (up (up m (bW b + 9) (18 + t) 1) (bW b + 9) (24 + t) (N 66)) (bW b + 9) (30 + t) (N (6 * t + 1))) := by
    intro c
    rw [if_pos c] at hQ
    refine hQ _ (qFr_up (qFr_up (qFr_up qFr.refl (by omega)) (by omega)) (by omega)) ?_
    rw [qup_f, qup_f, qup_f]
    exact qLv_by (by omega) (by omega) t0 t1 (qLv_on (by omega) (by omega) t0 t1 (qLv_st (by omega) (by omega) t0 t1 hL))
  have h2 : ¬ N (6 * t) = T (4 * t + 3) → T (4 * t + 1) ≤ N 66 → Q 0 ((b0, b1, b2), up m (bW b + 9) (18 + t) 2) := by
    intro c c2
    rw [if_neg c, if_pos c2] at hQ
    refine hQ _ (qFr_up qFr.refl (by omega)) ?_
    rw [qup_f]
    exact qLv_st (by omega) (by omega) t0 t1 hL
  have h3 : ¬ N (6 * t) = T (4 * t + 3) → ¬ T (4 * t + 1) ≤ N 66 → Q 0 ((b0, b1, b2), m) := by
    intro c c2
    rw [if_neg c, if_neg c2] at hQ
    exact hQ m qFr.refl hL
  (with_reducible repeat' (first | exact True.intro | apply And.intro | intro _))
  all_goals first | omega | exact h1 (by omega) | exact h2 (by omega) (by omega) | exact h3 (by omega) (by omega)
theorem c_passDay (hW : qWF nT nH T P E U N) (hE : qER m (bW b) nT nH T P E U N) (hD : N 66 < 999) (hQ : ∀ m', qFr (fun a _ => a = bW b + 9 ∨ a = bW b + 8) m m' → qLv nT nH (m' (bW b + 9)) (qday T P U nT nH N) → Q 0 ((b0, b1, b2), m')) : bC xs 4 66 [vr (bW b)] ((b0, b1, b2), m) Q := by
  refine qC rfl fun d hd => r_X4_passDay_0 hd ?_
  have wn := qw_n hW
  refine c_fillE ?_
  intro m1 hf1 hz
  refine ⟨rfl, ?_⟩
  try dsimp only
  have hf1' : qFr (fun a _ => a = bW b + 9 ∨ a = bW b + 8) m m1 := hf1.mono (fun a k h => Or.inr h)
  suffices H : ∀ h, h ≤ nH → 0 ≤ h → ∀ m' s, qFr (fun a _ => a = bW b + 9 ∨ a = bW b + 8) m m' → qWk nT nH T (N 66) h s → qLv nT nH (m' (bW b + 9)) s.1 → (∀ k, 0 ≤ k → k < 5 → m' (bW b + 8) k = s.2 k) → qws T P U nT nH N = qfold (qwork T P U nT) nH h s → bGo xs d aM_X4_passDay 10 [vr (bW b), vi h, vn] [] ((b0, b1, b2), m') Q by
    refine H 0 (by omega) (by omega) m1 (N, fun _ => 0) hf1' ⟨qNw_nd (qw_nw hW), rfl, fun k _ _ => by simp⟩ ?_ hz rfl
    rw [qFr_at hf1 (bW b + 9) (fun k => by omega)]
    exact hE.2
  refine qUpto ?_
  intro h hh ih h0 m' s hf hs hL hw he
  have hT : qTo m' (bW b) nT nH T P E U := qTo_fr hf hE.1 (fun a k h1 h2 => by omega)
  refine r_X4_passDay_10 hd ?_
  rw [hT.1.2]
  by_cases hlt : h < nH
  · refine ⟨by omega, by omega, fun e => by omega, fun _ => c_workOf hW hT hL hs.1 h0 hlt ?_⟩
    rw [qfold_lt hlt] at he
    have hs' := qwork_ok hW h0 hlt hs
    have hk := qwk_sp (T := T) (P := P) (N := s.1) (nT := nT) (h := h) (by omega)
    try dsimp only
    refine ⟨rfl, by omega, fun e => ?_, fun e => ?_⟩
    · have e2 : qwork T P U nT h s = s := by unfold qwork; rw [if_pos e]
      rw [e2] at hs' he
      exact ih hlt (by omega) m' s hf hs' hL hw he
    · have e2 : qwork T P U nT h s = qwa P U s.1 s.2 h (qwk T P s.1 nT h) := by unfold qwork; rw [if_neg e]
      rw [e2] at hs' he
      refine c_workAt hW hT hL hs.1 hw hs.2.2 (by omega) h0 hlt (by omega) (by omega) (by omega) ?_
      intro m2 hf2 hL2 hw2
      refine ⟨rfl, ?_⟩
      try dsimp only
      exact ih hlt (by omega) m2 _ (hf.trans hf2) hs' hL2 hw2 he
  · rw [qfold_ge (by omega)] at he
    refine ⟨by omega, by omega, fun _ => ?_, fun e => by omega⟩
    rw [hL.2.2]
    have hck := qday0 hW (show qWk nT nH T (N 66) h s from hs) hD
    suffices H2 : ∀ t, t ≤ nT → 0 ≤ t → ∀ m' N1, qFr (fun a _ => a = bW b + 9 ∨ a = bW b + 8) m m' → qCk nT nH T t N1 → qLv nT nH (m' (bW b + 9)) N1 → qday T P U nT nH N = qfold (qcl T) nT t N1 → bGo xs d aM_X4_passDay 54 [vr (bW b), vi t, vn] [] ((b0, b1, b2), m') Q by
      refine H2 0 (by omega) (by omega) _ (qset s.1 66 (s.1 66 + 1)) (qFr_up hf (by omega)) hck ?_ ?_
      · rw [qup_f]
        exact qLv_day (by omega) (by omega) hL
      · unfold qday
        rw [he]
    refine qUpto ?_
    intro t ht ih2 t0 m2 N1 hf2 hc2 hL2 he2
    have hT2 : qTo m2 (bW b) nT nH T P E U := qTo_fr hf2 hE.1 (fun a k h1 h2 => by omega)
    refine r_X4_passDay_54 hd ?_
    rw [hT2.1.1]
    by_cases hlt2 : t < nT
    · have el := hL2.1 t t0 hlt2
      have nd := hc2.1.1 t t0 hlt2
      have hc3 := qcl_ok hW t0 hlt2 hc2
      rw [qfold_lt hlt2] at he2
      rw [el.2.2.2.1]
      refine ⟨by omega, by omega, fun e => by omega, fun _ => ⟨by omega, by omega, fun e => ?_, fun e => ?_⟩⟩
      · have e2 : qcl T t N1 = N1 := by unfold qcl; rw [if_neg e]
        rw [e2] at hc3 he2
        exact ih2 hlt2 (by omega) m2 N1 hf2 hc3 hL2 he2
      · refine c_closeDay hW hT2 hL2 hc2.1 t0 hlt2 e ?_
        intro m3 hf3 hL3
        refine ⟨rfl, ?_⟩
        try dsimp only
        exact ih2 hlt2 (by omega) m3 _ (hf2.trans hf3) hc3 hL3 he2
    · rw [qfold_ge (by omega)] at he2
      refine ⟨by omega, by omega, fun _ => ?_, fun e => by omega⟩
      refine hQ m2 hf2 ?_
      rw [he2]
      exact hL2
end CDAY
