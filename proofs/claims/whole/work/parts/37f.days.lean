/-! B: the reference's day; days; generations -/
section MDAY
variable {xs : List Int32} {d : Nat} {Q : bPo} {b b0 b1 b2 : Bool} {m : Nat → Int → Int} {nT nH : Int} {T P E U N : Int → Int} {t s h k : Int}
variable {N0 W : Int → Int} {c : Int} {A : Int → Int → Int}
theorem d_works {x : Int} (hW : qWF nT nH T P E U N0) (hM : qMR m nT nH T P E U N) (hN : qNd nT nH T N) (hw : ∀ k, 0 ≤ k → k < 5 → m 137 k = W k) (hw2 : ∀ k, 0 ≤ k → k < 5 → 0 ≤ W k ∧ W k ≤ x) (hx : x ≤ 9) (h0 : 0 ≤ h) (h1 : h < nH) (hQ : ∀ m', qFr (fun a _ => a = 135 ∨ a = 137) m m' → m' 135 = (qwork T P U nT h (N, W)).1 → (∀ k, 0 ≤ k → k < 5 → m' 137 k = (qwork T P U nT h (N, W)).2 k) → Q 0 ((b0, b1, b2), m')) : bC xs 2 236 [vr 120, vi h] ((b0, b1, b2), m) Q := by
  refine qC rfl fun d hd => r_X12_works_0 hd ?_
  have wn := qw_n hW
  suffices H : ∀ t, t ≤ nT → 0 ≤ t → qwk T P N nT h = qfst (qwkp T P N h) nT t → bGo xs d aM_X12_works 2 [vr 120, vi h, vi t, vn, vn] [] ((b0, b1, b2), m) Q from H 0 (by omega) (by omega) rfl
  refine qUpto ?_
  intro t ht ih t0 hq
  refine r_X12_works_2 hd ?_
  simp only [hM.1, hM.2.1, hM.2.2.1, hM.2.2.2.1, hM.2.2.2.2.1, hM.2.2.2.2.2.1, hM.2.2.2.2.2.2]
  by_cases hlt : t < nT
  · have wt := qw_t hW t0 hlt
    have nd := hN.1 t t0 hlt
    rw [qfst_lt hlt] at hq
    unfold qwkp at hq
    simp only [decide_eq_true_eq] at hq
    by_cases hs : N (6 * t) < T (4 * t + 3)
    · have wp := qw_p hW t0 hlt nd.1.1 hs
      have nk := hN.2.1 h (P (2 * (8 * t + N (6 * t)))) h0 h1 (by omega) (by omega)
      have wu := qw_u hW (show 0 ≤ P (2 * (8 * t + N (6 * t))) by omega) (by omega)
      have ew := hw (P (2 * (8 * t + N (6 * t)))) (by omega) (by omega)
      have ww := hw2 (P (2 * (8 * t + N (6 * t)))) (by omega) (by omega)
      have e135 := hM.2.2.2.2.2.2
      by_cases hk : N (6 * t + 1) = h ∧ N (6 * t + 2) = 0 ∧ N (6 * t) < T (4 * t + 3) ∧ 0 < N (36 + 5 * h + P (2 * (8 * t + N (6 * t))))
      · rw [if_pos hk] at hq
        have e2 : qwork T P U nT h (N, W) = qwa P U N W h t := by
          unfold qwork
          rw [if_neg (by dsimp only; omega)]
          dsimp only
          rw [hq]
        rw [e2] at hQ
        simp (disch := omega) only [ew, e135, qup_s, qup_o, qup_n]
        unfold qwa qwa2 at hQ
        have hyes : ¬ (0 < U (P (2 * (8 * t + N (6 * t)))) ∧ U (P (2 * (8 * t + N (6 * t)))) ≤ W (P (2 * (8 * t + N (6 * t))))) → (N (6 * t + 3) + N (36 + 5 * h + P (2 * (8 * t + N (6 * t)))) < 3 * P (2 * (8 * t + N (6 * t)) + 1)) → Q 0 ((b0, b1, b2), up (up m 137 (P (2 * (8 * t + N (6 * t)))) (W (P (2 * (8 * t + N (6 * t)))) + 1)) 135 (6 * t + 3) (N (6 * t + 3) + N (36 + 5 * h + P (2 * (8 * t + N (6 * t)))))) := by
          intro c1 c2
          rw [if_neg c1] at hQ
          dsimp only at hQ
          rw [if_pos c2] at hQ
          refine hQ _ (qFr_up (qFr_up qFr.refl (by omega)) (by omega)) ?_ ?_
          · rw [qup_f, qup_n (by omega), e135]
          · intro k k0 k1
            rw [qup_n (by omega), qup_f]
            simp only [qset]
            split
            · rfl
            · exact hw k k0 k1
        have hno : ¬ (0 < U (P (2 * (8 * t + N (6 * t)))) ∧ U (P (2 * (8 * t + N (6 * t)))) ≤ W (P (2 * (8 * t + N (6 * t))))) → ¬ (N (6 * t + 3) + N (36 + 5 * h + P (2 * (8 * t + N (6 * t)))) < 3 * P (2 * (8 * t + N (6 * t)) + 1)) → Q 0 ((b0, b1, b2), up (up (up (up m 137 (P (2 * (8 * t + N (6 * t)))) (W (P (2 * (8 * t + N (6 * t)))) + 1)) 135 (6 * t + 3) (N (6 * t + 3) + N (36 + 5 * h + P (2 * (8 * t + N (6 * t)))))) 135 (6 * t) (N (6 * t) + 1)) 135 (6 * t + 3) 0) := by
          intro c1 c2
          rw [if_neg c1] at hQ
          dsimp only at hQ
          rw [if_neg c2] at hQ
          refine hQ _ (qFr_up (qFr_up (qFr_up (qFr_up qFr.refl (by omega)) (by omega)) (by omega)) (by omega)) ?_ ?_
          · rw [qup_f, qup_f, qup_f, qup_n (by omega), e135]
          · intro k k0 k1
            rw [qup_n (by omega), qup_n (by omega), qup_n (by omega), qup_f]
            simp only [qset]
            split
            · rfl
            · exact hw k k0 k1
        have hrest : (0 < U (P (2 * (8 * t + N (6 * t)))) ∧ U (P (2 * (8 * t + N (6 * t)))) ≤ W (P (2 * (8 * t + N (6 * t))))) → Q 0 ((b0, b1, b2), m) := by
          intro c1
          rw [if_pos c1] at hQ
          exact hQ m qFr.refl e135 hw
        (with_reducible repeat' (first | exact True.intro | apply And.intro | intro _))
        all_goals first | omega | exact hyes (by omega) (by omega) | exact hno (by omega) (by omega) | exact hrest (by omega)
      · rw [if_neg hk] at hq
        (with_reducible repeat' (first | exact True.intro | apply And.intro | intro _))
        all_goals first | omega | exact ih hlt (by omega) hq
    · rw [if_neg (by omega)] at hq
      (with_reducible repeat' (first | exact True.intro | apply And.intro | intro _))
      all_goals first | omega | exact ih hlt (by omega) hq
  · rw [qfst_ge (by omega)] at hq
    have e2 : qwork T P U nT h (N, W) = (N, W) := by
      unfold qwork
      rw [if_pos (by dsimp only; omega)]
    rw [e2] at hQ
    (with_reducible repeat' (first | exact True.intro | apply And.intro | intro _))
    all_goals first | omega | exact hQ m qFr.refl hM.2.2.2.2.2.2 hw
theorem d_goDay (hW : qWF nT nH T P E U N) (hM : qMR m nT nH T P E U N) (hD : N 66 < 999) (hQ : ∀ m', qFr (fun a _ => a = 135 ∨ a = 137) m m' → m' 135 = qday T P U nT nH N → Q 0 ((b0, b1, b2), m')) : bC xs 3 237 [vr 120] ((b0, b1, b2), m) Q := by
  refine qC rfl fun d hd => r_X12_goDay_0 hd ?_
  have wn := qw_n hW
  have hmr : ∀ {m' : Nat → Int → Int} {N' : Int → Int}, qFr (fun a _ => a = 135 ∨ a = 137) m m' → m' 135 = N' → qMR m' nT nH T P E U N' := by
    intro m' N' hf e
    have := hM.fr (m' := up m' 135 0 0) (N := N)
    refine ⟨?_, ?_, ?_, ?_, ?_, ?_, e⟩
    · rw [hf 120 26 (by omega)]; exact hM.1
    · rw [hf 120 27 (by omega)]; exact hM.2.1
    · rw [qFr_at hf 125 (fun k => by omega)]; exact hM.2.2.1
    · rw [qFr_at hf 127 (fun k => by omega)]; exact hM.2.2.2.1
    · rw [qFr_at hf 129 (fun k => by omega)]; exact hM.2.2.2.2.1
    · rw [qFr_at hf 131 (fun k => by omega)]; exact hM.2.2.2.2.2.1
  suffices H0 : ∀ x, x ≤ 5 → 0 ≤ x → ∀ m', qFr (fun a _ => a = 135 ∨ a = 137) m m' → m' 135 = N → (∀ k, 0 ≤ k → k < x → m' 137 k = 0) → bGo xs d aM_X12_goDay 2 [vr 120, vi x, vn] [] ((b0, b1, b2), m') Q from H0 0 (by omega) (by omega) m qFr.refl hM.2.2.2.2.2.2 (fun k _ _ => by omega)
  refine qUpto ?_
  intro x hx ih x0 m1 hf1 e1 hz
  refine r_X12_goDay_2 hd ?_
  by_cases hlt : x < 5
  · (with_reducible repeat' (first | exact True.intro | apply And.intro | intro _))
    all_goals first | omega | skip
    refine ih hlt (by omega) _ (qFr_up hf1 (by omega)) (by rw [qup_n (by omega)]; exact e1) ?_
    intro k k0 k1
    rw [qup_if]
    split
    · rfl
    · exact hz k k0 (by omega)
  · (with_reducible repeat' (first | exact True.intro | apply And.intro | intro _))
    all_goals first | omega | skip
    suffices H : ∀ h, h ≤ nH → 0 ≤ h → ∀ m' s, qFr (fun a _ => a = 135 ∨ a = 137) m m' → qWk nT nH T (N 66) h s → m' 135 = s.1 → (∀ k, 0 ≤ k → k < 5 → m' 137 k = s.2 k) → qws T P U nT nH N = qfold (qwork T P U nT) nH h s → bGo xs d aM_X12_goDay 22 [vr 120, vi h, vn] [] ((b0, b1, b2), m') Q from H 0 (by omega) (by omega) m1 (N, fun _ => 0) hf1 ⟨qNw_nd (qw_nw hW), rfl, fun k _ _ => by simp⟩ e1 (fun k k0 k1 => hz k k0 (by omega)) rfl
    refine qUpto ?_
    intro h hh ih h0 m' s hf hs hL hw he
    have hM' := hmr hf hL
    refine r_X12_goDay_22 hd ?_
    rw [hM'.2.1]
    by_cases hlt : h < nH
    · refine ⟨by omega, by omega, fun e => by omega, fun _ => ?_⟩
      rw [qfold_lt hlt] at he
      have hs' := qwork_ok hW h0 hlt hs
      refine d_works hW hM' hs.1 hw hs.2.2 (by omega) h0 hlt ?_
      intro m2 hf2 hL2 hw2
      refine ⟨rfl, ?_⟩
      try dsimp only
      exact ih hlt (by omega) m2 _ (hf.trans hf2) hs' hL2 hw2 he
    · rw [qfold_ge (by omega)] at he
      refine ⟨by omega, by omega, fun _ => ?_, fun e => by omega⟩
      rw [hL]
      have hck := qday0 hW (show qWk nT nH T (N 66) h s from hs) hD
      suffices H2 : ∀ t, t ≤ nT → 0 ≤ t → ∀ m' N1, qFr (fun a _ => a = 135 ∨ a = 137) m m' → qCk nT nH T t N1 → m' 135 = N1 → qday T P U nT nH N = qfold (qcl T) nT t N1 → bGo xs d aM_X12_goDay 54 [vr 120, vi t, vn] [] ((b0, b1, b2), m') Q by
        refine H2 0 (by omega) (by omega) _ (qset s.1 66 (s.1 66 + 1)) (qFr_up hf (by omega)) hck ?_ ?_
        · rw [qup_f, hL]
        · unfold qday
          rw [he]
      refine qUpto ?_
      intro t ht ih2 t0 m2 N1 hf2 hc2 hL2 he2
      have hM2 := hmr hf2 hL2
      refine r_X12_goDay_54 hd ?_
      simp only [hM2.1, hM2.2.1, hM2.2.2.1, hM2.2.2.2.2.2.2]
      by_cases hlt2 : t < nT
      · have nd := hc2.1.1 t t0 hlt2
        have wt := qw_t hW t0 hlt2
        have wd := hc2.1.2.2
        have hc3 := qcl_ok hW t0 hlt2 hc2
        rw [qfold_lt hlt2] at he2
        simp (disch := omega) only [hL2, qup_s, qup_o, qup_n]
        have hn : qcl T t N1 = N1 → bGo xs d aM_X12_goDay 54 [vr 120, vi (t + 1), vn] [] ((b0, b1, b2), m2) Q := by
          intro e
          rw [e] at hc3 he2
          exact ih2 hlt2 (by omega) m2 N1 hf2 hc3 hL2 he2
        have h1 : qcl T t N1 = qset (qset (qset N1 (6 * t + 2) 1) (6 * t + 4) (N1 66)) (6 * t + 5) (N1 (6 * t + 1)) → bGo xs d aM_X12_goDay 54 [vr 120, vi (t + 1), vn] [] ((b0, b1, b2), up (up (up m2 135 (6 * t + 2) 1) 135 (6 * t + 4) (N1 66)) 135 (6 * t + 5) (N1 (6 * t + 1))) Q := by
          intro e
          refine ih2 hlt2 (by omega) _ _ (qFr_up (qFr_up (qFr_up hf2 (by omega)) (by omega)) (by omega)) hc3 ?_ he2
          rw [qup_f, qup_f, qup_f, hL2, e]
        have h2 : qcl T t N1 = qset N1 (6 * t + 2) 2 → bGo xs d aM_X12_goDay 54 [vr 120, vi (t + 1), vn] [] ((b0, b1, b2), up m2 135 (6 * t + 2) 2) Q := by
          intro e
          refine ih2 hlt2 (by omega) _ _ (qFr_up hf2 (by omega)) hc3 ?_ he2
          rw [qup_f, hL2, e]
        unfold qcl at hn h1 h2
        (with_reducible repeat' (first | exact True.intro | apply And.intro | intro _))
        all_goals first | omega | exact hn (by rw [if_neg (by omega)]) | exact hn (by rw [if_pos (by omega), if_neg (by omega), if_neg (by omega)]) | exact h1 (by rw [if_pos (by omega), if_pos (by omega)]) | exact h2 (by rw [if_pos (by omega), if_neg (by omega), if_pos (by omega)])
      · rw [qfold_ge (by omega)] at he2
        refine ⟨by omega, by omega, fun _ => ?_, fun e => by omega⟩
        refine hQ m2 hf2 ?_
        rw [he2]
        exact hL2
/-! days: the rows and the past, day by day -/
abbrev qPs : Type := (Int → Int) × Int × (Int → Int → Int)
def qdst (T P U : Int → Int) (nT nH : Int) (_ : Int) (s : qPs) : qPs := (qday T P U nT nH s.1, qpc s.2.1, qpA s.2.1 s.2.2 s.1)
def qdys (T P U : Int → Int) (nT nH n : Int) (s : qPs) : qPs := qfold (qdst T P U nT nH) n 0 s
theorem qWF_nw {N' : Int → Int} (hW : qWF nT nH T P E U N) (h : qNw nT nH T N') : qWF nT nH T P E U N' := ⟨hW.1, hW.2.1, hW.2.2.1, hW.2.2.2.1, hW.2.2.2.2.1, h⟩
def qdc (N : Int → Int) (nT n : Int) : Prop := 0 < nT ∧ (1 ≤ n ∧ n ≤ 99) ∧ N 66 + n ≤ 999
theorem c_days {n : Int} (hW : qWF nT nH T P E U N) (hE : qER m (bW b0) nT nH T P E U N) (hp : qPc m nT nH T c A) (x1 : inR n) (hn : ¬ qdc N nT n → Q (-1) ((b0, b1, b2), m)) (hy : qdc N nT n → ∀ m', qAC m m' (bW b0) nT nH T (qdys T P U nT nH n (N, c, A)).1 (qdys T P U nT nH n (N, c, A)).2.1 (qdys T P U nT nH n (N, c, A)).2.2 → qNw nT nH T (qdys T P U nT nH n (N, c, A)).1 → Q (N 66 + n) ((b0, b1, b2), m')) : bC xs 5 145 [vr 0, vi n] ((b0, b1, b2), m) Q := by
  refine qC rfl fun d hd => r_X11_days_0 hd ?_
  have wn := qw_n hW
  have en := qe_n hE
  have ed := qe_day hE
  have wd := qw_day hW
  have hw := qW b0
  rw [en.1, ed]
  unfold qdc at hn hy
  have hl : qdc N nT n → bGo xs d aM_X11_days 43 [vr 0, vi n, vi 0] [] ((b0, b1, b2), m) Q := by
    intro hc
    unfold qdc at hc
    suffices H : ∀ x, x ≤ n → 0 ≤ x → ∀ m' (s : qPs), qAC m m' (bW b0) nT nH T s.1 s.2.1 s.2.2 → qNw nT nH T s.1 → s.1 66 = N 66 + x → qdys T P U nT nH n (N, c, A) = qfold (qdst T P U nT nH) n x s → bGo xs d aM_X11_days 43 [vr 0, vi n, vi x] [] ((b0, b1, b2), m') Q from H 0 (by omega) (by omega) m (N, c, A) ⟨qFr.refl, hE.2, hp⟩ (qw_nw hW) (by dsimp only; omega) rfl
    refine qUpto ?_
    intro x hx ih x0 m' s ha hnw hday he
    refine r_X11_days_43 hd ?_
    rw [ha.2.1.2.2, hday]
    by_cases hlt : x < n
    · refine ⟨by omega, by omega, fun e => by omega, fun _ => ?_⟩
      have hW' := qWF_nw hW hnw
      have hE' : qER m' (bW b0) nT nH T P E U s.1 := ⟨qTo_fr ha.1 hE.1 (fun a k h1 h2 => by unfold qFact; omega), ha.2.1⟩
      refine c_keep hW' hE' ha.2.2 ?_
      intro m2 hf2 hp2
      refine ⟨rfl, ?_⟩
      try dsimp only
      have e9 : m2 (bW b0 + 9) = m' (bW b0 + 9) := qFr_at hf2 _ (fun k => by unfold qFkeep; omega)
      have hE2 : qER m2 (bW b0) nT nH T P E U s.1 := ⟨qTo_fr hf2 hE'.1 (fun a k h1 h2 => by unfold qFkeep; omega), by rw [e9]; exact ha.2.1⟩
      refine c_passDay hW' hE2 (by omega) ?_
      intro m3 hf3 hL3
      refine ⟨rfl, ?_⟩
      try dsimp only
      rw [qfold_lt hlt] at he
      refine ih hlt (by omega) m3 (qdst T P U nT nH x s) ⟨(ha.1.trans (hf2.mono (fun a k h => ?_))).trans (hf3.mono (fun a k h => ?_)), hL3, qPc_fr hf3 hp2 ⟨by omega, by omega⟩ (fun k => by omega)⟩ (qday_nw hW' (by omega)) ?_ he
      · unfold qFkeep at h; unfold qFact; omega
      · unfold qFact; omega
      · show qday T P U nT nH s.1 66 = _
        rw [qday_day hW']
        omega
    · rw [qfold_ge (by omega)] at he
      refine ⟨by omega, by omega, fun _ => ?_, fun e => by omega⟩
      rw [show N 66 + x = N 66 + n by omega]
      rw [he] at hy
      exact hy hc m' ha hnw
  (with_reducible repeat' (first | exact True.intro | apply And.intro | intro _))
  all_goals first | omega | exact hn (by omega) | exact hl (by unfold qdc; omega)
theorem d_days {n : Int} (hW : qWF nT nH T P E U N) (hM : qMR m nT nH T P E U N) (hp : qPm m c A) (hcb : 0 ≤ c ∧ c ≤ 40) (x1 : inR n) (hn : ¬ qdc N nT n → Q (-1) ((b0, b1, b2), up m 120 0 0)) (hy : qdc N nT n → ∀ m', qAM m m' (qdys T P U nT nH n (N, c, A)).1 (qdys T P U nT nH n (N, c, A)).2.1 (qdys T P U nT nH n (N, c, A)).2.2 → Q (N 66 + n) ((b0, b1, b2), m')) : bC xs 4 238 [vr 120, vi n] ((b0, b1, b2), m) Q := by
  refine qC rfl fun d hd => r_X12_days_0 hd ?_
  have wn := qw_n hW
  have wd := qw_day hW
  have hM0 := hM
  simp only [hM.1, hM.2.1, hM.2.2.1, hM.2.2.2.1, hM.2.2.2.2.1, hM.2.2.2.2.2.1, hM.2.2.2.2.2.2]
  unfold qdc at hn hy
  have hl : qdc N nT n → bGo xs d aM_X12_days 43 [vr 120, vi n, vi 0] [] ((b0, b1, b2), up m 120 0 0) Q := by
    intro hc
    unfold qdc at hc
    suffices H : ∀ x, x ≤ n → 0 ≤ x → ∀ m' (s : qPs), qAM m m' s.1 s.2.1 s.2.2 → 0 ≤ s.2.1 ∧ s.2.1 ≤ 40 → qNw nT nH T s.1 → s.1 66 = N 66 + x → qdys T P U nT nH n (N, c, A) = qfold (qdst T P U nT nH) n x s → bGo xs d aM_X12_days 43 [vr 120, vi n, vi x] [] ((b0, b1, b2), m') Q from H 0 (by omega) (by omega) _ (N, c, A) ⟨qFr_up qFr.refl (by unfold qFam; omega), by rw [qup_n (by omega)]; exact hM.2.2.2.2.2.2, qPm_up hp (by omega) (by omega)⟩ hcb (qw_nw hW) (by dsimp only; omega) rfl
    refine qUpto ?_
    intro x hx ih x0 m' s ha hcc hnw hday he
    refine r_X12_days_43 hd ?_
    rw [ha.2.1, hday]
    by_cases hlt : x < n
    · refine ⟨by omega, by omega, fun e => by omega, fun _ => ?_⟩
      have hW' := qWF_nw hW hnw
      refine d_remember ha.2.2 hcc ha.2.1 ?_
      intro m2 hf2 hp2
      refine ⟨rfl, ?_⟩
      try dsimp only
      have e9 : m2 135 = s.1 := by rw [qFr_at hf2 _ (fun k => by unfold qFrem; omega)]; exact ha.2.1
      have hf12 : qFr qFam m m2 := ha.1.trans (hf2.mono (fun a k h => by unfold qFrem at h; unfold qFam; omega))
      have hM2 : qMR m2 nT nH T P E U s.1 := by
        refine ⟨?_, ?_, ?_, ?_, ?_, ?_, e9⟩
        · rw [hf12 120 26 (by unfold qFam; omega)]; exact hM0.1
        · rw [hf12 120 27 (by unfold qFam; omega)]; exact hM0.2.1
        · rw [qFr_at hf12 125 (fun k => by unfold qFam; omega)]; exact hM0.2.2.1
        · rw [qFr_at hf12 127 (fun k => by unfold qFam; omega)]; exact hM0.2.2.2.1
        · rw [qFr_at hf12 129 (fun k => by unfold qFam; omega)]; exact hM0.2.2.2.2.1
        · rw [qFr_at hf12 131 (fun k => by unfold qFam; omega)]; exact hM0.2.2.2.2.2.1
      refine d_goDay hW' hM2 (by omega) ?_
      intro m3 hf3 hL3
      refine ⟨rfl, ?_⟩
      try dsimp only
      rw [qfold_lt hlt] at he
      refine ih hlt (by omega) m3 (qdst T P U nT nH x s) ⟨hf12.trans (hf3.mono (fun a k h => ?_)), hL3, qPm_fr hf3 hp2 (by omega) (fun k => by omega)⟩ ?_ (qday_nw hW' (by omega)) ?_ he
      · unfold qFam; omega
      · show 0 ≤ qpc s.2.1 ∧ qpc s.2.1 ≤ 40
        unfold qpc
        omega
      · show qday T P U nT nH s.1 66 = _
        rw [qday_day hW']
        omega
    · rw [qfold_ge (by omega)] at he
      refine ⟨by omega, by omega, fun _ => ?_, fun e => by omega⟩
      rw [show N 66 + x = N 66 + n by omega]
      rw [he] at hy
      exact hy hc m' ha
  (with_reducible repeat' (first | exact True.intro | apply And.intro | intro _))
  all_goals first | omega | exact hn (by omega) | exact hl (by unfold qdc; omega)
end MDAY
