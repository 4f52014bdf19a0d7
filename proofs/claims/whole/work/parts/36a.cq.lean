/-! B: THE CLASS's questions -/
theorem qQ {Q : bPo} {z z' : Int} {μ : bMm} (hq : Q z μ) (e : z' = z) : Q z' μ := e ▸ hq
section CQ
variable {xs : List Int32} {d : Nat} {Q : bPo} {b b0 b1 b2 : Bool} {m : Nat → Int → Int} {nT nH : Int} {T P E U N : Int → Int} {t s h k : Int}
theorem c_daysFrom (hW : qWF nT nH T P E U N) (hE : qER m (bW b) nT nH T P E U N) (h0 : 0 ≤ h) (h1 : h < nH) (t0 : 0 ≤ t) (t1 : t < nT) (s0 : 0 ≤ s) (s1 : s ≤ T (4 * t + 3)) (hQ : Q (qal T P N h t s) ((b0, b1, b2), m)) : bC xs 2 55 [vr (bW b), vi h, vi t, vi s] ((b0, b1, b2), m) Q := by
  refine qC rfl fun d hd => ?_
  refine r_X4_daysFrom_0 hd ?_
  have et := qe_t hE t0 t1
  have wt := qw_t hW t0 t1
  have wn := qw_n hW
  suffices H : ∀ s, s ≤ T (4 * t + 3) → 0 ≤ s → ∀ acc, 0 ≤ acc → acc ≤ 27 * s → Q (qsum (qtk P N h t) (T (4 * t + 3)) s acc) ((b0, b1, b2), m) → bGo xs d aM_X4_daysFrom 11 [vr (bW b), vi h, vi t, vn, vi acc, vi (t * 8 + s), vn] [] ((b0, b1, b2), m) Q from H s s1 s0 0 (by omega) (by omega) hQ
  refine qUpto ?_
  intro s hs ih s0 acc a0 a1 hq
  refine r_X4_daysFrom_11 hd ?_
  rw [et.2.2]
  by_cases hlt : s < T (4 * t + 3)
  · have ep := qe_p hE t0 t1 s0 hlt
    have wp := qw_p hW t0 t1 s0 hlt
    have ek := qe_sk hE h0 h1 (show 0 ≤ P (2 * (8 * t + s)) by omega) (by omega)
    have wk := qw_sk hW h0 h1 (show 0 ≤ P (2 * (8 * t + s)) by omega) (by omega)
    rw [ep.1, ep.2, ek]
    rw [qsum_lt hlt] at hq
    by_cases hv : N (36 + 5 * h + P (2 * (8 * t + s))) = 0
    · have hk : qtk P N h t s = -1 := by simp only [qtk, qdv, if_pos hv]
      rw [if_pos hk] at hq
      (with_reducible repeat' (first | apply And.intro | intro _))
      all_goals first | omega | exact hq
    · have hk : qtk P N h t s = Int.tdiv (3 * P (2 * (8 * t + s) + 1) + N (36 + 5 * h + P (2 * (8 * t + s))) - 1) (N (36 + 5 * h + P (2 * (8 * t + s)))) := by simp only [qtk, qdv, if_neg hv]
      have bd := qtd_bd (d := P (2 * (8 * t + s) + 1)) (v := N (36 + 5 * h + P (2 * (8 * t + s)))) (by omega) (by omega) (by omega) (by omega)
      rw [if_neg (by omega), hk] at hq
      (with_reducible repeat' (first | apply And.intro | intro _))
      all_goals first | omega | (rw [show t * 8 + s + 1 = t * 8 + (s + 1) by omega]; exact ih hlt (by omega) _ (by omega) (by omega) hq)
  · rw [qsum_ge (by omega)] at hq
    (with_reducible repeat' (first | apply And.intro | intro _))
    all_goals first | omega | exact hq
theorem c_aloneDays (hW : qWF nT nH T P E U N) (hE : qER m (bW b) nT nH T P E U N) (h0 : 0 ≤ h) (h1 : h < nH) (t0 : 0 ≤ t) (t1 : t < nT) (hQ : Q (qal T P N h t (N (6 * t))) ((b0, b1, b2), m)) : bC xs 3 56 [vr (bW b), vi h, vi t] ((b0, b1, b2), m) Q := by
  have wn := qw_n hW
  refine qC rfl fun d hd => r_X4_aloneDays_0 hd ⟨by omega, ?_⟩
  rw [(qe_l hE t0 t1).1]
  exact c_daysFrom hW hE h0 h1 t0 t1 (qw_dn hW t0 t1).1 (qw_dn hW t0 t1).2 ⟨rfl, hQ⟩
theorem c_aloneInTime (hW : qWF nT nH T P E U N) (hE : qER m (bW b) nT nH T P E U N) (t0 : 0 ≤ t) (t1 : t < nT) (hQ : Q (qwho T P N nH t) ((b0, b1, b2), m)) : bC xs 5 59 [vr (bW b), vi t] ((b0, b1, b2), m) Q := by
  refine qC rfl fun d hd => r_X4_aloneInTime_0 hd ?_
  have et := qe_t hE t0 t1
  have wt := qw_t hW t0 t1
  have wn := qw_n hW
  have en := qe_n hE
  have ed := qe_day hE
  have wd := qw_day hW
  suffices H : ∀ h, h ≤ nH → 0 ≤ h → ∀ acc, Q (qfold (fun h a => if qit T N t (qal T P N h t (N (6 * t))) then bOrr a (bShl 1 h) else a) nH h acc) ((b0, b1, b2), m) → bGo xs d aM_X4_aloneInTime 4 [vr (bW b), vi t, vi acc, vi h] [] ((b0, b1, b2), m) Q from H 0 (by omega) (by omega) 0 hQ
  refine qUpto ?_
  intro h hs ih h0 acc hq
  refine r_X4_aloneInTime_4 hd ?_
  rw [en.2]
  by_cases hlt : h < nH
  · rw [qfold_lt hlt] at hq
    have bd := qal_dn hW h0 hlt t0 t1
    refine ⟨by omega, by omega, fun e => by omega, fun _ => c_aloneDays hW hE h0 hlt t0 t1 ?_⟩
    try dsimp only
    rw [ed, et.2.1]
    (with_reducible repeat' (first | apply And.intro | intro _))
    all_goals first | omega | rfl | exact ih hlt (by omega) _ (by first | (rw [if_pos (by omega)] at hq; exact hq) | (rw [if_neg (by omega)] at hq; exact hq))
  · rw [qfold_ge (by omega)] at hq
    (with_reducible repeat' (first | apply And.intro | intro _))
    all_goals first | omega | exact hq
theorem c_bestSkill (hW : qWF nT nH T P E U N) (hE : qER m (bW b) nT nH T P E U N) (k0 : 0 ≤ k) (k1 : k < 5) (hQ : Q (qbs N nH s k) ((b0, b1, b2), m)) : bC xs 2 60 [vr (bW b), vi s, vi k] ((b0, b1, b2), m) Q := by
  refine qC rfl fun d hd => r_X4_bestSkill_0 hd ?_
  have wn := qw_n hW
  have en := qe_n hE
  suffices H : ∀ h, h ≤ nH → 0 ≤ h → ∀ acc, 0 ≤ acc → acc ≤ 9 → Q (qfold (fun h a => if bAnd (bShr s h) 1 = 1 then max a (N (36 + 5 * h + k)) else a) nH h acc) ((b0, b1, b2), m) → bGo xs d aM_X4_bestSkill 5 [vr (bW b), vi s, vi k, vi acc, vi h] [] ((b0, b1, b2), m) Q from H 0 (by omega) (by omega) 0 (by omega) (by omega) hQ
  refine qUpto ?_
  intro h hs ih h0 acc a0 a1 hq
  refine r_X4_bestSkill_5 hd ?_
  rw [en.2]
  by_cases hlt : h < nH
  · rw [qfold_lt hlt] at hq
    have ek := qe_sk hE h0 hlt k0 k1
    have wk := qw_sk hW h0 hlt k0 k1
    have wa := qAnd_inR (bShr s h) 1
    rw [ek]
    (with_reducible repeat' (first | apply And.intro | intro _))
    all_goals first | omega | exact ih hlt (by omega) _ (by omega) (by omega) (by first | (rw [if_pos (by omega)] at hq; exact hq) | (rw [if_neg (by omega)] at hq; exact hq))
  · rw [qfold_ge (by omega)] at hq
    (with_reducible repeat' (first | apply And.intro | intro _))
    all_goals first | omega | exact hq
theorem c_firstStuck (hW : qWF nT nH T P E U N) (hE : qER m (bW b) nT nH T P E U N) (t0 : 0 ≤ t) (t1 : t < nT) (hQ : Q (qstk T P N nH t) ((b0, b1, b2), m)) : bC xs 3 62 [vr (bW b), vi t] ((b0, b1, b2), m) Q := by
  have et := qe_t hE t0 t1
  have el := qe_l hE t0 t1
  have wt := qw_t hW t0 t1
  have wd := qw_dn hW t0 t1
  have wn := qw_n hW
  have en := qe_n hE
  refine qC rfl fun d hd => r_X4_firstStuck_0 hd ⟨by omega, ?_⟩
  rw [el.1]
  suffices H : ∀ s, s ≤ T (4 * t + 3) → 0 ≤ s → Q (qfst (fun s => decide (qbs N nH (bShl 1 nH - 1) (P (2 * (8 * t + s))) = 0)) (T (4 * t + 3)) s) ((b0, b1, b2), m) → bGo xs d aM_X4_firstStuck 9 [vr (bW b), vi t, vi s] [] ((b0, b1, b2), m) Q from H _ wd.2 wd.1 hQ
  refine qUpto ?_
  intro s hs ih s0 hq
  refine r_X4_firstStuck_9 hd ?_
  rw [et.2.2, en.2]
  by_cases hlt : s < T (4 * t + 3)
  · have ep := qe_p hE t0 t1 s0 hlt
    have wp := qw_p hW t0 t1 s0 hlt
    have bd := qbs_bd (set := bShl 1 nH - 1) hW (show 0 ≤ P (2 * (8 * t + s)) by omega) (by omega)
    rw [qfst_lt hlt] at hq
    rw [ep.1]
    refine ⟨by omega, by omega, by omega, fun e => by omega, fun _ => ⟨by omega, c_bestSkill hW hE (by omega) (by omega) ?_⟩⟩
    try dsimp only
    (with_reducible repeat' (first | apply And.intro | intro _))
    all_goals first | omega | rfl | exact ih hlt (by omega) (by rw [if_neg (by simp only [decide_eq_true_eq]; omega)] at hq; exact hq) | (rw [if_pos (by simp only [decide_eq_true_eq]; omega)] at hq; exact hq)
  · rw [qfst_ge (by omega)] at hq
    (with_reducible repeat' (first | apply And.intro | intro _))
    all_goals first | omega | exact hq
theorem c_teamDays (hW : qWF nT nH T P E U N) (hE : qER m (bW b) nT nH T P E U N) (t0 : 0 ≤ t) (t1 : t < nT) (hQ : Q (qtm T P N nH t s) ((b0, b1, b2), m)) : bC xs 3 63 [vr (bW b), vi t, vi s] ((b0, b1, b2), m) Q := by
  have et := qe_t hE t0 t1
  have el := qe_l hE t0 t1
  have wt := qw_t hW t0 t1
  have wd := qw_dn hW t0 t1
  have wn := qw_n hW
  refine qC rfl fun d hd => r_X4_teamDays_0 hd ⟨by omega, ?_⟩
  rw [el.1]
  suffices H : ∀ i, i ≤ T (4 * t + 3) → 0 ≤ i → ∀ acc, 0 ≤ acc → acc ≤ 27 * i → Q (qsum (fun i => qdv (P (2 * (8 * t + i) + 1)) (qbs N nH s (P (2 * (8 * t + i))))) (T (4 * t + 3)) i acc) ((b0, b1, b2), m) → bGo xs d aM_X4_teamDays 12 [vr (bW b), vi t, vi s, vi acc, vi i, vn, vn] [] ((b0, b1, b2), m) Q from H _ wd.2 wd.1 0 (by omega) (by omega) hQ
  refine qUpto ?_
  intro i hs ih i0 acc a0 a1 hq
  refine r_X4_teamDays_12 hd ?_
  rw [et.2.2]
  by_cases hlt : i < T (4 * t + 3)
  · have ep := qe_p hE t0 t1 i0 hlt
    have wp := qw_p hW t0 t1 i0 hlt
    have bd := qbs_bd (set := s) hW (show 0 ≤ P (2 * (8 * t + i)) by omega) (by omega)
    rw [qsum_lt hlt] at hq
    rw [ep.1, ep.2]
    refine ⟨by omega, by omega, by omega, fun e => by omega, fun _ => ⟨by omega, by omega, c_bestSkill hW hE (by omega) (by omega) ?_⟩⟩
    dsimp only at hq ⊢
    by_cases hv : qbs N nH s (P (2 * (8 * t + i))) = 0
    · have hk : qdv (P (2 * (8 * t + i) + 1)) (qbs N nH s (P (2 * (8 * t + i)))) = -1 := by simp only [qdv, if_pos hv]
      rw [if_pos hk] at hq
      (with_reducible repeat' (first | apply And.intro | intro _))
      all_goals first | omega | rfl | exact hq
    · have hk : qdv (P (2 * (8 * t + i) + 1)) (qbs N nH s (P (2 * (8 * t + i)))) = Int.tdiv (3 * P (2 * (8 * t + i) + 1) + qbs N nH s (P (2 * (8 * t + i))) - 1) (qbs N nH s (P (2 * (8 * t + i)))) := by simp only [qdv, if_neg hv]
      have bd2 := qtd_bd (d := P (2 * (8 * t + i) + 1)) (v := qbs N nH s (P (2 * (8 * t + i)))) (by omega) (by omega) (by omega) (by omega)
      rw [if_neg (by omega), hk] at hq
      (with_reducible repeat' (first | apply And.intro | intro _))
      all_goals first | omega | rfl | exact ih hlt (by omega) _ (by omega) (by omega) hq
  · rw [qsum_ge (by omega)] at hq
    (with_reducible repeat' (first | apply And.intro | intro _))
    all_goals first | omega | exact hq
theorem c_fewestInTime (hW : qWF nT nH T P E U N) (hE : qER m (bW b) nT nH T P E U N) (t0 : 0 ≤ t) (t1 : t < nT) (hQ : Q (qhlp T P N nH t) ((b0, b1, b2), m)) : bC xs 4 64 [vr (bW b), vi t] ((b0, b1, b2), m) Q := by
  have et := qe_t hE t0 t1
  have wt := qw_t hW t0 t1
  have wn := qw_n hW
  have en := qe_n hE
  have ed := qe_day hE
  have wd := qw_day hW
  have pw := qpw (show 0 ≤ nH by omega) (by omega)
  refine qC rfl fun d hd => r_X4_fewestInTime_0 hd ?_
  suffices H : ∀ i, i ≤ bShl 1 nH → 1 ≤ i → ∀ acc, inR acc → Q (qfold (fun set a => if (a = -1 ∨ qbc set < qbc a) ∧ qit T N t (qtm T P N nH t set) then set else a) (bShl 1 nH) i acc) ((b0, b1, b2), m) → bGo xs d aM_X4_fewestInTime 4 [vr (bW b), vi t, vi acc, vi i, vn] [] ((b0, b1, b2), m) Q from H 1 (by omega) (by omega) (-1) (by omega) hQ
  refine qUpto ?_
  intro i hs ih i0 acc ha hq
  refine r_X4_fewestInTime_4 hd ?_
  rw [en.2]
  by_cases hlt : i < bShl 1 nH
  · rw [qfold_lt hlt] at hq
    have bd := qtm_bd (set := i) hW t0 t1
    have b1 := qbc_inR i
    have b2 := qbc_inR acc
    refine ⟨by omega, by omega, fun e => by omega, fun _ => ⟨ha, fun ea => c_teamDays hW hE t0 t1 ?_, fun ea => c_bitCount ⟨rfl, c_bitCount ⟨rfl, b1, b2, fun e => ?_, fun e => c_teamDays hW hE t0 t1 ?_⟩⟩⟩⟩
    · dsimp only
      rw [ed, et.2.1]
      (with_reducible repeat' (first | apply And.intro | intro _))
      all_goals first | omega | rfl | exact ih hlt (by omega) _ (by omega) (by first | (rw [if_pos (by omega)] at hq; exact hq) | (rw [if_neg (by omega)] at hq; exact hq))
    · dsimp only
      exact ih hlt (by omega) _ ha (by rw [if_neg (by omega)] at hq; exact hq)
    · dsimp only
      rw [ed, et.2.1]
      (with_reducible repeat' (first | apply And.intro | intro _))
      all_goals first | omega | rfl | exact ih hlt (by omega) _ (by omega) (by first | (rw [if_pos (by omega)] at hq; exact hq) | (rw [if_neg (by omega)] at hq; exact hq))
  · rw [qfold_ge (by omega)] at hq
    (with_reducible repeat' (first | apply And.intro | intro _))
    all_goals first | omega | exact hq
theorem c_paidByGuilds (hW : qWF nT nH T P E U N) (hE : qER m (bW b) nT nH T P E U N) (hQ : Q (qsld T P N nT nH) ((b0, b1, b2), m)) : bC xs 6 65 [vr (bW b)] ((b0, b1, b2), m) Q := by
  have wn := qw_n hW
  have en := qe_n hE
  have ed := qe_day hE
  have wd := qw_day hW
  refine qC rfl fun d hd => r_X4_paidByGuilds_0 hd ?_
  suffices H : ∀ t, t ≤ nT → 0 ≤ t → ∀ acc, 0 ≤ acc → acc ≤ 99 * t → Q (qfold (fun t a => if N (6 * t + 2) = 0 ∧ qwho T P N nH t = 0 ∧ qit T N t (qtm T P N nH t (bShl 1 nH - 1)) then a + T (4 * t) else a) nT t acc) ((b0, b1, b2), m) → bGo xs d aM_X4_paidByGuilds 4 [vr (bW b), vi acc, vi t] [] ((b0, b1, b2), m) Q from H 0 (by omega) (by omega) 0 (by omega) (by omega) hQ
  refine qUpto ?_
  intro t hs ih t0 acc a0 a1 hq
  refine r_X4_paidByGuilds_4 hd ?_
  rw [en.1]
  by_cases hlt : t < nT
  · have et := qe_t hE t0 hlt
    have el := qe_l hE t0 hlt
    have wt := qw_t hW t0 hlt
    have ws := qw_st hW t0 hlt
    have bd := qtm_bd (set := bShl 1 nH - 1) hW t0 hlt
    have bw := qwho_inR (T := T) (P := P) (N := N) (t := t) (show 0 ≤ nH by omega)
    rw [qfold_lt hlt] at hq
    rw [el.2.2.2.1]
    refine ⟨by omega, by omega, fun e => by omega, fun _ => ⟨by omega, fun e => by omega, fun _ => ⟨by omega, by omega, fun e => by omega, fun _ => ⟨by omega, by omega, fun e1 => ?_, fun e1 => c_aloneInTime hW hE t0 hlt ⟨rfl, bw, fun e2 => ?_, fun e2 => ?_⟩⟩⟩⟩⟩
    · exact ih hlt (by omega) _ (by omega) (by omega) (by rw [if_neg (by omega)] at hq; exact hq)
    · exact ih hlt (by omega) _ (by omega) (by omega) (by rw [if_neg (by omega)] at hq; exact hq)
    · dsimp only
      rw [en.2]
      refine c_teamDays hW hE t0 hlt ?_
      try dsimp only
      rw [ed, et.2.1, et.1]
      (with_reducible repeat' (first | apply And.intro | intro _))
      all_goals first | omega | rfl | exact ih hlt (by omega) _ (by omega) (by omega) (by first | (rw [if_pos (by omega)] at hq; exact hq) | (rw [if_neg (by omega)] at hq; exact hq))
  · rw [qfold_ge (by omega)] at hq
    (with_reducible repeat' (first | apply And.intro | intro _))
    all_goals first | omega | exact hq
end CQ
