/-! B: THE REFERENCE's questions -/
section MQ
variable {xs : List Int32} {d : Nat} {Q : bPo} {b b0 b1 b2 : Bool} {m : Nat → Int → Int} {nT nH : Int} {T P E U N : Int → Int} {t s h k : Int}
theorem d_aloneFrom (hW : qWF nT nH T P E U N) (hM : qMR m nT nH T P E U N) (h0 : 0 ≤ h) (h1 : h < nH) (t0 : 0 ≤ t) (t1 : t < nT) (s0 : 0 ≤ s) (s1 : s ≤ T (4 * t + 3)) (hQ : Q (qal T P N h t s) ((b0, b1, b2), m)) : bC xs 3 223 [vr 120, vi h, vi t, vi s] ((b0, b1, b2), m) Q := by
  refine qC rfl fun d hd => r_X12_aloneFrom_0 hd ?_
  have wt := qw_t hW t0 t1
  have wn := qw_n hW
  suffices H : ∀ s, s ≤ T (4 * t + 3) → 0 ≤ s → ∀ acc, 0 ≤ acc → acc ≤ 27 * s → Q (qsum (qtk P N h t) (T (4 * t + 3)) s acc) ((b0, b1, b2), m) → bGo xs d aM_X12_aloneFrom 6 [vr 120, vi h, vi t, vn, vi acc, vi s, vn] [] ((b0, b1, b2), m) Q from H s s1 s0 0 (by omega) (by omega) hQ
  refine qUpto ?_
  intro s hs ih s0 acc a0 a1 hq
  refine r_X12_aloneFrom_6 hd ?_
  simp only [hM.1, hM.2.1, hM.2.2.1, hM.2.2.2.1, hM.2.2.2.2.1, hM.2.2.2.2.2.1, hM.2.2.2.2.2.2]
  by_cases hlt : s < T (4 * t + 3)
  · have wp := qw_p hW t0 t1 s0 hlt
    have wk := qw_sk hW h0 h1 (show 0 ≤ P (2 * (8 * t + s)) by omega) (by omega)
    rw [qsum_lt hlt] at hq
    by_cases hv : N (36 + 5 * h + P (2 * (8 * t + s))) = 0
    · have hk : qtk P N h t s = -1 := by simp only [qtk, qdv, if_pos hv]
      rw [if_pos hk] at hq
      (with_reducible repeat' (first | exact True.intro | apply And.intro | intro _))
      all_goals first | omega | exact hq
    · have hk : qtk P N h t s = Int.tdiv (3 * P (2 * (8 * t + s) + 1) + N (36 + 5 * h + P (2 * (8 * t + s))) - 1) (N (36 + 5 * h + P (2 * (8 * t + s)))) := by simp only [qtk, qdv, if_neg hv]
      have bd := qtd_bd (d := P (2 * (8 * t + s) + 1)) (v := N (36 + 5 * h + P (2 * (8 * t + s)))) (by omega) (by omega) (by omega) (by omega)
      rw [if_neg (by omega), hk] at hq
      (with_reducible repeat' (first | exact True.intro | apply And.intro | intro _))
      all_goals first | omega | exact ih hlt (by omega) _ (by omega) (by omega) hq
  · rw [qsum_ge (by omega)] at hq
    (with_reducible repeat' (first | exact True.intro | apply And.intro | intro _))
    all_goals first | omega | exact hq
theorem d_aloneOf (hW : qWF nT nH T P E U N) (hM : qMR m nT nH T P E U N) (h0 : 0 ≤ h) (h1 : h < nH) (t0 : 0 ≤ t) (t1 : t < nT) (hQ : Q (qal T P N h t (N (6 * t))) ((b0, b1, b2), m)) : bC xs 4 224 [vr 120, vi h, vi t] ((b0, b1, b2), m) Q := by
  have wn := qw_n hW
  refine qC rfl fun d hd => r_X12_aloneOf_0 hd ?_
  simp only [hM.1, hM.2.1, hM.2.2.1, hM.2.2.2.1, hM.2.2.2.2.1, hM.2.2.2.2.2.1, hM.2.2.2.2.2.2]
  exact ⟨by omega, d_aloneFrom hW hM h0 h1 t0 t1 (qw_dn hW t0 t1).1 (qw_dn hW t0 t1).2 ⟨rfl, hQ⟩⟩
theorem d_whoOf (hW : qWF nT nH T P E U N) (hM : qMR m nT nH T P E U N) (t0 : 0 ≤ t) (t1 : t < nT) (hQ : Q (qwho T P N nH t) ((b0, b1, b2), m)) : bC xs 5 227 [vr 120, vi t] ((b0, b1, b2), m) Q := by
  refine qC rfl fun d hd => r_X12_whoOf_0 hd ?_
  have wt := qw_t hW t0 t1
  have wn := qw_n hW
  have wd := qw_day hW
  suffices H : ∀ h, h ≤ nH → 0 ≤ h → ∀ acc, inR acc → Q (qfold (fun h a => if qit T N t (qal T P N h t (N (6 * t))) then bOrr a (bShl 1 h) else a) nH h acc) ((b0, b1, b2), m) → bGo xs d aM_X12_whoOf 4 [vr 120, vi t, vi acc, vi h] [] ((b0, b1, b2), m) Q from H 0 (by omega) (by omega) 0 (by omega) hQ
  refine qUpto ?_
  intro h hs ih h0 acc ha hq
  refine r_X12_whoOf_4 hd ?_
  simp only [hM.1, hM.2.1, hM.2.2.1, hM.2.2.2.1, hM.2.2.2.2.1, hM.2.2.2.2.2.1, hM.2.2.2.2.2.2]
  by_cases hlt : h < nH
  · rw [qfold_lt hlt] at hq
    have bd := qal_dn hW h0 hlt t0 t1
    have bo := qOrr_inR acc (bShl 1 h)
    refine ⟨by omega, by omega, fun e => by omega, fun _ => d_aloneOf hW hM h0 hlt t0 t1 ?_⟩
    try dsimp only
    simp only [hM.1, hM.2.1, hM.2.2.1, hM.2.2.2.1, hM.2.2.2.2.1, hM.2.2.2.2.2.1, hM.2.2.2.2.2.2]
    rw [qOrr_zero ha]
    (with_reducible repeat' (first | exact True.intro | apply And.intro | intro _))
    all_goals first | omega | rfl | exact ih hlt (by omega) _ (by first | exact ha | exact bo) (by first | (rw [if_pos (by omega)] at hq; exact hq) | (rw [if_neg (by omega)] at hq; exact hq))
  · rw [qfold_ge (by omega)] at hq
    (with_reducible repeat' (first | exact True.intro | apply And.intro | intro _))
    all_goals first | omega | exact hq
/-- of a set the quickest at a step is its best -/
theorem d_teamOf (hW : qWF nT nH T P E U N) (hM : qMR m nT nH T P E U N) (t0 : 0 ≤ t) (t1 : t < nT) (hQ : Q (qtm T P N nH t s) ((b0, b1, b2), m)) : bC xs 3 230 [vr 120, vi t, vi s] ((b0, b1, b2), m) Q := by
  have wt := qw_t hW t0 t1
  have wd := qw_dn hW t0 t1
  have wn := qw_n hW
  refine qC rfl fun d hd => r_X12_teamOf_0 hd ?_
  simp only [hM.1, hM.2.1, hM.2.2.1, hM.2.2.2.1, hM.2.2.2.2.1, hM.2.2.2.2.2.1, hM.2.2.2.2.2.2]
  refine ⟨by omega, ?_⟩
  suffices H : ∀ i, i ≤ T (4 * t + 3) → 0 ≤ i → ∀ acc, 0 ≤ acc → acc ≤ 27 * i → Q (qsum (fun i => qdv (P (2 * (8 * t + i) + 1)) (qbs N nH s (P (2 * (8 * t + i))))) (T (4 * t + 3)) i acc) ((b0, b1, b2), m) → bGo xs d aM_X12_teamOf 9 [vr 120, vi t, vi s, vi acc, vi i, vn, vn, vn] [] ((b0, b1, b2), m) Q from H _ wd.2 wd.1 0 (by omega) (by omega) hQ
  refine qUpto ?_
  intro i hs ih i0 acc a0 a1 hq
  refine r_X12_teamOf_9 hd ?_
  simp only [hM.1, hM.2.1, hM.2.2.1, hM.2.2.2.1, hM.2.2.2.2.1, hM.2.2.2.2.2.1, hM.2.2.2.2.2.2]
  by_cases hlt : i < T (4 * t + 3)
  · have wp := qw_p hW t0 t1 i0 hlt
    have bd := qbs_bd (set := s) hW (show 0 ≤ P (2 * (8 * t + i)) by omega) (by omega)
    rw [qsum_lt hlt] at hq
    refine ⟨by omega, by omega, by omega, fun e => by omega, fun _ => ?_⟩
    try dsimp only at hq
    have bd2 := qdv_bd (d := P (2 * (8 * t + i) + 1)) (v := qbs N nH s (P (2 * (8 * t + i)))) (by omega) (by omega) (by omega) (by omega)
    suffices H2 : ∀ h, h ≤ nH → 0 ≤ h → ∀ v, 0 ≤ v → v ≤ 9 → qbs N nH s (P (2 * (8 * t + i))) = qfold (fun h a => if bAnd (bShr s h) 1 = 1 then max a (N (36 + 5 * h + P (2 * (8 * t + i)))) else a) nH h v → bGo xs d aM_X12_teamOf 25 [vr 120, vi t, vi s, vi acc, vi i, vi (qdv (P (2 * (8 * t + i) + 1)) v), vi h, vn] [] ((b0, b1, b2), m) Q from by
      have := H2 0 (by omega) (by omega) 0 (by omega) (by omega) rfl
      rw [show qdv (P (2 * (8 * t + i) + 1)) 0 = -1 from rfl] at this
      exact this
    refine qUpto ?_
    intro h hh ih2 h0 v v0 v1 hv
    refine r_X12_teamOf_25 hd ?_
    simp only [hM.1, hM.2.1, hM.2.2.1, hM.2.2.2.1, hM.2.2.2.2.1, hM.2.2.2.2.2.1, hM.2.2.2.2.2.2]
    have bv := qdv_bd (d := P (2 * (8 * t + i) + 1)) (v := v) (by omega) (by omega) v0 v1
    by_cases hlt2 : h < nH
    · have wk := qw_sk hW h0 hlt2 (show 0 ≤ P (2 * (8 * t + i)) by omega) (by omega)
      have wa := qAnd_inR (bShr s h) 1
      rw [qfold_lt hlt2] at hv
      refine ⟨by omega, by omega, fun e => by omega, fun _ => ⟨wa, fun e => ?_, fun e => ?_⟩⟩
      · rw [if_neg e] at hv
        exact ih2 hlt2 (by omega) v v0 v1 hv
      · rw [if_pos e] at hv
        have hn := ih2 hlt2 (by omega) _ (by omega) (by omega) hv
        by_cases hz : N (36 + 5 * h + P (2 * (8 * t + i))) = 0
        · rw [hz, show max v 0 = v by omega] at hn
          (with_reducible repeat' (first | exact True.intro | apply And.intro | intro _))
          all_goals first | omega | exact hn
        · have bt := qtd_bd (d := P (2 * (8 * t + i) + 1)) (v := N (36 + 5 * h + P (2 * (8 * t + i)))) (by omega) (by omega) (by omega) (by omega)
          have hk : qdv (P (2 * (8 * t + i) + 1)) (N (36 + 5 * h + P (2 * (8 * t + i)))) = Int.tdiv (3 * P (2 * (8 * t + i) + 1) + N (36 + 5 * h + P (2 * (8 * t + i))) - 1) (N (36 + 5 * h + P (2 * (8 * t + i)))) := by simp only [qdv, if_neg hz]
          by_cases hv0 : v = 0
          · have hvv : qdv (P (2 * (8 * t + i) + 1)) v = -1 := by simp only [qdv, if_pos hv0]
            rw [show max v (N (36 + 5 * h + P (2 * (8 * t + i)))) = N (36 + 5 * h + P (2 * (8 * t + i))) by omega, hk] at hn
            (with_reducible repeat' (first | exact True.intro | apply And.intro | intro _))
            all_goals first | omega | exact hn
          · have hvv : qdv (P (2 * (8 * t + i) + 1)) v = Int.tdiv (3 * P (2 * (8 * t + i) + 1) + v - 1) v := by simp only [qdv, if_neg hv0]
            by_cases hle : v ≤ N (36 + 5 * h + P (2 * (8 * t + i)))
            · have mo := qtd_mono (d := P (2 * (8 * t + i) + 1)) (v := v) (u := N (36 + 5 * h + P (2 * (8 * t + i)))) (by omega) (by omega) (by omega) (by omega) (by omega)
              rw [show max v (N (36 + 5 * h + P (2 * (8 * t + i)))) = N (36 + 5 * h + P (2 * (8 * t + i))) by omega, hk] at hn
              (with_reducible repeat' (first | exact True.intro | apply And.intro | intro _))
              all_goals first | omega | exact hn | (rw [show qdv (P (2 * (8 * t + i) + 1)) v = Int.tdiv (3 * P (2 * (8 * t + i) + 1) + N (36 + 5 * h + P (2 * (8 * t + i))) - 1) (N (36 + 5 * h + P (2 * (8 * t + i)))) by omega]; exact hn)
            · have mo := qtd_mono (d := P (2 * (8 * t + i) + 1)) (v := N (36 + 5 * h + P (2 * (8 * t + i)))) (u := v) (by omega) (by omega) (by omega) (by omega) (by omega)
              rw [show max v (N (36 + 5 * h + P (2 * (8 * t + i)))) = v by omega] at hn
              (with_reducible repeat' (first | exact True.intro | apply And.intro | intro _))
              all_goals first | omega | exact hn | (rw [show Int.tdiv (3 * P (2 * (8 * t + i) + 1) + N (36 + 5 * h + P (2 * (8 * t + i))) - 1) (N (36 + 5 * h + P (2 * (8 * t + i)))) = qdv (P (2 * (8 * t + i) + 1)) v by omega]; exact hn)
    · rw [qfold_ge (by omega)] at hv
      rw [hv] at hq bd2
      by_cases hm1 : qdv (P (2 * (8 * t + i) + 1)) v = -1
      · rw [if_pos hm1] at hq
        (with_reducible repeat' (first | exact True.intro | apply And.intro | intro _))
        all_goals first | omega | exact hq
      · rw [if_neg hm1] at hq
        (with_reducible repeat' (first | exact True.intro | apply And.intro | intro _))
        all_goals first | omega | exact ih hlt (by omega) _ (by omega) (by omega) hq
  · rw [qsum_ge (by omega)] at hq
    (with_reducible repeat' (first | exact True.intro | apply And.intro | intro _))
    all_goals first | omega | exact hq
theorem d_stuckL (hd : 3 ≤ d) (hW : qWF nT nH T P E U N) (hM : qMR m nT nH T P E U N) (t0 : 0 ≤ t) (t1 : t < nT) (hQ : Q (qstk T P N nH t) ((b0, b1, b2), m)) : bGo xs d aM_X12_stuck 21 [vr 120, vi t, vi (N (6 * t)), vn, vn] [] ((b0, b1, b2), m) Q := by
  have wt := qw_t hW t0 t1
  have wd := qw_dn hW t0 t1
  have wn := qw_n hW
  suffices H : ∀ s, s ≤ T (4 * t + 3) → 0 ≤ s → Q (qfst (fun s => decide (qbs N nH (bShl 1 nH - 1) (P (2 * (8 * t + s))) = 0)) (T (4 * t + 3)) s) ((b0, b1, b2), m) → bGo xs d aM_X12_stuck 21 [vr 120, vi t, vi s, vn, vn] [] ((b0, b1, b2), m) Q from H _ wd.2 wd.1 hQ
  refine qUpto ?_
  intro s hs ih s0 hq
  refine r_X12_stuck_21 hd ?_
  simp only [hM.1, hM.2.1, hM.2.2.1, hM.2.2.2.1, hM.2.2.2.2.1, hM.2.2.2.2.2.1, hM.2.2.2.2.2.2]
  by_cases hlt : s < T (4 * t + 3)
  · have wp := qw_p hW t0 t1 s0 hlt
    rw [qfst_lt hlt] at hq
    simp only [decide_eq_true_eq] at hq
    refine ⟨by omega, by omega, by omega, fun e => by omega, fun _ => ?_⟩
    suffices H2 : ∀ h, h ≤ nH → 0 ≤ h → ∀ v c, 0 ≤ v → v ≤ 9 → ((v = 0 ∧ c = 0) ∨ (0 < v ∧ c = 1)) → qbs N nH (bShl 1 nH - 1) (P (2 * (8 * t + s))) = qfold (fun h a => if bAnd (bShr (bShl 1 nH - 1) h) 1 = 1 then max a (N (36 + 5 * h + P (2 * (8 * t + s)))) else a) nH h v → bGo xs d aM_X12_stuck 35 [vr 120, vi t, vi s, vi c, vi h] [] ((b0, b1, b2), m) Q from H2 0 (by omega) (by omega) 0 0 (by omega) (by omega) (by omega) rfl
    refine qUpto ?_
    intro h hh ih2 h0 v c v0 v1 hc hv
    refine r_X12_stuck_35 hd ?_
    simp only [hM.1, hM.2.1, hM.2.2.1, hM.2.2.2.1, hM.2.2.2.2.1, hM.2.2.2.2.2.1, hM.2.2.2.2.2.2]
    by_cases hlt2 : h < nH
    · have wk := qw_sk hW h0 hlt2 (show 0 ≤ P (2 * (8 * t + s)) by omega) (by omega)
      rw [qfold_lt hlt2, if_pos (qevery (by omega) (by omega) h0 hlt2)] at hv
      (with_reducible repeat' (first | exact True.intro | apply And.intro | intro _))
      all_goals first | omega | exact ih2 hlt2 (by omega) _ _ (by omega) (by omega) (by omega) hv
    · rw [qfold_ge (by omega)] at hv
      rw [hv] at hq
      (with_reducible repeat' (first | exact True.intro | apply And.intro | intro _))
      all_goals first | omega | exact ih hlt (by omega) (by rw [if_neg (by omega)] at hq; exact hq) | (rw [if_pos (by omega)] at hq; exact hq)
  · rw [qfst_ge (by omega)] at hq
    (with_reducible repeat' (first | exact True.intro | apply And.intro | intro _))
    all_goals first | omega | exact hq
/-- nobody can do what is open -/
theorem qtm_none (hW : qWF nT nH T P E U N) (t0 : 0 ≤ t) (t1 : t < nT) (ho : N (6 * t + 2) = 0) : qtm T P N nH t 0 = -1 := by
  have wd := qw_dn hW t0 t1
  have ws := qw_st hW t0 t1
  have wn := qw_n hW
  unfold qtm
  rw [qsum_lt (by omega)]
  have : qbs N nH 0 (P (2 * (8 * t + N (6 * t)))) = 0 := by
    unfold qbs
    refine qfold_inv (I := fun _ a => a = 0) ?_ (by omega) rfl
    intro i a h0 h1 ha
    have hz : bAnd (bShr 0 i) 1 = 0 := by
      have e : i = 0 ∨ i = 1 ∨ i = 2 ∨ i = 3 ∨ i = 4 ∨ i = 5 := by omega
      rcases e with rfl | rfl | rfl | rfl | rfl | rfl <;> decide +kernel
    try dsimp only
    rw [if_neg (by omega)]
    exact ha
  simp only [this]
  rfl
theorem d_helpersL (hd : 4 ≤ d) (hW : qWF nT nH T P E U N) (hM : qMR m nT nH T P E U N) (t0 : 0 ≤ t) (t1 : t < nT) (ho : N (6 * t + 2) = 0) (hQ : Q (qhlp T P N nH t) ((b0, b1, b2), m)) : bGo xs d aM_X12_helpers 19 [vr 120, vi t, vi (-1), vi 0] [] ((b0, b1, b2), m) Q := by
  have wt := qw_t hW t0 t1
  have wn := qw_n hW
  have wd := qw_day hW
  have pw := qpw (show 0 ≤ nH by omega) (by omega)
  suffices H : ∀ i, i ≤ bShl 1 nH → 0 ≤ i → ∀ acc, inR acc → (i = 0 → acc = -1) → Q (qfold (fun set a => if (a = -1 ∨ qbc set < qbc a) ∧ qit T N t (qtm T P N nH t set) then set else a) (bShl 1 nH) i acc) ((b0, b1, b2), m) → bGo xs d aM_X12_helpers 19 [vr 120, vi t, vi acc, vi i] [] ((b0, b1, b2), m) Q from by
    refine H 0 (by omega) (by omega) (-1) (by omega) (fun _ => rfl) ?_
    rw [qfold_lt (by omega), qtm_none hW t0 t1 ho, if_neg (by omega)]
    exact hQ
  refine qUpto ?_
  intro i hs ih i0 acc ha h00 hq
  refine r_X12_helpers_19 hd ?_
  simp only [hM.1, hM.2.1, hM.2.2.1, hM.2.2.2.1, hM.2.2.2.2.1, hM.2.2.2.2.2.1, hM.2.2.2.2.2.2]
  by_cases hlt : i < bShl 1 nH
  · rw [qfold_lt hlt] at hq
    have bd := qtm_bd (set := i) hW t0 t1
    have b1 := qbc_inR i
    have b2 := qbc_inR acc
    refine ⟨by omega, by omega, fun e => by omega, fun _ => ⟨ha, fun ea => d_teamOf hW hM t0 t1 ?_, fun ea => c_bitCount ⟨rfl, c_bitCount ⟨rfl, b1, b2, fun e => ?_, fun e => d_teamOf hW hM t0 t1 ?_⟩⟩⟩⟩
    · dsimp only
      simp only [hM.1, hM.2.1, hM.2.2.1, hM.2.2.2.1, hM.2.2.2.2.1, hM.2.2.2.2.2.1, hM.2.2.2.2.2.2]
      (with_reducible repeat' (first | exact True.intro | apply And.intro | intro _))
      all_goals first | omega | rfl | exact ih hlt (by omega) _ (by omega) (by omega) (by first | (rw [if_pos (by omega)] at hq; exact hq) | (rw [if_neg (by omega)] at hq; exact hq))
    · dsimp only
      exact ih hlt (by omega) _ ha (by omega) (by rw [if_neg (by omega)] at hq; exact hq)
    · dsimp only
      simp only [hM.1, hM.2.1, hM.2.2.1, hM.2.2.2.1, hM.2.2.2.2.1, hM.2.2.2.2.2.1, hM.2.2.2.2.2.2]
      (with_reducible repeat' (first | exact True.intro | apply And.intro | intro _))
      all_goals first | omega | rfl | exact ih hlt (by omega) _ (by omega) (by omega) (by first | (rw [if_pos (by omega)] at hq; exact hq) | (rw [if_neg (by omega)] at hq; exact hq))
  · rw [qfold_ge (by omega)] at hq
    (with_reducible repeat' (first | exact True.intro | apply And.intro | intro _))
    all_goals first | omega | exact hq
theorem d_soldL (hd : 6 ≤ d) (hW : qWF nT nH T P E U N) (hM : qMR m nT nH T P E U N) (hQ : Q (qsld T P N nT nH) ((b0, b1, b2), m)) : bGo xs d aM_X12_sold 18 [vr 120, vi 0, vi 0] [] ((b0, b1, b2), m) Q := by
  have wn := qw_n hW
  have wd := qw_day hW
  suffices H : ∀ t, t ≤ nT → 0 ≤ t → ∀ acc, 0 ≤ acc → acc ≤ 99 * t → Q (qfold (fun t a => if N (6 * t + 2) = 0 ∧ qwho T P N nH t = 0 ∧ qit T N t (qtm T P N nH t (bShl 1 nH - 1)) then a + T (4 * t) else a) nT t acc) ((b0, b1, b2), m) → bGo xs d aM_X12_sold 18 [vr 120, vi acc, vi t] [] ((b0, b1, b2), m) Q from H 0 (by omega) (by omega) 0 (by omega) (by omega) hQ
  refine qUpto ?_
  intro t hs ih t0 acc a0 a1 hq
  refine r_X12_sold_18 hd ?_
  simp only [hM.1, hM.2.1, hM.2.2.1, hM.2.2.2.1, hM.2.2.2.2.1, hM.2.2.2.2.2.1, hM.2.2.2.2.2.2]
  simp only [Int.add_zero]
  by_cases hlt : t < nT
  · have wt := qw_t hW t0 hlt
    have ws := qw_st hW t0 hlt
    have bd := qtm_bd (set := bShl 1 nH - 1) hW t0 hlt
    have bw := qwho_inR (T := T) (P := P) (N := N) (t := t) (show 0 ≤ nH by omega)
    rw [qfold_lt hlt] at hq
    refine ⟨by omega, by omega, fun e => by omega, fun _ => ⟨by omega, fun e => by omega, fun _ => ⟨by omega, by omega, fun e => by omega, fun _ => ⟨by omega, by omega, fun e1 => ?_, fun e1 => d_whoOf hW hM t0 hlt ⟨rfl, bw, fun e2 => ?_, fun e2 => ?_⟩⟩⟩⟩⟩
    · exact ih hlt (by omega) _ (by omega) (by omega) (by rw [if_neg (by omega)] at hq; exact hq)
    · exact ih hlt (by omega) _ (by omega) (by omega) (by rw [if_neg (by omega)] at hq; exact hq)
    · dsimp only
      simp only [hM.1, hM.2.1, hM.2.2.1, hM.2.2.2.1, hM.2.2.2.2.1, hM.2.2.2.2.2.1, hM.2.2.2.2.2.2]
      refine d_teamOf hW hM t0 hlt ?_
      try dsimp only
      simp only [hM.1, hM.2.1, hM.2.2.1, hM.2.2.2.1, hM.2.2.2.2.1, hM.2.2.2.2.2.1, hM.2.2.2.2.2.2]
      (with_reducible repeat' (first | exact True.intro | apply And.intro | intro _))
      all_goals first | omega | rfl | exact ih hlt (by omega) _ (by omega) (by omega) (by first | (rw [if_pos (by omega)] at hq; exact hq) | (rw [if_neg (by omega)] at hq; exact hq))
  · rw [qfold_ge (by omega)] at hq
    (with_reducible repeat' (first | exact True.intro | apply And.intro | intro _))
    all_goals first | omega | exact hq
end MQ
