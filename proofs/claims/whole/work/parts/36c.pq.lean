/-! B: public questions, class and reference alike -/
def qheld (N : Int → Int) (nT h : Int) : Int := qfold (fun t a => if N (6 * t + 1) = h then bOrr a (bShl 1 t) else a) nT 0 0
def qcnt (N : Int → Int) (nT k : Int) : Int := qfold (fun t a => if N (6 * t + 2) = k then a + 1 else a) nT 0 0
def qfin (T N : Int → Int) (nT : Int) : Int := qfold (fun t a => if N (6 * t + 2) = 1 then a + T (4 * t) else a) nT 0 0
def qPstep (T P : Int → Int) (nT t s k : Int) : Int := if (0 ≤ t ∧ t < nT) ∧ (0 ≤ s ∧ s < T (4 * t + 3)) ∧ 0 ≤ k ∧ k ≤ 1 then P (2 * (8 * t + s) + k) else -1
def qPheir (E N : Int → Int) (nT nH h k : Int) : Int := if (0 ≤ h ∧ h < nH) ∧ 0 ≤ k ∧ k ≤ 6 then (if k < 5 then N (36 + 5 * h + k) else if k = 5 then E (6 * h + 5) else qheld N nT h) else -1
def qPtools (U : Int → Int) (nT k : Int) : Int := if 0 < nT ∧ 0 ≤ k ∧ k < 5 then U k else -1
def qPtakes (T P N : Int → Int) (nT nH h t s : Int) : Int := if (0 ≤ h ∧ h < nH) ∧ (0 ≤ t ∧ t < nT) ∧ 0 ≤ s ∧ s < T (4 * t + 3) then qtk P N h t s else -1
def qPalone (T P N : Int → Int) (nT nH h t : Int) : Int := if (0 ≤ h ∧ h < nH) ∧ (0 ≤ t ∧ t < nT) ∧ N (6 * t + 2) = 0 then qal T P N h t (N (6 * t)) else -1
def qPwho (T P N : Int → Int) (nT nH t : Int) : Int := if (0 ≤ t ∧ t < nT) ∧ N (6 * t + 2) = 0 then qwho T P N nH t else -1
def qPstuck (T P N : Int → Int) (nT nH t : Int) : Int := if (0 ≤ t ∧ t < nT) ∧ N (6 * t + 2) = 0 then qstk T P N nH t else -1
def qPteam (T P N : Int → Int) (nT nH t s : Int) : Int := if ((0 ≤ t ∧ t < nT) ∧ N (6 * t + 2) = 0) ∧ 0 ≤ s ∧ s < bShl 1 nH then qtm T P N nH t s else -1
def qPhelp (T P N : Int → Int) (nT nH t : Int) : Int := if (0 ≤ t ∧ t < nT) ∧ N (6 * t + 2) = 0 then qhlp T P N nH t else -1
def qPsold (T P N : Int → Int) (nT nH : Int) : Int := if 0 < nT then qsld T P N nT nH else -1
section PQ
variable {xs : List Int32} {d : Nat} {Q : bPo} {b b0 b1 b2 : Bool} {m : Nat → Int → Int} {nT nH : Int} {T P E U N : Int → Int} {t s h k : Int}
theorem qheld_inR (h0 : 0 ≤ nT) : inR (qheld N nT h) := by
  unfold qheld
  refine qfold_inv (I := fun _ a => inR a) ?_ h0 (by omega)
  intro i a _ _ ha
  try dsimp only
  split
  · exact qOrr_inR _ _
  · exact ha
theorem c_heldBy (hW : qWF nT nH T P E U N) (hE : qER m (bW b) nT nH T P E U N) (hx : inR h) (hQ : Q (qheld N nT h) ((b0, b1, b2), m)) : bC xs 1 50 [vr (bW b), vi h] ((b0, b1, b2), m) Q := by
  refine qC rfl fun d hd => r_X4_heldBy_0 hd ?_
  have wn := qw_n hW
  have en := qe_n hE
  suffices H : ∀ t, t ≤ nT → 0 ≤ t → ∀ acc, Q (qfold (fun t a => if N (6 * t + 1) = h then bOrr a (bShl 1 t) else a) nT t acc) ((b0, b1, b2), m) → bGo xs d aM_X4_heldBy 4 [vr (bW b), vi h, vi acc, vi t] [] ((b0, b1, b2), m) Q from H 0 (by omega) (by omega) 0 hQ
  refine qUpto ?_
  intro t hs ih t0 acc hq
  refine r_X4_heldBy_4 hd ?_
  rw [en.1]
  by_cases hlt : t < nT
  · rw [qfold_lt hlt] at hq
    have el := qe_l hE t0 hlt
    have wh := qw_ho hW t0 hlt
    rw [el.2.2.1]
    (with_reducible repeat' (first | exact True.intro | apply And.intro | intro _))
    all_goals first | omega | exact ih hlt (by omega) _ (by first | (rw [if_pos (by omega)] at hq; exact hq) | (rw [if_neg (by omega)] at hq; exact hq))
  · rw [qfold_ge (by omega)] at hq
    (with_reducible repeat' (first | exact True.intro | apply And.intro | intro _))
    all_goals first | omega | exact hq
theorem c_countOf (hW : qWF nT nH T P E U N) (hE : qER m (bW b) nT nH T P E U N) (hx : inR k) (hQ : Q (qcnt N nT k) ((b0, b1, b2), m)) : bC xs 1 51 [vr (bW b), vi k] ((b0, b1, b2), m) Q := by
  refine qC rfl fun d hd => r_X4_countOf_0 hd ?_
  have wn := qw_n hW
  have en := qe_n hE
  suffices H : ∀ t, t ≤ nT → 0 ≤ t → ∀ acc, Q (qfold (fun t a => if N (6 * t + 2) = k then a + 1 else a) nT t acc) ((b0, b1, b2), m) → bGo xs d aM_X4_countOf 4 [vr (bW b), vi k, vi acc, vi t] [] ((b0, b1, b2), m) Q from H 0 (by omega) (by omega) 0 hQ
  refine qUpto ?_
  intro t hs ih t0 acc hq
  refine r_X4_countOf_4 hd ?_
  rw [en.1]
  by_cases hlt : t < nT
  · rw [qfold_lt hlt] at hq
    have el := qe_l hE t0 hlt
    have wh := qw_st hW t0 hlt
    rw [el.2.2.2.1]
    (with_reducible repeat' (first | exact True.intro | apply And.intro | intro _))
    all_goals first | omega | exact ih hlt (by omega) _ (by first | (rw [if_pos (by omega)] at hq; exact hq) | (rw [if_neg (by omega)] at hq; exact hq))
  · rw [qfold_ge (by omega)] at hq
    (with_reducible repeat' (first | exact True.intro | apply And.intro | intro _))
    all_goals first | omega | exact hq
theorem c_finishedValues (hW : qWF nT nH T P E U N) (hE : qER m (bW b) nT nH T P E U N) (hQ : Q (qfin T N nT) ((b0, b1, b2), m)) : bC xs 1 52 [vr (bW b)] ((b0, b1, b2), m) Q := by
  refine qC rfl fun d hd => r_X4_finishedValues_0 hd ?_
  have wn := qw_n hW
  have en := qe_n hE
  suffices H : ∀ t, t ≤ nT → 0 ≤ t → ∀ acc, Q (qfold (fun t a => if N (6 * t + 2) = 1 then a + T (4 * t) else a) nT t acc) ((b0, b1, b2), m) → bGo xs d aM_X4_finishedValues 4 [vr (bW b), vi acc, vi t] [] ((b0, b1, b2), m) Q from H 0 (by omega) (by omega) 0 hQ
  refine qUpto ?_
  intro t hs ih t0 acc hq
  refine r_X4_finishedValues_4 hd ?_
  rw [en.1]
  by_cases hlt : t < nT
  · rw [qfold_lt hlt] at hq
    have el := qe_l hE t0 hlt
    have et := qe_t hE t0 hlt
    have wh := qw_st hW t0 hlt
    rw [el.2.2.2.1, et.1]
    (with_reducible repeat' (first | exact True.intro | apply And.intro | intro _))
    all_goals first | omega | exact ih hlt (by omega) _ (by first | (rw [if_pos (by omega)] at hq; exact hq) | (rw [if_neg (by omega)] at hq; exact hq))
  · rw [qfold_ge (by omega)] at hq
    (with_reducible repeat' (first | exact True.intro | apply And.intro | intro _))
    all_goals first | omega | exact hq
theorem d_thatAre (hW : qWF nT nH T P E U N) (hM : qMR m nT nH T P E U N) (hx : inR k) {v : Int} (hv : v = 0 ∨ v = 1) (hQ : Q (qfold (fun t a => if N (6 * t + 2) = k then (if v = 1 then a + T (4 * t) else a + 1) else a) nT 0 0) ((b0, b1, b2), m)) : bC xs 1 280 [vr 120, vi k, vi v] ((b0, b1, b2), m) Q := by
  refine qC rfl fun d hd => r_X12_thatAre_0 hd ?_
  have wn := qw_n hW
  suffices H : ∀ t, t ≤ nT → 0 ≤ t → ∀ acc, Q (qfold (fun t a => if N (6 * t + 2) = k then (if v = 1 then a + T (4 * t) else a + 1) else a) nT t acc) ((b0, b1, b2), m) → bGo xs d aM_X12_thatAre 5 [vr 120, vi k, vi v, vi acc, vi t] [] ((b0, b1, b2), m) Q from H 0 (by omega) (by omega) 0 hQ
  refine qUpto ?_
  intro t hs ih t0 acc hq
  refine r_X12_thatAre_5 hd ?_
  simp only [hM.1, hM.2.1, hM.2.2.1, hM.2.2.2.1, hM.2.2.2.2.1, hM.2.2.2.2.2.1, hM.2.2.2.2.2.2]
  simp only [Int.add_zero]
  by_cases hlt : t < nT
  · rw [qfold_lt hlt] at hq
    have wh := qw_st hW t0 hlt
    (with_reducible repeat' (first | exact True.intro | apply And.intro | intro _))
    all_goals first | omega | exact ih hlt (by omega) _ (by first | (rw [if_pos (by omega), if_pos (by omega)] at hq; exact hq) | (rw [if_pos (by omega), if_neg (by omega)] at hq; exact hq) | (rw [if_neg (by omega)] at hq; exact hq))
  · rw [qfold_ge (by omega)] at hq
    (with_reducible repeat' (first | exact True.intro | apply And.intro | intro _))
    all_goals first | omega | exact hq
theorem c_step (hW : qWF nT nH T P E U N) (hE : qER m (bW b0) nT nH T P E U N) (h1 : inR t) (h2 : inR s) (h3 : inR k) (hQ : Q (qPstep T P nT t s k) ((b0, b1, b2), m)) : bC xs 3 132 [vr 0, vi t, vi s, vi k] ((b0, b1, b2), m) Q := by
  refine qC rfl fun d hd => r_X11_step_0 hd ?_
  have wn := qw_n hW
  have en := qe_n hE
  unfold qPstep at hQ
  rw [en.1]
  by_cases ht : 0 ≤ t ∧ t < nT
  · have et := qe_t hE ht.1 ht.2
    have wt := qw_t hW ht.1 ht.2
    rw [et.2.2]
    by_cases hs : 0 ≤ s ∧ s < T (4 * t + 3)
    · have ep := qe_p hE ht.1 ht.2 hs.1 hs.2
      rw [ep.1, ep.2]
      (with_reducible repeat' (first | exact True.intro | apply And.intro | intro _))
      all_goals first | omega | exact qQ hQ (by first | rw [if_neg (by omega)] | (rw [if_pos (by omega)]; congr 1; omega))
    · (with_reducible repeat' (first | exact True.intro | apply And.intro | intro _))
      all_goals first | omega | exact qQ hQ (by rw [if_neg (by omega)])
  · (with_reducible repeat' (first | exact True.intro | apply And.intro | intro _))
    all_goals first | omega | exact qQ hQ (by rw [if_neg (by omega)])
theorem d_step (hW : qWF nT nH T P E U N) (hM : qMR m nT nH T P E U N) (h1 : inR t) (h2 : inR s) (h3 : inR k) (hQ : Q (qPstep T P nT t s k) ((b0, b1, b2), up m 120 0 0)) : bC xs 2 217 [vr 120, vi t, vi s, vi k] ((b0, b1, b2), m) Q := by
  refine qC rfl fun d hd => r_X12_step_0 hd ?_
  have wn := qw_n hW
  unfold qPstep at hQ
  simp only [hM.1, hM.2.1, hM.2.2.1, hM.2.2.2.1, hM.2.2.2.2.1, hM.2.2.2.2.2.1, hM.2.2.2.2.2.2]
  by_cases ht : 0 ≤ t ∧ t < nT
  · have wt := qw_t hW ht.1 ht.2
    (with_reducible repeat' (first | exact True.intro | apply And.intro | intro _))
    all_goals first | omega | exact qQ hQ (by first | rw [if_neg (by omega)] | rw [if_pos (by omega)])
  · (with_reducible repeat' (first | exact True.intro | apply And.intro | intro _))
    all_goals first | omega | exact qQ hQ (by rw [if_neg (by omega)])
theorem c_heir (hW : qWF nT nH T P E U N) (hE : qER m (bW b0) nT nH T P E U N) (h1 : inR h) (h3 : inR k) (hQ : Q (qPheir E N nT nH h k) ((b0, b1, b2), m)) : bC xs 2 133 [vr 0, vi h, vi k] ((b0, b1, b2), m) Q := by
  refine qC rfl fun d hd => r_X11_heir_0 hd ?_
  have wn := qw_n hW
  have en := qe_n hE
  unfold qPheir at hQ
  rw [en.2]
  by_cases hh : (0 ≤ h ∧ h < nH) ∧ 0 ≤ k ∧ k ≤ 6
  · rw [if_pos hh] at hQ
    have ee := qe_e hE hh.1.1 hh.1.2
    rw [ee]
    by_cases hk : k < 5
    · rw [if_pos hk] at hQ
      have ek := qe_sk hE hh.1.1 hh.1.2 hh.2.1 hk
      rw [ek]
      (with_reducible repeat' (first | exact True.intro | apply And.intro | intro _))
      all_goals first | omega | exact hQ
    · rw [if_neg hk] at hQ
      (with_reducible repeat' (first | exact True.intro | apply And.intro | intro _))
      all_goals first | omega | exact qQ hQ (by rw [if_pos (by omega)]) | exact c_heldBy hW hE h1 ⟨rfl, qQ hQ (by rw [if_neg (by omega)])⟩
  · rw [if_neg hh] at hQ
    (with_reducible repeat' (first | exact True.intro | apply And.intro | intro _))
    all_goals first | omega | exact hQ
theorem d_heir (hW : qWF nT nH T P E U N) (hM : qMR m nT nH T P E U N) (h1 : inR h) (h3 : inR k) (hQ : Q (qPheir E N nT nH h k) ((b0, b1, b2), up m 120 0 0)) : bC xs 2 218 [vr 120, vi h, vi k] ((b0, b1, b2), m) Q := by
  refine qC rfl fun d hd => r_X12_heir_0 hd ?_
  have wn := qw_n hW
  unfold qPheir at hQ
  simp only [hM.1, hM.2.1, hM.2.2.1, hM.2.2.2.1, hM.2.2.2.2.1, hM.2.2.2.2.2.1, hM.2.2.2.2.2.2]
  by_cases hh : (0 ≤ h ∧ h < nH) ∧ 0 ≤ k ∧ k ≤ 6
  · rw [if_pos hh] at hQ
    have hl : ¬ k < 5 → ¬ k = 5 → bGo xs d aM_X12_heir 61 [vr 120, vi h, vn, vi 0, vi 0] [] ((b0, b1, b2), up m 120 0 0) Q := by
      intro e1 e2
      rw [if_neg e1, if_neg e2] at hQ
      suffices H : ∀ t, t ≤ nT → 0 ≤ t → ∀ acc, inR acc → Q (qfold (fun t a => if N (6 * t + 1) = h then bOrr a (bShl 1 t) else a) nT t acc) ((b0, b1, b2), up m 120 0 0) → bGo xs d aM_X12_heir 61 [vr 120, vi h, vn, vi acc, vi t] [] ((b0, b1, b2), up m 120 0 0) Q from H 0 (by omega) (by omega) 0 (by omega) hQ
      have hM := hM.thrown (z := 0)
      refine qUpto ?_
      intro t hs ih t0 acc ha hq
      refine r_X12_heir_61 hd ?_
      simp only [hM.1, hM.2.1, hM.2.2.1, hM.2.2.2.1, hM.2.2.2.2.1, hM.2.2.2.2.2.1, hM.2.2.2.2.2.2]
      rw [qOrr_zero ha]
      by_cases hlt : t < nT
      · rw [qfold_lt hlt] at hq
        have wh := qw_ho hW t0 hlt
        have bo := qOrr_inR acc (bShl 1 t)
        (with_reducible repeat' (first | exact True.intro | apply And.intro | intro _))
        all_goals first | omega | exact ih hlt (by omega) _ (by first | exact ha | exact bo) (by first | (rw [if_pos (by omega)] at hq; exact hq) | (rw [if_neg (by omega)] at hq; exact hq))
      · rw [qfold_ge (by omega)] at hq
        (with_reducible repeat' (first | exact True.intro | apply And.intro | intro _))
        all_goals first | omega | exact hq
    by_cases hk : k < 5
    · rw [if_pos hk] at hQ
      (with_reducible repeat' (first | exact True.intro | apply And.intro | intro _))
      all_goals first | omega | exact hQ
    · rw [if_neg hk] at hQ
      (with_reducible repeat' (first | exact True.intro | apply And.intro | intro _))
      all_goals first | omega | exact qQ hQ (by rw [if_pos (by omega)]) | exact hl (by omega) (by omega)
  · rw [if_neg hh] at hQ
    (with_reducible repeat' (first | exact True.intro | apply And.intro | intro _))
    all_goals first | omega | exact hQ
theorem c_tools (hW : qWF nT nH T P E U N) (hE : qER m (bW b0) nT nH T P E U N) (h3 : inR k) (hQ : Q (qPtools U nT k) ((b0, b1, b2), m)) : bC xs 2 134 [vr 0, vi k] ((b0, b1, b2), m) Q := by
  refine qC rfl fun d hd => r_X11_tools_0 hd ?_
  have wn := qw_n hW
  have en := qe_n hE
  unfold qPtools at hQ
  rw [en.1]
  by_cases hk : 0 ≤ k ∧ k < 5
  · rw [qe_u hE hk.1 hk.2]
    (with_reducible repeat' (first | exact True.intro | apply And.intro | intro _))
    all_goals first | omega | exact qQ hQ (by first | rw [if_neg (by omega)] | rw [if_pos (by omega)])
  · (with_reducible repeat' (first | exact True.intro | apply And.intro | intro _))
    all_goals first | omega | exact qQ hQ (by rw [if_neg (by omega)])
theorem d_tools (hW : qWF nT nH T P E U N) (hM : qMR m nT nH T P E U N) (h3 : inR k) (hQ : Q (qPtools U nT k) ((b0, b1, b2), up m 120 0 0)) : bC xs 2 219 [vr 120, vi k] ((b0, b1, b2), m) Q := by
  refine qC rfl fun d hd => r_X12_tools_0 hd ?_
  have wn := qw_n hW
  unfold qPtools at hQ
  simp only [hM.1, hM.2.1, hM.2.2.1, hM.2.2.2.1, hM.2.2.2.2.1, hM.2.2.2.2.2.1, hM.2.2.2.2.2.2]
  (with_reducible repeat' (first | exact True.intro | apply And.intro | intro _))
  all_goals first | omega | exact qQ hQ (by first | rw [if_neg (by omega)] | rw [if_pos (by omega)])
theorem c_takes (hW : qWF nT nH T P E U N) (hE : qER m (bW b0) nT nH T P E U N) (h1 : inR h) (h2 : inR t) (h3 : inR s) (hQ : Q (qPtakes T P N nT nH h t s) ((b0, b1, b2), m)) : bC xs 3 136 [vr 0, vi h, vi t, vi s] ((b0, b1, b2), m) Q := by
  refine qC rfl fun d hd => r_X11_takes_0 hd ?_
  have wn := qw_n hW
  have en := qe_n hE
  unfold qPtakes at hQ
  rw [en.1, en.2]
  by_cases hh : (0 ≤ h ∧ h < nH) ∧ (0 ≤ t ∧ t < nT)
  · have et := qe_t hE hh.2.1 hh.2.2
    have wt := qw_t hW hh.2.1 hh.2.2
    rw [et.2.2]
    by_cases hs : 0 ≤ s ∧ s < T (4 * t + 3)
    · rw [if_pos ⟨hh.1, hh.2, hs⟩] at hQ
      have ep := qe_p hE hh.2.1 hh.2.2 hs.1 hs.2
      have wp := qw_p hW hh.2.1 hh.2.2 hs.1 hs.2
      have ek := qe_sk hE hh.1.1 hh.1.2 (show 0 ≤ P (2 * (8 * t + s)) by omega) (by omega)
      have wk := qw_sk hW hh.1.1 hh.1.2 (show 0 ≤ P (2 * (8 * t + s)) by omega) (by omega)
      rw [ep.1, ep.2, ek]
      unfold qtk qdv at hQ
      (with_reducible repeat' (first | exact True.intro | apply And.intro | intro _))
      all_goals first | omega | exact qQ hQ (by first | rw [if_neg (by omega)] | rw [if_pos (by omega)])
    · rw [if_neg (by omega)] at hQ
      (with_reducible repeat' (first | exact True.intro | apply And.intro | intro _))
      all_goals first | omega | exact hQ
  · rw [if_neg (by omega)] at hQ
    (with_reducible repeat' (first | exact True.intro | apply And.intro | intro _))
    all_goals first | omega | exact hQ
theorem d_takes (hW : qWF nT nH T P E U N) (hM : qMR m nT nH T P E U N) (h1 : inR h) (h2 : inR t) (h3 : inR s) (hQ : Q (qPtakes T P N nT nH h t s) ((b0, b1, b2), up m 120 0 0)) : bC xs 3 222 [vr 120, vi h, vi t, vi s] ((b0, b1, b2), m) Q := by
  refine qC rfl fun d hd => r_X12_takes__0 hd ?_
  have wn := qw_n hW
  unfold qPtakes at hQ
  simp only [hM.1, hM.2.1, hM.2.2.1, hM.2.2.2.1, hM.2.2.2.2.1, hM.2.2.2.2.2.1, hM.2.2.2.2.2.2]
  by_cases hh : (0 ≤ h ∧ h < nH) ∧ (0 ≤ t ∧ t < nT)
  · have wt := qw_t hW hh.2.1 hh.2.2
    by_cases hs : 0 ≤ s ∧ s < T (4 * t + 3)
    · rw [if_pos ⟨hh.1, hh.2, hs⟩] at hQ
      have wp := qw_p hW hh.2.1 hh.2.2 hs.1 hs.2
      have wk := qw_sk hW hh.1.1 hh.1.2 (show 0 ≤ P (2 * (8 * t + s)) by omega) (by omega)
      unfold qtk qdv at hQ
      (with_reducible repeat' (first | exact True.intro | apply And.intro | intro _))
      all_goals first | omega | exact qQ hQ (by first | rw [if_neg (by omega)] | rw [if_pos (by omega)])
    · rw [if_neg (by omega)] at hQ
      (with_reducible repeat' (first | exact True.intro | apply And.intro | intro _))
      all_goals first | omega | exact hQ
  · rw [if_neg (by omega)] at hQ
    (with_reducible repeat' (first | exact True.intro | apply And.intro | intro _))
    all_goals first | omega | exact hQ
theorem c_alone (hW : qWF nT nH T P E U N) (hE : qER m (bW b0) nT nH T P E U N) (h1 : inR h) (h2 : inR t) (hQ : Q (qPalone T P N nT nH h t) ((b0, b1, b2), m)) : bC xs 4 137 [vr 0, vi h, vi t] ((b0, b1, b2), m) Q := by
  refine qC rfl fun d hd => r_X11_alone_0 hd ?_
  have wn := qw_n hW
  have en := qe_n hE
  unfold qPalone at hQ
  rw [en.1, en.2]
  by_cases ht : 0 ≤ t ∧ t < nT
  · have el := qe_l hE ht.1 ht.2
    have ws := qw_st hW ht.1 ht.2
    rw [el.2.2.2.1]
    (with_reducible repeat' (first | exact True.intro | apply And.intro | intro _))
    all_goals first | omega | exact qQ hQ (by rw [if_neg (by omega)]) | exact c_aloneDays hW hE (by omega) (by omega) (by omega) (by omega) ⟨rfl, qQ hQ (by rw [if_pos (by omega)])⟩
  · (with_reducible repeat' (first | exact True.intro | apply And.intro | intro _))
    all_goals first | omega | exact qQ hQ (by rw [if_neg (by omega)])
theorem d_alone (hW : qWF nT nH T P E U N) (hM : qMR m nT nH T P E U N) (h1 : inR h) (h2 : inR t) (hQ : Q (qPalone T P N nT nH h t) ((b0, b1, b2), up m 120 0 0)) : bC xs 5 226 [vr 120, vi h, vi t] ((b0, b1, b2), m) Q := by
  refine qC rfl fun d hd => r_X12_alone_0 hd ?_
  have wn := qw_n hW
  unfold qPalone at hQ
  simp only [hM.1, hM.2.1, hM.2.2.1, hM.2.2.2.1, hM.2.2.2.2.1, hM.2.2.2.2.2.1, hM.2.2.2.2.2.2]
  by_cases ht : 0 ≤ t ∧ t < nT
  · have ws := qw_st hW ht.1 ht.2
    (with_reducible repeat' (first | exact True.intro | apply And.intro | intro _))
    all_goals first | omega | exact qQ hQ (by rw [if_neg (by omega)]) | exact d_aloneOf hW hM.thrown (by omega) (by omega) (by omega) (by omega) ⟨rfl, qQ hQ (by rw [if_pos (by omega)])⟩
  · (with_reducible repeat' (first | exact True.intro | apply And.intro | intro _))
    all_goals first | omega | exact qQ hQ (by rw [if_neg (by omega)])
theorem c_who (hW : qWF nT nH T P E U N) (hE : qER m (bW b0) nT nH T P E U N) (h2 : inR t) (hQ : Q (qPwho T P N nT nH t) ((b0, b1, b2), m)) : bC xs 6 138 [vr 0, vi t] ((b0, b1, b2), m) Q := by
  refine qC rfl fun d hd => r_X11_who_0 hd ?_
  have wn := qw_n hW
  have en := qe_n hE
  unfold qPwho at hQ
  rw [en.1]
  by_cases ht : 0 ≤ t ∧ t < nT
  · have el := qe_l hE ht.1 ht.2
    have ws := qw_st hW ht.1 ht.2
    rw [el.2.2.2.1]
    (with_reducible repeat' (first | exact True.intro | apply And.intro | intro _))
    all_goals first | omega | exact qQ hQ (by rw [if_neg (by omega)]) | exact c_aloneInTime hW hE (by omega) (by omega) ⟨rfl, qQ hQ (by rw [if_pos (by omega)])⟩
  · (with_reducible repeat' (first | exact True.intro | apply And.intro | intro _))
    all_goals first | omega | exact qQ hQ (by rw [if_neg (by omega)])
theorem d_who (hW : qWF nT nH T P E U N) (hM : qMR m nT nH T P E U N) (h2 : inR t) (hQ : Q (qPwho T P N nT nH t) ((b0, b1, b2), up m 120 0 0)) : bC xs 6 228 [vr 120, vi t] ((b0, b1, b2), m) Q := by
  refine qC rfl fun d hd => r_X12_who_0 hd ?_
  have wn := qw_n hW
  unfold qPwho at hQ
  simp only [hM.1, hM.2.1, hM.2.2.1, hM.2.2.2.1, hM.2.2.2.2.1, hM.2.2.2.2.2.1, hM.2.2.2.2.2.2]
  by_cases ht : 0 ≤ t ∧ t < nT
  · have ws := qw_st hW ht.1 ht.2
    (with_reducible repeat' (first | exact True.intro | apply And.intro | intro _))
    all_goals first | omega | exact qQ hQ (by rw [if_neg (by omega)]) | exact d_whoOf hW hM.thrown (by omega) (by omega) ⟨rfl, qQ hQ (by rw [if_pos (by omega)])⟩
  · (with_reducible repeat' (first | exact True.intro | apply And.intro | intro _))
    all_goals first | omega | exact qQ hQ (by rw [if_neg (by omega)])
theorem c_stuck (hW : qWF nT nH T P E U N) (hE : qER m (bW b0) nT nH T P E U N) (h2 : inR t) (hQ : Q (qPstuck T P N nT nH t) ((b0, b1, b2), m)) : bC xs 4 139 [vr 0, vi t] ((b0, b1, b2), m) Q := by
  refine qC rfl fun d hd => r_X11_stuck_0 hd ?_
  have wn := qw_n hW
  have en := qe_n hE
  unfold qPstuck at hQ
  rw [en.1]
  by_cases ht : 0 ≤ t ∧ t < nT
  · have el := qe_l hE ht.1 ht.2
    have ws := qw_st hW ht.1 ht.2
    rw [el.2.2.2.1]
    (with_reducible repeat' (first | exact True.intro | apply And.intro | intro _))
    all_goals first | omega | exact qQ hQ (by rw [if_neg (by omega)]) | exact c_firstStuck hW hE (by omega) (by omega) ⟨rfl, qQ hQ (by rw [if_pos (by omega)])⟩
  · (with_reducible repeat' (first | exact True.intro | apply And.intro | intro _))
    all_goals first | omega | exact qQ hQ (by rw [if_neg (by omega)])
theorem d_stuck (hW : qWF nT nH T P E U N) (hM : qMR m nT nH T P E U N) (h2 : inR t) (hQ : Q (qPstuck T P N nT nH t) ((b0, b1, b2), up m 120 0 0)) : bC xs 3 229 [vr 120, vi t] ((b0, b1, b2), m) Q := by
  refine qC rfl fun d hd => r_X12_stuck_0 hd ?_
  have wn := qw_n hW
  unfold qPstuck at hQ
  simp only [hM.1, hM.2.1, hM.2.2.1, hM.2.2.2.1, hM.2.2.2.2.1, hM.2.2.2.2.2.1, hM.2.2.2.2.2.2]
  by_cases ht : 0 ≤ t ∧ t < nT
  · have ws := qw_st hW ht.1 ht.2
    (with_reducible repeat' (first | exact True.intro | apply And.intro | intro _))
    all_goals first | omega | exact qQ hQ (by rw [if_neg (by omega)]) | exact d_stuckL hd hW hM.thrown (by omega) (by omega) (qQ hQ (by rw [if_pos (by omega)]))
  · (with_reducible repeat' (first | exact True.intro | apply And.intro | intro _))
    all_goals first | omega | exact qQ hQ (by rw [if_neg (by omega)])
theorem c_team (hW : qWF nT nH T P E U N) (hE : qER m (bW b0) nT nH T P E U N) (h2 : inR t) (h3 : inR s) (hQ : Q (qPteam T P N nT nH t s) ((b0, b1, b2), m)) : bC xs 4 140 [vr 0, vi t, vi s] ((b0, b1, b2), m) Q := by
  refine qC rfl fun d hd => r_X11_team_0 hd ?_
  have wn := qw_n hW
  have en := qe_n hE
  have pw := qpw (show 0 ≤ nH by omega) (by omega)
  unfold qPteam at hQ
  rw [en.1, en.2]
  by_cases ht : 0 ≤ t ∧ t < nT
  · have el := qe_l hE ht.1 ht.2
    have ws := qw_st hW ht.1 ht.2
    rw [el.2.2.2.1]
    by_cases hz : s = 0 ∧ N (6 * t + 2) = 0
    · rw [if_pos (by omega), hz.1, qtm_none hW ht.1 ht.2 hz.2] at hQ
      (with_reducible repeat' (first | exact True.intro | apply And.intro | intro _))
      all_goals first | omega | exact hQ
    · (with_reducible repeat' (first | exact True.intro | apply And.intro | intro _))
      all_goals first | omega | exact qQ hQ (by rw [if_neg (by omega)]) | exact c_teamDays hW hE (by omega) (by omega) ⟨rfl, qQ hQ (by rw [if_pos (by omega)])⟩
  · (with_reducible repeat' (first | exact True.intro | apply And.intro | intro _))
    all_goals first | omega | exact qQ hQ (by rw [if_neg (by omega)])
theorem d_team (hW : qWF nT nH T P E U N) (hM : qMR m nT nH T P E U N) (h2 : inR t) (h3 : inR s) (hQ : Q (qPteam T P N nT nH t s) ((b0, b1, b2), up m 120 0 0)) : bC xs 4 231 [vr 120, vi t, vi s] ((b0, b1, b2), m) Q := by
  refine qC rfl fun d hd => r_X12_team_0 hd ?_
  have wn := qw_n hW
  have pw := qpw (show 0 ≤ nH by omega) (by omega)
  unfold qPteam at hQ
  simp only [hM.1, hM.2.1, hM.2.2.1, hM.2.2.2.1, hM.2.2.2.2.1, hM.2.2.2.2.2.1, hM.2.2.2.2.2.2]
  by_cases ht : 0 ≤ t ∧ t < nT
  · have ws := qw_st hW ht.1 ht.2
    (with_reducible repeat' (first | exact True.intro | apply And.intro | intro _))
    all_goals first | omega | exact qQ hQ (by rw [if_neg (by omega)]) | exact d_teamOf hW hM.thrown (by omega) (by omega) ⟨rfl, qQ hQ (by rw [if_pos (by omega)])⟩
  · (with_reducible repeat' (first | exact True.intro | apply And.intro | intro _))
    all_goals first | omega | exact qQ hQ (by rw [if_neg (by omega)])
theorem c_helpers (hW : qWF nT nH T P E U N) (hE : qER m (bW b0) nT nH T P E U N) (h2 : inR t) (hQ : Q (qPhelp T P N nT nH t) ((b0, b1, b2), m)) : bC xs 5 141 [vr 0, vi t] ((b0, b1, b2), m) Q := by
  refine qC rfl fun d hd => r_X11_helpers_0 hd ?_
  have wn := qw_n hW
  have en := qe_n hE
  unfold qPhelp at hQ
  rw [en.1]
  by_cases ht : 0 ≤ t ∧ t < nT
  · have el := qe_l hE ht.1 ht.2
    have ws := qw_st hW ht.1 ht.2
    rw [el.2.2.2.1]
    (with_reducible repeat' (first | exact True.intro | apply And.intro | intro _))
    all_goals first | omega | exact qQ hQ (by rw [if_neg (by omega)]) | exact c_fewestInTime hW hE (by omega) (by omega) ⟨rfl, qQ hQ (by rw [if_pos (by omega)])⟩
  · (with_reducible repeat' (first | exact True.intro | apply And.intro | intro _))
    all_goals first | omega | exact qQ hQ (by rw [if_neg (by omega)])
theorem d_helpers (hW : qWF nT nH T P E U N) (hM : qMR m nT nH T P E U N) (h2 : inR t) (hQ : Q (qPhelp T P N nT nH t) ((b0, b1, b2), up m 120 0 0)) : bC xs 4 232 [vr 120, vi t] ((b0, b1, b2), m) Q := by
  refine qC rfl fun d hd => r_X12_helpers_0 hd ?_
  have wn := qw_n hW
  unfold qPhelp at hQ
  simp only [hM.1, hM.2.1, hM.2.2.1, hM.2.2.2.1, hM.2.2.2.2.1, hM.2.2.2.2.2.1, hM.2.2.2.2.2.2]
  by_cases ht : 0 ≤ t ∧ t < nT
  · have ws := qw_st hW ht.1 ht.2
    (with_reducible repeat' (first | exact True.intro | apply And.intro | intro _))
    all_goals first | omega | exact qQ hQ (by rw [if_neg (by omega)]) | exact d_helpersL hd hW hM.thrown (by omega) (by omega) (by omega) (qQ hQ (by rw [if_pos (by omega)]))
  · (with_reducible repeat' (first | exact True.intro | apply And.intro | intro _))
    all_goals first | omega | exact qQ hQ (by rw [if_neg (by omega)])
theorem c_sold (hW : qWF nT nH T P E U N) (hE : qER m (bW b0) nT nH T P E U N) (hQ : Q (qPsold T P N nT nH) ((b0, b1, b2), m)) : bC xs 7 142 [vr 0] ((b0, b1, b2), m) Q := by
  refine qC rfl fun d hd => r_X11_sold_0 hd ?_
  have wn := qw_n hW
  have en := qe_n hE
  unfold qPsold at hQ
  rw [en.1]
  (with_reducible repeat' (first | exact True.intro | apply And.intro | intro _))
  all_goals first | omega | exact qQ hQ (by rw [if_neg (by omega)]) | exact c_paidByGuilds hW hE ⟨rfl, qQ hQ (by rw [if_pos (by omega)])⟩
theorem d_sold (hW : qWF nT nH T P E U N) (hM : qMR m nT nH T P E U N) (hQ : Q (qPsold T P N nT nH) ((b0, b1, b2), up m 120 0 0)) : bC xs 6 277 [vr 120] ((b0, b1, b2), m) Q := by
  refine qC rfl fun d hd => r_X12_sold_0 hd ?_
  have wn := qw_n hW
  unfold qPsold at hQ
  simp only [hM.1, hM.2.1, hM.2.2.1, hM.2.2.2.1, hM.2.2.2.2.1, hM.2.2.2.2.2.1, hM.2.2.2.2.2.2]
  (with_reducible repeat' (first | exact True.intro | apply And.intro | intro _))
  all_goals first | omega | exact qQ hQ (by rw [if_neg (by omega)]) | exact d_soldL hd hW hM.thrown (qQ hQ (by rw [if_pos (by omega)]))
end PQ
