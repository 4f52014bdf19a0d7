/-! B: deal and learn of the model -/
def qLz (a : Nat) (k : Int) : Prop := a = 138 ∨ a = 139 ∨ a = 140 ∨ a = 141 ∨ a = 142 ∨ (a = 120 ∧ (k = 45 ∨ k = 0))
section MLN
variable {xs : List Int32} {d : Nat} {Q : bPo} {b b0 b1 b2 : Bool} {m : Nat → Int → Int} {nT nH : Int} {T P E U N : Int → Int} {t s h k : Int}
variable {β : Int → Int} {w M : Int} {m' : Nat → Int → Int}
theorem qDz_e (hW : qWF nT nH T P E U N) (hF : qFq T P N (fun t => N (6 * t)) nT nH nT β) (hv : qvA T β nT = M) (hd : ∀ e, qFq T P N (fun t => N (6 * t)) nT nH nT e → qdo T nT M (qhX β nT) e) : (qDz T P N nT nH + 999999) / 1000000 = M ∧ ((qDz T P N nT nH + 999999) / 1000000 * 1000000 - qDz T P N nT nH) + 9 * qsB (qNop N) (qWt nT) nT = qhX β nT := by
  have wn := qw_n hW
  have ed : ∀ u, 0 ≤ u → u < nT → qDl T N (fun t => N (6 * t)) u = qOpn N u := fun u u0 u1 => by
    have ws := qw_st hW u0 u1
    unfold qDl qOpn
    by_cases e : N (6 * u + 2) = 0
    · rw [decide_eq_true e, decide_eq_true ⟨e, ws.2.2 e⟩]
    · rw [decide_eq_false e, decide_eq_false (fun h => e h.1)]
  have h1 : qDz T P N nT nH = qDg T P N (fun t => N (6 * t)) nT nH := by
    have hb := qFq_bt hW hF hv hd
    have e1 := qBz_e hb
    have hb2 : qBt (fun h => qAd T P N h) (qRo T) (qVa T) (qWt nT) nT (N 66) (fun x => 0 ≤ x ∧ x < nH) (qOpn N) _ := qBt_cg wn.1.1 ed hb
    have e2 := qBz_e hb2
    unfold qDz qDg
    rw [e1, e2]
  have h2 := qDg_e hW hF hv hd
  rw [qsB_cg (χ' := qNop N) (g := qWt nT) (fun u u0 u1 => by rw [ed u u0 u1]; rfl) (fun _ _ _ _ => rfl)] at h2
  rw [h1]
  exact h2
theorem d_deal (hW : qWF nT nH T P E U N) (hM : qMR m nT nH T P E U N) (hz : ∀ g, 0 ≤ g → g < 6 → m 142 g = 0) (xw : inR w) (hQ : ∀ m', qFr qLz m m' → (∀ g, 0 ≤ g → g < 6 → m' 142 g = 0) → Q (qPdl T P N nT nH w) ((b0, b1, b2), m')) : bC xs 124 247 [vr 120, vi w] ((b0, b1, b2), m) Q := by
  have wn := qw_n hW
  refine qC rfl fun d hd => r_X12_deal_0 hd ?_
  rw [hM.1]
  have f0 : qFr qLz m (up m 120 0 0) := qFr_up qFr.refl (by unfold qLz; omega)
  have hz0 : ∀ g, 0 ≤ g → g < 6 → up m 120 0 0 142 g = 0 := fun g a c => by rw [qup_n (by omega)]; exact hz g a c
  unfold qPdl at hQ
  have hno : ¬ (0 < nT ∧ 0 ≤ w ∧ w ≤ 1) → Q (-1) ((b0, b1, b2), up m 120 0 0) := fun hn => by
    have := hQ _ f0 hz0
    rw [if_neg hn] at this
    exact this
  refine ⟨by omega, fun e => hno (by omega), fun e => ⟨xw, by omega, fun e2 => hno (by omega), fun w0 => ⟨by omega, fun e2 => hno (by omega), fun w1 => d_askAsItIs hW hM.thrown ?_⟩⟩⟩
  rw [if_pos ⟨by omega, w0, w1⟩] at hQ
  intro m1 f1 he
  have hM1 := hM.thrown.as (f1.mono (fun a k h => by omega))
  refine ⟨rfl, d_layDeal (G := fun t => N (6 * t)) hW hM1 (qGok_N hW) he (fun g a c => (f1 142 g (by omega)).trans (hz0 g a c)) ?_⟩
  intro m2 f2 hz2 hb hF hv hd'
  obtain ⟨e1, e2⟩ := qDz_e hW hF hv hd'
  have hM2 := hM1.lf f2
  have f02 : qFr qLz m m2 := (f0.trans (f1.mono (fun a k h => Or.inl h))).trans (f2.mono (fun a k h => by unfold qLy at h; unfold qLz; omega))
  refine ⟨rfl, xw, fun e3 => ?_, fun e3 => ?_⟩
  · rw [if_pos (by omega), e2] at hQ
    suffices H : ∀ t, t ≤ nT → 0 ≤ t → bGo xs d aM_X12_deal 46 [vr 120, vn, vi (qhX (m2 141) t), vi t] [] ((b0, b1, b2), m2) Q by
      have := H 0 wn.1.1 (by omega)
      rw [show qhX (m2 141) 0 = 0 by unfold qhX; rw [qfold_ge (by omega)]] at this
      exact this
    refine qUpto ?_
    intro t ht ih t0
    refine r_X12_deal_46 hd ?_
    rw [hM2.1]
    refine ⟨by omega, by omega, fun h => by rw [show t = nT by omega]; exact hQ m2 f02 hz2, fun h => ⟨by omega, ?_⟩⟩
    have := ih h (by omega)
    rw [qhX_s t0] at this
    exact this
  · rw [if_neg (by omega), e1] at hQ
    exact hQ m2 f02 hz2
theorem d_learn (hW : qWF nT nH T P E U N) (hM : qMR m nT nH T P E U N) (hz : ∀ g, 0 ≤ g → g < 6 → m 142 g = 0) (xw : inR w) (hQ : ∀ m', qFr qLz m m' → (∀ g, 0 ≤ g → g < 6 → m' 142 g = 0) → Q (qPlr T P N nT nH w) ((b0, b1, b2), m')) : bC xs 124 251 [vr 120, vi w] ((b0, b1, b2), m) Q := by
  have wn := qw_n hW
  refine qC rfl fun d hd => r_X12_learn_0 hd ?_
  rw [hM.1]
  have f0 : qFr qLz m (up m 120 0 0) := qFr_up qFr.refl (by unfold qLz; omega)
  have hz0 : ∀ g, 0 ≤ g → g < 6 → up m 120 0 0 142 g = 0 := fun g a c => by rw [qup_n (by omega)]; exact hz g a c
  unfold qPlr at hQ
  have hno : ¬ (0 < nT ∧ 0 ≤ w ∧ w ≤ 1) → Q (-1) ((b0, b1, b2), up m 120 0 0) := fun hn => by
    have := hQ _ f0 hz0
    rw [if_neg hn] at this
    exact this
  refine ⟨by omega, fun e => hno (by omega), fun e => ⟨xw, by omega, fun e2 => hno (by omega), fun w0 => ⟨by omega, fun e2 => hno (by omega), fun w1 => d_askAsItIs hW hM.thrown ?_⟩⟩⟩
  rw [if_pos ⟨by omega, w0, w1⟩] at hQ
  intro m1 f1 he
  have hM1 := hM.thrown.as (f1.mono (fun a k h => by omega))
  refine ⟨rfl, ?_⟩
  dsimp only
  have f01 : qFr qLz m m1 := f0.trans (f1.mono (fun a k h => Or.inl h))
  have hz1 : ∀ g, 0 ≤ g → g < 6 → m1 142 g = 0 := fun g a c => by rw [f1 142 g (by omega)]; exact hz0 g a c
  suffices H : ∀ h, h ≤ nH → 0 ≤ h → ∀ st : Int × Int, (0 ≤ st.1 ∧ st.1 ≤ 594) → (-1 ≤ st.2 ∧ st.2 ≤ 100) → qlrn T P N nT nH = qfold (fun h st => qfold (fun k st => qlr1 T P N nT nH h k st) 5 0 st) nH h (if st.2 = -1 then (-1, -1) else st) → ∀ m2, qFr qLy m1 m2 → (∀ g, 0 ≤ g → g < 6 → m2 142 g = 0) → bGo xs d aM_X12_learn 35 [vr 120, vi w, vi st.2, vi st.1, vi h, vn] [] ((b0, b1, b2), m2) Q from H 0 (by omega) (by omega) (0, -1) (by dsimp only; omega) (by dsimp only; omega) rfl m1 qFr.refl hz1
  refine qUpto ?_
  intro h hh ih h0 st s1 s2 hf m2 f2 hz2
  have hM2 := hM1.lf f2
  have f02 : qFr qLz m m2 := f01.trans (f2.mono (fun a k h => by unfold qLy at h; unfold qLz; omega))
  refine r_X12_learn_35 hd ?_
  rw [hM2.2.1]
  refine ⟨by omega, by omega, fun h2 => ⟨by omega, fun e2 => ?_, fun e2 => ⟨xw, fun e3 => ?_, fun e3 => ?_⟩⟩, fun h1 => ?_⟩
  · rw [qfold_ge (by omega), if_pos e2] at hf
    rw [hf] at hQ
    dsimp only at hQ
    rw [ite_self] at hQ
    rw [e2]
    exact hQ m2 f02 hz2
  · rw [qfold_ge (by omega), if_neg e2] at hf
    rw [hf, if_neg e3] at hQ
    exact hQ m2 f02 hz2
  · rw [qfold_ge (by omega), if_neg e2] at hf
    rw [hf, if_pos e3] at hQ
    exact hQ m2 f02 hz2
  · rw [qfold_lt h1] at hf
    suffices H : ∀ k, k ≤ 5 → 0 ≤ k → ∀ st : Int × Int, (0 ≤ st.1 ∧ st.1 ≤ 594) → (-1 ≤ st.2 ∧ st.2 ≤ 100) → qlrn T P N nT nH = qfold (fun h st => qfold (fun k st => qlr1 T P N nT nH h k st) 5 0 st) nH (h + 1) (qfold (fun k st => qlr1 T P N nT nH h k st) 5 k (if st.2 = -1 then (-1, -1) else st)) → ∀ m2, qFr qLy m1 m2 → (∀ g, 0 ≤ g → g < 6 → m2 142 g = 0) → bGo xs d aM_X12_learn 47 [vr 120, vi w, vi st.2, vi st.1, vi h, vi k] [] ((b0, b1, b2), m2) Q from H 0 (by omega) (by omega) st s1 s2 hf m2 f2 hz2
    clear hf
    refine qUpto ?_
    intro k hk ihk k0 st s1 s2 hf m2 f2 hz2
    have hM2 := hM1.lf f2
    refine r_X12_learn_47 hd ⟨by omega, fun h5 => ?_, fun k1 => ⟨by omega, ?_⟩⟩
    · rw [qfold_ge (S := 5) (by omega)] at hf
      exact ih h1 (by omega) st s1 s2 hf m2 f2 hz2
    · have ws := qw_sk hW h0 h1 k0 k1
      rw [qfold_lt (S := 5) k1] at hf
      rw [hM2.2.2.2.2.2.2]
      refine ⟨by omega, fun h9 => ⟨by omega, by omega, ?_⟩, fun h9 => ?_⟩
      · have hW1 := qN1_W hW h0 h1 k0 k1 (by omega)
        have e135 : up m2 135 (36 + 5 * h + k) (N (36 + 5 * h + k) + 1) 135 = qN1 N h k := by rw [qup_f, hM2.2.2.2.2.2.2]; rfl
        have hM3 : qMR (up m2 135 (36 + 5 * h + k) (N (36 + 5 * h + k) + 1)) nT nH T P E U (qN1 N h k) := ⟨by rw [qup_n (by omega)]; exact hM2.1, by rw [qup_n (by omega)]; exact hM2.2.1, by rw [qup_n (by omega)]; exact hM2.2.2.1, by rw [qup_n (by omega)]; exact hM2.2.2.2.1, by rw [qup_n (by omega)]; exact hM2.2.2.2.2.1, by rw [qup_n (by omega)]; exact hM2.2.2.2.2.2.1, e135⟩
        refine d_layDeal (G := fun t => qN1 N h k (6 * t)) hW1 hM3 (qGok_N hW1) (fun t t0 t1 => by rw [qup_n (by omega), f2 138 t (by unfold qLy; omega), he t t0 t1]; exact (qN1_o (by omega)).symm) (fun g a c => by rw [qup_n (by omega)]; exact hz2 g a c) ?_
        intro m4 f4 hz4 hb hF hv hd'
        have hv2 := (qDz_e hW1 hF hv hd').1
        have e9 : m4 135 (36 + 5 * h + k) - 1 = N (36 + 5 * h + k) := by rw [f4 135 _ (by unfold qLy; omega), qup_s]; omega
        have f5 : qFr qLy m1 (up m4 135 (36 + 5 * h + k) (N (36 + 5 * h + k))) := by
          intro a j ha
          by_cases ea : a = 135
          · subst ea
            rw [qup_if]
            by_cases ej : j = 36 + 5 * h + k
            · rw [if_pos ej, ej, hM1.2.2.2.2.2.2]
            · rw [if_neg ej, f4 135 j (by unfold qLy; omega), qup_o ej]
              exact f2 135 j (by unfold qLy; omega)
          · rw [qup_n ea, f4 a j ha, qup_n ea]
            exact f2 a j ha
        have hz5 : ∀ g, 0 ≤ g → g < 6 → up m4 135 (36 + 5 * h + k) (N (36 + 5 * h + k)) 142 g = 0 := fun g a c => by rw [qup_n (by omega)]; exact hz4 g a c
        have ev : qlv T P N nT nH h k = m4 120 45 := hv2
        unfold qlr1 at hf
        rw [if_pos (show N (36 + 5 * h + k) < 9 by omega), ev] at hf
        have hf0 := hf
        dsimp only
        rw [e9]
        have upd : (st.2 = -1 ∨ st.1 < m4 120 45) → bGo xs d aM_X12_learn 47 [vr 120, vi w, vi (10 * h + k), vi (m4 120 45), vi h, vi (k + 1)] [] ((b0, b1, b2), up m4 135 (36 + 5 * h + k) (N (36 + 5 * h + k))) Q := by
          intro hc
          refine ihk k1 (by omega) (m4 120 45, 10 * h + k) hb (by dsimp only; omega) ?_ _ f5 hz5
          rw [if_neg (by dsimp only; omega), hf0]
          unfold qlr1
          congr 2
          rw [show h * 10 + k = 10 * h + k by omega]
          by_cases e3 : st.2 = -1
          · rw [if_pos e3, if_pos (by dsimp only; omega)]
          · rw [if_neg e3, if_pos (by omega)]
        refine ⟨rfl, by omega, by omega, by omega, fun e3 => upd (Or.inl e3), fun e3 => ⟨by omega, by omega, fun e4 => upd (Or.inr e4), fun e4 => ihk k1 (by omega) st s1 s2 ?_ _ f5 hz5⟩⟩
        rw [hf0]
        unfold qlr1
        congr 2
        rw [if_neg e3, if_neg (by omega)]
      · unfold qlr1 at hf
        rw [if_neg (by omega)] at hf
        exact ihk k1 (by omega) st s1 s2 hf m2 f2 hz2
end MLN
