/-! B: the class reads conditions -/
section CLC
variable {xs : List Int32} {d : Nat} {Q : bPo} {b b0 b1 b2 : Bool} {m : Nat → Int → Int} {nT nH : Int} {T P E U N : Int → Int} {t s h k : Int}
variable {M : Nat → Int → Int} {B : Int → Int} {L p n c : Int}
theorem qE_sk (p1 : p ≤ L) : ∀ (f tag : Nat) (d : Int), qE B L f tag d (qsk B L p) = qE B L f tag d p := by
  have e1 := qsk_sk (B := B) p1
  have e2 := qpk_sk (B := B) p1
  have e3 : qnum B L 4 (qsk B L p) 0 9999 = qnum B L 4 p 0 9999 := by unfold qnum; rw [e1]
  intro f
  induction f with
  | zero => intro tag d; rfl
  | succ f ih =>
    intro tag d
    show qEB B L (qE B L f) tag d (qsk B L p) = qEB B L (qE B L f) tag d p
    unfold qEB qEat qEun
    rw [e1, e2, e3, ih 0, ih 1, ih 3, ih 5, ih 6]
/-- behind a sum: the comparison -/
theorem c_unit1 {dp : Int} {f : Nat} (ht : qTp L B) (d0 : 0 ≤ dp) (d6 : dp ≤ 6) (hp : qPre M B L p n) (hne : ¬ (qE B L (f + 1) 10 dp p).1 = -2) (hk : qKy b0 b1 b2 M n (qE B L (f + 1) 10 dp p) Q) : bC xs 1 112 [vr 1] ((b0, b1, b2), up M 1 2 p) (fun z25 μ26 => (μ26.1 = (b0, b1, b2)) ∧ (bC xs 1 92 [vi z25] ((b0, b1, b2), μ26.2) (fun z27 μ28 => (μ28.1 = (b0, b1, b2)) ∧ (inR z27 ∧ ((¬ z27 = (-1) → (bC xs 122 89 [vr 4, vi dp] ((b0, b1, b2), up μ28.2 1 2 ((μ28.2 1 2) + 1)) (fun z29 μ30 => (μ30.1 = (b0, b1, b2)) ∧ (inR z29 ∧ ((¬ z29 = 0 → (bC xs 1 83 [vr 4, vi z27] ((b0, b1, b2), μ30.2) (fun z31 μ32 => (μ32.1 = (b0, b1, b2)) ∧ (Q 1 ((b0, b1, b2), μ32.2))))) ∧ (z29 = 0 → (Q 0 ((b0, b1, b2), μ30.2)))))))) ∧ (z27 = (-1) → (Q 0 ((b0, b1, b2), up μ28.2 1 3 (μ28.2 1 2))))))))) := by
  obtain ⟨hc, hn, n0, p0, p1⟩ := hp
  have hb := ht.1
  have k1 := qsk_bd (B := B) p p1
  have kc := qpk_c ht p0 p1
  have er : qE B L (f + 1) 10 dp p = if qcmp (qpk B L p) = -1 then (qsk B L p, [], 0) else qEa (qE B L f 3 dp (qsk B L p + 1)) (qcmp (qpk B L p)) := rfl
  rw [er] at hne hk
  have hv := qcmp_v (qpk B L p)
  refine c_peek ht hc p0 p1 ⟨rfl, c_comparison (by omega) ?_⟩
  simp (disch := omega) only [qup_s, qup_up]
  refine ⟨trivial, by omega, fun h => ?_, fun h => ?_⟩
  · rw [if_neg h] at hne hk
    have hok := qE_ok ht f 3 dp (qsk B L p + 1) (by omega) (by omega)
    have hne1 : ¬ (qE B L f 3 dp (qsk B L p + 1)).1 = -2 := by
      intro h2
      apply hne
      unfold qEa
      rw [if_neg (by omega)]
      exact h2
    refine c_readSum (n := n) ht d0 d6 ⟨hc, hn, by omega, by omega, by omega⟩ hne1 ⟨?_, ?_⟩
    · intro ok M1 f1 c1
      unfold qEa at hk
      rw [if_pos ok] at hk
      generalize qE B L f 3 dp (qsk B L p + 1) = r at *
      have hb1 : r.2.2 ≤ L ∧ (r.2.1.length : Int) + (qsk B L p + 1) ≤ r.2.2 := by unfold qEok at hok; omega
      refine ⟨rfl, by omega, fun _ => c_emit c1.1 (by omega) (by omega) ?_, fun h => by omega⟩
      intro M2 f2 c2
      exact ⟨rfl, hk.1 rfl M2 (f1.trans f2) (qCd_app c1 c2)⟩
    · intro nok m1 f1 e1
      unfold qEa at hk
      rw [if_neg nok] at hk
      exact ⟨rfl, by omega, fun h => by omega, fun _ => hk.2 nok m1 f1 e1⟩
  · rw [if_pos h] at hk
    exact hk.2 (by dsimp only; omega) _ (qFr_up (qFr_up qFr.refl (by unfold qLg; omega)) (by unfold qLg; omega)) qup_s
theorem c_unitB {dp : Int} {f : Nat} {dJ : Nat} (ht : qTp L B) (hJ : 125 ≤ dJ) (d0 : 0 ≤ dp) (d6 : dp ≤ 6) (hp : qPre M B L p n) (hne : ¬ (qE B L f 10 dp p).1 = -2) (hk : qKy b0 b1 b2 M n (qE B L f 10 dp p) Q) : bGo xs dJ aM_X6_readUnit 0 [vr 4, vi dp, vi 1, vn, vn] [] ((b0, b1, b2), up M 1 2 p) Q := by
  cases f with
  | zero => exact absurd rfl hne
  | succ f =>
    refine r_X6_readUnit_0 hJ ⟨by omega, fun h => by omega, fun _ => ⟨by omega, fun _ => ?_, fun h => by omega⟩⟩
    exact c_unit1 ht d0 d6 hp hne hk
theorem c_unit0 (ht : qTp L B) (f : Nat) (ihU : ∀ (dJ : Nat) (dp p n : Int) (M : Nat → Int → Int) (Q : bPo), 4 * (6 - dp) + 126 ≤ dJ → 0 ≤ dp → dp ≤ 6 → qPre M B L p n → ¬ (qE B L f 5 dp p).1 = -2 → qKy b0 b1 b2 M n (qE B L f 5 dp p) Q → bGo xs dJ aM_X6_readUnit 0 [vr 4, vi dp, vi 0, vn, vn] [] ((b0, b1, b2), up M 1 2 p) Q) (ihC : ∀ (dJ : Nat) (dp p n : Int) (M : Nat → Int → Int) (Q : bPo), 4 * (6 - dp) + 128 ≤ dJ → 0 ≤ dp → dp ≤ 6 → qPre M B L p n → ¬ (qE B L f 8 dp p).1 = -2 → qKy b0 b1 b2 M n (qE B L f 8 dp p) Q → bGo xs dJ aM_X6_readCondition 0 [vr 4, vi dp, vi 0, vn] [] ((b0, b1, b2), up M 1 2 p) Q) : ∀ (dJ : Nat) (dp p n : Int) (M : Nat → Int → Int) (Q : bPo), 4 * (6 - dp) + 126 ≤ dJ → 0 ≤ dp → dp ≤ 6 → qPre M B L p n → ¬ (qE B L (f + 1) 5 dp p).1 = -2 → qKy b0 b1 b2 M n (qE B L (f + 1) 5 dp p) Q → bGo xs dJ aM_X6_readUnit 0 [vr 4, vi dp, vi 0, vn, vn] [] ((b0, b1, b2), up M 1 2 p) Q := by
  intro dJ dp p n M Q hJ d0 d6 hp hne hk
  have hp0 := hp
  obtain ⟨hc, hn, n0, p0, p1⟩ := hp
  have hb := ht.1
  have k1 := qsk_bd (B := B) p p1
  have kc := qpk_c ht p0 p1
  have er : qE B L (f + 1) 5 dp p = qEun B L (qE B L f) dp p := rfl
  rw [er] at hne hk
  unfold qEun at hne hk
  refine r_X6_readUnit_0 (by omega) ⟨by omega, fun _ => c_peek ht hc p0 p1 ?_, fun h => by omega⟩
  by_cases hbang : qpk B L p = 33
  · rw [if_pos hbang] at hne hk
    refine ⟨rfl, by omega, fun _ => ?_, fun h => absurd hbang h⟩
    refine r_X6_readNested_0 (by omega) ?_
    simp (disch := omega) only [qup_s, qup_up]
    refine ⟨by omega, fun h6 => ⟨by omega, fun _ => ?_, fun h => by omega⟩, fun h6 => ?_⟩
    · rw [if_neg (by omega)] at hne hk
      have hok := qE_ok ht f 5 (dp + 1) (qsk B L p + 1) (by omega) (by omega)
      have hne1 : ¬ (qE B L f 5 (dp + 1) (qsk B L p + 1)).1 = -2 := by
        intro h2
        apply hne
        unfold qEa
        rw [if_neg (by omega)]
        exact h2
      refine ihU (dJ - 1 - 1) (dp + 1) (qsk B L p + 1) n M _ (by omega) (by omega) (by omega) ⟨hc, hn, by omega, by omega, by omega⟩ hne1 ⟨?_, ?_⟩
      · intro ok M1 f1 c1
        unfold qEa at hk
        rw [if_pos ok] at hk
        generalize qE B L f 5 (dp + 1) (qsk B L p + 1) = r at *
        have hb1 : r.2.2 ≤ L ∧ (r.2.1.length : Int) + (qsk B L p + 1) ≤ r.2.2 := by unfold qEok at hok; omega
        refine ⟨rfl, by omega, fun _ => c_emit c1.1 (by omega) (by omega) ?_, fun h => by omega⟩
        intro M2 f2 c2
        exact ⟨(by first | rfl | trivial), (by first | rfl | trivial), (by first | omega | exact Or.inl trivial | exact Or.inr trivial), hk.1 rfl M2 (f1.trans f2) (qCd_app c1 c2)⟩
      · intro nok m1 f1 e1
        unfold qEa at hk
        rw [if_neg nok] at hk
        exact ⟨rfl, by omega, fun h => by omega, fun _ => ⟨(by first | rfl | trivial), (by first | omega | exact Or.inl trivial | exact Or.inr trivial), hk.2 nok m1 f1 e1⟩⟩
    · rw [if_pos h6] at hk
      refine ⟨trivial, ?_, hk.2 (by dsimp only; omega) _ (qFr_up (qFr_up qFr.refl (by unfold qLg; omega)) (by unfold qLg; omega)) qup_s⟩
      first | omega | exact Or.inl trivial
  · rw [if_neg hbang] at hne hk
    by_cases hpar : qpk B L p = 40
    · rw [if_pos hpar] at hne hk
      refine ⟨rfl, by omega, fun h => absurd h hbang, fun _ => ⟨by omega, fun h => absurd hpar h, fun _ => ?_⟩⟩
      refine r_X6_readNested_0 (by omega) ?_
      simp (disch := omega) only [qup_s, qup_up]
      refine ⟨by omega, fun h6 => ⟨by omega, fun h => absurd hpar h, fun _ => ?_⟩, fun h6 => ?_⟩
      · rw [if_neg (by omega)] at hne hk
        have hok := qE_ok ht f 8 (dp + 1) (qsk B L p + 1) (by omega) (by omega)
        have hne1 : ¬ (qE B L f 8 (dp + 1) (qsk B L p + 1)).1 = -2 := by
          intro h2
          apply hne
          unfold qEb
          rw [if_neg (by omega)]
          exact h2
        refine ihC (dJ - 1 - 1) (dp + 1) (qsk B L p + 1) n M _ (by omega) (by omega) (by omega) ⟨hc, hn, by omega, by omega, by omega⟩ hne1 ⟨?_, ?_⟩
        · intro ok M1 f1 c1
          unfold qEb at hk
          rw [if_pos ok] at hk
          generalize qE B L f 8 (dp + 1) (qsk B L p + 1) = r at *
          have hb1 : qsk B L p + 1 + 1 ≤ r.2.2 ∧ r.2.2 ≤ L := by
            have e : qlw 8 = 1 := rfl
            rw [e] at hok
            unfold qEok at hok
            omega
          have k2 := qsk_bd (B := B) r.2.2 hb1.2
          refine ⟨rfl, by omega, fun h => by omega, fun _ => c_must ht (qTc_lf f1 hc) (by omega) hb1.2 (by omega) (fun h => ?_) (fun h => ?_)⟩
          · rw [if_pos h] at hk
            exact ⟨rfl, by omega, fun h => by omega, fun _ => ⟨(by first | rfl | trivial), (by first | omega | exact Or.inl trivial | exact Or.inr trivial), hk.1 rfl M1 f1 c1⟩⟩
          · rw [if_neg h] at hk
            exact ⟨rfl, by omega, fun _ => ⟨(by first | rfl | trivial), (by first | omega | exact Or.inl trivial | exact Or.inr trivial), hk.2 (by dsimp only; omega) _ (qFr_up (qFr_up (qLf_g f1) (by unfold qLg; omega)) (by unfold qLg; omega)) (by dsimp only; rw [qup_s])⟩, fun h => by omega⟩
        · intro nok m1 f1 e1
          unfold qEb at hk
          rw [if_neg nok] at hk
          exact ⟨rfl, by omega, fun _ => ⟨(by first | rfl | trivial), (by first | omega | exact Or.inl trivial | exact Or.inr trivial), hk.2 nok m1 f1 e1⟩, fun h => by omega⟩
      · rw [if_pos h6] at hk
        refine ⟨trivial, ?_, hk.2 (by dsimp only; omega) _ (qFr_up (qFr_up qFr.refl (by unfold qLg; omega)) (by unfold qLg; omega)) qup_s⟩
        first | omega | exact Or.inl trivial
    · rw [if_neg hpar] at hne hk
      refine ⟨rfl, by omega, fun h => absurd h hbang, fun _ => ⟨by omega, fun _ => ⟨by omega, fun h => absurd rfl h, fun _ => ?_⟩, fun h => absurd h hpar⟩⟩
      have hok := qE_ok ht f 3 dp p p0 p1
      have hne1 : ¬ (qE B L f 3 dp p).1 = -2 := by
        intro h2
        apply hne
        unfold qEs
        rw [if_neg (by omega)]
        exact h2
      have esk := qE_sk (B := B) p1 f 3 dp
      refine c_readSum (n := n) ht d0 d6 ⟨hc, hn, by omega, by omega, by omega⟩ (by rw [esk]; exact hne1) ?_
      rw [esk]
      refine ⟨?_, ?_⟩
      · intro ok M1 f1 c1
        unfold qEs at hne hk
        rw [if_pos ok] at hne hk
        generalize qE B L f 3 dp p = r at *
        have hb1 : p + 1 ≤ r.2.2 ∧ r.2.2 ≤ L ∧ (r.2.1.length : Int) + p ≤ r.2.2 := by
          have e : qlw 3 = 1 := rfl
          rw [e] at hok
          unfold qEok at hok
          omega
        have hne2 : ¬ (qE B L f 10 dp r.2.2).1 = -2 := by
          intro h2
          apply hne
          rw [if_neg (by omega)]
          exact h2
        refine ⟨rfl, by omega, fun _ => ?_, fun h => by omega⟩
        cases f with
        | zero => exact absurd rfl hne2
        | succ f =>
          refine c_unit1 ht d0 d6 ⟨qTc_lf f1 hc, c1.1, by omega, by omega, by omega⟩ hne2 ⟨?_, ?_⟩
          · intro ok2 M2 f2 c2
            rw [if_pos ok2] at hk
            exact hk.1 rfl M2 (f1.trans f2) (qCd_app c1 c2)
          · intro nok2 m2 f2 e2
            rw [if_neg nok2] at hk
            exact hk.2 nok2 m2 ((qLf_g f1).trans f2) e2
      · intro nok m1 f1 e1
        unfold qEs at hk
        rw [if_neg nok] at hk
        exact ⟨rfl, by omega, fun h => by omega, fun _ => hk.2 nok m1 f1 e1⟩
theorem c_truth0 (ht : qTp L B) (f : Nat) (tI : Nat) (x2 : Int) (hI : tI = 5 ∨ tI = 10 ∨ tI = 11) (rI : Int → Int → qLr) (hrI : ∀ dp p, 0 ≤ p → p ≤ L → qEok L 1 p (rI dp p)) (ihI : ∀ (dJ : Nat) (dp p n : Int) (M : Nat → Int → Int) (Q : bPo), 4 * (6 - dp) + 126 ≤ dJ → 0 ≤ dp → dp ≤ 6 → qPre M B L p n → ¬ (rI dp p).1 = -2 → qKy b0 b1 b2 M n (rI dp p) Q → bGo xs dJ aM_X6_readUnit 0 [vr 4, vi dp, vi x2, vn, vn] [] ((b0, b1, b2), up M 1 2 p) Q) (ihL : ∀ (dJ : Nat) (dp p n x : Int) (M : Nat → Int → Int) (Q : bPo), 4 * (6 - dp) + 127 ≤ dJ → 0 ≤ dp → dp ≤ 6 → 0 ≤ x → x ≤ p → qPre M B L p n → ¬ (qE B L f 7 dp p).1 = -2 → qKy b0 b1 b2 M n (qE B L f 7 dp p) Q → bGo xs dJ aM_X6_readTruth 13 [vr 4, vi dp, vn, vi x] [] ((b0, b1, b2), up M 1 2 p) Q) : ∀ (dJ : Nat) (dp p n : Int) (M : Nat → Int → Int) (Q : bPo), 4 * (6 - dp) + 127 ≤ dJ → 0 ≤ dp → dp ≤ 6 → qPre M B L p n → ¬ (qEs (rI dp p) (qE B L f 7 dp)).1 = -2 → qKy b0 b1 b2 M n (qEs (rI dp p) (qE B L f 7 dp)) Q → bGo xs dJ aM_X6_readTruth 0 [vr 4, vi dp, vi x2, vn] [] ((b0, b1, b2), up M 1 2 p) Q := by
  intro dJ dp p n M Q hJ d0 d6 hp hne hk
  have hp0 := hp
  obtain ⟨hc, hn, n0, p0, p1⟩ := hp
  have hb := ht.1
  have hok := hrI dp p p0 p1
  have hne1 : ¬ (rI dp p).1 = -2 := by
    intro h
    apply hne
    unfold qEs
    rw [if_neg (by omega)]
    exact h
  refine r_X6_readTruth_0 (by omega) (ihI (dJ - 1) dp p n M _ (by omega) d0 d6 hp0 hne1 ⟨?_, ?_⟩)
  · intro ok M1 f1 c1
    refine ⟨rfl, by omega, fun _ => ?_, fun h => by omega⟩
    unfold qEs at hne hk
    rw [if_pos ok] at hne hk
    generalize rI dp p = r at *
    have hb1 : p + 1 ≤ r.2.2 ∧ r.2.2 ≤ L ∧ (r.2.1.length : Int) + p ≤ r.2.2 := by unfold qEok at hok; omega
    have hne2 : ¬ (qE B L f 7 dp r.2.2).1 = -2 := by
      intro h
      apply hne
      rw [if_neg (by omega)]
      exact h
    refine ihL dJ dp r.2.2 (n + r.2.1.length) 0 M1 Q hJ d0 d6 (by omega) (by omega) ⟨qTc_lf f1 hc, c1.1, by omega, by omega, by omega⟩ hne2 ⟨?_, ?_⟩
    · intro ok2 M2 f2 c2
      rw [if_pos ok2] at hk
      exact hk.1 rfl M2 (f1.trans f2) (qCd_app c1 c2)
    · intro nok2 m2 f2 e2
      rw [if_neg nok2] at hk
      exact hk.2 nok2 m2 ((qLf_g f1).trans f2) e2
  · intro nok m1 f1 e1
    unfold qEs at hk
    rw [if_neg nok] at hk
    exact ⟨rfl, by omega, fun h => by omega, fun _ => hk.2 nok m1 f1 e1⟩
theorem c_truthL (ht : qTp L B) (f : Nat) (ihI : ∀ (dJ : Nat) (dp p n : Int) (M : Nat → Int → Int) (Q : bPo), 4 * (6 - dp) + 126 ≤ dJ → 0 ≤ dp → dp ≤ 6 → qPre M B L p n → ¬ (qE B L f 5 dp p).1 = -2 → qKy b0 b1 b2 M n (qE B L f 5 dp p) Q → bGo xs dJ aM_X6_readUnit 0 [vr 4, vi dp, vi 0, vn, vn] [] ((b0, b1, b2), up M 1 2 p) Q) (ihL : ∀ (dJ : Nat) (dp p n x : Int) (M : Nat → Int → Int) (Q : bPo), 4 * (6 - dp) + 127 ≤ dJ → 0 ≤ dp → dp ≤ 6 → 0 ≤ x → x ≤ p → qPre M B L p n → ¬ (qE B L f 7 dp p).1 = -2 → qKy b0 b1 b2 M n (qE B L f 7 dp p) Q → bGo xs dJ aM_X6_readTruth 13 [vr 4, vi dp, vn, vi x] [] ((b0, b1, b2), up M 1 2 p) Q) : ∀ (dJ : Nat) (dp p n x : Int) (M : Nat → Int → Int) (Q : bPo), 4 * (6 - dp) + 127 ≤ dJ → 0 ≤ dp → dp ≤ 6 → 0 ≤ x → x ≤ p → qPre M B L p n → ¬ (qE B L (f + 1) 7 dp p).1 = -2 → qKy b0 b1 b2 M n (qE B L (f + 1) 7 dp p) Q → bGo xs dJ aM_X6_readTruth 13 [vr 4, vi dp, vn, vi x] [] ((b0, b1, b2), up M 1 2 p) Q := by
  intro dJ dp p n x M Q hJ d0 d6 x0 x1 hp hne hk
  obtain ⟨hc, hn, n0, p0, p1⟩ := hp
  have hb := ht.1
  have k1 := qsk_bd (B := B) p p1
  have kc := qpk_c ht p0 p1
  have er : qE B L (f + 1) 7 dp p = if qpk B L p = 38 then qEo (qE B L f 5 dp (qsk B L p + 1)) (-17) (qE B L f 7 dp) else (-1, [], qsk B L p) := rfl
  rw [er] at hne hk
  by_cases hop : qpk B L p = 38
  · rw [if_pos hop] at hne hk
    have hok := qE_ok ht f 5 dp (qsk B L p + 1) (by omega) (by omega)
    have hne1 : ¬ (qE B L f 5 dp (qsk B L p + 1)).1 = -2 := by
      intro h
      apply hne
      unfold qEo
      rw [if_neg (by omega)]
      exact h
    have e1 : qlw 5 = 1 := rfl
    rw [e1] at hok
    refine r_X6_readTruth_13 (by omega) ⟨by omega, fun h => by omega, fun _ => c_peek ht hc p0 p1 ?_⟩
    simp (disch := omega) only [qup_s, qup_up]
    refine ⟨trivial, by omega, fun h => absurd hop h, fun _ => ?_⟩
    refine ihI (dJ - 1) dp (qsk B L p + 1) n M _ (by omega) d0 d6 ⟨hc, hn, by omega, by omega, by omega⟩ hne1 ⟨?_, ?_⟩
    · intro ok M1 f1 c1
      unfold qEo at hne hk
      rw [if_pos ok] at hne hk
      generalize qE B L f 5 dp (qsk B L p + 1) = r at *
      have hb1 : qsk B L p + 1 + 1 ≤ r.2.2 ∧ r.2.2 ≤ L ∧ (r.2.1.length : Int) + (qsk B L p + 1) ≤ r.2.2 := by unfold qEok at hok; omega
      have hne2 : ¬ (qE B L f 7 dp r.2.2).1 = -2 := by
        intro h
        apply hne
        rw [if_neg (by omega)]
        exact h
      refine ⟨rfl, by omega, fun _ => c_emit c1.1 (by omega) (by omega) ?_, fun h => by omega⟩
      intro M2 f2 c2
      refine ⟨rfl, ihL dJ dp r.2.2 (n + r.2.1.length + 1) (x + 1) M2 Q hJ d0 d6 (by omega) (by omega) ⟨qTc_lf f2 (qTc_lf f1 hc), c2.1, by omega, by omega, by omega⟩ hne2 ⟨?_, ?_⟩⟩
      · intro ok2 M3 f3 c3
        rw [if_pos ok2] at hk
        exact hk.1 rfl M3 ((f1.trans f2).trans f3) (qCd_app c1 (qCd_app c2 c3))
      · intro nok2 m3 f3 e3
        rw [if_neg nok2] at hk
        exact hk.2 nok2 m3 (((qLf_g f1).trans (qLf_g f2)).trans f3) e3
    · intro nok m1 f1 e1
      unfold qEo at hk
      rw [if_neg nok] at hk
      exact ⟨rfl, by omega, fun h => by omega, fun _ => hk.2 nok m1 f1 e1⟩
  · rw [if_neg hop] at hk
    have fin := hk.1 rfl M qFr.refl (qCd_nil hn)
    dsimp only at fin
    refine r_X6_readTruth_13 (by omega) ⟨by omega, fun h => ?_, fun _ => c_peek ht hc p0 p1 ?_⟩
    · have e : qsk B L p = p := by omega
      rw [e] at fin
      exact fin
    · exact ⟨rfl, by omega, fun _ => fin, fun h => absurd h hop⟩
theorem c_cond0 (ht : qTp L B) (f : Nat) (tI : Nat) (x2 : Int) (hI : tI = 6 ∨ tI = 10 ∨ tI = 11) (rI : Int → Int → qLr) (hrI : ∀ dp p, 0 ≤ p → p ≤ L → qEok L 1 p (rI dp p)) (ihI : ∀ (dJ : Nat) (dp p n : Int) (M : Nat → Int → Int) (Q : bPo), 4 * (6 - dp) + 127 ≤ dJ → 0 ≤ dp → dp ≤ 6 → qPre M B L p n → ¬ (rI dp p).1 = -2 → qKy b0 b1 b2 M n (rI dp p) Q → bGo xs dJ aM_X6_readTruth 0 [vr 4, vi dp, vi x2, vn] [] ((b0, b1, b2), up M 1 2 p) Q) (ihL : ∀ (dJ : Nat) (dp p n x : Int) (M : Nat → Int → Int) (Q : bPo), 4 * (6 - dp) + 128 ≤ dJ → 0 ≤ dp → dp ≤ 6 → 0 ≤ x → x ≤ p → qPre M B L p n → ¬ (qE B L f 9 dp p).1 = -2 → qKy b0 b1 b2 M n (qE B L f 9 dp p) Q → bGo xs dJ aM_X6_readCondition 13 [vr 4, vi dp, vn, vi x] [] ((b0, b1, b2), up M 1 2 p) Q) : ∀ (dJ : Nat) (dp p n : Int) (M : Nat → Int → Int) (Q : bPo), 4 * (6 - dp) + 128 ≤ dJ → 0 ≤ dp → dp ≤ 6 → qPre M B L p n → ¬ (qEs (rI dp p) (qE B L f 9 dp)).1 = -2 → qKy b0 b1 b2 M n (qEs (rI dp p) (qE B L f 9 dp)) Q → bGo xs dJ aM_X6_readCondition 0 [vr 4, vi dp, vi x2, vn] [] ((b0, b1, b2), up M 1 2 p) Q := by
  intro dJ dp p n M Q hJ d0 d6 hp hne hk
  have hp0 := hp
  obtain ⟨hc, hn, n0, p0, p1⟩ := hp
  have hb := ht.1
  have hok := hrI dp p p0 p1
  have hne1 : ¬ (rI dp p).1 = -2 := by
    intro h
    apply hne
    unfold qEs
    rw [if_neg (by omega)]
    exact h
  refine r_X6_readCondition_0 (by omega) (ihI (dJ - 1) dp p n M _ (by omega) d0 d6 hp0 hne1 ⟨?_, ?_⟩)
  · intro ok M1 f1 c1
    refine ⟨rfl, by omega, fun _ => ?_, fun h => by omega⟩
    unfold qEs at hne hk
    rw [if_pos ok] at hne hk
    generalize rI dp p = r at *
    have hb1 : p + 1 ≤ r.2.2 ∧ r.2.2 ≤ L ∧ (r.2.1.length : Int) + p ≤ r.2.2 := by unfold qEok at hok; omega
    have hne2 : ¬ (qE B L f 9 dp r.2.2).1 = -2 := by
      intro h
      apply hne
      rw [if_neg (by omega)]
      exact h
    refine ihL dJ dp r.2.2 (n + r.2.1.length) 0 M1 Q hJ d0 d6 (by omega) (by omega) ⟨qTc_lf f1 hc, c1.1, by omega, by omega, by omega⟩ hne2 ⟨?_, ?_⟩
    · intro ok2 M2 f2 c2
      rw [if_pos ok2] at hk
      exact hk.1 rfl M2 (f1.trans f2) (qCd_app c1 c2)
    · intro nok2 m2 f2 e2
      rw [if_neg nok2] at hk
      exact hk.2 nok2 m2 ((qLf_g f1).trans f2) e2
  · intro nok m1 f1 e1
    unfold qEs at hk
    rw [if_neg nok] at hk
    exact ⟨rfl, by omega, fun h => by omega, fun _ => hk.2 nok m1 f1 e1⟩
theorem c_condL (ht : qTp L B) (f : Nat) (ihI : ∀ (dJ : Nat) (dp p n : Int) (M : Nat → Int → Int) (Q : bPo), 4 * (6 - dp) + 127 ≤ dJ → 0 ≤ dp → dp ≤ 6 → qPre M B L p n → ¬ (qE B L f 6 dp p).1 = -2 → qKy b0 b1 b2 M n (qE B L f 6 dp p) Q → bGo xs dJ aM_X6_readTruth 0 [vr 4, vi dp, vi 0, vn] [] ((b0, b1, b2), up M 1 2 p) Q) (ihL : ∀ (dJ : Nat) (dp p n x : Int) (M : Nat → Int → Int) (Q : bPo), 4 * (6 - dp) + 128 ≤ dJ → 0 ≤ dp → dp ≤ 6 → 0 ≤ x → x ≤ p → qPre M B L p n → ¬ (qE B L f 9 dp p).1 = -2 → qKy b0 b1 b2 M n (qE B L f 9 dp p) Q → bGo xs dJ aM_X6_readCondition 13 [vr 4, vi dp, vn, vi x] [] ((b0, b1, b2), up M 1 2 p) Q) : ∀ (dJ : Nat) (dp p n x : Int) (M : Nat → Int → Int) (Q : bPo), 4 * (6 - dp) + 128 ≤ dJ → 0 ≤ dp → dp ≤ 6 → 0 ≤ x → x ≤ p → qPre M B L p n → ¬ (qE B L (f + 1) 9 dp p).1 = -2 → qKy b0 b1 b2 M n (qE B L (f + 1) 9 dp p) Q → bGo xs dJ aM_X6_readCondition 13 [vr 4, vi dp, vn, vi x] [] ((b0, b1, b2), up M 1 2 p) Q := by
  intro dJ dp p n x M Q hJ d0 d6 x0 x1 hp hne hk
  obtain ⟨hc, hn, n0, p0, p1⟩ := hp
  have hb := ht.1
  have k1 := qsk_bd (B := B) p p1
  have kc := qpk_c ht p0 p1
  have er : qE B L (f + 1) 9 dp p = if qpk B L p = 124 then qEo (qE B L f 6 dp (qsk B L p + 1)) (-18) (qE B L f 9 dp) else (-1, [], qsk B L p) := rfl
  rw [er] at hne hk
  by_cases hop : qpk B L p = 124
  · rw [if_pos hop] at hne hk
    have hok := qE_ok ht f 6 dp (qsk B L p + 1) (by omega) (by omega)
    have hne1 : ¬ (qE B L f 6 dp (qsk B L p + 1)).1 = -2 := by
      intro h
      apply hne
      unfold qEo
      rw [if_neg (by omega)]
      exact h
    have e1 : qlw 6 = 1 := rfl
    rw [e1] at hok
    refine r_X6_readCondition_13 (by omega) ⟨by omega, fun h => by omega, fun _ => c_peek ht hc p0 p1 ?_⟩
    simp (disch := omega) only [qup_s, qup_up]
    refine ⟨trivial, by omega, fun h => absurd hop h, fun _ => ?_⟩
    refine ihI (dJ - 1) dp (qsk B L p + 1) n M _ (by omega) d0 d6 ⟨hc, hn, by omega, by omega, by omega⟩ hne1 ⟨?_, ?_⟩
    · intro ok M1 f1 c1
      unfold qEo at hne hk
      rw [if_pos ok] at hne hk
      generalize qE B L f 6 dp (qsk B L p + 1) = r at *
      have hb1 : qsk B L p + 1 + 1 ≤ r.2.2 ∧ r.2.2 ≤ L ∧ (r.2.1.length : Int) + (qsk B L p + 1) ≤ r.2.2 := by unfold qEok at hok; omega
      have hne2 : ¬ (qE B L f 9 dp r.2.2).1 = -2 := by
        intro h
        apply hne
        rw [if_neg (by omega)]
        exact h
      refine ⟨rfl, by omega, fun _ => c_emit c1.1 (by omega) (by omega) ?_, fun h => by omega⟩
      intro M2 f2 c2
      refine ⟨rfl, ihL dJ dp r.2.2 (n + r.2.1.length + 1) (x + 1) M2 Q hJ d0 d6 (by omega) (by omega) ⟨qTc_lf f2 (qTc_lf f1 hc), c2.1, by omega, by omega, by omega⟩ hne2 ⟨?_, ?_⟩⟩
      · intro ok2 M3 f3 c3
        rw [if_pos ok2] at hk
        exact hk.1 rfl M3 ((f1.trans f2).trans f3) (qCd_app c1 (qCd_app c2 c3))
      · intro nok2 m3 f3 e3
        rw [if_neg nok2] at hk
        exact hk.2 nok2 m3 (((qLf_g f1).trans (qLf_g f2)).trans f3) e3
    · intro nok m1 f1 e1
      unfold qEo at hk
      rw [if_neg nok] at hk
      exact ⟨rfl, by omega, fun h => by omega, fun _ => hk.2 nok m1 f1 e1⟩
  · rw [if_neg hop] at hk
    have fin := hk.1 rfl M qFr.refl (qCd_nil hn)
    dsimp only at fin
    refine r_X6_readCondition_13 (by omega) ⟨by omega, fun h => ?_, fun _ => c_peek ht hc p0 p1 ?_⟩
    · have e : qsk B L p = p := by omega
      rw [e] at fin
      exact fin
    · exact ⟨rfl, by omega, fun _ => fin, fun h => absurd h hop⟩
theorem c_conds (ht : qTp L B) : ∀ f : Nat, (∀ (dJ : Nat) (dp p n : Int) (M : Nat → Int → Int) (Q : bPo), 4 * (6 - dp) + 126 ≤ dJ → 0 ≤ dp → dp ≤ 6 → qPre M B L p n → ¬ (qE B L f 5 dp p).1 = -2 → qKy b0 b1 b2 M n (qE B L f 5 dp p) Q → bGo xs dJ aM_X6_readUnit 0 [vr 4, vi dp, vi 0, vn, vn] [] ((b0, b1, b2), up M 1 2 p) Q) ∧ (∀ (dJ : Nat) (dp p n : Int) (M : Nat → Int → Int) (Q : bPo), 4 * (6 - dp) + 127 ≤ dJ → 0 ≤ dp → dp ≤ 6 → qPre M B L p n → ¬ (qE B L f 6 dp p).1 = -2 → qKy b0 b1 b2 M n (qE B L f 6 dp p) Q → bGo xs dJ aM_X6_readTruth 0 [vr 4, vi dp, vi 0, vn] [] ((b0, b1, b2), up M 1 2 p) Q) ∧ (∀ (dJ : Nat) (dp p n x : Int) (M : Nat → Int → Int) (Q : bPo), 4 * (6 - dp) + 127 ≤ dJ → 0 ≤ dp → dp ≤ 6 → 0 ≤ x → x ≤ p → qPre M B L p n → ¬ (qE B L f 7 dp p).1 = -2 → qKy b0 b1 b2 M n (qE B L f 7 dp p) Q → bGo xs dJ aM_X6_readTruth 13 [vr 4, vi dp, vn, vi x] [] ((b0, b1, b2), up M 1 2 p) Q) ∧ (∀ (dJ : Nat) (dp p n : Int) (M : Nat → Int → Int) (Q : bPo), 4 * (6 - dp) + 128 ≤ dJ → 0 ≤ dp → dp ≤ 6 → qPre M B L p n → ¬ (qE B L f 8 dp p).1 = -2 → qKy b0 b1 b2 M n (qE B L f 8 dp p) Q → bGo xs dJ aM_X6_readCondition 0 [vr 4, vi dp, vi 0, vn] [] ((b0, b1, b2), up M 1 2 p) Q) ∧ (∀ (dJ : Nat) (dp p n x : Int) (M : Nat → Int → Int) (Q : bPo), 4 * (6 - dp) + 128 ≤ dJ → 0 ≤ dp → dp ≤ 6 → 0 ≤ x → x ≤ p → qPre M B L p n → ¬ (qE B L f 9 dp p).1 = -2 → qKy b0 b1 b2 M n (qE B L f 9 dp p) Q → bGo xs dJ aM_X6_readCondition 13 [vr 4, vi dp, vn, vi x] [] ((b0, b1, b2), up M 1 2 p) Q) := by
  intro f
  induction f with
  | zero =>
    refine ⟨fun dJ dp p n M Q _ _ _ _ h => absurd rfl h, fun dJ dp p n M Q _ _ _ _ h => absurd rfl h, fun dJ dp p n x M Q _ _ _ _ _ _ h => absurd rfl h, fun dJ dp p n M Q _ _ _ _ h => absurd rfl h, fun dJ dp p n x M Q _ _ _ _ _ _ h => absurd rfl h⟩
  | succ f ih =>
    obtain ⟨i5, i6, i7, i8, i9⟩ := ih
    exact ⟨c_unit0 ht f i5 i8, c_truth0 ht f 5 0 (Or.inl rfl) (fun dp p => qE B L f 5 dp p) (fun dp p p0 p1 => qE_ok ht f 5 dp p p0 p1) i5 i7, c_truthL ht f i5 i7, c_cond0 ht f 6 0 (Or.inl rfl) (fun dp p => qE B L f 6 dp p) (fun dp p p0 p1 => qE_ok ht f 6 dp p p0 p1) i6 i9, c_condL ht f i6 i9⟩
theorem c_readCond0 (ht : qTp L B) (hp : qPre M B L p n) {f : Nat} (hne : ¬ (qE B L f 8 0 p).1 = -2) (hk : qKy b0 b1 b2 M n (qE B L f 8 0 p) Q) : bC xs 242 85 [vr 4, vi 0, vi 0] ((b0, b1, b2), up M 1 2 p) Q :=
  qC rfl fun dJ hd => (c_conds ht f).2.2.2.1 dJ 0 p n M Q (by omega) (by omega) (by omega) hp hne hk
/-- a condition whose first sum has been read -/
def qCB (B : Int → Int) (L : Int) (f : Nat) (p : Int) : qLr := qEs (qEs (qE B L f 10 0 p) (qE B L f 7 0)) (qE B L f 9 0)
theorem qCB_ok (ht : qTp L B) (p0 : 0 ≤ p) (p1 : p ≤ L) (f : Nat) : qEok L 1 p (qCB B L f p) := by
  have h1 : qEok L 1 p (qE B L f 10 0 p) := qE_ok ht f 10 0 p p0 p1
  have h2 : qEok L 1 p (qEs (qE B L f 10 0 p) (qE B L f 7 0)) := by
    refine qEs_ok h1 (fun h => ?_) (by omega)
    have hb : p + 1 ≤ (qE B L f 10 0 p).2.2 ∧ (qE B L f 10 0 p).2.2 ≤ L := by unfold qEok at h1; omega
    exact qE_ok ht f 7 0 _ (by omega) hb.2
  refine qEs_ok h2 (fun h => ?_) (by omega)
  have hb : p + 1 ≤ (qEs (qE B L f 10 0 p) (qE B L f 7 0)).2.2 ∧ (qEs (qE B L f 10 0 p) (qE B L f 7 0)).2.2 ≤ L := by unfold qEok at h2; omega
  exact qE_ok ht f 9 0 _ (by omega) hb.2
theorem c_readCond1 (ht : qTp L B) (hp : qPre M B L p n) {f : Nat} (hne : ¬ (qCB B L f p).1 = -2) (hk : qKy b0 b1 b2 M n (qCB B L f p) Q) : bC xs 242 85 [vr 4, vi 0, vi 1] ((b0, b1, b2), up M 1 2 p) Q := by
  refine qC rfl fun dJ hd => ?_
  obtain ⟨i5, i6, i7, i8, i9⟩ := c_conds (xs := xs) (b0 := b0) (b1 := b1) (b2 := b2) ht f
  have hT := c_truth0 (xs := xs) (b0 := b0) (b1 := b1) (b2 := b2) ht f 10 1 (Or.inr (Or.inl rfl)) (fun dp p => qE B L f 10 dp p) (fun dp p p0 p1 => qE_ok ht f 10 dp p p0 p1) (fun dJ dp p n M Q hJ d0 d6 hp hne hk => c_unitB ht (by omega) d0 d6 hp hne hk) i7
  have hok : ∀ dp p, 0 ≤ p → p ≤ L → qEok L 1 p (qEs (qE B L f 10 dp p) (qE B L f 7 dp)) := by
    intro dp p p0 p1
    have h1 : qEok L 1 p (qE B L f 10 dp p) := qE_ok ht f 10 dp p p0 p1
    refine qEs_ok h1 (fun h => ?_) (by omega)
    have hb : p + 1 ≤ (qE B L f 10 dp p).2.2 ∧ (qE B L f 10 dp p).2.2 ≤ L := by unfold qEok at h1; omega
    exact qE_ok ht f 7 dp _ (by omega) hb.2
  exact c_cond0 ht f 11 1 (Or.inr (Or.inr rfl)) (fun dp p => qEs (qE B L f 10 dp p) (qE B L f 7 dp)) hok hT i9 dJ 0 p n M Q (by omega) (by omega) (by omega) hp hne hk
end CLC
