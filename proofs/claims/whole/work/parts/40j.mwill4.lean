/-! B: the reference reads a will: all -/
def qFwm (a : Nat) (k : Int) : Prop := a = 126 ∨ a = 128 ∨ a = 130 ∨ a = 132 ∨ (a = 120 ∧ ((8 ≤ k ∧ k ≤ 11) ∨ k = 29 ∨ k = 30 ∨ k = 31))
section MW4
variable {xs : List Int32} {d : Nat} {Q : bPo} {b b0 b1 b2 : Bool} {m : Nat → Int → Int} {nT nH : Int} {T P E U N : Int → Int} {t s h k : Int}
variable {M : Nat → Int → Int} {B : Int → Int} {L p q g : Int} {σ : qSt}
theorem qwh_m (hr : qRl σ) : qwh σ = qfold (fun t a => if σ 126 (4 * t + 2) ≤ σ 126 (4 * t + 3) then a else 0) (σ 0 9) 0 1 := by
  unfold qwh
  refine qfold_congr ?_
  intro t a t0 t1
  obtain ⟨q0, q1, _⟩ := hr.2.1 t t0 t1
  unfold qT0 at q0
  unfold qF1 at q1
  rw [q0.1.2.2, q1.1]
theorem d_readWill (ht : qTp L B) (hc : qTm m L B) (σ0 : qSt) (hr0 : qRl σ0) (hmo : qMo0 m σ0) (hQ : ∀ m', qFr qFwm m m' → m' 120 11 = (qWL B L 240 σ0 0).1 → ((qWL B L 240 σ0 0).1 = -1 → qMs m' (qWL B L 240 σ0 0).2) → Q 0 ((b0, b1, false), m')) : bC xs 10 204 [vr 120] ((b0, b1, b2), m) Q := by
  refine qC rfl fun d hd => r_X12_readWill_0 hd ?_
  have hb := ht.1
  rw [hc.1]
  obtain ⟨m0, hm0⟩ : ∃ m0, m0 = up (up (up (up (up (up (up m 120 8 0) 120 9 L) 120 10 0) 120 11 (-1)) 120 29 0) 120 30 0) 120 31 0 := ⟨_, rfl⟩
  rw [← hm0]
  have f0 : qFr qFwm m m0 := by
    rw [hm0]
    refine qFr_up (qFr_up (qFr_up (qFr_up (qFr_up (qFr_up (qFr_up qFr.refl ?_) ?_) ?_) ?_) ?_) ?_) ?_
    all_goals unfold qFwm; omega
  have a8 : m0 120 8 = 0 := by rw [hm0]; simp (disch := omega) only [qup_o, qup_s]
  have a9 : m0 120 9 = L := by rw [hm0]; simp (disch := omega) only [qup_o, qup_s]
  have a10 : m0 120 10 = 0 := by rw [hm0]; simp (disch := omega) only [qup_o, qup_s]
  have a11 : m0 120 11 = -1 := by rw [hm0]; simp (disch := omega) only [qup_o, qup_s]
  have a29 : m0 120 29 = 0 := by rw [hm0]; simp (disch := omega) only [qup_o, qup_s]
  have a30 : m0 120 30 = 0 := by rw [hm0]; simp (disch := omega) only [qup_o, qup_s]
  have a31 : m0 120 31 = 0 := by rw [hm0]; simp (disch := omega) only [qup_o, qup_s]
  have st : ∀ (M1 : Nat → Int → Int) (x : Int), 0 ≤ x → x < 5 → bGo xs d aM_X12_readWill 30 [vr 120, vi (x + 1), vn, vn] [] ((b0, b1, false), up M1 132 x 0) Q → bGo xs d aM_X12_readWill 30 [vr 120, vi x, vn, vn] [] ((b0, b1, false), M1) Q := by
    intro M1 x x0 x1 h
    exact r_X12_readWill_30 hd ⟨by omega, fun h => by first | omega | exact absurd trivial h, fun _ => ⟨by omega, h⟩⟩
  refine st _ 0 (by omega) (by omega) (st _ (0 + 1) (by omega) (by omega) (st _ (0 + 1 + 1) (by omega) (by omega) (st _ (0 + 1 + 1 + 1) (by omega) (by omega) (st _ (0 + 1 + 1 + 1 + 1) (by omega) (by omega) ?_))))
  obtain ⟨m1, hm1⟩ : ∃ m1, m1 = up (up (up (up (up m0 132 0 0) 132 (0 + 1) 0) 132 (0 + 1 + 1) 0) 132 (0 + 1 + 1 + 1) 0) 132 (0 + 1 + 1 + 1 + 1) 0 := ⟨_, rfl⟩
  rw [← hm1]
  have f1 : qFr qFwm m m1 := by
    rw [hm1]
    refine qFr_up (qFr_up (qFr_up (qFr_up (qFr_up f0 ?_) ?_) ?_) ?_) ?_
    all_goals unfold qFwm; omega
  have c120 : ∀ k, m1 120 k = m0 120 k := fun k => by rw [hm1]; simp (disch := omega) only [qup_n]
  have hx1 : qXm m1 false 0 L B := by
    refine ⟨by rw [c120]; exact a8, by rw [c120]; exact a9, ⟨by omega, by show 0 + L ≤ 240; omega⟩, ?_⟩
    intro k k0 k1
    show m1 121 (0 + k) = _
    rw [f1 121 _ (by unfold qFwm; omega), Int.zero_add]
    exact hc.2 k k0 k1
  have hA := hr0.1
  have hs1 : qMs m1 σ0 := by
    refine ⟨?_, ?_, ?_, ?_, ?_, ?_, ?_⟩
    · rw [hmo.2.1, hm1, hm0]; simp (disch := omega) only [qup_n]
    · rw [hmo.2.2.1, hm1, hm0]; simp (disch := omega) only [qup_n]
    · rw [hmo.2.2.2.1, hm1, hm0]; simp (disch := omega) only [qup_n]
    · rw [hmo.2.2.2.2, hm1, qup_f, qup_f, qup_f, qup_f, qup_f, hm0]
      simp (disch := omega) only [qup_n]
      rfl
    · rw [c120, a29, hA.2.1.1, hmo.1.1]
    · rw [c120, a30, hA.2.1.2.1, hmo.1.2.1]
    · rw [c120, a31, hA.2.1.2.2, hmo.1.2.2]
  have b11 : m1 120 11 = -1 := by rw [c120]; exact a11
  refine r_X12_readWill_30 hd ⟨by omega, fun _ => ?_, fun h => by first | omega | exact absurd trivial h⟩
  obtain ⟨R, hR⟩ : ∃ R, R = qWL B L 240 σ0 0 := ⟨_, rfl⟩
  rw [← hR] at hQ
  have hfm : ∀ {m' : Nat → Int → Int}, qFr qFmr m1 m' → qFr qFwm m m' := fun h => f1.trans (h.mono (fun a k h => by unfold qFmr at h; unfold qFwm; omega))
  -- the last look: all is told
  have hend : ∀ (M1 : Nat → Int → Int) (σ1 : qSt) (q : Int), qFr qFms m1 M1 → qMs M1 σ1 → qRl σ1 → 0 ≤ q → q ≤ L → ¬ qpk B L q = 59 → (qpk B L q = -1 → R = (qwf L σ1, σ1)) → (¬ qpk B L q = -1 → R = (qsk B L q, σ1)) → bGo xs d aM_X12_readWill 50 [vr 120, vi 0, vn, vn] [] ((b0, b1, false), up M1 120 10 q) Q := by
    intro M1 σ1 q hf1 hsM hr1 q0 q1 hns hR1 hR2
    have hxM := qXm_fr hf1 hx1
    have h11 : M1 120 11 = -1 := by rw [hf1 120 11 (by unfold qFms; omega)]; exact b11
    have k1 := qsk_bd (B := B) q q1
    have kc := qpk_c ht q0 q1
    have hA1 := hr1.1
    have hA11 := hA1.1
    have e29 : M1 120 29 = σ1 0 9 := by rw [hsM.2.2.2.2.1]; exact hA1.2.1.1
    have e30 : M1 120 30 = σ1 0 10 := by rw [hsM.2.2.2.2.2.1]; exact hA1.2.1.2.1
    have loop : ∀ y, (y = 0 ∨ y = 1) → ∀ t, t ≤ σ1 0 9 → 0 ≤ t → ∀ a, (a = 0 ∨ a = 1) → qfold (fun t a => if σ1 126 (4 * t + 2) ≤ σ1 126 (4 * t + 3) then a else 0) (σ1 0 9) t a = y → (y = 1 → R.1 = -1 ∧ R.2 = σ1) → (y = 0 → R.1 = qsk B L q) → bGo xs d aM_X12_readWill 145 [vr 120, vn, vi a, vi t] [] ((b0, b1, false), up M1 120 10 (qsk B L q)) Q := by
      intro y hy
      refine qUpto ?_
      intro t htt ih t0 a ha he w1 w0
      refine r_X12_readWill_145 hd ?_
      simp (disch := omega) only [qup_s, qup_o, qup_n, qup_up, e29, h11, hsM.1]
      by_cases hlt : t < σ1 0 9
      · rw [qfold_lt hlt] at he
        obtain ⟨z0, z1, _⟩ := hr1.2.1 t t0 hlt
        unfold qT0 at z0
        unfold qF1 at z1
        refine ⟨by omega, by omega, fun h => by first | omega | exact absurd trivial h, fun _ => ⟨by omega, fun h0 => ?_, fun h0 => ⟨by omega, by omega, by omega, by omega, fun h => ?_, fun h => ?_⟩⟩⟩
        · refine ih hlt (by omega) 0 (by omega) ?_ w1 w0
          rw [← he, h0]
          congr 1
          split <;> rfl
        · rw [if_neg (by omega)] at he
          exact ih hlt (by omega) 0 (by omega) he w1 w0
        · rw [if_pos h] at he
          have : a = 1 := by omega
          subst this
          exact ih hlt (by omega) 1 (by omega) he w1 w0
      · rw [qfold_ge (by omega)] at he
        refine ⟨by omega, by omega, fun _ => ⟨by omega, fun h => ?_, fun h => ⟨by omega, fun h2 => by first | omega | exact absurd trivial h2, fun _ => ?_⟩⟩, fun h => by first | omega | exact absurd trivial h⟩
        · have := w1 (by omega)
          refine hQ _ (hfm (qFr_up (qFms_r hf1) (by unfold qFmr; omega))) ?_ ?_
          · rw [qup_o (by omega), h11, this.1]
          · intro _
            rw [this.2]
            obtain ⟨g1, g2, g3, g4, g5, g6, g7⟩ := hsM
            refine ⟨?_, ?_, ?_, ?_, ?_, ?_, ?_⟩
            · rw [qup_n (by omega)]; exact g1
            · rw [qup_n (by omega)]; exact g2
            · rw [qup_n (by omega)]; exact g3
            · rw [qup_n (by omega)]; exact g4
            · rw [qup_o (by omega)]; exact g5
            · rw [qup_o (by omega)]; exact g6
            · rw [qup_o (by omega)]; exact g7
        · have := w0 (by omega)
          refine hQ _ (hfm (qFr_up (qFr_up (qFms_r hf1) (by unfold qFmr; omega)) (by unfold qFmr; omega))) ?_ ?_
          · rw [qup_s, this]
          · intro h5; omega
    have zz : ∀ t, t ≤ σ1 0 9 → qfold (fun t a => if σ1 126 (4 * t + 2) ≤ σ1 126 (4 * t + 3) then a else 0) (σ1 0 9) t (0 : Int) = 0 := by
      refine qUpto ?_
      intro t ht ih
      by_cases h : t < σ1 0 9
      · rw [qfold_lt h, show (if σ1 126 (4 * t + 2) ≤ σ1 126 (4 * t + 3) then (0 : Int) else 0) = 0 by split <;> rfl]
        exact ih h
      · exact qfold_ge (by omega)
    refine r_X12_readWill_50 hd ?_
    simp (disch := omega) only [qup_s, qup_o, qup_n, qup_up, h11]
    refine ⟨by omega, fun _ => ⟨by omega, fun _ => d_look ht hxM q0 q1 ?_, fun h => by first | omega | exact absurd trivial h⟩, fun h => by first | omega | exact absurd trivial h⟩
    simp (disch := omega) only [qup_s, qup_o, qup_n, qup_up, e29, e30]
    refine ⟨trivial, by omega, fun h => ?_, fun h => ?_⟩
    · exact loop 0 (by omega) 0 (by omega) (by omega) 0 (by omega) (zz 0 (by omega)) (fun h => by first | omega | exact absurd trivial h) (fun _ => by rw [hR2 h])
    · have hRe := hR1 h
      unfold qwf at hRe
      rw [qwh_m hr1] at hRe
      have l0 : (¬ (0 < σ1 0 9 ∧ 0 < σ1 0 10)) → bGo xs d aM_X12_readWill 145 [vr 120, vn, vi 0, vi 0] [] ((b0, b1, false), up M1 120 10 (qsk B L q)) Q := by
        intro hno
        rw [if_neg (by omega)] at hRe
        exact loop 0 (by omega) 0 (by omega) (by omega) 0 (by omega) (zz 0 (by omega)) (fun h => by first | omega | exact absurd trivial h) (fun _ => by rw [hRe]; dsimp only; omega)
      have l1 : 0 < σ1 0 9 ∧ 0 < σ1 0 10 → bGo xs d aM_X12_readWill 145 [vr 120, vn, vi 1, vi 0] [] ((b0, b1, false), up M1 120 10 (qsk B L q)) Q := by
        intro hyes
        have h01 : qfold (fun t a => if σ1 126 (4 * t + 2) ≤ σ1 126 (4 * t + 3) then a else 0) (σ1 0 9) 0 (1 : Int) = 0 ∨ qfold (fun t a => if σ1 126 (4 * t + 2) ≤ σ1 126 (4 * t + 3) then a else 0) (σ1 0 9) 0 (1 : Int) = 1 := by
          refine qfold_inv (I := fun (_ : Int) (a : Int) => a = 0 ∨ a = 1) ?_ (by omega) (Or.inr rfl)
          intro i a _ _ ha
          try dsimp only
          split
          · exact ha
          · exact Or.inl rfl
        refine loop _ h01 0 (by omega) (by omega) 1 (by omega) rfl (fun h => ?_) (fun h => ?_)
        · rw [if_pos ⟨h, hyes⟩] at hRe
          rw [hRe]
          exact ⟨rfl, rfl⟩
        · rw [if_neg (by omega)] at hRe
          rw [hRe]
          try dsimp only
          omega
      (with_reducible repeat' (first | exact True.intro | apply And.intro | intro _))
      all_goals first | omega | exact absurd trivial (by assumption) | exact l0 (by omega) | exact l1 (by omega)
  suffices H : ∀ (n : Nat) (M1 : Nat → Int → Int) (σ1 : qSt) (q : Int), 480 ≤ q + 2 * n → qFr qFms m1 M1 → qMs M1 σ1 → qRl σ1 → 0 ≤ q → q ≤ L → R = qWL B L n σ1 q → bGo xs d aM_X12_readWill 50 [vr 120, vi 1, vn, vn] [] ((b0, b1, false), up M1 120 10 q) Q by
    have := H 240 m1 σ0 0 (by omega) qFr.refl hs1 hr0 (by omega) (by omega) hR
    have ei : up m1 120 10 0 = m1 := by
      have := qup_id (m := m1) (a := 120) (k := 10)
      rw [c120, a10] at this
      exact this
    rw [ei] at this
    exact this
  intro n
  induction n with
  | zero => intro M1 σ1 q hq; omega
  | succ n ih =>
    intro M1 σ1 q hq hf1 hsM hr1 q0 q1 he
    have hxM := qXm_fr hf1 hx1
    have h11 : M1 120 11 = -1 := by rw [hf1 120 11 (by unfold qFms; omega)]; exact b11
    rw [qWL] at he
    have hbd := qCL_bd (σ := σ1) ht q0 q1
    have hrl := qCL_rl ht q0 q1 hr1
    refine r_X12_readWill_50 hd ?_
    simp (disch := omega) only [qup_s, qup_o, qup_n, qup_up, h11]
    refine ⟨by omega, fun h => by first | omega | exact absurd trivial h, fun _ => ⟨by omega, fun h => by first | omega | exact absurd trivial h, fun _ => ?_⟩⟩
    have key : (qCL B L σ1 q).1 = -1 → ∀ M2, qFr qFms M1 M2 → qMs M2 (qCL B L σ1 q).2.1 → ∀ p', p' = (qCL B L σ1 q).2.2 ∨ p' = qsk B L (qCL B L σ1 q).2.2 → (fun (z5 : Int) (μ6 : bMm) => (μ6.1 = (b0, b1, false)) ∧ (inR (μ6.2 120 11) ∧ ((¬ μ6.2 120 11 = (-1) → (bGo xs d aM_X12_readWill 50 [vr 120, vi 0, vn, vn] [] ((b0, b1, false), μ6.2) Q)) ∧ (μ6.2 120 11 = (-1) → (bC xs 1 180 [vr 120] ((b0, b1, false), μ6.2) (fun z7 μ8 => (μ8.1 = (b0, b1, false)) ∧ (inR z7 ∧ ((¬ z7 = 59 → (bGo xs d aM_X12_readWill 50 [vr 120, vi 0, vn, vn] [] ((b0, b1, false), μ8.2) Q)) ∧ (z7 = 59 → (bGo xs d aM_X12_readWill 50 [vr 120, vi 1, vn, vn] [] ((b0, b1, false), up μ8.2 120 10 ((μ8.2 120 10) + 1)) Q))))))))) ) 0 ((b0, b1, false), up M2 120 10 p') := by
      intro ok M2 f2 s2 p' hp'
      have hf2 : qFr qFms m1 M2 := hf1.trans f2
      have hx2 := qXm_fr hf2 hx1
      have h112 : M2 120 11 = -1 := by rw [hf2 120 11 (by unfold qFms; omega)]; exact b11
      rw [if_neg (by omega)] at he
      generalize qCL B L σ1 q = r at *
      have k1 := qsk_bd (B := B) (L := L) r.2.2 (by omega)
      have kc := qpk_c (p := r.2.2) ht (by omega) (by omega)
      have ep : qpk B L p' = qpk B L r.2.2 ∧ qsk B L p' = qsk B L r.2.2 := by
        rcases hp' with rfl | rfl
        · exact ⟨rfl, rfl⟩
        · exact ⟨qpk_sk (by omega), qsk_sk (by omega)⟩
      simp (disch := omega) only [qup_s, qup_o, qup_n, qup_up, h112]
      refine ⟨trivial, by omega, fun h => by first | omega | exact absurd trivial h, fun _ => d_look ht hx2 (by omega) (by omega) ?_⟩
      rw [ep.1, ep.2]
      simp (disch := omega) only [qup_s, qup_up]
      refine ⟨trivial, by omega, fun hns => ?_, fun h59 => ?_⟩
      · refine hend M2 r.2.1 (qsk B L r.2.2) hf2 s2 (hrl ok) (by omega) (by omega) (by rw [qpk_sk (by omega)]; exact hns) ?_ ?_
        · rw [qpk_sk (by omega)]
          intro h
          rw [if_pos h] at he
          exact he
        · rw [qpk_sk (by omega), qsk_sk (by omega)]
          intro h
          rw [if_neg h, if_neg hns] at he
          exact he
      · rw [if_neg (by omega), if_pos h59] at he
        exact ih M2 r.2.1 (qsk B L r.2.2 + 1) (by omega) hf2 s2 (hrl ok) (by omega) (by omega) he
    refine d_readClause ht hxM hsM hr1 h11 q0 q1 ?_ ?_ ?_ ?_
    · exact fun ok M2 f2 s2 => key ok M2 f2 s2 _ (Or.inl rfl)
    · exact fun ok M2 f2 s2 => key ok M2 f2 s2 _ (Or.inr rfl)
    · intro ok h1 h59 m2 f2 e2
      rw [if_neg (by omega), if_neg h1, if_neg h59] at he
      have k1 := qsk_bd (B := B) (L := L) (qCL B L σ1 q).2.2 (by omega)
      try dsimp only
      rw [e2]
      refine ⟨rfl, by omega, fun _ => ?_, fun h => by first | omega | exact absurd trivial h⟩
      refine r_X12_readWill_50 hd ?_
      rw [e2]
      refine ⟨by omega, fun _ => ⟨by omega, fun h => by first | omega | exact absurd trivial h, fun _ => ?_⟩, fun h => by first | omega | exact absurd trivial h⟩
      exact hQ m2 (hfm ((qFms_r hf1).trans f2)) (by rw [e2, he]) (fun h => by rw [he] at h; dsimp only at h; omega)
    · intro hne m2 f2 e2
      rw [if_pos hne] at he
      try dsimp only
      rw [e2]
      refine ⟨rfl, by omega, fun _ => ?_, fun h => absurd h hne⟩
      refine r_X12_readWill_50 hd ?_
      rw [e2]
      refine ⟨by omega, fun _ => ⟨by omega, fun h => absurd h hne, fun _ => ?_⟩, fun h => by first | omega | exact absurd trivial h⟩
      exact hQ m2 (hfm ((qFms_r hf1).trans f2)) (by rw [e2, he]) (fun h => by rw [he] at h; exact absurd h hne)
end MW4
