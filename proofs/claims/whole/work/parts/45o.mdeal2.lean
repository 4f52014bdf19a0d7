/-! B: the model's dealings are the best; deal, learn of the model -/
noncomputable def qDg (T P N G : Int → Int) (nT nH : Int) : Int := qBz (fun h => qAg T P N G h) (qRo T) (qVa T) (qWt nT) nT (N 66) (fun x => 0 ≤ x ∧ x < nH) (qDl T N G)
section DGP
variable {T P E U N G a e β : Int → Int} {nT nH t M : Int} {χ : Int → Bool}
theorem qhX_w (n6 : nT ≤ 6) : ∀ t, 0 ≤ t → t ≤ nT → qhX e t * qt10 (nT - t) = qsB (fun _ => true) (fun u => e u * qWt nT u) t := by
  refine qAsc (fun _ => by rw [qsB_0]; unfold qhX; rw [qfold_ge (by omega), Int.zero_mul]) ?_
  intro t t0 ih t1
  have i := ih (by omega)
  have ts := qt10_s (n := nT - (t + 1)) (by omega) (by omega)
  rw [show nT - (t + 1) + 1 = nT - t by omega] at ts
  rw [qsB_s t0, if_pos rfl, ← i, qhX_s t0, ts]
  unfold qWt
  rw [show nT - 1 - t = nT - (t + 1) by omega]
  generalize qt10 (nT - (t + 1)) = z
  rw [Int.add_mul, Int.mul_left_comm, Int.mul_assoc]
theorem qhX_sp (hn : 0 ≤ nT) (n6 : nT ≤ 6) (h9 : ∀ t, 0 ≤ t → t < nT → χ t = false → e t = 9) : qhX e nT = qsB χ (fun u => e u * qWt nT u) nT + 9 * qsB (fun u => !χ u) (qWt nT) nT := by
  have h1 := qhX_w (e := e) n6 nT hn (Int.le_refl _)
  have v := qt10_v
  rw [show nT - nT = 0 by omega, v.1, Int.mul_one, qsB_sp (p := χ) nT hn] at h1
  rw [h1, ← qsB_mul nT hn]
  have a1 : qsB (fun u => true && χ u) (fun u => e u * qWt nT u) nT = qsB χ (fun u => e u * qWt nT u) nT := qsB_cg (fun u _ _ => by rw [Bool.true_and]) (fun _ _ _ _ => rfl)
  have a2 : qsB (fun u => true && !χ u) (fun u => e u * qWt nT u) nT = qsB (fun u => !χ u) (fun u => 9 * qWt nT u) nT := qsB_cg (fun u _ _ => by rw [Bool.true_and]) (fun u u0 u1 hu => by
    rw [Bool.true_and, Bool.not_eq_true'] at hu
    rw [h9 u u0 u1 hu])
  rw [a1, a2]
theorem qSc_v (hn : 0 ≤ nT) (h9 : ∀ t, 0 ≤ t → t < nT → χ t = false → e t = 9) : qSc (qVa T) (qWt nT) nT χ e = qvA T e nT * 1000000 - qsB χ (fun u => e u * qWt nT u) nT := by
  unfold qSc
  rw [qsB_sub nT hn]
  congr 1
  unfold qvA
  rw [Int.mul_comm, ← qsB_mul nT hn, qsB_sp (χ := χ) (p := fun u => !decide (e u = 9)) nT hn]
  have z0 : qsB (fun u => χ u && !!decide (e u = 9)) (fun t => if e t = 9 then 0 else qVa T t * 1000000) nT = qsB (fun u => χ u && !!decide (e u = 9)) (fun _ => 0) nT := by
    refine qsB_cg (fun _ _ _ => rfl) (fun u _ _ hu => ?_)
    rw [Bool.and_eq_true, Bool.not_not, decide_eq_true_eq] at hu
    rw [if_pos hu.2]
  have z1 : qsB (fun u => χ u && !!decide (e u = 9)) (fun _ => (0 : Int)) nT = 0 := by
    have h1 := qsB_nn (χ := fun u => χ u && !!decide (e u = 9)) (f := fun _ => (0 : Int)) nT hn (fun _ _ _ _ => by omega)
    have h2 := qsB_ub (χ := fun u => χ u && !!decide (e u = 9)) (f := fun _ => (0 : Int)) (c := 0) (by omega) nT hn (fun _ _ _ _ => by omega)
    omega
  rw [z0, z1, Int.add_zero]
  refine qsB_cg (fun u u0 u1 => ?_) (fun u _ _ hu => ?_)
  · cases ec : χ u with
    | true => rw [Bool.true_and]
    | false => rw [h9 u u0 u1 ec, decide_eq_true rfl]; rfl
  · rw [Bool.and_eq_true, Bool.not_eq_true', decide_eq_false_iff_not] at hu
    rw [if_neg hu.2, Int.mul_comm]
theorem qDw (hW : qWF nT nH T P E U N) (hd : ∀ u, 0 ≤ u → u < nT → χ u = true → 0 ≤ e u ∧ e u ≤ 9) : 0 ≤ qsB χ (fun u => e u * qWt nT u) nT ∧ qsB χ (fun u => e u * qWt nT u) nT ≤ 999999 := by
  have wn := qw_n hW
  have wp : ∀ t, 0 ≤ qWt nT t := fun t => by unfold qWt qt10; exact Int.pow_nonneg (by omega)
  refine ⟨qsB_nn nT wn.1.1 (fun u u0 u1 hu => Int.mul_nonneg (hd u u0 u1 hu).1 (wp u)), ?_⟩
  have h1 : qsB χ (fun u => e u * qWt nT u) nT ≤ qsB χ (fun u => 9 * qWt nT u) nT := qsB_lb nT wn.1.1 (fun u u0 u1 hu => Int.mul_le_mul_of_nonneg_right (hd u u0 u1 hu).2 (wp u))
  rw [qsB_mul nT wn.1.1] at h1
  have h2 := qWt_sum (χ := χ) wn.1.1 wn.1.2
  omega
theorem qFq_bt (hW : qWF nT nH T P E U N) (hF : qFq T P N G nT nH nT β) (hv : qvA T β nT = M) (hd : ∀ e, qFq T P N G nT nH nT e → qdo T nT M (qhX β nT) e) : qBt (fun h => qAg T P N G h) (qRo T) (qVa T) (qWt nT) nT (N 66) (fun x => 0 ≤ x ∧ x < nH) (qDl T N G) (M * 1000000 - qsB (qDl T N G) (fun u => β u * qWt nT u) nT) := by
  have wn := qw_n hW
  have b9 : ∀ e, qFq T P N G nT nH nT e → ∀ t, 0 ≤ t → t < nT → qDl T N G t = false → e t = 9 := fun e he t t0 t1 hc => by
    rcases he.1 t t0 t1 with h | h
    · exact h
    · rw [hc] at h; exact absurd h.1 (by simp)
  have hDb := qDw (χ := qDl T N G) hW (fun u u0 u1 _ => qFq_d wn.2.1.2 hF u u0 u1)
  constructor
  · refine ⟨β, ⟨fun t t0 t1 ht => (hF.1 t t0 t1).imp id (fun h => h.2), fun g hg => qFe_cg wn.1.1 (fun u u0 u1 => ?_) (hF.2 g hg.1 hg.2)⟩, ?_⟩
    · try dsimp only
      rw [decide_eq_true u1, Bool.true_and]
      cases ec : qDl T N G u with
      | true => rw [Bool.true_and]
      | false => rw [b9 β hF u u0 u1 ec, decide_eq_false (by omega)]; rfl
    · rw [qSc_v wn.1.1 (b9 β hF), hv]
  · intro a ha
    let e : Int → Int := qmx (fun t => !qDl T N G t) 9 a
    have en : ∀ t, qDl T N G t = true → e t = a t := fun t ht => qmx_n (by rw [ht]; rfl)
    have e9 : ∀ t, qDl T N G t = false → e t = 9 := fun t ht => qmx_y (by rw [ht]; rfl)
    have hFe : qFq T P N G nT nH nT e := by
      refine ⟨fun u u0 u1 => ?_, fun g g0 g1 => qFe_cg wn.1.1 (fun u u0 u1 => ?_) (ha.2 g ⟨g0, g1⟩)⟩
      · cases ec : qDl T N G u with
        | false => exact Or.inl (e9 u ec)
        | true =>
          rw [en u ec]
          exact (ha.1 u u0 u1 ec).imp id (fun h => ⟨rfl, h.1, h.2⟩)
      · try dsimp only
        rw [decide_eq_true u1, Bool.true_and]
        cases ec : qDl T N G u with
        | true => rw [en u ec, Bool.true_and]
        | false => rw [e9 u ec, Bool.false_and, decide_eq_false (show ¬ (9 : Int) = g by omega)]
    have hs : qSc (qVa T) (qWt nT) nT (qDl T N G) a = qSc (qVa T) (qWt nT) nT (qDl T N G) e := qSc_cg (fun _ _ _ => rfl) (fun u _ _ hu => (en u hu).symm)
    rw [hs, qSc_v wn.1.1 (b9 e hFe)]
    have hEb := qDw (χ := qDl T N G) hW (fun u u0 u1 _ => qFq_d wn.2.1.2 hFe u u0 u1)
    have x1 := qhX_sp wn.1.1 wn.1.2 (b9 β hF)
    have x2 := qhX_sp wn.1.1 wn.1.2 (b9 e hFe)
    rcases hd e hFe with h | h
    · omega
    · omega
theorem qDg_e (hW : qWF nT nH T P E U N) (hF : qFq T P N G nT nH nT β) (hv : qvA T β nT = M) (hd : ∀ e, qFq T P N G nT nH nT e → qdo T nT M (qhX β nT) e) : (qDg T P N G nT nH + 999999) / 1000000 = M ∧ ((qDg T P N G nT nH + 999999) / 1000000 * 1000000 - qDg T P N G nT nH) + 9 * qsB (fun u => !qDl T N G u) (qWt nT) nT = qhX β nT := by
  have wn := qw_n hW
  have hz := qBz_e (qFq_bt hW hF hv hd)
  have hDb := qDw (χ := qDl T N G) hW (fun u u0 u1 _ => qFq_d wn.2.1.2 hF u u0 u1)
  have x1 := qhX_sp (χ := qDl T N G) wn.1.1 wn.1.2 (fun t t0 t1 hc => by
    rcases hF.1 t t0 t1 with h | h
    · exact h
    · rw [hc] at h; exact absurd h.1 (by simp))
  unfold qDg
  rw [hz, x1]
  omega
end DGP
