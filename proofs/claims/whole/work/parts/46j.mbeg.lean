/-! B: the model begins: what one choice is worth -/
/-- what is complete -/
def qcm (T N g : Int → Int) : Int → Bool := fun u => qOpn N u && decide (g u = qlf T N u)
def qVd (T N g : Int → Int) (t : Int) : Prop := ∀ u, 0 ≤ u → u < t → (N (6 * u + 2) = 0 → 0 ≤ g u ∧ g u ≤ qlf T N u) ∧ (¬ N (6 * u + 2) = 0 → g u = 0)
section MBG
variable {T P E U N g g' a β γ : Int → Int} {nT nH y M X t : Int}
theorem qVd_G (hW : qWF nT nH T P E U N) (hv : qVd T N g nT) : qGok T (qGz2 N g) nT := fun t t0 t1 => by
  have wd := qw_dn hW t0 t1
  have h := hv t t0 t1
  unfold qGz2
  by_cases e : N (6 * t + 2) = 0
  · have := h.1 e
    unfold qlf at this
    omega
  · rw [h.2 e]; omega
theorem qDl_g (hv : qVd T N g nT) (t0 : 0 ≤ t) (t1 : t < nT) : qDl T N (qGz2 N g) t = true ↔ (N (6 * t + 2) = 0 ∧ g t < qlf T N t) := by
  unfold qDl qGz2 qlf
  rw [decide_eq_true_eq]
  constructor
  · intro h; exact ⟨h.1, by omega⟩
  · intro h; exact ⟨h.1, by omega⟩
/-- a plan's worth: what is complete, what is dealt -/
theorem qPv_sp (hn : 0 ≤ nT) (ha : ∀ t, 0 ≤ t → t < nT → a t = 9 ∨ (qOpn N t = true ∧ g t < qlf T N t)) : qPv T N nT (qOpn N) g a = qsB (qcm T N g) (qVa T) nT + qvA T a nT := by
  unfold qPv qvA
  rw [qsB_sp (χ := qOpn N) (p := fun u => decide (g u = qlf T N u)) nT hn]
  congr 1
  · refine qsB_cg (fun _ _ _ => rfl) (fun u u0 u1 hu => ?_)
    rw [Bool.and_eq_true, decide_eq_true_eq] at hu
    rw [if_neg (fun h => h.2 hu.2)]
    rfl
  · have h1 : qsB (fun u => qOpn N u && !decide (g u = qlf T N u)) (fun t => if a t = 9 ∧ ¬ g t = qlf T N t then 0 else T (4 * t)) nT = qsB (fun u => qOpn N u && !decide (g u = qlf T N u)) (fun t => if a t = 9 then 0 else T (4 * t)) nT := by
      refine qsB_cg (fun _ _ _ => rfl) (fun u u0 u1 hu => ?_)
      rw [Bool.and_eq_true, Bool.not_eq_true', decide_eq_false_iff_not] at hu
      by_cases e : a u = 9
      · rw [if_pos ⟨e, hu.2⟩, if_pos e]
      · rw [if_neg (fun h => e h.1), if_neg e]
    rw [h1, qsB_sp (χ := fun u => qOpn N u && !decide (g u = qlf T N u)) (p := fun u => !decide (a u = 9)) nT hn]
    have h2 : qsB (fun u => (qOpn N u && !decide (g u = qlf T N u)) && !decide (a u = 9)) (fun t => if a t = 9 then 0 else T (4 * t)) nT = qsB (fun u => !decide (a u = 9)) (qVa T) nT := by
      refine qsB_cg (fun u u0 u1 => ?_) (fun u u0 u1 hu => ?_)
      · rcases ha u u0 u1 with e | ⟨e1, e2⟩
        · rw [decide_eq_true e, Bool.not_true, Bool.and_false]
        · rw [e1, decide_eq_false (show ¬ g u = qlf T N u by omega)]; rfl
      · rw [Bool.and_eq_true, Bool.not_eq_true', decide_eq_false_iff_not] at hu
        rw [if_neg hu.2]
        rfl
    have h3 : qsB (fun u => (qOpn N u && !decide (g u = qlf T N u)) && !!decide (a u = 9)) (fun t => if a t = 9 then 0 else T (4 * t)) nT = 0 := by
      rw [qsB_cg (g := fun _ => 0) (χ' := fun u => (qOpn N u && !decide (g u = qlf T N u)) && !!decide (a u = 9)) (fun _ _ _ => rfl) (fun u u0 u1 hu => by
        rw [Bool.and_eq_true, Bool.not_not, decide_eq_true_eq] at hu
        rw [if_pos hu.2])]
      have b1 := qsB_nn (χ := fun u => (qOpn N u && !decide (g u = qlf T N u)) && !!decide (a u = 9)) (f := fun _ => (0 : Int)) nT hn (fun _ _ _ _ => by omega)
      have b2 := qsB_ub (χ := fun u => (qOpn N u && !decide (g u = qlf T N u)) && !!decide (a u = 9)) (f := fun _ => (0 : Int)) (c := 0) (by omega) nT hn (fun _ _ _ _ => by omega)
      omega
    rw [h2, h3, Int.add_zero]
/-- what the best dealing of a choice says of plans -/
theorem qLd (hW : qWF nT nH T P E U N) (hv : qVd T N g nT) (hF : qFq T P N (qGz2 N g) nT nH nT β) (hM : qvA T β nT = M) (hd : ∀ e, qFq T P N (qGz2 N g) nT nH nT e → qdo T nT M X e) : (∀ c, qsB (qOpn N) (fun t => qcs P N t (g t)) nT ≤ c → ∃ a, qPn T P N (fun _ => 0) (qlf T N) nT c (qhA nH) (qOpn N) g a ∧ qPv T N nT (qOpn N) g a = qsB (qcm T N g) (qVa T) nT + M) ∧ ∀ c a, qPn T P N (fun _ => 0) (qlf T N) nT c (qhA nH) (qOpn N) g a → qPv T N nT (qOpn N) g a ≤ qsB (qcm T N g) (qVa T) nT + M := by
  have wn := qw_n hW
  constructor
  · intro c hc
    have b9 : ∀ t, 0 ≤ t → t < nT → β t = 9 ∨ ((qOpn N t = true ∧ g t < qlf T N t) ∧ 0 ≤ β t ∧ β t < nH) := fun t t0 t1 => (hF.1 t t0 t1).imp id (fun h => ⟨⟨qOpn_t.mpr ((qDl_g hv t0 t1).mp h.1).1, ((qDl_g hv t0 t1).mp h.1).2⟩, h.2⟩)
    refine ⟨β, ⟨fun t t0 t1 ht => ⟨?_, ?_⟩, hc, fun h hh => qFe_cg wn.1.1 (fun u u0 u1 => ?_) (hF.2 h hh.1 hh.2)⟩, ?_⟩
    · exact (hv t t0 t1).1 (qOpn_t.mp ht)
    · exact (b9 t t0 t1).imp id (fun h => ⟨h.2, h.1.2⟩)
    · try dsimp only
      rw [decide_eq_true u1, Bool.true_and]
      rcases b9 u u0 u1 with e | e
      · have h2 : 0 ≤ h ∧ h < nH := hh
        rw [e, decide_eq_false (show ¬ (9 : Int) = h by omega), Bool.and_false]
      · rw [e.1.1, Bool.true_and]
    · rw [qPv_sp wn.1.1 (fun t t0 t1 => (b9 t t0 t1).imp id (fun h => h.1)), hM]
  · intro c a hp
    have e9 : ∀ t, qOpn N t = false → qmx (fun t => !qOpn N t) 9 a t = 9 := fun t ht => qmx_y (by rw [ht]; rfl)
    have en : ∀ t, qOpn N t = true → qmx (fun t => !qOpn N t) 9 a t = a t := fun t ht => qmx_n (by rw [ht]; rfl)
    have ha : ∀ t, 0 ≤ t → t < nT → qmx (fun t => !qOpn N t) 9 a t = 9 ∨ (qOpn N t = true ∧ g t < qlf T N t) := fun t t0 t1 => by
      cases eo : qOpn N t with
      | false => exact Or.inl (e9 t eo)
      | true => rw [en t eo]; exact (hp.1 t t0 t1 eo).2.imp id (fun h => ⟨rfl, h.2⟩)
    have hFe : qFq T P N (qGz2 N g) nT nH nT (qmx (fun t => !qOpn N t) 9 a) := by
      refine ⟨fun u u0 u1 => ?_, fun h h0 h1 => qFe_cg wn.1.1 (fun u u0 u1 => ?_) (hp.2.2 h ⟨h0, h1⟩)⟩
      · cases eo : qOpn N u with
        | false => exact Or.inl (e9 u eo)
        | true =>
          rw [en u eo]
          exact (hp.1 u u0 u1 eo).2.imp id (fun h => ⟨(qDl_g hv u0 u1).mpr ⟨qOpn_t.mp eo, h.2⟩, h.1.1, h.1.2⟩)
      · try dsimp only
        rw [decide_eq_true u1, Bool.true_and]
        cases eo : qOpn N u with
        | true => rw [en u eo, Bool.true_and]
        | false => rw [e9 u eo, Bool.false_and, decide_eq_false (show ¬ (9 : Int) = h by omega)]
    have hv2 : qPv T N nT (qOpn N) g a = qPv T N nT (qOpn N) g (qmx (fun t => !qOpn N t) 9 a) := qPv_cg (fun _ _ _ => rfl) (fun u _ _ hu => ⟨rfl, (en u hu).symm⟩)
    rw [hv2, qPv_sp wn.1.1 ha]
    rcases hd _ hFe with h | h <;> omega
end MBG
