/-! B: begin of the model -/
def qBfz (a : Nat) (k : Int) : Prop := qBf a k ∨ (a = 120 ∧ k = 0)
section MB3
variable {xs : List Int32} {d : Nat} {Q : bPo} {b b0 b1 b2 : Bool} {m : Nat → Int → Int} {nT nH : Int} {T P E U N : Int → Int} {t s h k : Int}
variable {y w : Int} {m' : Nat → Int → Int}
theorem d_begin (hW : qWF nT nH T P E U N) (hM : qMR m nT nH T P E U N) (hz : ∀ g, 0 ≤ g → g < 6 → m 142 g = 0) (x1 : inR y) (x2 : inR w) (hQ : ∀ m', qFr qBfz m m' → (∀ g, 0 ≤ g → g < 6 → m' 142 g = 0) → Q (qPbg T P N nT nH y w) ((b0, b1, b2), m')) : bC xs 244 253 [vr 120, vi y, vi w] ((b0, b1, b2), m) Q := by
  have wn := qw_n hW
  refine qC rfl fun d hd => r_X12_begin_0 hd ?_
  rw [hM.1]
  have f0 : qFr qBfz m (up m 120 0 0) := qFr_up qFr.refl (Or.inr ⟨rfl, rfl⟩)
  have hz0 : ∀ g, 0 ≤ g → g < 6 → up m 120 0 0 142 g = 0 := fun g a c => by rw [qup_n (by omega)]; exact hz g a c
  unfold qPbg at hQ
  have hno : ¬ (0 < nT ∧ (0 ≤ y ∧ y ≤ 12) ∧ 0 ≤ w ∧ w ≤ 1) → Q (-1) ((b0, b1, b2), up m 120 0 0) := fun hn => by
    have := hQ _ f0 hz0
    rw [if_neg hn] at this
    exact this
  refine ⟨by omega, fun e => hno (by omega), fun e => ⟨x1, by omega, fun e2 => hno (by omega), fun y0 => ⟨by omega, fun e2 => hno (by omega), fun y1 => ⟨x2, by omega, fun e2 => hno (by omega), fun w0 => ⟨by omega, fun e2 => hno (by omega), fun w1 => ?_⟩⟩⟩⟩⟩
  rw [if_pos ⟨by omega, ⟨y0, y1⟩, w0, w1⟩] at hQ
  have f1 : qFr qBfz m (up (up m 120 0 0) 120 49 (-1)) := qFr_up f0 (by unfold qBfz qBf; omega)
  have hM1 : qMR (up (up m 120 0 0) 120 49 (-1)) nT nH T P E U N := hM.fr ⟨f1 120 26 (by unfold qBfz qBf; omega), f1 120 27 (by unfold qBfz qBf; omega)⟩ (qFr_at f1 125 (fun k => by unfold qBfz qBf; omega)) (qFr_at f1 127 (fun k => by unfold qBfz qBf; omega)) (qFr_at f1 129 (fun k => by unfold qBfz qBf; omega)) (qFr_at f1 131 (fun k => by unfold qBfz qBf; omega)) (qFr_at f1 135 (fun k => by unfold qBfz qBf; omega))
  refine qC rfl fun d2 hd2 => ?_
  have c0 : qcpp P N ((up (up m 120 0 0) 120 49 (-1)) 143) 0 = 0 := qsB_0
  have := d_goBegin (xs := xs) (b0 := b0) (b1 := b1) (b2 := b2) hW hM1 y0 y1 nT.toNat 0 d2 (up (up m 120 0 0) 120 49 (-1)) (fun z1 μ2 => (μ2.1 = (b0, b1, b2)) ∧ (inR w ∧ ((¬ w = 1 → (bGo xs d aM_X12_begin 62 [vr 120, vn, vn, vi 0, vi 0] [] ((b0, b1, b2), μ2.2) Q)) ∧ (w = 1 → (Q (μ2.2 120 49) ((b0, b1, b2), μ2.2)))))) (by omega) (by omega) (by omega) qFr.refl (fun g a c => by rw [qup_n (by omega)]; exact hz0 g a c) (by rw [qup_s]; omega) (fun u a c => by omega) (by rw [c0]; exact y0) (Or.inl qup_s) (fun m' f' z' b' x' g' d' => ⟨rfl, x2, ?_⟩)
  · rw [c0, Int.sub_zero] at this
    exact this
  · have fr : qFr qBfz m m' := f1.trans (f'.mono (fun a k h => Or.inl h))
    have hM2 := hM1.bf f'
    -- nothing begun is a plan
    have hv0 : qVd T N (fun _ => 0) nT := fun u u0 u1 => ⟨fun _ => ⟨Int.le_refl _, (qlf_bd hW u0 u1).1⟩, fun _ => rfl⟩
    have hp0 : qPn T P N (fun _ => 0) (qlf T N) nT y (qhA nH) (qOpn N) (fun _ => 0) (fun _ => 9) := by
      refine ⟨fun t t0 t1 _ => ⟨⟨Int.le_refl _, (qlf_bd hW t0 t1).1⟩, Or.inl rfl⟩, ?_, fun h hh => qFe_e (fun u _ _ => ?_)⟩
      · rw [qsB_cg (χ' := qOpn N) (g := fun _ => 0) (fun _ _ _ => rfl) (fun u _ _ _ => qcs_0)]
        have := qsB_ub (χ := qOpn N) (f := fun _ => (0 : Int)) (c := 0) (by omega) nT wn.1.1 (fun _ _ _ _ => by omega)
        omega
      · have hh2 : 0 ≤ h ∧ h < nH := hh
        rw [decide_eq_false (show ¬ (9 : Int) = h by omega), Bool.and_false]
    have hd0 := d' _ hv0 (fun u a c => by omega) _ hp0
    have hvn := qPv_nn (χ := qOpn N) (g := fun _ => 0) (a := fun _ => 9) hW
    rw [qup_s] at g'
    rcases g' with ⟨e1, _⟩ | ⟨e1, gd, _⟩
    · omega
    · have dom : ∀ g, qVd T N g nT → qdpl T P N nT nH y (m' 120 49) (qhX (m' 144) nT) g := fun g hg => d' g hg (fun u a c => by omega)
      have vd : ∀ g, qGd T P N nT nH y (m' 120 49) g → qVd T N g nT := fun g hg u u0 u1 => by
        obtain ⟨⟨a, hp, _⟩, h0⟩ := hg
        exact ⟨fun ho => (hp.1 u u0 u1 (qOpn_t.mpr ho)).1, fun ho => h0 u u0 u1 ho⟩
      have hZ : qBm2 T P N nT nH y (m' 120 49) := by
        obtain ⟨⟨a, hp, ev⟩, _⟩ := gd
        refine ⟨by omega, Or.inr ⟨_, a, hp, ev⟩, fun g a2 hp2 => ?_⟩
        have cg : ∀ u, 0 ≤ u → u < nT → qOpn N u = true → g u = qmg (qOpn N) g (fun _ => 0) u ∧ a2 u = a2 u := fun u _ _ hu => ⟨(qmg_y hu).symm, rfl⟩
        have hp3 := qPn_cg wn.1.1 (fun _ _ _ => rfl) cg hp2
        have hvd : qVd T N (qmg (qOpn N) g (fun _ => 0)) nT := fun u u0 u1 => by
          refine ⟨fun ho => ?_, fun ho => qmg_n (Bool.eq_false_iff.mpr (fun h => ho (qOpn_t.mp h)))⟩
          exact (hp3.1 u u0 u1 (qOpn_t.mpr ho)).1
        have := dom _ hvd a2 hp3
        rw [← qPv_cg (χ := qOpn N) (fun _ _ _ => rfl) cg] at this
        rcases this with h | h <;> omega
      have hD : qBd T P N nT nH y (m' 120 49) (qhX (m' 144) nT) := by
        refine ⟨⟨_, gd, rfl⟩, fun g hg => ?_⟩
        have hvd := vd g hg
        obtain ⟨⟨a, hp, ev⟩, _⟩ := hg
        rcases dom g hvd a hp with h | h
        · omega
        · exact h.2
      rw [qBgZ_e hW hZ, qBgD_e hW hZ hD] at hQ
      refine ⟨fun e3 => ?_, fun e3 => ?_⟩
      · rw [if_neg e3] at hQ
        dsimp only
        suffices H : ∀ t, t ≤ nT → 0 ≤ t → bGo xs d aM_X12_begin 62 [vr 120, vn, vn, vi (qhX (m' 144) t), vi t] [] ((b0, b1, b2), m') Q by
          have := H 0 wn.1.1 (by omega)
          rw [show qhX (m' 144) 0 = 0 by unfold qhX; rw [qfold_ge (by omega)]] at this
          exact this
        refine qUpto ?_
        intro t ht ih t0
        refine r_X12_begin_62 hd ?_
        rw [hM2.1]
        refine ⟨by omega, by omega, fun h => by rw [show t = nT by omega]; exact hQ m' fr z', fun h => ⟨by omega, ?_⟩⟩
        have := ih h (by omega)
        rw [qhX_s t0] at this
        exact this
      · rw [if_pos e3] at hQ
        exact hQ m' fr z'
end MB3
