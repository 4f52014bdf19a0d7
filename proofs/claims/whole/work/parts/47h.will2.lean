/-! A WILL IS TAKEN: both sides -/
def qFwc (w : Nat) (a : Nat) (k : Int) : Prop := qFrd w a k ∨ (a = 0 ∧ k = 12) ∨ (a = 32 ∧ k = 3) ∨ (a = 36 ∧ (k = 3 ∨ k = 4)) ∨ (a = 1 ∧ k = 1)
section CSV
variable {xs : List Int32} {d : Nat} {Q : bPo} {b b0 b1 b2 : Bool} {m : Nat → Int → Int} {nT nH : Int} {T P E U N : Int → Int} {t s h k : Int}
variable {D : qD} {m1 m2 : Nat → Int → Int} {x : Int} {σ : qSt}
theorem qIC.will (hI : qIC D b0 b1 m) (f : qFr (qFwc (bW b1)) m m1) (h1 : m1 0 12 = -1) (h2 : m1 32 3 = 0) (h3 : m1 36 3 = 0) (h4 : m1 36 4 = 0) (h5 : m1 1 1 = 0) (h6 : m1 (bW b1) 11 = σ 0 11) (hE : qER m1 (bW b1) (σ 0 9) (σ 0 10) (m2 125) (m2 127) (m2 129) (m2 131) (m2 135)) : qIC (D.uWill (σ 0 9) (σ 0 10) (m2 125) (m2 127) (m2 129) (m2 131) (m2 135) (σ 0 11) 0 0 0 (-1) 0) b1 b0 m1 := by
  obtain ⟨z0, _, z2, z3, z4, z5, z6, z7, z8, z9⟩ := hI
  have hw := qW b1
  have A : ∀ a, a ≠ 0 → a ≠ 32 → a ≠ 36 → a ≠ 1 → a < 100 → m1 a = m a := fun a a1 a2 a3 a4 a5 => qFr_at f a (fun k h2 => by unfold qFwc qFrd at h2; omega)
  have f2 : m1 36 2 = m 36 2 := f 36 2 (fun h2 => by unfold qFwc qFrd at h2; omega)
  refine ⟨by subst z0; cases b0 <;> rfl, hE, h6, ⟨h5, fun k k0 k1 => ?_⟩, ⟨h3, ?_, ?_, fun j j0 j1 => ?_⟩, ⟨h4, fun h => ?_⟩, ⟨h2, fun k k0 k1 => ?_⟩, ?_, ?_, h1⟩
  · have k1 : k < 0 := k1
    omega
  · rw [f2]
    exact z4.2.1
  · show (0 : Int) ≤ 0 ∧ (0 : Int) ≤ 40
    omega
  · have j1 : j < 0 := j1
    omega
  · have h : (0 : Int) = 1 := h
    omega
  · have k1 : k < 0 := k1
    omega
  · show qBc m1 D.r D.bl D.bs
    unfold qBc
    rw [A 24 (by omega) (by omega) (by omega) (by omega) (by omega), A 31 (by omega) (by omega) (by omega) (by omega) (by omega), A 25 (by omega) (by omega) (by omega) (by omega) (by omega)]
    exact z7
  · exact z8.fr (by rw [A 6 (by omega) (by omega) (by omega) (by omega) (by omega)]) (A 14 (by omega) (by omega) (by omega) (by omega) (by omega)) (A 7 (by omega) (by omega) (by omega) (by omega) (by omega)) (A 17 (by omega) (by omega) (by omega) (by omega) (by omega))
theorem qIM.will (hp : qIP D) (hI : qIM D m1) (f : qFr qFtw m1 m2) (hk : qWkm m2 σ) : qIM (D.uWill (σ 0 9) (σ 0 10) (m2 125) (m2 127) (m2 129) (m2 131) (m2 135) (σ 0 11) 0 0 0 (-1) 0) m2 := by
  obtain ⟨_, z2, z3, z4, z5, z6, z7, z8, z9, za, zb⟩ := hI
  obtain ⟨k1, k2, k3, k4, k5, k6, k7, k8, k9⟩ := hk
  have A : ∀ a, 121 ≤ a → a ≠ 126 → a ≠ 128 → a ≠ 130 → a ≠ 132 → a ≠ 133 → a ≠ 134 → a ≠ 125 → a ≠ 127 → a ≠ 129 → a ≠ 131 → a ≠ 135 → m2 a = m1 a := fun a _ _ _ _ _ _ _ _ _ _ _ _ => qFr_at f a (fun k h2 => by unfold qFtw qFfm qFwm at h2; omega)
  refine ⟨⟨k5.1, k5.2.1, rfl, rfl, rfl, rfl, rfl⟩, k5.2.2, ⟨k9.2.2.2.2, fun k k0 k1 => ?_⟩, ⟨k9.2.2.1, fun j i j0 j1 => ?_⟩, ⟨k9.2.2.2.1, ?_⟩, ⟨k9.2.1, ?_, ?_, ?_⟩, ⟨?_, fun b g0 g1 => ?_⟩, ?_, k9.1, ?_, ?_⟩
  · have k1 : k < 0 := k1
    omega
  · have j1 : j < 0 := j1
    omega
  · exact (A 149 (by omega) (by omega) (by omega) (by omega) (by omega) (by omega) (by omega) (by omega) (by omega) (by omega) (by omega) (by omega)).trans z5.2
  · exact (A 146 (by omega) (by omega) (by omega) (by omega) (by omega) (by omega) (by omega) (by omega) (by omega) (by omega) (by omega) (by omega)).trans z6.2.1
  · exact (A 147 (by omega) (by omega) (by omega) (by omega) (by omega) (by omega) (by omega) (by omega) (by omega) (by omega) (by omega) (by omega)).trans z6.2.2.1
  · exact (A 148 (by omega) (by omega) (by omega) (by omega) (by omega) (by omega) (by omega) (by omega) (by omega) (by omega) (by omega) (by omega)).trans z6.2.2.2
  · exact (f 120 34 (fun h2 => by unfold qFtw qFfm qFwm at h2; omega)).trans z7.1
  · have g1 : b < D.r := g1
    obtain ⟨x1, x2⟩ := z7.2 b g0 g1
    have x3 := (hp.2.2.2.1).2 b g0 g1
    have x4 := x3.1
    have x5 := (hp.2.2.2.1).1
    refine ⟨(f 134 b (fun h2 => by unfold qFtw qFfm qFwm at h2; omega)).trans x1, fun i i0 i1 => ?_⟩
    have i1 : i < D.bl b := i1
    exact (f 133 _ (fun h2 => by unfold qFtw qFfm qFwm at h2; omega)).trans (x2 i i0 i1)
  · exact z8.fr (f 120 7 (fun h2 => by unfold qFtw qFfm qFwm at h2; omega)) (A 123 (by omega) (by omega) (by omega) (by omega) (by omega) (by omega) (by omega) (by omega) (by omega) (by omega) (by omega) (by omega)) (A 122 (by omega) (by omega) (by omega) (by omega) (by omega) (by omega) (by omega) (by omega) (by omega) (by omega) (by omega) (by omega))
  · rw [A 124 (by omega) (by omega) (by omega) (by omega) (by omega) (by omega) (by omega) (by omega) (by omega) (by omega) (by omega) (by omega)]
    exact za
  · rw [A 142 (by omega) (by omega) (by omega) (by omega) (by omega) (by omega) (by omega) (by omega) (by omega) (by omega) (by omega) (by omega)]
    exact zb
/-- the reference takes the will that the class took -/
theorem d_textWw (hp : qIP D) (hC : qIC D b0 b1 m) (hM : qIM D m) (σ0 : qSt) (r0 : qRl σ0) (mo : qMo0 m σ0) (ok : (qWL D.B D.L 240 σ0 0).1 = -1) (f0 : qFr (qFrd (bW b1)) m m1) (hs : qCs m1 (bW b1) (qWL D.B D.L 240 σ0 0).2) (hQ : ∀ b2q m3, qINV ((b1, b0, b2q), m3) → Q ((qWL D.B D.L 240 σ0 0).2 0 9) ((b1, b0, b2q), m3)) : bC xs 251 207 [vr 120, vi 0] ((b1, b0, b2), up (up (up (up (up m1 0 12 (-1)) 32 3 0) 36 3 0) 36 4 0) 1 1 0) Q := by
  obtain ⟨m2, e2⟩ : ∃ m2, m2 = up (up (up (up (up m1 0 12 (-1)) 32 3 0) 36 3 0) 36 4 0) 1 1 0 := ⟨_, rfl⟩
  rw [← e2]
  have hw := qW b1
  have f1 : qFr (qFwc (bW b1)) m m2 := by
    rw [e2]
    exact qFr_up (qFr_up (qFr_up (qFr_up (qFr_up (f0.mono (fun a k h => Or.inl h)) (by unfold qFwc; omega)) (by unfold qFwc; omega)) (by unfold qFwc; omega)) (by unfold qFwc; omega)) (by unfold qFwc; omega)
  have hM2 : qIM D m2 := hM.lo hp f1 (fun a k h2 => by unfold qFwc qFrd at h2; omega)
  have A : ∀ a, 120 ≤ a → m2 a = m a := fun a ha => qFr_at f1 a (fun k h2 => by unfold qFwc qFrd at h2; omega)
  have mo2 : qMo0 m2 σ0 := mo.fr (A 126 (by omega)) (A 128 (by omega)) (A 130 (by omega)) (A 132 (by omega))
  have hb := hp.2.1.1
  have hs2 : qCs m2 (bW b1) (qWL D.B D.L 240 σ0 0).2 := by
    intro i hi
    rw [e2, qup_n (by omega), qup_n (by omega), qup_n (by omega), qup_n (by omega), qup_n (by omega)]
    exact hs i hi
  have c1 : m2 0 12 = -1 := by rw [e2, qup_n (by omega), qup_n (by omega), qup_n (by omega), qup_n (by omega), qup_s]
  have c2 : m2 32 3 = 0 := by rw [e2, qup_n (by omega), qup_n (by omega), qup_n (by omega), qup_s]
  have c3 : m2 36 3 = 0 := by rw [e2, qup_n (by omega), qup_o (by omega), qup_s]
  have c4 : m2 36 4 = 0 := by rw [e2, qup_n (by omega), qup_s]
  have c5 : m2 1 1 = 0 := by rw [e2, qup_s]
  have hr := qWL_rl hp.2.1 240 σ0 0 (by omega) hb.1 r0 ok
  have hwf := qWL_wh hp.2.1 240 σ0 0 (by omega) hb.1 ok
  refine d_text0 hp.2.1 hM2.2.2.1 σ0 r0 mo2 (fun b2q m3 _ h => absurd ok h) (fun _ m3 f3 k3 => hQ _ _ ?_)
  have wf := qWF_will hr hwf hb.1 k3
  have er := qER_will hr hwf hb.1 k3 hs2
  have hp2 : qIP (D.uWill ((qWL D.B D.L 240 σ0 0).2 0 9) ((qWL D.B D.L 240 σ0 0).2 0 10) (m3 125) (m3 127) (m3 129) (m3 131) (m3 135) ((qWL D.B D.L 240 σ0 0).2 0 11) 0 0 0 (-1) 0) := ⟨wf, ⟨by show (0 : Int) ≤ 0 ∧ (0 : Int) ≤ 240; omega, fun k k0 k1 => by have k1 : k < 0 := k1; omega⟩, ⟨by show (0 : Int) ≤ 0 ∧ (0 : Int) ≤ 12; omega, fun k k0 k1 => by have k1 : k < 0 := k1; omega⟩, hp.2.2.2.1, hp.2.2.2.2.1, by show (-1 : Int) ≤ -1 ∧ -1 < D.nL; have := hp.2.2.2.2.1.1; omega, Or.inl rfl⟩
  have e0 : m2 (bW b1) = (qWL D.B D.L 240 σ0 0).2 0 := hs2 0 (by omega)
  have hC2 := qIC.will (σ := (qWL D.B D.L 240 σ0 0).2) (m2 := m3) hC f1 c1 c2 c3 c4 c5 (by rw [e0]) er
  exact ⟨_, hp2, hC2.hi hp2 f3 (fun a k h2 => by unfold qFtw qFfm qFwm at h2; omega), qIM.will hp hM2 f3 k3⟩
end CSV
