/-! A LAW, A BEGINNING IS TAKEN -/
def qFlw (l : Int) (a : Nat) (k : Int) : Prop := qFtl l a k ∨ (a = 1 ∧ k = 1)
def qFlm (n : Int) (a : Nat) (k : Int) : Prop := qFfm a k ∨ (a = 122 ∧ 240 * n ≤ k ∧ k < 240 * n + 240) ∨ (a = 123 ∧ k = n) ∨ (a = 120 ∧ (k = 6 ∨ k = 7))
def qFbc (c : Int) (a : Nat) (k : Int) : Prop := ((a = 1 ∧ (k = 2 ∨ k = 3)) ∨ (a = 25 ∧ c * 1000 ≤ k) ∨ (a = 31 ∧ k = c)) ∨ (a = 24 ∧ k = 2) ∨ (a = 1 ∧ k = 1)
def qFbm (n : Int) (a : Nat) (k : Int) : Prop := qFfm a k ∨ (a = 133 ∧ 12 * n ≤ k ∧ k < 12 * n + 12) ∨ (a = 134 ∧ k = n) ∨ (a = 120 ∧ (k = 6 ∨ k = 34))
def qlB1 (D : qD) : Int → Int → Int := fun j => if j = D.nL then D.B else D.lB j
def qlN1 (D : qD) : Int → Int := fun j => if j = D.nL then D.L else D.lN j
def qbl1 (D : qD) : Int → Int := fun j => if j = D.r then (qBrd D.B D.L).2.1 else D.bl j
def qbs1 (D : qD) : Int → Int := fun k => if 12 * D.r ≤ k then (qBrd D.B D.L).2.2 (k - 12 * D.r) else D.bs k
section CSL
variable {xs : List Int32} {d : Nat} {Q : bPo} {b b0 b1 b2 : Bool} {m : Nat → Int → Int} {nT nH : Int} {T P E U N : Int → Int} {t s h k : Int}
variable {D : qD} {m1 m2 : Nat → Int → Int}
theorem qIC.law (hI : qIC D b0 b1 m) (f : qFr (qFlw D.nL) m m1) (t1 : m1 1 1 = 0) (v1 : qVc m1 (D.nL + 1) (qlB1 D) (qlN1 D)) : qIC (D.uLaw (D.nL + 1) (qlB1 D) (qlN1 D) 0) b0 b1 m1 := by
  obtain ⟨z0, ⟨z1, z1q⟩, z2, z3, z4, z5, z6, z7, z8, z9⟩ := hI
  have hw := qW b0
  refine ⟨z0, ?_, ?_, ?_, ?_, ?_, ?_, ?_, ?_, ?_⟩
  · exact ⟨qTo_fr f z1 (fun a k a1 a2 h2 => by unfold qFlw qFtl qLg at h2; omega), by rw [(qFr_at f (bW b0 + 9) (fun k h2 => by unfold qFlw qFtl qLg at h2; omega))]; exact z1q⟩
  · exact (f (bW b0) 11 (fun h2 => by unfold qFlw qFtl qLg at h2; omega)).trans z2
  · exact ⟨t1, fun k k0 k1 => by have k1 : k < 0 := k1; omega⟩
  · exact by show qPc m1 D.nT D.nH D.T D.c D.A; unfold qPc; rw [(f 36 2 (fun h2 => by unfold qFlw qFtl qLg at h2; omega)), (f 36 3 (fun h2 => by unfold qFlw qFtl qLg at h2; omega)), (qFr_at f 37 (fun k h2 => by unfold qFlw qFtl qLg at h2; omega))]; exact z4
  · exact by show m1 36 4 = D.pic ∧ (D.pic = 1 → qLv D.nT D.nH (m1 78) D.G); rw [(f 36 4 (fun h2 => by unfold qFlw qFtl qLg at h2; omega)), (qFr_at f 78 (fun k h2 => by unfold qFlw qFtl qLg at h2; omega))]; exact z5
  · exact by show qEc m1 D.e D.eT D.eH D.eD; unfold qEc; rw [(f 32 3 (fun h2 => by unfold qFlw qFtl qLg at h2; omega)), (qFr_at f 33 (fun k h2 => by unfold qFlw qFtl qLg at h2; omega)), (qFr_at f 34 (fun k h2 => by unfold qFlw qFtl qLg at h2; omega)), (qFr_at f 35 (fun k h2 => by unfold qFlw qFtl qLg at h2; omega))]; exact z6
  · exact by show qBc m1 D.r D.bl D.bs; unfold qBc; rw [(f 24 2 (fun h2 => by unfold qFlw qFtl qLg at h2; omega)), (qFr_at f 31 (fun k h2 => by unfold qFlw qFtl qLg at h2; omega)), (qFr_at f 25 (fun k h2 => by unfold qFlw qFtl qLg at h2; omega))]; exact z7
  · exact v1
  · exact (f 0 12 (fun h2 => by unfold qFlw qFtl qLg at h2; omega)).trans z9
theorem qIM.law (hp : qIP D) (hI : qIM D m) (f : qFr (qFlm D.nL) m m1) (t1 : m1 120 6 = 0) (v1 : qVm m1 (D.nL + 1) (qlB1 D) (qlN1 D)) : qIM (D.uLaw (D.nL + 1) (qlB1 D) (qlN1 D) 0) m1 := by
  obtain ⟨⟨y1, y2, y3, y4, y5, y6, y7⟩, z2, z3, z4, z5, z6, z7, z8, z9, za, zb⟩ := hI
  refine ⟨?_, ?_, ?_, ?_, ?_, ?_, ?_, ?_, ?_, ?_, ?_⟩
  · exact ⟨(f 120 26 (fun h2 => by unfold qFlm qFfm qFwm at h2; omega)).trans y1, (f 120 27 (fun h2 => by unfold qFlm qFfm qFwm at h2; omega)).trans y2, (qFr_at f 125 (fun k h2 => by unfold qFlm qFfm qFwm at h2; omega)).trans y3, (qFr_at f 127 (fun k h2 => by unfold qFlm qFfm qFwm at h2; omega)).trans y4, (qFr_at f 129 (fun k h2 => by unfold qFlm qFfm qFwm at h2; omega)).trans y5, (qFr_at f 131 (fun k h2 => by unfold qFlm qFfm qFwm at h2; omega)).trans y6, (qFr_at f 135 (fun k h2 => by unfold qFlm qFfm qFwm at h2; omega)).trans y7⟩
  · exact (f 120 28 (fun h2 => by unfold qFlm qFfm qFwm at h2; omega)).trans z2
  · exact ⟨t1, fun k k0 k1 => by have k1 : k < 0 := k1; omega⟩
  · exact by show qPm m1 D.c D.A; unfold qPm; rw [(f 120 38 (fun h2 => by unfold qFlm qFfm qFwm at h2; omega)), (qFr_at f 136 (fun k h2 => by unfold qFlm qFfm qFwm at h2; omega))]; exact z4
  · exact ⟨(f 120 59 (fun h2 => by unfold qFlm qFfm qFwm at h2; omega)).trans z5.1, (qFr_at f 149 (fun k h2 => by unfold qFlm qFfm qFwm at h2; omega)).trans z5.2⟩
  · exact by show qEm m1 D.e D.eT D.eH D.eD; unfold qEm; rw [(f 120 57 (fun h2 => by unfold qFlm qFfm qFwm at h2; omega)), (qFr_at f 146 (fun k h2 => by unfold qFlm qFfm qFwm at h2; omega)), (qFr_at f 147 (fun k h2 => by unfold qFlm qFfm qFwm at h2; omega)), (qFr_at f 148 (fun k h2 => by unfold qFlm qFfm qFwm at h2; omega))]; exact z6
  · exact by exact ⟨(f 120 34 (fun h2 => by unfold qFlm qFfm qFwm at h2; omega)).trans z7.1, fun b g0 g1 => ⟨(f 134 b (fun h2 => by have g1 : b < D.r := g1; have x5 := (hp.2.2.2.1).1; unfold qFlm qFfm qFwm at h2; omega)).trans (z7.2 b g0 g1).1, fun i i0 i1 => (f 133 _ (fun h2 => by have g1 : b < D.r := g1; have i1 : i < D.bl b := i1; have x5 := (hp.2.2.2.1).1; have x4 := ((hp.2.2.2.1).2 b g0 g1).1; unfold qFlm qFfm qFwm at h2; omega)).trans ((z7.2 b g0 g1).2 i i0 i1)⟩⟩
  · exact v1
  · exact (f 120 36 (fun h2 => by unfold qFlm qFfm qFwm at h2; omega)).trans z9
  · exact by rw [(qFr_at f 124 (fun k h2 => by unfold qFlm qFfm qFwm at h2; omega))]; exact za
  · exact by rw [(qFr_at f 142 (fun k h2 => by unfold qFlm qFfm qFwm at h2; omega))]; exact zb
theorem qIC.begn (hI : qIC D b0 b1 m) (f : qFr (qFbc D.r) m m1) (t1 : m1 1 1 = 0) (v1 : qBc m1 (D.r + 1) (qbl1 D) (qbs1 D)) : qIC (D.uBeg (D.r + 1) (qbl1 D) (qbs1 D) 0) b0 b1 m1 := by
  obtain ⟨z0, ⟨z1, z1q⟩, z2, z3, z4, z5, z6, z7, z8, z9⟩ := hI
  have hw := qW b0
  refine ⟨z0, ?_, ?_, ?_, ?_, ?_, ?_, ?_, ?_, ?_⟩
  · exact ⟨qTo_fr f z1 (fun a k a1 a2 h2 => by unfold qFbc at h2; omega), by rw [(qFr_at f (bW b0 + 9) (fun k h2 => by unfold qFbc at h2; omega))]; exact z1q⟩
  · exact (f (bW b0) 11 (fun h2 => by unfold qFbc at h2; omega)).trans z2
  · exact ⟨t1, fun k k0 k1 => by have k1 : k < 0 := k1; omega⟩
  · exact by show qPc m1 D.nT D.nH D.T D.c D.A; unfold qPc; rw [(f 36 2 (fun h2 => by unfold qFbc at h2; omega)), (f 36 3 (fun h2 => by unfold qFbc at h2; omega)), (qFr_at f 37 (fun k h2 => by unfold qFbc at h2; omega))]; exact z4
  · exact by show m1 36 4 = D.pic ∧ (D.pic = 1 → qLv D.nT D.nH (m1 78) D.G); rw [(f 36 4 (fun h2 => by unfold qFbc at h2; omega)), (qFr_at f 78 (fun k h2 => by unfold qFbc at h2; omega))]; exact z5
  · exact by show qEc m1 D.e D.eT D.eH D.eD; unfold qEc; rw [(f 32 3 (fun h2 => by unfold qFbc at h2; omega)), (qFr_at f 33 (fun k h2 => by unfold qFbc at h2; omega)), (qFr_at f 34 (fun k h2 => by unfold qFbc at h2; omega)), (qFr_at f 35 (fun k h2 => by unfold qFbc at h2; omega))]; exact z6
  · exact v1
  · exact z8.fr (f 6 6 (fun h2 => by unfold qFbc at h2; omega)) (qFr_at f 14 (fun k h2 => by unfold qFbc at h2; omega)) (qFr_at f 7 (fun k h2 => by unfold qFbc at h2; omega)) (qFr_at f 17 (fun k h2 => by unfold qFbc at h2; omega))
  · exact (f 0 12 (fun h2 => by unfold qFbc at h2; omega)).trans z9
theorem qIM.begn (hI : qIM D m) (f : qFr (qFbm D.r) m m1) (t1 : m1 120 6 = 0) (v1 : qBm m1 (D.r + 1) (qbl1 D) (qbs1 D)) : qIM (D.uBeg (D.r + 1) (qbl1 D) (qbs1 D) 0) m1 := by
  obtain ⟨⟨y1, y2, y3, y4, y5, y6, y7⟩, z2, z3, z4, z5, z6, z7, z8, z9, za, zb⟩ := hI
  refine ⟨?_, ?_, ?_, ?_, ?_, ?_, ?_, ?_, ?_, ?_, ?_⟩
  · exact ⟨(f 120 26 (fun h2 => by unfold qFbm qFfm qFwm at h2; omega)).trans y1, (f 120 27 (fun h2 => by unfold qFbm qFfm qFwm at h2; omega)).trans y2, (qFr_at f 125 (fun k h2 => by unfold qFbm qFfm qFwm at h2; omega)).trans y3, (qFr_at f 127 (fun k h2 => by unfold qFbm qFfm qFwm at h2; omega)).trans y4, (qFr_at f 129 (fun k h2 => by unfold qFbm qFfm qFwm at h2; omega)).trans y5, (qFr_at f 131 (fun k h2 => by unfold qFbm qFfm qFwm at h2; omega)).trans y6, (qFr_at f 135 (fun k h2 => by unfold qFbm qFfm qFwm at h2; omega)).trans y7⟩
  · exact (f 120 28 (fun h2 => by unfold qFbm qFfm qFwm at h2; omega)).trans z2
  · exact ⟨t1, fun k k0 k1 => by have k1 : k < 0 := k1; omega⟩
  · exact by show qPm m1 D.c D.A; unfold qPm; rw [(f 120 38 (fun h2 => by unfold qFbm qFfm qFwm at h2; omega)), (qFr_at f 136 (fun k h2 => by unfold qFbm qFfm qFwm at h2; omega))]; exact z4
  · exact ⟨(f 120 59 (fun h2 => by unfold qFbm qFfm qFwm at h2; omega)).trans z5.1, (qFr_at f 149 (fun k h2 => by unfold qFbm qFfm qFwm at h2; omega)).trans z5.2⟩
  · exact by show qEm m1 D.e D.eT D.eH D.eD; unfold qEm; rw [(f 120 57 (fun h2 => by unfold qFbm qFfm qFwm at h2; omega)), (qFr_at f 146 (fun k h2 => by unfold qFbm qFfm qFwm at h2; omega)), (qFr_at f 147 (fun k h2 => by unfold qFbm qFfm qFwm at h2; omega)), (qFr_at f 148 (fun k h2 => by unfold qFbm qFfm qFwm at h2; omega))]; exact z6
  · exact v1
  · exact z8.fr (f 120 7 (fun h2 => by unfold qFbm qFfm qFwm at h2; omega)) (qFr_at f 123 (fun k h2 => by unfold qFbm qFfm qFwm at h2; omega)) (qFr_at f 122 (fun k h2 => by unfold qFbm qFfm qFwm at h2; omega))
  · exact (f 120 36 (fun h2 => by unfold qFbm qFfm qFwm at h2; omega)).trans z9
  · exact by rw [(qFr_at f 124 (fun k h2 => by unfold qFbm qFfm qFwm at h2; omega))]; exact za
  · exact by rw [(qFr_at f 142 (fun k h2 => by unfold qFbm qFfm qFwm at h2; omega))]; exact zb
theorem qIP.law (hp : qIP D) (h6 : D.nL < 6) (ok : (qLw D.B D.L 2440 240 0).1 = -1) : qIP (D.uLaw (D.nL + 1) (qlB1 D) (qlN1 D) 0) := by
  refine ⟨hp.1, ⟨by show (0 : Int) ≤ 0 ∧ (0 : Int) ≤ 240; omega, fun k k0 k1 => by have k1 : k < 0 := k1; omega⟩, hp.2.2.1, hp.2.2.2.1, ⟨?_, fun l l0 l1 => ?_⟩, ?_, hp.2.2.2.2.2.2⟩
  · show 0 ≤ D.nL + 1 ∧ D.nL + 1 ≤ 6
    have := hp.2.2.2.2.1.1
    omega
  · have l1 : l < D.nL + 1 := l1
    show qTp (qlN1 D l) (qlB1 D l) ∧ (qLw (qlB1 D l) (qlN1 D l) 2440 240 0).1 = -1
    unfold qlB1 qlN1
    by_cases h : l = D.nL
    · rw [if_pos h, if_pos h]
      exact ⟨hp.2.1, ok⟩
    · rw [if_neg h, if_neg h]
      exact hp.2.2.2.2.1.2 l l0 (by omega)
  · show -1 ≤ D.hold ∧ D.hold < D.nL + 1
    have := hp.2.2.2.2.2.1
    omega
theorem qVc_law (hp : qIP D) (hc : qVc m D.nL D.lB D.lN) (f : qFr (qFlw D.nL) m m1) (e6 : m1 6 6 = D.nL + 1) (e14 : m1 14 D.nL = (qlayL 0 (qLw D.B D.L 2440 240 0).2).length) (e7 : qSeg (fun k => m1 7 (D.nL * 1000 + k)) 0 (qlayL 0 (qLw D.B D.L 2440 240 0).2)) (e17 : ∀ k, 0 ≤ k → k < 160 → m1 17 (D.nL * 1000 + k) = -1) : qVc m1 (D.nL + 1) (qlB1 D) (qlN1 D) := by
  refine ⟨e6, fun l l0 l1 => ?_⟩
  have ez : qVz (qlB1 D) (qlN1 D) l = if l = D.nL then (qLw D.B D.L 2440 240 0).2 else qVz D.lB D.lN l := by
    unfold qVz qlB1 qlN1
    by_cases h : l = D.nL
    · rw [if_pos h, if_pos h, if_pos h]
    · rw [if_neg h, if_neg h, if_neg h]
  by_cases h : l = D.nL
  · rw [if_pos h] at ez
    rw [ez, h]
    exact ⟨e14, e7, fun p a p0 p1 a0 a1 => Or.inl (e17 _ (by omega) (by omega))⟩
  · rw [if_neg h] at ez
    obtain ⟨x1, x2, x3⟩ := hc.2 l l0 (by omega)
    have hlen := (qVs_z hp.2.2.2.2.1 l0 (show l < D.nL by omega) (E := fun _ => 0) (fun i => by unfold qbn; omega)).2
    rw [ez]
    refine ⟨?_, ?_, fun p a p0 p1 a0 a1 => ?_⟩
    · rw [f 14 l (fun h2 => by unfold qFlw qFtl qLg at h2; omega)]
      exact x1
    · refine qSeg_fr _ _ (fun k k0 k1 => ?_) x2
      exact f 7 _ (fun h2 => by unfold qFlw qFtl qLg at h2; omega)
    · have ek : qlk (qlB1 D) (qlN1 D) l p a = qlk D.lB D.lN l p a := by
        unfold qlk qVw
        rw [ez]
      rw [ek, f 17 _ (fun h2 => by unfold qFlw qFtl qLg at h2; omega)]
      exact x3 p a p0 p1 a0 a1
theorem qVm_law (hp : qIP D) (hc : qVm m D.nL D.lB D.lN) (f : qFr (qFlm D.nL) m m1) (e6 : m1 120 7 = D.nL + 1) (e14 : m1 123 D.nL = D.L) (e7 : ∀ k, 0 ≤ k → k < D.L → m1 122 (240 * D.nL + k) = qsb (D.B k)) : qVm m1 (D.nL + 1) (qlB1 D) (qlN1 D) := by
  refine ⟨e6, fun l l0 l1 => ?_⟩
  unfold qlB1 qlN1
  by_cases h : l = D.nL
  · rw [if_pos h, if_pos h, h]
    exact ⟨e14, e7⟩
  · rw [if_neg h, if_neg h]
    obtain ⟨x1, x2⟩ := hc.2 l l0 (by omega)
    have hb := (hp.2.2.2.2.1.2 l l0 (by omega)).1.1
    refine ⟨?_, fun k k0 k1 => ?_⟩
    · rw [f 123 l (fun h2 => by unfold qFlm qFfm qFwm at h2; omega)]
      exact x1
    · rw [f 122 _ (fun h2 => by unfold qFlm qFfm qFwm at h2; omega)]
      exact x2 k k0 k1
theorem qIP.begn (hp : qIP D) (h4 : D.r < 4) (ok : (qBrd D.B D.L).1 = -1) : qIP (D.uBeg (D.r + 1) (qbl1 D) (qbs1 D) 0) ∧ (1 ≤ (qBrd D.B D.L).2.1 ∧ (qBrd D.B D.L).2.1 ≤ 12) := by
  have hb := hp.2.1.1
  have hbr := qBR_ok hp.2.1 13 0 (fun _ => 0) 0 (by omega) (by omega) (by omega) (by omega) (by omega) (fun i a b => by omega)
  obtain ⟨g1, g2⟩ : (1 ≤ (qBrd D.B D.L).2.1 ∧ (qBrd D.B D.L).2.1 ≤ 12) ∧ ∀ i, 0 ≤ i → i < (qBrd D.B D.L).2.1 → 0 ≤ (qBrd D.B D.L).2.2 i ∧ (qBrd D.B D.L).2.2 i ≤ 9 := by
    unfold qBrd at ok ⊢
    rcases hbr with h | h
    · omega
    · exact h.2
  have gr := hp.2.2.2.1
  refine ⟨⟨hp.1, ⟨by show (0 : Int) ≤ 0 ∧ (0 : Int) ≤ 240; omega, fun k k0 k1 => by have k1 : k < 0 := k1; omega⟩, hp.2.2.1, ⟨?_, fun b l0 l1 => ?_⟩, hp.2.2.2.2⟩, g1⟩
  · show 0 ≤ D.r + 1 ∧ D.r + 1 ≤ 4
    have := gr.1
    omega
  · have l1 : b < D.r + 1 := l1
    show (1 ≤ qbl1 D b ∧ qbl1 D b ≤ 12) ∧ ∀ i, 0 ≤ i → i < qbl1 D b → 0 ≤ qbs1 D (12 * b + i) ∧ qbs1 D (12 * b + i) ≤ 9
    unfold qbl1 qbs1
    by_cases h : b = D.r
    · rw [if_pos h]
      refine ⟨g1, fun i i0 i1 => ?_⟩
      rw [if_pos (by omega), show 12 * b + i - 12 * D.r = i by omega]
      exact g2 i i0 i1
    · rw [if_neg h]
      obtain ⟨y1, y2⟩ := gr.2 b l0 (by omega)
      refine ⟨y1, fun i i0 i1 => ?_⟩
      rw [if_neg (by omega)]
      exact y2 i i0 i1
theorem qBc_begn (hp : qIP D) (hc : qBc m D.r D.bl D.bs) (f : qFr (qFbc D.r) m m1) (e2 : m1 24 2 = D.r + 1) (e31 : m1 31 D.r = (qBrd D.B D.L).2.1) (e25 : ∀ i, 0 ≤ i → i < (qBrd D.B D.L).2.1 → m1 25 (D.r * 1000 + i) = (qBrd D.B D.L).2.2 i) : qBc m1 (D.r + 1) (qbl1 D) (qbs1 D) := by
  refine ⟨e2, fun b l0 l1 => ?_⟩
  unfold qbl1 qbs1
  by_cases h : b = D.r
  · rw [if_pos h, h]
    refine ⟨e31, fun i i0 i1 => ?_⟩
    rw [if_pos (by omega), show 12 * D.r + i - 12 * D.r = i by omega]
    exact e25 i i0 i1
  · rw [if_neg h]
    obtain ⟨y1, y2⟩ := hc.2 b l0 (by omega)
    have y3 := (hp.2.2.2.1.2 b l0 (by omega)).1
    refine ⟨(f 31 b (fun h2 => by unfold qFbc at h2; omega)).trans y1, fun i i0 i1 => ?_⟩
    rw [if_neg (by omega)]
    exact (f 25 _ (fun h2 => by unfold qFbc at h2; omega)).trans (y2 i i0 i1)
theorem qBm_begn (hp : qIP D) (g1 : 1 ≤ (qBrd D.B D.L).2.1 ∧ (qBrd D.B D.L).2.1 ≤ 12) (h4 : D.r < 4) (hc : qBm m D.r D.bl D.bs) (f : qFr (qFbm D.r) m m1) (e2 : m1 120 34 = D.r + 1) (e31 : m1 134 D.r = (qBrd D.B D.L).2.1) (e25 : ∀ i, 0 ≤ i → i < (qBrd D.B D.L).2.1 → i < 12 → m1 133 (12 * D.r + i) = (qBrd D.B D.L).2.2 i) : qBm m1 (D.r + 1) (qbl1 D) (qbs1 D) := by
  refine ⟨e2, fun b l0 l1 => ?_⟩
  unfold qbl1 qbs1
  by_cases h : b = D.r
  · rw [if_pos h, h]
    refine ⟨e31, fun i i0 i1 => ?_⟩
    rw [if_pos (by omega), show 12 * D.r + i - 12 * D.r = i by omega]
    exact e25 i i0 i1 (by omega)
  · rw [if_neg h]
    obtain ⟨y1, y2⟩ := hc.2 b l0 (by omega)
    have y3 := (hp.2.2.2.1.2 b l0 (by omega)).1
    refine ⟨(f 134 b (fun h2 => by unfold qFbm qFfm qFwm at h2; omega)).trans y1, fun i i0 i1 => ?_⟩
    rw [if_neg (by omega)]
    exact (f 133 _ (fun h2 => by unfold qFbm qFfm qFwm at h2; omega)).trans (y2 i i0 i1)
end CSL
