/-! THE ACTS OF THE LAW -/
section CSA
variable {xs : List Int32} {d : Nat} {Q : bPo} {b b0 b1 b2 : Bool} {m : Nat → Int → Int} {nT nH : Int} {T P E U N : Int → Int} {t s h k : Int}
variable {D : qD} {m1 m2 : Nat → Int → Int} {N' : Int → Int} {c' : Int} {A' : Int → Int → Int}
theorem qIP.act (hp : qIP D) (hN : qNw D.nT D.nH D.T N') : qIP (D.uAct N' c' A') := ⟨qWF_nw hp.1 hN, hp.2⟩
theorem qIC.act (hI : qIC D b0 b1 m) (h1 : qAC m m1 (bW b0) D.nT D.nH D.T N' c' A') : qIC (D.uAct N' c' A') b0 b1 m1 := by
  obtain ⟨z0, ⟨z1, z1'⟩, z2, z3, z4, z5, z6, z7, z8, z9⟩ := hI
  obtain ⟨f, l, p⟩ := h1
  have hw := qW b0
  have F : ∀ a, a ≠ 36 → a ≠ 37 → a ≠ bW b0 + 8 → a ≠ bW b0 + 9 → m1 a = m a := fun a a1 a2 a3 a4 => qFr_at f a (fun k h2 => by unfold qFact at h2; omega)
  have f4 : m1 36 4 = m 36 4 := f 36 4 (fun h2 => by unfold qFact at h2; omega)
  refine ⟨z0, ⟨?_, l⟩, ?_, ?_, p, ?_, ?_, ?_, ?_, ?_⟩
  · exact qTo_fr f z1 (fun a k a1 a2 h2 => by unfold qFact at h2; omega)
  · show m1 (bW b0) 11 = D.nG
    rw [F (bW b0) (by omega) (by omega) (by omega) (by omega)]
    exact z2
  · show qTc m1 D.L D.B
    unfold qTc
    rw [F 1 (by omega) (by omega) (by omega) (by omega), F 2 (by omega) (by omega) (by omega) (by omega)]
    exact z3
  · show m1 36 4 = D.pic ∧ (D.pic = 1 → qLv D.nT D.nH (m1 78) D.G)
    rw [f4, F 78 (by omega) (by omega) (by omega) (by omega)]
    exact z5
  · show qEc m1 D.e D.eT D.eH D.eD
    unfold qEc
    rw [F 32 (by omega) (by omega) (by omega) (by omega), F 33 (by omega) (by omega) (by omega) (by omega), F 34 (by omega) (by omega) (by omega) (by omega), F 35 (by omega) (by omega) (by omega) (by omega)]
    exact z6
  · show qBc m1 D.r D.bl D.bs
    unfold qBc
    rw [F 24 (by omega) (by omega) (by omega) (by omega), F 31 (by omega) (by omega) (by omega) (by omega), F 25 (by omega) (by omega) (by omega) (by omega)]
    exact z7
  · exact z8.fr (by rw [F 6 (by omega) (by omega) (by omega) (by omega)]) (F 14 (by omega) (by omega) (by omega) (by omega)) (F 7 (by omega) (by omega) (by omega) (by omega)) (F 17 (by omega) (by omega) (by omega) (by omega))
  · show m1 0 12 = D.hold
    rw [F 0 (by omega) (by omega) (by omega) (by omega)]
    exact z9
theorem qIM.act (hI : qIM D m) (f : qFr qFam m m1) (e1 : m1 135 = N') (p1 : qPm m1 c' A') : qIM (D.uAct N' c' A') m1 := by
  obtain ⟨z1, z2, z3, z4, z5, z6, z7, z8, z9, za, zb⟩ := hI
  have F : ∀ a, a ≠ 136 → a ≠ 135 → a ≠ 137 → a ≠ 120 → m1 a = m a := fun a a1 a2 a3 a4 => qFr_at f a (fun k h2 => by unfold qFam at h2; omega)
  have F2 : ∀ k, k ≠ 0 → k ≠ 38 → k ≠ 40 → m1 120 k = m 120 k := fun k k1 k2 k3 => f 120 k (fun h2 => by unfold qFam at h2; omega)
  obtain ⟨y1, y2, y3, y4, y5, y6, y7⟩ := z1
  refine ⟨⟨?_, ?_, ?_, ?_, ?_, ?_, e1⟩, ?_, ?_, p1, ?_, ?_, ?_, ?_, ?_, ?_, ?_⟩
  · exact (F2 26 (by omega) (by omega) (by omega)).trans y1
  · exact (F2 27 (by omega) (by omega) (by omega)).trans y2
  · exact (F 125 (by omega) (by omega) (by omega) (by omega)).trans y3
  · exact (F 127 (by omega) (by omega) (by omega) (by omega)).trans y4
  · exact (F 129 (by omega) (by omega) (by omega) (by omega)).trans y5
  · exact (F 131 (by omega) (by omega) (by omega) (by omega)).trans y6
  · exact (F2 28 (by omega) (by omega) (by omega)).trans z2
  · show qTm m1 D.L D.B
    unfold qTm
    rw [F2 6 (by omega) (by omega) (by omega), F 121 (by omega) (by omega) (by omega) (by omega)]
    exact z3
  · exact ⟨(F2 59 (by omega) (by omega) (by omega)).trans z5.1, (F 149 (by omega) (by omega) (by omega) (by omega)).trans z5.2⟩
  · show qEm m1 D.e D.eT D.eH D.eD
    unfold qEm
    rw [F2 57 (by omega) (by omega) (by omega), F 146 (by omega) (by omega) (by omega) (by omega), F 147 (by omega) (by omega) (by omega) (by omega), F 148 (by omega) (by omega) (by omega) (by omega)]
    exact z6
  · show qBm m1 D.r D.bl D.bs
    unfold qBm
    rw [F2 34 (by omega) (by omega) (by omega), F 134 (by omega) (by omega) (by omega) (by omega), F 133 (by omega) (by omega) (by omega) (by omega)]
    exact z7
  · exact z8.fr (F2 7 (by omega) (by omega) (by omega)) (F 123 (by omega) (by omega) (by omega) (by omega)) (F 122 (by omega) (by omega) (by omega) (by omega))
  · exact (F2 36 (by omega) (by omega) (by omega)).trans z9
  · rw [F 124 (by omega) (by omega) (by omega) (by omega)]
    exact za
  · rw [F 142 (by omega) (by omega) (by omega) (by omega)]
    exact zb
/-- the reference's side stands behind the class's act -/
theorem qAC_lo (hp : qIP D) (h1 : qAC m m1 (bW b0) D.nT D.nH D.T N' c' A') (hM : qIM D m) : qIM D m1 := by
  have hw := qW b0
  exact qIM.lo hp h1.1 hM (fun a k h2 => by unfold qFact at h2; omega)
theorem qINV.act (hp : qIP D) (hC : qIC D b0 b1 m) (hM1 : qIM D m1) (hN : qNw D.nT D.nH D.T N') (h1 : qAC m m1 (bW b0) D.nT D.nH D.T N' c' A') (f : qFr qFam m1 m2) (e1 : m2 135 = N') (p1 : qPm m2 c' A') : qINV ((b0, b1, b2), m2) :=
  ⟨D.uAct N' c' A', hp.act hN, (hC.act h1).hi (hp.act hN) f (fun a k h2 => by unfold qFam at h2; omega), hM1.act f e1 p1⟩
/-- both are given in the same numbers, though the reference's row may differ beyond its end -/
theorem qAC.ext {N2 : Int → Int} (h6 : D.nT ≤ 6) (h7 : D.nH ≤ 6) (he : ∀ i, 0 ≤ i → i < 67 → N2 i = N' i) (h1 : qAC m m1 (bW b0) D.nT D.nH D.T N' c' A') : qAC m m1 (bW b0) D.nT D.nH D.T N2 c' A' := ⟨h1.1, qLv_congr2 h6 h7 he h1.2.1, h1.2.2⟩
theorem cs_762 : CaseOK qINV xs 762 := by
  intro d G hd hG hH i μ i0 i6 hI k0
  obtain ⟨⟨b0, b1, b2⟩, m⟩ := μ
  obtain ⟨D, hp, hC, hM⟩ := hI
  dsimp only at hC hM
  have X := bXv_inR xs
  have wn := qw_n hp.1
  have cb := hC.2.2.2.2.1.2.2.1
  refine rl_762 hd hG hH ⟨⟨by omega, by omega⟩, ⟨by omega, by omega⟩, qCw (c_give hp.1 hC.2.1 hC.2.2.2.2.1 (X _) (X _) (fun hn => ?_) (fun hy m1 h1 => ?_))⟩
  · exact ⟨⟨by omega, by omega⟩, ⟨by omega, by omega⟩, qCw (d_give hp.1 hM.1 hM.2.2.2.1 cb (X _) (X _) (fun _ => qLeaf_ok (qINV.tt hp hC hM) k0) (fun hy => absurd hy hn))⟩
  · have hM1 := qAC_lo hp h1 hM
    exact ⟨⟨by omega, by omega⟩, ⟨by omega, by omega⟩, qCw (d_give hp.1 hM1.1 hM1.2.2.2.1 cb (X _) (X _) (fun hn => absurd hy hn) (fun _ m2 h2 => qLeaf_ok (qINV.act hp hC hM1 (qNw_ho wn.1.2 wn.2.1.2 hy.1.1.1 hy.1.1.2 (by have := hy.2.1; omega) (qw_nw hp.1)) h1 h2.1 h2.2.1 h2.2.2) k0))⟩
theorem cs_799 : CaseOK qINV xs 799 := by
  intro d G hd hG hH i μ i0 i6 hI k0
  obtain ⟨⟨b0, b1, b2⟩, m⟩ := μ
  obtain ⟨D, hp, hC, hM⟩ := hI
  dsimp only at hC hM
  have X := bXv_inR xs
  have wn := qw_n hp.1
  have cb := hC.2.2.2.2.1.2.2.1
  refine rl_799 hd hG hH ⟨⟨by omega, by omega⟩, ⟨by omega, by omega⟩, qCw (c_teach hp.1 hC.2.1 hC.2.2.2.2.1 (X _) (X _) (fun hn => ?_) (fun hy m1 h1 => ?_))⟩
  · exact ⟨⟨by omega, by omega⟩, ⟨by omega, by omega⟩, qCw (d_teach hp.1 hM.1 hM.2.2.2.1 cb (X _) (X _) (fun _ => qLeaf_ok (qINV.tt hp hC hM) k0) (fun hy => absurd hy hn))⟩
  · have hM1 := qAC_lo hp h1 hM
    exact ⟨⟨by omega, by omega⟩, ⟨by omega, by omega⟩, qCw (d_teach hp.1 hM1.1 hM1.2.2.2.1 cb (X _) (X _) (fun hn => absurd hy hn) (fun _ m2 h2 => qLeaf_ok (qINV.act hp hC hM1 (qNw_sk wn.1.2 wn.2.1.2 hy.1.1 hy.1.2 hy.2.1.1 hy.2.1.2 (by have := (qw_nw hp.1).2.1 _ _ hy.1.1 hy.1.2 hy.2.1.1 hy.2.1.2; have := hy.2.2; omega) (qw_nw hp.1)) h1 h2.1 h2.2.1 h2.2.2) k0))⟩
theorem cs_836 : CaseOK qINV xs 836 := by
  intro d G hd hG hH i μ i0 i6 hI k0
  obtain ⟨⟨b0, b1, b2⟩, m⟩ := μ
  obtain ⟨D, hp, hC, hM⟩ := hI
  dsimp only at hC hM
  have X := bXv_inR xs
  have wn := qw_n hp.1
  have cb := hC.2.2.2.2.1.2.2.1
  refine rl_836 hd hG hH ⟨⟨by omega, by omega⟩, qCw (c_days hp.1 hC.2.1 hC.2.2.2.2.1 (X _) (fun hn => ?_) (fun hy m1 h1 nw => ?_))⟩
  · exact ⟨⟨by omega, by omega⟩, qCw (d_days hp.1 hM.1 hM.2.2.2.1 cb (X _) (fun _ => qLeaf_ok (qINV.tt hp hC hM) k0) (fun hy => absurd hy hn))⟩
  · have hM1 := qAC_lo hp h1 hM
    exact ⟨⟨by omega, by omega⟩, qCw (d_days hp.1 hM1.1 hM1.2.2.2.1 cb (X _) (fun hn => absurd hy hn) (fun _ m2 h2 => qLeaf_ok (qINV.act hp hC hM1 (nw) h1 h2.1 h2.2.1 h2.2.2) k0))⟩
theorem cs_861 : CaseOK qINV xs 861 := by
  intro d G hd hG hH i μ i0 i6 hI k0
  obtain ⟨⟨b0, b1, b2⟩, m⟩ := μ
  obtain ⟨D, hp, hC, hM⟩ := hI
  dsimp only at hC hM
  have X := bXv_inR xs
  have wn := qw_n hp.1
  have cb := hC.2.2.2.2.1.2.2.1
  refine rl_861 hd hG hH ⟨⟨by omega, by omega⟩, X _, ⟨by omega, by omega⟩, X _, qCw (c_generation hp.1 hC.2.1 hC.2.2.2.2.1 (fun hn => ?_) (fun hy m1 h1 => ?_))⟩
  · exact ⟨⟨by omega, by omega⟩, X _, ⟨by omega, by omega⟩, X _, qCw (d_generation hp.1 hM.1 hM.2.2.2.1 cb (fun _ => qLeaf_ok (qINV.tt hp hC hM) k0) (fun hy => absurd hy hn))⟩
  · have hM1 := qAC_lo hp h1 hM
    exact ⟨⟨by omega, by omega⟩, X _, ⟨by omega, by omega⟩, X _, qCw (d_generation hp.1 hM1.1 hM1.2.2.2.1 cb (fun hn => absurd hy hn) (fun _ m2 h2 => qLeaf_ok (qINV.act hp hC hM1 (qgen_nw hp.1) h1 h2.1 h2.2.1 h2.2.2) k0))⟩
theorem cs_918 : CaseOK qINV xs 918 := by
  intro d G hd hG hH i μ i0 i6 hI k0
  obtain ⟨⟨b0, b1, b2⟩, m⟩ := μ
  obtain ⟨D, hp, hC, hM⟩ := hI
  dsimp only at hC hM
  have X := bXv_inR xs
  have wn := qw_n hp.1
  have cb := hC.2.2.2.2.1.2.2.1
  refine rl_918 hd hG hH (qCw (c_undo hp.1 hC.2.1 hC.2.2.2.2.1 (fun hn => ?_) (fun hy m1 h1 => ?_)))
  · exact qCw (d_undo hM.2.2.2.1 cb (fun _ => qLeaf_ok (qINV.tt hp hC hM) k0) (fun hy => absurd hn hy))
  · have hM1 := qAC_lo hp h1 hM
    have nw := (hC.2.2.2.2.1.2.2.2 (D.c - 1) (by omega) (by omega)).1
    exact qCw (d_undo hM1.2.2.2.1 cb (fun hn => absurd hn hy) (fun _ m2 f2 e2 p2 => qLeaf_ok (qINV.act hp hC hM1 (qNw_congr wn.1.2 wn.2.1.2 e2 nw) (qAC.ext wn.1.2 wn.2.1.2 e2 h1) f2 rfl p2) k0))
theorem cs_1536 : CaseOK qINV xs 1536 := by
  intro d G hd hG hH i μ i0 i6 hI k0
  obtain ⟨⟨b0, b1, b2⟩, m⟩ := μ
  obtain ⟨D, hp, hC, hM⟩ := hI
  dsimp only at hC hM
  have X := bXv_inR xs
  have wn := qw_n hp.1
  have hpic := hp.2.2.2.2.2.2
  have c4 := hC.2.2.2.2.2.1
  have m4 := hM.2.2.2.2.1
  refine rl_1536 hd hG hH (qCw (c_back (G := D.G) hp.1 hC.2.1 (by rw [c4.1]; omega) (fun h1 => c4.2 (c4.1.symm.trans h1)) hC.2.2.2.2.1 (fun hn => ?_) (fun hy m1 h1 => ?_)))
  · rw [c4.1] at hn
    exact qCw (d_back (A := D.A) (G := D.G) (by rw [m4.1]; omega) m4.2 (fun _ => qLeaf_ok (qINV.tt hp hC hM) k0) (fun hy => by rw [m4.1, hn] at hy; omega))
  · rw [c4.1] at hy
    have hM1 := qAC_lo hp h1 hM
    have n4 := hM1.2.2.2.2.1
    have nw : qNw D.nT D.nH D.T D.G := by
      rcases hpic with h | h
      · omega
      · exact h.2
    exact qCw (d_back (A := D.A) (G := D.G) (by rw [n4.1]; omega) n4.2 (fun hn => by rw [n4.1, hy] at hn; omega) (fun _ m2 f2 e2 p2 => qLeaf_ok (qINV.act hp hC hM1 (qNw_congr wn.1.2 wn.2.1.2 e2 nw) (qAC.ext wn.1.2 wn.2.1.2 e2 h1) f2 rfl p2) k0))
end CSA
