/-! TEXT -/
section CSX
variable {xs : List Int32} {d : Nat} {Q : bPo} {b b0 b1 b2 : Bool} {m : Nat → Int → Int} {nT nH : Int} {T P E U N : Int → Int} {t s h k : Int}
variable {D : qD} {m1 : Nat → Int → Int} {x : Int}
theorem d_textLw (hp : qIP D) (hC : qIC D b0 b1 m) (hM : qIM D m) (l6 : D.nL < 6) (ok : (qLw D.B D.L 2440 240 0).1 = -1) (f1 : qFr (qFtl D.nL) m m1) (e6 : m1 6 6 = D.nL + 1) (e14 : m1 14 D.nL = (qlayL 0 (qLw D.B D.L 2440 240 0).2).length) (e7 : qSeg (fun k => m1 7 (D.nL * 1000 + k)) 0 (qlayL 0 (qLw D.B D.L 2440 240 0).2)) (e17 : ∀ k, 0 ≤ k → k < 160 → m1 17 (D.nL * 1000 + k) = -1) (hQ : ∀ b2q m3, qINV ((b0, b1, b2q), m3) → Q D.nL ((b0, b1, b2q), m3)) : bC xs 251 207 [vr 120, vi 1] ((b0, b1, b2), up m1 1 1 0) Q := by
  obtain ⟨m2, e2⟩ : ∃ m2, m2 = up m1 1 1 0 := ⟨_, rfl⟩
  rw [← e2]
  have f : qFr (qFlw D.nL) m m2 := by
    rw [e2]
    exact qFr_up (f1.mono (fun a k h => Or.inl h)) (Or.inr ⟨rfl, rfl⟩)
  have N : ∀ a, a ≠ 1 → m2 a = m1 a := fun a ha => by rw [e2, qup_n ha]
  have hM2 : qIM D m2 := hM.lo hp f (fun a k h2 => by unfold qFlw qFtl qLg at h2; omega)
  have hV : qVc m2 (D.nL + 1) (qlB1 D) (qlN1 D) := qVc_law hp hC.2.2.2.2.2.2.2.2.1 f (by rw [N 6 (by omega)]; exact e6) (by rw [N 14 (by omega)]; exact e14) (by rw [N 7 (by omega)]; exact e7) (by rw [N 17 (by omega)]; exact e17)
  have hC2 := qIC.law hC f (by rw [e2]; exact qup_s) hV
  have hp2 := qIP.law hp l6 ok
  refine d_text1 hp.2.1 hM2.2.2.1 hM2.2.2.2.2.2.2.2.2.2.1 hM2.2.2.2.2.2.2.2.1.1 hp.2.2.2.2.1.1 (fun b2q m3 _ h => ?_) (fun _ _ b2q m3 f3 t6 t7 t123 t122 => hQ _ _ ?_)
  · rcases h with h | h
    · omega
    · exact absurd ok h
  · have f3 : qFr (qFlm D.nL) m2 m3 := f3
    exact ⟨_, hp2, hC2.hi hp2 f3 (fun a k h2 => by unfold qFlm qFfm qFwm at h2; omega), qIM.law hp hM2 f3 t6 (qVm_law hp hM2.2.2.2.2.2.2.2.1 f3 t7 t123 t122)⟩
theorem d_textBg (hp : qIP D) (hC : qIC D b0 b1 m) (hM : qIM D m) (c4 : D.r < 4) (ok : (qBrd D.B D.L).1 = -1) (f1 : qFr (fun a k => (a = 1 ∧ (k = 2 ∨ k = 3)) ∨ (a = 25 ∧ D.r * 1000 ≤ k) ∨ (a = 31 ∧ k = D.r)) m m1) (e31 : m1 31 D.r = (qBrd D.B D.L).2.1) (e25 : ∀ i, 0 ≤ i → i < (qBrd D.B D.L).2.1 → m1 25 (D.r * 1000 + i) = (qBrd D.B D.L).2.2 i) (hQ : ∀ b2q m3, qINV ((b0, b1, b2q), m3) → Q D.r ((b0, b1, b2q), m3)) : bC xs 251 207 [vr 120, vi 2] ((b0, b1, b2), up (up m1 24 2 (D.r + 1)) 1 1 0) Q := by
  obtain ⟨m2, e2⟩ : ∃ m2, m2 = up (up m1 24 2 (D.r + 1)) 1 1 0 := ⟨_, rfl⟩
  rw [← e2]
  have f : qFr (qFbc D.r) m m2 := by
    rw [e2]
    exact qFr_up (qFr_up (f1.mono (fun a k h => Or.inl h)) (Or.inr (Or.inl ⟨rfl, rfl⟩))) (Or.inr (Or.inr ⟨rfl, rfl⟩))
  have N : ∀ a, a ≠ 1 → a ≠ 24 → m2 a = m1 a := fun a ha hb => by rw [e2, qup_n ha, qup_n hb]
  have hM2 : qIM D m2 := hM.lo hp f (fun a k h2 => by unfold qFbc at h2; omega)
  obtain ⟨hp2, g1⟩ := qIP.begn hp c4 ok
  have hV : qBc m2 (D.r + 1) (qbl1 D) (qbs1 D) := qBc_begn hp hC.2.2.2.2.2.2.2.1 f (by rw [e2, qup_n (by omega)]; exact qup_s) (by rw [N 31 (by omega) (by omega)]; exact e31) (by rw [N 25 (by omega) (by omega)]; exact e25)
  have hC2 := qIC.begn hC f (by rw [e2]; exact qup_s) hV
  refine d_text2 hp.2.1 hM2.2.2.1 hM2.2.2.2.2.2.2.1.1 hp.2.2.2.1.1 (fun b2q m3 _ h => ?_) (fun _ _ m3 f3 t6 t34 t134 t133 => hQ _ _ ?_)
  · rcases h with h | h
    · omega
    · exact absurd ok h
  · have f3 : qFr (qFbm D.r) m2 m3 := f3
    exact ⟨_, hp2, hC2.hi hp2 f3 (fun a k h2 => by unfold qFbm qFfm qFwm at h2; omega), qIM.begn hM2 f3 t6 (qBm_begn hp g1 c4 hM2.2.2.2.2.2.2.1 f3 t34 t134 t133)⟩
theorem cs_335 : CaseOK qINV xs 335 := by
  intro d G hd hG hH i μ i0 i6 hI k0
  obtain ⟨⟨b0, b1, b2⟩, m⟩ := μ
  obtain ⟨D, hp, hC, hM⟩ := hI
  dsimp only at hC hM
  have X := bXv_inR xs
  refine rl_335 hd hG hH ⟨⟨by omega, by omega⟩, qCw (c_text hp.2.1 hC.2.2.2.1 hC.2.2.2.2.2.2.2.1.1 hp.2.2.2.1.1 hC.2.2.2.2.2.2.2.2.1.1 hp.2.2.2.2.1.1 (X _) (fun m1 f1 t1 => ?_) (fun hx σ0 m1 r0 mo ok f1 cs => ?_) (fun hx l6 ok m1 f1 e6 e14 e7 e17 => ?_) (fun hx c4 ok m1 f1 e31 e25 => ?_))⟩
  · have hC1 := qIC_ffc hp hC f1
    have hM1 := qIM_ffc hp hM f1
    exact ⟨⟨by omega, by omega⟩, qCw (d_textF hp hC1 hM1 (X _) (qTx_ffc f1 t1) (fun b2q m2 hI2 => qLeaf_ok hI2 k0))⟩
  · refine ⟨⟨by omega, by omega⟩, ?_⟩
    rw [hx]
    exact qCw (d_textWw hp hC hM σ0 r0 mo ok f1 cs (fun b2q m3 hI3 => qLeaf_ok hI3 k0))
  · refine ⟨⟨by omega, by omega⟩, ?_⟩
    rw [hx]
    exact qCw (d_textLw hp hC hM l6 ok f1 e6 e14 e7 e17 (fun b2q m3 hI3 => qLeaf_ok hI3 k0))
  · refine ⟨⟨by omega, by omega⟩, ?_⟩
    rw [hx]
    exact qCw (d_textBg hp hC hM c4 ok f1 e31 e25 (fun b2q m3 hI3 => qLeaf_ok hI3 k0))
end CSX
