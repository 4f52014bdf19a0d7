/-! THE QUESTIONS THAT USE WORK CELLS -/
def qYz (a : Nat) (k : Int) : Prop := qYm a k ∨ (a = 120 ∧ k = 0)
def qBz0 (a : Nat) (k : Int) : Prop := a = 138 ∨ (a = 120 ∧ k = 0)
section CSF
variable {xs : List Int32} {d : Nat} {Q : bPo} {b b0 b1 b2 : Bool} {m : Nat → Int → Int} {nT nH : Int} {T P E U N : Int → Int} {t s h k : Int}
variable {D : qD} {m' : Nat → Int → Int}
theorem qIC_qYf (hp : qIP D) (f : qFr qYf m m') (hI : qIC D b0 b1 m) : qIC D b0 b1 m' := by
  have hw := qW b0
  exact qIC.fr hp f hI (fun a k h h2 => by unfold qYf at h2; unfold qKe at h; omega) (fun k h2 => by unfold qYf at h2; omega)
theorem qIC_qGg (hp : qIP D) (f : qFr qGg m m') (hI : qIC D b0 b1 m) : qIC D b0 b1 m' := by
  have hw := qW b0
  exact qIC.fr hp f hI (fun a k h h2 => by unfold qGg qGf qYf at h2; unfold qKe at h; omega) (fun k h2 => by unfold qGg qGf qYf at h2; omega)
theorem qIC_qFd (hp : qIP D) (f : qFr qFd m m') (hI : qIC D b0 b1 m) : qIC D b0 b1 m' := by
  have hw := qW b0
  exact qIC.fr hp f hI (fun a k h h2 => by unfold qFd qFl at h2; unfold qKe at h; omega) (fun k h2 => by unfold qFd qFl at h2; omega)
theorem qIC_qFb (hp : qIP D) (f : qFr qFb m m') (hI : qIC D b0 b1 m) : qIC D b0 b1 m' := by
  have hw := qW b0
  exact qIC.fr hp f hI (fun a k h h2 => by unfold qFb qFl at h2; unfold qKe at h; omega) (fun k h2 => by unfold qFb qFl at h2; omega)
theorem qIC_qYk (hp : qIP D) (f : qFr qYk m m') (hV : qVc m' D.nL D.lB D.lN) (hI : qIC D b0 b1 m) : qIC D b0 b1 m' := by
  have hw := qW b0
  exact qIC.fr0 hp f hI (fun a k h h2 => by unfold qYk qYf at h2; unfold qKe at h; omega) hV
theorem qIM_qYf (hp : qIP D) (f : qFr qYf m m') (hI : qIM D m) : qIM D m' := qIM.lo hp f hI (fun a k h2 => by unfold qYf at h2; omega)
theorem qIM_qGg (hp : qIP D) (f : qFr qGg m m') (hI : qIM D m) : qIM D m' := qIM.lo hp f hI (fun a k h2 => by unfold qGg qGf qYf at h2; omega)
theorem qIM_qFd (hp : qIP D) (f : qFr qFd m m') (hI : qIM D m) : qIM D m' := qIM.lo hp f hI (fun a k h2 => by unfold qFd qFl at h2; omega)
theorem qIM_qFb (hp : qIP D) (f : qFr qFb m m') (hI : qIM D m) : qIM D m' := qIM.lo hp f hI (fun a k h2 => by unfold qFb qFl at h2; omega)
theorem qIM_qYk (hp : qIP D) (f : qFr qYk m m') (hI : qIM D m) : qIM D m' := qIM.lo hp f hI (fun a k h2 => by unfold qYk qYf at h2; omega)
theorem qIM_qYz (hp : qIP D) (f : qFr qYz m m') (hI : qIM D m) (h1 : ∀ k, qbn (m' 124 k)) (h2 : ∀ g, 0 ≤ g → g < 6 → m' 142 g = 0) : qIM D m' := qIM.fr hp f hI (fun a k h h2 => by unfold qYz qYm at h2; unfold qKw at h; omega) h1 h2
theorem qIC_qYz (hp : qIP D) (f : qFr qYz m m') (hI : qIC D b0 b1 m) : qIC D b0 b1 m' := qIC.hi hp f hI (fun a k h2 => by unfold qYz qYm at h2; omega)
theorem qIM_qRg (hp : qIP D) (f : qFr qRg m m') (hI : qIM D m) (h1 : ∀ k, qbn (m' 124 k)) (h2 : ∀ g, 0 ≤ g → g < 6 → m' 142 g = 0) : qIM D m' := qIM.fr hp f hI (fun a k h h2 => by unfold qRg qRf qYm at h2; unfold qKw at h; omega) h1 h2
theorem qIC_qRg (hp : qIP D) (f : qFr qRg m m') (hI : qIC D b0 b1 m) : qIC D b0 b1 m' := qIC.hi hp f hI (fun a k h2 => by unfold qRg qRf qYm at h2; omega)
theorem qIM_qLz (hp : qIP D) (f : qFr qLz m m') (hI : qIM D m) (h1 : ∀ k, qbn (m' 124 k)) (h2 : ∀ g, 0 ≤ g → g < 6 → m' 142 g = 0) : qIM D m' := qIM.fr hp f hI (fun a k h h2 => by unfold qLz at h2; unfold qKw at h; omega) h1 h2
theorem qIC_qLz (hp : qIP D) (f : qFr qLz m m') (hI : qIC D b0 b1 m) : qIC D b0 b1 m' := qIC.hi hp f hI (fun a k h2 => by unfold qLz at h2; omega)
theorem qIM_qBz0 (hp : qIP D) (f : qFr qBz0 m m') (hI : qIM D m) (h1 : ∀ k, qbn (m' 124 k)) (h2 : ∀ g, 0 ≤ g → g < 6 → m' 142 g = 0) : qIM D m' := qIM.fr hp f hI (fun a k h h2 => by unfold qBz0 at h2; unfold qKw at h; omega) h1 h2
theorem qIC_qBz0 (hp : qIP D) (f : qFr qBz0 m m') (hI : qIC D b0 b1 m) : qIC D b0 b1 m' := qIC.hi hp f hI (fun a k h2 => by unfold qBz0 at h2; omega)
theorem qIM_qBfz (hp : qIP D) (f : qFr qBfz m m') (hI : qIM D m) (h1 : ∀ k, qbn (m' 124 k)) (h2 : ∀ g, 0 ≤ g → g < 6 → m' 142 g = 0) : qIM D m' := qIM.fr hp f hI (fun a k h h2 => by unfold qBfz qBf at h2; unfold qKw at h; omega) h1 h2
theorem qIC_qBfz (hp : qIP D) (f : qFr qBfz m m') (hI : qIC D b0 b1 m) : qIC D b0 b1 m' := qIC.hi hp f hI (fun a k h2 => by unfold qBfz qBf at h2; omega)
theorem cs_1092 : CaseOK qINV xs 1092 := by
  intro d G hd hG hH i μ i0 i6 hI k0
  obtain ⟨⟨b0, b1, b2⟩, m⟩ := μ
  obtain ⟨D, hp, hC, hM⟩ := hI
  dsimp only at hC hM
  have X := bXv_inR xs
  refine rl_1092 hd hG hH ⟨⟨by omega, by omega⟩, ⟨by omega, by omega⟩, qCw (c_wish hp.1 hC.2.1 hp.2.2.2.2.1 hC.2.2.2.2.2.2.2.2.1 hC.2.2.2.2.2.2.2.2.2 hp.2.2.2.2.2.1 (X _) (X _) (fun m1 f1 => ?_))⟩
  have hC1 := qIC_qYf hp f1 hC
  have hM1 := qIM_qYf hp f1 hM
  refine ⟨⟨by omega, by omega⟩, ⟨by omega, by omega⟩, qCw (d_wish hp.1 hM1.1 hp.2.2.2.2.1 hM1.2.2.2.2.2.2.2.1 hM1.2.2.2.2.2.2.2.2.2.1 hM1.2.2.2.2.2.2.2.2.1 hp.2.2.2.2.2.1 (X _) (X _) (fun b2q m2 f2 l2 => ?_))⟩
  have z2 : ∀ g, 0 ≤ g → g < 6 → m2 142 g = 0 := by
    rw [qFr_at f2 142 (fun k h2 => by unfold qYm at h2; omega)]
    exact hM1.2.2.2.2.2.2.2.2.2.2
  exact qLeaf_ok ⟨D, hp, qIC_qYz hp f2 hC1, qIM_qYz hp f2 hM1 l2 z2⟩ k0
theorem cs_1129 : CaseOK qINV xs 1129 := by
  intro d G hd hG hH i μ i0 i6 hI k0
  obtain ⟨⟨b0, b1, b2⟩, m⟩ := μ
  obtain ⟨D, hp, hC, hM⟩ := hI
  dsimp only at hC hM
  have X := bXv_inR xs
  refine rl_1129 hd hG hH ⟨⟨by omega, by omega⟩, qCw (c_rests hp.1 hC.2.1 hp.2.2.2.2.1 hC.2.2.2.2.2.2.2.2.1 hC.2.2.2.2.2.2.2.2.2 hp.2.2.2.2.2.1 (X _) (fun m1 f1 => ?_))⟩
  have hC1 := qIC_qGg hp f1 hC
  have hM1 := qIM_qGg hp f1 hM
  refine ⟨⟨by omega, by omega⟩, qCw (d_rests hp.1 hM1.1 hp.2.2.2.2.1 hM1.2.2.2.2.2.2.2.1 hM1.2.2.2.2.2.2.2.2.2.1 hM1.2.2.2.2.2.2.2.2.1 hp.2.2.2.2.2.1 (X _) (fun b2q m2 f2 l2 => ?_))⟩
  have z2 : ∀ g, 0 ≤ g → g < 6 → m2 142 g = 0 := by
    rw [qFr_at f2 142 (fun k h2 => by unfold qRg qRf qYm at h2; omega)]
    exact hM1.2.2.2.2.2.2.2.2.2.2
  exact qLeaf_ok ⟨D, hp, qIC_qRg hp f2 hC1, qIM_qRg hp f2 hM1 l2 z2⟩ k0
theorem cs_1154 : CaseOK qINV xs 1154 := by
  intro d G hd hG hH i μ i0 i6 hI k0
  obtain ⟨⟨b0, b1, b2⟩, m⟩ := μ
  obtain ⟨D, hp, hC, hM⟩ := hI
  dsimp only at hC hM
  have X := bXv_inR xs
  refine rl_1154 hd hG hH ⟨⟨by omega, by omega⟩, ⟨by omega, by omega⟩, qCw (c_gains hp.1 hC.2.1 hp.2.2.2.2.1 hC.2.2.2.2.2.2.2.2.1 hC.2.2.2.2.2.2.2.2.2 hp.2.2.2.2.2.1 (X _) (X _) (fun m1 f1 => ?_))⟩
  have hC1 := qIC_qGg hp f1 hC
  have hM1 := qIM_qGg hp f1 hM
  refine ⟨⟨by omega, by omega⟩, ⟨by omega, by omega⟩, qCw (d_gains hp.1 hM1.1 hp.2.2.2.2.1 hM1.2.2.2.2.2.2.2.1 hM1.2.2.2.2.2.2.2.2.2.1 hM1.2.2.2.2.2.2.2.2.1 hp.2.2.2.2.2.1 (X _) (X _) (fun b2q m2 f2 l2 => ?_))⟩
  have z2 : ∀ g, 0 ≤ g → g < 6 → m2 142 g = 0 := by
    rw [qFr_at f2 142 (fun k h2 => by unfold qRg qRf qYm at h2; omega)]
    exact hM1.2.2.2.2.2.2.2.2.2.2
  exact qLeaf_ok ⟨D, hp, qIC_qRg hp f2 hC1, qIM_qRg hp f2 hM1 l2 z2⟩ k0
theorem cs_1191 : CaseOK qINV xs 1191 := by
  intro d G hd hG hH i μ i0 i6 hI k0
  obtain ⟨⟨b0, b1, b2⟩, m⟩ := μ
  obtain ⟨D, hp, hC, hM⟩ := hI
  dsimp only at hC hM
  have X := bXv_inR xs
  refine rl_1191 hd hG hH ⟨⟨by omega, by omega⟩, ⟨by omega, by omega⟩, ⟨by omega, by omega⟩, ⟨by omega, by omega⟩, qCw (c_ends hp.2.2.2.2.1 hC.2.2.2.2.2.2.2.2.1 hp.2.2.2.1 hC.2.2.2.2.2.2.2.1 (X _) (X _) (X _) (X _) (fun m1 f1 v1 => ?_))⟩
  have hC1 := qIC_qYk hp f1 v1 hC
  have hM1 := qIM_qYk hp f1 hM
  refine ⟨⟨by omega, by omega⟩, ⟨by omega, by omega⟩, ⟨by omega, by omega⟩, ⟨by omega, by omega⟩, qCw (d_ends hp.2.2.2.2.1 hM1.2.2.2.2.2.2.2.1 hp.2.2.2.1 hM1.2.2.2.2.2.2.1 hM1.2.2.2.2.2.2.2.2.2.1 (X _) (X _) (X _) (X _) (fun b2q m2 f2 l2 => ?_))⟩
  have z2 : ∀ g, 0 ≤ g → g < 6 → m2 142 g = 0 := by
    rw [qFr_at f2 142 (fun k h2 => by unfold qYm at h2; omega)]
    exact hM1.2.2.2.2.2.2.2.2.2.2
  exact qLeaf_ok ⟨D, hp, qIC_qYz hp f2 hC1, qIM_qYz hp f2 hM1 l2 z2⟩ k0
theorem cs_1252 : CaseOK qINV xs 1252 := by
  intro d G hd hG hH i μ i0 i6 hI k0
  obtain ⟨⟨b0, b1, b2⟩, m⟩ := μ
  obtain ⟨D, hp, hC, hM⟩ := hI
  dsimp only at hC hM
  have X := bXv_inR xs
  refine rl_1252 hd hG hH ⟨⟨by omega, by omega⟩, ⟨by omega, by omega⟩, ⟨by omega, by omega⟩, qCw (c_shortest hp.2.2.2.2.1 hC.2.2.2.2.2.2.2.2.1 hp.2.2.2.1 hC.2.2.2.2.2.2.2.1 (X _) (X _) (X _) (fun m1 f1 v1 => ?_))⟩
  have hC1 := qIC_qYk hp f1 v1 hC
  have hM1 := qIM_qYk hp f1 hM
  refine ⟨⟨by omega, by omega⟩, ⟨by omega, by omega⟩, ⟨by omega, by omega⟩, qCw (d_shortest hp.2.2.2.2.1 hM1.2.2.2.2.2.2.2.1 hp.2.2.2.1 hM1.2.2.2.2.2.2.1 hM1.2.2.2.2.2.2.2.2.2.1 (X _) (X _) (X _) (fun b2q m2 f2 l2 => ?_))⟩
  have z2 : ∀ g, 0 ≤ g → g < 6 → m2 142 g = 0 := by
    rw [qFr_at f2 142 (fun k h2 => by unfold qYm at h2; omega)]
    exact hM1.2.2.2.2.2.2.2.2.2.2
  exact qLeaf_ok ⟨D, hp, qIC_qYz hp f2 hC1, qIM_qYz hp f2 hM1 l2 z2⟩ k0
theorem cs_1301 : CaseOK qINV xs 1301 := by
  intro d G hd hG hH i μ i0 i6 hI k0
  obtain ⟨⟨b0, b1, b2⟩, m⟩ := μ
  obtain ⟨D, hp, hC, hM⟩ := hI
  dsimp only at hC hM
  have X := bXv_inR xs
  refine rl_1301 hd hG hH ⟨⟨by omega, by omega⟩, ⟨by omega, by omega⟩, ⟨by omega, by omega⟩, qCw (c_judged hp.2.2.2.2.1 hC.2.2.2.2.2.2.2.2.1 hp.2.2.2.1 hC.2.2.2.2.2.2.2.1 (X _) (X _) (X _) (fun m1 f1 v1 => ?_))⟩
  have hC1 := qIC_qYk hp f1 v1 hC
  have hM1 := qIM_qYk hp f1 hM
  refine ⟨⟨by omega, by omega⟩, ⟨by omega, by omega⟩, ⟨by omega, by omega⟩, qCw (d_judged hp.2.2.2.2.1 hM1.2.2.2.2.2.2.2.1 hp.2.2.2.1 hM1.2.2.2.2.2.2.1 hM1.2.2.2.2.2.2.2.2.2.1 (X _) (X _) (X _) (fun b2q m2 f2 l2 => ?_))⟩
  have z2 : ∀ g, 0 ≤ g → g < 6 → m2 142 g = 0 := by
    rw [qFr_at f2 142 (fun k h2 => by unfold qYm at h2; omega)]
    exact hM1.2.2.2.2.2.2.2.2.2.2
  exact qLeaf_ok ⟨D, hp, qIC_qYz hp f2 hC1, qIM_qYz hp f2 hM1 l2 z2⟩ k0
theorem cs_1350 : CaseOK qINV xs 1350 := by
  intro d G hd hG hH i μ i0 i6 hI k0
  obtain ⟨⟨b0, b1, b2⟩, m⟩ := μ
  obtain ⟨D, hp, hC, hM⟩ := hI
  dsimp only at hC hM
  have X := bXv_inR xs
  refine rl_1350 hd hG hH ⟨⟨by omega, by omega⟩, ⟨by omega, by omega⟩, ⟨by omega, by omega⟩, qCw (c_dearest hp.2.2.2.2.1 hC.2.2.2.2.2.2.2.2.1 hp.2.2.2.1 hC.2.2.2.2.2.2.2.1 (X _) (X _) (X _) (fun m1 f1 v1 => ?_))⟩
  have hC1 := qIC_qYk hp f1 v1 hC
  have hM1 := qIM_qYk hp f1 hM
  refine ⟨⟨by omega, by omega⟩, ⟨by omega, by omega⟩, ⟨by omega, by omega⟩, qCw (d_dearest hp.2.2.2.2.1 hM1.2.2.2.2.2.2.2.1 hp.2.2.2.1 hM1.2.2.2.2.2.2.1 hM1.2.2.2.2.2.2.2.2.2.1 (X _) (X _) (X _) (fun b2q m2 f2 l2 => ?_))⟩
  have z2 : ∀ g, 0 ≤ g → g < 6 → m2 142 g = 0 := by
    rw [qFr_at f2 142 (fun k h2 => by unfold qYm at h2; omega)]
    exact hM1.2.2.2.2.2.2.2.2.2.2
  exact qLeaf_ok ⟨D, hp, qIC_qYz hp f2 hC1, qIM_qYz hp f2 hM1 l2 z2⟩ k0
theorem cs_931 : CaseOK qINV xs 931 := by
  intro d G hd hG hH i μ i0 i6 hI k0
  obtain ⟨⟨b0, b1, b2⟩, m⟩ := μ
  obtain ⟨D, hp, hC, hM⟩ := hI
  dsimp only at hC hM
  have X := bXv_inR xs
  refine rl_931 hd hG hH ⟨⟨by omega, by omega⟩, qCw (c_deal hp.1 hC.2.1 (X _) (fun m1 f1 => ?_))⟩
  have hC1 := qIC_qFd hp f1 hC
  have hM1 := qIM_qFd hp f1 hM
  refine ⟨⟨by omega, by omega⟩, qCw (d_deal hp.1 hM1.1 hM1.2.2.2.2.2.2.2.2.2.2 (X _) (fun m2 f2 z2 => ?_))⟩
  have l2 : ∀ k, qbn (m2 124 k) := by
    rw [qFr_at f2 124 (fun k h2 => by unfold qLz at h2; omega)]
    exact hM1.2.2.2.2.2.2.2.2.2.1
  exact qLeaf_ok ⟨D, hp, qIC_qLz hp f2 hC1, qIM_qLz hp f2 hM1 l2 z2⟩ k0
theorem cs_993 : CaseOK qINV xs 993 := by
  intro d G hd hG hH i μ i0 i6 hI k0
  obtain ⟨⟨b0, b1, b2⟩, m⟩ := μ
  obtain ⟨D, hp, hC, hM⟩ := hI
  dsimp only at hC hM
  have X := bXv_inR xs
  refine rl_993 hd hG hH ⟨⟨by omega, by omega⟩, qCw (c_learn hp.1 hC.2.1 (X _) (fun m1 f1 => ?_))⟩
  have hC1 := qIC_qFd hp f1 hC
  have hM1 := qIM_qFd hp f1 hM
  refine ⟨⟨by omega, by omega⟩, qCw (d_learn hp.1 hM1.1 hM1.2.2.2.2.2.2.2.2.2.2 (X _) (fun m2 f2 z2 => ?_))⟩
  have l2 : ∀ k, qbn (m2 124 k) := by
    rw [qFr_at f2 124 (fun k h2 => by unfold qLz at h2; omega)]
    exact hM1.2.2.2.2.2.2.2.2.2.1
  exact qLeaf_ok ⟨D, hp, qIC_qLz hp f2 hC1, qIM_qLz hp f2 hM1 l2 z2⟩ k0
theorem cs_956 : CaseOK qINV xs 956 := by
  intro d G hd hG hH i μ i0 i6 hI k0
  obtain ⟨⟨b0, b1, b2⟩, m⟩ := μ
  obtain ⟨D, hp, hC, hM⟩ := hI
  dsimp only at hC hM
  have X := bXv_inR xs
  refine rl_956 hd hG hH ⟨⟨by omega, by omega⟩, ⟨by omega, by omega⟩, qCw (c_best hp.1 hC.2.1 (X _) (X _) (fun m1 f1 => ?_))⟩
  have hC1 := qIC_qFd hp f1 hC
  have hM1 := qIM_qFd hp f1 hM
  refine ⟨⟨by omega, by omega⟩, ⟨by omega, by omega⟩, qCw (d_best hp.1 hM1.1  (X _) (X _) (fun m2 f2 => ?_))⟩
  have l2 : ∀ k, qbn (m2 124 k) := by
    rw [qFr_at f2 124 (fun k h2 => by omega)]
    exact hM1.2.2.2.2.2.2.2.2.2.1
  have z2 : ∀ g, 0 ≤ g → g < 6 → m2 142 g = 0 := by
    rw [qFr_at f2 142 (fun k h2 => by omega)]
    exact hM1.2.2.2.2.2.2.2.2.2.2
  exact qLeaf_ok ⟨D, hp, qIC_qBz0 hp f2 hC1, qIM_qBz0 hp f2 hM1 l2 z2⟩ k0
theorem cs_1055 : CaseOK qINV xs 1055 := by
  intro d G hd hG hH i μ i0 i6 hI k0
  obtain ⟨⟨b0, b1, b2⟩, m⟩ := μ
  obtain ⟨D, hp, hC, hM⟩ := hI
  dsimp only at hC hM
  have X := bXv_inR xs
  refine rl_1055 hd hG hH ⟨⟨by omega, by omega⟩, ⟨by omega, by omega⟩, qCw (c_spite hp.1 hC.2.1 (X _) (X _) (fun m1 f1 => ?_))⟩
  have hC1 := qIC_qFd hp f1 hC
  have hM1 := qIM_qFd hp f1 hM
  refine ⟨⟨by omega, by omega⟩, ⟨by omega, by omega⟩, qCw (d_spite hp.1 hM1.1  (X _) (X _) (fun m2 f2 => ?_))⟩
  have l2 : ∀ k, qbn (m2 124 k) := by
    rw [qFr_at f2 124 (fun k h2 => by omega)]
    exact hM1.2.2.2.2.2.2.2.2.2.1
  have z2 : ∀ g, 0 ≤ g → g < 6 → m2 142 g = 0 := by
    rw [qFr_at f2 142 (fun k h2 => by omega)]
    exact hM1.2.2.2.2.2.2.2.2.2.2
  exact qLeaf_ok ⟨D, hp, qIC_qBz0 hp f2 hC1, qIM_qBz0 hp f2 hM1 l2 z2⟩ k0
theorem cs_1018 : CaseOK qINV xs 1018 := by
  intro d G hd hG hH i μ i0 i6 hI k0
  obtain ⟨⟨b0, b1, b2⟩, m⟩ := μ
  obtain ⟨D, hp, hC, hM⟩ := hI
  dsimp only at hC hM
  have X := bXv_inR xs
  refine rl_1018 hd hG hH ⟨⟨by omega, by omega⟩, ⟨by omega, by omega⟩, qCw (c_begin hp.1 hC.2.1 (X _) (X _) (fun m1 f1 => ?_))⟩
  have hC1 := qIC_qFb hp f1 hC
  have hM1 := qIM_qFb hp f1 hM
  refine ⟨⟨by omega, by omega⟩, ⟨by omega, by omega⟩, qCw (d_begin hp.1 hM1.1 hM1.2.2.2.2.2.2.2.2.2.2 (X _) (X _) (fun m2 f2 z2 => ?_))⟩
  have l2 : ∀ k, qbn (m2 124 k) := by
    rw [qFr_at f2 124 (fun k h2 => by unfold qBfz qBf at h2; omega)]
    exact hM1.2.2.2.2.2.2.2.2.2.1
  exact qLeaf_ok ⟨D, hp, qIC_qBfz hp f2 hC1, qIM_qBfz hp f2 hM1 l2 z2⟩ k0
end CSF
