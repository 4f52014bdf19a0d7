/-! WHAT HOLDS BETWEEN TWO CALLS -/
abbrev qD : Type := (Int) × (Int) × (Int → Int) × (Int → Int) × (Int → Int) × (Int → Int) × (Int → Int) × (Int) × (Int) × (Int → Int → Int) × (Int) × (Int → Int) × (Int → Int) × (Int → Int) × (Int) × (Int → Int) × (Int → Int) × (Int) × (Int → Int → Int) × (Int → Int) × (Int) × (Int → Int) × (Int) × (Int) × (Int → Int)
def qD.nT (D : qD) : Int := D.1
def qD.nH (D : qD) : Int := D.2.1
def qD.T (D : qD) : Int → Int := D.2.2.1
def qD.P (D : qD) : Int → Int := D.2.2.2.1
def qD.E (D : qD) : Int → Int := D.2.2.2.2.1
def qD.U (D : qD) : Int → Int := D.2.2.2.2.2.1
def qD.N (D : qD) : Int → Int := D.2.2.2.2.2.2.1
def qD.nG (D : qD) : Int := D.2.2.2.2.2.2.2.1
def qD.c (D : qD) : Int := D.2.2.2.2.2.2.2.2.1
def qD.A (D : qD) : Int → Int → Int := D.2.2.2.2.2.2.2.2.2.1
def qD.e (D : qD) : Int := D.2.2.2.2.2.2.2.2.2.2.1
def qD.eT (D : qD) : Int → Int := D.2.2.2.2.2.2.2.2.2.2.2.1
def qD.eH (D : qD) : Int → Int := D.2.2.2.2.2.2.2.2.2.2.2.2.1
def qD.eD (D : qD) : Int → Int := D.2.2.2.2.2.2.2.2.2.2.2.2.2.1
def qD.r (D : qD) : Int := D.2.2.2.2.2.2.2.2.2.2.2.2.2.2.1
def qD.bl (D : qD) : Int → Int := D.2.2.2.2.2.2.2.2.2.2.2.2.2.2.2.1
def qD.bs (D : qD) : Int → Int := D.2.2.2.2.2.2.2.2.2.2.2.2.2.2.2.2.1
def qD.nL (D : qD) : Int := D.2.2.2.2.2.2.2.2.2.2.2.2.2.2.2.2.2.1
def qD.lB (D : qD) : Int → Int → Int := D.2.2.2.2.2.2.2.2.2.2.2.2.2.2.2.2.2.2.1
def qD.lN (D : qD) : Int → Int := D.2.2.2.2.2.2.2.2.2.2.2.2.2.2.2.2.2.2.2.1
def qD.L (D : qD) : Int := D.2.2.2.2.2.2.2.2.2.2.2.2.2.2.2.2.2.2.2.2.1
def qD.B (D : qD) : Int → Int := D.2.2.2.2.2.2.2.2.2.2.2.2.2.2.2.2.2.2.2.2.2.1
def qD.hold (D : qD) : Int := D.2.2.2.2.2.2.2.2.2.2.2.2.2.2.2.2.2.2.2.2.2.2.1
def qD.pic (D : qD) : Int := D.2.2.2.2.2.2.2.2.2.2.2.2.2.2.2.2.2.2.2.2.2.2.2.1
def qD.G (D : qD) : Int → Int := D.2.2.2.2.2.2.2.2.2.2.2.2.2.2.2.2.2.2.2.2.2.2.2.2
def qD.uAct (D : qD) (N' : Int → Int) (c' : Int) (A' : Int → Int → Int) : qD := (D.nT, D.nH, D.T, D.P, D.E, D.U, N', D.nG, c', A', D.e, D.eT, D.eH, D.eD, D.r, D.bl, D.bs, D.nL, D.lB, D.lN, D.L, D.B, D.hold, D.pic, D.G)
def qD.uPic (D : qD) (pic' : Int) (G' : Int → Int) : qD := (D.nT, D.nH, D.T, D.P, D.E, D.U, D.N, D.nG, D.c, D.A, D.e, D.eT, D.eH, D.eD, D.r, D.bl, D.bs, D.nL, D.lB, D.lN, D.L, D.B, D.hold, pic', G')
def qD.uEnd (D : qD) (e' : Int) (eT' : Int → Int) (eH' : Int → Int) (eD' : Int → Int) : qD := (D.nT, D.nH, D.T, D.P, D.E, D.U, D.N, D.nG, D.c, D.A, e', eT', eH', eD', D.r, D.bl, D.bs, D.nL, D.lB, D.lN, D.L, D.B, D.hold, D.pic, D.G)
def qD.uTape (D : qD) (L' : Int) (B' : Int → Int) : qD := (D.nT, D.nH, D.T, D.P, D.E, D.U, D.N, D.nG, D.c, D.A, D.e, D.eT, D.eH, D.eD, D.r, D.bl, D.bs, D.nL, D.lB, D.lN, L', B', D.hold, D.pic, D.G)
def qD.uHold (D : qD) (hold' : Int) : qD := (D.nT, D.nH, D.T, D.P, D.E, D.U, D.N, D.nG, D.c, D.A, D.e, D.eT, D.eH, D.eD, D.r, D.bl, D.bs, D.nL, D.lB, D.lN, D.L, D.B, hold', D.pic, D.G)
def qD.uWill (D : qD) (nT' : Int) (nH' : Int) (T' : Int → Int) (P' : Int → Int) (E' : Int → Int) (U' : Int → Int) (N' : Int → Int) (nG' : Int) (c' : Int) (e' : Int) (L' : Int) (hold' : Int) (pic' : Int) : qD := (nT', nH', T', P', E', U', N', nG', c', D.A, e', D.eT, D.eH, D.eD, D.r, D.bl, D.bs, D.nL, D.lB, D.lN, L', D.B, hold', pic', D.G)
def qD.uLaw (D : qD) (nL' : Int) (lB' : Int → Int → Int) (lN' : Int → Int) (L' : Int) : qD := (D.nT, D.nH, D.T, D.P, D.E, D.U, D.N, D.nG, D.c, D.A, D.e, D.eT, D.eH, D.eD, D.r, D.bl, D.bs, nL', lB', lN', L', D.B, D.hold, D.pic, D.G)
def qD.uBeg (D : qD) (r' : Int) (bl' : Int → Int) (bs' : Int → Int) (L' : Int) : qD := (D.nT, D.nH, D.T, D.P, D.E, D.U, D.N, D.nG, D.c, D.A, D.e, D.eT, D.eH, D.eD, r', bl', bs', D.nL, D.lB, D.lN, L', D.B, D.hold, D.pic, D.G)
/-- the pure side -/
def qIP (D : qD) : Prop := qWF D.nT D.nH D.T D.P D.E D.U D.N ∧ qTp D.L D.B ∧ qEn D.nT D.nH D.e D.eT D.eH D.eD ∧ qBg D.r D.bl D.bs ∧ qVs D.nL D.lB D.lN ∧ (-1 ≤ D.hold ∧ D.hold < D.nL) ∧ (D.pic = 0 ∨ (D.pic = 1 ∧ qNw D.nT D.nH D.T D.G))
/-- the class -/
def qIC (D : qD) (b0 b1 : Bool) (m : Nat → Int → Int) : Prop := b1 = !b0 ∧ qER m (bW b0) D.nT D.nH D.T D.P D.E D.U D.N ∧ m (bW b0) 11 = D.nG ∧ qTc m D.L D.B ∧ qPc m D.nT D.nH D.T D.c D.A ∧ (m 36 4 = D.pic ∧ (D.pic = 1 → qLv D.nT D.nH (m 78) D.G)) ∧ qEc m D.e D.eT D.eH D.eD ∧ qBc m D.r D.bl D.bs ∧ qVc m D.nL D.lB D.lN ∧ m 0 12 = D.hold
/-- the reference -/
def qIM (D : qD) (m : Nat → Int → Int) : Prop := qMR m D.nT D.nH D.T D.P D.E D.U D.N ∧ m 120 28 = D.nG ∧ qTm m D.L D.B ∧ qPm m D.c D.A ∧ (m 120 59 = D.pic ∧ m 149 = D.G) ∧ qEm m D.e D.eT D.eH D.eD ∧ qBm m D.r D.bl D.bs ∧ qVm m D.nL D.lB D.lN ∧ m 120 36 = D.hold ∧ (∀ k, qbn (m 124 k)) ∧ (∀ g, 0 ≤ g → g < 6 → m 142 g = 0)
def qINV (μ : bMm) : Prop := ∃ D : qD, qIP D ∧ qIC D μ.1.1 μ.1.2.1 μ.2 ∧ qIM D μ.2
/-- the cells that the class's side speaks of -/
def qKe (w : Nat) (r : Int) (a : Nat) (k : Int) : Prop := (a = w ∧ (k = 9 ∨ k = 10 ∨ k = 11)) ∨ (w + 1 ≤ a ∧ a ≤ w + 7) ∨ a = w + 9 ∨ (a = 1 ∧ k = 1) ∨ a = 2 ∨ (a = 36 ∧ (k = 2 ∨ k = 3 ∨ k = 4)) ∨ a = 37 ∨ a = 78 ∨ (a = 32 ∧ k = 3) ∨ a = 33 ∨ a = 34 ∨ a = 35 ∨ (a = 24 ∧ k = 2) ∨ (a = 31 ∧ k < r) ∨ (a = 25 ∧ k < r * 1000) ∨ (a = 6 ∧ k = 6) ∨ a = 14 ∨ a = 7 ∨ (a = 0 ∧ k = 12)
def qKw (a : Nat) (k : Int) : Prop := (a = 120 ∧ (k = 26 ∨ k = 27 ∨ k = 28 ∨ k = 6 ∨ k = 38 ∨ k = 59 ∨ k = 57 ∨ k = 34 ∨ k = 7 ∨ k = 36)) ∨ a = 125 ∨ a = 127 ∨ a = 129 ∨ a = 131 ∨ a = 135 ∨ a = 121 ∨ a = 136 ∨ a = 149 ∨ a = 146 ∨ a = 147 ∨ a = 148 ∨ (a = 134 ∧ k < 4) ∨ (a = 133 ∧ k < 48) ∨ a = 122 ∨ a = 123
section INVS
variable {xs : List Int32} {d : Nat} {Q : bPo} {b b0 b1 b2 : Bool} {m : Nat → Int → Int} {nT nH : Int} {T P E U N : Int → Int} {t s h k : Int}
variable {D : qD} {m' : Nat → Int → Int}
theorem qIC.fr0 {P' : Nat → Int → Prop} (hp : qIP D) (hf : qFr P' m m') (hI : qIC D b0 b1 m) (hP : ∀ a k, qKe (bW b0) D.r a k → ¬ P' a k) (hV : qVc m' D.nL D.lB D.lN) : qIC D b0 b1 m' := by
  obtain ⟨z0, ⟨z1, z1'⟩, z2, z3, z4, z5, z6, z7, z8, z9⟩ := hI
  have hw := qW b0
  have K : ∀ a k, qKe (bW b0) D.r a k → m' a k = m a k := fun a k h => hf a k (hP a k h)
  have KA : ∀ a, (∀ k, qKe (bW b0) D.r a k) → m' a = m a := fun a h => funext fun k => K a k (h k)
  refine ⟨z0, ⟨?_, ?_⟩, ?_, ⟨?_, ?_⟩, ?_, ⟨?_, ?_⟩, ⟨?_, ?_⟩, ⟨?_, ?_⟩, hV, ?_⟩
  · exact z1.fr ⟨K _ _ (Or.inl ⟨rfl, by omega⟩), K _ _ (Or.inl ⟨rfl, by omega⟩)⟩ (KA _ fun _ => Or.inr (Or.inl ⟨by omega, by omega⟩)) (KA _ fun _ => Or.inr (Or.inl ⟨by omega, by omega⟩)) (KA _ fun _ => Or.inr (Or.inl ⟨by omega, by omega⟩)) (KA _ fun _ => Or.inr (Or.inl ⟨by omega, by omega⟩)) (KA _ fun _ => Or.inr (Or.inl ⟨by omega, by omega⟩)) (KA _ fun _ => Or.inr (Or.inl ⟨by omega, by omega⟩)) (KA _ fun _ => Or.inr (Or.inl ⟨by omega, by omega⟩))
  · rw [KA (bW b0 + 9) (fun _ => Or.inr (Or.inr (Or.inl rfl)))]
    exact z1'
  · rw [K _ 11 (Or.inl ⟨rfl, by omega⟩)]
    exact z2
  · rw [K 1 1 (Or.inr (Or.inr (Or.inr (Or.inl ⟨rfl, rfl⟩))))]
    exact z3.1
  · rw [KA 2 (fun _ => Or.inr (Or.inr (Or.inr (Or.inr (Or.inl rfl)))))]
    exact z3.2
  · unfold qPc at *
    rw [K 36 2 (Or.inr (Or.inr (Or.inr (Or.inr (Or.inr (Or.inl ⟨rfl, by omega⟩)))))), K 36 3 (Or.inr (Or.inr (Or.inr (Or.inr (Or.inr (Or.inl ⟨rfl, by omega⟩)))))), KA 37 (fun _ => Or.inr (Or.inr (Or.inr (Or.inr (Or.inr (Or.inr (Or.inl rfl)))))))]
    exact z4
  · rw [K 36 4 (Or.inr (Or.inr (Or.inr (Or.inr (Or.inr (Or.inl ⟨rfl, by omega⟩))))))]
    exact z5.1
  · rw [KA 78 (fun _ => Or.inr (Or.inr (Or.inr (Or.inr (Or.inr (Or.inr (Or.inr (Or.inl rfl))))))))]
    exact z5.2
  · rw [K 32 3 (Or.inr (Or.inr (Or.inr (Or.inr (Or.inr (Or.inr (Or.inr (Or.inr (Or.inl ⟨rfl, rfl⟩)))))))))]
    exact z6.1
  · rw [KA 33 (fun _ => Or.inr (Or.inr (Or.inr (Or.inr (Or.inr (Or.inr (Or.inr (Or.inr (Or.inr (Or.inl rfl)))))))))), KA 34 (fun _ => Or.inr (Or.inr (Or.inr (Or.inr (Or.inr (Or.inr (Or.inr (Or.inr (Or.inr (Or.inr (Or.inl rfl))))))))))), KA 35 (fun _ => Or.inr (Or.inr (Or.inr (Or.inr (Or.inr (Or.inr (Or.inr (Or.inr (Or.inr (Or.inr (Or.inr (Or.inl rfl))))))))))))]
    exact z6.2
  · rw [K 24 2 (Or.inr (Or.inr (Or.inr (Or.inr (Or.inr (Or.inr (Or.inr (Or.inr (Or.inr (Or.inr (Or.inr (Or.inr (Or.inl ⟨rfl, rfl⟩)))))))))))))]
    exact z7.1
  · intro b g0 g1
    obtain ⟨x1, x2⟩ := z7.2 b g0 g1
    have x3 := (hp.2.2.2.1).2 b g0 g1
    have x4 := x3.1
    refine ⟨by rw [K 31 b (Or.inr (Or.inr (Or.inr (Or.inr (Or.inr (Or.inr (Or.inr (Or.inr (Or.inr (Or.inr (Or.inr (Or.inr (Or.inr (Or.inl ⟨rfl, by omega⟩))))))))))))))]; exact x1, fun i i0 i1 => ?_⟩
    rw [K 25 _ (Or.inr (Or.inr (Or.inr (Or.inr (Or.inr (Or.inr (Or.inr (Or.inr (Or.inr (Or.inr (Or.inr (Or.inr (Or.inr (Or.inr (Or.inl ⟨rfl, by omega⟩)))))))))))))))]
    exact x2 i i0 i1
  · rw [K 0 12 (Or.inr (Or.inr (Or.inr (Or.inr (Or.inr (Or.inr (Or.inr (Or.inr (Or.inr (Or.inr (Or.inr (Or.inr (Or.inr (Or.inr (Or.inr (Or.inr (Or.inr (Or.inr (⟨rfl, rfl⟩)))))))))))))))))))]
    exact z9
theorem qIC.fr {P' : Nat → Int → Prop} (hp : qIP D) (hf : qFr P' m m') (hI : qIC D b0 b1 m) (hP : ∀ a k, qKe (bW b0) D.r a k → ¬ P' a k) (h17 : ∀ k, ¬ P' 17 k) : qIC D b0 b1 m' := by
  have K : ∀ a k, qKe (bW b0) D.r a k → m' a k = m a k := fun a k h => hf a k (hP a k h)
  refine qIC.fr0 hp hf hI hP (hI.2.2.2.2.2.2.2.2.1.fr (K _ _ (Or.inr (Or.inr (Or.inr (Or.inr (Or.inr (Or.inr (Or.inr (Or.inr (Or.inr (Or.inr (Or.inr (Or.inr (Or.inr (Or.inr (Or.inr (Or.inl ⟨rfl, rfl⟩))))))))))))))))) (funext fun k => K _ _ (Or.inr (Or.inr (Or.inr (Or.inr (Or.inr (Or.inr (Or.inr (Or.inr (Or.inr (Or.inr (Or.inr (Or.inr (Or.inr (Or.inr (Or.inr (Or.inr (Or.inl rfl)))))))))))))))))) (funext fun k => K _ _ (Or.inr (Or.inr (Or.inr (Or.inr (Or.inr (Or.inr (Or.inr (Or.inr (Or.inr (Or.inr (Or.inr (Or.inr (Or.inr (Or.inr (Or.inr (Or.inr (Or.inr (Or.inl rfl))))))))))))))))))) (qFr_at hf 17 h17))
theorem qIM.fr {P' : Nat → Int → Prop} (hp : qIP D) (hf : qFr P' m m') (hI : qIM D m) (hP : ∀ a k, qKw a k → ¬ P' a k) (h124 : ∀ k, qbn (m' 124 k)) (h142 : ∀ g, 0 ≤ g → g < 6 → m' 142 g = 0) : qIM D m' := by
  obtain ⟨z1, z2, z3, z4, z5, z6, z7, z8, z9, _, _⟩ := hI
  have K : ∀ a k, qKw a k → m' a k = m a k := fun a k h => hf a k (hP a k h)
  have KA : ∀ a, (∀ k, qKw a k) → m' a = m a := fun a h => funext fun k => K a k (h k)
  refine ⟨?_, ?_, ⟨?_, ?_⟩, ?_, ⟨?_, ?_⟩, ?_, ⟨?_, ?_⟩, ?_, ?_, h124, h142⟩
  · unfold qMR at *
    rw [K 120 26 (Or.inl ⟨rfl, by omega⟩), K 120 27 (Or.inl ⟨rfl, by omega⟩), KA 125 (fun _ => Or.inr (Or.inl rfl)), KA 127 (fun _ => Or.inr (Or.inr (Or.inl rfl))), KA 129 (fun _ => Or.inr (Or.inr (Or.inr (Or.inl rfl)))), KA 131 (fun _ => Or.inr (Or.inr (Or.inr (Or.inr (Or.inl rfl))))), KA 135 (fun _ => Or.inr (Or.inr (Or.inr (Or.inr (Or.inr (Or.inl rfl))))))]
    exact z1
  · rw [K 120 28 (Or.inl ⟨rfl, by omega⟩)]
    exact z2
  · rw [K 120 6 (Or.inl ⟨rfl, by omega⟩)]
    exact z3.1
  · rw [KA 121 (fun _ => Or.inr (Or.inr (Or.inr (Or.inr (Or.inr (Or.inr (Or.inl rfl)))))))]
    exact z3.2
  · unfold qPm at *
    rw [K 120 38 (Or.inl ⟨rfl, by omega⟩), KA 136 (fun _ => Or.inr (Or.inr (Or.inr (Or.inr (Or.inr (Or.inr (Or.inr (Or.inl rfl))))))))]
    exact z4
  · rw [K 120 59 (Or.inl ⟨rfl, by omega⟩)]
    exact z5.1
  · rw [KA 149 (fun _ => Or.inr (Or.inr (Or.inr (Or.inr (Or.inr (Or.inr (Or.inr (Or.inr (Or.inl rfl)))))))))]
    exact z5.2
  · unfold qEm at *
    rw [K 120 57 (Or.inl ⟨rfl, by omega⟩), KA 146 (fun _ => Or.inr (Or.inr (Or.inr (Or.inr (Or.inr (Or.inr (Or.inr (Or.inr (Or.inr (Or.inl rfl)))))))))), KA 147 (fun _ => Or.inr (Or.inr (Or.inr (Or.inr (Or.inr (Or.inr (Or.inr (Or.inr (Or.inr (Or.inr (Or.inl rfl))))))))))), KA 148 (fun _ => Or.inr (Or.inr (Or.inr (Or.inr (Or.inr (Or.inr (Or.inr (Or.inr (Or.inr (Or.inr (Or.inr (Or.inl rfl))))))))))))]
    exact z6
  · rw [K 120 34 (Or.inl ⟨rfl, by omega⟩)]
    exact z7.1
  · intro b g0 g1
    obtain ⟨x1, x2⟩ := z7.2 b g0 g1
    have x3 := (hp.2.2.2.1).2 b g0 g1
    have x4 := x3.1
    have x5 := (hp.2.2.2.1).1
    refine ⟨by rw [K 134 b (Or.inr (Or.inr (Or.inr (Or.inr (Or.inr (Or.inr (Or.inr (Or.inr (Or.inr (Or.inr (Or.inr (Or.inr (Or.inl ⟨rfl, by omega⟩)))))))))))))]; exact x1, fun i i0 i1 => ?_⟩
    rw [K 133 _ (Or.inr (Or.inr (Or.inr (Or.inr (Or.inr (Or.inr (Or.inr (Or.inr (Or.inr (Or.inr (Or.inr (Or.inr (Or.inr (Or.inl ⟨rfl, by omega⟩))))))))))))))]
    exact x2 i i0 i1
  · exact z8.fr (K _ _ (Or.inl ⟨rfl, by omega⟩)) (KA _ fun _ => Or.inr (Or.inr (Or.inr (Or.inr (Or.inr (Or.inr (Or.inr (Or.inr (Or.inr (Or.inr (Or.inr (Or.inr (Or.inr (Or.inr (Or.inr (rfl)))))))))))))))) (KA _ fun _ => Or.inr (Or.inr (Or.inr (Or.inr (Or.inr (Or.inr (Or.inr (Or.inr (Or.inr (Or.inr (Or.inr (Or.inr (Or.inr (Or.inr (Or.inl rfl)))))))))))))))
  · rw [K 120 36 (Or.inl ⟨rfl, by omega⟩)]
    exact z9
/-- what the class's side says is of cells below 120, what the reference's side says of those above -/
theorem qIC.hi {P' : Nat → Int → Prop} (hp : qIP D) (hf : qFr P' m m') (hI : qIC D b0 b1 m) (hP : ∀ a k, P' a k → 120 ≤ a) : qIC D b0 b1 m' := by
  have hw := qW b0
  refine qIC.fr hp hf hI (fun a k h h2 => ?_) (fun k h2 => ?_)
  · have := hP a k h2
    unfold qKe at h
    omega
  · have := hP _ k h2
    omega
theorem qIM.lo {P' : Nat → Int → Prop} (hp : qIP D) (hf : qFr P' m m') (hI : qIM D m) (hP : ∀ a k, P' a k → a < 120) : qIM D m' := by
  have E1 : ∀ a, 120 ≤ a → m' a = m a := fun a h => qFr_at hf a (fun k h2 => by have := hP a k h2; omega)
  refine qIM.fr hp hf hI (fun a k h h2 => ?_) (by rw [E1 124 (by omega)]; exact hI.2.2.2.2.2.2.2.2.2.1) (by rw [E1 142 (by omega)]; exact hI.2.2.2.2.2.2.2.2.2.2)
  have := hP a k h2
  unfold qKw at h
  omega
theorem qIM.tt (hp : qIP D) (hI : qIM D m) : qIM D (up m 120 0 0) := by
  refine qIM.fr (P' := fun a k => a = 120 ∧ k = 0) hp (qFr_up qFr.refl ⟨rfl, rfl⟩) hI (fun a k h h2 => by unfold qKw at h; omega) (fun k => ?_) (fun g g0 g1 => ?_)
  · rw [qup_n (by omega)]
    exact hI.2.2.2.2.2.2.2.2.2.1 k
  · rw [qup_n (by omega)]
    exact hI.2.2.2.2.2.2.2.2.2.2 g g0 g1
theorem qIC.tt (hp : qIP D) (hI : qIC D b0 b1 m) : qIC D b0 b1 (up m 120 0 0) :=
  qIC.hi (P' := fun a k => a = 120 ∧ k = 0) hp (qFr_up qFr.refl ⟨rfl, rfl⟩) hI (fun a k h => by omega)
theorem qINV.tt (hp : qIP D) (hC : qIC D b0 b1 m) (hM : qIM D m) : qINV ((b0, b1, b2), up m 120 0 0) := ⟨D, hp, hC.tt hp, hM.tt hp⟩
/-! an answer, cut to an int -/
def qwr (z : Int) : Int := (Int32.ofInt z).toInt
theorem qwr_inR (z : Int) : inR (qwr z) := toInt_inR _
theorem qCw {rk K : Nat} {as : List bV} {μ : bMm} (hh : bC xs rk K as μ (fun z μ' => Q (qwr z) μ')) : bC xs rk K as μ Q := by
  intro M hM d hd
  obtain ⟨f, v, z, μ', h1, h2, h3⟩ := hh M hM d hd
  refine ⟨f, v, qwr z, μ', h1, ?_, h3⟩
  unfold bRes at *
  split at h2
  · exact h2
  · rw [h2]
    unfold qwr
    rw [Int32.ofInt_toInt]
/-- the end of a case: both answered alike -/
def qLeaf (G : Nat → List bV → List bV → bMm → Prop) (i z1 z3 : Int) (μ : bMm) : Prop := inR z1 ∧ (inR z3 ∧ ((z1 = z3 → (G 1574 [vr 1000, vr 0, vr 120, vr 150, vi i, vn, vn] [] μ)) ∧ (¬ z1 = z3 → ((0 : Int) = 1))))
theorem qLeaf_ok {G : Nat → List bV → List bV → bMm → Prop} {i z : Int} {μ : bMm} (hI : qINV μ) (k0 : ∀ μ', qINV μ' → G 1574 (lv9 i) [] μ') : qLeaf G i (qwr z) (qwr z) μ := ⟨qwr_inR _, qwr_inR _, fun _ => k0 _ hI, fun hh => absurd rfl hh⟩
end INVS
