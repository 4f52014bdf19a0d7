/-! FAULT, AND A TEXT THAT IS NOT TAKEN -/
section CST
variable {xs : List Int32} {d : Nat} {Q : bPo} {b b0 b1 b2 : Bool} {m : Nat → Int → Int} {nT nH : Int} {T P E U N : Int → Int} {t s h k : Int}
variable {D : qD} {m1 m2 : Nat → Int → Int} {x : Int}
theorem qIC_ffc (hp : qIP D) (hI : qIC D b0 b1 m) (f : qFr (qFfc (bW b1) D.r) m m1) : qIC D b0 b1 m1 := by
  have hw := qW b0
  have e := hI.1
  have hw1 : (bW b0 = 100 ∧ bW b1 = 110) ∨ (bW b0 = 110 ∧ bW b1 = 100) := by
    subst e
    cases b0
    · exact Or.inl ⟨rfl, rfl⟩
    · exact Or.inr ⟨rfl, rfl⟩
  exact qIC.fr hp f hI (fun a k h h2 => by unfold qFfc qFrd qLg at h2; unfold qKe at h; omega) (fun k h2 => by unfold qFfc qFrd qLg at h2; omega)
theorem qIM_ffc (hp : qIP D) (hI : qIM D m) (f : qFr (qFfc (bW b1) D.r) m m1) : qIM D m1 := by
  have hw := qW b1
  exact qIM.lo hp f hI (fun a k h2 => by unfold qFfc qFrd qLg at h2; omega)
theorem qINV.ffm (hp : qIP D) (hC : qIC D b0 b1 m) (hM : qIM D m) (f : qFr qFfm m m1) : qINV ((b0, b1, b2), m1) := by
  refine ⟨D, hp, hC.hi hp f (fun a k h2 => by unfold qFfm qFwm at h2; omega), hM.fr hp f (fun a k h h2 => by unfold qFfm qFwm at h2; unfold qKw at h; omega) ?_ ?_⟩
  · dsimp only
    rw [qFr_at f 124 (fun k h2 => by unfold qFfm qFwm at h2; omega)]
    exact hM.2.2.2.2.2.2.2.2.2.1
  · dsimp only
    rw [qFr_at f 142 (fun k h2 => by unfold qFfm qFwm at h2; omega)]
    exact hM.2.2.2.2.2.2.2.2.2.2
theorem qMo0.fr {σ : qSt} (h : qMo0 m σ) (e1 : m1 126 = m 126) (e2 : m1 128 = m 128) (e3 : m1 130 = m 130) (e4 : m1 132 = m 132) : qMo0 m1 σ := by
  unfold qMo0 at *
  rw [e1, e2, e3, e4]
  exact h
theorem qMo0_ffc {σ : qSt} {c : Int} (f : qFr (qFfc (bW b1) c) m m1) (h : qMo0 m σ) : qMo0 m1 σ := by
  have hw := qW b1
  have A : ∀ a, 120 ≤ a → m1 a = m a := fun a ha => qFr_at f a (fun k h2 => by unfold qFfc qFrd qLg at h2; omega)
  exact h.fr (A 126 (by omega)) (A 128 (by omega)) (A 130 (by omega)) (A 132 (by omega))
theorem qFa_ffc {a c : Int} {B : Int → Int} {L : Int} (f : qFr (qFfc (bW b1) c) m m1) (h : qFa m B L x a) : qFa m1 B L x a := by
  rcases h with h | ⟨h, σ, h1, h2, h3⟩ | h
  · exact Or.inl h
  · exact Or.inr (Or.inl ⟨h, σ, h1, qMo0_ffc f h2, h3⟩)
  · exact Or.inr (Or.inr h)
theorem qTx_ffc {l c c' : Int} {B : Int → Int} {L : Int} (f : qFr (qFfc (bW b1) c') m m1) (h : qTx m B L x l c) : qTx m1 B L x l c := by
  rcases h with h | ⟨h, σ, h1, h2, h3⟩ | h
  · exact Or.inl h
  · exact Or.inr (Or.inl ⟨h, σ, h1, qMo0_ffc f h2, h3⟩)
  · exact Or.inr (Or.inr h)
theorem cs_310 : CaseOK qINV xs 310 := by
  intro d G hd hG hH i μ i0 i6 hI k0
  obtain ⟨⟨b0, b1, b2⟩, m⟩ := μ
  obtain ⟨D, hp, hC, hM⟩ := hI
  dsimp only at hC hM
  have X := bXv_inR xs
  refine rl_310 hd hG hH ⟨⟨by omega, by omega⟩, qCw (c_fault hp.2.1 hC.2.2.2.1 hC.2.2.2.2.2.2.2.1.1 hp.2.2.2.1.1 (X _) (fun a m1 f1 h1 => ?_))⟩
  have hC1 := qIC_ffc hp hC f1
  have hM1 := qIM_ffc hp hM f1
  exact ⟨⟨by omega, by omega⟩, qCw (d_fault hp.2.1 hM1.2.2.1 hM1.2.2.2.2.2.2.2.2.2.1 (X _) (qFa_ffc f1 h1) (fun b2q m2 f2 => qLeaf_ok (qINV.ffm hp hC1 hM1 f2) k0))⟩
theorem d_textF (hp : qIP D) (hC : qIC D b0 b1 m) (hM : qIM D m) (hx : inR x) (hT : qTx m D.B D.L x D.nL D.r) (hQ : ∀ b2q m2, qINV ((b0, b1, b2q), m2) → Q (-1) ((b0, b1, b2q), m2)) : bC xs 251 207 [vr 120, vi x] ((b0, b1, b2), m) Q := by
  rcases hT with h | ⟨h, σ0, r0, mo, hne⟩ | ⟨h, hne⟩ | ⟨h, hne⟩
  · exact d_textN hx (by omega) (hQ _ _ (qINV.tt hp hC hM))
  · subst h
    exact d_text0 hp.2.1 hM.2.2.1 σ0 r0 mo (fun b2q m2 f2 _ => hQ _ _ (qINV.ffm hp hC hM f2)) (fun h2 => absurd h2 hne)
  · subst h
    refine d_text1 hp.2.1 hM.2.2.1 hM.2.2.2.2.2.2.2.2.2.1 hM.2.2.2.2.2.2.2.1.1 hp.2.2.2.2.1.1 (fun b2q m2 f2 _ => hQ _ _ (qINV.ffm hp hC hM f2)) (fun h1 h2 => ?_)
    rcases hne with hne | hne
    · omega
    · exact absurd h2 hne
  · subst h
    refine d_text2 hp.2.1 hM.2.2.1 hM.2.2.2.2.2.2.1.1 hp.2.2.2.1.1 (fun b2q m2 f2 _ => hQ _ _ (qINV.ffm hp hC hM f2)) (fun h1 h2 => ?_)
    rcases hne with hne | hne
    · omega
    · exact absurd h2 hne
end CST
