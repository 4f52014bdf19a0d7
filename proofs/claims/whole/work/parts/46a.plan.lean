/-! B: what the dying begin: plans -/
/-- what so many steps more cost -/
def qcs (P N : Int → Int) (t k : Int) : Int := qfold (fun j a => a + P (2 * (8 * t + (N (6 * t) + j)) + 1)) k 0 0
def qlf (T N : Int → Int) (t : Int) : Int := T (4 * t + 3) - N (6 * t)
def qGz2 (N g : Int → Int) : Int → Int := fun t => N (6 * t) + g t
/-- steps begun of a set, who does what is left -/
def qPn (T P N lo hi : Int → Int) (nT c : Int) (hs : Int → Prop) (χ : Int → Bool) (g a : Int → Int) : Prop := (∀ t, 0 ≤ t → t < nT → χ t = true → (lo t ≤ g t ∧ g t ≤ hi t) ∧ (a t = 9 ∨ (hs (a t) ∧ g t < qlf T N t))) ∧ qsB χ (fun t => qcs P N t (g t)) nT ≤ c ∧ ∀ h, hs h → qFe (qAg T P N (qGz2 N g) h) (qRo T) nT (N 66) (fun t => χ t && decide (a t = h))
def qPv (T N : Int → Int) (nT : Int) (χ : Int → Bool) (g a : Int → Int) : Int := qsB χ (fun t => if a t = 9 ∧ ¬ g t = qlf T N t then 0 else T (4 * t)) nT
def qPb (T P N lo hi : Int → Int) (nT c : Int) (hs : Int → Prop) (χ : Int → Bool) (z : Int) : Prop := (z = -1 ∨ ∃ g a, qPn T P N lo hi nT c hs χ g a ∧ qPv T N nT χ g a = z) ∧ ∀ g a, qPn T P N lo hi nT c hs χ g a → qPv T N nT χ g a ≤ z
/-- ranges -/
def qRg2 (T N lo hi : Int → Int) (nT : Int) : Prop := ∀ t, 0 ≤ t → t < nT → N (6 * t + 2) = 0 → 0 ≤ lo t ∧ lo t ≤ hi t ∧ hi t ≤ qlf T N t
section PLN
variable {T P E U N lo hi g g' a a' : Int → Int} {nT nH c z z' h t k j x : Int} {hs : Int → Prop} {χ χ' : Int → Bool}
theorem qcs_0 : qcs P N t 0 = 0 := by unfold qcs; rw [qfold_ge (by omega)]
theorem qcs_s (k0 : 0 ≤ k) : qcs P N t (k + 1) = qcs P N t k + P (2 * (8 * t + (N (6 * t) + k)) + 1) := by unfold qcs; rw [qfold_end k0]
theorem qcs_mo (hW : qWF nT nH T P E U N) (t0 : 0 ≤ t) (t1 : t < nT) (j0 : 0 ≤ j) : ∀ k, j ≤ k → k ≤ qlf T N t → qcs P N t j + (k - j) ≤ qcs P N t k ∧ qcs P N t k ≤ qcs P N t j + 9 * (k - j) := by
  refine qDown ?_
  intro k hk ih kl
  have wd := qw_dn hW t0 t1
  by_cases e : j < k
  · have i := ih e (by omega)
    have s := qcs_s (P := P) (N := N) (t := t) (k := k + -1) (by omega)
    rw [show k + -1 + 1 = k by omega] at s
    unfold qlf at kl
    have wp := qw_p hW t0 t1 (s := N (6 * t) + (k + -1)) (by omega) (by omega)
    omega
  · rw [show k = j by omega]
    omega
theorem qcs_nn (hW : qWF nT nH T P E U N) (t0 : 0 ≤ t) (t1 : t < nT) (k0 : 0 ≤ k) (kl : k ≤ qlf T N t) : k ≤ qcs P N t k ∧ qcs P N t k ≤ 9 * k := by
  have := qcs_mo hW t0 t1 (j := 0) (by omega) k k0 kl
  rw [qcs_0] at this
  omega
theorem qPv_nn (hW : qWF nT nH T P E U N) : 0 ≤ qPv T N nT χ g a ∧ qPv T N nT χ g a ≤ 594 := by
  have wn := qw_n hW
  refine ⟨qsB_nn nT wn.1.1 (fun u u0 u1 _ => ?_), ?_⟩
  · have := (qw_t hW u0 u1).1.1
    try dsimp only
    split <;> omega
  · have := qsB_ub (χ := χ) (f := fun t => if a t = 9 ∧ ¬ g t = qlf T N t then 0 else T (4 * t)) (show (0 : Int) ≤ 99 by omega) nT wn.1.1 (fun u u0 u1 _ => by
      have := (qw_t hW u0 u1).1.2
      try dsimp only
      split <;> omega)
    unfold qPv
    omega
theorem qPb_u (hW : qWF nT nH T P E U N) (h1 : qPb T P N lo hi nT c hs χ z) (h2 : qPb T P N lo hi nT c hs χ z') (b1 : -1 ≤ z) (b2 : -1 ≤ z') : z = z' := by
  obtain ⟨e1, u1⟩ := h1
  obtain ⟨e2, u2⟩ := h2
  have A : z ≤ z' := by
    rcases e1 with e | ⟨g, a, hp, ev⟩
    · omega
    · have := u2 g a hp
      omega
  have B : z' ≤ z := by
    rcases e2 with e | ⟨g, a, hp, ev⟩
    · omega
    · have := u1 g a hp
      omega
  omega
theorem qPb_bd (hW : qWF nT nH T P E U N) (h1 : qPb T P N lo hi nT c hs χ z) : -1 ≤ z ∧ z ≤ 594 := by
  rcases h1.1 with e | ⟨g, a, _, ev⟩
  · omega
  · have := qPv_nn (g := g) (a := a) (χ := χ) hW
    omega
theorem qFe_cg2 {A A' r : Int → Int} {n b : Int} (hn : 0 ≤ n) (h : ∀ u, 0 ≤ u → u < n → χ u = χ' u) (hA : ∀ u, 0 ≤ u → u < n → χ u = true → A u = A' u) (hf : qFe A r n b χ) : qFe A' r n b χ' := by
  refine qFe_cg hn h (fun t t0 t1 ht => ?_)
  have := hf t t0 t1 ht
  rw [hA t t0 t1 ht, qsB_cg (χ' := fun u => χ u && qbf r u t) (g := A') (fun _ _ _ => rfl) (fun u u0 u1 hu => hA u u0 u1 (by rw [Bool.and_eq_true] at hu; exact hu.1))] at this
  exact this
theorem qPn_cg (hn : 0 ≤ nT) (h : ∀ u, 0 ≤ u → u < nT → χ u = χ' u) (h2 : ∀ u, 0 ≤ u → u < nT → χ u = true → g u = g' u ∧ a u = a' u) (hp : qPn T P N lo hi nT c hs χ g a) : qPn T P N lo hi nT c hs χ' g' a' := by
  obtain ⟨p1, p2, p3⟩ := hp
  refine ⟨fun t t0 t1 ht => ?_, ?_, fun x hx => qFe_cg2 hn (fun u u0 u1 => ?_) (fun u u0 u1 hu => ?_) (p3 x hx)⟩
  · rw [← h t t0 t1] at ht
    have e := h2 t t0 t1 ht
    rw [← e.1, ← e.2]
    exact p1 t t0 t1 ht
  · rw [← qsB_cg (χ := χ) (f := fun t => qcs P N t (g t)) h (fun u u0 u1 hu => by rw [(h2 u u0 u1 hu).1])]
    exact p2
  · rw [← h u u0 u1]
    cases e : χ u with
    | false => rfl
    | true => rw [(h2 u u0 u1 e).2]
  · rw [Bool.and_eq_true] at hu
    unfold qAg qGz2
    rw [(h2 u u0 u1 hu.1).1]
theorem qPv_cg (h : ∀ u, 0 ≤ u → u < nT → χ u = χ' u) (h2 : ∀ u, 0 ≤ u → u < nT → χ u = true → g u = g' u ∧ a u = a' u) : qPv T N nT χ g a = qPv T N nT χ' g' a' := qsB_cg h (fun u u0 u1 hu => by rw [(h2 u u0 u1 hu).1, (h2 u u0 u1 hu).2])
theorem qPb_cg (hn : 0 ≤ nT) (h : ∀ u, 0 ≤ u → u < nT → χ u = χ' u) (hb : qPb T P N lo hi nT c hs χ z) : qPb T P N lo hi nT c hs χ' z := by
  refine ⟨hb.1.imp id (fun ⟨g, a, hp, ev⟩ => ⟨g, a, qPn_cg hn h (fun _ _ _ _ => ⟨rfl, rfl⟩) hp, by rw [← qPv_cg (g := g) (a := a) h (fun _ _ _ _ => ⟨rfl, rfl⟩)]; exact ev⟩), fun g a hp => ?_⟩
  rw [← qPv_cg (g := g) (a := a) h (fun _ _ _ _ => ⟨rfl, rfl⟩)]
  exact hb.2 g a (qPn_cg hn (fun u u0 u1 => (h u u0 u1).symm) (fun _ _ _ _ => ⟨rfl, rfl⟩) hp)
theorem qPb_hs {hs' : Int → Prop} (h : ∀ x, hs x ↔ hs' x) (hb : qPb T P N lo hi nT c hs χ z) : qPb T P N lo hi nT c hs' χ z := by
  have e : hs = hs' := funext fun x => propext (h x)
  rw [← e]; exact hb
/-- the part of a plan -/
theorem qPn_sub (hn : 0 ≤ nT) (hW : qWF nT nH T P E U N) (hR : ∀ t, 0 ≤ t → t < nT → χ' t = true → 0 ≤ lo t ∧ hi t ≤ qlf T N t) (hsub : ∀ t, 0 ≤ t → t < nT → χ t = true → χ' t = true) {c' : Int} (hc : qsB χ (fun t => qcs P N t (g t)) nT ≤ c') (hq : ∀ t, 0 ≤ t → t < nT → χ t = true → a t = 9 ∨ hs (a t)) {hs' : Int → Prop} (hhs : ∀ x, hs x → hs' x) (hA : ∀ x, 0 ≤ x → hs x → x < nH) (h0 : ∀ x, hs x → 0 ≤ x) (hp : qPn T P N lo hi nT c hs' χ' g a) : qPn T P N lo hi nT c' hs χ g a := by
  obtain ⟨p1, p2, p3⟩ := hp
  refine ⟨fun t t0 t1 ht => ?_, hc, fun x hx => ?_⟩
  · have := p1 t t0 t1 (hsub t t0 t1 ht)
    refine ⟨this.1, ?_⟩
    rcases this.2 with e | e
    · exact Or.inl e
    · rcases hq t t0 t1 ht with e2 | e2
      · exact Or.inl e2
      · exact Or.inr ⟨e2, e.2⟩
  · have hf := p3 x (hhs x hx)
    intro t t0 t1 ht
    rw [Bool.and_eq_true] at ht
    have h1 := hf t t0 t1 (by show (χ' t && decide (a t = x)) = true; rw [hsub t t0 t1 ht.1, ht.2]; rfl)
    refine ⟨h1.1, ?_⟩
    have hm : qsB (fun u => (χ u && decide (a u = x)) && qbf (qRo T) u t) (qAg T P N (qGz2 N g) x) nT ≤ qsB (fun u => (χ' u && decide (a u = x)) && qbf (qRo T) u t) (qAg T P N (qGz2 N g) x) nT := by
      refine qsB_mo nT hn (fun u u0 u1 hu => ?_) (fun u u0 u1 hu => ?_)
      · rw [Bool.and_eq_true, Bool.and_eq_true] at hu ⊢
        exact ⟨⟨hsub u u0 u1 hu.1.1, hu.1.2⟩, hu.2⟩
      · rw [Bool.and_eq_true] at hu
        have h2 := (hf u u0 u1 hu.1).1
        rw [Bool.and_eq_true] at hu
        have h3 := p1 u u0 u1 hu.1.1
        have h4 := hR u u0 u1 hu.1.1
        have wd := qw_dn hW u0 u1
        have h5 := qal_bd hW (h0 x hx) (hA x (h0 x hx) hx) u0 u1 (s := N (6 * u) + g u) (by omega) (by unfold qlf at h4; omega)
        have h6 : qAg T P N (qGz2 N g) x u = qal T P N x u (N (6 * u) + g u) := rfl
        omega
    exact Int.le_trans (Int.add_le_add_left hm _) h1.2
end PLN
