/-! B: what is begun: the most, the least digits -/
abbrev qhA (nH : Int) : Int → Prop := fun x => 0 ≤ x ∧ x < nH
def qGd (T P N : Int → Int) (nT nH y Z : Int) (g : Int → Int) : Prop := (∃ a, qPn T P N (fun _ => 0) (qlf T N) nT y (qhA nH) (qOpn N) g a ∧ qPv T N nT (qOpn N) g a = Z) ∧ ∀ t, 0 ≤ t → t < nT → ¬ N (6 * t + 2) = 0 → g t = 0
def qBm2 (T P N : Int → Int) (nT nH y Z : Int) : Prop := -1 ≤ Z ∧ qPb T P N (fun _ => 0) (qlf T N) nT y (qhA nH) (qOpn N) Z
def qBd (T P N : Int → Int) (nT nH y Z D : Int) : Prop := (∃ g, qGd T P N nT nH y Z g ∧ qhX g nT = D) ∧ ∀ g, qGd T P N nT nH y Z g → D ≤ qhX g nT
noncomputable def qBgZ (T P N : Int → Int) (nT nH y : Int) : Int := Classical.epsilon (fun Z => qBm2 T P N nT nH y Z)
noncomputable def qBgD (T P N : Int → Int) (nT nH y : Int) : Int := Classical.epsilon (fun D => qBd T P N nT nH y (qBgZ T P N nT nH y) D)
noncomputable def qPbg (T P N : Int → Int) (nT nH y w : Int) : Int := if 0 < nT ∧ (0 ≤ y ∧ y ≤ 12) ∧ 0 ≤ w ∧ w ≤ 1 then (if w = 1 then qBgZ T P N nT nH y else qBgD T P N nT nH y) else -1
/-- as digits no more -/
def qlx (t : Int) (γ g : Int → Int) : Prop := (∃ u, 0 ≤ u ∧ u < t ∧ qex u γ g ∧ γ u < g u) ∨ qex t γ g
def qloF (γ : Int → Int) (t : Int) : Int → Int := fun u => if u < t then γ u else 0
def qhiF (γ hi0 : Int → Int) (t : Int) : Int → Int := fun u => if u < t then γ u else hi0 u
section LEX
variable {T P E U N γ g a lo hi lo' hi' hi0 : Int → Int} {nT nH y Z D t k : Int} {χ : Int → Bool} {hs : Int → Prop}
theorem qBgZ_e (hW : qWF nT nH T P E U N) (h : qBm2 T P N nT nH y Z) : qBgZ T P N nT nH y = Z := by
  have h1 := Classical.epsilon_spec (p := fun Z => qBm2 T P N nT nH y Z) ⟨Z, h⟩
  exact qPb_u hW h1.2 h.2 h1.1 h.1
theorem qBgD_e (hW : qWF nT nH T P E U N) (h : qBm2 T P N nT nH y Z) (hd : qBd T P N nT nH y Z D) : qBgD T P N nT nH y = D := by
  unfold qBgD
  rw [qBgZ_e hW h]
  have h1 := Classical.epsilon_spec (p := fun D => qBd T P N nT nH y Z D) ⟨D, hd⟩
  obtain ⟨⟨g1, e1, e2⟩, u1⟩ := h1
  obtain ⟨⟨g2, f1, f2⟩, u2⟩ := hd
  have a1 := u1 g2 f1
  have a2 := u2 g1 e1
  omega
theorem qlx_X (hn : 0 ≤ nT) (n6 : nT ≤ 6) (h1 : ∀ u, 0 ≤ u → u < nT → 0 ≤ γ u ∧ γ u ≤ 9) (h2 : ∀ u, 0 ≤ u → u < nT → 0 ≤ g u ∧ g u ≤ 9) (hl : qlx nT γ g) : qhX γ nT ≤ qhX g nT := by
  rcases hl with ⟨u, u0, u1, ex, hu⟩ | h
  · have b1 := (qhX_b n6 h1 (show 0 ≤ u + 1 by omega) nT (by omega) (Int.le_refl _)).2
    have b2 := (qhX_b n6 h2 (show 0 ≤ u + 1 by omega) nT (by omega) (Int.le_refl _)).1
    have c1 := qhX_s (a := γ) u0
    have c2 := qhX_s (a := g) u0
    have c3 := qhX_cg ex
    have tb := qt10_bd (n := nT - (u + 1)) (by omega) (by omega)
    have : (qhX γ (u + 1) + 1) * qt10 (nT - (u + 1)) ≤ qhX g (u + 1) * qt10 (nT - (u + 1)) := Int.mul_le_mul_of_nonneg_right (by omega) (by omega)
    omega
  · rw [qhX_cg h]; exact Int.le_refl _
theorem qPn_lh (h : ∀ t, 0 ≤ t → t < nT → χ t = true → (lo' t ≤ g t ∧ g t ≤ hi' t)) {c : Int} (hp : qPn T P N lo hi nT c hs χ g a) : qPn T P N lo' hi' nT c hs χ g a := ⟨fun t t0 t1 ht => ⟨h t t0 t1 ht, (hp.1 t t0 t1 ht).2⟩, hp.2⟩
theorem qOpn_t : qOpn N t = true ↔ N (6 * t + 2) = 0 := by unfold qOpn; rw [decide_eq_true_eq]
/-- as far as the days go is far enough -/
theorem qPn_hi (hW : qWF nT nH T P E U N) (hg : qhg T P N hi0 nT y) (hp : qPn T P N (fun _ => 0) (qlf T N) nT y hs (qOpn N) g a) : ∀ t, 0 ≤ t → t < nT → qOpn N t = true → 0 ≤ g t ∧ g t ≤ hi0 t := by
  have wn := qw_n hW
  intro t t0 t1 ht
  have p1 := hp.1
  have pt := p1 t t0 t1 ht
  have ho := qOpn_t.mp ht
  have h1 := hg t t0 t1 ho
  have nn : ∀ u, 0 ≤ u → u < nT → qOpn N u = true → 0 ≤ qcs P N u (g u) := fun u u0 u1 hu => by
    have h3 : 0 ≤ g u ∧ g u ≤ qlf T N u := (p1 u u0 u1 hu).1
    have := qcs_nn hW u0 u1 (k := g u) (by omega) (by omega)
    omega
  have one : qsB (fun u => decide (u = t)) (fun t => qcs P N t (g t)) nT = qcs P N t (g t) := by
    have := qsB_one (χ := fun _ => false) (χ' := fun u => decide (u = t)) (f := fun t => qcs P N t (g t)) (b := t) t0 rfl (by rw [decide_eq_true rfl]) nT wn.1.1 (fun u _ _ hu => by rw [decide_eq_false hu])
    rw [if_pos t1, qsB_e nT wn.1.1 (fun _ _ _ => rfl)] at this
    omega
  have le : qsB (fun u => decide (u = t)) (fun t => qcs P N t (g t)) nT ≤ qsB (qOpn N) (fun t => qcs P N t (g t)) nT := qsB_mo nT wn.1.1 (fun u _ _ hu => by rw [decide_eq_true_eq] at hu; rw [hu]; exact ht) (fun u u0 u1 hu => nn u u0 u1 hu)
  have hc := hp.2.1
  refine ⟨pt.1.1, ?_⟩
  rcases h1.2.2.2 with e | e
  · omega
  · by_cases e2 : g t ≤ hi0 t
    · exact e2
    · have := (qcs_mo hW t0 t1 (j := hi0 t + 1) (by omega) (g t) (by omega) pt.1.2).1
      omega
theorem qPb_hi (hW : qWF nT nH T P E U N) (hg : qhg T P N hi0 nT y) (hb : qPb T P N (fun _ => 0) hi0 nT y hs (qOpn N) Z) : qPb T P N (fun _ => 0) (qlf T N) nT y hs (qOpn N) Z := by
  refine ⟨hb.1.imp id (fun ⟨g, a, hp, ev⟩ => ⟨g, a, qPn_lh (fun t t0 t1 ht => ?_) hp, ev⟩), fun g a hp => hb.2 g a (qPn_lh (qPn_hi hW hg hp) hp)⟩
  have h3 : 0 ≤ g t ∧ g t ≤ hi0 t := (hp.1 t t0 t1 ht).1
  have := hg t t0 t1 (qOpn_t.mp ht)
  show 0 ≤ g t ∧ g t ≤ qlf T N t
  omega
/-- something can be done always -/
theorem qPb_0 (hW : qWF nT nH T P E U N) (hy : 0 ≤ y) (hb : qPb T P N (fun _ => 0) (qlf T N) nT y (qhA nH) (qOpn N) Z) : 0 ≤ Z := by
  have wn := qw_n hW
  have hp : qPn T P N (fun _ => 0) (qlf T N) nT y (qhA nH) (qOpn N) (fun _ => 0) (fun _ => 9) := by
    refine ⟨fun t t0 t1 _ => ⟨⟨Int.le_refl _, (qlf_bd hW t0 t1).1⟩, Or.inl rfl⟩, ?_, fun h hh => qFe_e (fun u _ _ => ?_)⟩
    · rw [qsB_cg (χ' := qOpn N) (g := fun _ => 0) (fun _ _ _ => rfl) (fun u _ _ _ => qcs_0)]
      have := qsB_ub (χ := qOpn N) (f := fun _ => (0 : Int)) (c := 0) (by omega) nT wn.1.1 (fun _ _ _ _ => by omega)
      omega
    · have hh2 : 0 ≤ h ∧ h < nH := hh
      rw [decide_eq_false (show ¬ (9 : Int) = h by omega), Bool.and_false]
  have h1 := hb.2 _ _ hp
  have h2 := qPv_nn (χ := qOpn N) (g := fun _ => 0) (a := fun _ => 9) hW
  omega
theorem qlo_s : qset (qloF γ t) t k = qloF (qset γ t k) (t + 1) := by
  funext u
  by_cases e : u = t
  · rw [e, qset_s]
    unfold qloF
    rw [if_pos (by omega), qset_s]
  · rw [qset_o e]
    unfold qloF
    by_cases e2 : u < t
    · rw [if_pos e2, if_pos (by omega), qset_o e]
    · rw [if_neg e2, if_neg (by omega)]
theorem qhi_s : qset (qhiF γ hi0 t) t k = qhiF (qset γ t k) hi0 (t + 1) := by
  funext u
  by_cases e : u = t
  · rw [e, qset_s]
    unfold qhiF
    rw [if_pos (by omega), qset_s]
  · rw [qset_o e]
    unfold qhiF
    by_cases e2 : u < t
    · rw [if_pos e2, if_pos (by omega), qset_o e]
    · rw [if_neg e2, if_neg (by omega)]
/-- one that is good and goes on so lies within the ranges -/
theorem qGd_in (hW : qWF nT nH T P E U N) (hg : qhg T P N hi0 nT y) (hx : qex t γ g) (hp : qPn T P N (fun _ => 0) (qlf T N) nT y (qhA nH) (qOpn N) g a) : qPn T P N (qloF γ t) (qhiF γ hi0 t) nT y (qhA nH) (qOpn N) g a := by
  refine qPn_lh (fun u u0 u1 hu => ?_) hp
  have h1 := qPn_hi hW hg hp u u0 u1 hu
  unfold qloF qhiF
  by_cases e : u < t
  · rw [if_pos e, if_pos e, hx u u0 e]; omega
  · rw [if_neg e, if_neg e]; exact h1
theorem qlx_s (t0 : 0 ≤ t) (hl : qlx t γ g) (hk : qex t γ g → k ≤ g t) : qlx (t + 1) (qset γ t k) g := by
  have ag : ∀ u, u ≤ t → qex u γ g → qex u (qset γ t k) g := fun u hu hx v v0 v1 => by rw [qset_o (by omega)]; exact hx v v0 v1
  rcases hl with ⟨u, u0, u1, ex, hu⟩ | h
  · exact Or.inl ⟨u, u0, by omega, ag u (by omega) ex, by rw [qset_o (by omega)]; exact hu⟩
  · have := hk h
    by_cases e : g t = k
    · refine Or.inr (fun v v0 v1 => ?_)
      by_cases ev : v = t
      · rw [ev, qset_s]; exact e
      · rw [qset_o ev]; exact h v v0 (by omega)
    · exact Or.inl ⟨t, t0, by omega, ag t (Int.le_refl _) h, by rw [qset_s]; omega⟩
end LEX
