/-! B: the quickest of an heir by what it may cost -/
def qQk (T P N lo hi : Int → Int) (nT c h : Int) (χ : Int → Bool) (z : Int) : Prop := (z = -1 ∧ ∀ g, ¬ qHp T P N lo hi nT c h χ g) ∨ (0 ≤ z ∧ (∃ g, qHp T P N lo hi nT c h χ g ∧ qsB χ (qAg T P N (qGz2 N g) h) nT = z) ∧ ∀ g, qHp T P N lo hi nT c h χ g → z ≤ qsB χ (qAg T P N (qGz2 N g) h) nT)
/-- days of what is left behind so many more -/
def qDd (T P N : Int → Int) (h x k : Int) : Int := if k = qlf T N x then -1 else qal T P N h x (N (6 * x) + k)
def qQc (P N zf : Int → Int) (D : Int → Int) (x c k : Int) : Prop := 0 ≤ c - qcs P N x k ∧ ¬ D k = -1 ∧ ¬ zf (c - qcs P N x k) = -1
def qQw (P N zf : Int → Int) (D : Int → Int) (x c l u w : Int) : Prop := (w = -1 ∧ ∀ k, l ≤ k → k < u → ¬ qQc P N zf D x c k) ∨ (0 ≤ w ∧ (∃ k, l ≤ k ∧ k < u ∧ qQc P N zf D x c k ∧ w = zf (c - qcs P N x k) + D k) ∧ ∀ k, l ≤ k → k < u → qQc P N zf D x c k → w ≤ zf (c - qcs P N x k) + D k)
section QCK
variable {T P E U N lo hi g : Int → Int} {nT nH c z h t k x n w : Int} {χ χ' : Int → Bool} {zf : Int → Int}
theorem qQk_bd (hW : qWF nT nH T P E U N) (h0 : 0 ≤ h) (h1 : h < nH) (hR : ∀ t, 0 ≤ t → t < nT → χ t = true → 0 ≤ lo t ∧ hi t ≤ qlf T N t) (hq : qQk T P N lo hi nT c h χ z) : -1 ≤ z ∧ z ≤ 1296 := by
  have wn := qw_n hW
  rcases hq with ⟨e, _⟩ | ⟨e, ⟨g, hg, ev⟩, _⟩
  · omega
  · have := qsB_ub (χ := χ) (f := qAg T P N (qGz2 N g) h) (show (0 : Int) ≤ 216 by omega) nT wn.1.1 (fun u u0 u1 hu => by
      have a1 := hg.1 u u0 u1 hu
      have a2 := hR u u0 u1 hu
      have wd := qw_dn hW u0 u1
      exact (qal_bd hW h0 h1 u0 u1 (s := N (6 * u) + g u) (by omega) (by unfold qlf at a2; omega)).2)
    omega
theorem qQk_add (hW : qWF nT nH T P E U N) (h0 : 0 ≤ h) (h1 : h < nH) (x0 : 0 ≤ x) (x1 : x < nT) (hx : χ x = false) (hx' : χ' x = true) (ho : ∀ u, 0 ≤ u → u < nT → ¬ u = x → χ' u = χ u) (hl : ∀ u, 0 ≤ u → u < nT → χ u = true → qbf (qRo T) u x = true) (hRx : 0 ≤ lo x ∧ lo x ≤ hi x ∧ hi x ≤ qlf T N x) (hc : c ≤ n) (hz : ∀ c, 0 ≤ c → c ≤ n → qQk T P N lo hi nT c h χ (zf c)) (hR : ∀ t, 0 ≤ t → t < nT → χ t = true → 0 ≤ lo t ∧ hi t ≤ qlf T N t) (hw : qQw P N zf (qDd T P N h x) x c (lo x) (hi x + 1) w) : (¬ w = -1 ∧ N 66 + w ≤ T (4 * x + 1) → qQk T P N lo hi nT c h χ' w) ∧ (¬ (¬ w = -1 ∧ N 66 + w ≤ T (4 * x + 1)) → ∀ g, ¬ qHp T P N lo hi nT c h χ' g) := by
  have wn := qw_n hW
  have wd := qw_dn hW x0 x1
  have nx : ∀ t, χ t = true → ¬ t = x := fun t ht e => by rw [e, hx] at ht; exact absurd ht (by simp)
  have sm : ∀ f : Int → Int, qsB χ' f nT = qsB χ f nT + f x := fun f => by
    have := qsB_one (f := f) x0 hx hx' nT wn.1.1 ho
    rw [if_pos x1] at this
    exact this
  have fe : ∀ g : Int → Int, qFe (qAg T P N (qGz2 N g) h) (qRo T) nT (N 66) χ' ↔ _ := fun g => qFe_add (A := qAg T P N (qGz2 N g) h) (r := qRo T) (b := N 66) wn.1.1 x0 x1 hx hx' ho hl
  have Ax : ∀ g : Int → Int, g x < qlf T N x → qAg T P N (qGz2 N g) h x = qDd T P N h x (g x) := fun g hg => by
    unfold qDd
    rw [if_neg (by omega)]
    rfl
  have db : ∀ k, lo x ≤ k → k ≤ hi x → -1 ≤ qDd T P N h x k := fun k k0 k1 => by
    unfold qDd
    split
    · omega
    · exact (qal_bd hW h0 h1 x0 x1 (s := N (6 * x) + k) (by omega) (by unfold qlf at hRx; omega)).1
  -- a plan falls apart
  have dn : ∀ g, qHp T P N lo hi nT c h χ' g → (lo x ≤ g x ∧ g x ≤ hi x ∧ g x < qlf T N x) ∧ qQc P N zf (qDd T P N h x) x c (g x) ∧ zf (c - qcs P N x (g x)) ≤ qsB χ (qAg T P N (qGz2 N g) h) nT ∧ N 66 + qsB χ (qAg T P N (qGz2 N g) h) nT + qDd T P N h x (g x) ≤ T (4 * x + 1) := by
    intro g ⟨p1, p2, p3⟩
    have px := p1 x x0 x1 hx'
    have f3 := (fe g).mp p3
    rw [Ax g px.2] at f3
    rw [sm] at p2
    have cn := qcs_nn hW x0 x1 (k := g x) (by omega) (by omega)
    have cr := qcost_nn (χ := χ) (g := g) hW (fun t t0 t1 ht => by
      have a1 := (p1 t t0 t1 (by rw [ho t t0 t1 (nx t ht)]; exact ht)).1
      have a2 := hR t t0 t1 ht
      omega)
    have rest : qHp T P N lo hi nT (c - qcs P N x (g x)) h χ g := ⟨fun t t0 t1 ht => p1 t t0 t1 (by rw [ho t t0 t1 (nx t ht)]; exact ht), by omega, f3.1⟩
    have hzz := hz (c - qcs P N x (g x)) (by omega) (by omega)
    refine ⟨⟨px.1.1, px.1.2, px.2⟩, ⟨by omega, f3.2.1, ?_⟩, ?_, f3.2.2⟩
    · rcases hzz with ⟨_, e⟩ | ⟨e, _⟩
      · exact absurd rest (e g)
      · omega
    · rcases hzz with ⟨_, e⟩ | ⟨_, _, e⟩
      · exact absurd rest (e g)
      · exact e g rest
  constructor
  · intro ⟨w1, w2⟩
    rcases hw with ⟨e, _⟩ | ⟨w0, ⟨k, k0, k1, ⟨q1, q2, q3⟩, ek⟩, wl⟩
    · exact absurd e w1
    · right
      refine ⟨w0, ?_, fun g hg => ?_⟩
      · have kl : ¬ k = qlf T N x := fun e => q2 (by unfold qDd; rw [if_pos e])
        have cn := qcs_nn hW x0 x1 (k := k) (by omega) (by omega)
        rcases hz (c - qcs P N x k) q1 (by omega) with ⟨e, _⟩ | ⟨_, ⟨g, ⟨p1, p2, p3⟩, ev⟩, _⟩
        · exact absurd e q3
        · have es : ∀ u, χ u = true → qset g x k u = g u := fun u hu => qset_o (nx u hu)
          have sA : qsB χ (qAg T P N (qGz2 N (qset g x k)) h) nT = zf (c - qcs P N x k) := by
            rw [← ev]
            exact qsB_cg (fun _ _ _ => rfl) (fun u u0 u1 hu => by unfold qAg qGz2; rw [es u hu])
          have ax : qAg T P N (qGz2 N (qset g x k)) h x = qDd T P N h x k := by
            have := Ax (qset g x k) (by rw [qset_s]; omega)
            rw [qset_s] at this
            exact this
          refine ⟨qset g x k, ⟨fun t t0 t1 ht => ?_, ?_, (fe _).mpr ⟨qFe_cg2 wn.1.1 (fun _ _ _ => rfl) (fun u u0 u1 hu => by unfold qAg qGz2; rw [es u hu]) p3, by rw [ax]; exact q2, ?_⟩⟩, ?_⟩
          · by_cases et : t = x
            · rw [et, qset_s]; omega
            · rw [qset_o et]
              rw [ho t t0 t1 et] at ht
              exact p1 t t0 t1 ht
          · rw [sm, qset_s, qsB_cg (χ' := χ) (g := fun t => qcs P N t (g t)) (fun _ _ _ => rfl) (fun u u0 u1 hu => by rw [es u hu])]
            omega
          · rw [sA, ax]
            show N 66 + zf (c - qcs P N x k) + qDd T P N h x k ≤ T (4 * x + 1)
            omega
          · rw [sm, sA, ax, ek]
      · obtain ⟨⟨a1, a2, a3⟩, b1, c1, _⟩ := dn g hg
        have := wl (g x) a1 (by omega) b1
        rw [sm, Ax g a3]
        omega
  · intro hno g hg
    obtain ⟨⟨a1, a2, a3⟩, b1, c1, d1⟩ := dn g hg
    rcases hw with ⟨_, e⟩ | ⟨w0, _, wl⟩
    · exact e (g x) a1 (by omega) b1
    · have := wl (g x) a1 (by omega) b1
      exact hno ⟨by omega, by omega⟩
end QCK
