/-! B: plans: things that nobody does; one heir more -/
def qmg (q : Int → Bool) (f1 f2 : Int → Int) : Int → Int := fun t => if q t = true then f1 t else f2 t
theorem qmg_y {q : Int → Bool} {f1 f2 : Int → Int} {t : Int} (e : q t = true) : qmg q f1 f2 t = f1 t := by unfold qmg; rw [if_pos e]
theorem qmg_n {q : Int → Bool} {f1 f2 : Int → Int} {t : Int} (e : q t = false) : qmg q f1 f2 t = f2 t := by unfold qmg; rw [if_neg (by rw [e]; simp)]
/-- an heir's own -/
def qHp (T P N lo hi : Int → Int) (nT c h : Int) (q : Int → Bool) (g : Int → Int) : Prop := (∀ t, 0 ≤ t → t < nT → q t = true → (lo t ≤ g t ∧ g t ≤ hi t) ∧ g t < qlf T N t) ∧ qsB q (fun t => qcs P N t (g t)) nT ≤ c ∧ qFe (qAg T P N (qGz2 N g) h) (qRo T) nT (N 66) q
def qPr (T P N lo hi : Int → Int) (nT n h : Int) (q : Int → Bool) (p : Int) : Prop := (p = -1 ∧ ∀ c g, c ≤ n → ¬ qHp T P N lo hi nT c h q g) ∨ ((0 ≤ p ∧ p ≤ n) ∧ (∃ g, qHp T P N lo hi nT p h q g) ∧ ∀ c g, qHp T P N lo hi nT c h q g → p ≤ c)
/-- what a thing that nobody does gives -/
def qun (P N : Int → Int) (zf : Int → Int) (l v x c k : Int) : Int := if c - qcs P N x k < 0 ∨ zf (c - qcs P N x k) = -1 then -1 else zf (c - qcs P N x k) + if k = l then v else 0
section PL2
variable {T P E U N lo hi g g' a a' : Int → Int} {nT nH c z h t k j x n : Int} {hs : Int → Prop} {χ χ' : Int → Bool} {zf : Int → Int}
theorem qcost_nn (hW : qWF nT nH T P E U N) (hR : ∀ t, 0 ≤ t → t < nT → χ t = true → 0 ≤ g t ∧ g t ≤ qlf T N t) : 0 ≤ qsB χ (fun t => qcs P N t (g t)) nT := by
  have wn := qw_n hW
  refine qsB_nn nT wn.1.1 (fun u u0 u1 hu => ?_)
  have h1 := hR u u0 u1 hu
  have := qcs_nn hW u0 u1 h1.1 h1.2
  try dsimp only
  omega
theorem qPb_un (hW : qWF nT nH T P E U N) (x0 : 0 ≤ x) (x1 : x < nT) (hx : χ x = false) (hx' : χ' x = true) (ho : ∀ u, 0 ≤ u → u < nT → ¬ u = x → χ' u = χ u) (hRx : 0 ≤ lo x ∧ lo x ≤ hi x ∧ hi x ≤ qlf T N x) (hR : ∀ t, 0 ≤ t → t < nT → χ t = true → 0 ≤ lo t ∧ hi t ≤ qlf T N t) (hc : c ≤ n) (hz : ∀ c, 0 ≤ c → c ≤ n → qPb T P N lo hi nT c (fun _ => False) χ (zf c)) : qPb T P N lo hi nT c (fun _ => False) χ' (max (qun P N zf (qlf T N x) (T (4 * x)) x c (lo x)) (if hi x = qlf T N x then qun P N zf (qlf T N x) (T (4 * x)) x c (qlf T N x) else -1)) := by
  have wn := qw_n hW
  have sc : ∀ g : Int → Int, qsB χ' (fun t => qcs P N t (g t)) nT = qsB χ (fun t => qcs P N t (g t)) nT + qcs P N x (g x) := fun g => by
    have := qsB_one (f := fun t => qcs P N t (g t)) x0 hx hx' nT wn.1.1 ho
    rw [if_pos x1] at this
    exact this
  have sv : ∀ g a : Int → Int, qPv T N nT χ' g a = qPv T N nT χ g a + if a x = 9 ∧ ¬ g x = qlf T N x then 0 else T (4 * x) := fun g a => by
    have := qsB_one (f := fun t => if a t = 9 ∧ ¬ g t = qlf T N t then 0 else T (4 * t)) x0 hx hx' nT wn.1.1 ho
    rw [if_pos x1] at this
    exact this
  have nx : ∀ t, χ t = true → ¬ t = x := fun t ht e => by rw [e, hx] at ht; exact absurd ht (by simp)
  -- what a choice gives is a plan's
  have att : ∀ k, lo x ≤ k → k ≤ hi x → qun P N zf (qlf T N x) (T (4 * x)) x c k = -1 ∨ ∃ g a, qPn T P N lo hi nT c (fun _ => False) χ' g a ∧ qPv T N nT χ' g a = qun P N zf (qlf T N x) (T (4 * x)) x c k := by
    intro k k0 k1
    unfold qun
    by_cases e : c - qcs P N x k < 0 ∨ zf (c - qcs P N x k) = -1
    · rw [if_pos e]; exact Or.inl rfl
    · rw [if_neg e]
      right
      have kb := qcs_nn hW x0 x1 (k := k) (by omega) (by omega)
      rcases (hz (c - qcs P N x k) (by omega) (by omega)).1 with e2 | ⟨g, a, ⟨p1, p2, p3⟩, ev⟩
      · omega
      · refine ⟨qset g x k, qset a x 9, ⟨fun t t0 t1 ht => ?_, ?_, fun _ hf => hf.elim⟩, ?_⟩
        · by_cases et : t = x
          · rw [et, qset_s, qset_s]; exact ⟨⟨k0, k1⟩, Or.inl rfl⟩
          · rw [qset_o et, qset_o et]
            rw [ho t t0 t1 et] at ht
            exact p1 t t0 t1 ht
        · rw [sc, qset_s, qsB_cg (χ' := χ) (g := fun t => qcs P N t (g t)) (fun _ _ _ => rfl) (fun u u0 u1 hu => by rw [qset_o (nx u hu)])]
          omega
        · rw [sv, qset_s, qset_s, qPv_cg (g' := g) (a' := a) (χ' := χ) (fun _ _ _ => rfl) (fun u u0 u1 hu => ⟨qset_o (nx u hu), qset_o (nx u hu)⟩), ev]
          congr 1
          by_cases ek : k = qlf T N x
          · rw [if_neg (fun h => h.2 ek), if_pos ek]
          · rw [if_pos ⟨rfl, ek⟩, if_neg ek]
  constructor
  · by_cases e : hi x = qlf T N x
    · rw [if_pos e]
      have a1 := att (lo x) (Int.le_refl _) hRx.2.1
      have a2 := att (qlf T N x) (by omega) (by omega)
      by_cases e2 : qun P N zf (qlf T N x) (T (4 * x)) x c (lo x) ≤ qun P N zf (qlf T N x) (T (4 * x)) x c (qlf T N x)
      · rw [Int.max_eq_right e2]; exact a2
      · rw [Int.max_eq_left (by omega)]; exact a1
    · rw [if_neg e]
      have a1 := att (lo x) (Int.le_refl _) hRx.2.1
      by_cases e2 : qun P N zf (qlf T N x) (T (4 * x)) x c (lo x) ≤ -1
      · rw [Int.max_eq_right e2]; exact Or.inl rfl
      · rw [Int.max_eq_left (by omega)]; exact a1
  · intro g a hp
    obtain ⟨p1, p2, p3⟩ := hp
    rw [sc] at p2
    rw [sv]
    have px := p1 x x0 x1 hx'
    have ax : a x = 9 := px.2.elim id (fun h => h.1.elim)
    have wt := qw_t hW x0 x1
    have gx : 0 ≤ g x ∧ g x ≤ qlf T N x := by omega
    have cm := qcs_mo hW x0 x1 hRx.1 (g x) px.1.1 gx.2
    have cn := qcs_nn hW x0 x1 gx.1 gx.2
    have rest : ∀ c', qsB χ (fun t => qcs P N t (g t)) nT ≤ c' → qPn T P N lo hi nT c' (fun _ => False) χ g a := fun c' hc' => ⟨fun t t0 t1 ht => p1 t t0 t1 (by rw [ho t t0 t1 (nx t ht)]; exact ht), hc', fun _ hf => hf.elim⟩
    have cr := qcost_nn (χ := χ) (g := g) hW (fun t t0 t1 ht => by
      have h1 := (p1 t t0 t1 (by rw [ho t t0 t1 (nx t ht)]; exact ht)).1
      have h2 := hR t t0 t1 ht
      omega)
    have vr := qPv_nn (χ := χ) (g := g) (a := a) hW
    by_cases e : g x = qlf T N x
    · rw [if_neg (fun h => h.2 e), if_pos (show hi x = qlf T N x by omega)]
      have := (hz (c - qcs P N x (g x)) (by omega) (by omega)).2 g a (rest _ (by omega))
      have e3 : qun P N zf (qlf T N x) (T (4 * x)) x c (qlf T N x) = zf (c - qcs P N x (g x)) + T (4 * x) := by
        unfold qun
        rw [← e, if_neg (by omega), if_pos rfl]
      omega
    · rw [if_pos ⟨ax, e⟩]
      have := (hz (c - qcs P N x (lo x)) (by omega) (by have := qcs_nn hW x0 x1 (k := lo x) hRx.1 (by omega); omega)).2 g a (rest _ (by omega))
      have e3 : qun P N zf (qlf T N x) (T (4 * x)) x c (lo x) = zf (c - qcs P N x (lo x)) + 0 := by
        unfold qun
        rw [if_neg (by omega), if_neg (by omega)]
      omega
theorem qPb_step {zf : Int → Int → Int} {pr : Int → Int} {M : Int} {I : Int → Prop} {Y : Int → Int → Bool} (hW : qWF nT nH T P E U N) (h9 : ¬ h = 9) (hh : ¬ hs h) (hb : ∀ x, hs x → 0 ≤ x ∧ x < nH) (h0 : 0 ≤ h) (h1' : h < nH) (cn : c ≤ n)
    (hR : ∀ t, 0 ≤ t → t < nT → χ t = true → 0 ≤ lo t ∧ hi t ≤ qlf T N t)
    (hI : ∀ p : Int → Bool, ∃ q, I q ∧ ∀ t, 0 ≤ t → t < nT → Y q t = (χ t && p t))
    (hz : ∀ q, I q → (∀ t, 0 ≤ t → t < nT → Y q t = true → χ t = true) → ∀ c', 0 ≤ c' → c' ≤ n → qPb T P N lo hi nT c' hs (qdf χ (Y q)) (zf q c'))
    (hz0 : qPb T P N lo hi nT c hs χ z)
    (hp : ∀ q, I q → qPr T P N lo hi nT n h (Y q) (pr q))
    (h1 : z ≤ M) (h2 : ∀ q, I q → (∀ t, 0 ≤ t → t < nT → Y q t = true → χ t = true) → (∃ t, 0 ≤ t ∧ t < nT ∧ Y q t = true) → ¬ pr q = -1 → pr q ≤ c → ¬ zf q (c - pr q) = -1 → zf q (c - pr q) + qsB (Y q) (qVa T) nT ≤ M)
    (h3 : M = z ∨ ∃ q, I q ∧ (∀ t, 0 ≤ t → t < nT → Y q t = true → χ t = true) ∧ ¬ pr q = -1 ∧ pr q ≤ c ∧ ¬ zf q (c - pr q) = -1 ∧ M = zf q (c - pr q) + qsB (Y q) (qVa T) nT) : qPb T P N lo hi nT c (fun x => hs x ∨ x = h) χ M := by
  have wn := qw_n hW
  -- values and costs fall apart
  have sc : ∀ (q : Int → Bool) (g : Int → Int), (∀ t, 0 ≤ t → t < nT → q t = true → χ t = true) → qsB χ (fun t => qcs P N t (g t)) nT = qsB q (fun t => qcs P N t (g t)) nT + qsB (qdf χ q) (fun t => qcs P N t (g t)) nT := fun q g hsub => by
    rw [qsB_sp (χ := χ) (p := q) nT wn.1.1]
    congr 1
    exact qsB_cg (fun u u0 u1 => by
      cases e : q u with
      | false => rw [Bool.and_false]
      | true => rw [hsub u u0 u1 e]; rfl) (fun _ _ _ _ => rfl)
  have sv : ∀ (q : Int → Bool) (g a : Int → Int), (∀ t, 0 ≤ t → t < nT → q t = true → χ t = true ∧ a t = h) → qPv T N nT χ g a = qsB q (qVa T) nT + qPv T N nT (qdf χ q) g a := fun q g a hsub => by
    unfold qPv
    rw [qsB_sp (χ := χ) (p := q) nT wn.1.1]
    congr 1
    exact qsB_cg (fun u u0 u1 => by
      cases e : q u with
      | false => rw [Bool.and_false]
      | true => rw [(hsub u u0 u1 e).1]; rfl) (fun u u0 u1 hu => by
        rw [Bool.and_eq_true] at hu
        rw [if_neg (fun hx => h9 (by rw [← (hsub u u0 u1 hu.2).2]; exact hx.1))]
        rfl)
  constructor
  · rcases h3 with e | ⟨q, hq, hsub, q1, q2, q3, e⟩
    · rw [e]
      refine hz0.1.imp id (fun ⟨g, a, ⟨p1, p2, p3⟩, ev⟩ => ⟨g, a, ⟨fun t t0 t1 ht => ⟨(p1 t t0 t1 ht).1, (p1 t t0 t1 ht).2.imp id (fun hx => ⟨Or.inl hx.1, hx.2⟩)⟩, p2, fun x hx => ?_⟩, ev⟩)
      rcases hx with hx | hx
      · exact p3 x hx
      · refine qFe_e (fun u u0 u1 => ?_)
        cases eu : χ u with
        | false => rfl
        | true =>
          rw [Bool.true_and, decide_eq_false_iff_not]
          intro e2
          rcases (p1 u u0 u1 eu).2 with e3 | e3
          · exact h9 (by omega)
          · exact hh (by rw [← hx, ← e2]; exact e3.1)
    · right
      rcases hp q hq with ⟨e1, _⟩ | ⟨⟨r0, r1⟩, ⟨g1, hg1⟩, _⟩
      · exact absurd e1 q1
      · rcases (hz q hq hsub (c - pr q) (by omega) (by omega)).1 with e2 | ⟨g2, a2, ⟨p1, p2, p3⟩, ev⟩
        · exact absurd e2 q3
        · have hdf : ∀ u, qdf χ (Y q) u = true → Y q u = false := fun u hu => by
            unfold qdf at hu
            rw [Bool.and_eq_true, Bool.not_eq_true'] at hu
            exact hu.2
          have din : ∀ u, χ u = true → Y q u = false → qdf χ (Y q) u = true := fun u e1 e2 => by unfold qdf; rw [e1, e2]; rfl
          refine ⟨qmg (Y q) g1 g2, qmx (Y q) h a2, ⟨fun t t0 t1 ht => ?_, ?_, fun x hx => ?_⟩, ?_⟩
          · by_cases e2 : Y q t = true
            · rw [qmg_y e2, qmx_y e2]
              have := hg1.1 t t0 t1 e2
              exact ⟨this.1, Or.inr ⟨Or.inr rfl, this.2⟩⟩
            · have e2 := Bool.eq_false_iff.mpr e2
              rw [qmg_n e2, qmx_n e2]
              have := p1 t t0 t1 (din t ht e2)
              exact ⟨this.1, this.2.imp id (fun hx => ⟨Or.inl hx.1, hx.2⟩)⟩
          · rw [sc (Y q) _ hsub, qsB_cg (χ := Y q) (χ' := Y q) (g := fun t => qcs P N t (g1 t)) (fun _ _ _ => rfl) (fun u u0 u1 hu => by rw [qmg_y hu]), qsB_cg (χ := qdf χ (Y q)) (χ' := qdf χ (Y q)) (g := fun t => qcs P N t (g2 t)) (fun _ _ _ => rfl) (fun u u0 u1 hu => by rw [qmg_n (hdf u hu)])]
            have := hg1.2.1
            omega
          · by_cases ex : x = h
            · rw [ex]
              refine qFe_cg2 wn.1.1 (fun u u0 u1 => ?_) (fun u u0 u1 hu => ?_) hg1.2.2
              · by_cases e2 : Y q u = true
                · rw [qmx_y e2, e2, hsub u u0 u1 e2, decide_eq_true rfl]; rfl
                · have e2 := Bool.eq_false_iff.mpr e2
                  rw [qmx_n e2, e2]
                  cases e3 : χ u with
                  | false => rfl
                  | true =>
                    rw [Bool.true_and]
                    symm
                    rw [decide_eq_false_iff_not]
                    intro e4
                    rcases (p1 u u0 u1 (din u e3 e2)).2 with e5 | e5
                    · exact h9 (by omega)
                    · exact hh (by rw [← e4]; exact e5.1)
              · unfold qAg qGz2
                rw [qmg_y hu]
            · have hx2 : hs x := hx.elim id (fun e => absurd e ex)
              refine qFe_cg2 wn.1.1 (fun u u0 u1 => ?_) (fun u u0 u1 hu => ?_) (p3 x hx2)
              · by_cases e2 : Y q u = true
                · unfold qdf
                  rw [qmx_y e2, e2, decide_eq_false (fun e : h = x => ex e.symm), Bool.not_true, Bool.and_false, Bool.false_and]
                · have e2 := Bool.eq_false_iff.mpr e2
                  unfold qdf
                  rw [qmx_n e2, e2, Bool.not_false, Bool.and_true]
              · rw [Bool.and_eq_true] at hu
                unfold qAg qGz2
                rw [qmg_n (hdf u hu.1)]
          · rw [sv (Y q) _ _ (fun t t0 t1 ht => ⟨hsub t t0 t1 ht, qmx_y ht⟩), e, qPv_cg (χ := qdf χ (Y q)) (χ' := qdf χ (Y q)) (g' := g2) (a' := a2) (fun _ _ _ => rfl) (fun u u0 u1 hu => ⟨qmg_n (hdf u hu), qmx_n (hdf u hu)⟩), ev, Int.add_comm]
  · intro g a hp'
    have hp0 := hp'
    obtain ⟨p1, p2, p3⟩ := hp'
    obtain ⟨q, hq, eq⟩ := hI (fun t => decide (a t = h))
    have hsub : ∀ t, 0 ≤ t → t < nT → Y q t = true → χ t = true := fun t t0 t1 ht => by
      rw [eq t t0 t1, Bool.and_eq_true] at ht
      exact ht.1
    have hah : ∀ t, 0 ≤ t → t < nT → Y q t = true → a t = h := fun t t0 t1 ht => by
      rw [eq t t0 t1, Bool.and_eq_true, decide_eq_true_eq] at ht
      exact ht.2
    have har : ∀ t, 0 ≤ t → t < nT → qdf χ (Y q) t = true → a t = 9 ∨ hs (a t) := fun t t0 t1 ht => by
      unfold qdf at ht
      rw [Bool.and_eq_true, Bool.not_eq_true'] at ht
      rcases (p1 t t0 t1 ht.1).2 with e | ⟨e | e, _⟩
      · exact Or.inl e
      · exact Or.inr e
      · have := eq t t0 t1
        rw [ht.1, ht.2, Bool.true_and, decide_eq_true e] at this
        exact absurd this (by simp)
    have dsub : ∀ t, 0 ≤ t → t < nT → qdf χ (Y q) t = true → χ t = true := fun t t0 t1 ht => by
      unfold qdf at ht
      rw [Bool.and_eq_true] at ht
      exact ht.1
    rw [sc (Y q) g hsub] at p2
    have rest : ∀ c', qsB (qdf χ (Y q)) (fun t => qcs P N t (g t)) nT ≤ c' → qPn T P N lo hi nT c' hs (qdf χ (Y q)) g a := fun c' hc' => qPn_sub wn.1.1 hW hR dsub hc' har (fun x hx => Or.inl hx) (fun x _ hx => (hb x hx).2) (fun x hx => (hb x hx).1) hp0
    have cq := qcost_nn (χ := Y q) (g := g) hW (fun t t0 t1 ht => by
      have a1 := (p1 t t0 t1 (hsub t t0 t1 ht)).1
      have a2 := hR t t0 t1 (hsub t t0 t1 ht)
      omega)
    have cr := qcost_nn (χ := qdf χ (Y q)) (g := g) hW (fun t t0 t1 ht => by
      have a1 := (p1 t t0 t1 (dsub t t0 t1 ht)).1
      have a2 := hR t t0 t1 (dsub t t0 t1 ht)
      omega)
    rw [sv (Y q) g a (fun t t0 t1 ht => ⟨hsub t t0 t1 ht, hah t t0 t1 ht⟩)]
    by_cases hne : ∃ t, 0 ≤ t ∧ t < nT ∧ Y q t = true
    · have hpl : qHp T P N lo hi nT (qsB (Y q) (fun t => qcs P N t (g t)) nT) h (Y q) g := by
        refine ⟨fun t t0 t1 ht => ?_, Int.le_refl _, qFe_cg wn.1.1 (fun u u0 u1 => (eq u u0 u1).symm) (p3 h (Or.inr rfl))⟩
        have := p1 t t0 t1 (hsub t t0 t1 ht)
        refine ⟨this.1, ?_⟩
        rcases this.2 with e | e
        · exact absurd (show h = 9 by rw [← hah t t0 t1 ht]; exact e) h9
        · exact e.2
      rcases hp q hq with ⟨_, e1⟩ | ⟨⟨r0, r1⟩, _, r3⟩
      · exact absurd hpl (e1 _ g (by omega))
      · have pl := r3 _ g hpl
        have hv := (hz q hq hsub (c - pr q) (by omega) (by omega)).2 g a (rest _ (by omega))
        have vr := qPv_nn (χ := qdf χ (Y q)) (g := g) (a := a) hW
        have := h2 q hq hsub hne (by omega) (by omega) (by omega)
        omega
    · have q0 : ∀ u, 0 ≤ u → u < nT → Y q u = false := fun u u0 u1 => by
        cases e : Y q u with
        | false => rfl
        | true => exact absurd ⟨u, u0, u1, e⟩ hne
      rw [qsB_e nT wn.1.1 q0]
      have hv := hz0.2 g a (qPn_cg wn.1.1 (fun u u0 u1 => by unfold qdf; rw [q0 u u0 u1, Bool.not_false, Bool.and_true]) (fun _ _ _ _ => ⟨rfl, rfl⟩) (rest c (by omega)))
      have e0 : qPv T N nT (qdf χ (Y q)) g a = qPv T N nT χ g a := qPv_cg (fun u u0 u1 => by unfold qdf; rw [q0 u u0 u1, Bool.not_false, Bool.and_true]) (fun _ _ _ _ => ⟨rfl, rfl⟩)
      rw [e0]
      omega
end PL2
