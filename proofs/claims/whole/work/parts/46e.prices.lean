/-! B: what sets cost an heir (class) -/
def qFp (m : Nat → Int → Int) (T P N lo hi pl : Int → Int) (nT y h u : Int) : Prop := ∀ s, 0 ≤ s → s < u → (∀ c, 0 ≤ c → c ≤ y → qQk T P N lo hi nT c h (qX N pl s) (m 91 (s * 13 + c))) ∧ qPr T P N lo hi nT y h (qX N pl s) (m 92 s)
section PRC
variable {xs : List Int32} {d : Nat} {Q : bPo} {b b0 b1 b2 : Bool} {m : Nat → Int → Int} {nT nH : Int} {T P E U N : Int → Int} {t s h k : Int}
variable {pl lo hi : Int → Int} {n x y c w : Int} {m' : Nat → Int → Int} {χ χ' : Int → Bool} {g : Int → Int}
theorem qHp_mo {c' : Int} (hc : c' ≤ c) (hp : qHp T P N lo hi nT c' h χ g) : qHp T P N lo hi nT c h χ g := ⟨hp.1, Int.le_trans hp.2.1 hc, hp.2.2⟩
theorem qHp_c (hW : qWF nT nH T P E U N) (hR : ∀ t, 0 ≤ t → t < nT → χ t = true → 0 ≤ lo t ∧ hi t ≤ qlf T N t) (hp : qHp T P N lo hi nT c h χ g) : 0 ≤ c := by
  have := qcost_nn (χ := χ) (g := g) hW (fun t t0 t1 ht => by
    have a1 := hp.1 t t0 t1 ht
    have a2 := hR t t0 t1 ht
    omega)
  have := hp.2.1
  omega
theorem qHp_rest (hW : qWF nT nH T P E U N) (x0 : 0 ≤ x) (x1 : x < nT) (hx : χ x = false) (hx' : χ' x = true) (ho : ∀ u, 0 ≤ u → u < nT → ¬ u = x → χ' u = χ u) (hl : ∀ u, 0 ≤ u → u < nT → χ u = true → qbf (qRo T) u x = true) (hRx : 0 ≤ lo x ∧ hi x ≤ qlf T N x) (hp : qHp T P N lo hi nT c h χ' g) : qHp T P N lo hi nT c h χ g := by
  have wn := qw_n hW
  obtain ⟨p1, p2, p3⟩ := hp
  have nx : ∀ t, χ t = true → ¬ t = x := fun t ht e => by rw [e, hx] at ht; exact absurd ht (by simp)
  have px := p1 x x0 x1 hx'
  have cn := qcs_nn hW x0 x1 (k := g x) (by omega) (by omega)
  have sm := qsB_one (f := fun t => qcs P N t (g t)) x0 hx hx' nT wn.1.1 ho
  rw [if_pos x1] at sm
  exact ⟨fun t t0 t1 ht => p1 t t0 t1 (by rw [ho t t0 t1 (nx t ht)]; exact ht), by omega, ((qFe_add wn.1.1 x0 x1 hx hx' ho hl).mp p3).1⟩
theorem qRg_X (hr : qRg2 T N lo hi nT) : ∀ t, 0 ≤ t → t < nT → qX N pl s t = true → 0 ≤ lo t ∧ hi t ≤ qlf T N t := fun t t0 t1 ht => by
  unfold qX at ht
  rw [Bool.and_eq_true, decide_eq_true_eq] at ht
  have := hr t t0 t1 ht.1
  omega
theorem c_findPrices (hW : qWF nT nH T P E U N) (hE : qER m (bW b) nT nH T P E U N) (hL : qLs m T N pl n nT) (hR : qRm m T P N lo hi n) (hr : qRg2 T N lo hi nT) (h0 : 0 ≤ h) (h1 : h < nH) (hD : ∀ p, 0 ≤ p → p < n → ∀ k, lo (m 80 p) ≤ k → k ≤ hi (m 80 p) → m 90 (p * 9 + k) = qDd T P N h (m 80 p) k) (y0 : 0 ≤ y) (y1 : y ≤ 12) (hQ : ∀ m', qFr (fun a _ => a = 91 ∨ a = 92) m m' → qFp m' T P N lo hi pl nT y h (bShl 1 n) → Q 0 ((b0, b1, b2), m')) : bC xs 2 28 [vr 85, vr (bW b), vi y] ((b0, b1, b2), m) Q := by
  have wn := qw_n hW
  have hn := qLs_n hW hL
  have wd := qw_day hW
  refine qC rfl fun d hd => r_X2_findPrices_0 hd ?_
  have ex0 : ∀ (c : Int), 0 ≤ c → qHp T P N lo hi nT c h (qX N pl 0) (fun _ => 0) := fun c c0 => ⟨fun t _ _ ht => by rw [qX_0] at ht; exact absurd ht (by simp), by rw [qsB_e nT wn.1.1 (fun u _ _ => qX_0)]; exact c0, qFe_e (fun u _ _ => qX_0)⟩
  -- places
  have L2 : ∀ p, p ≤ n → 0 ≤ p → ∀ m1, qFr (fun a _ => a = 91 ∨ a = 92) m m1 → qFp m1 T P N lo hi pl nT y h (bShl 1 p) → bGo xs d aM_X2_findPrices 29 [vr 85, vr (bW b), vi y, vi p, vn, vn, vn, vn, vn, vn] [] ((b0, b1, b2), m1) Q := by
    refine qUpto ?_
    intro p hp ih p0 m1 f1 hF
    refine r_X2_findPrices_29 hd ?_
    rw [f1 79 5 (by omega), hL.1.1.1]
    refine ⟨by omega, by omega, fun h2 => hQ m1 f1 (by rw [show n = p by omega]; exact hF), fun h2 => ?_⟩
    have pb := qpw (n := p) p0 (by omega)
    have pb2 := qpw_m p0 (show p ≤ 5 by omega) (by omega)
    have e5 : bShl 1 5 = 32 := by decide +kernel
    have ps := qpw_s p0 (show p < 6 by omega)
    have l := hL.1.2.2.1 p p0 h2
    suffices H : ∀ j, j ≤ bShl 1 p → 0 ≤ j → ∀ m1, qFr (fun a _ => a = 91 ∨ a = 92) m m1 → qFp m1 T P N lo hi pl nT y h (bShl 1 p + j) → bGo xs d aM_X2_findPrices 48 [vr 85, vr (bW b), vi y, vi p, vi (bShl 1 p), vi j, vn, vn, vn, vn] [] ((b0, b1, b2), m1) Q from H 0 (by omega) (by omega) m1 f1 (by rw [Int.add_zero]; exact hF)
    refine qUpto ?_
    intro j hj ihj j0 m1 f1 hF
    refine r_X2_findPrices_48 hd ⟨by omega, by omega, fun h3 => ih h2 (by omega) m1 f1 (by rw [ps, show (2 : Int) * bShl 1 p = bShl 1 p + j by omega]; exact hF), fun h3 => ?_⟩
    obtain ⟨a1, a2, a3⟩ := qX_add hL.1 hn.2 p0 h2 j0 h3
    have bef : ∀ u, 0 ≤ u → u < nT → qX N pl j u = true → qbf (qRo T) u (m 80 p) = true := fun u u0 u1 hu => by
      unfold qX at hu
      rw [Bool.and_eq_true, decide_eq_true_eq] at hu
      have hu1 := hL.1.2.1 u u0 u1 hu.1
      refine (hL.1.2.2.2 u (m 80 p) u0 u1 l.1 l.2.1 hu.1 l.2.2.1).mp ?_
      rw [l.2.2.2]
      by_cases e : p ≤ pl u
      · rw [qB_lt j0 p0 (by omega) h3 (pl u) e] at hu
        exact absurd hu.2 (by simp)
      · omega
    have rx := hr (m 80 p) l.1 l.2.1 l.2.2.1
    have hFj := hF j j0 (by omega)
    have rst : ∀ c g, qHp T P N lo hi nT c h (qX N pl (bShl 1 p + j)) g → qHp T P N lo hi nT c h (qX N pl j) g := fun c g hp' => qHp_rest hW l.1 l.2.1 a1 a2 a3 bef ⟨rx.1, rx.2.2⟩ hp'
    have e92 : ∀ (z : Int), up m1 92 (bShl 1 p + j) z 92 j = m1 92 j := fun z => qup_o (by omega)
    -- money
    have L3 : ∀ c, -1 ≤ c → c ≤ y → ∀ gd m2, qFr (fun a _ => a = 91 ∨ a = 92) m m2 → (∀ s c', 0 ≤ s → s < bShl 1 p + j → 0 ≤ c' → c' ≤ y → m2 91 (s * 13 + c') = m1 91 (s * 13 + c')) → (∀ s, 0 ≤ s → s < bShl 1 p + j → m2 92 s = m1 92 s) → (∀ c', c < c' → c' ≤ y → qQk T P N lo hi nT c' h (qX N pl (bShl 1 p + j)) (m2 91 ((bShl 1 p + j) * 13 + c'))) → (-1 ≤ m2 92 (bShl 1 p + j) ∧ m2 92 (bShl 1 p + j) ≤ 12) → ((gd = 1 ∧ ((m2 92 (bShl 1 p + j) = -1 ∧ c = y) ∨ (m2 92 (bShl 1 p + j) = c + 1 ∧ c + 1 ≤ y ∧ ∃ g, qHp T P N lo hi nT (c + 1) h (qX N pl (bShl 1 p + j)) g))) ∨ (gd = 0 ∧ qPr T P N lo hi nT y h (qX N pl (bShl 1 p + j)) (m2 92 (bShl 1 p + j)) ∧ ∀ c' g, c' ≤ c → ¬ qHp T P N lo hi nT c' h (qX N pl (bShl 1 p + j)) g)) → bGo xs d aM_X2_findPrices 91 [vr 85, vr (bW b), vi y, vi p, vi (bShl 1 p), vi j, vi (bShl 1 p + j), vi gd, vi c, vn] [] ((b0, b1, b2), m2) Q := by
      refine qDown ?_
      intro c hc ihc cy gd m2 f2 k91 k92 hq pb' hg
      have hE2 := hE.fl (f2.mono (fun a k h => by omega))
      have ed := qe_day hE2
      have et := qe_t hE2 l.1 l.2.1
      have wt := qw_t hW l.1 l.2.1
      refine r_X2_findPrices_91 hd ⟨by omega, fun h4 => ?_, fun c0 => ⟨by omega, fun e => ?_, fun e => ?_⟩⟩
      · refine ihj h3 (by omega) m2 f2 (fun s s0 s1 => ?_)
        by_cases es : s = bShl 1 p + j
        · rw [es]
          refine ⟨fun c' a b' => hq c' (by omega) b', ?_⟩
          rcases hg with ⟨_, ⟨e1, e2⟩ | ⟨e1, _, e2⟩⟩ | ⟨_, e1, _⟩
          · omega
          · rw [e1, show c + 1 = 0 by omega] at *
            exact Or.inr ⟨by omega, e2, fun c' g hp' => qHp_c hW (qRg_X hr) hp'⟩
          · exact e1
        · have := hF s s0 (by omega)
          refine ⟨fun c' a b' => by rw [k91 s c' s0 (by omega) a b']; exact this.1 c' a b', by rw [k92 s s0 (by omega)]; exact this.2⟩
      · -- already too late
        rcases hg with ⟨e1, _⟩ | ⟨_, e1, e2⟩
        · omega
        · refine ⟨by omega, by omega, by omega, by omega, ihc (by omega) (by omega) 0 _ (qFr_up (qFr_up f2 (by omega)) (by omega)) (fun s c' s0 s1 a b' => ?_) (fun s s0 s1 => ?_) (fun c' a b' => ?_) ?_ (Or.inr ⟨rfl, ?_, fun c' g a => e2 c' g (by omega)⟩)⟩
          · rw [qup_n (by omega), qup_o (by omega)]; exact k91 s c' s0 s1 a b'
          · rw [qup_o (by omega), qup_n (by omega)]; exact k92 s s0 s1
          · rw [qup_n (by omega), qup_if]
            by_cases ec : c' = c
            · rw [if_pos (by omega), ec]; exact Or.inl ⟨rfl, fun g => e2 c g (Int.le_refl _)⟩
            · rw [if_neg (by omega)]; exact hq c' (by omega) b'
          · rw [qup_s]; exact pb'
          · rw [qup_s]; exact e1
      · have hL2 : qLs m2 T N pl n nT := hL.fr (f2 79 5 (by omega)) (qFr_at f2 80 (fun k => by omega)) (qFr_at f2 81 (fun k => by omega)) (qFr_at f2 82 (fun k => by omega))
        have e80 : m2 80 = m 80 := qFr_at f2 80 (fun k => by omega)
        have hR2 : qRm m2 T P N lo hi n := hR.fr e80 (qFr_at f2 86 (fun k => by omega)) (qFr_at f2 87 (fun k => by omega)) (qFr_at f2 88 (fun k => by omega)) (qFr_at f2 89 (fun k => by omega))
        have hz : ∀ c', 0 ≤ c' → c' ≤ y → qQk T P N lo hi nT c' h (qX N pl j) (m2 91 (j * 13 + c')) := fun c' a b' => by rw [k91 j c' j0 (by omega) a b']; exact hFj.1 c' a b'
        refine c_quickestBy hW hL2 hR2 hr h0 h1 p0 h2 (fun k a b' => by rw [e80] at a b' ⊢; rw [f2 90 _ (by omega)]; exact hD p p0 h2 k a b') j0 (by omega) c0 (by omega) (fun c' a b' => qQk_bd hW h0 h1 (qRg_X hr) (hz c' a (by omega))) ?_
        intro w hw wb
        rw [e80] at hw
        have hA := qQk_add (n := y) hW h0 h1 l.1 l.2.1 a1 a2 a3 bef rx cy hz (qRg_X hr) hw
        -- too late now
        have late : ¬ (¬ w = -1 ∧ N 66 + w ≤ T (4 * m 80 p + 1)) → bGo xs d aM_X2_findPrices 91 [vr 85, vr (bW b), vi y, vi p, vi (bShl 1 p), vi j, vi (bShl 1 p + j), vi 0, vi (c + -1), vn] [] ((b0, b1, b2), up (up m2 91 ((bShl 1 p + j) * 13 + c) (-1)) 92 (bShl 1 p + j) (m2 92 (bShl 1 p + j))) Q := by
          intro hno
          have none := hA.2 hno
          have nle : ∀ c' g, c' ≤ c → ¬ qHp T P N lo hi nT c' h (qX N pl (bShl 1 p + j)) g := fun c' g a hp' => none g (qHp_mo a hp')
          refine ihc (by omega) (by omega) 0 _ (qFr_up (qFr_up f2 (by omega)) (by omega)) (fun s c' s0 s1 a b' => ?_) (fun s s0 s1 => ?_) (fun c' a b' => ?_) ?_ (Or.inr ⟨rfl, ?_, fun c' g a => nle c' g (by omega)⟩)
          · rw [qup_n (by omega), qup_o (by omega)]; exact k91 s c' s0 s1 a b'
          · rw [qup_o (by omega), qup_n (by omega)]; exact k92 s s0 s1
          · rw [qup_n (by omega), qup_if]
            by_cases ec : c' = c
            · rw [if_pos (by omega), ec]; exact Or.inl ⟨rfl, none⟩
            · rw [if_neg (by omega)]; exact hq c' (by omega) b'
          · rw [qup_s]; exact pb'
          · rw [qup_s]
            rcases hg with ⟨_, ⟨e1, e2⟩ | ⟨e1, ey, e2⟩⟩ | ⟨e1, _⟩
            · exact Or.inl ⟨e1, fun c' g a => nle c' g (by omega)⟩
            · rw [e1]
              refine Or.inr ⟨by omega, e2, fun c' g hp' => ?_⟩
              by_cases ec : c' ≤ c
              · exact absurd hp' (nle c' g ec)
              · omega
            · exact absurd e1 e
        refine ⟨rfl, by omega, by omega, fun e1 => ⟨by omega, by omega, by omega, late (fun hx => hx.1 e1)⟩, fun e1 => ?_⟩
        dsimp only
        rw [e80, ed, et.2.1]
        refine ⟨by omega, by omega, by omega, fun e2 => ⟨by omega, by omega, by omega, late (fun hx => by omega)⟩, fun e2 => ⟨by omega, by omega, ?_⟩⟩
        have hk := hA.1 ⟨e1, e2⟩
        refine ihc (by omega) (by omega) 1 _ (qFr_up (qFr_up f2 (by omega)) (by omega)) (fun s c' s0 s1 a b' => ?_) (fun s s0 s1 => ?_) (fun c' a b' => ?_) ?_ (Or.inl ⟨rfl, Or.inr ⟨?_, by omega, ?_⟩⟩)
        · rw [qup_n (by omega), qup_o (by omega)]; exact k91 s c' s0 s1 a b'
        · rw [qup_o (by omega), qup_n (by omega)]; exact k92 s s0 s1
        · rw [qup_n (by omega), qup_if]
          by_cases ec : c' = c
          · rw [if_pos (by omega), ec]; exact hk
          · rw [if_neg (by omega)]; exact hq c' (by omega) b'
        · rw [qup_s]; omega
        · rw [qup_s]; omega
        · rw [show c + -1 + 1 = c by omega]
          rcases hk with ⟨e3, _⟩ | ⟨_, ⟨g, hg', _⟩, _⟩
          · exact absurd e3 e1
          · exact ⟨g, hg'⟩
    rw [e92]
    have pr92 : -1 ≤ m1 92 j ∧ m1 92 j ≤ 12 := by
      rcases hFj.2 with ⟨e, _⟩ | ⟨e, _⟩ <;> omega
    have fu : qFr (fun a _ => a = 91 ∨ a = 92) m (up m1 92 (bShl 1 p + j) (-1)) := qFr_up f1 (by omega)
    refine ⟨by omega, by omega, by omega, fun e => ?_, fun e => ?_⟩
    · refine L3 y (by omega) (Int.le_refl _) 0 _ fu (fun s c' _ _ _ _ => by rw [qup_n (by omega)]) (fun s s0 s1 => by rw [qup_o (by omega)]) (fun c' a b' => by omega) (by rw [qup_s]; omega) (Or.inr ⟨rfl, ?_, ?_⟩)
      · rw [qup_s]
        rcases hFj.2 with ⟨_, e1⟩ | ⟨e1, _⟩
        · exact Or.inl ⟨rfl, fun c' g a hp' => e1 c' g a (rst c' g hp')⟩
        · omega
      · intro c' g a hp'
        rcases hFj.2 with ⟨_, e1⟩ | ⟨e1, _⟩
        · exact e1 c' g a (rst c' g hp')
        · omega
    · exact L3 y (by omega) (Int.le_refl _) 1 _ fu (fun s c' _ _ _ _ => by rw [qup_n (by omega)]) (fun s s0 s1 => by rw [qup_o (by omega)]) (fun c' a b' => by omega) (by rw [qup_s]; omega) (Or.inl ⟨rfl, Or.inl ⟨qup_s, rfl⟩⟩)
  suffices H : ∀ c, c ≤ y + 1 → 0 ≤ c → ∀ m1, qFr (fun a _ => a = 91 ∨ a = 92) m m1 → (∀ c', 0 ≤ c' → c' < c → m1 91 c' = 0) → bGo xs d aM_X2_findPrices 2 [vr 85, vr (bW b), vi y, vi c, vn, vn, vn, vn, vn, vn] [] ((b0, b1, b2), m1) Q from H 0 (by omega) (by omega) m qFr.refl (fun c' a b' => by omega)
  refine qUpto ?_
  intro c hc ih c0 m1 f1 he
  refine r_X2_findPrices_2 hd ⟨by omega, by omega, fun h2 => ?_, fun h2 => ⟨by omega, ih (by omega) (by omega) _ (qFr_up f1 (by omega)) (fun c' a b' => ?_)⟩⟩
  · refine L2 0 hn.1 (by omega) _ (qFr_up f1 (by omega)) (fun s s0 s1 => ?_)
    have e0 : bShl 1 0 = 1 := by decide +kernel
    rw [show s = 0 by omega]
    refine ⟨fun c' a b' => ?_, ?_⟩
    · rw [qup_n (by omega), show (0 : Int) * 13 + c' = c' by omega, he c' a (by omega)]
      exact Or.inr ⟨by omega, ⟨_, ex0 c' a, qsB_e nT wn.1.1 (fun u _ _ => qX_0)⟩, fun g _ => by rw [qsB_e nT wn.1.1 (fun u _ _ => qX_0)]; omega⟩
    · rw [qup_s]
      exact Or.inr ⟨by omega, ⟨_, ex0 0 (by omega)⟩, fun c' g hp' => qHp_c hW (qRg_X hr) hp'⟩
  · rw [qup_if]
    by_cases ec : c' = c
    · rw [if_pos ec]
    · rw [if_neg ec]; exact he c' a (by omega)
end PRC
