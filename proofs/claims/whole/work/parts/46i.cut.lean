/-! B: the class cuts ranges; begin -/
def qFb (a : Nat) (k : Int) : Prop := qFl a k ∨ (86 ≤ a ∧ a ≤ 93)
section CUT
variable {xs : List Int32} {d : Nat} {Q : bPo} {b b0 b1 b2 : Bool} {m : Nat → Int → Int} {nT nH : Int} {T P E U N : Int → Int} {t s h k : Int}
variable {pl lo hi hi0 γ : Int → Int} {n y w Z : Int} {m' : Nat → Int → Int}
theorem c_plNo (hL : qLs m T N pl n nT) (hT : nT ≤ 6) (t0 : 0 ≤ t) (t1 : t < nT) (ho : ¬ N (6 * t + 2) = 0) (hQ : Q (-1) ((b0, b1, b2), m)) : bC xs 1 6 [vr 79, vi t] ((b0, b1, b2), m) Q := by
  obtain ⟨⟨⟨l5, ln⟩, l1, l2, l3⟩, _⟩ := hL
  have nb := qno_bd (N := N) (show 0 ≤ nT by omega)
  refine qC rfl fun d hd => r_X1_placeOf_0 hd ?_
  suffices H : ∀ p, p ≤ n → 0 ≤ p → bGo xs d aM_X1_placeOf 2 [vr 79, vi t, vi p] [] ((b0, b1, b2), m) Q from H 0 (by omega) (by omega)
  refine qUpto ?_
  intro p hp ih p0
  refine r_X1_placeOf_2 hd ?_
  rw [l5]
  refine ⟨by omega, by omega, fun h => hQ, fun h => ?_⟩
  have h2 := l2 p p0 h
  refine ⟨by omega, by omega, by omega, fun e => ih h (by omega), fun e => ?_⟩
  rw [e] at h2
  exact absurd h2.2.2.1 ho
theorem qRm_set {k : Int} (hW : qWF nT nH T P E U N) (hL : qLs m T N pl n nT) (hR : qRm m T P N lo hi n) (t0 : 0 ≤ t) (t1 : t < nT) (ho : N (6 * t + 2) = 0) (h80 : m' 80 = m 80) (h88 : m' 88 = m 88) (h89 : m' 89 = m 89) (e86 : m' 86 (pl t) = k) (e87 : m' 87 (pl t) = k) (o86 : ∀ q, ¬ q = pl t → m' 86 q = m 86 q) (o87 : ∀ q, ¬ q = pl t → m' 87 q = m 87 q) : qRm m' T P N (qset lo t k) (qset hi t k) n := by
  intro q q0 q1
  have R := hR q q0 q1
  have l := hL.1.2.2.1 q q0 q1
  have lt := hL.1.2.1 t t0 t1 ho
  rw [h80, h88, h89]
  by_cases e : q = pl t
  · have e2 : m 80 q = t := by rw [e]; exact lt.2.2
    rw [e2] at R ⊢
    rw [qset_s, qset_s, e, e86, e87]
    rw [e] at R
    exact ⟨rfl, rfl, R.2.2⟩
  · have e2 : ¬ m 80 q = t := fun e2 => e (by rw [← e2]; exact l.2.2.2.symm)
    rw [qset_o e2, qset_o e2, o86 q e, o87 q e]
    exact R
theorem qRg2_set {k : Int} (hr : qRg2 T N lo hi nT) (h1 : lo t ≤ k) (h2 : k ≤ hi t) : qRg2 T N (qset lo t k) (qset hi t k) nT := by
  intro u u0 u1 ho
  have := hr u u0 u1 ho
  by_cases e : u = t
  · rw [e, qset_s, qset_s]; rw [e] at this; omega
  · rw [qset_o e, qset_o e]; exact this
theorem qPn_set {k : Int} {g a : Int → Int} (h1 : lo t ≤ k) (h2 : k ≤ hi t) (hp : qPn T P N (qset lo t k) (qset hi t k) nT y (qhA nH) (qOpn N) g a) : qPn T P N lo hi nT y (qhA nH) (qOpn N) g a := by
  refine qPn_lh (fun u u0 u1 hu => ?_) hp
  have := (hp.1 u u0 u1 hu).1
  by_cases e : u = t
  · rw [e, qset_s, qset_s] at this; rw [e]; omega
  · rw [qset_o e, qset_o e] at this; exact this
theorem c_cutRange (hW : qWF nT nH T P E U N) (hE : qER m (bW b) nT nH T P E U N) (hH : 0 < nH) (hL : qLs m T N pl n nT) (hR : qRm m T P N lo hi n) (hr : qRg2 T N lo hi nT) (y0 : 0 ≤ y) (y1 : y ≤ 12) (t0 : 0 ≤ t) (t1 : t < nT) (ho : N (6 * t + 2) = 0) (Z0 : 0 ≤ Z) (Z1 : Z ≤ 594) (hZ : qPb T P N lo hi nT y (qhA nH) (qOpn N) Z) (hQ : ∀ m' k, qFr (fun a _ => 86 ≤ a ∧ a ≤ 93) m m' → qRm m' T P N (qset lo t k) (qset hi t k) n → lo t ≤ k → k ≤ hi t → qPb T P N (qset lo t k) (qset hi t k) nT y (qhA nH) (qOpn N) Z → (∀ g a, qPn T P N lo hi nT y (qhA nH) (qOpn N) g a → qPv T N nT (qOpn N) g a = Z → k ≤ g t) → Q k ((b0, b1, b2), m')) : bC xs 5 23 [vr 85, vr (bW b), vi y, vi (pl t), vi Z] ((b0, b1, b2), m) Q := by
  have wn := qw_n hW
  have hn := qLs_n hW hL
  have lt := hL.1.2.1 t t0 t1 ho
  have Rt := hR (pl t) lt.1 lt.2.1
  rw [lt.2.2] at Rt
  have rt := hr t t0 t1 ho
  have lb := qlf_bd hW t0 t1
  have ot : qOpn N t = true := qOpn_t.mpr ho
  refine qC rfl fun d hd => r_X2_cutRange_0 hd ?_
  rw [Rt.1, Rt.2.1]
  refine ⟨by omega, by omega, ?_⟩
  suffices H : ∀ k, k ≤ hi t → lo t ≤ k → (∀ g a, qPn T P N lo hi nT y (qhA nH) (qOpn N) g a → qPv T N nT (qOpn N) g a = Z → k ≤ g t) → ∀ m1, qFr (fun a _ => 86 ≤ a ∧ a ≤ 93) m m1 → m1 88 = m 88 → m1 89 = m 89 → (∀ q, ¬ q = pl t → m1 86 q = m 86 q ∧ m1 87 q = m 87 q) → bGo xs d aM_X2_cutRange 16 [vr 85, vr (bW b), vi y, vi (pl t), vi Z, vi (hi t), vi k] [] ((b0, b1, b2), m1) Q from H (lo t) rt.2.1 (Int.le_refl _) (fun g a hp _ => (hp.1 t t0 t1 ot).1.1) m qFr.refl rfl rfl (fun _ _ => ⟨rfl, rfl⟩)
  refine qUpto ?_
  intro k hk ih k0 hmin m1 f1 e88 e89 eo
  have f2 : qFr (fun a _ => 86 ≤ a ∧ a ≤ 93) m (up (up m1 86 (pl t) k) 87 (pl t) k) := qFr_up (qFr_up f1 (by omega)) (by omega)
  have hR2 : qRm (up (up m1 86 (pl t) k) 87 (pl t) k) T P N (qset lo t k) (qset hi t k) n := qRm_set hW hL hR t0 t1 ho (by rw [qup_n (by omega), qup_n (by omega)]; exact qFr_at f1 80 (fun k => by omega)) (by rw [qup_n (by omega), qup_n (by omega)]; exact e88) (by rw [qup_n (by omega), qup_n (by omega)]; exact e89) (by rw [qup_n (by omega), qup_s]) qup_s (fun q hq => by rw [qup_n (by omega), qup_o hq]; exact (eo q hq).1) (fun q hq => by rw [qup_o hq, qup_n (by omega)]; exact (eo q hq).2)
  refine r_X2_cutRange_16 hd ⟨by omega, by omega, fun h2 => ?_, fun h2 => ⟨by omega, by omega, ?_⟩⟩
  · have ek : k = hi t := by omega
    rw [ek] at f2 hR2 k0 hmin
    refine ⟨by omega, by omega, hQ _ (hi t) f2 hR2 k0 (Int.le_refl _) ⟨?_, fun g a hp => hZ.2 g a (qPn_set k0 (Int.le_refl _) hp)⟩ hmin⟩
    rcases hZ.1 with e | ⟨g, a, hp, ev⟩
    · omega
    · right
      refine ⟨g, a, qPn_lh (fun u u0 u1 hu => ?_) hp, ev⟩
      have h3 := (hp.1 u u0 u1 hu).1
      by_cases e : u = t
      · rw [e, qset_s, qset_s]
        rw [e] at h3
        have := hmin g a hp ev
        omega
      · rw [qset_o e, qset_o e]; exact h3
  · have hE2 := hE.fl (f2.mono (fun a k h => by omega))
    have hL2 : qLs (up (up m1 86 (pl t) k) 87 (pl t) k) T N pl n nT := hL.fr (f2 79 5 (by omega)) (qFr_at f2 80 (fun k => by omega)) (qFr_at f2 81 (fun k => by omega)) (qFr_at f2 82 (fun k => by omega))
    refine c_mostBegun hW hE2 hH hL2 hR2 (qRg2_set hr k0 hk) y0 y1 ?_
    intro m3 z f3 hz zb
    have f23 : qFr (fun a _ => 86 ≤ a ∧ a ≤ 93) m m3 := f2.trans (f3.mono (fun a k h => by omega))
    refine ⟨rfl, by omega, by omega, fun e => ih h2 (by omega) (fun g a hp ev => ?_) m3 f23 (by rw [qFr_at f3 88 (fun k => by omega), qup_n (by omega), qup_n (by omega)]; exact e88) (by rw [qFr_at f3 89 (fun k => by omega), qup_n (by omega), qup_n (by omega)]; exact e89) (fun q hq => ?_), fun e => ?_⟩
    · have h4 := hmin g a hp ev
      by_cases e5 : g t = k
      · exfalso
        have hp2 : qPn T P N (qset lo t k) (qset hi t k) nT y (qhA nH) (qOpn N) g a := qPn_lh (fun u u0 u1 hu => by
          have h3 := (hp.1 u u0 u1 hu).1
          by_cases eu : u = t
          · rw [eu, qset_s, qset_s]; omega
          · rw [qset_o eu, qset_o eu]; exact h3) hp
        have h5 := hz.2 g a hp2
        rcases hz.1 with e6 | ⟨g', a', hp', ev'⟩
        · omega
        · have := hZ.2 g' a' (qPn_set k0 hk hp')
          omega
      · omega
    · rw [f3 86 q (by omega), f3 87 q (by omega), qup_n (a := 87) (b := 86) (by omega), qup_o hq, qup_o hq, qup_n (a := 86) (b := 87) (by omega)]
      exact eo q hq
    · rw [e] at hz
      have hR3 : qRm m3 T P N (qset lo t k) (qset hi t k) n := hR2.fr (qFr_at f3 80 (fun k => by omega)) (qFr_at f3 86 (fun k => by omega)) (qFr_at f3 87 (fun k => by omega)) (qFr_at f3 88 (fun k => by omega)) (qFr_at f3 89 (fun k => by omega))
      exact hQ m3 k f23 hR3 k0 hk hz hmin
theorem c_begin (hW : qWF nT nH T P E U N) (hE : qER m (bW b0) nT nH T P E U N) (x1 : inR y) (x2 : inR w) (hQ : ∀ m', qFr qFb m m' → Q (qPbg T P N nT nH y w) ((b0, b1, b2), m')) : bC xs 7 153 [vr 0, vi y, vi w] ((b0, b1, b2), m) Q := by
  have wn := qw_n hW
  have en := qe_n hE
  refine qC rfl fun d hd => r_X11_begin_0 hd ?_
  rw [en.1]
  unfold qPbg at hQ
  have hno : ¬ (0 < nT ∧ (0 ≤ y ∧ y ≤ 12) ∧ 0 ≤ w ∧ w ≤ 1) → Q (-1) ((b0, b1, b2), m) := fun hn => by
    have := hQ m qFr.refl
    rw [if_neg hn] at this
    exact this
  refine ⟨by omega, fun e => hno (by omega), fun T0 => ⟨x1, fun e => hno (by omega), fun y0 => ⟨x1, fun e => hno (by omega), fun y1 => ⟨x2, fun e => hno (by omega), fun w0 => ⟨x2, fun w1 => ?_, fun e => hno (by omega)⟩⟩⟩⟩⟩
  rw [if_pos ⟨T0, ⟨y0, y1⟩, w0, w1⟩] at hQ
  have hH : 0 < nH := by omega
  refine qC rfl fun d hd => r_X2_beginBest_0 hd (c_lineUp hW hE ?_)
  intro m1 pl n f1 hL1
  have hE1 := hE.fl (f1.mono (fun a k h => by unfold qFl at h; omega))
  have f1' : qFr qFb m m1 := f1.mono (fun a k h => Or.inl h)
  refine ⟨rfl, c_openRanges hW hE1 hL1 y0 y1 ?_⟩
  intro m2 hi0 f2 hR2 hg
  have f2' : qFr qFb m m2 := f1'.trans (f2.mono (fun a k h => by unfold qFb; omega))
  have hE2 := hE.fl (f2'.mono (fun a k h => by unfold qFb qFl at h; omega))
  have hL2 : qLs m2 T N pl n nT := hL1.fr (f2 79 5 (by omega)) (qFr_at f2 80 (fun k => by omega)) (qFr_at f2 81 (fun k => by omega)) (qFr_at f2 82 (fun k => by omega))
  have hr2 : qRg2 T N (fun _ => 0) hi0 nT := fun t t0 t1 ho => by
    have := hg t t0 t1 ho
    exact ⟨Int.le_refl _, this.1, this.2.1⟩
  refine ⟨rfl, c_mostBegun hW hE2 hH hL2 hR2 hr2 y0 y1 ?_⟩
  intro m3 Z f3 hZ Zb
  have f3' : qFr qFb m m3 := f2'.trans (f3.mono (fun a k h => by unfold qFb; omega))
  have hZ2 : qBm2 T P N nT nH y Z := ⟨Zb.1, qPb_hi hW hg hZ⟩
  have Z0 := qPb_0 hW y0 hZ2.2
  have eZ := qBgZ_e hW hZ2
  rw [eZ] at hQ
  refine ⟨rfl, x2, fun e => ⟨x2, fun e2 => absurd e e2, fun _ => ?_⟩, fun e => ?_⟩
  · rw [if_pos e] at hQ
    exact ⟨rfl, hQ m3 f3'⟩
  · rw [if_neg e] at hQ
    have hE3 := hE.fl (f3'.mono (fun a k h => by unfold qFb qFl at h; omega))
    have hL3 : qLs m3 T N pl n nT := hL2.fr (f3 79 5 (by omega)) (qFr_at f3 80 (fun k => by omega)) (qFr_at f3 81 (fun k => by omega)) (qFr_at f3 82 (fun k => by omega))
    have hR3 : qRm m3 T P N (fun _ => 0) hi0 n := hR2.fr (qFr_at f3 80 (fun k => by omega)) (qFr_at f3 86 (fun k => by omega)) (qFr_at f3 87 (fun k => by omega)) (qFr_at f3 88 (fun k => by omega)) (qFr_at f3 89 (fun k => by omega))
    refine c_mostBegun hW hE3 hH hL3 hR3 hr2 (show (0 : Int) ≤ 0 by omega) (by omega) ?_
    intro m4 z f4 hz zb
    have f4' : qFr qFb m m4 := f3'.trans (f4.mono (fun a k h => by unfold qFb; omega))
    have dig : ∀ g, qGd T P N nT nH y Z g → ∀ u, 0 ≤ u → u < nT → 0 ≤ g u ∧ g u ≤ 9 := fun g hg' u u0 u1 => by
      obtain ⟨⟨a, hp, _⟩, h0⟩ := hg'
      by_cases eo : N (6 * u + 2) = 0
      · have h3 : 0 ≤ g u ∧ g u ≤ qlf T N u := (hp.1 u u0 u1 (qOpn_t.mpr eo)).1
        have := qlf_bd hW u0 u1
        omega
      · rw [h0 u u0 u1 eo]; omega
    refine ⟨rfl, by omega, by omega, fun e2 => ?_, fun e2 => ⟨x2, fun _ => ?_, fun e3 => absurd e3 e⟩⟩
    · -- digit by digit
      dsimp only
      have hL4 : qLs m4 T N pl n nT := hL3.fr (f4 79 5 (by omega)) (qFr_at f4 80 (fun k => by omega)) (qFr_at f4 81 (fun k => by omega)) (qFr_at f4 82 (fun k => by omega))
      have hR4 : qRm m4 T P N (fun _ => 0) hi0 n := hR3.fr (qFr_at f4 80 (fun k => by omega)) (qFr_at f4 86 (fun k => by omega)) (qFr_at f4 87 (fun k => by omega)) (qFr_at f4 88 (fun k => by omega)) (qFr_at f4 89 (fun k => by omega))
      suffices H : ∀ t, t ≤ nT → 0 ≤ t → ∀ (γ : Int → Int) m5, qFr (fun a _ => 86 ≤ a ∧ a ≤ 93) m4 m5 → qRm m5 T P N (qloF γ t) (qhiF γ hi0 t) n → qRg2 T N (qloF γ t) (qhiF γ hi0 t) nT → qPb T P N (qloF γ t) (qhiF γ hi0 t) nT y (qhA nH) (qOpn N) Z → (∀ g, qGd T P N nT nH y Z g → qlx t γ g) → (∀ u, 0 ≤ u → u < t → ¬ N (6 * u + 2) = 0 → γ u = 0) → bGo xs d aM_X2_beginBest 56 [vr 85, vr (bW b0), vi y, vn, vi Z, vi (qhX γ t), vi t, vn] [] ((b0, b1, b2), m5) (fun z1 μ2 => μ2.1 = (b0, b1, b2) ∧ Q z1 ((b0, b1, b2), μ2.2)) by
        have l0 : qloF (fun _ => 0) 0 = fun _ => 0 := by funext u; unfold qloF; split <;> rfl
        have hp0 : ∀ u, 0 ≤ u → qhiF (fun _ => 0) hi0 0 u = hi0 u := fun u u0 => by unfold qhiF; rw [if_neg (by omega)]
        have := H 0 wn.1.1 (by omega) (fun _ => 0) m4 qFr.refl (by
          intro q q0 q1
          have l := hL4.1.2.2.1 q q0 q1
          rw [l0, hp0 _ l.1]
          exact hR4 q q0 q1) (by
          intro u u0 u1 ho
          rw [l0, hp0 u u0]
          exact hr2 u u0 u1 ho) (by
          rw [l0]
          refine ⟨hZ.1.imp id (fun ⟨g, a, hp, ev⟩ => ⟨g, a, qPn_lh (fun u u0 u1 hu => by rw [hp0 u u0]; exact (hp.1 u u0 u1 hu).1) hp, ev⟩), fun g a hp => hZ.2 g a (qPn_lh (fun u u0 u1 hu => by have := (hp.1 u u0 u1 hu).1; rw [hp0 u u0] at this; exact this) hp)⟩) (fun g _ => Or.inr (fun u a c => by omega)) (fun u a c => by omega)
        rw [show qhX (fun _ => 0) 0 = 0 by unfold qhX; rw [qfold_ge (by omega)]] at this
        exact this
      refine qUpto ?_
      intro t ht ih t0 γ m5 f5 hR5 hr5 hZ5 hlx hγ0
      have f5' : qFr qFb m m5 := f4'.trans (f5.mono (fun a k h => by unfold qFb; omega))
      have hE5 := hE.fl (f5'.mono (fun a k h => by unfold qFb qFl at h; omega))
      have en5 := qe_n hE5
      have hL5 : qLs m5 T N pl n nT := hL4.fr (f5 79 5 (by omega)) (qFr_at f5 80 (fun k => by omega)) (qFr_at f5 81 (fun k => by omega)) (qFr_at f5 82 (fun k => by omega))
      refine r_X2_beginBest_56 hd ?_
      rw [en5.1]
      refine ⟨by omega, by omega, fun h2 => ?_, fun t1 => ?_⟩
      · have et : t = nT := by omega
        subst et
        -- the digits are good
        have gd : qGd T P N t nH y Z γ := by
          rcases hZ5.1 with e3 | ⟨g, a, hp, ev⟩
          · omega
          · have eg : ∀ u, 0 ≤ u → u < t → qOpn N u = true → g u = γ u := fun u u0 u1 hu => by
              have h3 := (hp.1 u u0 u1 hu).1
              unfold qloF qhiF at h3
              rw [if_pos u1, if_pos u1] at h3
              omega
            refine ⟨⟨a, qPn_cg t0 (fun _ _ _ => rfl) (fun u u0 u1 hu => ⟨eg u u0 u1 hu, rfl⟩) (qPn_lh (fun u u0 u1 hu => ?_) hp), ?_⟩, hγ0⟩
            · have h3 := (hp.1 u u0 u1 hu).1
              have h4 := hr5 u u0 u1 (qOpn_t.mp hu)
              show 0 ≤ g u ∧ g u ≤ qlf T N u
              omega
            · rw [← qPv_cg (g := g) (a := a) (χ := qOpn N) (χ' := qOpn N) (fun _ _ _ => rfl) (fun u u0 u1 hu => ⟨eg u u0 u1 hu, rfl⟩)]
              exact ev
        have hD : qBd T P N t nH y Z (qhX γ t) := ⟨⟨γ, gd, rfl⟩, fun g hg' => qlx_X t0 wn.1.2 (dig γ gd) (dig g hg') (hlx g hg')⟩
        rw [qBgD_e hW hZ2 hD] at hQ
        exact ⟨rfl, hQ m5 f5'⟩
      · by_cases ho : N (6 * t + 2) = 0
        · have lt := hL5.1.2.1 t t0 t1 ho
          have hn5 := qLs_n hW hL5
          refine c_plOf hL5 wn.1.2 t0 t1 ho ⟨rfl, by omega, fun _ => c_cutRange hW hE5 hH hL5 hR5 hr5 y0 y1 t0 t1 ho Z0 (by omega) hZ5 ?_, fun e3 => by omega⟩
          intro m6 k f6 hR6 k0 k1 hZ6 hmin
          refine ⟨rfl, ?_⟩
          dsimp only
          have := ih t1 (by omega) (qset γ t k) m6 (f5.trans f6) (by rw [← qlo_s, ← qhi_s]; exact hR6) (by rw [← qlo_s, ← qhi_s]; exact qRg2_set hr5 k0 k1) (by rw [← qlo_s, ← qhi_s]; exact hZ6) (fun g hg' => qlx_s t0 (hlx g hg') (fun hx => ?_)) (fun u u0 u1 hu => ?_)
          · rw [qhX_s t0, qset_s, qhX_cg (a := γ) (fun u u0 u1 => qset_o (by omega)), Int.mul_comm] at this
            exact this
          · obtain ⟨⟨a, hp, ev⟩, _⟩ := hg'
            exact hmin g a (qGd_in hW hg hx hp) ev
          · by_cases eu : u = t
            · rw [eu] at hu; exact absurd ho hu
            · rw [qset_o eu]; exact hγ0 u u0 (by omega) hu
        · refine c_plNo hL5 wn.1.2 t0 t1 ho ⟨rfl, by omega, fun e3 => absurd rfl e3, fun _ => ?_⟩
          dsimp only
          have lo2 : ∀ u, 0 ≤ u → u < nT → N (6 * u + 2) = 0 → qloF (qset γ t 0) (t + 1) u = qloF γ t u ∧ qhiF (qset γ t 0) hi0 (t + 1) u = qhiF γ hi0 t u := fun u u0 u1 hu => by
            have ne : ¬ u = t := fun e3 => ho (by rw [← e3]; exact hu)
            rw [← qlo_s, ← qhi_s, qset_o ne, qset_o ne]
            exact ⟨rfl, rfl⟩
          have := ih t1 (by omega) (qset γ t 0) m5 f5 (by
            intro q q0 q1
            have l := hL5.1.2.2.1 q q0 q1
            have := lo2 _ l.1 l.2.1 l.2.2.1
            rw [this.1, this.2]
            exact hR5 q q0 q1) (by
            intro u u0 u1 hu
            rw [(lo2 u u0 u1 hu).1, (lo2 u u0 u1 hu).2]
            exact hr5 u u0 u1 hu) (by
            refine ⟨hZ5.1.imp id (fun ⟨g, a, hp, ev⟩ => ⟨g, a, qPn_lh (fun u u0 u1 hu => by rw [(lo2 u u0 u1 (qOpn_t.mp hu)).1, (lo2 u u0 u1 (qOpn_t.mp hu)).2]; exact (hp.1 u u0 u1 hu).1) hp, ev⟩), fun g a hp => hZ5.2 g a (qPn_lh (fun u u0 u1 hu => by have := (hp.1 u u0 u1 hu).1; rw [(lo2 u u0 u1 (qOpn_t.mp hu)).1, (lo2 u u0 u1 (qOpn_t.mp hu)).2] at this; exact this) hp)⟩) (fun g hg' => qlx_s t0 (hlx g hg') (fun _ => by rw [hg'.2 t t0 t1 ho]; exact Int.le_refl _)) (fun u u0 u1 hu => ?_)
          · rw [qhX_s t0, qset_s, qhX_cg (a := γ) (fun u u0 u1 => qset_o (by omega)), Int.mul_comm] at this
            exact this
          · by_cases eu : u = t
            · rw [eu, qset_s]
            · rw [qset_o eu]; exact hγ0 u u0 (by omega) hu
    · -- nothing begun is as good
      rw [e2] at hz
      have hz2 : qGd T P N nT nH y Z (fun _ => 0) := by
        rcases hz.1 with e3 | ⟨g, a, hp, ev⟩
        · omega
        · have g0 : ∀ u, 0 ≤ u → u < nT → qOpn N u = true → g u = 0 := fun u u0 u1 hu => by
            have hp2 : qPn T P N (fun _ => 0) (qlf T N) nT 0 (qhA nH) (qOpn N) g a := qPn_lh (fun v v0 v1 hv => by
              have h3 := (hp.1 v v0 v1 hv).1
              have h4 := hr2 v v0 v1 (qOpn_t.mp hv)
              exact ⟨h3.1, by omega⟩) hp
            have h0g : qhg T P N (fun _ => 0) nT 0 := fun v v0 v1 hv => by
              have lb := qlf_bd hW v0 v1
              refine ⟨Int.le_refl _, lb.1, by rw [qcs_0]; omega, ?_⟩
              by_cases e5 : (0 : Int) = qlf T N v
              · exact Or.inl e5
              · right
                have := qcs_nn hW v0 v1 (k := 0 + 1) (by omega) (by omega)
                show 0 < qcs P N v (0 + 1)
                omega
            have := qPn_hi hW h0g hp2 u u0 u1 hu
            omega
          refine ⟨⟨a, ?_, ?_⟩, fun _ _ _ _ => rfl⟩
          · have h5 : qPn T P N (fun _ => 0) hi0 nT 0 (qhA nH) (qOpn N) (fun _ => 0) a := qPn_cg wn.1.1 (fun _ _ _ => rfl) (fun u u0 u1 hu => ⟨g0 u u0 u1 hu, rfl⟩) hp
            exact ⟨fun t t0 t1 ht => ⟨⟨Int.le_refl _, (qlf_bd hW t0 t1).1⟩, (h5.1 t t0 t1 ht).2⟩, Int.le_trans h5.2.1 y0, h5.2.2⟩
          · rw [← qPv_cg (g := g) (a := a) (χ := qOpn N) (χ' := qOpn N) (fun _ _ _ => rfl) (fun u u0 u1 hu => ⟨g0 u u0 u1 hu, rfl⟩)]
            exact ev
      have hD : qBd T P N nT nH y Z 0 := by
        have X0 : qhX (fun _ => 0) nT = 0 := by
          unfold qhX
          refine qfold_inv (I := fun _ a => a = 0) ?_ wn.1.1 rfl
          intro i a _ _ ea
          try dsimp only
          omega
        refine ⟨⟨_, hz2, X0⟩, fun g hg' => ?_⟩
        unfold qhX
        refine qfold_inv (I := fun _ a => 0 ≤ a) ?_ wn.1.1 (Int.le_refl _)
        intro i a i0 i1 ea
        have := dig g hg' i i0 i1
        try dsimp only
        omega
      rw [qBgD_e hW hZ2 hD] at hQ
      exact ⟨rfl, hQ m4 f4'⟩
end CUT
