/-! B: goBegin and begin of the model -/
def qBf (a : Nat) (k : Int) : Prop := (138 ≤ a ∧ a ≤ 144) ∨ (a = 120 ∧ (k = 45 ∨ k = 49))
def qGs2 (T P N : Int → Int) (nT nH y t : Int) (g : Int → Int) (M : Int) (β : Int → Int) (M' : Int) (β' : Int → Int) : Prop := (M' = M ∧ qex nT β β') ∨ (M < M' ∧ qGd T P N nT nH y M' β' ∧ qex t g β')
/-- plans of a choice are no better -/
def qdpl (T P N : Int → Int) (nT nH y M X : Int) (g : Int → Int) : Prop := ∀ a, qPn T P N (fun _ => 0) (qlf T N) nT y (qhA nH) (qOpn N) g a → qPv T N nT (qOpn N) g a < M ∨ (qPv T N nT (qOpn N) g a = M ∧ X ≤ qhX g nT)
section MB2
variable {xs : List Int32} {d : Nat} {Q : bPo} {b b0 b1 b2 : Bool} {m : Nat → Int → Int} {nT nH : Int} {T P E U N : Int → Int} {t s h k : Int}
variable {γ β β' β2 g g' : Int → Int} {y w M M' M2 : Int} {m' : Nat → Int → Int}
theorem qMR.bf (hM : qMR m nT nH T P E U N) (f : qFr qBf m m') : qMR m' nT nH T P E U N := hM.fr ⟨f 120 26 (by unfold qBf; omega), f 120 27 (by unfold qBf; omega)⟩ (qFr_at f 125 (fun k => by unfold qBf; omega)) (qFr_at f 127 (fun k => by unfold qBf; omega)) (qFr_at f 129 (fun k => by unfold qBf; omega)) (qFr_at f 131 (fun k => by unfold qBf; omega)) (qFr_at f 135 (fun k => by unfold qBf; omega))
theorem qGd_cg (hn : 0 ≤ nT) (hx : qex nT g g') (h : qGd T P N nT nH y M g) : qGd T P N nT nH y M g' := by
  obtain ⟨⟨a, hp, ev⟩, h0⟩ := h
  refine ⟨⟨a, qPn_cg hn (fun _ _ _ => rfl) (fun u u0 u1 _ => ⟨(hx u u0 u1).symm, rfl⟩) hp, ?_⟩, fun t t0 t1 ho => by rw [hx t t0 t1]; exact h0 t t0 t1 ho⟩
  rw [← qPv_cg (g := g) (a := a) (χ := qOpn N) (χ' := qOpn N) (fun _ _ _ => rfl) (fun u u0 u1 _ => ⟨(hx u u0 u1).symm, rfl⟩)]
  exact ev
theorem qGs2_t (hn : 0 ≤ nT) (ht : t ≤ nT) (ha : qex t g g') (h1 : qGs2 T P N nT nH y t g M β M' β') (h2 : qGs2 T P N nT nH y (t + 1) g' M' β' M2 β2) : qGs2 T P N nT nH y t g M β M2 β2 := by
  rcases h2 with ⟨e1, e2⟩ | ⟨f1, f2, f4⟩
  · rcases h1 with ⟨g1, g2⟩ | ⟨g1, g2, g4⟩
    · exact Or.inl ⟨by omega, fun u u0 u1 => (e2 u u0 u1).trans (g2 u u0 u1)⟩
    · exact Or.inr ⟨by omega, by rw [e1]; exact qGd_cg hn e2 g2, fun u u0 u1 => by rw [e2 u u0 (by omega)]; exact g4 u u0 u1⟩
  · refine Or.inr ⟨?_, f2, qex_l f4 ha⟩
    rcases h1 with ⟨g1, _⟩ | ⟨g1, _⟩ <;> omega
theorem qdpl_t (hd : qdpl T P N nT nH y M (qhX β nT) g) (h2 : (M' = M ∧ qex nT β β') ∨ M < M') : qdpl T P N nT nH y M' (qhX β' nT) g := by
  intro a hp
  have := hd a hp
  rcases h2 with ⟨e1, e2⟩ | h2
  · rw [e1, qhX_cg e2]; exact this
  · rcases this with h | h
    · exact Or.inl (by omega)
    · exact Or.inl (by omega)
theorem qGd_d (hW : qWF nT nH T P E U N) (hg' : qGd T P N nT nH y M g) : ∀ u, 0 ≤ u → u < nT → 0 ≤ g u ∧ g u ≤ 9 := fun u u0 u1 => by
  obtain ⟨⟨a, hp, _⟩, h0⟩ := hg'
  by_cases eo : N (6 * u + 2) = 0
  · have h3 : 0 ≤ g u ∧ g u ≤ qlf T N u := (hp.1 u u0 u1 (qOpn_t.mpr eo)).1
    have := qlf_bd hW u0 u1
    omega
  · rw [h0 u u0 u1 eo]; omega
/-- the cost of a prefix -/
def qcpp (P N g : Int → Int) (t : Int) : Int := qsB (qOpn N) (fun u => qcs P N u (g u)) t
theorem qcpp_s (t0 : 0 ≤ t) : qcpp P N g (t + 1) = if N (6 * t + 2) = 0 then qcpp P N g t + qcs P N t (g t) else qcpp P N g t := by
  unfold qcpp
  rw [qsB_s t0]
  by_cases e : N (6 * t + 2) = 0
  · rw [if_pos (qOpn_t.mpr e), if_pos e]
  · rw [if_neg (fun h => e (qOpn_t.mp h)), if_neg e]
theorem qcpp_cg (hx : qex t g g') : qcpp P N g' t = qcpp P N g t := qsB_cg (fun _ _ _ => rfl) (fun u u0 u1 _ => by rw [hx u u0 u1])
theorem qcpp_le (hW : qWF nT nH T P E U N) (hv : ∀ u, 0 ≤ u → u < nT → N (6 * u + 2) = 0 → 0 ≤ g u ∧ g u ≤ qlf T N u) (t0 : 0 ≤ t) : ∀ s, t ≤ s → s ≤ nT → qcpp P N g t ≤ qcpp P N g s := by
  refine qDown ?_
  intro s hs ih s1
  by_cases e : t < s
  · have i := ih e (by omega)
    have ss := qcpp_s (P := P) (N := N) (g := g) (t := s + -1) (by omega)
    rw [show s + -1 + 1 = s by omega] at ss
    rw [ss]
    split
    · rename_i ho
      have h1 := hv (s + -1) (by omega) (by omega) ho
      have := qcs_nn hW (t := s + -1) (by omega) (by omega) h1.1 h1.2
      omega
    · exact i
  · rw [show s = t by omega]; exact Int.le_refl _
theorem d_goBegin {m : Nat → Int → Int} (hW : qWF nT nH T P E U N) (hM : qMR m nT nH T P E U N) (y0 : 0 ≤ y) (y1 : y ≤ 12) : ∀ (n : Nat) (t : Int) (d : Nat) (m1 : Nat → Int → Int) (Q : bPo), t + n = nT → 0 ≤ t → 126 + n ≤ d → qFr qBf m m1 → (∀ g, 0 ≤ g → g < 6 → m1 142 g = 0) → (-1 ≤ m1 120 49 ∧ m1 120 49 ≤ 594) → qVd T N (m1 143) t → qcpp P N (m1 143) t ≤ y → (m1 120 49 = -1 ∨ qhX (m1 144) nT < qhX (m1 143) t * qt10 (nT - t)) → (∀ m', qFr qBf m m' → (∀ g, 0 ≤ g → g < 6 → m' 142 g = 0) → (-1 ≤ m' 120 49 ∧ m' 120 49 ≤ 594) → qex t (m1 143) (m' 143) → qGs2 T P N nT nH y t (m1 143) (m1 120 49) (m1 144) (m' 120 49) (m' 144) → (∀ g, qVd T N g nT → qex t (m1 143) g → qdpl T P N nT nH y (m' 120 49) (qhX (m' 144) nT) g) → Q 0 ((b0, b1, b2), m')) → bGo xs d aM_X12_goBegin 0 [vr 120, vi t, vi (y - qcpp P N (m1 143) t), vn, vn] [] ((b0, b1, b2), m1) Q := by
  have wn := qw_n hW
  have v10 := qt10_v
  intro n
  induction n with
  | zero =>
    intro t d m1 Q hn t0 hd f1 hz hb hV hC hX hQ
    have hM1 := hM.bf f1
    have et : t = nT := by omega
    subst et
    refine r_X12_goBegin_0 (by omega) ?_
    rw [hM1.1]
    refine ⟨by omega, by omega, fun h => absurd rfl h, fun _ => ?_⟩
    suffices H : ∀ k, k ≤ t → 0 ≤ k → ∀ m2, qFr (fun a _ => a = 138) m1 m2 → (∀ u, 0 ≤ u → u < k → m2 138 u = qGz2 N (m1 143) u) → bGo xs d aM_X12_goBegin 13 [vr 120, vn, vn, vi (qsB (qcm T N (m1 143)) (qVa T) k), vi k] [] ((b0, b1, b2), m2) Q by
      have := H 0 t0 (by omega) m1 qFr.refl (fun u a c => by omega)
      rw [qsB_0] at this
      exact this
    refine qUpto ?_
    intro k hk ih k0 m2 f2 he
    have f12 : qFr qBf m m2 := f1.trans (f2.mono (fun a k h => by unfold qBf; omega))
    have hM2 := hM.bf f12
    have e143 : ∀ u, m2 143 u = m1 143 u := fun u => f2 143 u (by omega)
    refine r_X12_goBegin_13 (by omega) ?_
    rw [hM2.1, hM2.2.2.2.2.2.2, hM2.2.2.1, e143]
    refine ⟨by omega, by omega, fun h2 => ?_, fun h2 => ⟨by omega, by omega, by omega, by omega, fun h => by omega, fun _ => ⟨by omega, by omega, fun h => by omega, fun _ => ⟨by omega, ?_⟩⟩⟩⟩
    · have ek : k = t := by omega
      rw [ek] at he ⊢
      refine d_layDeal hW hM2 (qVd_G hW hV) he (fun g a c => by rw [f2 142 g (by omega)]; exact hz g a c) ?_
      intro m3 f3 hz3 hb3 hF hv3 hd3
      obtain ⟨L1, L2⟩ := qLd hW hV hF hv3 hd3
      have f13 : qFr qBf m m3 := f12.trans (f3.mono (fun a k h => by unfold qLy at h; unfold qBf; omega))
      have hM3 := hM.bf f13
      have e49 : m3 120 49 = m1 120 49 := by rw [f3 120 49 (by unfold qLy; omega), f2 120 49 (by omega)]
      have e143' : m3 143 = m1 143 := by rw [qFr_at f3 143 (fun k => by unfold qLy; omega)]; exact funext e143
      have e144' : m3 144 = m1 144 := by rw [qFr_at f3 144 (fun k => by unfold qLy; omega)]; exact qFr_at f2 144 (fun k => by omega)
      have cb := qVa_sum hW (χ := qcm T N (m1 143))
      obtain ⟨a0, hp0, ev0⟩ := L1 y hC
      have vb := qPv_nn (χ := qOpn N) (g := m1 143) (a := a0) hW
      rw [ev0] at vb
      dsimp only
      rw [e49]
      refine ⟨rfl, by omega, by omega, fun h3 => ?_, fun h3 => ?_⟩
      · suffices H : ∀ k, k ≤ t → 0 ≤ k → ∀ m4, qFr qBf m m4 → (∀ g, 0 ≤ g → g < 6 → m4 142 g = 0) → m4 143 = m1 143 → m4 120 49 = qsB (qcm T N (m1 143)) (qVa T) t + m3 120 45 → (∀ u, 0 ≤ u → u < k → m4 144 u = m1 143 u) → bGo xs d aM_X12_goBegin 121 [vr 120, vn, vn, vn, vi k] [] ((b0, b1, b2), m4) Q from H 0 t0 (by omega) _ (qFr_up f13 (by unfold qBf; omega)) (fun g a c => by rw [qup_n (by omega)]; exact hz3 g a c) (by rw [qup_n (by omega)]; exact e143') qup_s (fun u a c => by omega)
        refine qUpto ?_
        intro k2 hk2 ih2 k20 m4 f4 hz4 e143b e49b he4
        have hM4 := hM.bf f4
        refine r_X12_goBegin_121 (by omega) ?_
        rw [hM4.1]
        refine ⟨by omega, by omega, fun h5 => ?_, fun h5 => ⟨by omega, by omega, ?_⟩⟩
        · have ex : qex t (m1 143) (m4 144) := fun u u0 u1 => he4 u u0 (by omega)
          refine hQ m4 f4 hz4 (by rw [e49b]; omega) (fun u _ _ => by rw [e143b]) (Or.inr ⟨by rw [e49b]; exact h3, ?_, ex⟩) (fun g hg hx a hp => ?_)
          · refine qGd_cg t0 ex ⟨⟨a0, hp0, by rw [e49b]; exact ev0⟩, fun u u0 u1 ho => (hV u u0 u1).2 ho⟩
          · have hp' := qPn_cg (g' := m1 143) (a' := a) t0 (fun _ _ _ => rfl) (fun u u0 u1 _ => ⟨hx u u0 u1, rfl⟩) hp
            have h6 := L2 y a hp'
            rw [qPv_cg (g' := m1 143) (a' := a) (χ' := qOpn N) (fun _ _ _ => rfl) (fun u u0 u1 _ => ⟨hx u u0 u1, rfl⟩), e49b, qhX_cg ex, qhX_cg hx]
            omega
        · refine ih2 h5 (by omega) _ (qFr_up f4 (by unfold qBf; omega)) (fun g a c => by rw [qup_n (by omega)]; exact hz4 g a c) (by rw [qup_n (by omega)]; exact e143b) (by rw [qup_n (by omega)]; exact e49b) (fun u a c => ?_)
          rw [qup_if]
          by_cases e : u = k2
          · rw [if_pos e, e, e143b]
          · rw [if_neg e]; exact he4 u a (by omega)
      · refine hQ m3 f13 hz3 (by rw [e49]; exact hb) (fun u _ _ => by rw [e143']) (Or.inl ⟨e49, fun u _ _ => by rw [e144']⟩) (fun g hg hx a hp => ?_)
        have hp' := qPn_cg (g' := m1 143) (a' := a) t0 (fun _ _ _ => rfl) (fun u u0 u1 _ => ⟨hx u u0 u1, rfl⟩) hp
        have h6 := L2 y a hp'
        have h7 := qPv_nn (χ := qOpn N) (g := m1 143) (a := a) hW
        rw [show t - t = 0 by omega, v10.1, Int.mul_one] at hX
        rw [qPv_cg (g' := m1 143) (a' := a) (χ' := qOpn N) (fun _ _ _ => rfl) (fun u u0 u1 _ => ⟨hx u u0 u1, rfl⟩), e49, e144', qhX_cg hx]
        omega
    · have ws := qw_st hW k0 h2
      have wt := qw_t hW k0 h2
      have wd := qw_dn hW k0 h2
      have vk := hV k k0 h2
      have sk := qsB_s (χ := qcm T N (m1 143)) (f := qVa T) k0
      have nx : ∀ z, z = qsB (qcm T N (m1 143)) (qVa T) (k + 1) → bGo xs d aM_X12_goBegin 13 [vr 120, vn, vn, vi z, vi (k + 1)] [] ((b0, b1, b2), up m2 138 k (N (6 * k) + m1 143 k)) Q := fun z hz' => by
        rw [hz']
        refine ih h2 (by omega) _ (qFr_up f2 rfl) (fun u a c => ?_)
        rw [qup_if]
        by_cases e : u = k
        · rw [if_pos e, e]; rfl
        · rw [if_neg e]; exact he u a (by omega)
      have cmk : qcm T N (m1 143) k = true ↔ (N (6 * k + 2) = 0 ∧ N (6 * k) + m1 143 k = T (4 * k + 3)) := by
        unfold qcm
        rw [Bool.and_eq_true, qOpn_t, decide_eq_true_eq]
        unfold qlf
        constructor
        · intro h; exact ⟨h.1, by omega⟩
        · intro h; exact ⟨h.1, by omega⟩
      rw [qup_s]
      refine ⟨by omega, fun e => nx _ ?_, fun e => ⟨by omega, by omega, ?_⟩⟩
      · rw [sk, if_neg (fun h => e (cmk.mp h).1)]; omega
      · have vk1 := vk.1 e
        unfold qlf at vk1
        refine ⟨by omega, by omega, fun e2 => nx _ ?_, fun e2 => ⟨by omega, nx _ ?_⟩⟩
        · rw [sk, if_neg (fun h => e2 (cmk.mp h).2)]; omega
        · rw [sk, if_pos (cmk.mpr ⟨e, e2⟩)]; rfl
  | succ n ih =>
    intro t d m1 Q hn t0 hd f1 hz hb hV hC hX hQ
    have t1 : t < nT := by omega
    have hM1 := hM.bf f1
    have wt := qw_t hW t0 t1
    have wd := qw_dn hW t0 t1
    have ws := qw_st hW t0 t1
    have lb := qlf_bd hW t0 t1
    have tb := qt10_bd (n := nT - (t + 1)) (by omega) (by omega)
    have ts := qt10_s (n := nT - (t + 1)) (by omega) (by omega)
    rw [show nT - (t + 1) + 1 = nT - t by omega] at ts
    -- behind choices below k
    have sub : ∀ (k : Int) (m2 : Nat → Int → Int) (Q' : bPo), 0 ≤ k → k ≤ qlf T N t → (N (6 * t + 2) = 0 ∨ k = 0) → qcpp P N (m1 143) t + (if N (6 * t + 2) = 0 then qcs P N t k else 0) ≤ y → qFr qBf m m2 → (∀ g, 0 ≤ g → g < 6 → m2 142 g = 0) → (-1 ≤ m2 120 49 ∧ m2 120 49 ≤ 594) → qex t (m1 143) (m2 143) → qGs2 T P N nT nH y t (m1 143) (m1 120 49) (m1 144) (m2 120 49) (m2 144) → (m2 120 49 = -1 ∨ qhX (m2 144) nT < (10 * qhX (m1 143) t + k) * qt10 (nT - (t + 1))) → (∀ g, qVd T N g nT → qex t (m1 143) g → g t < k → qdpl T P N nT nH y (m2 120 49) (qhX (m2 144) nT) g) → (∀ m', qFr qBf m m' → (∀ g, 0 ≤ g → g < 6 → m' 142 g = 0) → (-1 ≤ m' 120 49 ∧ m' 120 49 ≤ 594) → qex t (m1 143) (m' 143) → qGs2 T P N nT nH y t (m1 143) (m1 120 49) (m1 144) (m' 120 49) (m' 144) → (m' 120 49 = -1 ∨ qhX (m' 144) nT < (10 * qhX (m1 143) t + (k + 1)) * qt10 (nT - (t + 1))) → (∀ g, qVd T N g nT → qex t (m1 143) g → g t < k + 1 → qdpl T P N nT nH y (m' 120 49) (qhX (m' 144) nT) g) → Q' 0 ((b0, b1, b2), m')) → bGo xs (d - 1) aM_X12_goBegin 0 [vr 120, vi (t + 1), vi (y - (qcpp P N (m1 143) t + (if N (6 * t + 2) = 0 then qcs P N t k else 0))), vn, vn] [] ((b0, b1, b2), up m2 143 t k) Q' := by
      intro k m2 Q' k0 k1 ko kc f2 z2 b2' x2 g2 o2 d2 hQ'
      have e143 : up m2 143 t k 143 = qset (m2 143) t k := qup_f
      have ax : qex t (m1 143) (up m2 143 t k 143) := fun u u0 u1 => by rw [e143, qset_o (by omega)]; exact x2 u u0 u1
      have at1 : up m2 143 t k 143 t = k := qup_s
      have hc : qcpp P N (up m2 143 t k 143) (t + 1) = qcpp P N (m1 143) t + (if N (6 * t + 2) = 0 then qcs P N t k else 0) := by
        rw [qcpp_s t0, at1, qcpp_cg ax]
        split <;> omega
      have hx : qhX (up m2 143 t k 143) (t + 1) = 10 * qhX (m1 143) t + k := by rw [qhX_s t0, at1, qhX_cg ax]
      rw [← hc]
      have hV3 : qVd T N (up m2 143 t k 143) (t + 1) := fun u u0 u1 => by
        by_cases eu : u = t
        · rw [eu, at1]
          exact ⟨fun _ => ⟨k0, k1⟩, fun ho => ko.elim (fun h => absurd h ho) id⟩
        · rw [ax u u0 (by omega)]; exact hV u u0 (by omega)
      refine ih (t + 1) (d - 1) _ Q' (by omega) (by omega) (by omega) (qFr_up f2 (by unfold qBf; omega)) (fun g a c => by rw [qup_n (by omega)]; exact z2 g a c) (by rw [qup_n (by omega)]; exact b2') hV3 (by rw [hc]; exact kc) (by rw [qup_n (by omega), qup_n (by omega), hx]; exact o2) ?_
      intro m' f' z' b' x' g' d'
      rw [qup_n (a := 143) (b := 120) (by omega), qup_n (a := 143) (b := 144) (by omega)] at g'
      have gt := qGs2_t wn.1.1 (by omega) ax g2 g'
      have st : (m' 120 49 = m2 120 49 ∧ qex nT (m2 144) (m' 144)) ∨ m2 120 49 < m' 120 49 := by
        rcases g' with h | h
        · exact Or.inl h
        · exact Or.inr h.1
      refine hQ' m' f' z' b' (fun u u0 u1 => (x' u u0 (by omega)).trans (ax u u0 u1)) gt ?_ (fun g hg hxg hlt => ?_)
      · rcases g' with ⟨e1, e2⟩ | ⟨e1, e2, e4⟩
        · rw [e1, qhX_cg e2]
          rcases o2 with o | o
          · exact Or.inl o
          · exact Or.inr (Int.lt_of_lt_of_le o (Int.mul_le_mul_of_nonneg_right (by omega) (by omega)))
        · right
          have := (qhX_b wn.1.2 (qGd_d hW e2) (show 0 ≤ t + 1 by omega) nT (by omega) (Int.le_refl _)).2
          rw [qhX_cg e4, hx, Int.add_assoc] at this
          exact this
      · by_cases e : g t = k
        · exact d' g hg (qex_s hxg t0 (by rw [e, at1]) ax)
        · exact qdpl_t (d2 g hg hxg (by omega)) st
    refine r_X12_goBegin_0 (by omega) ?_
    rw [hM1.1]
    refine ⟨by omega, by omega, fun _ => ⟨by omega, ?_⟩, fun h => by omega⟩
    have e0 : y - (qcpp P N (m1 143) t + (if N (6 * t + 2) = 0 then qcs P N t 0 else 0)) = y - qcpp P N (m1 143) t := by
      rw [qcs_0, ite_self, Int.add_zero]
    have s0 := sub 0 m1 (fun z1 μ2 => (μ2.1 = (b0, b1, b2)) ∧ ((0 ≤ 6 * t ∧ 6 * t < 67) ∧ (bGo xs d aM_X12_goBegin 175 [vr 120, vi t, vi (y - qcpp P N (m1 143) t), vi 0, vi (μ2.2 135 (6 * t))] [] ((b0, b1, b2), μ2.2) Q))) (by omega) lb.1 (Or.inr rfl) (by rw [qcs_0, ite_self]; omega) f1 hz hb (fun _ _ _ => rfl) (Or.inl ⟨rfl, fun _ _ _ => rfl⟩) (hX.imp id (fun o => by
      rw [ts, Int.mul_left_comm] at o
      rw [Int.add_zero, Int.mul_assoc]
      exact o)) (fun g hg hx hlt => by
        have := (hg t t0 t1)
        by_cases ho : N (6 * t + 2) = 0
        · have := this.1 ho; omega
        · have := this.2 ho; omega) (fun m2 f2 z2 b2' x2 g2 o2 d2 => ⟨rfl, by omega, ?_⟩)
    · rw [e0] at s0
      exact s0
    · have hM2 := hM.bf f2
      dsimp only
      rw [hM2.2.2.2.2.2.2]
      -- more steps
      have fin : ∀ m3, qFr qBf m m3 → (∀ g, 0 ≤ g → g < 6 → m3 142 g = 0) → (-1 ≤ m3 120 49 ∧ m3 120 49 ≤ 594) → qex t (m1 143) (m3 143) → qGs2 T P N nT nH y t (m1 143) (m1 120 49) (m1 144) (m3 120 49) (m3 144) → (∀ g, qVd T N g nT → qex t (m1 143) g → qdpl T P N nT nH y (m3 120 49) (qhX (m3 144) nT) g) → Q 0 ((b0, b1, b2), up m3 143 t 0) := fun m3 f3 z3 b3' x3 g3 d3 => by
        refine hQ _ (qFr_up f3 (by unfold qBf; omega)) (fun g a c => by rw [qup_n (by omega)]; exact z3 g a c) (by rw [qup_n (by omega)]; exact b3') (fun u u0 u1 => by rw [qup_o (by omega)]; exact x3 u u0 u1) (by rw [qup_n (by omega), qup_n (by omega)]; exact g3) (fun g hg hx => by rw [qup_n (by omega), qup_n (by omega)]; exact d3 g hg hx)
      suffices H : ∀ k, k ≤ qlf T N t → 0 ≤ k → (k = 0 ∨ N (6 * t + 2) = 0) → qcpp P N (m1 143) t + qcs P N t k ≤ y → ∀ m3, qFr qBf m m3 → (∀ g, 0 ≤ g → g < 6 → m3 142 g = 0) → (-1 ≤ m3 120 49 ∧ m3 120 49 ≤ 594) → qex t (m1 143) (m3 143) → qGs2 T P N nT nH y t (m1 143) (m1 120 49) (m1 144) (m3 120 49) (m3 144) → (m3 120 49 = -1 ∨ qhX (m3 144) nT < (10 * qhX (m1 143) t + (k + 1)) * qt10 (nT - (t + 1))) → (∀ g, qVd T N g nT → qex t (m1 143) g → g t < k + 1 → qdpl T P N nT nH y (m3 120 49) (qhX (m3 144) nT) g) → bGo xs d aM_X12_goBegin 175 [vr 120, vi t, vi (y - qcpp P N (m1 143) t), vi (qcs P N t k), vi (N (6 * t) + k)] [] ((b0, b1, b2), m3) Q by
        have := H 0 lb.1 (by omega) (Or.inl rfl) (by rw [qcs_0]; omega) m2 f2 z2 b2' x2 g2 o2 d2
        rw [qcs_0, Int.add_zero] at this
        exact this
      refine qUpto ?_
      intro k hk ihk k0 ko kc m3 f3 z3 b3' x3 g3 o3 d3
      have hM3 := hM.bf f3
      have cb := qcs_nn hW t0 t1 k0 hk
      have cpn : 0 ≤ qcpp P N (m1 143) t := qsB_nn t t0 (fun u u0 u1 hu => by
        have h1 := (hV u u0 u1).1 (qOpn_t.mp hu)
        have := qcs_nn hW u0 (show u < nT by omega) h1.1 h1.2
        try dsimp only
        omega)
      refine r_X12_goBegin_175 (by omega) ?_
      rw [hM3.1, hM3.2.2.1, hM3.2.2.2.2.2.2, hM3.2.2.2.1]
      have elf : qlf T N t = T (4 * t + 3) - N (6 * t) := rfl
      refine ⟨by omega, by omega, by omega, fun h3 => ⟨by omega, fin m3 f3 z3 b3' x3 g3 (fun g hg hx => d3 g hg hx ?_)⟩, fun h3 => ⟨by omega, fun h => by omega, fun _ => ⟨by omega, by omega, fun h => by omega, fun _ => ⟨by omega, by omega, fun e => ⟨by omega, fin m3 f3 z3 b3' x3 g3 (fun g hg hx => d3 g hg hx ?_)⟩, fun e => ⟨by omega, ?_⟩⟩⟩⟩⟩
      · by_cases ho : N (6 * t + 2) = 0
        · have := (hg t t0 t1).1 ho; omega
        · have := (hg t t0 t1).2 ho; omega
      · have := (hg t t0 t1).2 e; omega
      · have wp := qw_p hW t0 t1 (s := N (6 * t) + k) (by omega) (by omega)
        have cs := qcs_s (P := P) (N := N) (t := t) k0
        rw [← cs]
        have cb1 := qcs_nn hW t0 t1 (k := k + 1) (by omega) (by omega)
        refine ⟨by omega, by omega, fun h4 => ⟨by omega, by omega, ?_⟩, fun h4 => ⟨by omega, fin m3 f3 z3 b3' x3 g3 (fun g hg hx => ?_)⟩⟩
        · have e1 : y - (qcpp P N (m1 143) t + (if N (6 * t + 2) = 0 then qcs P N t (k + 1) else 0)) = y - qcpp P N (m1 143) t - qcs P N t (k + 1) := by rw [if_pos e]; omega
          have s1 := sub (k + 1) m3 (fun z5 μ6 => (μ6.1 = (b0, b1, b2)) ∧ (bGo xs d aM_X12_goBegin 175 [vr 120, vi t, vi (y - qcpp P N (m1 143) t), vi (qcs P N t (k + 1)), vi (N (6 * t) + k + 1)] [] ((b0, b1, b2), μ6.2) Q)) (by omega) (by omega) (Or.inl e) (by rw [if_pos e]; omega) f3 z3 b3' x3 g3 o3 d3 (fun m4 f4 z4 b4 x4 g4 o4 d4 => ⟨rfl, ?_⟩)
          · rw [e1] at s1
            rw [show N (6 * t) + k - N (6 * t) + 1 = k + 1 by omega]
            exact s1
          · have := ihk (by omega) (by omega) (Or.inr e) (by omega) m4 f4 z4 b4 x4 g4 o4 d4
            rw [← Int.add_assoc] at this
            exact this
        · by_cases e5 : g t < k + 1
          · exact d3 g hg hx e5
          · intro a hp
            exfalso
            have hgv : ∀ u, 0 ≤ u → u < nT → N (6 * u + 2) = 0 → 0 ≤ g u ∧ g u ≤ qlf T N u := fun u u0 u1 ho => (hg u u0 u1).1 ho
            have c1 := qcpp_le hW hgv (show 0 ≤ t + 1 by omega) nT (by omega) (Int.le_refl _)
            have c2 := qcpp_s (P := P) (N := N) (g := g) t0
            rw [if_pos e, qcpp_cg hx] at c2
            have c3 := (qcs_mo hW t0 t1 (j := k + 1) (by omega) (g t) (by omega) (hgv t t0 t1 e).2).1
            have c4 : qcpp P N g nT ≤ y := hp.2.1
            omega
end MB2
