/-! B: the model deals -/
def qCok (T P N G : Int → Int) (nT h s : Int) : Prop := (∀ t, 0 ≤ t → t < nT → qB s t = true → qDl T N G t = true) ∧ qFe (qAg T P N G h) (qRo T) nT (N 66) (fun t => qB s t)
def qCn (m : Nat → Int → Int) (T P N G : Int → Int) (nT nH : Int) : Prop := ∀ h s, 0 ≤ h → h < nH → 0 ≤ s → s < bShl 1 nT → (m 139 (bShl h 6 + s) = 1 ∧ qCok T P N G nT h s) ∨ (m 139 (bShl h 6 + s) = 0 ∧ ¬ qCok T P N G nT h s)
def qMk (m : Nat → Int → Int) (nH t : Int) (a : Int → Int) : Prop := ∀ h, 0 ≤ h → h < nH → (0 ≤ m 142 h ∧ m 142 h < bShl 1 t) ∧ ∀ k, 0 ≤ k → k < t → qB (m 142 h) k = decide (a k = h)
def qDf (a : Nat) (k : Int) : Prop := a = 140 ∨ a = 141 ∨ a = 142 ∨ (a = 120 ∧ k = 45)
theorem qsh6 {h : Int} (h0 : 0 ≤ h) (h1 : h < 6) : bShl h 6 = 64 * h := by
  have H : ∀ h : Fin 6, bShl (h.val : Int) 6 = 64 * (h.val : Int) := by decide +kernel
  obtain ⟨a, rfl⟩ := Int.eq_ofNat_of_zero_le h0
  exact H ⟨a, by omega⟩
/-- behind heirs below h -/
def qRS (T P N G : Int → Int) (nT nH : Int) (m m1 : Nat → Int → Int) (t h : Int) (m2 : Nat → Int → Int) : Prop := qFr qDf m m2 ∧ qex t (m1 140) (m2 140) ∧ (∀ g, 0 ≤ g → g < 6 → m2 142 g = m1 142 g) ∧ (-1 ≤ m2 120 45 ∧ m2 120 45 ≤ 594) ∧ qGs T P N G nT nH t (m1 140) (m1 120 45) (m1 141) (m2 120 45) (m2 141) ∧ (m2 120 45 = -1 ∨ qhX (m2 141) nT < (10 * qhX (m1 140) t + h) * qt10 (nT - (t + 1))) ∧ ∀ e, qFq T P N G nT nH nT e → qex t (m1 140) e → 0 ≤ e t → e t < h → qdo T nT (m2 120 45) (qhX (m2 141) nT) e
section MGD
variable {xs : List Int32} {d : Nat} {Q : bPo} {b b0 b1 b2 : Bool} {m : Nat → Int → Int} {nT nH : Int} {T P E U N : Int → Int} {t s h k : Int}
variable {G : Int → Int} {m' : Nat → Int → Int}
theorem qMR.df (hM : qMR m nT nH T P E U N) (f : qFr qDf m m') : qMR m' nT nH T P E U N := hM.fr ⟨f 120 26 (by unfold qDf; omega), f 120 27 (by unfold qDf; omega)⟩ (qFr_at f 125 (fun k => by unfold qDf; omega)) (qFr_at f 127 (fun k => by unfold qDf; omega)) (qFr_at f 129 (fun k => by unfold qDf; omega)) (qFr_at f 131 (fun k => by unfold qDf; omega)) (qFr_at f 135 (fun k => by unfold qDf; omega))
/-- a mask with one more -/
theorem qMk_a {m1 : Nat → Int → Int} (hk : qMk m1 nH t (m1 140)) (t0 : 0 ≤ t) (t1 : t < 6) (h0 : 0 ≤ h) (h1 : h < nH) : (0 ≤ bOrr (m1 142 h) (bShl 1 t) ∧ bOrr (m1 142 h) (bShl 1 t) < bShl 1 (t + 1)) ∧ ∀ k, 0 ≤ k → k < 6 → qB (bOrr (m1 142 h) (bShl 1 t)) k = (decide (k < t + 1) && decide (qset (m1 140) t h k = h)) := by
  obtain ⟨⟨a0, a1⟩, a2⟩ := hk h h0 h1
  have ps := qpw_s t0 t1
  rw [qOr_add a0 t0 t1 a1]
  refine ⟨by omega, fun k k0 k1 => ?_⟩
  rw [qB_add a0 t0 t1 a1 k0 k1]
  by_cases e : k = t
  · rw [e, decide_eq_true rfl, Bool.or_true, qset_s, decide_eq_true rfl, decide_eq_true (by omega)]; rfl
  · rw [decide_eq_false e, Bool.or_false, qset_o e]
    by_cases e2 : k < t
    · rw [a2 k k0 e2, decide_eq_true (show k < t + 1 by omega), Bool.true_and]
    · rw [qB_lt a0 t0 (by omega) a1 k (by omega), decide_eq_false (show ¬ k < t + 1 by omega), Bool.false_and]
theorem d_goDeal {m : Nat → Int → Int} (hW : qWF nT nH T P E U N) (hM : qMR m nT nH T P E U N) (hG : qGok T G nT) (hm : ∀ t, 0 ≤ t → t < nT → m 138 t = G t) (hC : qCn m T P N G nT nH) : ∀ (n : Nat) (t : Int) (d : Nat) (m1 : Nat → Int → Int) (Q : bPo), t + n = nT → 0 ≤ t → 5 + n ≤ d → qFr qDf m m1 → (-1 ≤ m1 120 45 ∧ m1 120 45 ≤ 594) → qFq T P N G nT nH t (m1 140) → qMk m1 nH t (m1 140) → (m1 120 45 = -1 ∨ qhX (m1 141) nT < qhX (m1 140) t * qt10 (nT - t)) → (∀ m', qFr qDf m m' → qex t (m1 140) (m' 140) → (∀ g, 0 ≤ g → g < 6 → m' 142 g = m1 142 g) → (-1 ≤ m' 120 45 ∧ m' 120 45 ≤ 594) → qGs T P N G nT nH t (m1 140) (m1 120 45) (m1 141) (m' 120 45) (m' 141) → (∀ e, qFq T P N G nT nH nT e → qex t (m1 140) e → qdo T nT (m' 120 45) (qhX (m' 141) nT) e) → Q 0 ((b0, b1, b2), m')) → bGo xs d aM_X12_goDeal 0 [vr 120, vi t, vi (qvA T (m1 140) t), vn] [] ((b0, b1, b2), m1) Q := by
  have wn := qw_n hW
  have wb := qpw (n := nT) wn.1.1 wn.1.2
  have v10 := qt10_v
  intro n
  induction n with
  | zero =>
    intro t d m1 Q hn t0 hd f1 hb hF hK hX hQ
    have hM1 := hM.df f1
    have et : t = nT := by omega
    subst et
    have vb := qvA_bd (a := m1 140) hW t0 (Int.le_refl _)
    refine r_X12_goDeal_0 (by omega) ?_
    rw [hM1.1]
    refine ⟨by omega, by omega, fun h => absurd rfl h, fun _ => ⟨by omega, by omega, fun h2 => ?_, fun h2 => ?_⟩⟩
    · suffices H : ∀ k, k ≤ t → 0 ≤ k → ∀ m2, qFr qDf m m2 → m2 140 = m1 140 → m2 142 = m1 142 → m2 120 45 = qvA T (m1 140) t → (∀ u, 0 ≤ u → u < k → m2 141 u = m1 140 u) → bGo xs d aM_X12_goDeal 24 [vr 120, vn, vn, vi k] [] ((b0, b1, b2), m2) Q from H 0 t0 (by omega) _ (qFr_up f1 (by unfold qDf; omega)) (qup_n (by omega)) (qup_n (by omega)) qup_s (fun u a c => by omega)
      refine qUpto ?_
      intro k hk ih k0 m2 f2 e140 e142 e45 he
      have hM2 := hM.df f2
      refine r_X12_goDeal_24 (by omega) ?_
      rw [hM2.1]
      refine ⟨by omega, by omega, fun h3 => ?_, fun h3 => ⟨by omega, by omega, ?_⟩⟩
      · have ex : qex t (m1 140) (m2 141) := fun u u0 u1 => he u u0 (by omega)
        refine hQ m2 f2 (fun u _ _ => by rw [e140]) (fun g _ _ => by rw [e142]) (by rw [e45]; omega) (Or.inr ⟨by rw [e45]; exact h2, qFq_cg t0 (Int.le_refl _) ex hF, by rw [e45, qvA_cg ex], ex⟩) (fun e hFe hx => Or.inr ⟨by rw [e45, qvA_cg hx], ?_⟩)
        rw [qhX_cg ex, qhX_cg hx]
        exact Int.le_refl _
      · refine ih h3 (by omega) _ (qFr_up f2 (by unfold qDf; omega)) (by rw [qup_n (by omega)]; exact e140) (by rw [qup_n (by omega)]; exact e142) (by rw [qup_n (by omega)]; exact e45) (fun u a c => ?_)
        rw [qup_if]
        by_cases e : u = k
        · rw [if_pos e, e, e140]
        · rw [if_neg e]; exact he u a (by omega)
    · refine hQ m1 f1 (fun _ _ _ => rfl) (fun _ _ _ => rfl) hb (Or.inl ⟨rfl, fun _ _ _ => rfl⟩) (fun e hFe hx => ?_)
      rw [show t - t = 0 by omega, v10.1, Int.mul_one] at hX
      have e1 := qvA_cg (T := T) hx
      have e2 := qhX_cg hx
      unfold qdo
      omega
  | succ n ih =>
    intro t d m1 Q hn t0 hd f1 hb hF hK hX hQ
    have t1 : t < nT := by omega
    have hM1 := hM.df f1
    have wt := qw_t hW t0 t1
    have ws := qw_st hW t0 t1
    have hGt := hG t t0 t1
    have tb := qt10_bd (n := nT - (t + 1)) (by omega) (by omega)
    have ts := qt10_s (n := nT - (t + 1)) (by omega) (by omega)
    rw [show nT - (t + 1) + 1 = nT - t by omega] at ts
    -- one heir, or nobody
    have sub : ∀ (c : Int) (m2 m3 : Nat → Int → Int) (Q' : bPo), (0 ≤ c ∧ c ≤ 9) → qRS T P N G nT nH m m1 t c m2 → (c = 9 ∨ (c < nH ∧ qDl T N G t = true ∧ qCok T P N G nT c (bOrr (m1 142 c) (bShl 1 t)))) → qFr qDf m m3 → m3 140 = qset (m2 140) t c → m3 141 = m2 141 → m3 120 45 = m2 120 45 → (∀ g, 0 ≤ g → g < 6 → m3 142 g = if g = c then bOrr (m1 142 g) (bShl 1 t) else m1 142 g) → (∀ m', qFr qDf m m' → qex t (m1 140) (m' 140) → (∀ g, 0 ≤ g → g < 6 → m' 142 g = if g = c then bOrr (m1 142 g) (bShl 1 t) else m1 142 g) → (-1 ≤ m' 120 45 ∧ m' 120 45 ≤ 594) → qGs T P N G nT nH t (m1 140) (m1 120 45) (m1 141) (m' 120 45) (m' 141) → (m' 120 45 = -1 ∨ qhX (m' 141) nT < (10 * qhX (m1 140) t + (c + 1)) * qt10 (nT - (t + 1))) → (∀ e, qFq T P N G nT nH nT e → qex t (m1 140) e → ((0 ≤ e t ∧ e t < c) ∨ e t = c) → qdo T nT (m' 120 45) (qhX (m' 141) nT) e) → Q' 0 ((b0, b1, b2), m')) → bGo xs (d - 1) aM_X12_goDeal 0 [vr 120, vi (t + 1), vi (if c = 9 then qvA T (m1 140) t else qvA T (m1 140) t + T (4 * t)), vn] [] ((b0, b1, b2), m3) Q' := by
      intro c m2 m3 Q' c09 hRS hc f3 e140 e141 e45 e142 hQ'
      obtain ⟨f2, x2, k2, b2', g2, o2, dm2⟩ := hRS
      have ax : qex t (m1 140) (m3 140) := fun u u0 u1 => by rw [e140, qset_o (by omega)]; exact x2 u u0 u1
      have at1 : m3 140 t = c := by rw [e140, qset_s]
      have hv : qvA T (m3 140) (t + 1) = if c = 9 then qvA T (m1 140) t else qvA T (m1 140) t + T (4 * t) := by
        rw [qvA_s t0, at1, qvA_cg ax]
      have hx : qhX (m3 140) (t + 1) = 10 * qhX (m1 140) t + c := by rw [qhX_s t0, at1, qhX_cg ax]
      rw [← hv]
      have hF3 : qFq T P N G nT nH (t + 1) (m3 140) := by
        refine ⟨fun u u0 u1 => ?_, fun g g0 g1 => ?_⟩
        · by_cases eu : u = t
          · rw [eu, at1]
            rcases hc with e | e
            · exact Or.inl e
            · exact Or.inr ⟨e.2.1, c09.1, e.1⟩
          · rw [ax u u0 (by omega)]; exact hF.1 u u0 (by omega)
        · by_cases eg : g = c
          · rcases hc with e | ⟨e1, e2, e3⟩
            · omega
            · refine qFe_cg wn.1.1 (fun u u0 u1 => ?_) (by rw [eg]; exact e3.2)
              obtain ⟨_, a2⟩ := qMk_a hK t0 (by omega) c09.1 e1
              try dsimp only
              rw [a2 u u0 (by omega), eg]
              by_cases eu : u = t
              · rw [eu, qset_s, at1]
              · by_cases eu2 : u < t
                · rw [qset_o eu, ax u u0 eu2]
                · rw [decide_eq_false (show ¬ u < t + 1 by omega), Bool.false_and, Bool.false_and]
          · refine qFe_cg wn.1.1 (fun u u0 u1 => ?_) (hF.2 g g0 g1)
            try dsimp only
            by_cases eu : u = t
            · rw [eu, at1, decide_eq_false (show ¬ t < t by omega), decide_eq_false (fun e : c = g => eg e.symm), Bool.false_and, Bool.and_false]
            · by_cases eu2 : u < t
              · rw [decide_eq_true eu2, decide_eq_true (show u < t + 1 by omega), ax u u0 eu2]
              · rw [decide_eq_false eu2, decide_eq_false (show ¬ u < t + 1 by omega), Bool.false_and, Bool.false_and]
      have hK3 : qMk m3 nH (t + 1) (m3 140) := by
        intro g g0 g1
        have ps := qpw_s t0 (show t < 6 by omega)
        rw [e142 g g0 (by omega)]
        by_cases eg : g = c
        · rw [if_pos eg]
          obtain ⟨a1, a2⟩ := qMk_a hK t0 (by omega) g0 g1
          refine ⟨a1, fun k k0 k1 => ?_⟩
          rw [a2 k k0 (by omega), decide_eq_true k1, Bool.true_and]
          by_cases ek : k = t
          · rw [ek, qset_s, at1, eg]
          · rw [qset_o ek, ax k k0 (by omega)]
        · rw [if_neg eg]
          obtain ⟨⟨a0, a1⟩, a2⟩ := hK g g0 g1
          refine ⟨⟨a0, by omega⟩, fun k k0 k1 => ?_⟩
          by_cases ek : k = t
          · rw [ek, qB_lt a0 t0 (by omega) a1 t (by omega), at1, decide_eq_false (fun e : c = g => eg e.symm)]
          · rw [a2 k k0 (by omega), ax k k0 (by omega)]
      refine ih (t + 1) (d - 1) m3 Q' (by omega) (by omega) (by omega) f3 (by rw [e45]; exact b2') hF3 hK3 (by rw [e45, e141, hx]; exact o2) ?_
      intro m' f' x' k' b' g' d'
      rw [e45, e141] at g'
      have gt := qGs_t wn.1.1 (by omega) ax g2 g'
      have st : (m' 120 45 = m2 120 45 ∧ qex nT (m2 141) (m' 141)) ∨ m2 120 45 < m' 120 45 := by
        rcases g' with h | h
        · exact Or.inl h
        · exact Or.inr h.1
      refine hQ' m' f' (fun u u0 u1 => (x' u u0 (by omega)).trans (ax u u0 u1)) (fun g g0 g1 => by rw [k' g g0 g1, e142 g g0 g1]) b' gt ?_ (fun e hFe hxe hct => ?_)
      · rcases g' with ⟨e1, e2⟩ | ⟨e1, e2, e3, e4⟩
        · rw [e1, qhX_cg e2]
          rcases o2 with o | o
          · exact Or.inl o
          · refine Or.inr (Int.lt_of_lt_of_le o (Int.mul_le_mul_of_nonneg_right (by omega) (by omega)))
        · right
          have := (qhX_b wn.1.2 (qFq_d wn.2.1.2 e2) (show 0 ≤ t + 1 by omega) nT (by omega) (Int.le_refl _)).2
          rw [qhX_cg e4, hx, Int.add_assoc] at this
          exact this
      · rcases hct with h | h
        · exact qdo_t (dm2 e hFe hxe h.1 h.2) st
        · exact d' e hFe (qex_s hxe t0 (by rw [h, at1]) ax)
    -- nobody
    have nob : ∀ (h : Int) (m2 : Nat → Int → Int), h ≤ nH → qRS T P N G nT nH m m1 t h m2 → (h = nH ∨ ¬ qDl T N G t = true) → bGo xs (d - 1) aM_X12_goDeal 0 [vr 120, vi (t + 1), vi (qvA T (m1 140) t), vn] [] ((b0, b1, b2), up m2 140 t 9) (fun z1 μ2 => (μ2.1 = (b0, b1, b2)) ∧ (Q 0 ((b0, b1, b2), μ2.2))) := by
      intro h m2 hh hRS hfin
      obtain ⟨f2, x2, k2, b2', g2, o2, dm2⟩ := hRS
      have cov : ∀ e, qFq T P N G nT nH nT e → (0 ≤ e t ∧ e t < h) ∨ e t = 9 := fun e hFe => by
        rcases hFe.1 t t0 t1 with e1 | ⟨e1, e2, e3⟩
        · exact Or.inr e1
        · rcases hfin with e4 | e4
          · exact Or.inl (by omega)
          · exact absurd e1 e4
      have hRS9 : qRS T P N G nT nH m m1 t 9 m2 := ⟨f2, x2, k2, b2', g2, o2.imp id (fun o => Int.lt_of_lt_of_le o (Int.mul_le_mul_of_nonneg_right (by omega) (by omega))), fun e hFe hx h0' h1' => (cov e hFe).elim (fun hc => dm2 e hFe hx hc.1 hc.2) (fun hc => by omega)⟩
      have := sub 9 m2 (up m2 140 t 9) (fun z1 μ2 => (μ2.1 = (b0, b1, b2)) ∧ (Q 0 ((b0, b1, b2), μ2.2))) (by omega) hRS9 (Or.inl rfl) (qFr_up f2 (by unfold qDf; omega)) qup_f (qup_n (by omega)) (by rw [qup_n (by omega)]) (fun g g0 g1 => by rw [qup_n (by omega), if_neg (by omega)]; exact k2 g g0 g1) (fun m' f' x' k' b' g' o' d' => ⟨rfl, hQ m' f' x' (fun g g0 g1 => by rw [k' g g0 g1, if_neg (by omega)]) b' g' (fun e hFe hx => d' e hFe hx ?_)⟩)
      · rw [if_pos rfl] at this
        exact this
      · rcases cov e hFe with hc | hc
        · exact Or.inl (by omega)
        · exact Or.inr hc
    refine r_X12_goDeal_0 (by omega) ?_
    rw [hM1.1]
    refine ⟨by omega, by omega, fun _ => ?_, fun h => by omega⟩
    suffices H : ∀ h, h ≤ nH → 0 ≤ h → ∀ m2, qRS T P N G nT nH m m1 t h m2 → bGo xs d aM_X12_goDeal 53 [vr 120, vi t, vi (qvA T (m1 140) t), vi h] [] ((b0, b1, b2), m2) Q by
      refine H 0 wn.2.1.1 (by omega) m1 ⟨f1, fun _ _ _ => rfl, fun _ _ _ => rfl, hb, Or.inl ⟨rfl, fun _ _ _ => rfl⟩, hX.imp id (fun o => ?_), fun e _ _ a c => by omega⟩
      rw [ts, Int.mul_left_comm] at o
      rw [Int.add_zero, Int.mul_assoc]
      exact o
    refine qUpto ?_
    intro h hh ihh h0 m2 hRS
    have hM2 := hM.df hRS.1
    have e138 : m2 138 t = G t := by rw [hRS.1 138 t (by unfold qDf; omega)]; exact hm t t0 t1
    refine r_X12_goDeal_53 (by omega) ?_
    rw [hM2.2.1, hM2.2.2.2.2.2.2, e138, hM2.2.2.1]
    refine ⟨by omega, by omega, fun h2 => ⟨by omega, nob h m2 hh hRS (Or.inl (by omega))⟩, fun h1 => ⟨by omega, by omega, fun e => ⟨by omega, nob h m2 hh hRS (Or.inr (fun hd => ?_))⟩, fun e => ⟨by omega, by omega, by omega, by omega, fun e2 => ⟨by omega, nob h m2 hh hRS (Or.inr (fun hd => ?_))⟩, fun e2 => ⟨by omega, ?_⟩⟩⟩⟩
    · unfold qDl at hd
      rw [decide_eq_true_eq] at hd
      exact e hd.1
    · unfold qDl at hd
      rw [decide_eq_true_eq] at hd
      omega
    · have hdl : qDl T N G t = true := by unfold qDl; rw [decide_eq_true_eq]; exact ⟨e, e2⟩
      obtain ⟨f2, x2, k2, b2', g2, o2, dm2⟩ := hRS
      have kh := k2 h h0 (by omega)
      obtain ⟨⟨s0, s1⟩, s2⟩ := qMk_a hK t0 (show t < 6 by omega) h0 h1
      have sm := qpw_m (p := t + 1) (q := nT) (by omega) (by omega) wn.1.2
      have e6 := qsh6 h0 (show h < 6 by omega)
      have e139 : ∀ i, m2 139 i = m 139 i := fun i => f2 139 i (by unfold qDf; omega)
      rw [kh, e139]
      have hc := hC h (bOrr (m1 142 h) (bShl 1 t)) h0 h1 s0 (by omega)
      refine ⟨by omega, by omega, fun e3 => ⟨by omega, by omega, by omega, by omega, ?_⟩, fun e3 => ihh h1 (by omega) m2 ⟨f2, x2, k2, b2', g2, o2.imp id (fun o => Int.lt_of_lt_of_le o (Int.mul_le_mul_of_nonneg_right (by omega) (by omega))), fun a hFa hx ha0 ha1 => ?_⟩⟩
      · rcases hc with ⟨_, hok⟩ | ⟨hz, _⟩
        · have := sub h m2 (up (up m2 142 h (bOrr (m1 142 h) (bShl 1 t))) 140 t h) (fun z7 μ8 => (μ8.1 = (b0, b1, b2)) ∧ ((0 ≤ h ∧ h < 6) ∧ ((0 ≤ h ∧ h < 6) ∧ (bGo xs d aM_X12_goDeal 53 [vr 120, vi t, vi (qvA T (m1 140) t), vi (h + 1)] [] ((b0, b1, b2), up μ8.2 142 h (bAnd (μ8.2 142 h) (bXor (bShl 1 t) (-1)))) Q)))) (by omega) ⟨f2, x2, k2, b2', g2, o2, dm2⟩ (Or.inr ⟨h1, hdl, hok⟩) (qFr_up (qFr_up f2 (by unfold qDf; omega)) (by unfold qDf; omega)) (by rw [qup_f, qup_n (by omega)]) (by rw [qup_n (by omega), qup_n (by omega)]) (by rw [qup_n (by omega), qup_n (by omega)]) (fun g g0 g1 => by
              rw [qup_n (by omega), qup_if]
              by_cases eg : g = h
              · rw [if_pos eg, if_pos eg, eg]
              · rw [if_neg eg, if_neg eg]; exact k2 g g0 g1) (fun m' f' x' k' b' g' o' d' => ⟨rfl, by omega, by omega, ?_⟩)
          · rw [if_neg (by omega)] at this
            exact this
          · have kh' := k' h h0 (by omega)
            rw [if_pos rfl] at kh'
            have er : bAnd (m' 142 h) (bXor (bShl 1 t) (-1)) = m1 142 h := by
              obtain ⟨⟨a0, a1⟩, a2⟩ := hK h h0 h1
              have pt := qpw_m (p := t) (q := 6) t0 (by omega) (by omega)
              have p6 : bShl 1 6 = 64 := by decide +kernel
              rw [kh']
              obtain ⟨⟨r0, r1, _⟩, r3⟩ := qrm s0 (by omega) t0 (show t < 6 by omega)
              refine qB_ext r0 (by omega) a0 (by omega) (fun k k0 k1 => ?_)
              rw [r3 k k0 k1, s2 k k0 k1]
              by_cases ek : k = t
              · rw [ek, decide_eq_true rfl, Bool.not_true, Bool.and_false, qB_lt a0 t0 (by omega) a1 t (by omega)]
              · rw [decide_eq_false ek, Bool.not_false, Bool.and_true, qset_o ek]
                by_cases ek2 : k < t
                · rw [decide_eq_true (show k < t + 1 by omega), Bool.true_and, a2 k k0 ek2]
                · rw [decide_eq_false (show ¬ k < t + 1 by omega), Bool.false_and, qB_lt a0 t0 (by omega) a1 k (by omega)]
            dsimp only
            rw [er]
            refine ihh h1 (by omega) _ ⟨qFr_up f' (by unfold qDf; omega), ?_, ?_, ?_, ?_, ?_, ?_⟩
            · rw [qup_n (by omega)]; exact x'
            · intro g g0 g1
              rw [qup_if]
              by_cases eg : g = h
              · rw [if_pos eg, eg]
              · rw [if_neg eg, k' g g0 g1, if_neg eg]
            · rw [qup_n (by omega)]; exact b'
            · rw [qup_n (by omega), qup_n (by omega)]; exact g'
            · rw [qup_n (by omega), qup_n (by omega)]; exact o'
            · intro a hFa hx ha0 ha1
              rw [qup_n (by omega), qup_n (by omega)]
              exact d' a hFa hx (by omega)
        · exact absurd hz e3
      · rcases hc with ⟨hz, _⟩ | ⟨_, hno⟩
        · omega
        · by_cases eh : a t = h
          · exfalso
            have ax : ∀ u, 0 ≤ u → u < nT → qB (bOrr (m1 142 h) (bShl 1 t)) u = true → a u = h := fun u u0 u1 hu => by
              rw [s2 u u0 (by omega), Bool.and_eq_true, decide_eq_true_eq, decide_eq_true_eq] at hu
              by_cases eu : u = t
              · rw [eu]; exact eh
              · rw [qset_o eu] at hu
                rw [hx u u0 (by omega)]
                exact hu.2
            refine hno ⟨fun u u0 u1 hu => ?_, ?_⟩
            · rcases hFa.1 u u0 u1 with e4 | e4
              · have := ax u u0 u1 hu
                omega
              · exact e4.1
            · refine qFe_mo wn.1.1 (fun u u0 u1 => (qAg_bd hW hG h0 h1 u0 u1).1) (fun u u0 u1 hu => ?_) (hFa.2 h h0 h1)
              rw [decide_eq_true u1, decide_eq_true (ax u u0 u1 hu)]; rfl
          · exact dm2 a hFa hx ha0 (by omega)
end MGD
