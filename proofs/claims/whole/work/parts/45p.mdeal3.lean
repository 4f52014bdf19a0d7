/-! B: the model lays dealings; deal, learn -/
def qLy (a : Nat) (k : Int) : Prop := a = 139 ∨ a = 140 ∨ a = 141 ∨ a = 142 ∨ (a = 120 ∧ k = 45)
theorem qnr0 : bNar 2 0 = 0 := by decide +kernel
theorem qnr1 : bNar 2 1 = 1 := by decide +kernel
section MLD
variable {xs : List Int32} {d : Nat} {Q : bPo} {b b0 b1 b2 : Bool} {m : Nat → Int → Int} {nT nH : Int} {T P E U N : Int → Int} {t s h k : Int}
variable {G : Int → Int} {w : Int} {m' : Nat → Int → Int}
theorem qMR.lf (hM : qMR m nT nH T P E U N) (f : qFr qLy m m') : qMR m' nT nH T P E U N := hM.fr ⟨f 120 26 (by unfold qLy; omega), f 120 27 (by unfold qLy; omega)⟩ (qFr_at f 125 (fun k => by unfold qLy; omega)) (qFr_at f 127 (fun k => by unfold qLy; omega)) (qFr_at f 129 (fun k => by unfold qLy; omega)) (qFr_at f 131 (fun k => by unfold qLy; omega)) (qFr_at f 135 (fun k => by unfold qLy; omega))
theorem d_layDeal (hW : qWF nT nH T P E U N) (hM : qMR m nT nH T P E U N) (hG : qGok T G nT) (hm : ∀ t, 0 ≤ t → t < nT → m 138 t = G t) (hz : ∀ g, 0 ≤ g → g < 6 → m 142 g = 0) (hQ : ∀ m', qFr qLy m m' → (∀ g, 0 ≤ g → g < 6 → m' 142 g = 0) → (0 ≤ m' 120 45 ∧ m' 120 45 ≤ 594) → qFq T P N G nT nH nT (m' 141) → qvA T (m' 141) nT = m' 120 45 → (∀ e, qFq T P N G nT nH nT e → qdo T nT (m' 120 45) (qhX (m' 141) nT) e) → Q 0 ((b0, b1, b2), m')) : bC xs 123 245 [vr 120] ((b0, b1, b2), m) Q := by
  have wn := qw_n hW
  have wd := qw_day hW
  have wb := qpw (n := nT) wn.1.1 wn.1.2
  refine qC rfl fun d hd => r_X12_layDeal_0 hd ?_
  -- behind the masks
  have L2 : ∀ m1, qFr (fun a _ => a = 139) m m1 → qCn m1 T P N G nT nH → bC xs 122 246 [vr 120, vi 0, vi 0] ((b0, b1, b2), up m1 120 45 (-1)) (fun _ μ2 => (μ2.1 = (b0, b1, b2)) ∧ (Q 0 ((b0, b1, b2), μ2.2))) := by
    intro m1 f1 hC
    refine qC rfl fun d2 hd2 => ?_
    have hM2 : qMR (up m1 120 45 (-1)) nT nH T P E U N := hM.lf (qFr_up (f1.mono (fun a k h => Or.inl h)) (by unfold qLy; omega))
    have hC2 : qCn (up m1 120 45 (-1)) T P N G nT nH := by
      unfold qCn
      rw [qup_n (by omega)]
      exact hC
    have e0 : bShl 1 0 = 1 := by decide +kernel
    have hF0 : ∀ a, qFq T P N G nT nH 0 a := fun a => ⟨fun u u0 u1 => by omega, fun g _ _ => qFe_e (fun u u0 u1 => by rw [decide_eq_false (show ¬ u < 0 by omega), Bool.false_and])⟩
    have hK0 : qMk (up m1 120 45 (-1)) nH 0 ((up m1 120 45 (-1)) 140) := by
      intro g g0 g1
      rw [qup_n (by omega), f1 142 g (by omega), hz g g0 (by omega)]
      exact ⟨by omega, fun k a c => by omega⟩
    have v0 : qvA T ((up m1 120 45 (-1)) 140) 0 = 0 := qsB_0
    have := d_goDeal (xs := xs) (b0 := b0) (b1 := b1) (b2 := b2) hW hM2 hG (fun t t0 t1 => by rw [qup_n (by omega), f1 138 t (by omega)]; exact hm t t0 t1) hC2 nT.toNat 0 d2 (up m1 120 45 (-1)) (fun _ μ2 => (μ2.1 = (b0, b1, b2)) ∧ (Q 0 ((b0, b1, b2), μ2.2))) (by omega) (by omega) (by omega) qFr.refl (by rw [qup_s]; omega) (hF0 _) hK0 (Or.inl qup_s) (fun m' f' x' k' b' g' d' => ⟨rfl, ?_⟩)
    · rw [v0] at this
      exact this
    · have h9 : qFq T P N G nT nH nT (fun _ => 9) := ⟨fun _ _ _ => Or.inl rfl, fun g g0 g1 => qFe_e (fun u _ _ => by rw [decide_eq_false (show ¬ (9 : Int) = g by omega), Bool.and_false])⟩
      have hd9 := d' _ h9 (fun u u0 u1 => by omega)
      have hv9 := qvA_bd (a := fun _ => 9) hW wn.1.1 (Int.le_refl _)
      rw [qup_s] at g'
      rcases g' with ⟨e1, _⟩ | ⟨e1, e2, e3, _⟩
      · unfold qdo at hd9
        rw [e1] at hd9
        omega
      · refine hQ m' ((qFr_up (f1.mono (fun a k h => Or.inl h)) (by omega)).trans (f'.mono (fun a k h => by unfold qDf at h; omega))) (fun g g0 g1 => ?_) (by omega) e2 e3 (fun e he => d' e he (fun u u0 u1 => by omega))
        rw [k' g g0 g1, qup_n (by omega), f1 142 g (by omega)]
        exact hz g g0 g1
  suffices H : ∀ h, h ≤ nH → 0 ≤ h → ∀ m1, qFr (fun a _ => a = 139) m m1 → qCn m1 T P N G nT h → bGo xs d aM_X12_layDeal 2 [vr 120, vi h, vn, vn, vn] [] ((b0, b1, b2), m1) Q from H 0 (by omega) (by omega) m qFr.refl (fun h s a c => by omega)
  refine qUpto ?_
  intro h hh ih h0 m1 f1 hC
  have hM1 := hM.lf (f1.mono (fun a k h => Or.inl h))
  refine r_X12_layDeal_2 hd ?_
  rw [hM1.2.1]
  refine ⟨by omega, by omega, fun h2 => L2 m1 f1 (by rw [show nH = h by omega]; exact hC), fun h1 => ?_⟩
  have e6 := qsh6 h0 (show h < 6 by omega)
  suffices H : ∀ s, s ≤ bShl 1 nT → 0 ≤ s → ∀ m1, qFr (fun a _ => a = 139) m m1 → qCn m1 T P N G nT h → (∀ q, 0 ≤ q → q < s → (m1 139 (bShl h 6 + q) = 1 ∧ qCok T P N G nT h q) ∨ (m1 139 (bShl h 6 + q) = 0 ∧ ¬ qCok T P N G nT h q)) → bGo xs d aM_X12_layDeal 12 [vr 120, vi h, vi s, vn, vn] [] ((b0, b1, b2), m1) Q from H 0 (by omega) (by omega) m1 f1 hC (fun q a c => by omega)
  refine qUpto ?_
  intro s hs ihs s0 m1 f1 hC hD
  have hM1 := hM.lf (f1.mono (fun a k h => Or.inl h))
  refine r_X12_layDeal_12 hd ?_
  rw [hM1.1]
  refine ⟨by omega, by omega, fun h2 => ih h1 (by omega) m1 f1 (fun g q g0 g1 q0 q1 => ?_), fun s1 => ?_⟩
  · by_cases eg : g = h
    · rw [eg]; exact hD q q0 (by omega)
    · exact hC g q g0 (by omega) q0 q1
  · -- laying one
    have lay : ∀ z, ((z = 1 ∧ qCok T P N G nT h s) ∨ (z = 0 ∧ ¬ qCok T P N G nT h s)) → bGo xs d aM_X12_layDeal 12 [vr 120, vi h, vi (s + 1), vn, vn] [] ((b0, b1, b2), up m1 139 (bShl h 6 + s) z) Q := by
      intro z hzz
      refine ihs s1 (by omega) _ (qFr_up f1 rfl) (fun g q g0 g1 q0 q1 => ?_) (fun q q0 q1 => ?_)
      · have eg := qsh6 g0 (show g < 6 by omega)
        rw [qup_o (by omega)]
        exact hC g q g0 g1 q0 q1
      · rw [qup_if]
        by_cases eq : q = s
        · rw [if_pos (by omega), eq]; exact hzz
        · rw [if_neg (by omega)]
          exact hD q q0 (by omega)
    suffices H : ∀ t, t ≤ nT → 0 ≤ t → ∀ y, ((y = 1 ∧ ∀ u, 0 ≤ u → u < t → qB s u = true → qDl T N G u = true) ∨ (y = 0 ∧ ¬ ∀ u, 0 ≤ u → u < nT → qB s u = true → qDl T N G u = true)) → bGo xs d aM_X12_layDeal 27 [vr 120, vi h, vi s, vi y, vi t] [] ((b0, b1, b2), m1) Q from H 0 (by omega) (by omega) 1 (Or.inl ⟨rfl, fun u a c => by omega⟩)
    refine qUpto ?_
    intro t ht iht t0 y hy
    refine r_X12_layDeal_27 hd ?_
    rw [hM1.1, hM1.2.2.2.2.2.2, hM1.2.2.1, qnr0, qnr1]
    refine ⟨by omega, by omega, fun h2 => ⟨by omega, fun e => ⟨by omega, lay 0 (Or.inr ⟨rfl, fun hc => ?_⟩)⟩, fun e => ?_⟩, fun t1 => ⟨by omega, fun e => iht t1 (by omega) 0 (hy.elim (fun h => by omega) (fun h => Or.inr ⟨rfl, h.2⟩)), fun e => ⟨qAnd_inR _ _, ?_⟩⟩⟩
    · rcases hy with ⟨e2, _⟩ | ⟨_, e2⟩
      · omega
      · exact e2 hc.1
    · rcases hy with ⟨_, e2⟩ | ⟨e2, _⟩
      · refine d_canDo hW hM1 hG (fun t t0 t1 => by rw [f1 138 t (by omega)]; exact hm t t0 t1) h0 h1 s0 s1 wd.1 (by omega) (fun hf => ⟨rfl, by omega, fun h => by omega, fun _ => ⟨by omega, lay 1 (Or.inl ⟨rfl, fun u u0 u1 => e2 u u0 (by omega), hf⟩)⟩⟩) (fun hf => ⟨rfl, by omega, fun _ => ⟨by omega, lay 0 (Or.inr ⟨rfl, fun hc => hf hc.2⟩)⟩, fun h => absurd rfl h⟩)
      · exact absurd e2 e
    · rcases hy with ⟨_, hall⟩ | ⟨e2, _⟩
      · have bt := qB_t (s := s) (k := t) s0 (by omega) t0 (by omega)
        have ws := qw_st hW t0 t1
        have wt := qw_t hW t0 t1
        have gt := hG t t0 t1
        have e138 : m1 138 t = G t := by rw [f1 138 t (by omega)]; exact hm t t0 t1
        have ok : (qB s t = true → qDl T N G t = true) → bGo xs d aM_X12_layDeal 27 [vr 120, vi h, vi s, vi 1, vi (t + 1)] [] ((b0, b1, b2), m1) Q := fun hc => iht t1 (by omega) 1 (Or.inl ⟨rfl, fun u u0 u1 hu => by
          by_cases eu : u = t
          · rw [eu] at hu ⊢; exact hc hu
          · exact hall u u0 (by omega) hu⟩)
        have no : qB s t = true → ¬ qDl T N G t = true → bGo xs d aM_X12_layDeal 27 [vr 120, vi h, vi s, vi 0, vi (t + 1)] [] ((b0, b1, b2), m1) Q := fun hb hc => iht t1 (by omega) 0 (Or.inr ⟨rfl, fun hx => hc (hx t t0 t1 hb)⟩)
        have dl : qDl T N G t = true ↔ (N (6 * t + 2) = 0 ∧ G t < T (4 * t + 3)) := by unfold qDl; rw [decide_eq_true_eq]
        rw [e138]
        exact ⟨fun e2 => ok (fun hb => absurd (bt.mpr hb) e2), fun e2 => ⟨by omega, by omega, fun e3 => no (bt.mp e2) (fun hc => e3 (dl.mp hc).1), fun e3 => ⟨by omega, by omega, by omega, by omega, fun e4 => no (bt.mp e2) (fun hc => by have := (dl.mp hc).2; omega), fun e4 => ok (fun _ => dl.mpr ⟨e3, e4⟩)⟩⟩⟩
      · exact absurd e2 e
end MLD
