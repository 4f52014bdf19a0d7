/-! B: rests and gains of the model -/
section GMP
variable {xs : List Int32} {d : Nat} {Q : bPo} {b b0 b1 b2 : Bool} {m : Nat → Int → Int} {nT nH : Int} {T P E U N : Int → Int} {t s h k : Int}
variable {nL hold i row : Int} {lB : Int → Int → Int} {lN : Int → Int} {m' : Nat → Int → Int} {g : Int → Int}
def qRg (a : Nat) (k : Int) : Prop := qRf a k ∨ (a = 120 ∧ (k = 0 ∨ k = 52))
theorem d_rests (hW : qWF nT nH T P E U N) (hM : qMR m nT nH T P E U N) (hV : qVs nL lB lN) (hc : qVm m nL lB lN) (hl : ∀ k, qbn (m 124 k)) (hh : m 120 36 = hold) (hb : -1 ≤ hold ∧ hold < nL) (x1 : inR i) (hQ : ∀ b2' m', qFr qRg m m' → (∀ k, qbn (m' 124 k)) → Q (qPres (qrnk T P N) (qwsh T P E N lB lN hold) nT nH N i) ((b0, b1, b2'), m')) : bC xs 374 264 [vr 120, vi i] ((b0, b1, b2), m) Q := by
  have wn := qw_n hW
  have hK := qK_bd (N := N) wn.1.1
  refine qC rfl fun d hd => r_X12_rests_0 hd ?_
  rw [hM.1, hM.2.1]
  have f0 : qFr qRg m (up m 120 0 0) := qFr_up qFr.refl (Or.inr ⟨rfl, Or.inl rfl⟩)
  have hl0 : ∀ k, qbn (up m 120 0 0 124 k) := fun k => by rw [qup_n (by omega)]; exact hl k
  refine ⟨by omega, fun h0 => ⟨by omega, fun e => ?_, fun e => by omega⟩, fun h0 => ⟨by omega, fun h4 => ⟨by omega, fun e => by omega, fun _ => ⟨x1, fun hi => ?_, fun hi => ?_⟩⟩, fun h4 => ?_⟩⟩
  · have := hQ b2 _ f0 hl0
    unfold qPres at this
    rw [if_neg (by omega), if_pos e] at this
    exact this
  · unfold qPres at hQ
    rw [if_neg (by omega), if_neg (by omega)] at hQ
    have f1 : qFr qRg m (up (up (up (up m 120 0 0) 120 51 0) 120 52 i) 120 53 (-1)) := qFr_up (qFr_up (qFr_up f0 (by unfold qRg qRf; omega)) (by unfold qRg qRf; omega)) (by unfold qRg qRf; omega)
    have hl1 : ∀ k, qbn (up (up (up (up m 120 0 0) 120 51 0) 120 52 i) 120 53 (-1) 124 k) := fun k => by rw [qup_n (by omega), qup_n (by omega), qup_n (by omega)]; exact hl0 k
    have e51 : up (up (up (up m 120 0 0) 120 51 0) 120 52 i) 120 53 (-1) 120 51 = 0 := by rw [qup_o (by omega), qup_o (by omega), qup_s]
    have e52 : up (up (up (up m 120 0 0) 120 51 0) 120 52 i) 120 53 (-1) 120 52 = i := by rw [qup_o (by omega), qup_s]
    have e53 : up (up (up (up m 120 0 0) 120 51 0) 120 52 i) 120 53 (-1) 120 53 = -1 := qup_s
    have e36 : up (up (up (up m 120 0 0) 120 51 0) 120 52 i) 120 53 (-1) 120 36 = hold := by rw [f1 120 36 (by unfold qRg qRf qYm; omega)]; exact hh
    have hM1 : qMR (up (up (up (up m 120 0 0) 120 51 0) 120 52 i) 120 53 (-1)) nT nH T P E U N := hM.fr ⟨f1 120 26 (by unfold qRg qRf qYm; omega), f1 120 27 (by unfold qRg qRf qYm; omega)⟩ (qFr_at f1 125 (fun k => by unfold qRg qRf qYm; omega)) (qFr_at f1 127 (fun k => by unfold qRg qRf qYm; omega)) (qFr_at f1 129 (fun k => by unfold qRg qRf qYm; omega)) (qFr_at f1 131 (fun k => by unfold qRg qRf qYm; omega)) (qFr_at f1 135 (fun k => by unfold qRg qRf qYm; omega))
    have hc1 : qVm (up (up (up (up m 120 0 0) 120 51 0) 120 52 i) 120 53 (-1)) nL lB lN := hc.fr (f1 120 7 (by unfold qRg qRf qYm; omega)) (qFr_at f1 123 (fun k => by unfold qRg qRf qYm; omega)) (qFr_at f1 122 (fun k => by unfold qRg qRf qYm; omega))
    generalize up (up (up (up m 120 0 0) 120 51 0) 120 52 i) 120 53 (-1) = m1 at *
    have p4 : qK N nT ^ nH.toNat ≤ 2401 := by
      have H : ∀ x : Fin 8, ∀ n : Fin 5, (x.val : Int) ^ n.val ≤ 2401 := by decide
      obtain ⟨x, hx⟩ := Int.eq_ofNat_of_zero_le (show 0 ≤ qK N nT by omega)
      rw [hx]
      exact H ⟨x, by omega⟩ ⟨nH.toNat, by omega⟩
    refine qC rfl fun d2 hd2 => ?_
    have e0 : qdp N nT 0 0 = 0 := by unfold qdp; rw [qfold_ge (by omega)]
    have := d_goRests (xs := xs) (b0 := b0) (b1 := b1) hW hM1 hV hc1 e36 e52 x1 hb h4 p4 nH.toNat 0 0 d2 b2 m1 (fun z1 μ2 => (μ2.1.1 = b0 ∧ μ2.1.2.1 = b1) ∧ (inR i ∧ ((¬ i = (-1) → (Q (μ2.2 120 53) ((b0, b1, μ2.1.2.2), μ2.2))) ∧ (i = (-1) → (Q (μ2.2 120 51) ((b0, b1, μ2.1.2.2), μ2.2)))))) (by omega) (by omega) (by omega) (by omega) (by rw [show (0 : Int) + 1 = 1 by omega, Int.one_mul]; exact Int.le_refl _) qFr.refl hl1 (fun k a b => by omega) (by rw [e51, Int.zero_mul]; omega) (by rw [e53]; omega) (fun b2' m' f' hl' hg' hst => ?_)
    · rw [e0] at this
      exact this
    · rw [e51, e53, Int.zero_mul, show (0 : Int) + 1 = 1 by omega, Int.one_mul] at hst
      have hst2 : (m' 120 51, m' 120 53) = qrst (qrnk T P N) (qwsh T P E N lB lN hold) nT nH N i := hst
      rw [← hst2] at hQ
      have fr : qFr qRg m m' := f1.trans (f'.mono (fun a k h => Or.inl h))
      refine ⟨⟨rfl, rfl⟩, x1, fun e => ?_, fun e => ?_⟩
      · rw [if_neg e] at hQ
        exact hQ b2' m' fr hl'
      · rw [if_pos e] at hQ
        exact hQ b2' m' fr hl'
  · have := hQ b2 _ f0 hl0
    unfold qPres at this
    have pp : 0 < qK N nT ^ nH.toNat := qKp wn.1.1
    rw [if_neg (by omega), if_neg (by omega), if_neg (by omega)] at this
    unfold qrst at this
    rw [qst1_neg (by omega) (by omega) (by dsimp only; omega) rfl] at this
    exact this
  · have := hQ b2 _ f0 hl0
    unfold qPres at this
    rw [if_pos h4] at this
    exact this
theorem d_layRow (hW : qWF nT nH T P E U N) (hM : qMR m nT nH T P E U N) (h4 : nH ≤ 4) (x1 : inR row) (hy : qTr N nT nH row → ∀ m', qFr (fun a _ => a = 145) m m' → (∀ k, 0 ≤ k → k < nH → m' 145 k = qsg nH row k) → Q 1 ((b0, b1, b2), m')) (hn : ¬ qTr N nT nH row → ∀ m', qFr (fun a _ => a = 145) m m' → Q 0 ((b0, b1, b2), m')) : bC xs 3 260 [vr 120, vi row] ((b0, b1, b2), m) Q := by
  have wn := qw_n hW
  refine qC rfl fun d hd => r_X12_layRow_0 hd ⟨x1, fun r0 => ?_, fun r0 => hn (fun hx => by have := hx.1; omega) m qFr.refl⟩
  rw [hM.2.1]
  suffices H : ∀ h, -1 ≤ h → h < nH → ∀ m1, qFr (fun a _ => a = 145) m m1 → (∀ k, h < k → k < nH → m1 145 k = qsg nH row k ∧ qcho N nT (qsg nH row k)) → bGo xs d aM_X12_layRow 15 [vr 120, vn, vi (Int.tdiv row (qt10 (nH - 1 - h))), vi h] [] ((b0, b1, b2), m1) Q by
    have := H (nH - 1) (by omega) (by omega) m qFr.refl (fun k a b => by omega)
    rw [show nH - 1 - (nH - 1) = 0 by omega, qt10_v.1, Int.tdiv_one] at this
    exact this
  refine qDown ?_
  intro h hh ih h1 m1 f1 he
  have hM1 : qMR m1 nT nH T P E U N := hM.fr ⟨f1 120 26 (by omega), f1 120 27 (by omega)⟩ (qFr_at f1 125 (fun k => by omega)) (qFr_at f1 127 (fun k => by omega)) (qFr_at f1 129 (fun k => by omega)) (qFr_at f1 131 (fun k => by omega)) (qFr_at f1 135 (fun k => by omega))
  have ht := qt10_bd (n := nH - 1 - h) (by omega) (by omega)
  have vb := qtd_in nH h r0 x1.2
  have v0 : 0 ≤ Int.tdiv row (qt10 (nH - 1 - h)) := Int.tdiv_nonneg r0 (by omega)
  refine r_X12_layRow_15 hd ⟨by omega, fun h2 => ⟨vb, fun e => ?_, fun e => ?_⟩, fun h0 => ⟨vb, by omega, vb, by omega, ?_⟩⟩
  · rw [show nH - 1 - h = nH by omega, Int.tdiv_eq_ediv_of_nonneg r0] at e
    refine hn (fun hx => e (Int.ediv_eq_zero_of_lt r0 hx.2.1)) m1 f1
  · rw [show nH - 1 - h = nH by omega, Int.tdiv_eq_ediv_of_nonneg r0] at e
    rw [show nH - 1 - h = nH by omega] at ht
    refine hy ⟨r0, ?_, fun k a b => (he k (by omega) b).2⟩ m1 f1 (fun k a b => (he k (by omega) b).1)
    have e1 := Int.mul_ediv_add_emod row (qt10 nH)
    have e2 := Int.emod_lt_of_pos row (show 0 < qt10 nH by omega)
    rw [e, Int.mul_zero] at e1
    omega
  · have hs := qsg_bd (S := nH) (k := h) r0
    rw [show Int.tmod (Int.tdiv row (qt10 (nH - 1 - h))) 10 = qsg nH row h from rfl, qup_s, hM1.1, hM1.2.2.2.2.2.2]
    have nx : qcho N nT (qsg nH row h) → bGo xs d aM_X12_layRow 15 [vr 120, vn, vi (Int.tdiv (Int.tdiv row (qt10 (nH - 1 - h))) 10), vi (h + -1)] [] ((b0, b1, b2), up m1 145 h (qsg nH row h)) Q := by
      intro hc
      have := ih (by omega) (by omega) (up m1 145 h (qsg nH row h)) (qFr_up f1 rfl) (fun k a b => ?_)
      · have e1 : Int.tdiv row (qt10 (nH - 1 - (h + -1))) = Int.tdiv (Int.tdiv row (qt10 (nH - 1 - h))) 10 := by
          rw [Int.tdiv_eq_ediv_of_nonneg v0, Int.tdiv_eq_ediv_of_nonneg r0, Int.tdiv_eq_ediv_of_nonneg r0, Int.ediv_ediv_of_nonneg (by omega)]
          have e2 := qt10_s (n := nH - 1 - h) (by omega) (by omega)
          rw [show nH - 1 - (h + -1) = nH - 1 - h + 1 by omega, e2, Int.mul_comm]
        rw [e1] at this
        exact this
      · rw [qup_if]
        by_cases e : k = h
        · rw [if_pos e, e]; exact ⟨rfl, hc⟩
        · rw [if_neg e]
          exact he k (by omega) b
    have no : ¬ qcho N nT (qsg nH row h) → Q 0 ((b0, b1, b2), up m1 145 h (qsg nH row h)) := fun hc => hn (fun hx => hc (hx.2.2 h h0 h1)) _ (qFr_up f1 rfl)
    refine ⟨by omega, fun e9 => nx (Or.inl e9), fun e9 => ⟨by omega, by omega, fun e => by omega, fun e => ⟨by omega, by omega, fun e2 => no (by unfold qcho; omega), fun e2 => ⟨by omega, ?_⟩⟩⟩⟩
    have ws := qw_st hW e e2
    exact ⟨by omega, fun e3 => no (by unfold qcho; omega), fun e3 => nx (Or.inr ⟨e, e2, e3⟩)⟩
theorem d_gains (hW : qWF nT nH T P E U N) (hM : qMR m nT nH T P E U N) (hV : qVs nL lB lN) (hc : qVm m nL lB lN) (hl : ∀ k, qbn (m 124 k)) (hh : m 120 36 = hold) (hb : -1 ≤ hold ∧ hold < nL) (x1 : inR row) (x2 : inR h) (hQ : ∀ b2' m', qFr qRg m m' → (∀ k, qbn (m' 124 k)) → Q (qPgai (qrnk T P N) (qwsh T P E N lB lN hold) nT nH N row h) ((b0, b1, b2'), m')) : bC xs 253 261 [vr 120, vi row, vi h] ((b0, b1, b2), m) Q := by
  have wn := qw_n hW
  refine qC rfl fun d hd => r_X12_gains_0 hd ?_
  rw [hM.2.1]
  unfold qPgai at hQ
  have f0 : qFr qRg m (up m 120 0 0) := qFr_up qFr.refl (Or.inr ⟨rfl, Or.inl rfl⟩)
  have hl0 : ∀ k, qbn (up m 120 0 0 124 k) := fun k => by rw [qup_n (by omega)]; exact hl k
  have hno : ¬ ((0 ≤ h ∧ h < nH) ∧ nH ≤ 4 ∧ qTr N nT nH row) → ∀ b2' m', qFr qRg m m' → (∀ k, qbn (m' 124 k)) → Q (-1000000) ((b0, b1, b2'), m') := fun hn b2' m' f hl' => by
    have := hQ b2' m' f hl'
    rw [if_neg hn] at this
    exact this
  refine ⟨x2, fun h2 => hno (by omega) b2 _ f0 hl0, fun h0 => ⟨x2, by omega, fun h2 => hno (by omega) b2 _ f0 hl0, fun h1 => ⟨by omega, fun h4 => hno (by omega) b2 _ f0 hl0, fun h4 => ?_⟩⟩⟩
  have hM0 : qMR (up m 120 0 0) nT nH T P E U N := hM.thrown
  have hc0 : qVm (up m 120 0 0) nL lB lN := hc.fr (qup_o (by omega)) (qup_n (by omega)) (qup_n (by omega))
  have e36 : up m 120 0 0 120 36 = hold := by rw [qup_o (by omega)]; exact hh
  refine d_layRow hW hM0 h4 x1 (fun hy m2 f2 hg => ⟨rfl, by omega, fun h => by omega, fun _ => ?_⟩) (fun hn m2 f2 => ⟨rfl, by omega, fun _ => hno (fun hx => hn hx.2.2) b2 m2 (f0.trans (f2.mono (fun a k h => by unfold qRg qRf; omega))) (fun k => by rw [f2 124 k (by omega)]; exact hl0 k), fun h => absurd rfl h⟩)
  dsimp only
  have f2h : qFr qHf (up m 120 0 0) m2 := f2.mono (fun a k h => Or.inr h)
  refine d_gainOf hW (hM0.hf f2h) hV (hc0.hf f2h) (fun k => by rw [f2 124 k (by omega)]; exact hl0 k) (by rw [f2 120 36 (by omega)]; exact e36) hb h4 hg (fun k a b => hy.2.2 k a b) h0 h1 ?_
  intro b2' m3 f3 hl3
  have := hQ b2' m3 ((f0.trans (f2.mono (fun a k h => by unfold qRg qRf; omega))).trans (f3.mono (fun a k h => Or.inl (Or.inl h)))) hl3
  rw [if_pos ⟨⟨h0, h1⟩, h4, hy⟩] at this
  exact ⟨⟨rfl, rfl⟩, this⟩
end GMP
