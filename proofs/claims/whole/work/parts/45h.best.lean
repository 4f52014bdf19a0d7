/-! B: what one can finish by itself: best, spite of the class -/
def qBo (A r V : Int → Int) (n b : Int) (χ : Int → Bool) (M : Int) : Prop := (∃ q : Int → Bool, (∀ t, 0 ≤ t → t < n → q t = true → χ t = true) ∧ qFe A r n b q ∧ qsB q V n = M) ∧ ∀ q : Int → Bool, (∀ t, 0 ≤ t → t < n → q t = true → χ t = true) → qFe A r n b q → qsB q V n ≤ M
theorem qBo_u {A r V : Int → Int} {n b M M' : Int} {χ : Int → Bool} (h1 : qBo A r V n b χ M) (h2 : qBo A r V n b χ M') : M = M' := by
  obtain ⟨⟨a, ha1, ha2, ea⟩, ua⟩ := h1
  obtain ⟨⟨c, hc1, hc2, ec⟩, uc⟩ := h2
  have := ua c hc1 hc2
  have := uc a ha1 ha2
  omega
noncomputable def qBoz (A r V : Int → Int) (n b : Int) (χ : Int → Bool) : Int := Classical.epsilon (fun z => qBo A r V n b χ z)
theorem qBoz_e {A r V : Int → Int} {n b M : Int} {χ : Int → Bool} (h : qBo A r V n b χ M) : qBoz A r V n b χ = M := qBo_u (Classical.epsilon_spec (p := fun z => qBo A r V n b χ z) ⟨M, h⟩) h
theorem qBo_cg {A r V : Int → Int} {n b M : Int} {χ χ' : Int → Bool} (h : ∀ t, 0 ≤ t → t < n → χ t = χ' t) (hb : qBo A r V n b χ M) : qBo A r V n b χ' M := by
  obtain ⟨⟨q, q1, q2, q3⟩, u⟩ := hb
  exact ⟨⟨q, fun t a c d => by rw [← h t a c]; exact q1 t a c d, q2, q3⟩, fun q a c => u q (fun t t0 t1 ht => by rw [h t t0 t1]; exact a t t0 t1 ht) c⟩
noncomputable def qPbs (T P N : Int → Int) (nT nH h w : Int) : Int := if (0 ≤ h ∧ h < nH) ∧ 0 ≤ w ∧ w < bShl 1 nT then qBoz (qAd T P N h) (qRo T) (qVa T) nT (N 66) (fun t => decide (N (6 * t + 2) = 0) && qB w t) else -1
def qWiA (m : Nat → Int → Int) (s M : Int) : Prop := M = 0 ∨ ∃ q, 0 < q ∧ qSu q s ∧ ¬ m 83 q = -1 ∧ M = m 81 q
theorem qOr_add {p acc : Int} (a0 : 0 ≤ acc) (p0 : 0 ≤ p) (p1 : p < 6) (a1 : acc < bShl 1 p) : bOrr acc (bShl 1 p) = bShl 1 p + acc := by
  have H : ∀ p : Fin 6, ∀ a : Fin 32, a.val < 2 ^ p.val → bOrr (a.val : Int) (bShl 1 (p.val : Int)) = bShl 1 (p.val : Int) + (a.val : Int) := by decide +kernel
  rw [qpw_e p0 (by omega)] at a1
  obtain ⟨i, rfl⟩ := Int.eq_ofNat_of_zero_le p0
  obtain ⟨j, rfl⟩ := Int.eq_ofNat_of_zero_le a0
  rw [Int.toNat_natCast] at a1
  have e1 : ((2 ^ i : Nat) : Int) = (2 : Int) ^ i := by rw [Int.natCast_pow]; rfl
  have h32 : 2 ^ i ≤ 32 := by
    have H : ∀ b : Fin 6, 2 ^ b.val ≤ 32 := by decide
    exact H ⟨i, by omega⟩
  exact H ⟨i, by omega⟩ ⟨j, by omega⟩ (by show j < 2 ^ i; omega)
section BST
variable {xs : List Int32} {d : Nat} {Q : bPo} {b b0 b1 b2 : Bool} {m : Nat → Int → Int} {nT nH : Int} {T P E U N : Int → Int} {t s h k : Int}
variable {pl : Int → Int} {n x w : Int} {m' : Nat → Int → Int}
theorem c_mostWithin (hb : ∀ q, 0 ≤ q → q < bShl 1 n → (0 ≤ m 81 q ∧ m 81 q ≤ 594) ∧ (-1 ≤ m 83 q ∧ m 83 q ≤ 2000)) (hn : 0 ≤ n ∧ n ≤ 6) (s0 : 0 ≤ s) (s1 : s < bShl 1 n) (hQ : ∀ M, 0 ≤ M → (∀ q, 0 < q → qSu q s → ¬ m 83 q = -1 → m 81 q ≤ M) → qWiA m s M → Q M ((b0, b1, b2), m)) : bC xs 1 17 [vr 79, vi s] ((b0, b1, b2), m) Q := by
  have pb := qpw (n := n) hn.1 hn.2
  refine qC rfl fun d hd => r_X1_mostWithin_0 hd ?_
  suffices H : ∀ y, 0 ≤ y → y ≤ s → qSu y s → ∀ M, (0 ≤ M ∧ M ≤ 594) → (∀ q, y < q → qSu q s → ¬ m 83 q = -1 → m 81 q ≤ M) → qWiA m s M → bGo xs d aM_X1_mostWithin 4 [vr 79, vi s, vi M, vi y] [] ((b0, b1, b2), m) Q by
    refine H s s0 (by omega) ?_ 0 (by omega) (fun q a c => by have := qSu_le s0 c; omega) (Or.inl rfl)
    unfold qSu
    exact Nat.and_self _
  intro y
  generalize hk : y.toNat = k
  induction k using Nat.strongRecOn generalizing y with
  | _ k ih =>
    intro y0 y1 hy M hM m2 m3
    refine r_X1_mostWithin_4 hd ⟨by omega, fun h2 => hQ M hM.1 (fun q a c e => m2 q (by omega) c e) m3, fun h2 => ?_⟩
    obtain ⟨z0, z1, z2, z3⟩ := qnxp s0 (by omega) h2 (by omega) hy
    have hby := hb y y0 (by omega)
    have nx : ∀ M', (0 ≤ M' ∧ M' ≤ 594) → M ≤ M' → (¬ m 83 y = -1 → m 81 y ≤ M') → qWiA m s M' → bGo xs d aM_X1_mostWithin 4 [vr 79, vi s, vi M', vi (bAnd (y - 1) s)] [] ((b0, b1, b2), m) Q := by
      intro M' b1' b2' b3 b4
      refine ih (bAnd (y - 1) s).toNat (by omega) _ rfl z0 (by omega) z2 M' b1' (fun q a c e => ?_) b4
      by_cases e2 : q = y
      · rw [e2] at e ⊢; exact b3 e
      · by_cases e3 : y < q
        · have := m2 q e3 c e
          omega
        · have := z3 q (by omega) c (by omega)
          omega
    refine ⟨by omega, by omega, fun e => nx M hM (by omega) (fun h => absurd e h) m3, fun e => ⟨by omega, by omega, by omega, nx _ (by omega) (by omega) (fun _ => by omega) ?_⟩⟩
    by_cases e2 : m 81 y ≤ M
    · rw [show max M (m 81 y) = M by omega]; exact m3
    · rw [show max M (m 81 y) = m 81 y by omega]; exact Or.inr ⟨y, h2, hy, e, rfl⟩
theorem qWi_bo {M : Int} (hW : qWF nT nH T P E U N) (hL : qLs m T N pl n nT) (hS : qSp m T P N pl n nT h x) (x0 : 0 ≤ x) (s0 : 0 ≤ s) (s1 : s < bShl 1 n) (hM0 : 0 ≤ M) (hM : ∀ q, 0 < q → qSu q s → ¬ m 83 q = -1 → m 81 q ≤ M) (hA : qWiA m s M) : qBo (qAd T P N h) (qRo T) (qVa T) nT (N 66 + x) (qX N pl s) M := by
  have wn := qw_n hW
  have hn := qLs_n hW hL
  have pb := qpw (n := n) hn.1 hn.2
  constructor
  · rcases hA with e | ⟨q, qp, hq, h3, e⟩
    · exact ⟨fun _ => false, fun t _ _ ht => absurd ht (by simp), qFe_e (fun _ _ _ => rfl), by rw [e]; exact qsB_e nT wn.1.1 (fun _ _ _ => rfl)⟩
    · have ql := qSu_le s0 hq
      refine ⟨qX N pl q, fun t _ _ ht => qX_sub hq ht, ?_, ?_⟩
      · rcases (hS q (by omega) (by omega)).2 with ⟨a, _⟩ | ⟨_, a⟩
        · exact a
        · exact absurd a h3
      · rw [e, (hL.2 q (by omega) (by omega)).1]
  · intro q hq hf
    obtain ⟨q', ⟨q0, qs⟩, e⟩ := qX_mk hL hn s0 s1 q
    have ql := qSu_le s0 qs
    have e2 : ∀ t, 0 ≤ t → t < nT → q t = qX N pl q' t := fun t t0 t1 => by
      rw [e t t0 t1]
      cases eq : q t with
      | false => rw [Bool.and_false]
      | true => rw [hq t t0 t1 eq]; rfl
    rw [qsB_cg (χ' := qX N pl q') (g := qVa T) e2 (fun _ _ _ _ => rfl), ← (hL.2 q' q0 (by omega)).1]
    by_cases e0 : q' = 0
    · rw [(hL.2 q' q0 (by omega)).1, e0, qsB_e nT wn.1.1 (fun u _ _ => qX_0)]
      exact hM0
    · refine hM q' (by omega) qs ?_
      rcases (hS q' q0 (by omega)).2 with ⟨_, _, a, _⟩ | ⟨a, _⟩
      · omega
      · exact absurd (qFe_cg wn.1.1 e2 hf) a
theorem qRw_of (hW : qWF nT nH T P E U N) (hL : qLs m T N pl n nT) (x0 : 0 ≤ x ∧ x ≤ 216) (hS : qSp m T P N pl n nT h x) : ∀ q, 0 ≤ q → q < bShl 1 n → (0 ≤ m 81 q ∧ m 81 q ≤ 594) ∧ (-1 ≤ m 83 q ∧ m 83 q ≤ 2000) := by
  have wn := qw_n hW
  intro q q0 q1
  rw [(hL.2 q q0 q1).1]
  refine ⟨qVa_sum hW, ?_⟩
  rcases (hS q q0 q1).2 with ⟨_, _, a, c⟩ | ⟨_, a⟩ <;> omega
theorem c_mostAlone (hW : qWF nT nH T P E U N) (hE : qER m (bW b) nT nH T P E U N) (h0 : 0 ≤ h) (h1 : h < nH) (w0 : 0 ≤ w) (w1 : w < bShl 1 nT) (hQ : ∀ m', qFr qFd m m' → Q (qBoz (qAd T P N h) (qRo T) (qVa T) nT (N 66) (fun t => decide (N (6 * t + 2) = 0) && qB w t)) ((b0, b1, b2), m')) : bC xs 5 18 [vr 79, vr (bW b), vi h, vi w] ((b0, b1, b2), m) Q := by
  have wn := qw_n hW
  have wb := qpw (n := nT) wn.1.1 wn.1.2
  refine qC rfl fun d hd => r_X1_mostAlone_0 hd (c_lineUp hW hE ?_)
  intro m1 pl n f1 hL
  have hn := qLs_n hW hL
  have pb := qpw (n := n) hn.1 hn.2
  have hE1 := hE.fl (f1.mono (fun a k h => by unfold qFl at h; omega))
  refine ⟨rfl, c_spanSets hW hE1 hL h0 h1 (by omega) (by omega) ?_⟩
  intro m2 f2 hS
  refine ⟨rfl, ?_⟩
  dsimp only
  have hL2 : qLs m2 T N pl n nT := hL.fr (f2 79 5 (by omega)) (qFr_at f2 80 (fun k => by omega)) (qFr_at f2 81 (fun k => by omega)) (qFr_at f2 82 (fun k => by omega))
  have f12 : qFr qFd m m2 := (f1.mono (fun a k h => Or.inl h)).trans (f2.mono (fun a k h => Or.inr (Or.inl h)))
  have h2 := hL2.1.2.2.1
  suffices H : ∀ p, p ≤ n → 0 ≤ p → ∀ acc, 0 ≤ acc → acc < bShl 1 p → (∀ k, 0 ≤ k → k < p → qB acc k = qB w (m2 80 k)) → bGo xs d aM_X1_mostAlone 18 [vr 79, vn, vn, vi w, vi acc, vi p] [] ((b0, b1, b2), m2) Q from H 0 hn.1 (by omega) 0 (by omega) (by decide +kernel) (fun k a c => by omega)
  refine qUpto ?_
  intro p hp ih p0 acc a0 a1 ha
  refine r_X1_mostAlone_18 hd ?_
  rw [hL2.1.1.1]
  refine ⟨by omega, by omega, fun h3 => ?_, fun h3 => ⟨by omega, qAnd_inR _ _, ?_⟩⟩
  · rw [show p = n by omega] at a1 ha
    refine c_mostWithin (qRw_of hW hL2 (by omega) hS) hn a0 a1 ?_
    intro M b1 b2 b3
    have hbo := qWi_bo hW hL2 hS (by omega) a0 a1 b1 b2 b3
    rw [show N 66 + 0 = N 66 by omega] at hbo
    have := hQ m2 f12
    rw [qBoz_e (qBo_cg (χ' := fun t => decide (N (6 * t + 2) = 0) && qB w t) (fun t t0 t1 => ?_) hbo)] at this
    · exact ⟨rfl, this⟩
    · unfold qX
      by_cases e : N (6 * t + 2) = 0
      · have h4 := hL2.1.2.1 t t0 t1 e
        rw [ha (pl t) h4.1 h4.2.1, h4.2.2]
      · rw [decide_eq_false e, Bool.false_and, Bool.false_and]
  · have h4 := h2 p p0 h3
    have bt := qB_t (s := w) (k := m2 80 p) w0 (by omega) h4.1 (by omega)
    have ps := qpw_s p0 (show p < 6 by omega)
    refine ⟨fun e => ih h3 (by omega) acc a0 (by omega) (fun k k0 k1 => ?_), fun e => ?_⟩
    · by_cases ek : k = p
      · rw [ek, qB_lt a0 p0 (by omega) a1 p (by omega)]
        cases eb : qB w (m2 80 p) with
        | false => rfl
        | true => exact absurd (bt.mpr eb) e
      · exact ha k k0 (by omega)
    · rw [qOr_add a0 p0 (by omega) a1]
      refine ih h3 (by omega) _ (by omega) (by omega) (fun k k0 k1 => ?_)
      rw [qB_add a0 p0 (by omega) a1 k0 (by omega)]
      by_cases ek : k = p
      · rw [decide_eq_true ek, Bool.or_true, ek, bt.mp e]
      · rw [decide_eq_false ek, Bool.or_false]
        exact ha k k0 (by omega)
theorem c_best (hW : qWF nT nH T P E U N) (hE : qER m (bW b0) nT nH T P E U N) (x1 : inR h) (x2 : inR w) (hQ : ∀ m', qFr qFd m m' → Q (qPbs T P N nT nH h w) ((b0, b1, b2), m')) : bC xs 6 151 [vr 0, vi h, vi w] ((b0, b1, b2), m) Q := by
  have wn := qw_n hW
  have en := qe_n hE
  have wb := qpw (n := nT) wn.1.1 wn.1.2
  refine qC rfl fun d hd => r_X11_best_0 hd ?_
  rw [en.1, en.2]
  unfold qPbs at hQ
  have hno : ¬ ((0 ≤ h ∧ h < nH) ∧ 0 ≤ w ∧ w < bShl 1 nT) → Q (-1) ((b0, b1, b2), m) := fun hn => by
    have := hQ m qFr.refl
    rw [if_neg hn] at this
    exact this
  refine ⟨x1, fun e => hno (by omega), fun h0 => ⟨x1, by omega, fun e => hno (by omega), fun h1 => ⟨x2, fun e => hno (by omega), fun w0 => ⟨x2, by omega, fun w1 => ?_, fun e => hno (by omega)⟩⟩⟩⟩
  rw [if_pos ⟨⟨h0, h1⟩, w0, w1⟩] at hQ
  exact c_mostAlone hW hE h0 h1 w0 w1 fun m' f' => ⟨rfl, hQ m' f'⟩
end BST
