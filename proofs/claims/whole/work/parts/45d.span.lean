/-! B: spans of sets, shares (class) -/
def qAd (T P N : Int → Int) (h : Int) : Int → Int := fun t => qal T P N h t (N (6 * t))
/-- how long an heir is at each set -/
def qSp (m : Nat → Int → Int) (T P N pl : Int → Int) (n nT h x : Int) : Prop := ∀ s, 0 ≤ s → s < bShl 1 n → (0 ≤ qsB (qX N pl s) (fun _ => 1) nT) ∧ ((qFe (qAd T P N h) (qRo T) nT (N 66 + x) (qX N pl s) ∧ m 83 s = x + qsB (qX N pl s) (qAd T P N h) nT ∧ x ≤ m 83 s ∧ m 83 s ≤ x + 216 * nT) ∨ (¬ qFe (qAd T P N h) (qRo T) nT (N 66 + x) (qX N pl s) ∧ m 83 s = -1))
section SPN
variable {xs : List Int32} {d : Nat} {Q : bPo} {b b0 b1 b2 : Bool} {m : Nat → Int → Int} {nT nH : Int} {T P E U N : Int → Int} {t s h k : Int}
variable {pl N0 : Int → Int} {n x : Int} {m' : Nat → Int → Int}
theorem qLs_N (hL : qLs m T N0 pl n nT) (hn : 0 ≤ nT) (h : ∀ t, 0 ≤ t → t < nT → N0 (6 * t + 2) = N (6 * t + 2)) : qLs m T N pl n nT := by
  obtain ⟨⟨⟨l5, ln⟩, l1, l2, l3⟩, l4⟩ := hL
  have en : qno N0 nT = qno N nT := by
    unfold qno
    exact qfold_congr (fun i a i0 i1 => by rw [h i i0 i1])
  have ex : ∀ s u, 0 ≤ u → u < nT → qX N0 pl s u = qX N pl s u := fun s u a c => by unfold qX; rw [h u a c]
  refine ⟨⟨⟨l5, by rw [← en]; exact ln⟩, fun u a c d => l1 u a c (by rw [h u a c]; exact d), fun p a c => ?_, fun u v a c d e f g => l3 u v a c d e (by rw [h u a c]; exact f) (by rw [h v d e]; exact g)⟩, fun s a c => ?_⟩
  · have := l2 p a c
    rw [h _ this.1 this.2.1] at this
    exact this
  · have := l4 s a c
    rw [qsB_cg (χ' := qX N pl s) (g := qVa T) (fun u a c => ex s u a c) (fun _ _ _ _ => rfl), qsB_cg (χ' := qX N pl s) (g := qWt nT) (fun u a c => ex s u a c) (fun _ _ _ _ => rfl)] at this
    exact this
theorem qAd_bd (hW : qWF nT nH T P E U N) (h0 : 0 ≤ h) (h1 : h < nH) (t0 : 0 ≤ t) (t1 : t < nT) : -1 ≤ qAd T P N h t ∧ qAd T P N h t ≤ 216 := qal_dn hW h0 h1 t0 t1
theorem c_spanSets (hW : qWF nT nH T P E U N) (hE : qER m (bW b) nT nH T P E U N) (hL : qLs m T N pl n nT) (h0 : 0 ≤ h) (h1 : h < nH) (x0 : 0 ≤ x) (x1 : x ≤ 216) (hQ : ∀ m', qFr (fun a _ => a = 83) m m' → qSp m' T P N pl n nT h x → Q 0 ((b0, b1, b2), m')) : bC xs 4 7 [vr 79, vr (bW b), vi h, vi x] ((b0, b1, b2), m) Q := by
  have wn := qw_n hW
  have hw := qW b
  have hL1 := hL.1
  have nb := qno_bd (N := N) wn.1.1
  have ln := hL1.1.2
  have wd := qw_day hW
  refine qC rfl fun d hd => r_X1_spanSets_0 hd ?_
  have one : ∀ s, 0 ≤ qsB (qX N pl s) (fun _ => 1) nT := fun s => qsB_nn nT wn.1.1 (fun _ _ _ _ => by omega)
  suffices H : ∀ p, p ≤ n → 0 ≤ p → ∀ m1, qFr (fun a _ => a = 83) m m1 → qSp m1 T P N pl p nT h x → bGo xs d aM_X1_spanSets 10 [vr 79, vr (bW b), vi h, vn, vi p, vn, vn, vn, vn, vn] [] ((b0, b1, b2), m1) Q by
    refine H 0 (by omega) (by omega) _ (qFr_up qFr.refl rfl) (fun s s0 s1 => ⟨one s, Or.inl ?_⟩)
    have e0 : bShl 1 0 = 1 := by decide +kernel
    rw [show s = 0 by omega, qup_s, qsB_e nT wn.1.1 (fun u _ _ => qX_0)]
    exact ⟨qFe_e (fun u _ _ => qX_0), by omega, by omega, by omega⟩
  refine qUpto ?_
  intro p hp ih p0 m1 f1 hS
  have hE1 := hE.fl (f1.mono (fun a k h => by omega))
  refine r_X1_spanSets_10 hd ?_
  rw [f1 79 5 (by omega), hL1.1.1]
  refine ⟨by omega, by omega, fun h2 => hQ m1 f1 (by rw [show n = p by omega]; exact hS), fun h2 => ⟨by omega, ?_⟩⟩
  rw [f1 80 p (by omega)]
  have h3 := hL1.2.2.1 p p0 h2
  generalize hx : m 80 p = y at *
  obtain ⟨y0, y1, yo, yp⟩ := h3
  have bd := qAd_bd hW h0 h1 y0 y1
  have pb := qpw (n := p) p0 (by omega)
  have pb2 := qpw_m p0 (show p ≤ 5 by omega) (by omega)
  have e5 : bShl 1 5 = 32 := by decide +kernel
  have ps := qpw_s p0 (show p < 6 by omega)
  refine c_aloneDays hW hE1 h0 h1 y0 y1 ⟨rfl, ?_⟩
  dsimp only
  show bGo xs d aM_X1_spanSets 46 [vr 79, vr (bW b), vi h, vn, vi p, vi y, vi (qAd T P N h y), vi (bShl 1 p), vi 0, vn] [] ((b0, b1, b2), m1) Q
  suffices H : ∀ j, j ≤ bShl 1 p → 0 ≤ j → ∀ m1, qFr (fun a _ => a = 83) m m1 → (∀ s, 0 ≤ s → s < bShl 1 p + j → (0 ≤ qsB (qX N pl s) (fun _ => 1) nT) ∧ ((qFe (qAd T P N h) (qRo T) nT (N 66 + x) (qX N pl s) ∧ m1 83 s = x + qsB (qX N pl s) (qAd T P N h) nT ∧ x ≤ m1 83 s ∧ m1 83 s ≤ x + 216 * nT) ∨ (¬ qFe (qAd T P N h) (qRo T) nT (N 66 + x) (qX N pl s) ∧ m1 83 s = -1))) → bGo xs d aM_X1_spanSets 46 [vr 79, vr (bW b), vi h, vn, vi p, vi y, vi (qAd T P N h y), vi (bShl 1 p), vi j, vn] [] ((b0, b1, b2), m1) Q from H 0 (by omega) (by omega) m1 f1 (fun s a c => hS s a (by omega))
  refine qUpto ?_
  intro j hj ihj j0 m1 f1 hS
  have hE1 := hE.fl (f1.mono (fun a k h => by omega))
  have ed := qe_day hE1
  have et := qe_t hE1 y0 y1
  have wt := qw_t hW y0 y1
  refine r_X1_spanSets_46 hd ⟨by omega, by omega, fun h4 => ih h2 (by omega) m1 f1 (fun s a c => hS s a (by omega)), fun h4 => ?_⟩
  obtain ⟨a1, a2, a3⟩ := qX_add hL1 (by omega) p0 h2 j0 h4
  rw [hx] at a1 a2 a3
  have bef : ∀ u, 0 ≤ u → u < nT → qX N pl j u = true → qbf (qRo T) u y = true := fun u u0 u1 hu => by
    unfold qX at hu
    rw [Bool.and_eq_true, decide_eq_true_eq] at hu
    have hu1 := hL1.2.1 u u0 u1 hu.1
    refine (hL1.2.2.2 u y u0 u1 y0 y1 hu.1 yo).mp ?_
    by_cases e : p ≤ pl u
    · rw [qB_lt j0 p0 (by omega) h4 (pl u) e] at hu
      exact absurd hu.2 (by simp)
    · omega
  have fe := qFe_add (A := qAd T P N h) (r := qRo T) (b := N 66 + x) wn.1.1 y0 y1 a1 a2 a3 bef
  have sm := qsB_one (f := qAd T P N h) y0 a1 a2 nT wn.1.1 a3
  rw [if_pos y1] at sm
  have ub : qFe (qAd T P N h) (qRo T) nT (N 66 + x) (qX N pl (bShl 1 p + j)) → qsB (qX N pl (bShl 1 p + j)) (qAd T P N h) nT ≤ 216 * nT := fun _ => qsB_ub (by omega) nT wn.1.1 (fun u u0 u1 _ => (qAd_bd hW h0 h1 u0 u1).2)
  have hj3 := (hS j j0 (by omega)).2
  -- what is laid
  have nx : ∀ z, ((qFe (qAd T P N h) (qRo T) nT (N 66 + x) (qX N pl (bShl 1 p + j)) ∧ z = x + qsB (qX N pl (bShl 1 p + j)) (qAd T P N h) nT ∧ x ≤ z ∧ z ≤ x + 216 * nT) ∨ (¬ qFe (qAd T P N h) (qRo T) nT (N 66 + x) (qX N pl (bShl 1 p + j)) ∧ z = -1)) → bGo xs d aM_X1_spanSets 46 [vr 79, vr (bW b), vi h, vn, vi p, vi y, vi (qAd T P N h y), vi (bShl 1 p), vi (j + 1), vn] [] ((b0, b1, b2), up m1 83 (bShl 1 p + j) z) Q := by
    intro z hz
    refine ihj h4 (by omega) _ (qFr_up f1 rfl) (fun s a c => ⟨one s, ?_⟩)
    rw [qup_if]
    by_cases e : s = bShl 1 p + j
    · rw [if_pos e, e]; exact hz
    · rw [if_neg e]
      exact (hS s a (by omega)).2
  rw [ed, et.2.1]
  unfold qRo at fe
  refine ⟨by omega, fun e => ⟨by omega, nx (-1) (Or.inr ⟨fun hf => (fe.mp hf).2.1 e, rfl⟩)⟩, fun e => ⟨by omega, by omega, fun e2 => ?_, fun e2 => ⟨by omega, nx (-1) (Or.inr ⟨fun hf => ?_, rfl⟩)⟩⟩⟩
  · rcases hj3 with ⟨g1, g2, g3, g4⟩ | ⟨_, g2⟩
    · refine ⟨by omega, by omega, fun e3 => by omega, fun e3 => ⟨by omega, by omega, by omega, fun e4 => ⟨by omega, nx (-1) (Or.inr ⟨fun hf => ?_, rfl⟩)⟩, fun e4 => ⟨by omega, nx _ (Or.inl ?_)⟩⟩⟩
      · have := (fe.mp hf).2.2
        omega
      · have hf := fe.mpr ⟨g1, e, by omega⟩
        have := ub hf
        exact ⟨hf, by omega, by omega, by omega⟩
    · exact absurd g2 e2
  · rcases hj3 with ⟨_, g2, g3, _⟩ | ⟨g1, _⟩
    · omega
    · exact g1 (fe.mp hf).1
end SPN
