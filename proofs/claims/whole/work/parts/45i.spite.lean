/-! B: spite, learning of the class -/
theorem qBo_bd {nT nH : Int} {T P E U N A r : Int → Int} {b M : Int} {χ : Int → Bool} (hW : qWF nT nH T P E U N) (h : qBo A r (qVa T) nT b χ M) : 0 ≤ M ∧ M ≤ 594 := by
  obtain ⟨⟨q, _, _, e⟩, _⟩ := h
  rw [← e]
  exact qVa_sum hW
noncomputable def qspv (T P N : Int → Int) (nT h t : Int) : Int := if qAd T P N h t = -1 then 0 else (if qit T N t (qAd T P N h t) then T (4 * t) else 0) + qBoz (qAd T P N h) (qRo T) (qVa T) nT (N 66 + qAd T P N h t) (fun u => decide (N (6 * u + 2) = 0) && !decide (u = t))
noncomputable def qsp1 (T P N : Int → Int) (nT h t : Int) (st : Int × Int) : Int × Int := if N (6 * t + 2) = 0 then (if st.2 = -1 ∨ qspv T P N nT h t < st.1 then (qspv T P N nT h t, t) else st) else st
noncomputable def qspf (T P N : Int → Int) (nT h : Int) : Int × Int := qfold (qsp1 T P N nT h) nT 0 (-1, -1)
noncomputable def qPsp (T P N : Int → Int) (nT nH h w : Int) : Int := if (0 ≤ h ∧ h < nH) ∧ 0 ≤ w ∧ w ≤ 1 then (if w = 0 then (qspf T P N nT h).2 else (qspf T P N nT h).1) else -1
theorem qwo_f : ∀ n : Fin 7, ∀ p : Fin 6, p.val < n.val → (0 ≤ bAnd (bShl 1 (n.val : Int) - 1) (bXor (bShl 1 (p.val : Int)) (-1)) ∧ bAnd (bShl 1 (n.val : Int) - 1) (bXor (bShl 1 (p.val : Int)) (-1)) < bShl 1 (n.val : Int)) ∧ ∀ k : Fin 6, Nat.testBit (bAnd (bShl 1 (n.val : Int) - 1) (bXor (bShl 1 (p.val : Int)) (-1))).toNat k.val = (decide (k.val < n.val) && !decide (k.val = p.val)) := by decide +kernel
theorem qwo {n p : Int} (n1 : n ≤ 6) (p0 : 0 ≤ p) (p1 : p < n) : (0 ≤ bAnd (bShl 1 n - 1) (bXor (bShl 1 p) (-1)) ∧ bAnd (bShl 1 n - 1) (bXor (bShl 1 p) (-1)) < bShl 1 n) ∧ ∀ k, 0 ≤ k → k < n → qB (bAnd (bShl 1 n - 1) (bXor (bShl 1 p) (-1))) k = !decide (k = p) := by
  obtain ⟨a, rfl⟩ := Int.eq_ofNat_of_zero_le (show 0 ≤ n by omega)
  obtain ⟨c, rfl⟩ := Int.eq_ofNat_of_zero_le p0
  obtain ⟨h1, h2⟩ := qwo_f ⟨a, by omega⟩ ⟨c, by omega⟩ (by show c < a; omega)
  refine ⟨h1, fun k k0 k1 => ?_⟩
  obtain ⟨i, rfl⟩ := Int.eq_ofNat_of_zero_le k0
  have := h2 ⟨i, by omega⟩
  unfold qB
  rw [Int.toNat_natCast]
  dsimp only at this
  rw [this, decide_eq_true (show i < a by omega), Bool.true_and]
  by_cases e : i = c
  · rw [decide_eq_true e, decide_eq_true (by omega)]
  · rw [decide_eq_false e, decide_eq_false (by omega)]
section SPT
variable {xs : List Int32} {d : Nat} {Q : bPo} {b b0 b1 b2 : Bool} {m : Nat → Int → Int} {nT nH : Int} {T P E U N : Int → Int} {t s h k : Int}
variable {pl : Int → Int} {n x w : Int} {m' : Nat → Int → Int}
theorem qspv_bd {M : Int} (hW : qWF nT nH T P E U N) (t0 : 0 ≤ t) (t1 : t < nT) (h2 : ¬ qAd T P N h t = -1 → qBo (qAd T P N h) (qRo T) (qVa T) nT (N 66 + qAd T P N h t) (fun u => decide (N (6 * u + 2) = 0) && !decide (u = t)) M) : 0 ≤ qspv T P N nT h t ∧ qspv T P N nT h t ≤ 693 := by
  have wt := qw_t hW t0 t1
  unfold qspv
  split
  · omega
  · rename_i e
    rw [qBoz_e (h2 e)]
    have := qBo_bd hW (h2 e)
    split <;> omega
theorem c_aloneA (hW : qWF nT nH T P E U N) (hE : qER m (bW b) nT nH T P E U N) (h0 : 0 ≤ h) (h1 : h < nH) (t0 : 0 ≤ t) (t1 : t < nT) (hQ : Q (qAd T P N h t) ((b0, b1, b2), m)) : bC xs 3 56 [vr (bW b), vi h, vi t] ((b0, b1, b2), m) Q := c_aloneDays hW hE h0 h1 t0 t1 hQ
theorem c_valuesBehind (hW : qWF nT nH T P E U N) (hE : qER m (bW b) nT nH T P E U N) (hL : qLs m T N pl n nT) (h0 : 0 ≤ h) (h1 : h < nH) (t0 : 0 ≤ t) (t1 : t < nT) (ho : N (6 * t + 2) = 0) (hQ : ∀ m', qFr (fun a _ => a = 83) m m' → 0 ≤ qspv T P N nT h t ∧ qspv T P N nT h t ≤ 693 → Q (qspv T P N nT h t) ((b0, b1, b2), m')) : bC xs 5 20 [vr 79, vr (bW b), vi h, vi t] ((b0, b1, b2), m) Q := by
  have wn := qw_n hW
  have wd := qw_day hW
  have hn := qLs_n hW hL
  have pb := qpw (n := n) hn.1 hn.2
  have bd := qAd_bd hW h0 h1 t0 t1
  have wt := qw_t hW t0 t1
  have h4 := hL.1.2.1 t t0 t1 ho
  refine qC rfl fun d hd => r_X1_valuesBehind_0 hd (c_aloneA hW hE h0 h1 t0 t1 ⟨rfl, c_plOf hL wn.1.2 t0 t1 ho ⟨rfl, ?_⟩⟩)
  refine ⟨by omega, fun e => ?_, fun e => ⟨by omega, fun e2 => ?_, fun e2 => by omega⟩⟩
  · have e3 : qspv T P N nT h t = 0 := by unfold qspv; rw [if_pos e]
    have := hQ m qFr.refl (by omega)
    rw [e3] at this
    exact this
  · refine c_spanSets hW hE hL h0 h1 (by omega) (by omega) ?_
    intro m1 f1 hS
    have hL1 : qLs m1 T N pl n nT := hL.fr (f1 79 5 (by omega)) (qFr_at f1 80 (fun k => by omega)) (qFr_at f1 81 (fun k => by omega)) (qFr_at f1 82 (fun k => by omega))
    have hE1 := hE.fl (f1.mono (fun a k h => by omega))
    have et := qe_t hE1 t0 t1
    have ed := qe_day hE1
    obtain ⟨⟨y0, y1⟩, y2⟩ := qwo hn.2 h4.1 h4.2.1
    refine ⟨rfl, ?_⟩
    dsimp only
    rw [hL1.1.1.1]
    refine c_mostWithin (qRw_of hW hL1 (by omega) hS) hn y0 y1 ?_
    intro M b1 b2 b3
    have hbo := qBo_cg (χ' := fun u => decide (N (6 * u + 2) = 0) && !decide (u = t)) (fun u u0 u1 => by
      unfold qX
      by_cases e4 : N (6 * u + 2) = 0
      · have h5 := hL1.1.2.1 u u0 u1 e4
        rw [y2 (pl u) h5.1 h5.2.1]
        congr 2
        by_cases e5 : u = t
        · rw [e5, decide_eq_true rfl, decide_eq_true rfl]
        · rw [decide_eq_false e5, decide_eq_false (fun e6 : pl u = pl t => e5 (by rw [← h5.2.2, e6]; exact (hL1.1.2.1 t t0 t1 ho).2.2))]
      · rw [decide_eq_false e4, Bool.false_and, Bool.false_and]) (qWi_bo hW hL1 hS (by omega) y0 y1 b1 b2 b3)
    have hv : qspv T P N nT h t = (if qit T N t (qAd T P N h t) then T (4 * t) else 0) + M := by
      unfold qspv
      rw [if_neg e, qBoz_e hbo]
    have hq := hQ m1 f1 (qspv_bd hW t0 t1 (fun _ => hbo))
    rw [hv] at hq
    dsimp only
    rw [ed, et.2.1, et.1]
    refine ⟨rfl, ?_⟩
    refine ⟨by omega, fun e3 => absurd e3 e, fun _ => ⟨by omega, by omega, by omega, fun e3 => ?_, fun e3 => ⟨by omega, ?_⟩⟩⟩
    · rw [if_neg (by omega)] at hq
      rw [show (0 : Int) + M = M by omega] at hq
      exact hq
    · rw [if_pos (by omega), Int.add_comm] at hq
      exact hq
theorem c_spite (hW : qWF nT nH T P E U N) (hE : qER m (bW b0) nT nH T P E U N) (x1 : inR h) (x2 : inR w) (hQ : ∀ m', qFr qFd m m' → Q (qPsp T P N nT nH h w) ((b0, b1, b2), m')) : bC xs 7 154 [vr 0, vi h, vi w] ((b0, b1, b2), m) Q := by
  have wn := qw_n hW
  have en := qe_n hE
  refine qC rfl fun d hd => r_X11_spite_0 hd ?_
  rw [en.2]
  unfold qPsp at hQ
  have hno : ¬ ((0 ≤ h ∧ h < nH) ∧ 0 ≤ w ∧ w ≤ 1) → Q (-1) ((b0, b1, b2), m) := fun hn => by
    have := hQ m qFr.refl
    rw [if_neg hn] at this
    exact this
  refine ⟨x1, fun e => hno (by omega), fun h0 => ⟨x1, by omega, fun e => hno (by omega), fun h1 => ⟨x2, fun e => hno (by omega), fun w0 => ⟨x2, fun w1 => ?_, fun e => hno (by omega)⟩⟩⟩⟩
  rw [if_pos ⟨⟨h0, h1⟩, w0, w1⟩] at hQ
  refine qC rfl fun d hd => r_X1_spiteOn_0 hd (c_lineUp hW hE ?_)
  intro m1 pl n f1 hL
  refine ⟨rfl, ?_⟩
  dsimp only
  have f1' : qFr qFd m m1 := f1.mono (fun a k h => Or.inl h)
  suffices H : ∀ t, t ≤ nT → 0 ≤ t → ∀ st : Int × Int, (-1 ≤ st.1 ∧ st.1 ≤ 693) → (-1 ≤ st.2 ∧ st.2 ≤ 6) → qspf T P N nT h = qfold (qsp1 T P N nT h) nT t st → ∀ m2, qFr (fun a _ => a = 83) m1 m2 → bGo xs d aM_X1_spiteOn 14 [vr 79, vr (bW b0), vi h, vi w, vi st.1, vi st.2, vi t, vn] [] ((b0, b1, b2), m2) (fun z1 μ2 => μ2.1 = (b0, b1, b2) ∧ Q z1 ((b0, b1, b2), μ2.2)) from H 0 wn.1.1 (by omega) (-1, -1) (by dsimp only; omega) (by dsimp only; omega) rfl m1 qFr.refl
  refine qUpto ?_
  intro t ht ih t0 st s1 s2 he m2 f2
  have f12 : qFr qFd m m2 := f1'.trans (f2.mono (fun a k h => Or.inr (Or.inl h)))
  have hE2 := hE.fl (f12.mono (fun a k h => by unfold qFd qFl at h; omega))
  have en2 := qe_n hE2
  have hL2 : qLs m2 T N pl n nT := hL.fr (f2 79 5 (by omega)) (qFr_at f2 80 (fun k => by omega)) (qFr_at f2 81 (fun k => by omega)) (qFr_at f2 82 (fun k => by omega))
  refine r_X1_spiteOn_14 hd ?_
  rw [en2.1]
  refine ⟨by omega, by omega, fun h2 => ⟨x2, fun e => ⟨rfl, ?_⟩, fun e => ⟨rfl, ?_⟩⟩, fun t1 => ⟨by omega, fun h => by omega, fun _ => ⟨by omega, by omega, fun h => by omega, fun _ => ⟨by omega, ?_⟩⟩⟩⟩
  · rw [qfold_ge (by omega)] at he
    rw [he, if_neg e] at hQ
    exact hQ m2 f12
  · rw [qfold_ge (by omega)] at he
    rw [he, if_pos e] at hQ
    exact hQ m2 f12
  · have el := qe_l hE2 t0 t1
    have ws := qw_st hW t0 t1
    rw [qfold_lt t1] at he
    unfold qsp1 at he
    rw [el.2.2.2.1]
    refine ⟨by omega, fun e => ?_, fun e => c_valuesBehind hW hE2 hL2 h0 h1 t0 t1 e ?_⟩
    · rw [if_neg e] at he
      exact ih t1 (by omega) st s1 s2 he m2 f2
    · intro m3 f3 bv
      rw [if_pos e] at he
      have f23 := f2.trans f3
      refine ⟨rfl, by omega, fun e2 => ?_, fun e2 => ⟨by omega, by omega, fun e3 => ?_, fun e3 => ?_⟩⟩
      · rw [if_pos (Or.inl e2)] at he
        exact ih t1 (by omega) (qspv T P N nT h t, t) (by dsimp only; omega) (by dsimp only; omega) he m3 f23
      · rw [if_neg (by omega)] at he
        exact ih t1 (by omega) st s1 s2 he m3 f23
      · rw [if_pos (Or.inr e3)] at he
        exact ih t1 (by omega) (qspv T P N nT h t, t) (by dsimp only; omega) (by dsimp only; omega) he m3 f23
end SPT
