/-! B: learning (class) -/
/-- with one skill more -/
def qN1 (N : Int → Int) (h k : Int) : Int → Int := qset N (36 + 5 * h + k) (N (36 + 5 * h + k) + 1)
noncomputable def qlv (T P N : Int → Int) (nT nH h k : Int) : Int := (qDz T P (qN1 N h k) nT nH + 999999) / 1000000
noncomputable def qlr1 (T P N : Int → Int) (nT nH h k : Int) (st : Int × Int) : Int × Int := if N (36 + 5 * h + k) < 9 then (if st.1 < qlv T P N nT nH h k then (qlv T P N nT nH h k, h * 10 + k) else st) else st
noncomputable def qlrn (T P N : Int → Int) (nT nH : Int) : Int × Int := qfold (fun h st => qfold (fun k st => qlr1 T P N nT nH h k st) 5 0 st) nH 0 (-1, -1)
noncomputable def qPlr (T P N : Int → Int) (nT nH w : Int) : Int := if 0 < nT ∧ 0 ≤ w ∧ w ≤ 1 then (if w = 0 then (qlrn T P N nT nH).2 else (qlrn T P N nT nH).1) else -1
theorem qFe_A {A A' r : Int → Int} {n b : Int} {χ : Int → Bool} (h : ∀ t, 0 ≤ t → t < n → A t = A' t) (hf : qFe A r n b χ) : qFe A' r n b χ := by
  intro t t0 t1 ht
  have := hf t t0 t1 ht
  rw [h t t0 t1, qsB_cg (χ' := fun u => χ u && qbf r u t) (g := A') (fun _ _ _ => rfl) (fun u u0 u1 _ => h u u0 u1)] at this
  exact this
theorem qBt_A2 {A A' : Int → Int → Int} {r V W : Int → Int} {n b z : Int} {hs : Int → Prop} {χ : Int → Bool} (h : ∀ x, hs x → ∀ t, 0 ≤ t → t < n → A x t = A' x t) (hb : qBt A r V W n b hs χ z) : qBt A' r V W n b hs χ z := by
  obtain ⟨⟨a, ha, ea⟩, ua⟩ := hb
  exact ⟨⟨a, ⟨ha.1, fun g hg => qFe_A (h g hg) (ha.2 g hg)⟩, ea⟩, fun c hc => ua c ⟨hc.1, fun g hg => qFe_A (fun t t0 t1 => (h g hg t t0 t1).symm) (hc.2 g hg)⟩⟩
section LRN
variable {xs : List Int32} {d : Nat} {Q : bPo} {b b0 b1 b2 : Bool} {m : Nat → Int → Int} {nT nH : Int} {T P E U N : Int → Int} {t s h k : Int}
variable {pl : Int → Int} {n w : Int} {m' : Nat → Int → Int}
theorem qN1_o {j : Int} (hj : ¬ j = 36 + 5 * h + k) : qN1 N h k j = N j := qset_o hj
theorem qN1_W (hW : qWF nT nH T P E U N) (h0 : 0 ≤ h) (h1 : h < nH) (k0 : 0 ≤ k) (k1 : k < 5) (h9 : N (36 + 5 * h + k) < 9) : qWF nT nH T P E U (qN1 N h k) := by
  have wn := qw_n hW
  have ws := qw_sk hW h0 h1 k0 k1
  obtain ⟨a, b, c, d, e, f⟩ := hW
  exact ⟨a, b, c, d, e, qNw_sk wn.1.2 wn.2.1.2 h0 h1 k0 k1 (by omega) f⟩
theorem qN1_E (hW : qWF nT nH T P E U N) (hE : qER m (bW b) nT nH T P E U N) (h0 : 0 ≤ h) (h1 : h < nH) (k0 : 0 ≤ k) (k1 : k < 5) : qER (up m (bW b + 9) (36 + h * 5 + k) (N (36 + 5 * h + k) + 1)) (bW b) nT nH T P E U (qN1 N h k) := by
  have wn := qw_n hW
  have hb := qW b
  obtain ⟨h1', h2⟩ := hE
  refine ⟨?_, ?_⟩
  · unfold qTo at *
    rw [qup_n (by omega), qup_n (by omega), qup_n (by omega), qup_n (by omega), qup_n (by omega), qup_n (by omega), qup_n (by omega), qup_n (by omega)]
    exact h1'
  · rw [qup_f]
    exact qLv_sk wn.1.2 wn.2.1.2 h0 h1 k0 k1 h2
theorem qN1_A (hW : qWF nT nH T P E U N) (h0 : 0 ≤ h) (h1 : h < nH) (k0 : 0 ≤ k) (k1 : k < 5) {x : Int} (hx : ¬ x = h) (x0 : 0 ≤ x) (x1 : x < nH) (t0 : 0 ≤ t) (t1 : t < nT) : qAd T P N x t = qAd T P (qN1 N h k) x t := by
  have wn := qw_n hW
  have wd := qw_dn hW t0 t1
  unfold qAd
  rw [qN1_o (j := 6 * t) (by omega)]
  unfold qal
  refine qsum_congr (N (6 * t)) wd.2 (fun i i0 i1 => ?_) 0
  have wp := qw_p hW t0 t1 (show 0 ≤ i by omega) i1
  unfold qtk
  rw [qN1_o (by omega)]
/-- with the heir that learns last -/
theorem qN1_bt {M : Int} (hW : qWF nT nH T P E U N) (hL : qLs m T N pl n nT) (h0 : 0 ≤ h) (h1 : h < nH) (k0 : 0 ≤ k) (k1 : k < 5) (h9 : N (36 + 5 * h + k) < 9) (hS : qSp m T P (qN1 N h k) pl n nT h 0) (hD : qDm m T P N pl n nT (fun x => (0 ≤ x ∧ x < nH) ∧ ¬ x = h)) (hM : qShr m h (bShl 1 n - 1) M) : qBt (fun x => qAd T P (qN1 N h k) x) (qRo T) (qVa T) (qWt nT) nT (qN1 N h k 66) (fun x => 0 ≤ x ∧ x < nH) (qOpn (qN1 N h k)) M := by
  have wn := qw_n hW
  have hn := qLs_n hW hL
  have pb := qpw (n := n) hn.1 hn.2
  have hW1 := qN1_W hW h0 h1 k0 k1 h9
  have op : ∀ t, 0 ≤ t → t < nT → N (6 * t + 2) = qN1 N h k (6 * t + 2) := fun t t0 t1 => (qN1_o (by omega)).symm
  have hL1 : qLs m T (qN1 N h k) pl n nT := qLs_N hL wn.1.1 op
  have e66 : qN1 N h k 66 = N 66 := qN1_o (by omega)
  have hz : ∀ q, 0 ≤ q → q ≤ bShl 1 n - 1 → qBt (fun x => qAd T P (qN1 N h k) x) (qRo T) (qVa T) (qWt nT) nT (qN1 N h k 66) (fun x => (0 ≤ x ∧ x < nH) ∧ ¬ x = h) (qX (qN1 N h k) pl q) (m 84 q) := fun q q0 q1 => by
    rw [e66]
    exact qBt_A2 (fun x hx t t0 t1 => qN1_A hW h0 h1 k0 k1 hx.2 hx.1.1 hx.1.2 t0 t1) (qBt_cg wn.1.1 (fun u u0 u1 => by unfold qX; rw [op u u0 u1]) (hD q q0 (by omega)))
  have := qShr_bt hW1 hL1 hn hS (by omega) (fun hx => hx.2 rfl) (by omega) (by omega) hz hM
  refine qBt_hs (fun x => ?_) (qBt_cg wn.1.1 (fun u u0 u1 => qX_full hL1 hn u0 u1) this)
  constructor
  · intro hx; omega
  · intro hx; omega
theorem c_learn (hW : qWF nT nH T P E U N) (hE : qER m (bW b0) nT nH T P E U N) (x2 : inR w) (hQ : ∀ m', qFr qFd m m' → Q (qPlr T P N nT nH w) ((b0, b1, b2), m')) : bC xs 9 152 [vr 0, vi w] ((b0, b1, b2), m) Q := by
  have wn := qw_n hW
  have en := qe_n hE
  have hw := qW b0
  refine qC rfl fun d hd => r_X11_learn_0 hd ?_
  rw [en.1]
  unfold qPlr at hQ
  have hno : ¬ (0 < nT ∧ 0 ≤ w ∧ w ≤ 1) → Q (-1) ((b0, b1, b2), m) := fun hn => by
    have := hQ m qFr.refl
    rw [if_neg hn] at this
    exact this
  refine ⟨by omega, fun e => hno (by omega), fun t0 => ⟨x2, fun e => hno (by omega), fun w0 => ⟨x2, fun w1 => ?_, fun e => hno (by omega)⟩⟩⟩
  rw [if_pos ⟨t0, w0, w1⟩] at hQ
  refine qC rfl fun d hd => r_X1_learnBest_0 hd (c_lineUp hW hE ?_)
  intro m1 pl n f1 hL
  have hn := qLs_n hW hL
  have pb := qpw (n := n) hn.1 hn.2
  refine ⟨rfl, ?_⟩
  dsimp only
  have f1' : qFr qFd m m1 := f1.mono (fun a k h => Or.inl h)
  suffices H : ∀ h, h ≤ nH → 0 ≤ h → ∀ st : Int × Int, (-1 ≤ st.1 ∧ st.1 ≤ 1000) → inR st.2 → qlrn T P N nT nH = qfold (fun h st => qfold (fun k st => qlr1 T P N nT nH h k st) 5 0 st) nH h st → ∀ m2, qFr (fun a _ => a = 83 ∨ a = 84) m1 m2 → bGo xs d aM_X1_learnBest 13 [vr 79, vr (bW b0), vi w, vi st.1, vi st.2, vi h, vn, vn] [] ((b0, b1, b2), m2) (fun z1 μ2 => μ2.1 = (b0, b1, b2) ∧ Q z1 ((b0, b1, b2), μ2.2)) from H 0 (by omega) (by omega) (-1, -1) (by dsimp only; omega) (by dsimp only; omega) rfl m1 qFr.refl
  refine qUpto ?_
  intro h hh ih h0 st s1 s2 he m2 f2
  have f12 : qFr qFd m m2 := f1'.trans (f2.mono (fun a k h => Or.inr h))
  have hE2 := hE.fl (f12.mono (fun a k h => by unfold qFd qFl at h; omega))
  have en2 := qe_n hE2
  have hL2 : qLs m2 T N pl n nT := hL.fr (f2 79 5 (by omega)) (qFr_at f2 80 (fun k => by omega)) (qFr_at f2 81 (fun k => by omega)) (qFr_at f2 82 (fun k => by omega))
  refine r_X1_learnBest_13 hd ?_
  rw [en2.2]
  refine ⟨by omega, by omega, fun h2 => ⟨x2, fun e => ⟨rfl, ?_⟩, fun e => ⟨rfl, ?_⟩⟩, fun h1 => c_dealToAllBut hW hE2 hL2 (by omega) ?_⟩
  · rw [qfold_ge (by omega)] at he
    rw [he, if_neg e] at hQ
    exact hQ m2 f12
  · rw [qfold_ge (by omega)] at he
    rw [he, if_pos e] at hQ
    exact hQ m2 f12
  · intro m3 f3 hD
    refine ⟨rfl, ?_⟩
    dsimp only
    rw [qfold_lt h1] at he
    have f23 : qFr (fun a _ => a = 83 ∨ a = 84) m1 m3 := f2.trans f3
    suffices H : ∀ k, k ≤ 5 → 0 ≤ k → ∀ st : Int × Int, (-1 ≤ st.1 ∧ st.1 ≤ 1000) → inR st.2 → qlrn T P N nT nH = qfold (fun h st => qfold (fun k st => qlr1 T P N nT nH h k st) 5 0 st) nH (h + 1) (qfold (fun k st => qlr1 T P N nT nH h k st) 5 k st) → ∀ m4, qFr (fun a _ => a = 83) m3 m4 → bGo xs d aM_X1_learnBest 32 [vr 79, vr (bW b0), vi w, vi st.1, vi st.2, vi h, vi k, vn] [] ((b0, b1, b2), m4) (fun z1 μ2 => μ2.1 = (b0, b1, b2) ∧ Q z1 ((b0, b1, b2), μ2.2)) from H 0 (by omega) (by omega) st s1 s2 he m3 qFr.refl
    clear he
    refine qUpto ?_
    intro k hk ihk k0 st s1 s2 he m4 f4
    have f34 : qFr (fun a _ => a = 83 ∨ a = 84) m1 m4 := f23.trans (f4.mono (fun a k h => Or.inl h))
    have f14 : qFr qFd m m4 := f1'.trans (f34.mono (fun a k h => Or.inr h))
    have hE4 := hE.fl (f14.mono (fun a k h => by unfold qFd qFl at h; omega))
    have hL4 : qLs m4 T N pl n nT := hL.fr (f34 79 5 (by omega)) (qFr_at f34 80 (fun k => by omega)) (qFr_at f34 81 (fun k => by omega)) (qFr_at f34 82 (fun k => by omega))
    refine r_X1_learnBest_32 hd ⟨by omega, fun h5 => ?_, fun k1 => ⟨by omega, ?_⟩⟩
    · rw [qfold_ge (S := 5) (by omega)] at he
      exact ih h1 (by omega) st s1 s2 he m4 f34
    · have es := qe_sk hE4 h0 h1 k0 k1
      have ws := qw_sk hW h0 h1 k0 k1
      rw [qfold_lt (S := 5) k1] at he
      rw [es]
      refine ⟨by omega, fun h9 => ?_, fun h9 => ⟨by omega, by omega, ?_⟩⟩
      · unfold qlr1 at he
        rw [if_neg (by omega)] at he
        exact ihk k1 (by omega) st s1 s2 he m4 f4
      · have hW1 := qN1_W hW h0 h1 k0 k1 h9
        have hE5 := qN1_E hW hE4 h0 h1 k0 k1
        have op : ∀ t, 0 ≤ t → t < nT → N (6 * t + 2) = qN1 N h k (6 * t + 2) := fun t t0 t1 => (qN1_o (by omega)).symm
        have hL5 : qLs (up m4 (bW b0 + 9) (36 + h * 5 + k) (N (36 + 5 * h + k) + 1)) T (qN1 N h k) pl n nT := qLs_N (hL4.fr (by rw [qup_n (by omega)]) (by rw [qup_n (by omega)]) (by rw [qup_n (by omega)]) (by rw [qup_n (by omega)])) wn.1.1 op
        refine c_spanSets hW1 hE5 hL5 h0 h1 (by omega) (by omega) ?_
        intro m6 f6 hS
        have e9 : m6 (bW b0 + 9) (36 + h * 5 + k) + -1 = N (36 + 5 * h + k) := by rw [f6 _ _ (by omega), qup_s]; omega
        have f7 : qFr (fun a _ => a = 83) m4 (up m6 (bW b0 + 9) (36 + h * 5 + k) (N (36 + 5 * h + k))) := by
          intro a j ha
          by_cases ea : a = bW b0 + 9
          · subst ea
            rw [qup_if]
            by_cases ej : j = 36 + h * 5 + k
            · rw [if_pos ej, ej, es]
            · rw [if_neg ej, f6 _ _ ha, qup_o ej]
          · rw [qup_n ea, f6 _ _ ha, qup_n ea]
        have e83 : up m6 (bW b0 + 9) (36 + h * 5 + k) (N (36 + 5 * h + k)) 83 = m6 83 := qup_n (by omega)
        have hL7 : qLs (up m6 (bW b0 + 9) (36 + h * 5 + k) (N (36 + 5 * h + k))) T N pl n nT := hL4.fr (f7 79 5 (by omega)) (qFr_at f7 80 (fun k => by omega)) (qFr_at f7 81 (fun k => by omega)) (qFr_at f7 82 (fun k => by omega))
        have e5 : m6 79 5 = n := by rw [f6 79 5 (by omega), qup_n (by omega)]; exact hL4.1.1.1
        dsimp only
        rw [e9, e5]
        generalize up m6 (bW b0 + 9) (36 + h * 5 + k) (N (36 + 5 * h + k)) = m7 at *
        have hS7 : qSp m7 T P (qN1 N h k) pl n nT h 0 := by
          intro q q0 q1
          have := hS q q0 q1
          rw [← e83] at this
          exact this
        have f47 : qFr (fun a _ => a = 83) m3 m7 := f4.trans f7
        have hD7 : qDm m7 T P N pl n nT (fun x => (0 ≤ x ∧ x < nH) ∧ ¬ x = h) := by
          intro q q0 q1
          rw [f47 84 q (by omega)]
          exact hD q q0 q1
        have hR : qRb m7 n := qRb_of hW1 (qLs_N hL7 wn.1.1 op) (by omega) hS7 (fun q q0 q1 => qBt_bd hW (fun x hx => by omega) (hD7 q q0 q1))
        refine ⟨rfl, by omega, by omega, c_shareOf hR hn h0 (by omega) (by omega) (by omega) ?_⟩
        intro M hM _
        have hbt := qN1_bt hW hL7 h0 h1 k0 k1 h9 hS7 hD7 hM
        have eM : qDz T P (qN1 N h k) nT nH = M := qBz_e hbt
        have bM := qBt_bd hW1 (fun x hx => by omega) hbt
        unfold qlr1 at he
        rw [if_pos h9] at he
        have ev : qlv T P N nT nH h k = (M + 999999) / 1000000 := by unfold qlv; rw [eM]
        rw [ev] at he
        refine ⟨rfl, by omega, by omega, by omega, fun e => ?_, fun e => ?_⟩
        · rw [if_neg (by omega)] at he
          exact ihk k1 (by omega) st s1 s2 he m7 f47
        · rw [if_pos e] at he
          exact ihk k1 (by omega) ((M + 999999) / 1000000, h * 10 + k) (by dsimp only; omega) (by dsimp only; omega) he m7 f47
end LRN
