/-! B: the class deals to all; deal -/
noncomputable def qBz (A : Int → Int → Int) (r V W : Int → Int) (n b : Int) (hs : Int → Prop) (χ : Int → Bool) : Int := Classical.epsilon (fun z => qBt A r V W n b hs χ z)
theorem qBz_e {A : Int → Int → Int} {r V W : Int → Int} {n b z : Int} {hs : Int → Prop} {χ : Int → Bool} (h : qBt A r V W n b hs χ z) : qBz A r V W n b hs χ = z := qBt_u (Classical.epsilon_spec (p := fun z => qBt A r V W n b hs χ z) ⟨z, h⟩) h
def qOpn (N : Int → Int) : Int → Bool := fun t => decide (N (6 * t + 2) = 0)
def qNop (N : Int → Int) : Int → Bool := fun t => !decide (N (6 * t + 2) = 0)
/-- the best dealing of all there is to all heirs -/
noncomputable def qDz (T P N : Int → Int) (nT nH : Int) : Int := qBz (fun h => qAd T P N h) (qRo T) (qVa T) (qWt nT) nT (N 66) (fun x => 0 ≤ x ∧ x < nH) (qOpn N)
noncomputable def qPdl (T P N : Int → Int) (nT nH w : Int) : Int := if 0 < nT ∧ 0 ≤ w ∧ w ≤ 1 then (if w = 0 then ((qDz T P N nT nH + 999999) / 1000000 * 1000000 - qDz T P N nT nH) + 9 * qsB (qNop N) (qWt nT) nT else (qDz T P N nT nH + 999999) / 1000000) else -1
def qFd (a : Nat) (k : Int) : Prop := qFl a k ∨ a = 83 ∨ a = 84
section DLC2
variable {xs : List Int32} {d : Nat} {Q : bPo} {b b0 b1 b2 : Bool} {m : Nat → Int → Int} {nT nH : Int} {T P E U N : Int → Int} {t s h k : Int}
variable {pl : Int → Int} {n : Int} {m' : Nat → Int → Int} {hs : Int → Prop}
theorem qLs_n (hW : qWF nT nH T P E U N) (hL : qLs m T N pl n nT) : 0 ≤ n ∧ n ≤ 6 := by
  have wn := qw_n hW
  have nb := qno_bd (N := N) wn.1.1
  have := hL.1.1.2
  omega
theorem c_dealNothing (hW : qWF nT nH T P E U N) (hL : qLs m T N pl n nT) (hQ : ∀ m', qFr (fun a _ => a = 84) m m' → qDm m' T P N pl n nT (fun _ => False) → Q 0 ((b0, b1, b2), m')) : bC xs 2 8 [vr 79] ((b0, b1, b2), m) Q := by
  have wn := qw_n hW
  have hn := qLs_n hW hL
  have pb := qpw (n := n) hn.1 hn.2
  refine qC rfl fun d hd => r_X1_dealNothing_0 hd ?_
  suffices H : ∀ s, s ≤ bShl 1 n → 0 ≤ s → ∀ m1, qFr (fun a _ => a = 84) m m1 → (∀ q, 0 ≤ q → q < s → m1 84 q = -9 * m 82 q) → bGo xs d aM_X1_dealNothing 2 [vr 79, vi s] [] ((b0, b1, b2), m1) Q from H 0 (by omega) (by omega) m qFr.refl (fun q a c => by omega)
  refine qUpto ?_
  intro s hs ih s0 m1 f1 he
  refine r_X1_dealNothing_2 hd ?_
  rw [f1 79 5 (by omega), hL.1.1.1]
  refine ⟨by omega, by omega, fun h2 => hQ m1 f1 (fun q q0 q1 => ?_), fun h2 => ⟨by omega, by omega, ?_⟩⟩
  · rw [he q q0 (by omega), (hL.2 q q0 q1).2]
    exact qBt_0 wn.1.1
  · refine ih (by omega) (by omega) _ (qFr_up f1 rfl) (fun q a c => ?_)
    rw [qup_if]
    by_cases e : q = s
    · rw [if_pos e, e, f1 82 s (by omega)]
    · rw [if_neg e]; exact he q a (by omega)
theorem c_dealTo (hW : qWF nT nH T P E U N) (hE : qER m (bW b) nT nH T P E U N) (hL : qLs m T N pl n nT) (h0 : 0 ≤ h) (h1 : h < nH) (hD : qDm m T P N pl n nT hs) (hh : ¬ hs h) (hb : ∀ x, hs x → 0 ≤ x ∧ x < 6) (hQ : ∀ m', qFr (fun a _ => a = 83 ∨ a = 84) m m' → qDm m' T P N pl n nT (fun x => hs x ∨ x = h) → Q 0 ((b0, b1, b2), m')) : bC xs 5 10 [vr 79, vr (bW b), vi h] ((b0, b1, b2), m) Q := by
  have wn := qw_n hW
  have hn := qLs_n hW hL
  have pb := qpw (n := n) hn.1 hn.2
  refine qC rfl fun d hd => r_X1_dealTo_0 hd (c_spanSets hW hE hL h0 h1 (by omega) (by omega) ?_)
  intro m1 f1 hS
  refine ⟨rfl, ?_⟩
  dsimp only
  rw [f1 79 5 (by omega), hL.1.1.1]
  have f1' : qFr (fun a _ => a = 83 ∨ a = 84) m m1 := f1.mono (fun a k h => Or.inl h)
  suffices H : ∀ s, 0 ≤ s → s < bShl 1 n → ∀ m2, qFr (fun a _ => a = 84) m1 m2 → (∀ q, 0 ≤ q → q ≤ s → m2 84 q = m1 84 q) → (∀ q, s < q → q < bShl 1 n → qBt (fun h => qAd T P N h) (qRo T) (qVa T) (qWt nT) nT (N 66) (fun x => hs x ∨ x = h) (qX N pl q) (m2 84 q)) → bGo xs d aM_X1_dealTo 12 [vr 79, vn, vi h, vi s] [] ((b0, b1, b2), m2) Q from H (bShl 1 n - 1) (by omega) (by omega) m1 qFr.refl (fun _ _ _ => rfl) (fun q a c => by omega)
  refine qDown ?_
  intro s s0 ih s1 m2 f2 hlo hhi
  have hL1 : qLs m1 T N pl n nT := hL.fr (f1 79 5 (by omega)) (qFr_at f1 80 (fun k => by omega)) (qFr_at f1 81 (fun k => by omega)) (qFr_at f1 82 (fun k => by omega))
  have hL2 : qLs m2 T N pl n nT := hL1.fr (f2 79 5 (by omega)) (qFr_at f2 80 (fun k => by omega)) (qFr_at f2 81 (fun k => by omega)) (qFr_at f2 82 (fun k => by omega))
  have hS2 : qSp m2 T P N pl n nT h 0 := by
    intro q q0 q1
    have := hS q q0 q1
    rw [← f2 83 q (by omega)] at this
    exact this
  have hz : ∀ q, 0 ≤ q → q ≤ s → qBt (fun h => qAd T P N h) (qRo T) (qVa T) (qWt nT) nT (N 66) hs (qX N pl q) (m2 84 q) := fun q q0 q1 => by
    rw [hlo q q0 q1, f1 84 q (by omega)]
    exact hD q q0 (by omega)
  have hb' : ∀ x, hs x ∨ x = h → 0 ≤ x ∧ x < 6 := fun x hx => hx.elim (fun h => hb x h) (fun e => by omega)
  have hR : qRb m2 n := qRb_of hW hL2 (by omega) hS2 (fun q q0 q1 => by
    by_cases e : q ≤ s
    · exact qBt_bd hW hb (hz q q0 e)
    · exact qBt_bd hW hb' (hhi q (by omega) q1))
  refine r_X1_dealTo_12 hd ⟨by omega, fun h2 => ?_, fun h2 => c_shareOf hR hn h0 (by omega) s0 s1 ?_⟩
  · refine hQ m2 (f1'.trans (f2.mono (fun a k h => Or.inr h))) (fun q q0 q1 => ?_)
    by_cases e : s < q
    · exact hhi q e q1
    · have e0 : q = s := by omega
      refine qShr_bt hW hL2 hn hS2 (by omega) hh q0 q1 (fun q' a c => hz q' a (by omega)) ⟨Int.le_refl _, fun q' a c => ?_, Or.inl rfl⟩
      have := qSu_le q0 c
      omega
  · intro M hM _
    refine ⟨rfl, by omega, ?_⟩
    dsimp only
    refine ih h2 (by omega) _ (qFr_up f2 rfl) (fun q a c => ?_) (fun q a c => ?_)
    · rw [qup_o (by omega)]
      exact hlo q a (by omega)
    · rw [qup_if]
      by_cases e : q = s
      · rw [if_pos e, e]
        exact qShr_bt hW hL2 hn hS2 (by omega) hh s0 s1 hz hM
      · rw [if_neg e]
        exact hhi q (by omega) c
theorem c_dealToAllBut {l : Int} (hW : qWF nT nH T P E U N) (hE : qER m (bW b) nT nH T P E U N) (hL : qLs m T N pl n nT) (xl : inR l) (hQ : ∀ m', qFr (fun a _ => a = 83 ∨ a = 84) m m' → qDm m' T P N pl n nT (fun x => (0 ≤ x ∧ x < nH) ∧ ¬ x = l) → Q 0 ((b0, b1, b2), m')) : bC xs 6 11 [vr 79, vr (bW b), vi l] ((b0, b1, b2), m) Q := by
  have wn := qw_n hW
  refine qC rfl fun d hd => r_X1_dealToAllBut_0 hd (c_dealNothing hW hL ?_)
  intro m1 f1 hD
  refine ⟨rfl, ?_⟩
  dsimp only
  suffices H : ∀ h, h ≤ nH → 0 ≤ h → ∀ m1, qFr (fun a _ => a = 83 ∨ a = 84) m m1 → qDm m1 T P N pl n nT (fun x => (0 ≤ x ∧ x < h) ∧ ¬ x = l) → bGo xs d aM_X1_dealToAllBut 6 [vr 79, vr (bW b), vi l, vi h] [] ((b0, b1, b2), m1) Q from H 0 (by omega) (by omega) m1 (f1.mono (fun a k h => Or.inr h)) (fun s a c => qBt_hs (fun x => ⟨fun h => h.elim, fun h => by omega⟩) (hD s a c))
  refine qUpto ?_
  intro h hh ih h0 m1 f1 hD
  have hE1 := hE.fl (f1.mono (fun a k h => by omega))
  have en := qe_n hE1
  have hL1 : qLs m1 T N pl n nT := hL.fr (f1 79 5 (by omega)) (qFr_at f1 80 (fun k => by omega)) (qFr_at f1 81 (fun k => by omega)) (qFr_at f1 82 (fun k => by omega))
  refine r_X1_dealToAllBut_6 hd ?_
  rw [en.2]
  refine ⟨by omega, by omega, fun h2 => hQ m1 f1 (by rw [show nH = h by omega]; exact hD), fun h2 => ⟨by omega, xl, fun e => ih h2 (by omega) m1 f1 (fun s a c => qBt_hs (fun x => ?_) (hD s a c)), fun e => c_dealTo hW hE1 hL1 h0 h2 hD (by omega) (fun x hx => by omega) ?_⟩⟩
  · constructor
    · intro hx; omega
    · intro hx; omega
  · intro m2 f2 hD2
    refine ⟨rfl, ih h2 (by omega) m2 (f1.trans f2) (fun s a c => qBt_hs (fun x => ?_) (hD2 s a c))⟩
    constructor
    · intro hx; omega
    · intro hx; omega
theorem qX_full (hL : qLs m T N pl n nT) (hn : 0 ≤ n ∧ n ≤ 6) (t0 : 0 ≤ t) (t1 : t < nT) : qX N pl (bShl 1 n - 1) t = qOpn N t := by
  unfold qX qOpn
  by_cases e : N (6 * t + 2) = 0
  · have h1 := hL.1.2.1 t t0 t1 e
    rw [qB_full hn.1 hn.2 h1.1 (by omega), decide_eq_true h1.2.1, Bool.and_true]
  · rw [decide_eq_false e, Bool.false_and]
theorem c_digitsOf (hW : qWF nT nH T P E U N) (hE : qER m (bW b) nT nH T P E U N) {z : Int} (hz : -999999 ≤ z ∧ z ≤ 594000000) (hQ : Q (((z + 999999) / 1000000 * 1000000 - z) + 9 * qsB (qNop N) (qWt nT) nT) ((b0, b1, b2), m)) : bC xs 7 14 [vr 79, vr (bW b), vi z] ((b0, b1, b2), m) Q := by
  have wn := qw_n hW
  have en := qe_n hE
  refine qC rfl fun d hd => r_X1_digitsOf_0 hd ⟨by omega, ?_⟩
  suffices H : ∀ t, t ≤ nT → 0 ≤ t → bGo xs d aM_X1_digitsOf 13 [vn, vr (bW b), vn, vi (((z + 999999) / 1000000 * 1000000 - z) + 9 * qsB (qNop N) (qWt nT) t), vi t] [] ((b0, b1, b2), m) Q by
    have := H 0 wn.1.1 (by omega)
    rw [qsB_0, show (9 : Int) * 0 = 0 by omega, Int.add_zero] at this
    exact this
  refine qUpto ?_
  intro t ht ih t0
  refine r_X1_digitsOf_13 hd ?_
  rw [en.1]
  refine ⟨by omega, by omega, fun h => by rw [show t = nT by omega]; exact hQ, fun t1 => ⟨by omega, fun h => by omega, fun _ => ⟨by omega, by omega, fun h => by omega, fun _ => ⟨by omega, ?_⟩⟩⟩⟩
  have el := qe_l hE t0 t1
  have ws := qw_st hW t0 t1
  have ss := qsB_s (χ := qNop N) (f := qWt nT) t0
  rw [el.2.2.2.1, qt10_x (by omega) (by omega)]
  have e1 : qNop N t = !decide (N (6 * t + 2) = 0) := rfl
  refine ⟨by omega, fun e => ⟨by omega, ?_⟩, fun e => ?_⟩
  · have := ih t1 (by omega)
    rw [ss, if_pos (by rw [e1, decide_eq_false e]; rfl), Int.mul_add] at this
    rw [Int.add_assoc]
    exact this
  · have := ih t1 (by omega)
    rw [ss, if_neg (by rw [e1, decide_eq_true e]; simp)] at this
    exact this
theorem c_deal (hW : qWF nT nH T P E U N) (hE : qER m (bW b0) nT nH T P E U N) {w : Int} (xw : inR w) (hQ : ∀ m', qFr qFd m m' → Q (qPdl T P N nT nH w) ((b0, b1, b2), m')) : bC xs 8 150 [vr 0, vi w] ((b0, b1, b2), m) Q := by
  have wn := qw_n hW
  have en := qe_n hE
  refine qC rfl fun d hd => r_X11_deal_0 hd ?_
  rw [en.1]
  unfold qPdl at hQ
  have hno : ¬ (0 < nT ∧ 0 ≤ w ∧ w ≤ 1) → Q (-1) ((b0, b1, b2), m) := fun hn => by
    have := hQ m qFr.refl
    rw [if_neg hn] at this
    exact this
  refine ⟨by omega, fun h => hno (by omega), fun h => ⟨xw, fun h2 => hno (by omega), fun w0 => ⟨xw, fun w1 => ?_, fun h2 => hno (by omega)⟩⟩⟩
  rw [if_pos ⟨h, w0, w1⟩] at hQ
  refine c_lineUp hW hE ?_
  intro m1 pl n f1 hL
  have hn := qLs_n hW hL
  have pb := qpw (n := n) hn.1 hn.2
  have hE1 := hE.fl (f1.mono (fun a k h => by unfold qFl at h; omega))
  refine ⟨rfl, c_dealToAllBut hW hE1 hL (by omega) ?_⟩
  intro m2 f2 hD
  have hE2 := hE1.fl (f2.mono (fun a k h => by omega))
  have f12 : qFr qFd m m2 := (f1.mono (fun a k h => Or.inl h)).trans (f2.mono (fun a k h => Or.inr h))
  have hz := hD (bShl 1 n - 1) (by omega) (by omega)
  have hz1 := qBt_hs (hs' := fun x => 0 ≤ x ∧ x < nH) (fun x => ⟨fun h => h.1, fun h => ⟨h, by omega⟩⟩) (qBt_cg wn.1.1 (fun u u0 u1 => qX_full hL hn u0 u1) hz)
  have ez : qDz T P N nT nH = m2 84 (bShl 1 n - 1) := qBz_e hz1
  have bd := qBt_bd hW (fun x hx => by omega) hz1
  have e5 : m2 79 5 = n := (f2 79 5 (by omega)).trans hL.1.1.1
  dsimp only
  rw [e5]
  rw [ez] at hQ
  refine ⟨rfl, by omega, xw, fun e => ⟨by omega, ?_⟩, fun e => c_digitsOf hW hE2 bd ⟨rfl, ?_⟩⟩
  · rw [if_neg e] at hQ
    exact hQ m2 f12
  · rw [if_pos e] at hQ
    exact hQ m2 f12
end DLC2
