/-! B: the class's ranges, days, the quickest -/
def qRm (m : Nat → Int → Int) (T P N lo hi : Int → Int) (n : Int) : Prop := ∀ p, 0 ≤ p → p < n → m 86 p = lo (m 80 p) ∧ m 87 p = hi (m 80 p) ∧ m 88 p = qlf T N (m 80 p) ∧ ∀ k, 0 ≤ k → k ≤ qlf T N (m 80 p) → m 89 (p * 9 + k) = qcs P N (m 80 p) k
/-- as far as the days go -/
def qhg (T P N hi : Int → Int) (nT n : Int) : Prop := ∀ t, 0 ≤ t → t < nT → N (6 * t + 2) = 0 → 0 ≤ hi t ∧ hi t ≤ qlf T N t ∧ qcs P N t (hi t) ≤ n ∧ (hi t = qlf T N t ∨ n < qcs P N t (hi t + 1))
section RNG
variable {xs : List Int32} {d : Nat} {Q : bPo} {b b0 b1 b2 : Bool} {m : Nat → Int → Int} {nT nH : Int} {T P E U N : Int → Int} {t s h k : Int}
variable {pl lo hi : Int → Int} {n x y c w : Int} {m' : Nat → Int → Int}
theorem qlf_bd (hW : qWF nT nH T P E U N) (t0 : 0 ≤ t) (t1 : t < nT) : 0 ≤ qlf T N t ∧ qlf T N t ≤ 8 := by
  have := qw_dn hW t0 t1
  have := qw_t hW t0 t1
  unfold qlf
  omega
theorem qRm.fr (h : qRm m T P N lo hi n) (h80 : m' 80 = m 80) (h86 : m' 86 = m 86) (h87 : m' 87 = m 87) (h88 : m' 88 = m 88) (h89 : m' 89 = m 89) : qRm m' T P N lo hi n := by
  unfold qRm at *
  rw [h80, h86, h87, h88, h89]
  exact h
theorem c_openRanges (hW : qWF nT nH T P E U N) (hE : qER m (bW b) nT nH T P E U N) (hL : qLs m T N pl n nT) (y0 : 0 ≤ y) (y1 : y ≤ 12) (hQ : ∀ m' hi, qFr (fun a _ => 86 ≤ a ∧ a ≤ 89) m m' → qRm m' T P N (fun _ => 0) hi n → qhg T P N hi nT y → Q 0 ((b0, b1, b2), m')) : bC xs 1 22 [vr 85, vr (bW b), vi y] ((b0, b1, b2), m) Q := by
  have wn := qw_n hW
  have hn := qLs_n hW hL
  have hw := qW b
  refine qC rfl fun d hd => r_X2_openRanges_0 hd ?_
  have l2 := hL.1.2.2.1
  suffices H : ∀ p, p ≤ n → 0 ≤ p → ∀ m1, qFr (fun a _ => 86 ≤ a ∧ a ≤ 89) m m1 → (∀ q, 0 ≤ q → q < p → m1 86 q = 0 ∧ (0 ≤ m1 87 q ∧ m1 87 q ≤ qlf T N (m 80 q) ∧ qcs P N (m 80 q) (m1 87 q) ≤ y ∧ (m1 87 q = qlf T N (m 80 q) ∨ y < qcs P N (m 80 q) (m1 87 q + 1))) ∧ m1 88 q = qlf T N (m 80 q) ∧ ∀ k, 0 ≤ k → k ≤ qlf T N (m 80 q) → m1 89 (q * 9 + k) = qcs P N (m 80 q) k) → bGo xs d aM_X2_openRanges 2 [vr 85, vr (bW b), vi y, vi p, vn, vn, vn, vn] [] ((b0, b1, b2), m1) Q from H 0 hn.1 (by omega) m qFr.refl (fun q a c => by omega)
  refine qUpto ?_
  intro p hp ih p0 m1 f1 he
  have hE1 := hE.fl (f1.mono (fun a k h => by omega))
  refine r_X2_openRanges_2 hd ?_
  rw [f1 79 5 (by omega), hL.1.1.1, f1 80 p (by omega)]
  refine ⟨by omega, by omega, fun h2 => ?_, fun h2 => ?_⟩
  · refine hQ m1 (fun t => m1 87 (pl t)) f1 (fun q q0 q1 => ?_) (fun t t0 t1 ho => ?_)
    · have e := he q q0 (by omega)
      have l := l2 q q0 q1
      rw [f1 80 q (by omega)]
      exact ⟨e.1, by show m1 87 q = m1 87 (pl (m 80 q)); rw [l.2.2.2], e.2.2⟩
    · have l := hL.1.2.1 t t0 t1 ho
      have e := (he (pl t) l.1 (by omega)).2.1
      rw [l.2.2] at e
      exact e
  · have l := l2 p p0 h2
    generalize hx : m 80 p = x at *
    obtain ⟨x0, x1, xo, xp⟩ := l
    have el := qe_l hE1 x0 x1
    have et := qe_t hE1 x0 x1
    have wd := qw_dn hW x0 x1
    have wt := qw_t hW x0 x1
    have lb := qlf_bd hW x0 x1
    rw [el.1, et.2.2]
    have elf : T (4 * x + 3) - N (6 * x) = qlf T N x := rfl
    rw [elf]
    refine ⟨by omega, by omega, by omega, by omega, by omega, by omega, by omega, ?_⟩
    suffices H : ∀ k, k ≤ qlf T N x + 1 → 1 ≤ k → ∀ m2, qFr (fun a j => (a = 87 ∧ j = p) ∨ (a = 89 ∧ p * 9 + 1 ≤ j ∧ j ≤ p * 9 + 8)) (up (up (up (up m1 88 p (qlf T N x)) 86 p 0) 87 p 0) 89 (p * 9) 0) m2 → (0 ≤ m2 87 p ∧ m2 87 p < k ∧ qcs P N x (m2 87 p) ≤ y ∧ (m2 87 p = k - 1 ∨ y < qcs P N x (m2 87 p + 1))) → (∀ j, 0 ≤ j → j < k → m2 89 (p * 9 + j) = qcs P N x j) → bGo xs d aM_X2_openRanges 78 [vr 85, vr (bW b), vi y, vi p, vi x, vi (N (6 * x)), vi k, vn] [] ((b0, b1, b2), m2) Q by
      refine H 1 (by omega) (by omega) _ qFr.refl ?_ (fun j a c => ?_)
      · rw [qup_n (by omega), qup_s, qcs_0]; omega
      · rw [show j = 0 by omega, Int.add_zero, qup_s, qcs_0]
    refine qUpto ?_
    intro k hk ihk k0 m2 f2 hh hc
    have f3 : qFr (fun a _ => 86 ≤ a ∧ a ≤ 89) m m2 := (qFr_up (qFr_up (qFr_up (qFr_up f1 (by omega)) (by omega)) (by omega)) (by omega)).trans (f2.mono (fun a k h => by omega))
    have hE2 := hE.fl (f3.mono (fun a k h => by omega))
    have e88 : m2 88 p = qlf T N x := by rw [f2 88 p (by omega), qup_n (by omega), qup_n (by omega), qup_n (by omega), qup_s]
    have e86 : m2 86 p = 0 := by rw [f2 86 p (by omega), qup_n (by omega), qup_n (by omega), qup_s]
    refine r_X2_openRanges_78 hd ?_
    rw [e88]
    refine ⟨by omega, by omega, by omega, fun h3 => ?_, fun h3 => ?_⟩
    · refine ih h2 (by omega) m2 f3 (fun q q0 q1 => ?_)
      by_cases eq : q = p
      · rw [eq, hx, e86, e88]
        refine ⟨rfl, ⟨hh.1, by omega, hh.2.2.1, ?_⟩, rfl, fun j a c => hc j a (by omega)⟩
        rcases hh.2.2.2 with e | e
        · exact Or.inl (by omega)
        · exact Or.inr e
      · have eo : ∀ (a : Nat) (j : Int), ¬ j = p → (a = 86 ∨ a = 87 ∨ a = 88) → m2 a j = m1 a j := fun a j hj ha => by
          rw [f2 a j (by omega)]
          rcases ha with rfl | rfl | rfl
          · rw [qup_n (by omega), qup_n (by omega), qup_o hj, qup_n (by omega)]
          · rw [qup_n (by omega), qup_o hj, qup_n (by omega), qup_n (by omega)]
          · rw [qup_n (by omega), qup_n (by omega), qup_n (by omega), qup_o hj]
        have e := he q q0 (by omega)
        have lq := l2 q q0 (by omega)
        have lqb := qlf_bd hW lq.1 lq.2.1
        rw [eo 86 q eq (by omega), eo 87 q eq (by omega), eo 88 q eq (by omega)]
        refine ⟨e.1, e.2.1, e.2.2.1, fun j a c => ?_⟩
        rw [f2 89 _ (by omega), qup_o (by omega), qup_n (by omega), qup_n (by omega), qup_n (by omega)]
        exact e.2.2.2 j a c
    · have ep := qe_p hE2 x0 x1 (s := N (6 * x) + (k - 1)) (by omega) (by unfold qlf at h3; omega)
      have wp := qw_p hW x0 x1 (s := N (6 * x) + (k - 1)) (by omega) (by unfold qlf at h3; omega)
      have cs := qcs_s (P := P) (N := N) (t := x) (k := k - 1) (by omega)
      rw [show k - 1 + 1 = k by omega] at cs
      have ec : m2 89 (p * 9 + k - 1) + m2 (bW b + 5) (x * 8 + N (6 * x) + k - 1) = qcs P N x k := by
        rw [show p * 9 + k - 1 = p * 9 + (k - 1) by omega, hc (k - 1) (by omega) (by omega), show x * 8 + N (6 * x) + k - 1 = x * 8 + (N (6 * x) + (k - 1)) by omega, ep.2, cs]
      have cb := qcs_nn hW x0 x1 (k := k) (by omega) h3
      rw [ec, qup_s]
      refine ⟨by omega, by omega, by omega, by omega, by omega, by omega, fun h4 => ?_, fun h4 => ⟨by omega, ?_⟩⟩
      · refine ihk (by omega) (by omega) _ (qFr_up f2 (by omega)) ?_ (fun j a c => ?_)
        · rw [qup_n (by omega)]
          refine ⟨hh.1, by omega, hh.2.2.1, ?_⟩
          rcases hh.2.2.2 with e | e
          · right; rw [e, show k - 1 + 1 = k by omega]; exact h4
          · exact Or.inr e
        · rw [qup_if]
          by_cases ej : j = k
          · rw [if_pos (by omega), ej]
          · rw [if_neg (by omega)]
            exact hc j a (by omega)
      · refine ihk (by omega) (by omega) _ (qFr_up (qFr_up f2 (by omega)) (by omega)) ?_ (fun j a c => ?_)
        · rw [qup_s]
          exact ⟨by omega, by omega, h4, Or.inl (by omega)⟩
        · rw [qup_n (by omega), qup_if]
          by_cases ej : j = k
          · rw [if_pos (by omega), ej]
          · rw [if_neg (by omega)]
            exact hc j a (by omega)
theorem c_findDays (hW : qWF nT nH T P E U N) (hE : qER m (bW b) nT nH T P E U N) (hL : qLs m T N pl n nT) (hR : qRm m T P N lo hi n) (hr : qRg2 T N lo hi nT) (h0 : 0 ≤ h) (h1 : h < nH) (hQ : ∀ m', qFr (fun a _ => a = 90) m m' → (∀ p, 0 ≤ p → p < n → ∀ k, lo (m 80 p) ≤ k → k ≤ hi (m 80 p) → m' 90 (p * 9 + k) = qDd T P N h (m 80 p) k) → Q 0 ((b0, b1, b2), m')) : bC xs 3 27 [vr 85, vr (bW b), vi h] ((b0, b1, b2), m) Q := by
  have wn := qw_n hW
  have hn := qLs_n hW hL
  have hw := qW b
  refine qC rfl fun d hd => r_X2_findDays_0 hd ?_
  have l2 := hL.1.2.2.1
  suffices H : ∀ p, p ≤ n → 0 ≤ p → ∀ m1, qFr (fun a _ => a = 90) m m1 → (∀ q, 0 ≤ q → q < p → ∀ k, lo (m 80 q) ≤ k → k ≤ hi (m 80 q) → m1 90 (q * 9 + k) = qDd T P N h (m 80 q) k) → bGo xs d aM_X2_findDays 2 [vr 85, vr (bW b), vi h, vi p, vn, vn, vn, vn] [] ((b0, b1, b2), m1) Q from H 0 hn.1 (by omega) m qFr.refl (fun q a c => by omega)
  refine qUpto ?_
  intro p hp ih p0 m1 f1 he
  have hE1 := hE.fl (f1.mono (fun a k h => by omega))
  refine r_X2_findDays_2 hd ?_
  rw [f1 79 5 (by omega), hL.1.1.1, f1 80 p (by omega), f1 86 p (by omega)]
  refine ⟨by omega, by omega, fun h2 => hQ m1 f1 (fun q a c => he q a (by omega)), fun h2 => ?_⟩
  have l := l2 p p0 h2
  have R := hR p p0 h2
  generalize hx : m 80 p = x at *
  obtain ⟨x0, x1, xo, xp⟩ := l
  have el := qe_l hE1 x0 x1
  have rx := hr x x0 x1 xo
  have lb := qlf_bd hW x0 x1
  have wd := qw_dn hW x0 x1
  rw [R.1, el.1]
  refine ⟨by omega, by omega, by omega, ?_⟩
  suffices H : ∀ k, k ≤ hi x + 1 → lo x ≤ k → ∀ m2, qFr (fun a _ => a = 90) m m2 → (∀ q, 0 ≤ q → q < p → ∀ k, lo (m 80 q) ≤ k → k ≤ hi (m 80 q) → m2 90 (q * 9 + k) = qDd T P N h (m 80 q) k) → (∀ j, lo x ≤ j → j < k → m2 90 (p * 9 + j) = qDd T P N h x j) → bGo xs d aM_X2_findDays 43 [vr 85, vr (bW b), vi h, vi p, vi x, vi (N (6 * x)), vi k, vn] [] ((b0, b1, b2), m2) Q from H (lo x) (by omega) (by omega) m1 f1 he (fun j a c => by omega)
  refine qUpto ?_
  intro k hk ihk k0 m2 f2 he2 hj
  have hE2 := hE.fl (f2.mono (fun a k h => by omega))
  refine r_X2_findDays_43 hd ?_
  rw [f2 87 p (by omega), R.2.1, f2 88 p (by omega), R.2.2.1]
  refine ⟨by omega, by omega, by omega, fun h3 => ih h2 (by omega) m2 f2 (fun q q0 q1 j a c => ?_), fun h3 => ⟨by omega, by omega, by omega, ?_⟩⟩
  · by_cases eq : q = p
    · rw [eq, hx] at a c
      rw [eq, hx] at *
      exact hj j a (by omega)
    · exact he2 q q0 (by omega) j a c
  · have nx : ∀ z, z = qDd T P N h x k → bGo xs d aM_X2_findDays 43 [vr 85, vr (bW b), vi h, vi p, vi x, vi (N (6 * x)), vi (k + 1), vn] [] ((b0, b1, b2), up m2 90 (p * 9 + k) z) Q := fun z hz => by
      refine ihk (by omega) (by omega) _ (qFr_up f2 rfl) (fun q q0 q1 j a c => ?_) (fun j a c => ?_)
      · have lq := l2 q q0 (by omega)
        have rq := hr _ lq.1 lq.2.1 lq.2.2.1
        have lqb := qlf_bd hW lq.1 lq.2.1
        rw [qup_o (by omega)]
        exact he2 q q0 q1 j a c
      · rw [qup_if]
        by_cases ej : j = k
        · rw [if_pos (by omega), ej]; exact hz
        · rw [if_neg (by omega)]
          exact hj j a (by omega)
    refine ⟨fun e => c_daysFrom hW hE2 h0 h1 x0 x1 (by omega) (by unfold qlf at lb rx; omega) ⟨rfl, by omega, nx _ ?_⟩, fun e => ⟨by omega, nx _ ?_⟩⟩
    · unfold qDd
      rw [if_neg e]
    · unfold qDd
      rw [if_pos e]
theorem qDd_bd (hW : qWF nT nH T P E U N) (h0 : 0 ≤ h) (h1 : h < nH) (x0 : 0 ≤ x) (x1 : x < nT) (k0 : 0 ≤ k) (k1 : k ≤ qlf T N x) : -1 ≤ qDd T P N h x k ∧ qDd T P N h x k ≤ 216 := by
  have wd := qw_dn hW x0 x1
  unfold qDd
  split
  · omega
  · exact qal_bd hW h0 h1 x0 x1 (s := N (6 * x) + k) (by omega) (by unfold qlf at k1; omega)
theorem c_quickestBy {p : Int} (hW : qWF nT nH T P E U N) (hL : qLs m T N pl n nT) (hR : qRm m T P N lo hi n) (hr : qRg2 T N lo hi nT) (h0 : 0 ≤ h) (h1 : h < nH) (p0 : 0 ≤ p) (p1 : p < n) (hD : ∀ k, lo (m 80 p) ≤ k → k ≤ hi (m 80 p) → m 90 (p * 9 + k) = qDd T P N h (m 80 p) k) (s0 : 0 ≤ s) (s1 : s < 64) (c0 : 0 ≤ c) (c1 : c ≤ 12) (hz : ∀ c', 0 ≤ c' → c' ≤ c → -1 ≤ m 91 (s * 13 + c') ∧ m 91 (s * 13 + c') ≤ 1296) (hQ : ∀ w, qQw P N (fun c => m 91 (s * 13 + c)) (qDd T P N h (m 80 p)) (m 80 p) c (lo (m 80 p)) (hi (m 80 p) + 1) w → (-1 ≤ w ∧ w ≤ 1600) → Q w ((b0, b1, b2), m)) : bC xs 1 29 [vr 85, vi p, vi s, vi c] ((b0, b1, b2), m) Q := by
  have wn := qw_n hW
  have hn := qLs_n hW hL
  have l := hL.1.2.2.1 p p0 p1
  have R := hR p p0 p1
  generalize hx : m 80 p = x at *
  obtain ⟨x0, x1, xo, xp⟩ := l
  have rx := hr x x0 x1 xo
  have lb := qlf_bd hW x0 x1
  refine qC rfl fun d hd => r_X2_quickestBy_0 hd ?_
  rw [R.1]
  refine ⟨by omega, ?_⟩
  suffices H : ∀ k, k ≤ hi x + 1 → lo x ≤ k → ∀ w, (-1 ≤ w ∧ w ≤ 1600) → qQw P N (fun c => m 91 (s * 13 + c)) (qDd T P N h x) x c (lo x) k w → bGo xs d aM_X2_quickestBy 11 [vr 85, vi p, vi s, vi c, vi w, vi k, vn, vn, vn] [] ((b0, b1, b2), m) Q from H (lo x) (by omega) (by omega) (-1) (by omega) (Or.inl ⟨rfl, fun k a c => by omega⟩)
  refine qUpto ?_
  intro k hk ih k0 w wb hw
  refine r_X2_quickestBy_11 hd ?_
  rw [R.2.1]
  refine ⟨by omega, by omega, by omega, fun h3 => hQ w (by rw [show hi x + 1 = k by omega]; exact hw) wb, fun h3 => ?_⟩
  have e89 := R.2.2.2 k (by omega) (by omega)
  have cb := qcs_nn hW x0 x1 (k := k) (by omega) (by omega)
  have db := qDd_bd hW h0 h1 x0 x1 (k := k) (by omega) (by omega)
  rw [e89, hD k k0 h3]
  have skip : ¬ qQc P N (fun c => m 91 (s * 13 + c)) (qDd T P N h x) x c k → bGo xs d aM_X2_quickestBy 11 [vr 85, vi p, vi s, vi c, vi w, vi (k + 1), vn, vn, vn] [] ((b0, b1, b2), m) Q := by
    intro hno
    refine ih (by omega) (by omega) w wb ?_
    rcases hw with ⟨e, hx'⟩ | ⟨w0, ⟨j, j0, j1, j2, j3⟩, wl⟩
    · refine Or.inl ⟨e, fun j a c' => ?_⟩
      by_cases ej : j = k
      · rw [ej]; exact hno
      · exact hx' j a (by omega)
    · refine Or.inr ⟨w0, ⟨j, j0, by omega, j2, j3⟩, fun j' a c' hc' => ?_⟩
      by_cases ej : j' = k
      · rw [ej] at hc'; exact absurd hc' hno
      · exact wl j' a (by omega) hc'
  refine ⟨by omega, by omega, by omega, fun e => skip (fun hq => by have := hq.1; omega), fun e => ⟨by omega, fun e2 => skip (fun hq => hq.2.1 e2), fun e2 => ?_⟩⟩
  have zb := hz (c - qcs P N x k) (by omega) (by omega)
  refine ⟨by omega, by omega, fun e3 => skip (fun hq => hq.2.2 e3), fun e3 => ⟨by omega, by omega, fun e4 => ⟨by omega, by omega, ?_⟩, fun e4 => ?_⟩⟩
  · refine ih (by omega) (by omega) _ (by omega) ?_
    rcases hw with ⟨e5, _⟩ | ⟨w0, ⟨j, j0, j1, j2, j3⟩, wl⟩
    · exact absurd e5 e4
    · refine Or.inr ⟨by omega, ?_, fun j' a c' hc' => ?_⟩
      · by_cases e6 : w ≤ m 91 (s * 13 + (c - qcs P N x k)) + qDd T P N h x k
        · rw [Int.min_eq_left e6]
          exact ⟨j, j0, by omega, j2, j3⟩
        · rw [Int.min_eq_right (by omega)]
          exact ⟨k, k0, by omega, ⟨by omega, e2, e3⟩, rfl⟩
      · by_cases ej : j' = k
        · rw [ej]; exact Int.min_le_right _ _
        · exact Int.le_trans (Int.min_le_left _ _) (wl j' a (by omega) hc')
  · refine ih (by omega) (by omega) _ (by omega) ?_
    rcases hw with ⟨_, hx'⟩ | ⟨w0, _, _⟩
    · refine Or.inr ⟨by omega, ⟨k, k0, by omega, ⟨by omega, e2, e3⟩, rfl⟩, fun j' a c' hc' => ?_⟩
      by_cases ej : j' = k
      · rw [ej]; exact Int.le_refl _
      · exact absurd hc' (hx' j' a (by omega))
    · omega
end RNG
