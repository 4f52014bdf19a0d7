/-! B: the class lines things up -/
def qRo (T : Int → Int) : Int → Int := fun t => T (4 * t + 1)
def qVa (T : Int → Int) : Int → Int := fun t => T (4 * t)
def qWt (nT : Int) : Int → Int := fun t => qt10 (nT - 1 - t)
/-- things below t stand in order -/
def qLi (m : Nat → Int → Int) (T N : Int → Int) (pl : Int → Int) (n t : Int) : Prop :=
  (m 79 5 = n ∧ n = qno N t) ∧
  (∀ u, 0 ≤ u → u < t → N (6 * u + 2) = 0 → 0 ≤ pl u ∧ pl u < n ∧ m 80 (pl u) = u) ∧
  (∀ p, 0 ≤ p → p < n → 0 ≤ m 80 p ∧ m 80 p < t ∧ N (6 * m 80 p + 2) = 0 ∧ pl (m 80 p) = p) ∧
  (∀ u v, 0 ≤ u → u < t → 0 ≤ v → v < t → N (6 * u + 2) = 0 → N (6 * v + 2) = 0 → (pl u ≤ pl v ↔ qbf (qRo T) u v = true))
/-- the set of a mask of places -/
def qX (N pl : Int → Int) (s : Int) : Int → Bool := fun t => decide (N (6 * t + 2) = 0) && qB s (pl t)
def qLs (m : Nat → Int → Int) (T N : Int → Int) (pl : Int → Int) (n nT : Int) : Prop := qLi m T N pl n nT ∧ ∀ s, 0 ≤ s → s < bShl 1 n → m 81 s = qsB (qX N pl s) (qVa T) nT ∧ m 82 s = qsB (qX N pl s) (qWt nT) nT
def qFl (a : Nat) (k : Int) : Prop := a = 80 ∨ a = 81 ∨ a = 82 ∨ (a = 79 ∧ k = 5)
section LUP
variable {xs : List Int32} {d : Nat} {Q : bPo} {b b0 b1 b2 : Bool} {m : Nat → Int → Int} {nT nH : Int} {T P E U N : Int → Int} {t s h k : Int}
variable {pl : Int → Int} {n p : Int} {m' : Nat → Int → Int}
theorem qLi.fr (h : qLi m T N pl n t) (h5 : m' 79 5 = m 79 5) (h80 : m' 80 = m 80) : qLi m' T N pl n t := by
  unfold qLi at *
  rw [h5, h80]
  exact h
theorem qLs.fr (h : qLs m T N pl n nT) (h5 : m' 79 5 = m 79 5) (h80 : m' 80 = m 80) (h81 : m' 81 = m 81) (h82 : m' 82 = m 82) : qLs m' T N pl n nT := by
  refine ⟨h.1.fr h5 h80, ?_⟩
  rw [h81, h82]
  exact h.2
theorem qER.fl (hE : qER m (bW b) nT nH T P E U N) (f : qFr (fun a _ => 79 ≤ a ∧ a ≤ 93) m m') : qER m' (bW b) nT nH T P E U N := by
  have hb := qW b
  exact hE.fr ⟨f _ _ (by omega), f _ _ (by omega)⟩ (qFr_at f _ (fun k => by omega)) (qFr_at f _ (fun k => by omega)) (qFr_at f _ (fun k => by omega)) (qFr_at f _ (fun k => by omega)) (qFr_at f _ (fun k => by omega)) (qFr_at f _ (fun k => by omega)) (qFr_at f _ (fun k => by omega)) (qFr_at f _ (fun k => by omega))
/-- where a thing is put -/
def qpi (pl : Int → Int) (t x : Int) : Int → Int := fun u => if u = t then x else if pl u < x then pl u else pl u + 1
theorem qLi_put (hL : qLi m T N pl n t) (t0 : 0 ≤ t) (ho : N (6 * t + 2) = 0) {x : Int} (x0 : 0 ≤ x) (x1 : x ≤ n) (hlo : ∀ q, 0 ≤ q → q < x → qRo T (m 80 q) ≤ qRo T t) (hhi : ∀ q, x ≤ q → q < n → qRo T t < qRo T (m 80 q)) (h5 : m' 79 5 = n + 1) (ha : ∀ q, 0 ≤ q → q < x → m' 80 q = m 80 q) (hx : m' 80 x = t) (hb : ∀ q, x ≤ q → q < n → m' 80 (q + 1) = m 80 q) : qLi m' T N (qpi pl t x) (n + 1) (t + 1) := by
  obtain ⟨⟨l5, ln⟩, l1, l2, l3⟩ := hL
  have ns := qno_s (N := N) t0
  rw [if_pos ho] at ns
  have pt : qpi pl t x t = x := by unfold qpi; rw [if_pos rfl]
  have po : ∀ u, ¬ u = t → qpi pl t x u = if pl u < x then pl u else pl u + 1 := fun u hu => by unfold qpi; rw [if_neg hu]
  have lo : ∀ u, 0 ≤ u → u < t → N (6 * u + 2) = 0 → pl u < x → qRo T u ≤ qRo T t := fun u a b c d => by
    have h1 := l1 u a b c
    have := hlo (pl u) h1.1 d
    rw [h1.2.2] at this
    exact this
  have hi : ∀ u, 0 ≤ u → u < t → N (6 * u + 2) = 0 → ¬ pl u < x → qRo T t < qRo T u := fun u a b c d => by
    have h1 := l1 u a b c
    have := hhi (pl u) (by omega) h1.2.1
    rw [h1.2.2] at this
    exact this
  refine ⟨⟨h5, by omega⟩, fun u u0 u1 uo => ?_, fun q q0 q1 => ?_, fun u v u0 u1 v0 v1 uo vo => ?_⟩
  · by_cases e : u = t
    · rw [e, pt]
      exact ⟨x0, by omega, hx⟩
    · have h1 := l1 u u0 (by omega) uo
      rw [po u e]
      by_cases e2 : pl u < x
      · rw [if_pos e2, ha _ h1.1 e2]
        exact ⟨h1.1, by omega, h1.2.2⟩
      · rw [if_neg e2, hb _ (by omega) h1.2.1]
        exact ⟨by omega, by omega, h1.2.2⟩
  · by_cases e : q < x
    · have h2 := l2 q q0 (by omega)
      rw [ha q q0 e, po _ (by omega), h2.2.2.2, if_pos e]
      exact ⟨h2.1, by omega, h2.2.2.1, rfl⟩
    · by_cases e2 : q = x
      · rw [e2, hx, pt]
        exact ⟨t0, by omega, ho, rfl⟩
      · have h2 := l2 (q - 1) (by omega) (by omega)
        have hb2 := hb (q - 1) (by omega) (by omega)
        rw [show q - 1 + 1 = q by omega] at hb2
        rw [hb2, po _ (by omega), h2.2.2.2, if_neg (by omega)]
        exact ⟨h2.1, by omega, h2.2.2.1, by omega⟩
  · by_cases eu : u = t
    · by_cases ev : v = t
      · rw [eu, ev, qbf_d]
        omega
      · rw [eu, pt, po v ev, qbf_d]
        by_cases e2 : pl v < x
        · have := lo v v0 (by omega) vo e2
          rw [if_pos e2]
          omega
        · have := hi v v0 (by omega) vo e2
          rw [if_neg e2]
          omega
    · by_cases ev : v = t
      · rw [ev, pt, po u eu, qbf_d]
        by_cases e2 : pl u < x
        · have := lo u u0 (by omega) uo e2
          rw [if_pos e2]
          omega
        · have := hi u u0 (by omega) uo e2
          rw [if_neg e2]
          omega
      · have h3 := l3 u v u0 (by omega) v0 (by omega) uo vo
        rw [← h3, po u eu, po v ev]
        split <;> split <;> omega
theorem c_putInOrder (hW : qWF nT nH T P E U N) (hE : qER m (bW b) nT nH T P E U N) (hL : qLi m T N pl n t) (t0 : 0 ≤ t) (t1 : t < nT) (ho : N (6 * t + 2) = 0) (hQ : ∀ m' pl', qFr qFl m m' → qLi m' T N pl' (n + 1) (t + 1) → Q 0 ((b0, b1, b2), m')) : bC xs 1 5 [vr 79, vr (bW b), vi t] ((b0, b1, b2), m) Q := by
  have hL0 := hL
  obtain ⟨⟨l5, ln⟩, l1, l2, l3⟩ := hL
  have wn := qw_n hW
  have nb := qno_bd (N := N) t0
  have wt := qw_t hW t0 t1
  have hw := qW b
  refine qC rfl fun d hd => r_X1_putInOrder_0 hd ?_
  rw [l5]
  suffices H : ∀ x, 0 ≤ x → x ≤ n → ∀ m1, qFr (fun a _ => a = 80) m m1 → (∀ q, 0 ≤ q → q < x → m1 80 q = m 80 q) → (∀ q, x ≤ q → q < n → m1 80 (q + 1) = m 80 q) → (∀ q, x ≤ q → q < n → qRo T t < qRo T (m 80 q)) → bGo xs d aM_X1_putInOrder 5 [vr 79, vr (bW b), vi t, vi x] [] ((b0, b1, b2), m1) Q from H n (by omega) (by omega) m qFr.refl (fun _ _ _ => rfl) (fun q a c => by omega) (fun q a c => by omega)
  refine qDown ?_
  intro x x0 ih x1 m1 f1 ha hb hhi
  have fin : (∀ q, 0 ≤ q → q < x → qRo T (m 80 q) ≤ qRo T t) → Q 0 ((b0, b1, b2), up (up m1 80 x t) 79 5 (n + 1)) := by
    intro hlo
    refine hQ _ (qpi pl t x) (qFr_up (qFr_up (f1.mono (fun a k h => Or.inl h)) (Or.inl rfl)) (by unfold qFl; omega)) (qLi_put hL0 t0 ho x0 x1 hlo hhi qup_s ?_ ?_ ?_)
    · intro q q0 q1
      rw [qup_n (by omega), qup_o (by omega)]
      exact ha q q0 q1
    · rw [qup_n (by omega), qup_s]
    · intro q q0 q1
      rw [qup_n (by omega), qup_o (by omega)]
      exact hb q q0 q1
  refine r_X1_putInOrder_5 hd ?_
  rw [f1 79 5 (by omega), l5]
  refine ⟨by omega, fun h => ⟨by omega, fin (fun q a c => by omega)⟩, fun h => ⟨by omega, ?_⟩⟩
  rw [ha (x - 1) (by omega) (by omega)]
  have h2 := l2 (x - 1) (by omega) (by omega)
  have et := qe_t hE t0 t1
  have eo := qe_t hE h2.1 (show m 80 (x - 1) < nT by omega)
  have wo := qw_t hW h2.1 (show m 80 (x - 1) < nT by omega)
  rw [qFr_at f1 (bW b + 2) (fun k => by omega), et.2.1, eo.2.1]
  refine ⟨by omega, by omega, by omega, by omega, fun h3 => ⟨by omega, fin (fun q a c => ?_)⟩, fun h3 => ⟨by omega, by omega, ?_⟩⟩
  · have h4 := l2 q a (by omega)
    have h5 := (l3 (m 80 q) (m 80 (x - 1)) h4.1 h4.2.1 h2.1 h2.2.1 h4.2.2.1 h2.2.2.1).mp (by rw [h4.2.2.2, h2.2.2.2]; omega)
    rw [qbf_d] at h5
    unfold qRo at h5 ⊢
    omega
  · refine ih (by omega) (by omega) _ (qFr_up f1 rfl) (fun q a c => ?_) (fun q a c => ?_) (fun q a c => ?_)
    · rw [qup_o (by omega)]
      exact ha q a (by omega)
    · by_cases e : q + 1 = x
      · rw [e, qup_s, show x - 1 = q by omega]
      · rw [qup_o e]
        exact hb q (by omega) c
    · by_cases e : q = x - 1
      · rw [e]; unfold qRo; exact h3
      · exact hhi q (by omega) c
/-! sets of masks -/
theorem qX_0 : qX N pl 0 t = false := by unfold qX; rw [qB_0, Bool.and_false]
theorem qX_add (hL : qLi m T N pl n nT) (hn : n ≤ 6) (p0 : 0 ≤ p) (p1 : p < n) {s : Int} (s0 : 0 ≤ s) (s1 : s < bShl 1 p) : qX N pl s (m 80 p) = false ∧ qX N pl (bShl 1 p + s) (m 80 p) = true ∧ ∀ u, 0 ≤ u → u < nT → ¬ u = m 80 p → qX N pl (bShl 1 p + s) u = qX N pl s u := by
  obtain ⟨⟨l5, ln⟩, l1, l2, l3⟩ := hL
  have h2 := l2 p p0 p1
  unfold qX
  refine ⟨?_, ?_, fun u u0 u1 hu => ?_⟩
  · rw [h2.2.2.2, qB_lt s0 p0 (by omega) s1 p (by omega), Bool.and_false]
  · rw [h2.2.2.2, qB_add s0 p0 (by omega) s1 p0 (by omega), decide_eq_true h2.2.2.1, decide_eq_true rfl, Bool.or_true]; rfl
  · by_cases e : N (6 * u + 2) = 0
    · have h1 := l1 u u0 u1 e
      rw [qB_add s0 p0 (by omega) s1 h1.1 (by omega), decide_eq_false (fun e2 : pl u = p => hu (by rw [← h1.2.2, e2])), Bool.or_false]
    · rw [decide_eq_false e, Bool.false_and, Bool.false_and]
theorem c_lineUp (hW : qWF nT nH T P E U N) (hE : qER m (bW b) nT nH T P E U N) (hQ : ∀ m' pl n, qFr qFl m m' → qLs m' T N pl n nT → Q 0 ((b0, b1, b2), m')) : bC xs 3 4 [vr 79, vr (bW b)] ((b0, b1, b2), m) Q := by
  have wn := qw_n hW
  have en := qe_n hE
  have hw := qW b
  refine qC rfl fun d hd => r_X1_lineUp_0 hd ?_
  have fl : ∀ m', qFr qFl m m' → qFr (fun a _ => 79 ≤ a ∧ a ≤ 93) m m' := fun m' f => f.mono (fun a k h => by unfold qFl at h; omega)
  -- sums of sets
  have L2 : ∀ (pl : Int → Int) (n : Int), n ≤ 6 → ∀ p, p ≤ n → 0 ≤ p → ∀ m1, qFr qFl m m1 → qLi m1 T N pl n nT → (∀ s, 0 ≤ s → s < bShl 1 p → m1 81 s = qsB (qX N pl s) (qVa T) nT ∧ m1 82 s = qsB (qX N pl s) (qWt nT) nT) → bGo xs d aM_X1_lineUp 51 [vr 79, vr (bW b), vi p, vn, vn, vn] [] ((b0, b1, b2), m1) Q := by
    intro pl n n6
    refine qUpto ?_
    intro p hp ih p0 m1 f1 hL hs
    have hE1 := hE.fl (fl m1 f1)
    have en1 := qe_n hE1
    refine r_X1_lineUp_51 hd ?_
    rw [hL.1.1, en1.1]
    refine ⟨by omega, by omega, fun h => hQ m1 pl n f1 ⟨hL, by rw [show n = p by omega]; exact hs⟩, fun h => ?_⟩
    have h2 := hL.2.2.1 p p0 h
    have pb := qpw (n := p) p0 (by omega)
    have pb2 := qpw_m p0 (show p ≤ 5 by omega) (by omega)
    have e5 : bShl 1 5 = 32 := by decide +kernel
    refine ⟨by omega, by omega, ?_⟩
    rw [qt10_x (by omega) (by omega)]
    suffices H : ∀ j, j ≤ bShl 1 p → 0 ≤ j → ∀ m1, qFr qFl m m1 → qLi m1 T N pl n nT → (∀ s, 0 ≤ s → s < bShl 1 p + j → m1 81 s = qsB (qX N pl s) (qVa T) nT ∧ m1 82 s = qsB (qX N pl s) (qWt nT) nT) → m1 80 p = m1 80 p → bGo xs d aM_X1_lineUp 85 [vr 79, vr (bW b), vi p, vi (bShl 1 p), vi (qt10 (nT - 1 - m1 80 p)), vi j] [] ((b0, b1, b2), m1) Q from H 0 (by omega) (by omega) m1 f1 hL (fun s a c => hs s a (by omega)) rfl
    refine qUpto ?_
    intro j hj ihj j0 m1 f1 hL hs _
    have hE1 := hE.fl (fl m1 f1)
    have h2 := hL.2.2.1 p p0 h
    have et := qe_t hE1 h2.1 h2.2.1
    have ps := qpw_s p0 (show p < 6 by omega)
    refine r_X1_lineUp_85 hd ⟨by omega, by omega, fun h3 => ih h (by omega) m1 f1 hL (fun s a c => hs s a (by omega)), fun h3 => ?_⟩
    have hj2 := hs j j0 (by omega)
    rw [et.1, hj2.1, hj2.2]
    refine ⟨by omega, by omega, by omega, by omega, by omega, by omega, ?_⟩
    obtain ⟨a1, a2, a3⟩ := qX_add hL n6 p0 h j0 h3
    have sv := qsB_one (f := qVa T) h2.1 a1 a2 nT wn.1.1 a3
    have sw := qsB_one (f := qWt nT) h2.1 a1 a2 nT wn.1.1 a3
    rw [if_pos h2.2.1] at sv sw
    have f2 : qFr qFl m (up (up m1 81 (bShl 1 p + j) (qsB (qX N pl j) (qVa T) nT + T (4 * m1 80 p))) 82 (bShl 1 p + j) (qsB (qX N pl j) (qWt nT) nT + qt10 (nT - 1 - m1 80 p))) := qFr_up (qFr_up f1 (by unfold qFl; omega)) (by unfold qFl; omega)
    have := ihj h3 (by omega) _ f2 (hL.fr (by rw [qup_n (by omega), qup_n (by omega)]) (by rw [qup_n (by omega), qup_n (by omega)])) (fun s a c => ?_) rfl
    · rw [show (up (up m1 81 (bShl 1 p + j) (qsB (qX N pl j) (qVa T) nT + T (4 * m1 80 p))) 82 (bShl 1 p + j) (qsB (qX N pl j) (qWt nT) nT + qt10 (nT - 1 - m1 80 p))) 80 p = m1 80 p by rw [qup_n (by omega), qup_n (by omega)]] at this
      exact this
    · rw [qup_n (a := 82) (b := 81) (by omega), qup_if, qup_if, qup_n (a := 81) (b := 82) (by omega)]
      by_cases e : s = bShl 1 p + j
      · rw [if_pos e, if_pos e, e, sv, sw]
        exact ⟨rfl, rfl⟩
      · rw [if_neg e, if_neg e]
        exact hs s a (by omega)
  suffices H : ∀ t, t ≤ nT → 0 ≤ t → ∀ m1 pl n, qFr qFl m m1 → qLi m1 T N pl n t → bGo xs d aM_X1_lineUp 7 [vr 79, vr (bW b), vi t, vn, vn, vn] [] ((b0, b1, b2), m1) Q by
    refine H 0 (by omega) (by omega) _ (fun _ => 0) 0 (qFr_up qFr.refl (by unfold qFl; omega)) ⟨⟨qup_s, qno_0.symm⟩, fun u a c => by omega, fun p a c => by omega, fun u v a c => by omega⟩
  refine qUpto ?_
  intro t ht ih t0 m1 pl n f1 hL
  have hE1 := hE.fl (fl m1 f1)
  have en1 := qe_n hE1
  have nb := qno_bd (N := N) t0
  have ln := hL.1.2
  refine r_X1_lineUp_7 hd ?_
  rw [en1.1]
  refine ⟨by omega, by omega, fun h => ?_, fun t1 => ⟨by omega, fun h => by omega, fun _ => ⟨by omega, by omega, fun h => by omega, fun _ => ⟨by omega, ?_⟩⟩⟩⟩
  · rw [show t = nT by omega] at hL
    refine L2 pl n (by omega) 0 (by omega) (by omega) _ (qFr_up (qFr_up f1 (by unfold qFl; omega)) (by unfold qFl; omega)) (hL.fr (by rw [qup_n (by omega), qup_n (by omega)]) (by rw [qup_n (by omega), qup_n (by omega)])) (fun s a c => ?_)
    have e0 : bShl 1 0 = 1 := by decide +kernel
    have es : s = 0 := by omega
    rw [es, qup_n (a := 82) (b := 81) (by omega), qup_s, qup_s, qsB_e nT wn.1.1 (fun u _ _ => qX_0), qsB_e nT wn.1.1 (fun u _ _ => qX_0)]
    exact ⟨rfl, rfl⟩
  · have el1 := qe_l hE1 t0 t1
    have ws := qw_st hW t0 t1
    rw [el1.2.2.2.1]
    refine ⟨by omega, fun hs => ih t1 (by omega) m1 pl n f1 ?_, fun hs => ?_⟩
    · have ns := qno_s (N := N) t0
      rw [if_neg hs] at ns
      obtain ⟨⟨l5, ln⟩, l1, l2, l3⟩ := hL
      have nt : ∀ u, N (6 * u + 2) = 0 → ¬ u = t := fun u e e2 => hs (by rw [← e2]; exact e)
      refine ⟨⟨l5, by omega⟩, fun u a c e => l1 u a (by have := nt u e; omega) e, fun p a c => ?_, fun u v a c e f g h => l3 u v a (by have := nt u g; omega) e (by have := nt v h; omega) g h⟩
      have := l2 p a c
      exact ⟨this.1, by omega, this.2.2⟩
    · refine c_putInOrder hW hE1 hL t0 t1 hs ?_
      intro m2 pl2 f2 hL2
      exact ⟨rfl, ih t1 (by omega) m2 pl2 (n + 1) (f1.trans f2) hL2⟩
theorem c_plOf (hL : qLs m T N pl n nT) (hT : nT ≤ 6) (t0 : 0 ≤ t) (t1 : t < nT) (ho : N (6 * t + 2) = 0) (hQ : Q (pl t) ((b0, b1, b2), m)) : bC xs 1 6 [vr 79, vi t] ((b0, b1, b2), m) Q := by
  obtain ⟨⟨⟨l5, ln⟩, l1, l2, l3⟩, _⟩ := hL
  have nb := qno_bd (N := N) (show 0 ≤ nT by omega)
  have h1 := l1 t t0 t1 ho
  refine qC rfl fun d hd => r_X1_placeOf_0 hd ?_
  suffices H : ∀ p, p ≤ pl t → 0 ≤ p → bGo xs d aM_X1_placeOf 2 [vr 79, vi t, vi p] [] ((b0, b1, b2), m) Q from H 0 h1.1 (by omega)
  refine qUpto ?_
  intro p hp ih p0
  have h2 := l2 p p0 (by omega)
  refine r_X1_placeOf_2 hd ?_
  rw [l5]
  refine ⟨by omega, by omega, fun h => by omega, fun _ => ⟨by omega, by omega, by omega, fun e => ih ?_ (by omega), fun e => ?_⟩⟩
  · by_cases e2 : p = pl t
    · rw [e2, h1.2.2] at e; exact absurd rfl e
    · omega
  · rw [show p = pl t by rw [← e]; exact h2.2.2.2.symm]
    exact hQ
end LUP
