/-! B: games: what is to be chosen, ranks, leads, gains -/
def qno (N : Int → Int) (t : Int) : Int := qfold (fun u a => if N (6 * u + 2) = 0 then a + 1 else a) t 0 0
def qch (N : Int → Int) (nT c : Int) : Int := if c = qno N nT then 9 else qfst (fun t => decide (N (6 * t + 2) = 0 ∧ qno N t = c)) nT 0
theorem qno_0 {N : Int → Int} : qno N 0 = 0 := by unfold qno; rw [qfold_ge (by omega)]
theorem qno_s {N : Int → Int} {t : Int} (h : 0 ≤ t) : qno N (t + 1) = if N (6 * t + 2) = 0 then qno N t + 1 else qno N t := by
  unfold qno
  rw [qfold_end h]
theorem qno_m {N : Int → Int} {s : Int} (s0 : 0 ≤ s) : ∀ t, s ≤ t → qno N s ≤ qno N t ∧ qno N t ≤ qno N s + (t - s) := by
  refine qDown ?_
  intro t ht ih
  by_cases e : s < t
  · have h1 := ih e
    have h2 := qno_s (N := N) (t := t + -1) (by omega)
    rw [show t + -1 + 1 = t by omega] at h2
    rw [h2]
    split <;> omega
  · rw [show t = s by omega]
    omega
theorem qno_bd {N : Int → Int} {t : Int} (h : 0 ≤ t) : 0 ≤ qno N t ∧ qno N t ≤ t := by
  have := qno_m (N := N) (s := 0) (by omega) t h
  rw [qno_0] at this
  omega
theorem qno_lt {N : Int → Int} {s t : Int} (s0 : 0 ≤ s) (h : s < t) (ho : N (6 * s + 2) = 0) : qno N s < qno N t := by
  have h1 := qno_s (N := N) s0
  rw [if_pos ho] at h1
  have h2 := qno_m (N := N) (s := s + 1) (by omega) t (by omega)
  omega
theorem qfst_is {p : Int → Bool} {S t : Int} (ht : t < S) (hp : p t = true) : ∀ s, s ≤ t → (∀ u, s ≤ u → u < t → p u = false) → qfst p S s = t := by
  refine qUpto ?_
  intro s hs ih hu
  rw [qfst_lt (by omega)]
  by_cases e : s < t
  · rw [hu s (by omega) e]
    rw [if_neg (by simp)]
    exact ih e (fun u a b => hu u (by omega) b)
  · rw [show s = t by omega, hp]
    rfl
theorem qch_o {N : Int → Int} {nT t : Int} (t0 : 0 ≤ t) (t1 : t < nT) (ho : N (6 * t + 2) = 0) : qch N nT (qno N t) = t := by
  have h1 := qno_lt t0 t1 ho
  unfold qch
  rw [if_neg (by omega)]
  refine qfst_is t1 (by rw [decide_eq_true_eq]; exact ⟨ho, rfl⟩) 0 t0 ?_
  intro u u0 u1
  rw [decide_eq_false_iff_not]
  intro h
  have := qno_lt u0 u1 h.1
  omega
theorem qno_ex {N : Int → Int} {c : Int} (c0 : 0 ≤ c) : ∀ nT, 0 ≤ nT → c < qno N nT → ∃ t, 0 ≤ t ∧ t < nT ∧ N (6 * t + 2) = 0 ∧ qno N t = c := by
  refine qDown ?_
  intro nT hn ih hc
  by_cases e : 0 < nT
  · have h2 := qno_s (N := N) (t := nT + -1) (by omega)
    rw [show nT + -1 + 1 = nT by omega] at h2
    by_cases ho : N (6 * (nT + -1) + 2) = 0
    · rw [if_pos ho] at h2
      by_cases e2 : c = qno N (nT + -1)
      · exact ⟨nT + -1, by omega, by omega, ho, e2.symm⟩
      · obtain ⟨t, a, b, d⟩ := ih e (by omega)
        exact ⟨t, a, by omega, d⟩
    · rw [if_neg ho] at h2
      obtain ⟨t, a, b, d⟩ := ih e (by omega)
      exact ⟨t, a, by omega, d⟩
  · rw [show nT = 0 by omega, qno_0] at hc
    omega
theorem qch_i {N : Int → Int} {nT c : Int} (h : 0 ≤ nT) (c0 : 0 ≤ c) (c1 : c < qno N nT) : 0 ≤ qch N nT c ∧ qch N nT c < nT ∧ N (6 * qch N nT c + 2) = 0 ∧ qno N (qch N nT c) = c := by
  obtain ⟨t, a, b, e, f⟩ := qno_ex c0 nT h c1
  have := qch_o a b e
  rw [f] at this
  rw [this]
  exact ⟨a, b, e, f⟩
theorem qch_9 {N : Int → Int} {nT : Int} : qch N nT (qno N nT) = 9 := by unfold qch; rw [if_pos rfl]
/-- a rank -/
def qrnk (T P N : Int → Int) (h t : Int) : Int := if qit T N t (qal T P N h t (N (6 * t))) then qal T P N h t (N (6 * t)) * 4 + h else 1000000
def qRk (R : Int → Int → Int) (nT nH : Int) (N : Int → Int) : Prop := ∀ h t, 0 ≤ h → h < nH → 0 ≤ t → t < nT → N (6 * t + 2) = 0 → R h t = 1000000 ∨ (0 ≤ R h t ∧ R h t ≤ 1000 ∧ R h t % 4 = h)
def qPk (g : Int → Int) (nT nH : Int) (N : Int → Int) : Prop := ∀ k, 0 ≤ k → k < nH → g k = 9 ∨ (0 ≤ g k ∧ g k < nT ∧ N (6 * g k + 2) = 0)
def qld (R : Int → Int → Int) (g : Int → Int) (nH t : Int) : Int := qfold (fun k a => if g k = t then min a (R k t) else a) nH 0 1000000
def qga (R Ws : Int → Int → Int) (g : Int → Int) (nH h : Int) : Int := if g h = 9 then 0 else if ¬ R h (g h) = 1000000 ∧ R h (g h) = qld R g nH (g h) then Ws h (g h) else 0
def qRst (R Ws : Int → Int → Int) (g : Int → Int) (nT nH : Int) (N : Int → Int) : Prop := ∀ h, 0 ≤ h → h < nH → 0 ≤ qga R Ws g nH h ∧ ∀ t, 0 ≤ t → t < nT → N (6 * t + 2) = 0 → ¬ t = g h → ¬ (R h t < qld R g nH t ∧ qga R Ws g nH h < Ws h t)
noncomputable def qrz (R Ws : Int → Int → Int) (g : Int → Int) (nT nH : Int) (N : Int → Int) : Int := @ite Int (qRst R Ws g nT nH N) (Classical.propDecidable _) 1 0
theorem qrz_y {R Ws : Int → Int → Int} {g : Int → Int} {nT nH : Int} {N : Int → Int} (h : qRst R Ws g nT nH N) : qrz R Ws g nT nH N = 1 := by unfold qrz; rw [if_pos h]
theorem qrz_n {R Ws : Int → Int → Int} {g : Int → Int} {nT nH : Int} {N : Int → Int} (h : ¬ qRst R Ws g nT nH N) : qrz R Ws g nT nH N = 0 := by unfold qrz; rw [if_neg h]
theorem qrz_01 {R Ws : Int → Int → Int} {g : Int → Int} {nT nH : Int} {N : Int → Int} : qrz R Ws g nT nH N = 0 ∨ qrz R Ws g nT nH N = 1 := by
  by_cases h : qRst R Ws g nT nH N
  · exact Or.inr (qrz_y h)
  · exact Or.inl (qrz_n h)
section GSP
variable {R Ws : Int → Int → Int} {g g' : Int → Int} {nT nH h t : Int} {N : Int → Int}
theorem qld_cg (he : ∀ k, 0 ≤ k → k < nH → g' k = g k) : qld R g' nH t = qld R g nH t := by
  unfold qld
  exact qfold_congr (fun i a i0 i1 => by rw [he i i0 i1])
theorem qga_cg (he : ∀ k, 0 ≤ k → k < nH → g' k = g k) (h0 : 0 ≤ h) (h1 : h < nH) : qga R Ws g' nH h = qga R Ws g nH h := by
  unfold qga
  rw [he h h0 h1, qld_cg he]
theorem qRst_cg (he : ∀ k, 0 ≤ k → k < nH → g' k = g k) : qRst R Ws g' nT nH N ↔ qRst R Ws g nT nH N := by
  unfold qRst
  constructor
  · intro H h h0 h1
    have := H h h0 h1
    rw [qga_cg he h0 h1] at this
    refine ⟨this.1, fun t t0 t1 ho hn => ?_⟩
    have := this.2 t t0 t1 ho (by rw [he h h0 h1]; exact hn)
    rw [qld_cg he] at this
    exact this
  · intro H h h0 h1
    have := H h h0 h1
    rw [qga_cg he h0 h1]
    refine ⟨this.1, fun t t0 t1 ho hn => ?_⟩
    rw [he h h0 h1] at hn
    have := this.2 t t0 t1 ho hn
    rw [qld_cg he]
    exact this
theorem qrz_cg (he : ∀ k, 0 ≤ k → k < nH → g' k = g k) : qrz R Ws g' nT nH N = qrz R Ws g nT nH N := by
  by_cases h : qRst R Ws g nT nH N
  · rw [qrz_y h, qrz_y ((qRst_cg he).mpr h)]
  · rw [qrz_n h, qrz_n (fun h' => h ((qRst_cg he).mp h'))]
/-- the lead is nobody's, or the rank of one who goes for it -/
def qldI (R : Int → Int → Int) (g : Int → Int) (nH t k a : Int) : Prop := (a ≤ 1000000) ∧ (∀ j, 0 ≤ j → j < k → g j = t → a ≤ R j t) ∧ (a = 1000000 ∨ ∃ j, 0 ≤ j ∧ j < k ∧ j < nH ∧ g j = t ∧ R j t = a)
theorem qld_I (hn : 0 ≤ nH) : qldI R g nH t nH (qld R g nH t) := by
  unfold qld
  refine qfold_inv (I := fun k a => qldI R g nH t k a) ?_ hn ⟨by omega, fun j a b => by omega, Or.inl rfl⟩
  intro k a k0 k1 ha
  obtain ⟨a1, a2, a3⟩ := ha
  try dsimp only
  split
  · rename_i e
    refine ⟨by omega, fun j j0 j1 hj => ?_, ?_⟩
    · by_cases ej : j = k
      · rw [ej]; omega
      · have := a2 j j0 (by omega) hj
        omega
    · by_cases hm : a ≤ R k t
      · rw [show min a (R k t) = a by omega]
        rcases a3 with a3 | ⟨j, j0, j1, j2, j3⟩
        · exact Or.inl a3
        · exact Or.inr ⟨j, j0, by omega, j2, j3⟩
      · rw [show min a (R k t) = R k t by omega]
        exact Or.inr ⟨k, k0, by omega, k1, e, rfl⟩
  · rename_i e
    refine ⟨a1, fun j j0 j1 hj => ?_, ?_⟩
    · by_cases ej : j = k
      · rw [ej] at hj; exact absurd hj e
      · exact a2 j j0 (by omega) hj
    · rcases a3 with a3 | ⟨j, j0, j1, j2, j3⟩
      · exact Or.inl a3
      · exact Or.inr ⟨j, j0, by omega, j2, j3⟩
theorem qga_bn (hb : ∀ h t, 0 ≤ h → h < nH → 0 ≤ t → t < nT → qbn (Ws h t)) (hp : qPk g nT nH N) (h0 : 0 ≤ h) (h1 : h < nH) : qbn (qga R Ws g nH h) := by
  unfold qga
  have hz : qbn 0 := by unfold qbn; omega
  split
  · exact hz
  · split
    · have := hp h h0 h1
      exact hb h _ h0 h1 (by omega) (by omega)
    · exact hz
end GSP
/-! the class's game -/
def qGm (m : Nat → Int → Int) (R Ws : Int → Int → Int) (nT nH : Int) (N : Int → Int) : Prop := m 94 5 = nH ∧ m 94 6 = qno N nT ∧ (∀ c, 0 ≤ c → c ≤ qno N nT → m 95 c = qch N nT c) ∧ ∀ h t, 0 ≤ h → h < nH → 0 ≤ t → t < nT → N (6 * t + 2) = 0 → m 97 (h * 6 + t) = R h t ∧ m 98 (h * 6 + t) = Ws h t
/-- what of the world a game asks -/
def qGw (R Ws : Int → Int → Int) (nT nH : Int) (N : Int → Int) : Prop := (0 ≤ nT ∧ nT ≤ 6) ∧ (0 ≤ nH ∧ nH ≤ 4) ∧ qRk R nT nH N ∧ ∀ h t, 0 ≤ h → h < nH → 0 ≤ t → t < nT → qbn (Ws h t)
section GCL
variable {xs : List Int32} {d : Nat} {Q : bPo} {b b0 b1 b2 : Bool} {m : Nat → Int → Int} {nT nH : Int} {T P E U N : Int → Int} {t s h k : Int}
variable {R Ws : Int → Int → Int} {g : Int → Int} {m' : Nat → Int → Int}
theorem qGm.fr (hG : qGm m R Ws nT nH N) (h5 : m' 94 5 = m 94 5) (h6 : m' 94 6 = m 94 6) (h95 : m' 95 = m 95) (h97 : m' 97 = m 97) (h98 : m' 98 = m 98) : qGm m' R Ws nT nH N := by
  unfold qGm at *
  rw [h5, h6, h95, h97, h98]
  exact hG
theorem c_findLeads (hw : qGw R Ws nT nH N) (hG : qGm m R Ws nT nH N) (hg : ∀ k, 0 ≤ k → k < nH → m 96 k = g k) (hp : qPk g nT nH N) (hQ : ∀ m', qFr (fun a _ => a = 99) m m' → (∀ t, 0 ≤ t → t < 6 → m' 99 t = qld R g nH t) → Q 0 ((b0, b1, b2), m')) : bC xs 2 76 [vr 94] ((b0, b1, b2), m) Q := by
  obtain ⟨wT, wH, wR, wW⟩ := hw
  refine qC rfl fun d hd => r_X5_findLeads_0 hd (c_fillF fun m1 f1 e1 => ⟨rfl, ?_⟩)
  dsimp only
  suffices H : ∀ h, h ≤ nH → 0 ≤ h → ∀ m1, qFr (fun a _ => a = 99) m m1 → (∀ t, 0 ≤ t → t < 6 → (0 ≤ m1 99 t ∧ m1 99 t ≤ 1000000) ∧ qld R g nH t = qfold (fun k a => if g k = t then min a (R k t) else a) nH h (m1 99 t)) → bGo xs d aM_X5_findLeads 11 [vr 94, vi h, vn] [] ((b0, b1, b2), m1) Q from H 0 (by omega) (by omega) m1 f1 (fun t t0 t1 => by rw [e1 t t0 t1]; exact ⟨by omega, rfl⟩)
  refine qUpto ?_
  intro h hh ih h0 m1 f1 he
  refine r_X5_findLeads_11 hd ?_
  rw [f1 94 5 (by omega), hG.1]
  refine ⟨by omega, by omega, fun h2 => ?_, fun h2 => ?_⟩
  · refine hQ m1 f1 (fun t t0 t1 => ?_)
    have := (he t t0 t1).2
    rw [qfold_ge (by omega)] at this
    exact this.symm
  · rw [f1 96 h (by omega), hg h h0 h2]
    have hpk := hp h h0 h2
    refine ⟨by omega, by omega, fun h9 => ?_, fun h9 => ?_⟩
    · refine ih h2 (by omega) m1 f1 (fun t t0 t1 => ⟨(he t t0 t1).1, ?_⟩)
      have := (he t t0 t1).2
      rw [qfold_lt h2, if_neg (by omega)] at this
      exact this
    · have hpk2 : 0 ≤ g h ∧ g h < nT ∧ N (6 * g h + 2) = 0 := by omega
      have e97 := (hG.2.2.2 h (g h) h0 h2 hpk2.1 hpk2.2.1 hpk2.2.2).1
      have hr := wR h (g h) h0 h2 hpk2.1 hpk2.2.1 hpk2.2.2
      have hl := he (g h) hpk2.1 (by omega)
      rw [f1 97 _ (by omega), e97]
      refine ⟨by omega, by omega, by omega, by omega, by omega, ?_⟩
      refine ih h2 (by omega) _ (qFr_up f1 rfl) (fun t t0 t1 => ?_)
      have := he t t0 t1
      have h3 := this.2
      rw [qfold_lt h2] at h3
      rw [qup_if]
      by_cases e : t = g h
      · rw [if_pos e]
        subst e
        rw [if_pos rfl] at h3
        exact ⟨by omega, h3⟩
      · rw [if_neg e]
        rw [if_neg (by omega)] at h3
        exact ⟨this.1, h3⟩
theorem c_gainOf (hw : qGw R Ws nT nH N) (hG : qGm m R Ws nT nH N) (hg : ∀ k, 0 ≤ k → k < nH → m 96 k = g k) (hp : qPk g nT nH N) (hl : ∀ t, 0 ≤ t → t < 6 → m 99 t = qld R g nH t) (h0 : 0 ≤ h) (h1 : h < nH) (hQ : Q (qga R Ws g nH h) ((b0, b1, b2), m)) : bC xs 1 77 [vr 94, vi h] ((b0, b1, b2), m) Q := by
  obtain ⟨wT, wH, wR, wW⟩ := hw
  refine qC rfl fun d hd => r_X5_gainOf_0 hd ?_
  rw [hg h h0 h1]
  have hpk := hp h h0 h1
  unfold qga at hQ
  refine ⟨by omega, by omega, fun h9 => ?_, fun h9 => ?_⟩
  · have hpk2 : 0 ≤ g h ∧ g h < nT ∧ N (6 * g h + 2) = 0 := by omega
    have e97 := hG.2.2.2 h (g h) h0 h1 hpk2.1 hpk2.2.1 hpk2.2.2
    have hr := wR h (g h) h0 h1 hpk2.1 hpk2.2.1 hpk2.2.2
    have hI := (qld_I (R := R) (g := g) (t := g h) wH.1).1
    have hI4 : 0 ≤ qld R g nH (g h) := by
      rcases (qld_I (R := R) (g := g) (t := g h) wH.1).2.2 with e | ⟨j, j0, j1, j2, j3, j4⟩
      · omega
      · have := wR j (g h) j0 j2 hpk2.1 hpk2.2.1 hpk2.2.2
        omega
    rw [e97.1, e97.2, hl (g h) hpk2.1 (by omega)]
    rw [if_neg h9] at hQ
    refine ⟨by omega, by omega, fun e => ?_, fun e => ⟨by omega, by omega, by omega, fun e2 => ?_, fun e2 => ⟨by omega, ?_⟩⟩⟩
    · rw [if_neg (fun h => h.1 e)] at hQ
      exact hQ
    · rw [if_neg (fun h => e2 h.2)] at hQ
      exact hQ
    · rw [if_pos ⟨e, e2⟩] at hQ
      exact hQ
  · rw [if_pos h9] at hQ
    exact hQ
theorem c_isContent (hw : qGw R Ws nT nH N) (hG : qGm m R Ws nT nH N) (hg : ∀ k, 0 ≤ k → k < nH → m 96 k = g k) (hp : qPk g nT nH N) (hl : ∀ t, 0 ≤ t → t < 6 → m 99 t = qld R g nH t) (h0 : 0 ≤ h) (h1 : h < nH) (hy : (0 ≤ qga R Ws g nH h ∧ ∀ t, 0 ≤ t → t < nT → N (6 * t + 2) = 0 → ¬ t = g h → ¬ (R h t < qld R g nH t ∧ qga R Ws g nH h < Ws h t)) → Q 1 ((b0, b1, b2), m)) (hn : ¬ (0 ≤ qga R Ws g nH h ∧ ∀ t, 0 ≤ t → t < nT → N (6 * t + 2) = 0 → ¬ t = g h → ¬ (R h t < qld R g nH t ∧ qga R Ws g nH h < Ws h t)) → Q 0 ((b0, b1, b2), m)) : bC xs 2 78 [vr 94, vi h] ((b0, b1, b2), m) Q := by
  have hw0 := hw
  obtain ⟨wT, wH, wR, wW⟩ := hw
  have hbn := qga_bn (R := R) wW hp h0 h1
  unfold qbn at hbn
  refine qC rfl fun d hd => r_X5_isContent_0 hd (c_gainOf hw0 hG hg hp hl h0 h1 ⟨rfl, by omega, fun hge => ?_, fun hlt => hn (fun hh => by omega)⟩)
  dsimp only
  have nb := qno_bd (N := N) wT.1
  suffices H : ∀ c, c ≤ qno N nT → 0 ≤ c → (∀ t, 0 ≤ t → t < nT → N (6 * t + 2) = 0 → qno N t < c → ¬ t = g h → ¬ (R h t < qld R g nH t ∧ qga R Ws g nH h < Ws h t)) → bGo xs d aM_X5_isContent 14 [vr 94, vi h, vi (qga R Ws g nH h), vi c, vn] [] ((b0, b1, b2), m) Q from H 0 (by omega) (by omega) (fun t t0 t1 ho hc => by have := qno_bd (N := N) t0; omega)
  refine qUpto ?_
  intro c hc ih c0 hcond
  refine r_X5_isContent_14 hd ?_
  rw [hG.2.1]
  refine ⟨by omega, by omega, fun h2 => hy ⟨hge, fun t t0 t1 ho hne => hcond t t0 t1 ho (by have := qno_lt t0 t1 ho; omega) hne⟩, fun h2 => ?_⟩
  rw [hG.2.2.1 c c0 (by omega), hg h h0 h1]
  obtain ⟨i0, i1, i2, i3⟩ := qch_i wT.1 c0 h2
  have hpk := hp h h0 h1
  have stp : (¬ qch N nT c = g h → ¬ (R h (qch N nT c) < qld R g nH (qch N nT c) ∧ qga R Ws g nH h < Ws h (qch N nT c))) → (∀ t, 0 ≤ t → t < nT → N (6 * t + 2) = 0 → qno N t < c + 1 → ¬ t = g h → ¬ (R h t < qld R g nH t ∧ qga R Ws g nH h < Ws h t)) := by
    intro hx t t0 t1 ho hlt hne
    by_cases e : qno N t = c
    · have := qch_o t0 t1 ho
      rw [e] at this
      rw [this] at hx
      exact hx hne
    · exact hcond t t0 t1 ho (by omega) hne
  have e97 := hG.2.2.2 h (qch N nT c) h0 h1 i0 i1 i2
  have hr := wR h (qch N nT c) h0 h1 i0 i1 i2
  have hwb := wW h (qch N nT c) h0 h1 i0 i1
  unfold qbn at hwb
  have hI := qld_I (R := R) (g := g) (t := qch N nT c) wH.1
  have hI1 := hI.1
  have hI4 : 0 ≤ qld R g nH (qch N nT c) := by
    rcases hI.2.2 with e | ⟨j, j0, j1, j2, j3, j4⟩
    · omega
    · have := wR j (qch N nT c) j0 j2 i0 i1 i2
      omega
  rw [e97.1, e97.2, hl _ i0 (by omega)]
  refine ⟨by omega, by omega, by omega, by omega, by omega, fun e => ih h2 (by omega) (stp (fun hne => absurd e hne)), fun e => ⟨by omega, by omega, by omega, by omega, by omega, fun e2 => ih h2 (by omega) (stp (fun _ hh => by omega)), fun e2 => ⟨by omega, by omega, by omega, fun e3 => ih h2 (by omega) (stp (fun _ hh => by omega)), fun e3 => hn (fun hh => hh.2 _ i0 i1 i2 e ⟨e2, e3⟩)⟩⟩⟩
theorem c_areContent (hw : qGw R Ws nT nH N) (hG : qGm m R Ws nT nH N) (hg : ∀ k, 0 ≤ k → k < nH → m 96 k = g k) (hp : qPk g nT nH N) (hl : ∀ t, 0 ≤ t → t < 6 → m 99 t = qld R g nH t) (hQ : Q (qrz R Ws g nT nH N) ((b0, b1, b2), m)) : bC xs 3 79 [vr 94] ((b0, b1, b2), m) Q := by
  have wH := hw.2.1
  refine qC rfl fun d hd => r_X5_areContent_0 hd ?_
  suffices H : ∀ h, h ≤ nH → 0 ≤ h → (∀ h', 0 ≤ h' → h' < h → 0 ≤ qga R Ws g nH h' ∧ ∀ t, 0 ≤ t → t < nT → N (6 * t + 2) = 0 → ¬ t = g h' → ¬ (R h' t < qld R g nH t ∧ qga R Ws g nH h' < Ws h' t)) → bGo xs d aM_X5_areContent 2 [vr 94, vi h] [] ((b0, b1, b2), m) Q from H 0 (by omega) (by omega) (fun h' a b => by omega)
  refine qUpto ?_
  intro h hh ih h0 hcond
  refine r_X5_areContent_2 hd ?_
  rw [hG.1]
  refine ⟨by omega, by omega, fun h2 => ?_, fun h2 => ?_⟩
  · rw [qrz_y (fun h' a b => hcond h' a (by omega))] at hQ
    exact hQ
  · refine c_isContent hw hG hg hp hl h0 h2 (fun hy => ⟨rfl, by omega, fun _ => ih h2 (by omega) (fun h' a b => ?_), fun h => by omega⟩) (fun hn => ⟨rfl, by omega, fun h => absurd rfl h, fun _ => ?_⟩)
    · by_cases e : h' = h
      · rw [e]; exact hy
      · exact hcond h' a (by omega)
    · rw [qrz_n (fun hr => hn (hr h h0 h2))] at hQ
      exact hQ
end GCL
