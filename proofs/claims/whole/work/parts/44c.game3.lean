/-! B: rows of games; the class takes them, goes through them -/
def qK (N : Int → Int) (nT : Int) : Int := qno N nT + 1
/-- what the first heirs go for by the number of a row of theirs -/
def qgp (N : Int → Int) (nT h B k : Int) : Int := qch N nT (B / qK N nT ^ (h - 1 - k).toNat % qK N nT)
def qdp (N : Int → Int) (nT h B : Int) : Int := qfold (fun k a => 10 * a + qgp N nT h B k) h 0 0
noncomputable def qst1 (R Ws : Int → Int → Int) (nT nH : Int) (N : Int → Int) (i row : Int) (st : Int × Int) : Int × Int := if st.2 = -1 then (if qrz R Ws (qgp N nT nH row) nT nH N = 0 then st else (st.1 + 1, if st.1 = i then qdp N nT nH row else -1)) else st
noncomputable def qrst (R Ws : Int → Int → Int) (nT nH : Int) (N : Int → Int) (i : Int) : Int × Int := qfold (qst1 R Ws nT nH N i) (qK N nT ^ nH.toNat) 0 (0, -1)
noncomputable def qPres (R Ws : Int → Int → Int) (nT nH : Int) (N : Int → Int) (i : Int) : Int := if 4 < nH then -1000000 else if nT = 0 then -1 else if i = -1 then (qrst R Ws nT nH N i).1 else (qrst R Ws nT nH N i).2
def qcho (N : Int → Int) (nT t : Int) : Prop := t = 9 ∨ (0 ≤ t ∧ t < nT ∧ N (6 * t + 2) = 0)
def qTr (N : Int → Int) (nT nH row : Int) : Prop := 0 ≤ row ∧ row < qt10 nH ∧ ∀ h, 0 ≤ h → h < nH → qcho N nT (qsg nH row h)
noncomputable def qPgai (R Ws : Int → Int → Int) (nT nH : Int) (N : Int → Int) (row h : Int) : Int := @ite Int ((0 ≤ h ∧ h < nH) ∧ nH ≤ 4 ∧ qTr N nT nH row) (Classical.propDecidable _) (qga R Ws (qsg nH row) nH h) (-1000000)
section GROW
variable {N : Int → Int} {nT h B c k : Int}
theorem qK_bd (h0 : 0 ≤ nT) : 1 ≤ qK N nT ∧ qK N nT ≤ nT + 1 := by
  have := qno_bd (N := N) h0
  unfold qK
  omega
theorem qKp {n : Nat} (h0 : 0 ≤ nT) : 0 < qK N nT ^ n := Int.pow_pos (by have := qK_bd (N := N) h0; omega)
theorem qgp_c (h0 : 0 ≤ nT) : qcho N nT (qgp N nT h B k) := by
  have hK := qK_bd (N := N) h0
  unfold qgp
  have h1 := Int.emod_nonneg (B / qK N nT ^ (h - 1 - k).toNat) (show qK N nT ≠ 0 by omega)
  have h2 := Int.emod_lt_of_pos (B / qK N nT ^ (h - 1 - k).toNat) (show 0 < qK N nT by omega)
  generalize B / qK N nT ^ (h - 1 - k).toNat % qK N nT = x at *
  by_cases e : x = qno N nT
  · rw [e, qch_9]; exact Or.inl rfl
  · obtain ⟨a, b, d, _⟩ := qch_i (N := N) (nT := nT) (c := x) h0 h1 (by unfold qK at h2; omega)
    exact Or.inr ⟨a, b, d⟩
theorem qgp_s (h0 : 0 ≤ nT) (c0 : 0 ≤ c) (c1 : c < qK N nT) (k0 : 0 ≤ k) (k1 : k < h) : qgp N nT (h + 1) (B * qK N nT + c) k = qgp N nT h B k := by
  have hK := qK_bd (N := N) h0
  unfold qgp
  rw [show (h + 1 - 1 - k).toNat = (h - 1 - k).toNat + 1 by omega, Int.pow_succ', ← Int.ediv_ediv_of_nonneg (show 0 ≤ qK N nT by omega)]
  rw [show (B * qK N nT + c) / qK N nT = B by rw [Int.add_comm, Int.add_mul_ediv_right _ _ (by omega), Int.ediv_eq_zero_of_lt c0 c1]; omega]
theorem qgp_h (h0 : 0 ≤ nT) (c0 : 0 ≤ c) (c1 : c < qK N nT) : qgp N nT (h + 1) (B * qK N nT + c) h = qch N nT c := by
  have hK := qK_bd (N := N) h0
  unfold qgp
  rw [show (h + 1 - 1 - h).toNat = 0 by omega, Int.pow_zero, Int.ediv_one]
  rw [show (B * qK N nT + c) % qK N nT = c by rw [Int.add_comm, Int.add_mul_emod_self_right, Int.emod_eq_of_lt c0 c1]]
theorem qdp_s (hn : 0 ≤ nT) (h0 : 0 ≤ h) (c0 : 0 ≤ c) (c1 : c < qK N nT) : qdp N nT (h + 1) (B * qK N nT + c) = 10 * qdp N nT h B + qch N nT c := by
  unfold qdp
  rw [qfold_end h0, qgp_h hn c0 c1]
  rw [qfold_congr (g := fun k a => 10 * a + qgp N nT h B k) (fun i a i0 i1 => by rw [qgp_s hn c0 c1 i0 i1])]
theorem qgp_09 (h0 : 0 ≤ nT) (h6 : nT ≤ 6) : 0 ≤ qgp N nT h B k ∧ qgp N nT h B k ≤ 9 := by
  have := qgp_c (N := N) (h := h) (B := B) (k := k) h0
  unfold qcho at this
  omega
theorem qdp_bd (hn : 0 ≤ nT) (h6 : nT ≤ 6) (h0 : 0 ≤ h) (h4 : h ≤ 4) : 0 ≤ qdp N nT h B ∧ qdp N nT h B ≤ 9999 := by
  have v := qt10_v
  have : 0 ≤ qdp N nT h B ∧ qdp N nT h B < qt10 h := by
    unfold qdp
    refine qfold_inv (I := fun k a => 0 ≤ a ∧ a < qt10 k) ?_ h0 (by omega)
    intro k a k0 k1 ha
    have h1 := qgp_09 (N := N) (h := h) (B := B) (k := k) hn h6
    have h2 := qt10_s k0 (show k < 6 by omega)
    try dsimp only
    omega
  have : h = 0 ∨ h = 1 ∨ h = 2 ∨ h = 3 ∨ h = 4 := by omega
  rcases this with rfl | rfl | rfl | rfl | rfl <;> omega
/-- digits, from behind -/
theorem qdg_l {g : Int → Int} {nH : Int} (h4 : nH ≤ 6) : ∀ s, s ≤ nH → 0 ≤ s → ∀ a, qfold (fun k a => 10 * a + g k) nH s a = a * qt10 (nH - s) + qfold (fun k a => 10 * a + g k) nH s 0 := by
  refine qUpto ?_
  intro s hs ih s0 a
  by_cases e : s < nH
  · rw [qfold_lt e, qfold_lt e, ih e (by omega), ih e (by omega) (10 * 0 + g s)]
    have h2 := qt10_s (n := nH - (s + 1)) (by omega) (by omega)
    rw [show nH - (s + 1) + 1 = nH - s by omega] at h2
    rw [h2]
    generalize qt10 (nH - (s + 1)) = z
    rw [Int.add_mul, Int.add_mul, Int.mul_zero, Int.zero_mul, Int.zero_add, Int.add_assoc]
    congr 1
    rw [Int.mul_assoc, Int.mul_left_comm]
  · rw [show s = nH by omega, qfold_ge (by omega), qfold_ge (by omega), show nH - nH = 0 by omega]
    have v := qt10_v
    rw [v.1]
    omega
end GROW
theorem qfold_sp {α : Type} {f : Int → α → α} {c b : Int} (hb : b ≤ c) : ∀ a, a ≤ b → ∀ st, qfold f c a st = qfold f c b (qfold f b a st) := by
  refine qUpto ?_
  intro a ha ih st
  by_cases e : a < b
  · rw [qfold_lt (by omega), ih e, qfold_lt (S := b) e]
  · rw [show a = b by omega, qfold_ge (S := b) (by omega)]
section GRS
variable {R Ws : Int → Int → Int} {nT nH i : Int} {N : Int → Int}
theorem qst1_fix {a b : Int} {st : Int × Int} (h : ¬ st.2 = -1) (hab : a ≤ b) : qfold (qst1 R Ws nT nH N i) b a st = st := by
  refine qfold_inv (I := fun (_ : Int) (x : Int × Int) => x = st) ?_ hab rfl
  intro j x _ _ e
  rw [e]
  unfold qst1
  rw [if_neg h]
theorem qst1_bd {a b : Int} {st : Int × Int} (hab : a ≤ b) : st.1 ≤ (qfold (qst1 R Ws nT nH N i) b a st).1 ∧ (qfold (qst1 R Ws nT nH N i) b a st).1 ≤ st.1 + (b - a) := by
  refine qfold_inv (I := fun (j : Int) (x : Int × Int) => st.1 ≤ x.1 ∧ x.1 ≤ st.1 + (j - a)) ?_ hab (by omega)
  intro j x _ _ e
  try dsimp only
  unfold qst1
  split
  · split
    · omega
    · dsimp only; omega
  · omega
theorem qst1_d {a b : Int} {st : Int × Int} (hn : 0 ≤ nT) (h6 : nT ≤ 6) (h0 : 0 ≤ nH) (h4 : nH ≤ 4) (hab : a ≤ b) (hst : -1 ≤ st.2 ∧ st.2 ≤ 9999) : -1 ≤ (qfold (qst1 R Ws nT nH N i) b a st).2 ∧ (qfold (qst1 R Ws nT nH N i) b a st).2 ≤ 9999 := by
  refine qfold_inv (I := fun (j : Int) (x : Int × Int) => -1 ≤ x.2 ∧ x.2 ≤ 9999) ?_ hab hst
  intro j x _ _ e
  try dsimp only
  have := qdp_bd (N := N) (B := j) hn h6 h0 h4
  unfold qst1
  split
  · split
    · omega
    · dsimp only
      split <;> omega
  · omega
theorem qst1_neg {a b : Int} {st : Int × Int} (hi : i < 0) (hab : a ≤ b) (h1 : 0 ≤ st.1) (h2 : st.2 = -1) : (qfold (qst1 R Ws nT nH N i) b a st).2 = -1 := by
  refine (qfold_inv (I := fun (j : Int) (x : Int × Int) => 0 ≤ x.1 ∧ x.2 = -1) ?_ hab ⟨h1, h2⟩).2
  intro j x _ _ e
  try dsimp only
  unfold qst1
  rw [if_pos e.2]
  split
  · exact e
  · dsimp only
    rw [if_neg (by omega)]
    omega
end GRS
section GCR
variable {xs : List Int32} {d : Nat} {Q : bPo} {b b0 b1 b2 : Bool} {m : Nat → Int → Int} {nT nH : Int} {T P E U N : Int → Int} {t s h k : Int}
variable {R Ws : Int → Int → Int} {g : Int → Int} {m' : Nat → Int → Int} {row i : Int}
theorem c_pickBy (hw : qGw R Ws nT nH N) (hG : qGm m R Ws nT nH N) (r0 : 0 ≤ row) (r1 : row ≤ 3000) (hQ : ∀ m', qFr (fun a _ => a = 96 ∨ a = 99) m m' → (∀ k, 0 ≤ k → k < nH → m' 96 k = qgp N nT nH row k) → (∀ t, 0 ≤ t → t < 6 → m' 99 t = qld R (qgp N nT nH row) nH t) → Q (qdp N nT nH row) ((b0, b1, b2), m')) : bC xs 3 81 [vr 94, vi row] ((b0, b1, b2), m) Q := by
  have hw0 := hw
  obtain ⟨wT, wH, wR, wW⟩ := hw
  have hK := qK_bd (N := N) wT.1
  refine qC rfl fun d hd => r_X5_pickBy_0 hd ?_
  rw [hG.1]
  suffices H : ∀ h, -1 ≤ h → h < nH → ∀ m1, qFr (fun a _ => a = 96) m m1 → (∀ k, h < k → k < nH → m1 96 k = qgp N nT nH row k) → bGo xs d aM_X5_pickBy 12 [vr 94, vn, vi (row / qK N nT ^ (nH - 1 - h).toNat), vi (qfold (fun k a => 10 * a + qgp N nT nH row k) nH (h + 1) 0), vi h] [] ((b0, b1, b2), m1) Q by
    have := H (nH - 1) (by omega) (by omega) m qFr.refl (fun k a b => by omega)
    rw [show (nH - 1 - (nH - 1)).toNat = 0 by omega, Int.pow_zero, Int.ediv_one, qfold_ge (by omega)] at this
    exact this
  refine qDown ?_
  intro h hh ih h1 m1 f1 he
  have hG1 : qGm m1 R Ws nT nH N := hG.fr (f1 94 5 (by omega)) (f1 94 6 (by omega)) (qFr_at f1 95 (fun k => by omega)) (qFr_at f1 97 (fun k => by omega)) (qFr_at f1 98 (fun k => by omega))
  refine r_X5_pickBy_12 hd ⟨by omega, fun h2 => ?_, fun h0 => ?_⟩
  · refine c_findLeads hw0 hG1 (g := qgp N nT nH row) (fun k a b => he k (by omega) b) (fun k a b => qgp_c wT.1) ?_
    intro m2 f2 hl
    refine ⟨rfl, ?_⟩
    rw [show h + 1 = 0 by omega]
    exact hQ m2 ((f1.mono (fun a k h => Or.inl h)).trans (f2.mono (fun a k h => Or.inr h))) (fun k a b => by rw [f2 96 k (by omega)]; exact he k (by omega) b) hl
  · have e6 : m1 94 6 + 1 = qK N nT := by rw [hG1.2.1]; rfl
    have p0 : 0 < qK N nT ^ (nH - 1 - h).toNat := qKp wT.1
    have v0 : 0 ≤ row / qK N nT ^ (nH - 1 - h).toNat := Int.ediv_nonneg r0 (by omega)
    have v1 : row / qK N nT ^ (nH - 1 - h).toNat ≤ row := Int.ediv_le_self _ r0
    rw [e6, hG1.1, Int.tmod_eq_emod_of_nonneg v0, Int.tdiv_eq_ediv_of_nonneg v0]
    have b0 := Int.emod_nonneg (row / qK N nT ^ (nH - 1 - h).toNat) (show qK N nT ≠ 0 by omega)
    have b1 := Int.emod_lt_of_pos (row / qK N nT ^ (nH - 1 - h).toNat) (show 0 < qK N nT by omega)
    have e95 : m1 95 (row / qK N nT ^ (nH - 1 - h).toNat % qK N nT) = qgp N nT nH row h := by
      rw [hG1.2.2.1 _ b0 (by unfold qK at *; omega)]
      rfl
    rw [e95, qt10_x (by omega) (by omega), qup_s]
    refine ⟨by omega, by omega, by omega, by omega, by omega, by omega, by omega, by omega, ?_⟩
    have := ih (by omega) (by omega) (up m1 96 h (qgp N nT nH row h)) (qFr_up f1 rfl) (fun k a b => ?_)
    · rw [show (nH - 1 - (h + -1)).toNat = (nH - 1 - h).toNat + 1 by omega, Int.pow_succ, ← Int.ediv_ediv_of_nonneg (show 0 ≤ qK N nT ^ (nH - 1 - h).toNat by omega), show h + -1 + 1 = h by omega, qfold_lt h1, qdg_l (by omega) (h + 1) (by omega) (by omega)] at this
      rw [show qfold (fun k a => 10 * a + qgp N nT nH row k) nH (h + 1) 0 + qgp N nT nH row h * qt10 (nH - 1 - h) = (10 * 0 + qgp N nT nH row h) * qt10 (nH - (h + 1)) + qfold (fun k a => 10 * a + qgp N nT nH row k) nH (h + 1) 0 by rw [show nH - 1 - h = nH - (h + 1) by omega, show 10 * 0 + qgp N nT nH row h = qgp N nT nH row h by omega, Int.add_comm]]
      exact this
    · rw [qup_if]
      by_cases e : k = h
      · rw [if_pos e, e]
      · rw [if_neg e]
        exact he k (by omega) b
theorem c_restingRow (hw : qGw R Ws nT nH N) (hG : qGm m R Ws nT nH N) (x1 : inR i) (hQ : ∀ m', qFr (fun a _ => a = 96 ∨ a = 99) m m' → Q (if i = -1 then (qrst R Ws nT nH N i).1 else (qrst R Ws nT nH N i).2) ((b0, b1, b2), m')) : bC xs 4 80 [vr 94, vi i] ((b0, b1, b2), m) Q := by
  have hw0 := hw
  obtain ⟨wT, wH, wR, wW⟩ := hw
  have hK := qK_bd (N := N) wT.1
  refine qC rfl fun d hd => r_X5_restingRow_0 hd ?_
  have p4 : ∀ n : Nat, n ≤ 4 → 0 < qK N nT ^ n ∧ qK N nT ^ n ≤ 2401 := by
    have H : ∀ x : Fin 8, ∀ n : Fin 5, (x.val : Int) ^ n.val ≤ 2401 := by decide
    intro n hn
    refine ⟨qKp wT.1, ?_⟩
    obtain ⟨x, hx⟩ := Int.eq_ofNat_of_zero_le (show 0 ≤ qK N nT by omega)
    rw [hx]
    exact H ⟨x, by omega⟩ ⟨n, by omega⟩
  have L2 : ∀ row, row ≤ qK N nT ^ nH.toNat → 0 ≤ row → ∀ f, 0 ≤ f → f ≤ row → qrst R Ws nT nH N i = qfold (qst1 R Ws nT nH N i) (qK N nT ^ nH.toNat) row (f, -1) → ∀ m1, qFr (fun a _ => a = 96 ∨ a = 99) m m1 → bGo xs d aM_X5_restingRow 32 [vr 94, vi i, vi (qK N nT ^ nH.toNat), vi f, vi row, vn] [] ((b0, b1, b2), m1) Q := by
    have pw := p4 nH.toNat (by omega)
    refine qUpto ?_
    intro row hr ih r0 f f0 f1 he m1 fr1
    have hG1 : qGm m1 R Ws nT nH N := hG.fr (fr1 94 5 (by omega)) (fr1 94 6 (by omega)) (qFr_at fr1 95 (fun k => by omega)) (qFr_at fr1 97 (fun k => by omega)) (qFr_at fr1 98 (fun k => by omega))
    refine r_X5_restingRow_32 hd ⟨by omega, by omega, fun h2 => ⟨x1, fun h3 => ?_, fun h3 => ?_⟩, fun h2 => ?_⟩
    · rw [qfold_ge h2] at he
      rw [he, if_neg h3] at hQ
      exact hQ m1 fr1
    · rw [qfold_ge h2] at he
      rw [he, if_pos h3] at hQ
      exact hQ m1 fr1
    · refine c_pickBy hw0 hG1 r0 (by omega) ?_
      intro m2 fr2 hg hl
      have fr12 := fr1.trans fr2
      have hG2 : qGm m2 R Ws nT nH N := hG.fr (fr12 94 5 (by omega)) (fr12 94 6 (by omega)) (qFr_at fr12 95 (fun k => by omega)) (qFr_at fr12 97 (fun k => by omega)) (qFr_at fr12 98 (fun k => by omega))
      refine ⟨rfl, c_areContent hw0 hG2 hg (fun k a b => qgp_c wT.1) hl ?_⟩
      have z01 := qrz_01 (R := R) (Ws := Ws) (g := qgp N nT nH row) (nT := nT) (nH := nH) (N := N)
      have bd := qdp_bd (N := N) (B := row) wT.1 wT.2 wH.1 wH.2
      rw [qfold_lt h2] at he
      unfold qst1 at he
      rw [if_pos rfl] at he
      refine ⟨rfl, by omega, fun hz => ?_, fun hz => ⟨by omega, x1, fun h5 => ?_, fun h5 => ?_⟩⟩
      · rw [if_pos hz] at he
        exact ih h2 (by omega) f f0 (by omega) he m2 fr12
      · rw [if_neg hz, if_neg h5] at he
        exact ih h2 (by omega) (f + 1) (by omega) (by omega) he m2 fr12
      · rw [if_neg hz, if_pos h5] at he
        have fx := qst1_fix (R := R) (Ws := Ws) (nT := nT) (nH := nH) (N := N) (i := i) (a := row + 1) (b := qK N nT ^ nH.toNat) (st := (f + 1, qdp N nT nH row)) (by dsimp only; omega) (by omega)
        unfold qst1 at fx
        rw [fx] at he
        rw [he, if_neg (by omega)] at hQ
        exact hQ m2 fr12
  suffices H : ∀ h, h ≤ nH → 0 ≤ h → bGo xs d aM_X5_restingRow 4 [vr 94, vi i, vi (qK N nT ^ h.toNat), vi h, vn, vn] [] ((b0, b1, b2), m) Q by
    have := H 0 wH.1 (by omega)
    rw [show (0 : Int).toNat = 0 from rfl, Int.pow_zero] at this
    exact this
  refine qUpto ?_
  intro h hh ih h0
  refine r_X5_restingRow_4 hd ?_
  rw [hG.1, hG.2.1]
  refine ⟨by omega, by omega, fun h2 => ?_, fun h2 => ?_⟩
  · rw [show h = nH by omega]
    exact L2 0 (by have := p4 nH.toNat (by omega); omega) (by omega) 0 (by omega) (by omega) rfl m qFr.refl
  · have := ih h2 (by omega)
    rw [show (h + 1).toNat = h.toNat + 1 by omega, Int.pow_succ] at this
    exact this
theorem c_isChoice (hw : qGw R Ws nT nH N) (hG : qGm m R Ws nT nH N) (x1 : inR t) (hy : qcho N nT t → Q 1 ((b0, b1, b2), m)) (hn : ¬ qcho N nT t → Q 0 ((b0, b1, b2), m)) : bC xs 1 74 [vr 94, vi t] ((b0, b1, b2), m) Q := by
  obtain ⟨wT, wH, wR, wW⟩ := hw
  have nb := qno_bd (N := N) wT.1
  refine qC rfl fun d hd => r_X5_isChoice_0 hd ?_
  suffices H : ∀ c, c ≤ qno N nT + 1 → 0 ≤ c → (∀ u, 0 ≤ u → u < c → ¬ qch N nT u = t) → bGo xs d aM_X5_isChoice 2 [vr 94, vi t, vi c] [] ((b0, b1, b2), m) Q from H 0 (by omega) (by omega) (fun u a b => by omega)
  refine qUpto ?_
  intro c hc ih c0 hu
  refine r_X5_isChoice_2 hd ?_
  rw [hG.2.1]
  refine ⟨by omega, by omega, fun h2 => hn (fun hx => ?_), fun h2 => ?_⟩
  · unfold qcho at hx
    rcases hx with e | ⟨a, b, e⟩
    · exact hu (qno N nT) (by omega) (by omega) (by rw [qch_9]; omega)
    · have h3 := qno_lt a b e
      have h4 := qno_bd (N := N) a
      exact hu (qno N t) (by omega) (by omega) (qch_o a b e)
  · rw [hG.2.2.1 c c0 h2]
    have hc9 : qcho N nT (qch N nT c) := by
      by_cases e : c = qno N nT
      · rw [e, qch_9]; exact Or.inl rfl
      · obtain ⟨a, b, e2, _⟩ := qch_i (N := N) (nT := nT) (c := c) wT.1 c0 (by omega)
        exact Or.inr ⟨a, b, e2⟩
    have hb : 0 ≤ qch N nT c ∧ qch N nT c ≤ 9 := by unfold qcho at hc9; omega
    refine ⟨by omega, by omega, x1, fun h3 => ih (by omega) (by omega) (fun u a b => ?_), fun h3 => hy (by rw [← h3]; exact hc9)⟩
    by_cases e : u = c
    · rw [e]; exact h3
    · exact hu u a (by omega)
theorem c_takeRow (hw : qGw R Ws nT nH N) (hG : qGm m R Ws nT nH N) (x1 : inR row) (hy : qTr N nT nH row → ∀ m', qFr (fun a _ => a = 96 ∨ a = 99) m m' → (∀ k, 0 ≤ k → k < nH → m' 96 k = qsg nH row k) → (∀ t, 0 ≤ t → t < 6 → m' 99 t = qld R (qsg nH row) nH t) → Q 1 ((b0, b1, b2), m')) (hn : ¬ qTr N nT nH row → ∀ m', qFr (fun a _ => a = 96 ∨ a = 99) m m' → Q 0 ((b0, b1, b2), m')) : bC xs 3 75 [vr 94, vi row] ((b0, b1, b2), m) Q := by
  have hw0 := hw
  obtain ⟨wT, wH, wR, wW⟩ := hw
  have tb := qt10_bd (n := nH) (by omega) (by omega)
  refine qC rfl fun d hd => r_X5_takeRow_0 hd ?_
  rw [hG.1]
  refine ⟨x1, fun h2 => hn (fun hx => by have := hx.1; omega) m qFr.refl, fun r0 => ⟨by omega, x1, ?_⟩⟩
  rw [qt10_x (by omega) (by omega)]
  refine ⟨by omega, fun r1 => ?_, fun h2 => hn (fun hx => by have := hx.2.1; omega) m qFr.refl⟩
  suffices H : ∀ h, h ≤ nH → 0 ≤ h → ∀ m1, qFr (fun a _ => a = 96) m m1 → (∀ k, 0 ≤ k → k < h → m1 96 k = qsg nH row k ∧ qcho N nT (qsg nH row k)) → bGo xs d aM_X5_takeRow 20 [vr 94, vi row, vi h] [] ((b0, b1, b2), m1) Q from H 0 wH.1 (by omega) m qFr.refl (fun k a b => by omega)
  refine qUpto ?_
  intro h hh ih h0 m1 f1 he
  have hG1 : qGm m1 R Ws nT nH N := hG.fr (f1 94 5 (by omega)) (f1 94 6 (by omega)) (qFr_at f1 95 (fun k => by omega)) (qFr_at f1 97 (fun k => by omega)) (qFr_at f1 98 (fun k => by omega))
  refine r_X5_takeRow_20 hd ?_
  rw [hG1.1]
  refine ⟨by omega, by omega, fun h2 => ?_, fun h2 => ?_⟩
  · refine c_findLeads hw0 hG1 (g := qsg nH row) (fun k a b => (he k a (by omega)).1) (fun k a b => (he k a (by omega)).2) ?_
    intro m2 f2 hl
    refine ⟨rfl, hy ⟨r0, r1, fun k a b => (he k a (by omega)).2⟩ m2 ((f1.mono (fun a k h => Or.inl h)).trans (f2.mono (fun a k h => Or.inr h))) (fun k a b => by rw [f2 96 k (by omega)]; exact (he k a (by omega)).1) hl⟩
  · have ht := qt10_bd (n := nH - 1 - h) (by omega) (by omega)
    have hs := qsg_bd (S := nH) (k := h) r0
    rw [qt10_x (by omega) (by omega), qup_s]
    refine ⟨by omega, x1, by omega, qtd_in nH h r0 (by omega), by omega, by omega, ?_⟩
    rw [show Int.tmod (Int.tdiv row (qt10 (nH - 1 - h))) 10 = qsg nH row h from rfl]
    have f2 : qFr (fun a _ => a = 96) m (up m1 96 h (qsg nH row h)) := qFr_up f1 rfl
    have hG2 : qGm (up m1 96 h (qsg nH row h)) R Ws nT nH N := hG.fr (f2 94 5 (by omega)) (f2 94 6 (by omega)) (qFr_at f2 95 (fun k => by omega)) (qFr_at f2 97 (fun k => by omega)) (qFr_at f2 98 (fun k => by omega))
    refine c_isChoice hw0 hG2 (by omega) (fun hc => ⟨rfl, by omega, fun _ => ih h2 (by omega) _ f2 (fun k a b => ?_), fun h => by omega⟩) (fun hc => ⟨rfl, by omega, fun h => absurd rfl h, fun _ => hn (fun hx => hc (hx.2.2 h h0 h2)) _ (f2.mono (fun a k h => Or.inl h))⟩)
    dsimp only
    rw [qup_if]
    by_cases e : k = h
    · rw [if_pos e, e]; exact ⟨rfl, hc⟩
    · rw [if_neg e]
      exact he k a (by omega)
end GCR
section GCP
variable {xs : List Int32} {d : Nat} {Q : bPo} {b b0 b1 b2 : Bool} {m : Nat → Int → Int} {nT nH : Int} {T P E U N : Int → Int} {t s h k : Int}
variable {nL hold i row : Int} {lB : Int → Int → Int} {lN : Int → Int} {m' : Nat → Int → Int}
def qGg (a : Nat) (k : Int) : Prop := qGf a k ∨ a = 96 ∨ a = 99
theorem c_rests (hW : qWF nT nH T P E U N) (hE : qER m (bW b0) nT nH T P E U N) (hV : qVs nL lB lN) (hc : qVc m nL lB lN) (hh : m 0 12 = hold) (hb : -1 ≤ hold ∧ hold < nL) (x1 : inR i) (hQ : ∀ m', qFr qGg m m' → Q (qPres (qrnk T P N) (qwsh T P E N lB lN hold) nT nH N i) ((b0, b1, b2), m')) : bC xs 6 157 [vr 0, vi i] ((b0, b1, b2), m) Q := by
  have wn := qw_n hW
  have en := qe_n hE
  refine qC rfl fun d hd => r_X11_rests_0 hd ?_
  rw [en.1, en.2]
  unfold qPres at hQ
  refine ⟨by omega, fun h4 => ⟨by omega, fun h0 => ?_, fun h0 => ?_⟩, fun h4 => ?_⟩
  · rw [if_neg (by omega), if_pos (by omega)] at hQ
    exact hQ m qFr.refl
  · rw [if_neg (by omega), if_neg (by omega)] at hQ
    refine c_layOutGame hW hE hV hc hh hb h4 ?_
    intro m1 f1 hG
    refine ⟨rfl, c_restingRow (qGw_w hW hV hb h4) hG x1 ?_⟩
    intro m2 f2
    exact ⟨rfl, hQ m2 ((f1.mono (fun a k h => Or.inl h)).trans (f2.mono (fun a k h => Or.inr h)))⟩
  · rw [if_pos h4] at hQ
    exact hQ m qFr.refl
theorem c_gains (hW : qWF nT nH T P E U N) (hE : qER m (bW b0) nT nH T P E U N) (hV : qVs nL lB lN) (hc : qVc m nL lB lN) (hh : m 0 12 = hold) (hb : -1 ≤ hold ∧ hold < nL) (x1 : inR row) (x2 : inR h) (hQ : ∀ m', qFr qGg m m' → Q (qPgai (qrnk T P N) (qwsh T P E N lB lN hold) nT nH N row h) ((b0, b1, b2), m')) : bC xs 6 158 [vr 0, vi row, vi h] ((b0, b1, b2), m) Q := by
  have wn := qw_n hW
  have en := qe_n hE
  refine qC rfl fun d hd => r_X11_gains_0 hd ?_
  rw [en.2]
  unfold qPgai at hQ
  have hno : ¬ ((0 ≤ h ∧ h < nH) ∧ nH ≤ 4 ∧ qTr N nT nH row) → ∀ m', qFr qGg m m' → Q (-1000000) ((b0, b1, b2), m') := fun hn m' f => by
    have := hQ m' f
    rw [if_neg hn] at this
    exact this
  refine ⟨x2, fun h2 => hno (by omega) m qFr.refl, fun h0 => ⟨x2, by omega, fun h2 => hno (by omega) m qFr.refl, fun h1 => ⟨by omega, fun h4 => ?_, fun h4 => hno (by omega) m qFr.refl⟩⟩⟩
  refine c_layOutGame hW hE hV hc hh hb h4 ?_
  intro m1 f1 hG
  have hw := qGw_w hW hV hb h4
  refine ⟨rfl, c_takeRow hw hG x1 (fun hy m2 f2 hg hl => ⟨rfl, by omega, fun h => by omega, fun _ => ?_⟩) (fun hn m2 f2 => ⟨rfl, by omega, fun _ => hno (fun hx => hn hx.2.2) m2 ((f1.mono (fun a k h => Or.inl h)).trans (f2.mono (fun a k h => Or.inr h))), fun h => absurd rfl h⟩)⟩
  have f12 : qFr qGg m m2 := (f1.mono (fun a k h => Or.inl h)).trans (f2.mono (fun a k h => Or.inr h))
  have hG2 := hG.fr (f2 94 5 (by omega)) (f2 94 6 (by omega)) (qFr_at f2 95 (fun k => by omega)) (qFr_at f2 97 (fun k => by omega)) (qFr_at f2 98 (fun k => by omega))
  refine c_gainOf hw hG2 hg (fun k a b => hy.2.2 k a b) hl h0 h1 ⟨rfl, ?_⟩
  have := hQ m2 f12
  rw [if_pos ⟨⟨h0, h1⟩, h4, hy⟩] at this
  exact this
end GCP
