/-! B: dealings by things: prefixes, digits -/
def qDl (T N G : Int → Int) : Int → Bool := fun t => decide (N (6 * t + 2) = 0 ∧ G t < T (4 * t + 3))
def qhX (a : Int → Int) (t : Int) : Int := qfold (fun u c => 10 * c + a u) t 0 0
def qvA (T a : Int → Int) (t : Int) : Int := qsB (fun u => !decide (a u = 9)) (qVa T) t
def qFq (T P N G : Int → Int) (nT nH t : Int) (a : Int → Int) : Prop := (∀ u, 0 ≤ u → u < t → a u = 9 ∨ (qDl T N G u = true ∧ 0 ≤ a u ∧ a u < nH)) ∧ ∀ h, 0 ≤ h → h < nH → qFe (qAg T P N G h) (qRo T) nT (N 66) (fun u => decide (u < t) && decide (a u = h))
/-- a dealing is no better -/
def qdo (T : Int → Int) (nT M X : Int) (e : Int → Int) : Prop := qvA T e nT < M ∨ (qvA T e nT = M ∧ X ≤ qhX e nT)
def qex (t : Int) (a e : Int → Int) : Prop := ∀ u, 0 ≤ u → u < t → e u = a u
/-- how the best so far goes on -/
def qGs (T P N G : Int → Int) (nT nH t : Int) (a : Int → Int) (M : Int) (β : Int → Int) (M' : Int) (β' : Int → Int) : Prop := (M' = M ∧ qex nT β β') ∨ (M < M' ∧ qFq T P N G nT nH nT β' ∧ qvA T β' nT = M' ∧ qex t a β')
section MDP
variable {T P E U N G a a' e β β' β2 : Int → Int} {nT nH t h M M' M2 : Int}
theorem qhX_s (t0 : 0 ≤ t) : qhX a (t + 1) = 10 * qhX a t + a t := by unfold qhX; rw [qfold_end t0]
theorem qhX_cg (h : qex t a e) : qhX e t = qhX a t := by
  unfold qhX
  exact qfold_congr (fun i c i0 i1 => by rw [h i i0 i1])
theorem qvA_cg (h : qex t a e) : qvA T e t = qvA T a t := by
  unfold qvA
  exact qsB_cg (fun u u0 u1 => by rw [h u u0 u1]) (fun _ _ _ _ => rfl)
theorem qvA_s (t0 : 0 ≤ t) : qvA T a (t + 1) = if a t = 9 then qvA T a t else qvA T a t + T (4 * t) := by
  unfold qvA
  rw [qsB_s t0]
  by_cases e : a t = 9
  · rw [if_pos e, if_neg (by rw [decide_eq_true e]; simp)]
  · rw [if_neg e, if_pos (by rw [decide_eq_false e]; rfl)]
    rfl
theorem qvA_bd (hW : qWF nT nH T P E U N) (h0 : 0 ≤ t) (h1 : t ≤ nT) : 0 ≤ qvA T a t ∧ qvA T a t ≤ 99 * t := ⟨qsB_nn t h0 (fun u u0 u1 _ => (qw_t hW u0 (by omega)).1.1), qsB_ub (by omega) t h0 (fun u u0 u1 _ => (qw_t hW u0 (by omega)).1.2)⟩
/-- digits of what goes on -/
theorem qhX_b (n6 : nT ≤ 6) (hd : ∀ u, 0 ≤ u → u < nT → 0 ≤ e u ∧ e u ≤ 9) (t0 : 0 ≤ t) : ∀ s, t ≤ s → s ≤ nT → qhX e t * qt10 (s - t) ≤ qhX e s ∧ qhX e s < (qhX e t + 1) * qt10 (s - t) := by
  have v := qt10_v
  refine qDown ?_
  intro s hs ih s1
  by_cases e1 : t < s
  · have i := ih e1 (by omega)
    have hx := qhX_s (a := e) (t := s + -1) (by omega)
    rw [show s + -1 + 1 = s by omega] at hx
    have ht := qt10_s (n := s + -1 - t) (by omega) (by omega)
    rw [show s + -1 - t + 1 = s - t by omega] at ht
    have hb := hd (s + -1) (by omega) (by omega)
    rw [hx, ht]
    generalize qt10 (s + -1 - t) = z at *
    rw [Int.mul_left_comm, Int.mul_left_comm (qhX e t + 1)]
    omega
  · rw [show s = t by omega, show t - t = 0 by omega, v.1]
    omega
theorem qex_s (h : qex t a e) (t0 : 0 ≤ t) (he : e t = a' t) (ha : qex t a a') : qex (t + 1) a' e := by
  intro u u0 u1
  by_cases eu : u = t
  · rw [eu]; exact he
  · rw [h u u0 (by omega)]; exact (ha u u0 (by omega)).symm
theorem qex_l (h : qex (t + 1) a' e) (ha : qex t a a') : qex t a e := fun u u0 u1 => (h u u0 (by omega)).trans (ha u u0 u1)
theorem qFq_d (hn : nH ≤ 6) (h : qFq T P N G nT nH nT e) : ∀ u, 0 ≤ u → u < nT → 0 ≤ e u ∧ e u ≤ 9 := fun u u0 u1 => by
  rcases h.1 u u0 u1 with e1 | e1 <;> omega
theorem qFq_cg (hn : 0 ≤ nT) (ht : t ≤ nT) (hx : qex t a e) (h : qFq T P N G nT nH t a) : qFq T P N G nT nH t e := by
  refine ⟨fun u u0 u1 => by rw [hx u u0 u1]; exact h.1 u u0 u1, fun g g0 g1 => qFe_cg hn (fun u u0 u1 => ?_) (h.2 g g0 g1)⟩
  by_cases eu : u < t
  · rw [hx u u0 eu]
  · rw [decide_eq_false eu, Bool.false_and, Bool.false_and]
theorem qGs_t (hn : 0 ≤ nT) (ht : t ≤ nT) (ha : qex t a a') (h1 : qGs T P N G nT nH t a M β M' β') (h2 : qGs T P N G nT nH (t + 1) a' M' β' M2 β2) : qGs T P N G nT nH t a M β M2 β2 := by
  rcases h2 with ⟨e1, e2⟩ | ⟨f1, f2, f3, f4⟩
  · rcases h1 with ⟨g1, g2⟩ | ⟨g1, g2, g3, g4⟩
    · exact Or.inl ⟨by omega, fun u u0 u1 => (e2 u u0 u1).trans (g2 u u0 u1)⟩
    · exact Or.inr ⟨by omega, qFq_cg hn (Int.le_refl _) e2 g2, by rw [qvA_cg e2]; omega, fun u u0 u1 => by rw [e2 u u0 (by omega)]; exact g4 u u0 u1⟩
  · refine Or.inr ⟨?_, f2, f3, qex_l f4 ha⟩
    rcases h1 with ⟨g1, _⟩ | ⟨g1, _⟩ <;> omega
theorem qdo_t (hd : qdo T nT M (qhX β nT) e) (h2 : (M' = M ∧ qex nT β β') ∨ M < M') : qdo T nT M' (qhX β' nT) e := by
  rcases h2 with ⟨e1, e2⟩ | h2
  · rw [e1, qhX_cg e2]; exact hd
  · rcases hd with h | h
    · exact Or.inl (by omega)
    · exact Or.inl (by omega)
end MDP
