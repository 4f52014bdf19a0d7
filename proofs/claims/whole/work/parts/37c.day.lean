/-! B: A DAY -/
def qwkp (T P N : Int → Int) (h t : Int) : Bool := decide (N (6 * t + 1) = h ∧ N (6 * t + 2) = 0 ∧ N (6 * t) < T (4 * t + 3) ∧ 0 < N (36 + 5 * h + P (2 * (8 * t + N (6 * t)))))
def qwk (T P N : Int → Int) (nT h : Int) : Int := qfst (qwkp T P N h) nT 0
def qwa2 (U N W : Int → Int) (t tr g nd : Int) : (Int → Int) × (Int → Int) := if 0 < U tr ∧ U tr ≤ W tr then (N, W) else (if g < 3 * nd then qset N (6 * t + 3) g else qset (qset (qset N (6 * t + 3) g) (6 * t) (N (6 * t) + 1)) (6 * t + 3) 0, qset W tr (W tr + 1))
def qwa (P U N W : Int → Int) (h t : Int) : (Int → Int) × (Int → Int) := qwa2 U N W t (P (2 * (8 * t + N (6 * t)))) (N (6 * t + 3) + N (36 + 5 * h + P (2 * (8 * t + N (6 * t))))) (P (2 * (8 * t + N (6 * t)) + 1))
def qwork (T P U : Int → Int) (nT h : Int) (s : (Int → Int) × (Int → Int)) : (Int → Int) × (Int → Int) := if qwk T P s.1 nT h = -1 then s else qwa P U s.1 s.2 h (qwk T P s.1 nT h)
def qcl (T : Int → Int) (t : Int) (N : Int → Int) : Int → Int := if N (6 * t + 2) = 0 then (if N (6 * t) = T (4 * t + 3) then qset (qset (qset N (6 * t + 2) 1) (6 * t + 4) (N 66)) (6 * t + 5) (N (6 * t + 1)) else if T (4 * t + 1) ≤ N 66 then qset N (6 * t + 2) 2 else N) else N
def qws (T P U : Int → Int) (nT nH : Int) (N : Int → Int) : (Int → Int) × (Int → Int) := qfold (qwork T P U nT) nH 0 (N, fun _ => 0)
def qday (T P U : Int → Int) (nT nH : Int) (N : Int → Int) : Int → Int := qfold (qcl T) nT 0 (qset (qws T P U nT nH N).1 66 ((qws T P U nT nH N).1 66 + 1))
/-- rows within a day -/
def qNd (nT nH : Int) (T N : Int → Int) : Prop :=
  (∀ t, 0 ≤ t → t < nT → (0 ≤ N (6 * t) ∧ N (6 * t) ≤ T (4 * t + 3)) ∧ (-1 ≤ N (6 * t + 1) ∧ N (6 * t + 1) < nH) ∧ (0 ≤ N (6 * t + 2) ∧ N (6 * t + 2) ≤ 2) ∧ (0 ≤ N (6 * t + 3) ∧ N (6 * t + 3) ≤ 26) ∧ (-1 ≤ N (6 * t + 4) ∧ N (6 * t + 4) ≤ 999) ∧ (-1 ≤ N (6 * t + 5) ∧ N (6 * t + 5) < nH)) ∧
  (∀ h k, 0 ≤ h → h < nH → 0 ≤ k → k < 5 → 0 ≤ N (36 + 5 * h + k) ∧ N (36 + 5 * h + k) ≤ 9) ∧ (0 ≤ N 66 ∧ N 66 ≤ 999)
section DAY
variable {xs : List Int32} {d : Nat} {Q : bPo} {b b0 b1 b2 : Bool} {m : Nat → Int → Int} {nT nH : Int} {T P E U N : Int → Int} {t s h k : Int}
variable {N0 W : Int → Int}
theorem qNw_nd (h : qNw nT nH T N) : qNd nT nH T N := ⟨fun t h0 h1 => by have := h.1 t h0 h1; exact ⟨this.1, this.2.1, ⟨this.2.2.1.1, this.2.2.1.2.1⟩, this.2.2.2⟩, h.2⟩
theorem qfst_sp {p : Int → Bool} {S : Int} : ∀ s, s ≤ S → qfst p S s = -1 ∨ (s ≤ qfst p S s ∧ qfst p S s < S ∧ p (qfst p S s) = true) := by
  refine qUpto ?_
  intro s hs ih
  by_cases h : s < S
  · rw [qfst_lt h]
    split
    · rename_i hp
      exact Or.inr ⟨by omega, h, hp⟩
    · rcases ih h with e | e
      · exact Or.inl e
      · exact Or.inr ⟨by omega, e.2⟩
  · rw [qfst_ge (by omega)]
    exact Or.inl rfl
theorem qwk_sp (h0 : 0 ≤ nT) : qwk T P N nT h = -1 ∨ ((0 ≤ qwk T P N nT h ∧ qwk T P N nT h < nT) ∧ N (6 * qwk T P N nT h + 1) = h ∧ N (6 * qwk T P N nT h + 2) = 0 ∧ N (6 * qwk T P N nT h) < T (4 * qwk T P N nT h + 3)) := by
  rcases qfst_sp (p := qwkp T P N h) (S := nT) 0 h0 with e | e
  · exact Or.inl e
  · have := e.2.2
    unfold qwkp at this
    rw [decide_eq_true_eq] at this
    exact Or.inr ⟨⟨e.1, e.2.1⟩, this.1, this.2.1, this.2.2.1⟩
/-- a step's work keeps rows as they should be -/
theorem qwa_nd (hW : qWF nT nH T P E U N0) (hN : qNd nT nH T N) (h0 : 0 ≤ h) (h1 : h < nH) (t0 : 0 ≤ t) (t1 : t < nT) (hs : N (6 * t) < T (4 * t + 3)) : qNd nT nH T (qwa P U N W h t).1 := by
  have wn := qw_n hW
  have e := hN.1 t t0 t1
  have wp := qw_p hW t0 t1 e.1.1 hs
  have ek := hN.2.1 h (P (2 * (8 * t + N (6 * t)))) h0 h1 (by omega) (by omega)
  unfold qwa qwa2
  split
  · exact hN
  · dsimp only
    split
    · refine ⟨fun t' a0 a1 => ?_, fun h k c0 c1 c2 c3 => ?_, ?_⟩
      · have e' := hN.1 t' a0 a1
        rw [qset_o (show ¬ 6 * t' = 6 * t + 3 by omega), qset_o (show ¬ 6 * t' + 1 = 6 * t + 3 by omega), qset_o (show ¬ 6 * t' + 2 = 6 * t + 3 by omega), qset_o (show ¬ 6 * t' + 4 = 6 * t + 3 by omega), qset_o (show ¬ 6 * t' + 5 = 6 * t + 3 by omega)]
        refine ⟨e'.1, e'.2.1, e'.2.2.1, ?_, e'.2.2.2.2⟩
        simp only [qset]
        split <;> omega
      · rw [qset_o (by omega)]
        exact hN.2.1 h k c0 c1 c2 c3
      · rw [qset_o (by omega)]
        exact hN.2.2
    · refine ⟨fun t' a0 a1 => ?_, fun h k c0 c1 c2 c3 => ?_, ?_⟩
      · have e' := hN.1 t' a0 a1
        simp only [qset]
        refine ⟨?_, ?_, ?_, ?_, ?_, ?_⟩
        · by_cases ht : t' = t
          · subst ht
            rw [if_neg (by omega), if_pos rfl]
            omega
          · rw [if_neg (by omega), if_neg (by omega), if_neg (by omega)]
            exact e'.1
        · rw [if_neg (by omega), if_neg (by omega), if_neg (by omega)]
          exact e'.2.1
        · rw [if_neg (by omega), if_neg (by omega), if_neg (by omega)]
          exact e'.2.2.1
        · by_cases ht : t' = t
          · subst ht
            rw [if_pos rfl]
            omega
          · rw [if_neg (by omega), if_neg (by omega), if_neg (by omega)]
            exact e'.2.2.2.1
        · rw [if_neg (by omega), if_neg (by omega), if_neg (by omega)]
          exact e'.2.2.2.2.1
        · rw [if_neg (by omega), if_neg (by omega), if_neg (by omega)]
          exact e'.2.2.2.2.2
      · rw [qset_o (by omega), qset_o (by omega), qset_o (by omega)]
        exact hN.2.1 h k c0 c1 c2 c3
      · rw [qset_o (by omega), qset_o (by omega), qset_o (by omega)]
        exact hN.2.2
theorem qwa_day (hW : qWF nT nH T P E U N0) (t0 : 0 ≤ t) (t1 : t < nT) : (qwa P U N W h t).1 66 = N 66 := by
  have wn := qw_n hW
  unfold qwa qwa2
  split
  · rfl
  · dsimp only
    split
    · rw [qset_o (by omega)]
    · rw [qset_o (by omega), qset_o (by omega), qset_o (by omega)]
theorem qwa_w {x : Int} (hw : ∀ k, 0 ≤ k → k < 5 → 0 ≤ W k ∧ W k ≤ x) : ∀ k, 0 ≤ k → k < 5 → 0 ≤ (qwa P U N W h t).2 k ∧ (qwa P U N W h t).2 k ≤ x + 1 := by
  intro k k0 k1
  have := hw k k0 k1
  unfold qwa qwa2
  split
  · dsimp only
    omega
  · dsimp only
    simp only [qset]
    split
    · rename_i e
      subst e
      omega
    · omega
/-- all that is wanted of a state within a day -/
def qWk (nT nH : Int) (T : Int → Int) (D x : Int) (s : (Int → Int) × (Int → Int)) : Prop := qNd nT nH T s.1 ∧ s.1 66 = D ∧ ∀ k, 0 ≤ k → k < 5 → 0 ≤ s.2 k ∧ s.2 k ≤ x
theorem qwork_ok {D : Int} {s : (Int → Int) × (Int → Int)} (hW : qWF nT nH T P E U N0) (h0 : 0 ≤ h) (h1 : h < nH) (hs : qWk nT nH T D h s) : qWk nT nH T D (h + 1) (qwork T P U nT h s) := by
  have wn := qw_n hW
  unfold qwork
  split
  · exact ⟨hs.1, hs.2.1, fun k k0 k1 => by have := hs.2.2 k k0 k1; omega⟩
  · rename_i hne
    rcases qwk_sp (T := T) (P := P) (N := s.1) (nT := nT) (h := h) (by omega) with e | e
    · exact absurd e hne
    · exact ⟨qwa_nd hW hs.1 h0 h1 e.1.1 e.1.2 e.2.2.2, by rw [qwa_day hW e.1.1 e.1.2]; exact hs.2.1, qwa_w hs.2.2⟩
theorem qws_ok (hW : qWF nT nH T P E U N) : qWk nT nH T (N 66) nH (qws T P U nT nH N) := by
  have wn := qw_n hW
  unfold qws
  refine qfold_inv (I := fun h s => qWk nT nH T (N 66) h s) ?_ (by omega) ⟨qNw_nd (qw_nw hW), rfl, fun k _ _ => by simp⟩
  intro i s h0 h1 hs
  exact qwork_ok hW h0 h1 hs
/-- the day's end -/
def qCk (nT nH : Int) (T : Int → Int) (x : Int) (N : Int → Int) : Prop := qNd nT nH T N ∧ ∀ t, 0 ≤ t → t < nT → t < x → N (6 * t + 2) = 0 → N (6 * t) < T (4 * t + 3)
theorem qcl_ok (hW : qWF nT nH T P E U N0) (t0 : 0 ≤ t) (t1 : t < nT) (hs : qCk nT nH T t N) : qCk nT nH T (t + 1) (qcl T t N) := by
  have wn := qw_n hW
  have e := hs.1.1 t t0 t1
  have ed := hs.1.2.2
  unfold qcl
  split
  · split
    · refine ⟨⟨fun t' a0 a1 => ?_, fun h k c0 c1 c2 c3 => ?_, ?_⟩, ?_⟩
      · have e' := hs.1.1 t' a0 a1
        simp only [qset]
        refine ⟨?_, ?_, ?_, ?_, ?_, ?_⟩
        · rw [if_neg (by omega), if_neg (by omega), if_neg (by omega)]
          exact e'.1
        · rw [if_neg (by omega), if_neg (by omega), if_neg (by omega)]
          exact e'.2.1
        · rw [if_neg (by omega), if_neg (by omega)]
          split <;> omega
        · rw [if_neg (by omega), if_neg (by omega), if_neg (by omega)]
          exact e'.2.2.2.1
        · rw [if_neg (by omega)]
          split
          · omega
          · rw [if_neg (by omega)]
            exact e'.2.2.2.2.1
        · split
          · omega
          · rw [if_neg (by omega), if_neg (by omega)]
            exact e'.2.2.2.2.2
      · rw [qset_o (by omega), qset_o (by omega), qset_o (by omega)]
        exact hs.1.2.1 h k c0 c1 c2 c3
      · rw [qset_o (by omega), qset_o (by omega), qset_o (by omega)]
        exact ed
      · intro t' a0 a1 a2
        by_cases ht : t' = t
        · subst ht
          rw [qset_o (by omega), qset_o (by omega), qset_s]
          intro h
          omega
        · simp only [qset]
          rw [if_neg (by omega), if_neg (by omega), if_neg (by omega), if_neg (by omega), if_neg (by omega), if_neg (by omega)]
          exact hs.2 t' a0 a1 (by omega)
    · split
      · refine ⟨⟨fun t' a0 a1 => ?_, fun h k c0 c1 c2 c3 => ?_, ?_⟩, ?_⟩
        · have e' := hs.1.1 t' a0 a1
          simp only [qset]
          refine ⟨?_, ?_, ?_, ?_, ?_, ?_⟩
          · rw [if_neg (by omega)]
            exact e'.1
          · rw [if_neg (by omega)]
            exact e'.2.1
          · split <;> omega
          · rw [if_neg (by omega)]
            exact e'.2.2.2.1
          · rw [if_neg (by omega)]
            exact e'.2.2.2.2.1
          · rw [if_neg (by omega)]
            exact e'.2.2.2.2.2
        · rw [qset_o (by omega)]
          exact hs.1.2.1 h k c0 c1 c2 c3
        · rw [qset_o (by omega)]
          exact ed
        · intro t' a0 a1 a2
          by_cases ht : t' = t
          · subst ht
            rw [qset_s]
            intro h
            omega
          · rw [qset_o (by omega), qset_o (by omega)]
            exact hs.2 t' a0 a1 (by omega)
      · refine ⟨hs.1, fun t' a0 a1 a2 => ?_⟩
        by_cases ht : t' = t
        · subst ht
          intro _
          omega
        · exact hs.2 t' a0 a1 (by omega)
  · refine ⟨hs.1, fun t' a0 a1 a2 => ?_⟩
    by_cases ht : t' = t
    · subst ht
      intro h
      omega
    · exact hs.2 t' a0 a1 (by omega)
theorem qday0 {D x : Int} {s : (Int → Int) × (Int → Int)} (hW : qWF nT nH T P E U N0) (hs : qWk nT nH T D x s) (hD : D < 999) : qCk nT nH T 0 (qset s.1 66 (s.1 66 + 1)) := by
  have wn := qw_n hW
  have ed := hs.1.2.2
  have e2 := hs.2.1
  refine ⟨⟨fun t' a0 a1 => ?_, fun h k c0 c1 c2 c3 => ?_, ?_⟩, fun t' a0 a1 a2 => by omega⟩
  · rw [qset_o (by omega), qset_o (by omega), qset_o (by omega), qset_o (by omega), qset_o (by omega), qset_o (by omega)]
    exact hs.1.1 t' a0 a1
  · rw [qset_o (by omega)]
    exact hs.1.2.1 h k c0 c1 c2 c3
  · rw [qset_s]
    omega
theorem qCk_nw (hs : qCk nT nH T nT N) : qNw nT nH T N :=
  ⟨fun t h0 h1 => by have := hs.1.1 t h0 h1; exact ⟨this.1, this.2.1, ⟨this.2.2.1.1, this.2.2.1.2, hs.2 t h0 h1 h1⟩, this.2.2.2⟩, hs.1.2⟩
theorem qday_nw (hW : qWF nT nH T P E U N) (hD : N 66 < 999) : qNw nT nH T (qday T P U nT nH N) := by
  have wn := qw_n hW
  unfold qday
  exact qCk_nw (qfold_inv (I := fun t N => qCk nT nH T t N) (fun i s h0 h1 hs => qcl_ok hW h0 h1 hs) (by omega) (qday0 hW (qws_ok hW) hD))
theorem qcl_day (hW : qWF nT nH T P E U N0) (t0 : 0 ≤ t) (t1 : t < nT) : qcl T t N 66 = N 66 := by
  have wn := qw_n hW
  unfold qcl
  split
  · split
    · rw [qset_o (by omega), qset_o (by omega), qset_o (by omega)]
    · split
      · rw [qset_o (by omega)]
      · rfl
  · rfl
theorem qday_day (hW : qWF nT nH T P E U N) : qday T P U nT nH N 66 = N 66 + 1 := by
  have wn := qw_n hW
  unfold qday
  refine qfold_inv (I := fun (_ : Int) (N' : Int → Int) => N' 66 = N 66 + 1) ?_ (by omega) ?_
  · intro i s h0 h1 hs
    rw [qcl_day hW h0 h1]
    exact hs
  · rw [qset_s, (qws_ok hW).2.1]
end DAY
