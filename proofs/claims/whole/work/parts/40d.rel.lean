/-! B: a will, read: the rows of both sides agree -/
def qT0 (σ : qSt) (t : Int) : Prop := (σ 1 t = σ 126 (4 * t) ∧ σ 2 t = σ 126 (4 * t + 1) ∧ σ 9 (0 + t) = σ 126 (4 * t + 2)) ∧ (0 ≤ σ 126 (4 * t) ∧ σ 126 (4 * t) ≤ 99) ∧ (1 ≤ σ 126 (4 * t + 1) ∧ σ 126 (4 * t + 1) ≤ 99) ∧ (0 ≤ σ 126 (4 * t + 2) ∧ σ 126 (4 * t + 2) ≤ 8) ∧ σ 9 (6 + t) = 0 ∧ σ 9 (12 + t) = -1 ∧ σ 9 (30 + t) = -1
def qPq (σ : qSt) (t n : Int) : Prop := ∀ s, 0 ≤ s → s < n → (σ 4 (t * 8 + s) = σ 128 (2 * (8 * t + s)) ∧ σ 5 (t * 8 + s) = σ 128 (2 * (8 * t + s) + 1)) ∧ (0 ≤ σ 128 (2 * (8 * t + s)) ∧ σ 128 (2 * (8 * t + s)) ≤ 4) ∧ (1 ≤ σ 128 (2 * (8 * t + s) + 1) ∧ σ 128 (2 * (8 * t + s) + 1) ≤ 9)
def qF1 (σ : qSt) (t : Int) : Prop := σ 3 t = σ 126 (4 * t + 3) ∧ (1 ≤ σ 126 (4 * t + 3) ∧ σ 126 (4 * t + 3) ≤ 8) ∧ ((σ 126 (4 * t + 2) = σ 126 (4 * t + 3) ∧ σ 9 (18 + t) = 1 ∧ σ 9 (24 + t) = 0) ∨ (¬ σ 126 (4 * t + 2) = σ 126 (4 * t + 3) ∧ σ 9 (18 + t) = 0 ∧ σ 9 (24 + t) = -1))
def qTq (σ : qSt) (n : Int) : Prop := ∀ t, 0 ≤ t → t < n → qT0 σ t ∧ qF1 σ t ∧ qPq σ t (σ 126 (4 * t + 3))
def qHk (σ : qSt) (h : Int) : Prop := ∀ k, 0 ≤ k → k < 5 → σ 9 (36 + h * 5 + k) = σ 130 (6 * h + k) ∧ (0 ≤ σ 130 (6 * h + k) ∧ σ 130 (6 * h + k) ≤ 9)
def qHq (σ : qSt) (n : Int) : Prop := ∀ h, 0 ≤ h → h < n → (σ 6 h = σ 130 (6 * h + 5) ∧ 0 ≤ σ 130 (6 * h + 5) ∧ σ 130 (6 * h + 5) ≤ 9) ∧ qHk σ h
def qUq (σ : qSt) : Prop := ∀ k, 0 ≤ k → k < 5 → σ 7 k = σ 132 k ∧ 0 ≤ σ 132 k ∧ σ 132 k ≤ σ 0 11
def qZ1 (σ : qSt) (n : Int) : Prop := ∀ t, n ≤ t → 0 ≤ t → t < 6 → σ 9 (0 + t) = 0 ∧ σ 9 (6 + t) = 0 ∧ σ 9 (18 + t) = 0
def qZ2 (σ : qSt) (n : Int) : Prop := ∀ h k, n ≤ h → 0 ≤ h → h < 6 → 0 ≤ k → k < 5 → σ 9 (36 + h * 5 + k) = 0
def qAq (σ : qSt) : Prop := ((0 ≤ σ 0 9 ∧ σ 0 9 ≤ 6) ∧ (0 ≤ σ 0 10 ∧ σ 0 10 ≤ 6) ∧ (0 ≤ σ 0 11 ∧ σ 0 11 ≤ 4)) ∧ (σ 120 29 = σ 0 9 ∧ σ 120 30 = σ 0 10 ∧ σ 120 31 = σ 0 11) ∧ σ 9 66 = 0
def qRl (σ : qSt) : Prop := qAq σ ∧ qTq σ (σ 0 9) ∧ qHq σ (σ 0 10) ∧ qUq σ ∧ qZ1 σ (σ 0 9) ∧ qZ2 σ (σ 0 10)
/-- while a thing is read -/
def qRp (σ : qSt) (t n : Int) : Prop := qAq σ ∧ (σ 0 9 = t + 1 ∧ 0 ≤ t) ∧ qTq σ t ∧ (qT0 σ t ∧ (σ 3 t = n ∧ 0 ≤ n ∧ n ≤ 8) ∧ qPq σ t n ∧ σ 9 (18 + t) = 0 ∧ σ 9 (24 + t) = -1) ∧ qHq σ (σ 0 10) ∧ qUq σ ∧ qZ1 σ (t + 1) ∧ qZ2 σ (σ 0 10)
section REL
variable {σ σ' : qSt} {t n h k v : Int}
/-! parts that a change leaves alone -/
theorem qT0_fr (h1 : σ' 1 t = σ 1 t) (h2 : σ' 2 t = σ 2 t) (h3 : σ' 9 (0 + t) = σ 9 (0 + t)) (h4 : σ' 9 (6 + t) = σ 9 (6 + t)) (h5 : σ' 9 (12 + t) = σ 9 (12 + t)) (h6 : σ' 9 (30 + t) = σ 9 (30 + t)) (h7 : ∀ i, 0 ≤ i → i < 3 → σ' 126 (4 * t + i) = σ 126 (4 * t + i)) (h : qT0 σ t) : qT0 σ' t := by
  unfold qT0 at *
  have a0 := h7 0 (by omega) (by omega)
  rw [Int.add_zero] at a0
  rw [h1, h2, h3, h4, h5, h6, a0, h7 1 (by omega) (by omega), h7 2 (by omega) (by omega)]
  exact h
theorem qF1_fr (h1 : σ' 3 t = σ 3 t) (h3 : σ' 9 (18 + t) = σ 9 (18 + t)) (h4 : σ' 9 (24 + t) = σ 9 (24 + t)) (h7 : ∀ i, 0 ≤ i → i < 4 → σ' 126 (4 * t + i) = σ 126 (4 * t + i)) (h : qF1 σ t) : qF1 σ' t := by
  unfold qF1 at *
  rw [h1, h3, h4, h7 2 (by omega) (by omega), h7 3 (by omega) (by omega)]
  exact h
theorem qPq_fr (h1 : ∀ s, 0 ≤ s → s < n → σ' 4 (t * 8 + s) = σ 4 (t * 8 + s) ∧ σ' 5 (t * 8 + s) = σ 5 (t * 8 + s) ∧ σ' 128 (2 * (8 * t + s)) = σ 128 (2 * (8 * t + s)) ∧ σ' 128 (2 * (8 * t + s) + 1) = σ 128 (2 * (8 * t + s) + 1)) (h : qPq σ t n) : qPq σ' t n := by
  intro s s0 s1
  have e := h1 s s0 s1
  rw [e.1, e.2.1, e.2.2.1, e.2.2.2]
  exact h s s0 s1
/-- rows of things below n are left alone -/
theorem qTq_fr (h6 : n ≤ 6) (h1 : ∀ t, 0 ≤ t → t < n → σ' 1 t = σ 1 t ∧ σ' 2 t = σ 2 t ∧ σ' 3 t = σ 3 t) (h2 : ∀ t c, 0 ≤ t → t < n → (c = 0 ∨ c = 6 ∨ c = 12 ∨ c = 18 ∨ c = 24 ∨ c = 30) → σ' 9 (c + t) = σ 9 (c + t)) (h3 : ∀ t i, 0 ≤ t → t < n → 0 ≤ i → i < 4 → σ' 126 (4 * t + i) = σ 126 (4 * t + i)) (h4 : ∀ t s, 0 ≤ t → t < n → 0 ≤ s → s < 8 → σ' 4 (t * 8 + s) = σ 4 (t * 8 + s) ∧ σ' 5 (t * 8 + s) = σ 5 (t * 8 + s) ∧ σ' 128 (2 * (8 * t + s)) = σ 128 (2 * (8 * t + s)) ∧ σ' 128 (2 * (8 * t + s) + 1) = σ 128 (2 * (8 * t + s) + 1)) (h : qTq σ n) : qTq σ' n := by
  intro t t0 t1
  obtain ⟨e0, e1, e2⟩ := h t t0 t1
  refine ⟨qT0_fr (h1 t t0 t1).1 (h1 t t0 t1).2.1 (h2 t 0 t0 t1 (by omega)) (h2 t 6 t0 t1 (by omega)) (h2 t 12 t0 t1 (by omega)) (h2 t 30 t0 t1 (by omega)) (fun i i0 i1 => h3 t i t0 t1 i0 (by omega)) e0, qF1_fr (h1 t t0 t1).2.2 (h2 t 18 t0 t1 (by omega)) (h2 t 24 t0 t1 (by omega)) (fun i i0 i1 => h3 t i t0 t1 i0 i1) e1, ?_⟩
  rw [h3 t 3 t0 t1 (by omega) (by omega)]
  have e3 := e1.2.1
  exact qPq_fr (fun s s0 s1 => h4 t s t0 t1 s0 (by omega)) e2
theorem qHq_fr (h6 : n ≤ 6) (h1 : ∀ h, 0 ≤ h → h < n → σ' 6 h = σ 6 h) (h2 : ∀ h k, 0 ≤ h → h < n → 0 ≤ k → k < 5 → σ' 9 (36 + h * 5 + k) = σ 9 (36 + h * 5 + k)) (h3 : ∀ h k, 0 ≤ h → h < n → 0 ≤ k → k < 6 → σ' 130 (6 * h + k) = σ 130 (6 * h + k)) (hq : qHq σ n) : qHq σ' n := by
  intro h h0 h1'
  obtain ⟨e0, e1⟩ := hq h h0 h1'
  refine ⟨?_, fun k k0 k1 => ?_⟩
  · rw [h1 h h0 h1', h3 h 5 h0 h1' (by omega) (by omega)]
    exact e0
  · rw [h2 h k h0 h1' k0 k1, h3 h k h0 h1' k0 (by omega)]
    exact e1 k k0 k1
theorem qUq_fr (h1 : σ' 7 = σ 7) (h2 : σ' 132 = σ 132) (h3 : σ' 0 11 = σ 0 11) (hq : qUq σ) : qUq σ' := by
  unfold qUq
  rw [h1, h2, h3]
  exact hq
theorem qZ1_fr (h1 : ∀ t c, n ≤ t → 0 ≤ t → t < 6 → (c = 0 ∨ c = 6 ∨ c = 18) → σ' 9 (c + t) = σ 9 (c + t)) (hq : qZ1 σ n) : qZ1 σ' n := by
  intro t a b c
  rw [h1 t 0 a b c (by omega), h1 t 6 a b c (by omega), h1 t 18 a b c (by omega)]
  exact hq t a b c
theorem qZ2_fr (h1 : ∀ h k, n ≤ h → 0 ≤ h → h < 6 → 0 ≤ k → k < 5 → σ' 9 (36 + h * 5 + k) = σ 9 (36 + h * 5 + k)) (hq : qZ2 σ n) : qZ2 σ' n := by
  intro h k a b c d e
  rw [h1 h k a b c d e]
  exact hq h k a b c d e
/-! a thing is added -/
theorem qadt_rp (h : qRl σ) (h6 : σ 0 9 < 6) : qRp (qadt σ) (σ 0 9) 0 := by
  obtain ⟨⟨hA1, hA2, hA3⟩, hT, hH, hU, hZ1, hZ2⟩ := h
  obtain ⟨⟨n0, n1⟩, ⟨m0, m1⟩, g0, g1⟩ := hA1
  have e09 : qadt σ 0 9 = σ 0 9 + 1 := by unfold qadt; simp (disch := omega) only [qup_n, qup_s]
  have e010 : qadt σ 0 10 = σ 0 10 := by unfold qadt; simp (disch := omega) only [qup_n, qup_o]
  have e011 : qadt σ 0 11 = σ 0 11 := by unfold qadt; simp (disch := omega) only [qup_n, qup_o]
  have z := hZ1 (σ 0 9) (by omega) n0 h6
  refine ⟨⟨⟨by omega, by omega, by omega⟩, ⟨?_, ?_, ?_⟩, ?_⟩, ⟨e09, n0⟩, ?_, ⟨?_, ⟨?_, by omega, by omega⟩, fun s s0 s1 => by omega, ?_, ?_⟩, ?_, ?_, ?_, ?_⟩
  · rw [e09]; unfold qadt; simp (disch := omega) only [qup_n, qup_s]
  · rw [e010, ← hA2.2.1]; unfold qadt; simp (disch := omega) only [qup_n, qup_o]
  · rw [e011, ← hA2.2.2]; unfold qadt; simp (disch := omega) only [qup_n, qup_o]
  · rw [← hA3]; unfold qadt; simp (disch := omega) only [qup_n, qup_o]
  · refine qTq_fr (by omega) (fun t a b => ?_) (fun t c a b e => ?_) (fun t i a b e f => ?_) (fun t s a b e f => ?_) hT
    · unfold qadt; simp (disch := omega) only [qup_n, qup_o, and_self]
    · unfold qadt; simp (disch := omega) only [qup_n, qup_o]
    · unfold qadt; simp (disch := omega) only [qup_n, qup_o]
    · unfold qadt; simp (disch := omega) only [qup_n, qup_o, and_self]
  · unfold qT0 qadt
    simp (disch := omega) only [qup_n, qup_o, qup_s]
    refine ⟨⟨?_, ?_, ?_⟩, ?_, ?_, ?_, ?_, ?_, ?_⟩ <;> first | trivial | omega
  · unfold qadt; simp (disch := omega) only [qup_n, qup_s]
  · unfold qadt; simp (disch := omega) only [qup_n, qup_o]; exact z.2.2
  · unfold qadt; simp (disch := omega) only [qup_n, qup_o, qup_s]
  · rw [e010]
    refine qHq_fr (by omega) (fun h a b => ?_) (fun h k a b c d => ?_) (fun h k a b c d => ?_) hH
    · unfold qadt; simp (disch := omega) only [qup_n]
    · unfold qadt; simp (disch := omega) only [qup_n, qup_o]
    · unfold qadt; simp (disch := omega) only [qup_n]
  · refine qUq_fr ?_ ?_ e011 hU
    · unfold qadt; simp (disch := omega) only [qup_n]
    · unfold qadt; simp (disch := omega) only [qup_n]
  · have hZ : qZ1 σ (σ 0 9 + 1) := fun t a b c => hZ1 t (by omega) b c
    refine qZ1_fr (fun t c a b d e => ?_) hZ
    unfold qadt; simp (disch := omega) only [qup_n, qup_o]
  · rw [e010]
    refine qZ2_fr (fun h k a b c d e => ?_) hZ2
    unfold qadt; simp (disch := omega) only [qup_n, qup_o]
/-! an item of a thing -/
theorem qput_rp {it : Int} (hi : it = 0 ∨ it = 1 ∨ it = 2) (hv : qlo it ≤ v ∧ v ≤ qhi it) (h : qRp σ t 0) : qRp (qput t it v σ) t 0 := by
  obtain ⟨⟨hA1, hA2, hA3⟩, ⟨e09, t0⟩, hT, ⟨h0, h3, hP, h18, h24⟩, hH, hU, hZ1, hZ2⟩ := h
  obtain ⟨⟨n0, n1⟩, ⟨m0, m1⟩, g0, g1⟩ := hA1
  have key : ∀ (a : Nat) (k : Int), (it = 0 ∧ a = 1 ∧ k = t) ∨ (it = 1 ∧ a = 2 ∧ k = t) ∨ (it = 2 ∧ a = 9 ∧ k = 0 + t) → qRp (up (up σ a k v) 126 (4 * t + it) v) t 0 := by
    intro a k hak
    have f0 : ∀ j, (up (up σ a k v) 126 (4 * t + it) v) 0 j = σ 0 j := fun j => by simp (disch := omega) only [qup_n]
    have f120 : ∀ j, (up (up σ a k v) 126 (4 * t + it) v) 120 j = σ 120 j := fun j => by simp (disch := omega) only [qup_n]
    have f9 : ∀ j, ¬ j = 0 + t → (up (up σ a k v) 126 (4 * t + it) v) 9 j = σ 9 j := fun j hj => by
      rw [qup_n (by omega)]
      by_cases ha : a = 9
      · subst ha
        rw [qup_o (by omega)]
      · rw [qup_n (by omega)]
    refine ⟨⟨by rw [f0, f0, f0]; omega, by rw [f0, f0, f0, f120, f120, f120]; exact hA2, by rw [f9 _ (by omega)]; exact hA3⟩, ⟨by rw [f0]; exact e09, t0⟩, ?_, ⟨?_, ⟨?_, by omega, by omega⟩, fun s s0 s1 => by omega, ?_, ?_⟩, ?_, ?_, ?_, ?_⟩
    · refine qTq_fr (by omega) (fun t a b => ?_) (fun t c a b e => f9 _ (by omega)) (fun t i a b e f => by rw [qup_o (by omega), qup_n (by omega)]) (fun t s a b e f => ?_) hT
      · rcases hak with ⟨_, rfl, hk⟩ | ⟨_, rfl, hk⟩ | ⟨_, rfl, hk⟩ <;> (rw [hk]; simp (disch := omega) only [qup_n, qup_o, and_self])
      · simp (disch := omega) only [qup_n, and_self]
    · unfold qT0 at *
      rcases hak with ⟨rfl, rfl, hk⟩ | ⟨rfl, rfl, hk⟩ | ⟨rfl, rfl, hk⟩
      · have e : (4 * t + 0 : Int) = 4 * t := by omega
        rw [e, hk]
        simp (disch := omega) only [qup_n, qup_o, qup_s]
        have : qlo 0 = 0 ∧ qhi 0 = 99 := ⟨rfl, rfl⟩
        refine ⟨⟨?_, ?_, ?_⟩, ?_, ?_, ?_, ?_, ?_, ?_⟩ <;> first | trivial | omega
      · rw [hk]
        simp (disch := omega) only [qup_n, qup_o, qup_s]
        have : qlo 1 = 1 ∧ qhi 1 = 99 := ⟨rfl, rfl⟩
        refine ⟨⟨?_, ?_, ?_⟩, ?_, ?_, ?_, ?_, ?_, ?_⟩ <;> first | trivial | omega
      · rw [hk]
        simp (disch := omega) only [qup_n, qup_o, qup_s]
        have : qlo 2 = 0 ∧ qhi 2 = 8 := ⟨rfl, rfl⟩
        refine ⟨⟨?_, ?_, ?_⟩, ?_, ?_, ?_, ?_, ?_, ?_⟩ <;> first | trivial | omega
    · rw [qup_n (by omega), qup_n (by omega)]; exact h3.1
    · rw [f9 _ (by omega)]; exact h18
    · rw [f9 _ (by omega)]; exact h24
    · rw [f0]
      exact qHq_fr (by omega) (fun h a b => by simp (disch := omega) only [qup_n]) (fun h k a b c d => f9 _ (by omega)) (fun h k a b c d => by simp (disch := omega) only [qup_n]) hH
    · exact qUq_fr (by simp (disch := omega) only [qup_n]) (by simp (disch := omega) only [qup_n]) (f0 11) hU
    · exact qZ1_fr (fun t c a b d e => f9 _ (by omega)) hZ1
    · rw [f0]
      exact qZ2_fr (fun h k a b c d e => f9 _ (by omega)) hZ2
  unfold qput
  rcases hi with e | e | e
  · rw [if_pos e]; exact key 1 t (by omega)
  · rw [if_neg (by omega), if_pos e]; exact key 2 t (by omega)
  · rw [if_neg (by omega), if_neg (by omega)]; exact key 9 (0 + t) (by omega)
/-! a step -/
theorem qstp_rp {tr nd : Int} (hn : n < 8) (htr : 0 ≤ tr ∧ tr ≤ 4) (hnd : 1 ≤ nd ∧ nd ≤ 9) (h : qRp σ t n) : qRp (qstp t n tr nd σ) t (n + 1) := by
  obtain ⟨⟨hA1, hA2, hA3⟩, ⟨e09, t0⟩, hT, ⟨h0, h3, hP, h18, h24⟩, hH, hU, hZ1, hZ2⟩ := h
  obtain ⟨⟨n0, n1⟩, ⟨m0, m1⟩, g0, g1⟩ := hA1
  unfold qstp
  rw [h3.1]
  refine ⟨⟨by simp (disch := omega) only [qup_n]; omega, by simp (disch := omega) only [qup_n]; exact hA2, by simp (disch := omega) only [qup_n]; exact hA3⟩, ⟨by simp (disch := omega) only [qup_n]; exact e09, t0⟩, ?_, ⟨?_, ⟨by simp (disch := omega) only [qup_n, qup_s], by omega, by omega⟩, ?_, by simp (disch := omega) only [qup_n]; exact h18, by simp (disch := omega) only [qup_n]; exact h24⟩, ?_, ?_, ?_, ?_⟩
  · refine qTq_fr (by omega) (fun t' a b => by simp (disch := omega) only [qup_n, qup_o, and_self]) (fun t' c a b e => by simp (disch := omega) only [qup_n]) (fun t' i a b e f => by simp (disch := omega) only [qup_n]) (fun t' s a b e f => ?_) hT
    simp (disch := omega) only [qup_n, qup_o, and_self]
  · exact qT0_fr (by simp (disch := omega) only [qup_n]) (by simp (disch := omega) only [qup_n]) (by simp (disch := omega) only [qup_n]) (by simp (disch := omega) only [qup_n]) (by simp (disch := omega) only [qup_n]) (by simp (disch := omega) only [qup_n]) (fun i a b => by simp (disch := omega) only [qup_n]) h0
  · intro s s0 s1
    by_cases hs : s = n
    · subst hs
      simp (disch := omega) only [qup_n, qup_o, qup_s]
      refine ⟨⟨?_, ?_⟩, ?_, ?_⟩ <;> first | trivial | omega
    · simp (disch := omega) only [qup_n, qup_o]
      exact hP s s0 (by omega)
  · simp (disch := omega) only [qup_n]
    exact qHq_fr (by omega) (fun h a b => by simp (disch := omega) only [qup_n]) (fun h k a b c d => by simp (disch := omega) only [qup_n]) (fun h k a b c d => by simp (disch := omega) only [qup_n]) hH
  · exact qUq_fr (by simp (disch := omega) only [qup_n]) (by simp (disch := omega) only [qup_n]) (by simp (disch := omega) only [qup_n]) hU
  · exact qZ1_fr (fun t c a b d e => by simp (disch := omega) only [qup_n]) hZ1
  · simp (disch := omega) only [qup_n]
    exact qZ2_fr (fun h k a b c d e => by simp (disch := omega) only [qup_n]) hZ2
/-! a thing is done -/
theorem qstl_rl (hn : 0 < n) (h : qRp σ t n) : qRl (qstl t n σ) := by
  obtain ⟨⟨hA1, hA2, hA3⟩, ⟨e09, t0⟩, hT, ⟨h0, h3, hP, h18, h24⟩, hH, hU, hZ1, hZ2⟩ := h
  obtain ⟨⟨n0, n1⟩, ⟨m0, m1⟩, g0, g1⟩ := hA1
  have h00 := h0
  unfold qT0 at h0
  have key : ∀ σ1 : qSt, (∀ j : Nat, ¬ j = 9 → σ1 j = σ j) → (∀ j, ¬ j = 18 + t → ¬ j = 24 + t → σ1 9 j = σ 9 j) → ((σ 126 (4 * t + 2) = n ∧ σ1 9 (18 + t) = 1 ∧ σ1 9 (24 + t) = 0) ∨ (¬ σ 126 (4 * t + 2) = n ∧ σ1 9 (18 + t) = 0 ∧ σ1 9 (24 + t) = -1)) → qRl (up σ1 126 (4 * t + 3) n) := by
    intro σ1 hj h9 hfin
    have f : ∀ j : Nat, ¬ j = 9 → ¬ j = 126 → (up σ1 126 (4 * t + 3) n) j = σ j := fun j a b => by rw [qup_n b]; exact hj j a
    have f9 : ∀ j, ¬ j = 18 + t → ¬ j = 24 + t → (up σ1 126 (4 * t + 3) n) 9 j = σ 9 j := fun j a b => by rw [qup_n (by omega)]; exact h9 j a b
    have f126 : ∀ j, ¬ j = 4 * t + 3 → (up σ1 126 (4 * t + 3) n) 126 j = σ 126 j := fun j a => by rw [qup_o a, hj 126 (by omega)]
    have f126s : (up σ1 126 (4 * t + 3) n) 126 (4 * t + 3) = n := qup_s
    unfold qRl qAq
    rw [f 0 (by omega) (by omega), f 120 (by omega) (by omega), f9 66 (by omega) (by omega), e09]
    refine ⟨⟨by omega, by omega, hA3⟩, ?_, ?_, ?_, ?_, ?_⟩
    · intro t' a b
      by_cases ht : t' = t
      · subst ht
        refine ⟨qT0_fr (by rw [f 1 (by omega) (by omega)]) (by rw [f 2 (by omega) (by omega)]) (f9 _ (by omega) (by omega)) (f9 _ (by omega) (by omega)) (f9 _ (by omega) (by omega)) (f9 _ (by omega) (by omega)) (fun i a b => f126 _ (by omega)) h00, ?_, ?_⟩
        · unfold qF1
          rw [f126s, f126 _ (by omega), f 3 (by omega) (by omega), h3.1]
          refine ⟨rfl, by omega, ?_⟩
          rw [qup_n (show ¬ (9 : Nat) = 126 by omega)]
          exact hfin
        · rw [f126s]
          exact qPq_fr (fun s s0 s1 => by rw [f 4 (by omega) (by omega), f 5 (by omega) (by omega), f 128 (by omega) (by omega)]; exact ⟨rfl, rfl, rfl, rfl⟩) hP
      · have hT' : qTq (up σ1 126 (4 * t + 3) n) t := qTq_fr (by omega) (fun t a b => by rw [f 1 (by omega) (by omega), f 2 (by omega) (by omega), f 3 (by omega) (by omega)]; exact ⟨rfl, rfl, rfl⟩) (fun t c a b e => f9 _ (by omega) (by omega)) (fun t i a b e f => f126 _ (by omega)) (fun t s a b e g => by rw [f 4 (by omega) (by omega), f 5 (by omega) (by omega), f 128 (by omega) (by omega)]; exact ⟨rfl, rfl, rfl, rfl⟩) hT
        exact hT' t' a (by omega)
    · exact qHq_fr (by omega) (fun h a b => by rw [f 6 (by omega) (by omega)]) (fun h k a b c d => f9 _ (by omega) (by omega)) (fun h k a b c d => by rw [f 130 (by omega) (by omega)]) hH
    · exact qUq_fr (f 7 (by omega) (by omega)) (f 132 (by omega) (by omega)) (by rw [f 0 (by omega) (by omega)]) hU
    · exact qZ1_fr (fun t c a b d e => f9 _ (by omega) (by omega)) hZ1
    · exact qZ2_fr (fun h k a b c d e => f9 _ (by omega) (by omega)) hZ2
  unfold qstl
  rw [h3.1]
  by_cases he : σ 9 (0 + t) = n
  · rw [if_pos he]
    refine key _ (fun j hj => by rw [qup_n hj, qup_n hj]) (fun j a b => by rw [qup_o b, qup_o a]) (Or.inl ⟨by omega, ?_, ?_⟩)
    · rw [qup_o (by omega), qup_s]
    · rw [qup_s]
  · rw [if_neg he]
    exact key σ (fun j _ => rfl) (fun j _ _ => rfl) (Or.inr ⟨by omega, h18, h24⟩)
end REL
