/-! B: text, the model: a will -/
/-- a will kept by the model -/
def qWkm (m : Nat → Int → Int) (σ : qSt) : Prop := (∀ k, 0 ≤ k → k < 24 → m 125 k = σ 126 k) ∧ (∀ k, 0 ≤ k → k < 96 → m 127 k = σ 128 k) ∧ (∀ k, 0 ≤ k → k < 36 → m 129 k = σ 130 k) ∧ (∀ k, 0 ≤ k → k < 5 → m 131 k = σ 132 k) ∧ (m 120 26 = σ 0 9 ∧ m 120 27 = σ 0 10 ∧ m 120 28 = σ 0 11) ∧ (∀ t, 0 ≤ t → t < σ 0 9 → qW0 (m 125) t (m 135)) ∧ (∀ h k, 0 ≤ h → h < σ 0 10 → 0 ≤ k → k < 5 → m 135 (36 + 5 * h + k) = σ 130 (6 * h + k)) ∧ m 135 66 = 0 ∧ (m 120 36 = -1 ∧ m 120 57 = 0 ∧ m 120 38 = 0 ∧ m 120 59 = 0 ∧ m 120 6 = 0)
def qFtw (a : Nat) (k : Int) : Prop := qFfm a k ∨ a = 125 ∨ a = 127 ∨ a = 129 ∨ a = 131 ∨ a = 135 ∨ (a = 120 ∧ (k = 6 ∨ k = 26 ∨ k = 27 ∨ k = 28 ∨ k = 36 ∨ k = 57 ∨ k = 38 ∨ k = 59))
section MT2
variable {xs : List Int32} {d : Nat} {Q : bPo} {b b0 b1 b2 : Bool} {m : Nat → Int → Int} {nT nH : Int} {T P E U N : Int → Int} {t s h k : Int}
variable {B : Int → Int} {L : Int}
theorem d_text0 (ht : qTp L B) (hc : qTm m L B) (σ0 : qSt) (r0 : qRl σ0) (mo : qMo0 m σ0) (hF : ∀ b2' m', qFr qFfm m m' → ¬ (qWL B L 240 σ0 0).1 = -1 → Q (-1) ((b0, b1, b2'), m')) (hW : (qWL B L 240 σ0 0).1 = -1 → ∀ m', qFr qFtw m m' → qWkm m' (qWL B L 240 σ0 0).2 → Q ((qWL B L 240 σ0 0).2 0 9) ((b0, b1, false), m')) : bC xs 251 207 [vr 120, vi 0] ((b0, b1, b2), m) Q := by
  refine qC rfl fun d hd => r_X12_text_0 hd ?_
  have hb := ht.1
  have f0 : qFr qFfm m (up m 120 0 0) := qFr_up qFr.refl (by unfold qFfm; omega)
  have hc0 : qTm (up m 120 0 0) L B := ⟨by rw [qup_o (by omega)]; exact hc.1, fun k a b => by rw [qup_n (by omega)]; exact hc.2 k a b⟩
  have mo0 : qMo0 (up m 120 0 0) σ0 := by
    unfold qMo0 at mo ⊢
    rw [qup_n (by omega), qup_n (by omega), qup_n (by omega), qup_n (by omega)]
    exact mo
  have hin := qWL_in ht 240 σ0 0 (by omega) (by omega)
  refine ⟨by omega, by omega, fun h => by omega, fun _ => ⟨by omega, fun h => by omega, fun _ => ⟨by omega, fun _ => ⟨by omega, fun _ => d_faultW ht hc0 σ0 r0 mo0 ?_, fun h => by omega⟩, fun h => by omega⟩⟩⟩
  intro m1 f1 hy
  have f01 := f0.trans f1
  refine ⟨⟨rfl, rfl⟩, by omega, fun ok => ⟨by omega, fun _ => ⟨by omega, fun _ => ?_, fun h => by omega⟩, fun h => by omega⟩, fun nok => hF _ m1 f01 nok⟩
  have hms := hy ok
  have hrl := qWL_rl ht 240 σ0 0 (by omega) (by omega) r0 ok
  have hW := hW ok
  generalize (qWL B L 240 σ0 0).2 = σ at *
  obtain ⟨hA, hT, hH, hU, hZ1, hZ2⟩ := hrl
  unfold qAq at hA
  obtain ⟨s1, s2, s3, s4, s5, s6, s7⟩ := hms
  dsimp only
  refine d_textW231 hd (fun m2 f2 c2 => d_textW257 hd (fun m3 f3 c3 => d_textW283 hd (fun m4 f4 c4 => d_textW309 hd (fun m5 f5 c5 => d_textW334 hd (fun m6 f6 c6 => ?_)))))
  have g26 : m6 120 26 = σ 0 9 := by
    rw [f6 120 26 (by omega), f5 120 26 (by omega), f4 120 26 (by omega), f3 120 26 (by omega), f2 120 26 (by omega)]
    simp (disch := omega) only [qup_s, qup_o]
    rw [s5]; exact hA.2.1.1
  have g27 : m6 120 27 = σ 0 10 := by
    rw [f6 120 27 (by omega), f5 120 27 (by omega), f4 120 27 (by omega), f3 120 27 (by omega), f2 120 27 (by omega)]
    simp (disch := omega) only [qup_s, qup_o]
    rw [s6]; exact hA.2.1.2.1
  have g28 : m6 120 28 = σ 0 11 := by
    rw [f6 120 28 (by omega), f5 120 28 (by omega), f4 120 28 (by omega), f3 120 28 (by omega), f2 120 28 (by omega), qup_s, s7]
    exact hA.2.1.2.2
  have g6 : m6 120 6 = 0 := by
    rw [f6 120 6 (by omega), f5 120 6 (by omega), f4 120 6 (by omega), f3 120 6 (by omega), f2 120 6 (by omega)]
    simp (disch := omega) only [qup_s, qup_o]
  have g125 : ∀ k, 0 ≤ k → k < 24 → m6 125 k = σ 126 k := fun k a b => by
    rw [f6 125 k (by omega), f5 125 k (by omega), f4 125 k (by omega), f3 125 k (by omega), c2 k a b]
    simp (disch := omega) only [qup_n]
    rw [s1]
  have g127 : ∀ k, 0 ≤ k → k < 96 → m6 127 k = σ 128 k := fun k a b => by
    rw [f6 127 k (by omega), f5 127 k (by omega), f4 127 k (by omega), c3 k a b, f2 128 k (by omega)]
    simp (disch := omega) only [qup_n]
    rw [s2]
  have g129 : ∀ k, 0 ≤ k → k < 36 → m6 129 k = σ 130 k := fun k a b => by
    rw [f6 129 k (by omega), f5 129 k (by omega), c4 k a b, f3 130 k (by omega), f2 130 k (by omega)]
    simp (disch := omega) only [qup_n]
    rw [s3]
  have g131 : ∀ k, 0 ≤ k → k < 5 → m6 131 k = σ 132 k := fun k a b => by
    rw [f6 131 k (by omega), c5 k a b, f4 132 k (by omega), f3 132 k (by omega), f2 132 k (by omega)]
    simp (disch := omega) only [qup_n]
    rw [s4]
  have fm : qFr qFtw m m6 := by
    refine ((((((qFr_up (qFr_up (qFr_up (qFr_up (f01.mono (fun a k h => Or.inl h)) ?_) ?_) ?_) ?_).trans (f2.mono ?_)).trans (f3.mono ?_)).trans (f4.mono ?_)).trans (f5.mono ?_)).trans (f6.mono ?_))
    all_goals first | (intro a k h; exact Or.inr (by omega)) | exact Or.inr (by omega)
  refine d_textW355 hd g26 (by omega) (fun t a b => ?_) c6 (fun m7 f7 c7 => d_textW470 hd (n := σ 0 10) ?_ (by omega) (fun m8 f8 c8 => ?_))
  · have h1 := hT t a b
    have h2 := h1.1
    have h3 := h1.2.1
    unfold qT0 at h2
    unfold qF1 at h3
    rw [g125 _ (by omega) (by omega), g125 _ (by omega) (by omega)]
    omega
  · rw [f7 120 27 (by omega)]; exact g27
  · have e26 : m7 120 26 = σ 0 9 := by rw [f7 120 26 (by omega)]; exact g26
    rw [e26]
    have e125 : m8 125 = m6 125 := by rw [qFr_at f8 125 (fun k => by omega), qFr_at f7 125 (fun k => by omega)]
    refine hW _ ?_ ⟨?_, ?_, ?_, ?_, ⟨?_, ?_, ?_⟩, ?_, ?_, ?_, ?_, ?_, ?_, ?_, ?_⟩
    · refine qFr_up (qFr_up (qFr_up (qFr_up ((fm.trans (f7.mono ?_)).trans (f8.mono ?_)) ?_) ?_) ?_) ?_
      all_goals first | (intro a k h; exact Or.inr (by omega)) | exact Or.inr (by omega)
    · intro k a b; simp (disch := omega) only [qup_n]; rw [e125]; exact g125 k a b
    · intro k a b; simp (disch := omega) only [qup_n]; rw [f8 127 k (by omega), f7 127 k (by omega)]; exact g127 k a b
    · intro k a b; simp (disch := omega) only [qup_n]; rw [f8 129 k (by omega), f7 129 k (by omega)]; exact g129 k a b
    · intro k a b; simp (disch := omega) only [qup_n]; rw [f8 131 k (by omega), f7 131 k (by omega)]; exact g131 k a b
    · simp (disch := omega) only [qup_o]; rw [f8 120 26 (by omega)]; exact e26
    · simp (disch := omega) only [qup_o]; rw [f8 120 27 (by omega), f7 120 27 (by omega)]; exact g27
    · simp (disch := omega) only [qup_o]; rw [f8 120 28 (by omega), f7 120 28 (by omega)]; exact g28
    · intro t a b
      have := c7 t a b
      simp (disch := omega) only [qup_n]
      rw [e125]
      unfold qW0 at this ⊢
      rw [f8 135 (6 * t) (by omega), f8 135 (6 * t + 1) (by omega), f8 135 (6 * t + 2) (by omega), f8 135 (6 * t + 3) (by omega), f8 135 (6 * t + 4) (by omega), f8 135 (6 * t + 5) (by omega)]
      exact this
    · intro h k a b c e
      simp (disch := omega) only [qup_n]
      rw [c8 h k a b c e, f7 129 _ (by omega)]
      exact g129 _ (by omega) (by omega)
    · simp (disch := omega) only [qup_n]
      rw [f8 135 66 (by omega), f7 135 66 (by omega)]
      exact c6 66 (by omega) (by omega)
    · simp (disch := omega) only [qup_s, qup_o]
    · simp (disch := omega) only [qup_s, qup_o]
    · simp (disch := omega) only [qup_s, qup_o]
    · simp (disch := omega) only [qup_s, qup_o]
    · simp (disch := omega) only [qup_o]
      rw [f8 120 6 (by omega), f7 120 6 (by omega)]; exact g6
end MT2
