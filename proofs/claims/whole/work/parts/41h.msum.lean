/-! B: the model reckons sums -/
def qLm (a : Nat) (k : Int) : Prop := a = 120 ∧ (k = 10 ∨ k = 11 ∨ k = 12)
def qMp (M : Nat → Int → Int) (b2 : Bool) (g L : Int) (B E : Int → Int) (dp p : Int) : Prop := qXm M b2 g L B ∧ M 120 11 = -1 ∧ M 120 12 = dp ∧ (∀ c, ¬ qlet c = -1 → M 124 c = E (qlet c)) ∧ 0 ≤ p ∧ p ≤ L
def qKm (b0 b1 b2 : Bool) (M : Nat → Int → Int) (r : qLr) (v : Int) (kd : Int → Prop) (Q : bPo) : Prop := (r.1 = -1 → Q v ((b0, b1, b2), up M 120 10 r.2.2)) ∧ (¬ r.1 = -1 → ∀ w m', kd w → qFr qLm M m' → m' 120 11 = r.1 → Q w ((b0, b1, b2), m'))
theorem qAm_let (c : Int) : bAm (oTx 2001) c = if qlet c = -1 then 0 else 1 := by
  simp only [oTx, bAm]
  unfold qlet
  repeat' split
  all_goals first | rfl | omega
theorem qXm_12 {M : Nat → Int → Int} {b2 : Bool} {g L : Int} {B : Int → Int} {k z : Int} (hk : ¬ k = 8 ∧ ¬ k = 9) (h : qXm M b2 g L B) : qXm (up M 120 k z) b2 g L B := by
  have hT := qbT b2
  obtain ⟨h1, h2, h3, h4⟩ := h
  refine ⟨by rw [qup_o (by omega)]; exact h1, by rw [qup_o (by omega)]; exact h2, h3, fun j a b => ?_⟩
  rw [qup_n (by omega)]
  exact h4 j a b
section MSM
variable {xs : List Int32} {d : Nat} {Q : bPo} {b b0 b1 b2 : Bool} {m : Nat → Int → Int} {nT nH : Int} {T P E U N : Int → Int} {t s h k : Int}
variable {M : Nat → Int → Int} {B E : Int → Int} {g L p q c dp : Int}
theorem d_takesC (ht : qTp L B) (hx : qXm M b2 g L B) (h11 : M 120 11 = -1) (hc : inR c) (p0 : 0 ≤ p) (p1 : p ≤ L) (hy : qpk B L p = c → Q 1 ((b0, b1, b2), up M 120 10 (qsk B L p + 1))) (hn : ¬ qpk B L p = c → Q 0 ((b0, b1, b2), up (up M 120 10 (qsk B L p)) 120 11 (qsk B L p))) : bC xs 2 183 [vr 120, vi c] ((b0, b1, b2), up M 120 10 p) Q := by
  refine qC rfl fun d hd => r_X12_takes_0 hd ?_
  have kc := qpk_c ht p0 p1
  have e11 : (up M 120 10 p) 120 11 = -1 := by rw [qup_o (by omega)]; exact h11
  rw [e11]
  refine ⟨by omega, fun h => absurd rfl h, fun _ => d_look ht hx p0 p1 ⟨rfl, by omega, hc, fun h => ?_, fun h => ?_⟩⟩
  · dsimp only
    rw [qup_s, qup_up]
    exact hy h
  · dsimp only
    rw [qup_s, qup_o (by omega), h11]
    exact ⟨by omega, fun h => absurd rfl h, fun _ => hn h⟩
theorem d_takesF {m' : Nat → Int → Int} (h11 : ¬ m' 120 11 = -1) (hr : inR (m' 120 11)) (hQ : Q 0 ((b0, b1, b2), m')) : bC xs 2 183 [vr 120, vi c] ((b0, b1, b2), m') Q := by
  refine qC rfl fun d hd => r_X12_takes_0 hd ?_
  exact ⟨hr, fun _ => ⟨hr, fun _ => hQ, fun h => absurd h h11⟩, fun h => absurd h h11⟩
theorem d_goesIn (h11 : M 120 11 = -1) (h12 : M 120 12 = dp) (d0 : 0 ≤ dp) (d6 : dp ≤ 6) (hy : ¬ 6 ≤ dp → Q 1 ((b0, b1, b2), up (up M 120 12 (dp + 1)) 120 10 (p + 1))) (hn : 6 ≤ dp → Q 0 ((b0, b1, b2), up (up M 120 10 p) 120 11 p)) : bC xs 2 182 [vr 120] ((b0, b1, b2), up M 120 10 p) Q := by
  refine qC rfl fun d hd => r_X12_goesIn_0 hd ?_
  simp (disch := omega) only [qup_s, qup_o, h11, h12]
  rw [qup_e (by omega), qup_up]
  refine ⟨by omega, fun h => hy (by omega), fun h => ⟨by omega, fun h => absurd trivial h, fun _ => hn (by omega)⟩⟩
theorem d_atomN {dJ : Nat} (hJ : 9 ≤ dJ) (ht : qTp L B) (hx : qXm M b2 g L B) (h11 : M 120 11 = -1) : ∀ (k : Nat) (v j q : Int), j + k = 4 → 0 ≤ j → 0 ≤ q → q ≤ L → (¬ qdg B L (qnl B L k v q).2 → Q (qnl B L k v q).1 ((b0, b1, b2), up M 120 10 (qnl B L k v q).2)) → (qdg B L (qnl B L k v q).2 → Q 0 ((b0, b1, b2), up (up M 120 10 (qnl B L k v q).2) 120 11 (qnl B L k v q).2)) → bGo xs dJ aM_X12_atom 90 [vr 120, vn, vi v, vi j] [] ((b0, b1, b2), up M 120 10 q) Q := by
  intro k
  have hb := ht.1
  have hT := qbT b2
  induction k with
  | zero =>
    intro v j q hj j0 q0 q1 hy hf
    simp only [qnl] at hy hf
    refine r_X12_atom_90 hJ (d_isDigit ht hx q0 q1 ?_)
    by_cases hg : qdg B L q
    · rw [if_pos hg]
      refine ⟨rfl, by omega, fun h => by omega, fun _ => ?_⟩
      dsimp only
      rw [qup_o (by omega), h11, qup_s]
      exact ⟨by omega, fun h => absurd rfl h, fun _ => ⟨by omega, fun h => by omega, fun _ => ⟨by omega, fun h => absurd rfl h, fun _ => hf hg⟩⟩⟩
    · rw [if_neg hg]
      exact ⟨rfl, by omega, fun _ => hy hg, fun h => absurd rfl h⟩
  | succ k ih =>
    intro v j q hj j0 q0 q1 hy hf
    rw [qnl] at hy hf
    refine r_X12_atom_90 hJ (d_isDigit ht hx q0 q1 ?_)
    by_cases hg : qdg B L q
    · rw [if_pos hg] at hy hf ⊢
      refine ⟨rfl, by omega, fun h => by omega, fun _ => ?_⟩
      have hg' := hg
      unfold qdg at hg'
      have e := hx.2.2.2 q q0 (by omega)
      have h3 := hx.2.2.1
      simp (disch := omega) only [qup_s, qup_o, qup_n, qup_up, hx.1, h11]
      refine ⟨by omega, fun h => absurd trivial h, fun _ => ⟨by omega, fun _ => ⟨by omega, ?_⟩, fun h => by omega⟩⟩
      rw [e, show qsb (B q) = B q by unfold qsb; split <;> omega, show 10 * v + B q - 48 = v * 10 + B q - 48 by omega]
      exact ih (v * 10 + B q - 48) (j + 1) (q + 1) (by omega) (by omega) (by omega) (by omega) hy hf
    · rw [if_neg hg] at hy hf ⊢
      exact ⟨rfl, by omega, fun _ => hy hg, fun h => absurd rfl h⟩
end MSM
