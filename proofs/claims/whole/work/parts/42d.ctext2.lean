/-! B: text, the class: wills, laws -/
theorem qWL_rl {B : Int → Int} {L : Int} (ht : qTp L B) : ∀ (n : Nat) (σ : qSt) (p : Int), 0 ≤ p → p ≤ L → qRl σ → (qWL B L n σ p).1 = -1 → qRl (qWL B L n σ p).2 := by
  intro n
  induction n with
  | zero => intro σ p p0 p1 hr h; exact hr
  | succ n ih =>
    intro σ p p0 p1 hr h
    have hbd := qCL_bd (σ := σ) ht p0 p1
    rw [qWL] at h ⊢
    by_cases ok : (qCL B L σ p).1 = -1
    · have hr2 := qCL_rl ht p0 p1 hr ok
      rw [if_neg (fun h => h ok)] at h ⊢
      have hb2 : p < (qCL B L σ p).2.2 ∧ (qCL B L σ p).2.2 ≤ L := by omega
      have k1 := qsk_bd (B := B) (qCL B L σ p).2.2 hb2.2
      have kc := qpk_c ht (show 0 ≤ (qCL B L σ p).2.2 by omega) hb2.2
      by_cases he : qpk B L (qCL B L σ p).2.2 = -1
      · rw [if_pos he]; exact hr2
      · rw [if_neg he] at h ⊢
        by_cases h59 : qpk B L (qCL B L σ p).2.2 = 59
        · rw [if_pos h59] at h ⊢
          exact ih _ _ (by omega) (by omega) hr2 h
        · rw [if_neg h59]; exact hr2
    · rw [if_pos ok] at h
      exact absurd h ok
theorem qWL_in {B : Int → Int} {L : Int} (ht : qTp L B) : ∀ (n : Nat) (σ : qSt) (p : Int), 0 ≤ p → p ≤ L → -1 ≤ (qWL B L n σ p).1 ∧ (qWL B L n σ p).1 ≤ 240 := by
  intro n
  have hb := ht.1
  have hw : ∀ σ : qSt, -1 ≤ qwf L σ ∧ qwf L σ ≤ 240 := by
    intro σ
    unfold qwf
    repeat' split
    all_goals omega
  induction n with
  | zero => intro σ p p0 p1; exact hw σ
  | succ n ih =>
    intro σ p p0 p1
    have hbd := qCL_bd (σ := σ) ht p0 p1
    rw [qWL]
    by_cases ok : (qCL B L σ p).1 = -1
    · rw [if_neg (fun h => h ok)]
      have hb2 : p < (qCL B L σ p).2.2 ∧ (qCL B L σ p).2.2 ≤ L := by omega
      have k1 := qsk_bd (B := B) (qCL B L σ p).2.2 hb2.2
      have kc := qpk_c ht (show 0 ≤ (qCL B L σ p).2.2 by omega) hb2.2
      by_cases he : qpk B L (qCL B L σ p).2.2 = -1
      · rw [if_pos he]; exact hw _
      · rw [if_neg he]
        by_cases h59 : qpk B L (qCL B L σ p).2.2 = 59
        · rw [if_pos h59]
          exact ih _ _ (by omega) (by omega)
        · rw [if_neg h59]; dsimp only; omega
    · rw [if_pos ok]
      dsimp only
      omega
section CT2
variable {xs : List Int32} {d : Nat} {Q : bPo} {b b0 b1 b2 : Bool} {m : Nat → Int → Int} {nT nH : Int} {T P E U N : Int → Int} {t s h k : Int}
variable {B : Int → Int} {L x : Int}
theorem qLw_in (ht : qTp L B) {f : Nat} (hf : 2440 ≤ f) : ∀ (k : Nat) (p : Int), 480 ≤ p + 2 * k → 0 ≤ p → p ≤ L → -1 ≤ (qLw B L f k p).1 ∧ (qLw B L f k p).1 ≤ 240 := by
  intro k
  have hb := ht.1
  induction k with
  | zero => intro p h; omega
  | succ k ih =>
    intro p h p0 p1
    have hc := qCc_ok ht hf p0 p1
    unfold qCk2 at hc
    rw [qLw]
    by_cases ok : (qCc B L f p).1 = -1
    · rw [if_neg (fun h => h ok)]
      have hr : p + 1 ≤ (qCc B L f p).2.2 ∧ (qCc B L f p).2.2 ≤ L := by omega
      have k1 := qsk_bd (B := B) (qCc B L f p).2.2 hr.2
      have kc := qpk_c ht (show 0 ≤ (qCc B L f p).2.2 by omega) hr.2
      by_cases he : qpk B L (qCc B L f p).2.2 = -1
      · rw [if_pos he]; dsimp only; omega
      · rw [if_neg he]
        by_cases h59 : qpk B L (qCc B L f p).2.2 = 59
        · rw [if_pos h59]; exact ih _ (by omega) (by omega) (by omega)
        · rw [if_neg h59]; dsimp only; omega
    · rw [if_pos ok]; dsimp only; omega
end CT2
