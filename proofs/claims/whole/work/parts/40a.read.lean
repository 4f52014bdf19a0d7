/-! B: READING: blanks, digits, numbers -/
theorem qup_up {m : Nat → Int → Int} {a : Nat} {k z z' : Int} : up (up m a k z) a k z' = up m a k z' := by
  funext b j
  simp only [up]
  split
  · split <;> rfl
  · rfl
theorem qup_id {m : Nat → Int → Int} {a : Nat} {k : Int} : up m a k (m a k) = m := by
  funext b j
  simp only [up]
  split
  · rename_i h
    subst h
    split
    · rename_i h
      rw [h]
    · rfl
  · rfl
def qskf (B : Int → Int) (L : Int) : Nat → Int → Int
  | 0, p => p
  | n + 1, p => if p < L ∧ B p = 32 then qskf B L n (p + 1) else p
def qsk (B : Int → Int) (L p : Int) : Int := qskf B L (L - p).toNat p
def qpk (B : Int → Int) (L p : Int) : Int := if qsk B L p < L then B (qsk B L p) else -1
abbrev qdg (B : Int → Int) (L q : Int) : Prop := q < L ∧ 48 ≤ B q ∧ B q ≤ 57
section SK
variable {B : Int → Int} {L p q : Int}
theorem qsk_b (h : p < L) (hb : B p = 32) : qsk B L p = qsk B L (p + 1) := by
  unfold qsk
  rw [show (L - p).toNat = (L - (p + 1)).toNat + 1 by omega, qskf, if_pos ⟨h, hb⟩]
theorem qsk_n (h : ¬ (p < L ∧ B p = 32)) : qsk B L p = p := by
  unfold qsk
  cases hk : (L - p).toNat with
  | zero => rfl
  | succ n => rw [qskf, if_neg h]
theorem qsk_bd : ∀ p, p ≤ L → p ≤ qsk B L p ∧ qsk B L p ≤ L ∧ (qsk B L p < L → ¬ B (qsk B L p) = 32) := by
  refine qUpto ?_
  intro p hp ih
  by_cases h : p < L ∧ B p = 32
  · rw [qsk_b h.1 h.2]
    have := ih h.1
    exact ⟨by omega, this.2⟩
  · rw [qsk_n h]
    refine ⟨by omega, hp, fun h2 h3 => h ⟨h2, h3⟩⟩
theorem qsk_sk (hp : p ≤ L) : qsk B L (qsk B L p) = qsk B L p := by
  have := qsk_bd (B := B) p hp
  exact qsk_n (fun h => this.2.2 h.1 h.2)
theorem qpk_sk (hp : p ≤ L) : qpk B L (qsk B L p) = qpk B L p := by
  unfold qpk
  rw [qsk_sk hp]
/-- what a look tells -/
theorem qpk_c (ht : qTp L B) (p0 : 0 ≤ p) (hp : p ≤ L) : (qsk B L p = L ∧ qpk B L p = -1) ∨ (qsk B L p < L ∧ qpk B L p = B (qsk B L p) ∧ 1 ≤ qpk B L p ∧ qpk B L p ≤ 255) := by
  have h1 := qsk_bd (B := B) p hp
  unfold qpk
  by_cases h : qsk B L p < L
  · have := ht.2 (qsk B L p) (by omega) h
    rw [if_pos h]
    exact Or.inr ⟨h, rfl, this⟩
  · rw [if_neg h]
    exact Or.inl ⟨by omega, rfl⟩
end SK
theorem qsb_c {c : Int} (h : 1 ≤ c ∧ c ≤ 255) : bAnd (qsb c) 255 = c ∧ (qsb c = 32 ↔ c = 32) ∧ (48 ≤ qsb c ∧ qsb c ≤ 57 ↔ 48 ≤ c ∧ c ≤ 57) ∧ inR (qsb c) := by
  have hr : inR (qsb c) := by
    unfold qsb
    split <;> constructor <;> omega
  rw [qAnd255 hr]
  unfold qsb
  refine ⟨?_, ?_, ?_, ?_⟩ <;> (split <;> omega)
/-- numbers: the digits, where they end -/
def qnl (B : Int → Int) (L : Int) : Nat → Int → Int → Int × Int
  | 0, v, q => (v, q)
  | n + 1, v, q => if qdg B L q then qnl B L n (v * 10 + B q - 48) (q + 1) else (v, q)
def qnmr (B : Int → Int) (L q0 : Int) (r : Int × Int) (lo hi : Int) : Int × Int × Int := if r.2 = q0 ∨ qdg B L r.2 then (r.2, 0, r.2) else if lo ≤ r.1 ∧ r.1 ≤ hi then (-1, r.1, r.2) else (r.2 - 1, 0, r.2)
/-- the fault or -1, the number, where it ends -/
def qnum (B : Int → Int) (L : Int) (n : Nat) (p lo hi : Int) : Int × Int × Int := qnmr B L (qsk B L p) (qnl B L n 0 (qsk B L p)) lo hi
theorem qnl_bd {B : Int → Int} {L : Int} : ∀ (n : Nat) (v q : Int), 0 ≤ v → q ≤ L → q ≤ (qnl B L n v q).2 ∧ (qnl B L n v q).2 ≤ L ∧ 0 ≤ (qnl B L n v q).1 ∧ (qnl B L n v q).1 < (v + 1) * 10 ^ n := by
  intro n
  induction n with
  | zero => intro v q h0 h; simp only [qnl]; omega
  | succ n ih =>
    intro v q h0 h
    rw [qnl]
    split
    · rename_i hd
      have := ih (v * 10 + B q - 48) (q + 1) (by omega) (by omega)
      refine ⟨by omega, this.2.1, this.2.2.1, ?_⟩
      have h2 : (v * 10 + B q - 48 + 1) * 10 ^ n ≤ ((v + 1) * 10) * 10 ^ n := Int.mul_le_mul_of_nonneg_right (by omega) (Int.le_of_lt (Int.pow_pos (by omega)))
      have h3 : (v + 1) * 10 ^ (n + 1) = ((v + 1) * 10) * 10 ^ n := by
        rw [Int.pow_succ, Int.mul_assoc, Int.mul_comm 10]
      omega
    · dsimp only
      refine ⟨by omega, h, h0, ?_⟩
      have : 1 ≤ (10 : Int) ^ (n + 1) := Int.pow_pos (by omega)
      have h2 : (v + 1) * 1 ≤ (v + 1) * 10 ^ (n + 1) := Int.mul_le_mul_of_nonneg_left this (by omega)
      omega
theorem qnum_ok {B : Int → Int} {L : Int} {n : Nat} {p lo hi : Int} (hp : p ≤ L) (p0 : 0 ≤ p) : (0 ≤ (qnum B L n p lo hi).1 ∧ (qnum B L n p lo hi).1 ≤ L) ∨ ((qnum B L n p lo hi).1 = -1 ∧ p < (qnum B L n p lo hi).2.2 ∧ (qnum B L n p lo hi).2.2 ≤ L ∧ (lo ≤ (qnum B L n p lo hi).2.1 ∧ (qnum B L n p lo hi).2.1 ≤ hi) ∧ 0 ≤ (qnum B L n p lo hi).2.1) := by
  have h1 := qsk_bd (B := B) p hp
  have h2 := qnl_bd (B := B) (L := L) n 0 (qsk B L p) (by omega) (by omega)
  unfold qnum qnmr
  split
  · left; dsimp only; omega
  · rename_i h3
    split
    · right
      dsimp only
      refine ⟨rfl, ?_, by omega, by assumption, by omega⟩
      omega
    · left; dsimp only; omega
section RD
variable {xs : List Int32} {d : Nat} {Q : bPo} {b b0 b1 b2 : Bool} {m : Nat → Int → Int} {nT nH : Int} {T P E U N : Int → Int} {t s h k : Int}
variable {M : Nat → Int → Int} {B : Int → Int} {L p g : Int}
theorem c_peek (ht : qTp L B) (hc : qTc M L B) (p0 : 0 ≤ p) (p1 : p ≤ L) (hQ : Q (qpk B L p) ((b0, b1, b2), up M 1 2 (qsk B L p))) : bC xs 1 112 [vr 1] ((b0, b1, b2), up M 1 2 p) Q := by
  refine qC rfl fun d hd => ?_
  have hb := ht.1
  suffices H : ∀ p, p ≤ L → 0 ≤ p → Q (qpk B L p) ((b0, b1, b2), up M 1 2 (qsk B L p)) → bGo xs d aM_X9_peek 0 [vr 1] [] ((b0, b1, b2), up M 1 2 p) Q from H p p1 p0 hQ
  refine qUpto ?_
  intro p hp ih p0 hq
  refine r_X9_peek_0 hd ?_
  simp (disch := omega) only [qup_s, qup_o, qup_n, qup_up, hc.1]
  by_cases hlt : p < L
  · have e := hc.2 p p0 hlt
    have eb := ht.2 p p0 hlt
    rw [e]
    by_cases h32 : B p = 32
    · have e1 := qsk_b hlt h32
      have e2 : qpk B L p = qpk B L (p + 1) := by unfold qpk; rw [e1]
      rw [e1, e2] at hq
      (with_reducible repeat' (first | exact True.intro | apply And.intro | intro _))
      all_goals first | omega | exact ih hlt (by omega) hq
    · have e1 : qsk B L p = p := qsk_n (fun h => h32 h.2)
      unfold qpk at hq
      rw [e1, if_pos hlt] at hq
      (with_reducible repeat' (first | exact True.intro | apply And.intro | intro _))
      all_goals first | omega | exact hq
  · have e1 : qsk B L p = p := qsk_n (fun h => hlt h.1)
    unfold qpk at hq
    rw [e1, if_neg hlt] at hq
    (with_reducible repeat' (first | exact True.intro | apply And.intro | intro _))
    all_goals first | omega | exact hq
theorem c_must {c : Int} (ht : qTp L B) (hc : qTc M L B) (p0 : 0 ≤ p) (p1 : p ≤ L) (hx : inR c) (hy : qpk B L p = c → Q 1 ((b0, b1, b2), up M 1 2 (qsk B L p + 1))) (hn : ¬ qpk B L p = c → Q 0 ((b0, b1, b2), up (up M 1 2 (qsk B L p)) 1 3 (qsk B L p))) : bC xs 2 115 [vr 1, vi c] ((b0, b1, b2), up M 1 2 p) Q := by
  refine qC rfl fun d hd => r_X9_must_0 hd (c_peek ht hc p0 p1 ?_)
  simp only [qup_s, qup_up]
  have := qpk_c ht p0 p1
  exact ⟨trivial, by omega, hx, hy, hn⟩
theorem c_number {n : Nat} {lo hi : Int} (hn : n = 2 ∨ n = 4) (ht : qTp L B) (hc : qTc M L B) (p0 : 0 ≤ p) (p1 : p ≤ L) (x1 : inR lo) (x2 : inR hi) (hy : (qnum B L n p lo hi).1 = -1 → Q (qnum B L n p lo hi).2.1 ((b0, b1, b2), up M 1 2 (qnum B L n p lo hi).2.2)) (hf : ¬ (qnum B L n p lo hi).1 = -1 → Q (-1) ((b0, b1, b2), up (up M 1 2 (qnum B L n p lo hi).2.2) 1 3 (qnum B L n p lo hi).1)) : bC xs 2 116 [vr 1, vi (n : Int), vi lo, vi hi] ((b0, b1, b2), up M 1 2 p) Q := by
  refine qC rfl fun d hd => r_X9_number_0 hd (c_peek ht hc p0 p1 ⟨rfl, ?_⟩)
  have hb := ht.1
  have h1 := qsk_bd (B := B) p p1
  have cc := qpk_c ht p0 p1
  dsimp only
  suffices H : ∀ (k : Nat) (v j q c : Int), (j : Int) + k = n → 0 ≤ j → 0 ≤ v → v < 10 ^ j.toNat → (if q < L then B q else -1) = c → q = qsk B L p + j → q ≤ L → qnum B L n p lo hi = qnmr B L (qsk B L p) (qnl B L k v q) lo hi → bGo xs d aM_X9_number 12 [vr 1, vi (n : Int), vi lo, vi hi, vi v, vi j, vi c] [] ((b0, b1, b2), up M 1 2 q) Q by
    refine H n 0 0 (qsk B L p) _ (by omega) (by omega) (by omega) (by decide) ?_ (by omega) (by omega) rfl
    unfold qpk
    rfl
  intro k
  induction k with
  | zero =>
    intro v j q c hj j0 v0 v1 hcq hq ql he
    rw [qnl] at he
    refine r_X9_number_12 hd ?_
    simp (disch := omega) only [qup_s, qup_o, qup_n, qup_up, hc.1]
    have v2 : v < 10000 := by
      have : j = 2 ∨ j = 4 := by omega
      rcases this with rfl | rfl
      · have : (10 : Int) ^ (2 : Int).toNat = 100 := rfl
        omega
      · have : (10 : Int) ^ (4 : Int).toNat = 10000 := rfl
        omega
    have hdg : qdg B L q ↔ (48 ≤ c ∧ c ≤ 57) := by
      unfold qdg
      rw [← hcq]
      split
      · omega
      · omega
    have cr : -1 ≤ c ∧ c ≤ 255 := by
      rw [← hcq]
      split
      · have := ht.2 q (by omega) (by assumption)
        omega
      · omega
    unfold qnmr at he
    by_cases h3 : 48 ≤ c ∧ c ≤ 57
    · rw [if_pos (Or.inr (hdg.mpr h3))] at he
      rw [he] at hf
      have hf := hf (by dsimp only; omega)
      dsimp only at hf
      (with_reducible repeat' (first | exact True.intro | apply And.intro | intro _))
      all_goals first | omega | exact hf
    · rw [if_neg (fun h => h.elim (fun h => by dsimp only at h; omega) (fun h => h3 (hdg.mp h)))] at he
      by_cases h4 : lo ≤ v ∧ v ≤ hi
      · rw [if_pos h4] at he
        rw [he] at hy
        have hy := hy rfl
        dsimp only at hy
        (with_reducible repeat' (first | exact True.intro | apply And.intro | intro _))
        all_goals first | omega | exact hy
      · rw [if_neg h4] at he
        rw [he] at hf
        have hf := hf (by dsimp only; omega)
        dsimp only at hf
        (with_reducible repeat' (first | exact True.intro | apply And.intro | intro _))
        all_goals first | omega | exact hf
  | succ k ih =>
    intro v j q c hj j0 v0 v1 hcq hq ql he
    refine r_X9_number_12 hd ?_
    simp (disch := omega) only [qup_s, qup_o, qup_n, qup_up, hc.1]
    have v2 : v < 10000 := by
      have : j = 0 ∨ j = 1 ∨ j = 2 ∨ j = 3 := by omega
      rcases this with rfl | rfl | rfl | rfl
      · have : (10 : Int) ^ (0 : Int).toNat = 1 := rfl
        omega
      · have : (10 : Int) ^ (1 : Int).toNat = 10 := rfl
        omega
      · have : (10 : Int) ^ (2 : Int).toNat = 100 := rfl
        omega
      · have : (10 : Int) ^ (3 : Int).toNat = 1000 := rfl
        omega
    have cr : -1 ≤ c ∧ c ≤ 255 := by
      rw [← hcq]
      split
      · have := ht.2 q (by omega) (by assumption)
        omega
      · omega
    rw [qnl] at he
    by_cases h3 : 48 ≤ c ∧ c ≤ 57
    · have hql : q < L := by
        rw [← hcq] at h3
        split at h3
        · assumption
        · omega
      rw [if_pos hql] at hcq
      rw [if_pos ⟨hql, by omega, by omega⟩] at he
      have e10 : (10 : Int) ^ (j + 1).toNat = 10 * 10 ^ j.toNat := by
        rw [show (j + 1).toNat = j.toNat + 1 by omega, Int.pow_succ, Int.mul_comm]
      have nx := ih (v * 10 + c - 48) (j + 1) (q + 1) (if q + 1 < L then B (q + 1) else -1) (by omega) (by omega) (by omega) (by omega) rfl (by omega) (by omega) (by rw [← hcq]; exact he)
      by_cases h5 : q + 1 < L
      · rw [if_pos h5] at nx
        rw [hc.2 (q + 1) (by omega) h5]
        (with_reducible repeat' (first | exact True.intro | apply And.intro | intro _))
        all_goals first | omega | exact nx
      · rw [if_neg h5] at nx
        (with_reducible repeat' (first | exact True.intro | apply And.intro | intro _))
        all_goals first | omega | exact nx
    · have hdg : ¬ qdg B L q := by
        unfold qdg
        rw [← hcq] at h3
        split at h3
        · omega
        · omega
      rw [if_neg hdg] at he
      unfold qnmr at he
      by_cases h6 : j = 0
      · rw [if_pos (Or.inl (by dsimp only; omega))] at he
        rw [he] at hf
        have hf := hf (by dsimp only; omega)
        dsimp only at hf
        (with_reducible repeat' (first | exact True.intro | apply And.intro | intro _))
        all_goals first | omega | exact hf
      · rw [if_neg (fun h => h.elim (fun h => by dsimp only at h; omega) (fun h => hdg h))] at he
        by_cases h4 : lo ≤ v ∧ v ≤ hi
        · rw [if_pos h4] at he
          rw [he] at hy
          have hy := hy rfl
          dsimp only at hy
          (with_reducible repeat' (first | exact True.intro | apply And.intro | intro _))
          all_goals first | omega | exact hy
        · rw [if_neg h4] at he
          rw [he] at hf
          have hf := hf (by dsimp only; omega)
          dsimp only at hf
          (with_reducible repeat' (first | exact True.intro | apply And.intro | intro _))
          all_goals first | omega | exact hf
/-! the reference -/
def qXm (M : Nat → Int → Int) (b2 : Bool) (g L : Int) (B : Int → Int) : Prop := M 120 8 = g ∧ M 120 9 = L ∧ (0 ≤ g ∧ g + L ≤ bTn b2) ∧ ∀ k, 0 ≤ k → k < L → M (bT b2) (g + k) = qsb (B k)
theorem qbT (b : Bool) : (bT b = 121 ∨ bT b = 122) ∧ (bTn b = 240 ∨ bTn b = 1440) := by cases b <;> decide
theorem d_look (ht : qTp L B) (hx : qXm M b2 g L B) (p0 : 0 ≤ p) (p1 : p ≤ L) (hQ : Q (qpk B L p) ((b0, b1, b2), up M 120 10 (qsk B L p))) : bC xs 1 180 [vr 120] ((b0, b1, b2), up M 120 10 p) Q := by
  refine qC rfl fun d hd => ?_
  have hb := ht.1
  have hT := qbT b2
  obtain ⟨x1, x2, x3, x4⟩ := hx
  suffices H : ∀ p, p ≤ L → 0 ≤ p → Q (qpk B L p) ((b0, b1, b2), up M 120 10 (qsk B L p)) → bGo xs d aM_X12_look 0 [vr 120] [] ((b0, b1, b2), up M 120 10 p) Q from H p p1 p0 hQ
  refine qUpto ?_
  intro p hp ih p0 hq
  refine r_X12_look_0 hd ?_
  simp (disch := omega) only [qup_s, qup_o, qup_n, qup_up, x1, x2]
  by_cases hlt : p < L
  · have e := x4 p p0 hlt
    have eb := ht.2 p p0 hlt
    have sb := qsb_c eb
    rw [e, sb.1]
    by_cases h32 : B p = 32
    · have e1 := qsk_b hlt h32
      have e2 : qpk B L p = qpk B L (p + 1) := by unfold qpk; rw [e1]
      rw [e1, e2] at hq
      (with_reducible repeat' (first | exact True.intro | apply And.intro | intro _))
      all_goals first | omega | exact ih hlt (by omega) hq
    · have e1 : qsk B L p = p := qsk_n (fun h => h32 h.2)
      unfold qpk at hq
      rw [e1, if_pos hlt] at hq
      (with_reducible repeat' (first | exact True.intro | apply And.intro | intro _))
      all_goals first | omega | exact hq
  · have e1 : qsk B L p = p := qsk_n (fun h => hlt h.1)
    unfold qpk at hq
    rw [e1, if_neg hlt] at hq
    (with_reducible repeat' (first | exact True.intro | apply And.intro | intro _))
    all_goals first | omega | exact hq
theorem d_isDigit (ht : qTp L B) (hx : qXm M b2 g L B) (p0 : 0 ≤ p) (p1 : p ≤ L) (hQ : Q (if qdg B L p then 1 else 0) ((b0, b1, b2), up M 120 10 p)) : bC xs 1 184 [vr 120] ((b0, b1, b2), up M 120 10 p) Q := by
  refine qC rfl fun d hd => r_X12_isDigit_0 hd ?_
  have hb := ht.1
  have hT := qbT b2
  obtain ⟨x1, x2, x3, x4⟩ := hx
  simp (disch := omega) only [qup_s, qup_o, qup_n, qup_up, x1, x2]
  by_cases hlt : p < L
  · have e := x4 p p0 hlt
    have eb := ht.2 p p0 hlt
    have sb := qsb_c eb
    rw [e]
    unfold qdg at hQ
    (with_reducible repeat' (first | exact True.intro | apply And.intro | intro _))
    all_goals first | omega | exact qQ hQ (by first | rw [if_pos (by omega)] | rw [if_neg (by omega)])
  · unfold qdg at hQ
    (with_reducible repeat' (first | exact True.intro | apply And.intro | intro _))
    all_goals first | omega | exact qQ hQ (by first | rw [if_pos (by omega)] | rw [if_neg (by omega)])
end RD
