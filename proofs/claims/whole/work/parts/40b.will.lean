/-! B: A WILL, read: what is read, as rows of both sides -/
abbrev qSt : Type := Nat → Int → Int
abbrev qRs : Type := Int × qSt × Int
def qtrd (c : Int) : Int := if 97 ≤ c ∧ c ≤ 101 then c - 97 else -1
def qtit (c : Int) : Int := if c = 118 then 0 else if c = 114 then 1 else if c = 100 then 2 else -1
def qhit (c : Int) : Int := if c = 107 then 5 else qtrd c
def qlo (it : Int) : Int := if it = 1 then 1 else 0
def qhi (it : Int) : Int := if it = 2 then 8 else 99
def qput (t it v : Int) (σ : qSt) : qSt := up (if it = 0 then up σ 1 t v else if it = 1 then up σ 2 t v else up σ 9 (0 + t) v) 126 (4 * t + it) v
def qTI (B : Int → Int) (L t : Int) : Nat → Int → qSt → Int → qRs
  | 0, _, σ, p => (-1, σ, p)
  | n + 1, seen, σ, p => if qtit (qpk B L p) = -1 ∨ bAnd (bShr seen (qtit (qpk B L p))) 1 = 1 then (-1, σ, qsk B L p)
    else if (qnum B L 2 (qsk B L p + 1) (qlo (qtit (qpk B L p))) (qhi (qtit (qpk B L p)))).1 = -1 then qTI B L t n (bOrr seen (bShl 1 (qtit (qpk B L p)))) (qput t (qtit (qpk B L p)) (qnum B L 2 (qsk B L p + 1) (qlo (qtit (qpk B L p))) (qhi (qtit (qpk B L p)))).2.1 σ) (qnum B L 2 (qsk B L p + 1) (qlo (qtit (qpk B L p))) (qhi (qtit (qpk B L p)))).2.2
    else ((qnum B L 2 (qsk B L p + 1) (qlo (qtit (qpk B L p))) (qhi (qtit (qpk B L p)))).1, σ, (qnum B L 2 (qsk B L p + 1) (qlo (qtit (qpk B L p))) (qhi (qtit (qpk B L p)))).2.2)
def qstp (t k tr nd : Int) (σ : qSt) : qSt := up (up (up (up (up σ 4 (t * 8 + σ 3 t) tr) 5 (t * 8 + σ 3 t) nd) 3 t (σ 3 t + 1)) 128 (2 * (8 * t + k)) tr) 128 (2 * (8 * t + k) + 1) nd
def qstl (t k : Int) (σ : qSt) : qSt := up (if σ 9 (0 + t) = σ 3 t then up (up σ 9 (18 + t) 1) 9 (24 + t) 0 else σ) 126 (4 * t + 3) k
def qST (B : Int → Int) (L t : Int) : Nat → Int → qSt → Int → qRs
  | 0, _, σ, p => (-1, σ, p)
  | n + 1, k, σ, p => if qtrd (qpk B L p) = -1 ∧ 0 < k then (-1, qstl t k σ, qsk B L p)
    else if qtrd (qpk B L p) = -1 ∨ k = 8 then (qsk B L p, σ, qsk B L p)
    else if qpk B L (qsk B L p + 1) - 48 < 1 ∨ 9 < qpk B L (qsk B L p + 1) - 48 then (qsk B L (qsk B L p + 1), σ, qsk B L (qsk B L p + 1))
    else qST B L t n (k + 1) (qstp t k (qtrd (qpk B L p)) (qpk B L (qsk B L p + 1) - 48) σ) (qsk B L (qsk B L p + 1) + 1)
def qadt (σ : qSt) : qSt := up (up (up (up (up (up (up (up (up (up (up σ 0 9 (σ 0 9 + 1)) 1 (σ 0 9) 10) 2 (σ 0 9) 30) 3 (σ 0 9) 0) 9 (12 + σ 0 9) (-1)) 9 (24 + σ 0 9) (-1)) 9 (30 + σ 0 9) (-1)) 120 29 (σ 0 9 + 1)) 126 (4 * σ 0 9) 10) 126 (4 * σ 0 9 + 1) 30) 126 (4 * σ 0 9 + 2) 0
/-- behind a thing's items -/
def qTHb (B : Int → Int) (L t : Int) (r : qRs) : qRs := if ¬ r.1 = -1 then r else if qpk B L r.2.2 = 58 then qST B L t 9 0 r.2.1 (qsk B L r.2.2 + 1) else (qsk B L r.2.2, r.2.1, qsk B L r.2.2)
def qTH (B : Int → Int) (L : Int) (σ : qSt) (p : Int) : qRs := qTHb B L (σ 0 9) (qTI B L (σ 0 9) 3 0 (qadt σ) p)
def qhp (h it v : Int) (σ : qSt) : qSt := up (if it = 5 then up σ 6 h v else up σ 9 (36 + h * 5 + it) (σ 9 (36 + h * 5 + it) + v)) 130 (6 * h + it) v
def qHI (B : Int → Int) (L h : Int) : Nat → Int → qSt → Int → qRs
  | 0, _, σ, p => (-1, σ, p)
  | n + 1, seen, σ, p => if qhit (qpk B L p) = -1 ∨ bAnd (bShr seen (qhit (qpk B L p))) 1 = 1 then (-1, σ, qsk B L p)
    else if (qnum B L 2 (qsk B L p + 1) 0 9).1 = -1 then qHI B L h n (bOrr seen (bShl 1 (qhit (qpk B L p)))) (qhp h (qhit (qpk B L p)) (qnum B L 2 (qsk B L p + 1) 0 9).2.1 σ) (qnum B L 2 (qsk B L p + 1) 0 9).2.2
    else ((qnum B L 2 (qsk B L p + 1) 0 9).1, σ, (qnum B L 2 (qsk B L p + 1) 0 9).2.2)
def qz6 (h : Int) (f : Int → Int) : Int → Int := qset (qset (qset (qset (qset (qset f (6 * h + 0) 0) (6 * h + 1) 0) (6 * h + 2) 0) (6 * h + 3) 0) (6 * h + 4) 0) (6 * h + 5) 0
/-- one row anew -/
def qrw (σ : qSt) (a : Nat) (f : Int → Int) : qSt := fun b => if b = a then f else σ b
def qadh (σ : qSt) : qSt := qrw (up (up (up σ 0 10 (σ 0 10 + 1)) 6 (σ 0 10) 0) 120 30 (σ 0 10 + 1)) 130 (qz6 (σ 0 10) (σ 130))
def qtl (tr : Int) (σ : qSt) : qSt := up (up (up (up σ 7 tr (σ 7 tr + 1)) 0 11 (σ 0 11 + 1)) 132 tr (σ 132 tr + 1)) 120 31 (σ 0 11 + 1)
def qCL (B : Int → Int) (L : Int) (σ : qSt) (p : Int) : qRs :=
  if qpk B L p = 116 then (if σ 0 9 < 6 then qTH B L σ (qsk B L p + 1) else (qsk B L p, σ, qsk B L p))
  else if qpk B L p = 104 then (if σ 0 10 < 6 then qHI B L (σ 0 10) 6 0 (qadh σ) (qsk B L p + 1) else (qsk B L p, σ, qsk B L p))
  else if qpk B L p = 103 then (if σ 0 11 < 4 then (if qtrd (qpk B L (qsk B L p + 1)) = -1 then (qsk B L (qsk B L p + 1), σ, qsk B L (qsk B L p + 1)) else (-1, qtl (qtrd (qpk B L (qsk B L p + 1))) σ, qsk B L (qsk B L p + 1) + 1)) else (qsk B L p, σ, qsk B L p))
  else (qsk B L p, σ, qsk B L p)
def qwh (σ : qSt) : Int := qfold (fun t a => if σ 9 (0 + t) ≤ σ 3 t then a else 0) (σ 0 9) 0 1
def qwf (L : Int) (σ : qSt) : Int := if qwh σ = 1 ∧ 0 < σ 0 9 ∧ 0 < σ 0 10 then -1 else L
def qWL (B : Int → Int) (L : Int) : Nat → qSt → Int → Int × qSt
  | 0, σ, _ => (qwf L σ, σ)
  | n + 1, σ, p => if ¬ (qCL B L σ p).1 = -1 then ((qCL B L σ p).1, (qCL B L σ p).2.1)
    else if qpk B L (qCL B L σ p).2.2 = -1 then (qwf L (qCL B L σ p).2.1, (qCL B L σ p).2.1)
    else if qpk B L (qCL B L σ p).2.2 = 59 then qWL B L n (qCL B L σ p).2.1 (qsk B L (qCL B L σ p).2.2 + 1)
    else (qsk B L (qCL B L σ p).2.2, (qCL B L σ p).2.1)
/-! the class's rows -/
def qCs (m : Nat → Int → Int) (w : Nat) (σ : qSt) : Prop := ∀ i, i ≤ 9 → m (w + i) = σ i
section CS
variable {m : Nat → Int → Int} {w : Nat} {σ : qSt} {a i : Nat} {k z : Int} {f : Int → Int}
theorem qCs_up (hi : i ≤ 9) (h : qCs m w σ) : qCs (up m (w + i) k z) w (up σ i k z) := by
  intro j hj
  by_cases e : j = i
  · subst e
    rw [qup_f, qup_f, h j hj]
  · rw [qup_n (by omega), qup_n e, h j hj]
theorem qCs_0 (h : qCs m w σ) : qCs (up m w k z) w (up σ 0 k z) := qCs_up (i := 0) (by omega) h
theorem qCs_mo (ha : 9 < a) (h : qCs m w σ) : qCs m w (up σ a k z) := by
  intro j hj
  rw [qup_n (by omega), h j hj]
theorem qCs_rw (ha : 9 < a) (h : qCs m w σ) : qCs m w (qrw σ a f) := by
  intro j hj
  unfold qrw
  rw [if_neg (by omega), h j hj]
theorem qCs_tp (ha : a < w ∨ w + 9 < a) (h : qCs m w σ) : qCs (up m a k z) w σ := by
  intro j hj
  rw [qup_n (by omega), h j hj]
end CS
def qFw (w : Nat) (a : Nat) (_ : Int) : Prop := w ≤ a ∧ a ≤ w + 9
theorem qtrd_v (c : Int) : (qtrd c = -1 ∧ ¬ (97 ≤ c ∧ c ≤ 101)) ∨ ((97 ≤ c ∧ c ≤ 101) ∧ qtrd c = c - 97) := by
  unfold qtrd
  split
  · exact Or.inr ⟨by assumption, rfl⟩
  · exact Or.inl ⟨rfl, by assumption⟩
theorem qtit_v (c : Int) : (c = 118 ∧ qtit c = 0) ∨ (c = 114 ∧ qtit c = 1) ∨ (c = 100 ∧ qtit c = 2) ∨ (¬ c = 118 ∧ ¬ c = 114 ∧ ¬ c = 100 ∧ qtit c = -1) := by
  unfold qtit
  split
  · exact Or.inl ⟨by assumption, rfl⟩
  · split
    · exact Or.inr (Or.inl ⟨by assumption, rfl⟩)
    · split
      · exact Or.inr (Or.inr (Or.inl ⟨by assumption, rfl⟩))
      · exact Or.inr (Or.inr (Or.inr ⟨by assumption, by assumption, by assumption, rfl⟩))
theorem qhit_v (c : Int) : (c = 107 ∧ qhit c = 5) ∨ (¬ c = 107 ∧ qhit c = qtrd c) := by
  unfold qhit
  split
  · exact Or.inl ⟨by assumption, rfl⟩
  · exact Or.inr ⟨by assumption, rfl⟩
/-! where reading stands afterwards -/
section PB
variable {B : Int → Int} {L t : Int}
def qOkr (L p : Int) (r : qRs) : Prop := (0 ≤ r.1 ∧ r.1 ≤ L) ∨ (r.1 = -1 ∧ p ≤ r.2.2 ∧ r.2.2 ≤ L)
theorem qTI_bd (ht : qTp L B) : ∀ (n : Nat) (seen : Int) (σ : qSt) (p : Int), 0 ≤ p → p ≤ L → qOkr L p (qTI B L t n seen σ p) := by
  intro n
  induction n with
  | zero => intro seen σ p p0 p1; exact Or.inr ⟨rfl, by simp only [qTI]; omega, by simp only [qTI]; omega⟩
  | succ n ih =>
    intro seen σ p p0 p1
    rw [qTI]
    have h1 := qsk_bd (B := B) p p1
    have hc := qpk_c ht p0 p1
    have hv := qtit_v (qpk B L p)
    split
    · exact Or.inr ⟨rfl, h1.1, h1.2.1⟩
    · have hn := qnum_ok (B := B) (L := L) (n := 2) (p := qsk B L p + 1) (lo := qlo (qtit (qpk B L p))) (hi := qhi (qtit (qpk B L p))) (by omega) (by omega)
      split
      · have := ih (bOrr seen (bShl 1 (qtit (qpk B L p)))) (qput t (qtit (qpk B L p)) (qnum B L 2 (qsk B L p + 1) (qlo (qtit (qpk B L p))) (qhi (qtit (qpk B L p)))).2.1 σ) (qnum B L 2 (qsk B L p + 1) (qlo (qtit (qpk B L p))) (qhi (qtit (qpk B L p)))).2.2 (by omega) (by omega)
        unfold qOkr at this ⊢
        omega
      · exact Or.inl (by dsimp only; omega)
theorem qHI_bd (ht : qTp L B) : ∀ (n : Nat) (seen : Int) (σ : qSt) (p : Int), 0 ≤ p → p ≤ L → qOkr L p (qHI B L t n seen σ p) := by
  intro n
  induction n with
  | zero => intro seen σ p p0 p1; exact Or.inr ⟨rfl, by simp only [qHI]; omega, by simp only [qHI]; omega⟩
  | succ n ih =>
    intro seen σ p p0 p1
    rw [qHI]
    have h1 := qsk_bd (B := B) p p1
    have hc := qpk_c ht p0 p1
    have hv := qhit_v (qpk B L p)
    have hw := qtrd_v (qpk B L p)
    split
    · exact Or.inr ⟨rfl, h1.1, h1.2.1⟩
    · have hn := qnum_ok (B := B) (L := L) (n := 2) (p := qsk B L p + 1) (lo := 0) (hi := 9) (by omega) (by omega)
      split
      · have := ih (bOrr seen (bShl 1 (qhit (qpk B L p)))) (qhp t (qhit (qpk B L p)) (qnum B L 2 (qsk B L p + 1) 0 9).2.1 σ) (qnum B L 2 (qsk B L p + 1) 0 9).2.2 (by omega) (by omega)
        unfold qOkr at this ⊢
        omega
      · exact Or.inl (by dsimp only; omega)
theorem qST_bd (ht : qTp L B) : ∀ (n : Nat) (k : Int) (σ : qSt) (p : Int), 0 ≤ p → p ≤ L → qOkr L p (qST B L t n k σ p) := by
  intro n
  induction n with
  | zero => intro k σ p p0 p1; exact Or.inr ⟨rfl, by simp only [qST]; omega, by simp only [qST]; omega⟩
  | succ n ih =>
    intro k σ p p0 p1
    rw [qST]
    have h1 := qsk_bd (B := B) p p1
    have hc := qpk_c ht p0 p1
    have hv := qtrd_v (qpk B L p)
    split
    · exact Or.inr ⟨rfl, h1.1, h1.2.1⟩
    · split
      · exact Or.inl (by dsimp only; omega)
      · have h2 := qsk_bd (B := B) (L := L) (qsk B L p + 1) (by omega)
        have hc2 := qpk_c (p := qsk B L p + 1) ht (by omega) (by omega)
        split
        · exact Or.inl (by dsimp only; omega)
        · have := ih (k + 1) (qstp t k (qtrd (qpk B L p)) (qpk B L (qsk B L p + 1) - 48) σ) (qsk B L (qsk B L p + 1) + 1) (by omega) (by omega)
          unfold qOkr at this ⊢
          omega
theorem qTHb_bd (ht : qTp L B) {p : Int} {r : qRs} (p0 : 0 ≤ p) (hr : qOkr L p r) : qOkr L p (qTHb B L t r) := by
  unfold qTHb
  split
  · exact hr
  · rename_i h
    have h : r.1 = -1 := by omega
    have hr2 : p ≤ r.2.2 ∧ r.2.2 ≤ L := by unfold qOkr at hr; omega
    have h1 := qsk_bd (B := B) r.2.2 hr2.2
    have hc := qpk_c ht (show 0 ≤ r.2.2 by omega) hr2.2
    split
    · have := qST_bd (t := t) ht 9 0 r.2.1 (qsk B L r.2.2 + 1) (by omega) (by omega)
      unfold qOkr at this ⊢
      omega
    · exact Or.inl (by dsimp only; omega)
theorem qCL_bd (ht : qTp L B) {p : Int} {σ : qSt} (p0 : 0 ≤ p) (p1 : p ≤ L) : (0 ≤ (qCL B L σ p).1 ∧ (qCL B L σ p).1 ≤ L) ∨ ((qCL B L σ p).1 = -1 ∧ p < (qCL B L σ p).2.2 ∧ (qCL B L σ p).2.2 ≤ L) := by
  have h1 := qsk_bd (B := B) p p1
  have hc := qpk_c ht p0 p1
  unfold qCL
  split
  · split
    · have := qTHb_bd (t := σ 0 9) (p := qsk B L p + 1) ht (by omega) (qTI_bd (t := σ 0 9) ht 3 0 (qadt σ) (qsk B L p + 1) (by omega) (by omega))
      unfold qOkr at this
      unfold qTH
      omega
    · exact Or.inl (by dsimp only; omega)
  · split
    · split
      · have := qHI_bd (t := σ 0 10) ht 6 0 (qadh σ) (qsk B L p + 1) (by omega) (by omega)
        unfold qOkr at this
        omega
      · exact Or.inl (by dsimp only; omega)
    · split
      · split
        · have h2 := qsk_bd (B := B) (L := L) (qsk B L p + 1) (by omega)
          have hc2 := qpk_c (p := qsk B L p + 1) ht (by omega) (by omega)
          have hv := qtrd_v (qpk B L (qsk B L p + 1))
          split
          · exact Or.inl (by dsimp only; omega)
          · exact Or.inr (by dsimp only; omega)
        · exact Or.inl (by dsimp only; omega)
      · exact Or.inl (by dsimp only; omega)
end PB
