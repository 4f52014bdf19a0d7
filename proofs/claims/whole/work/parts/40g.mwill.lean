/-! B: the reference reads a will -/
theorem qbPl2 (c : Int) : bPl (oTx 2002) c 0 = qtit c := by
  unfold qtit
  show (if c = 118 then (0 : Int) else if c = 114 then 0 + 1 else if c = 100 then 0 + 1 + 1 else -1) = _
  rfl
theorem qbPl3 (c : Int) : bPl (oTx 2003) c 0 = qtrd c := by
  show (if c = 97 then (0 : Int) else if c = 98 then 0 + 1 else if c = 99 then 0 + 1 + 1 else if c = 100 then 0 + 1 + 1 + 1 else if c = 101 then 0 + 1 + 1 + 1 + 1 else -1) = _
  have := qtrd_v c
  repeat' split
  all_goals omega
theorem qbPl4 (c : Int) : bPl (oTx 2004) c 0 = qhit c := by
  show (if c = 97 then (0 : Int) else if c = 98 then 0 + 1 else if c = 99 then 0 + 1 + 1 else if c = 100 then 0 + 1 + 1 + 1 else if c = 101 then 0 + 1 + 1 + 1 + 1 else if c = 107 then 0 + 1 + 1 + 1 + 1 + 1 else -1) = _
  have := qtrd_v c
  have := qhit_v c
  repeat' split
  all_goals omega
def qct (s : Nat) : Nat := s % 2 + s / 2 % 2 + s / 4 % 2 + s / 8 % 2 + s / 16 % 2 + s / 32 % 2
theorem qct_f : ∀ s : Fin 64, ∀ i : Fin 6, (¬ bAnd (bShr (s.val : Int) (i.val : Int)) 1 = 1 → qct (bOrr (s.val : Int) (bShl 1 (i.val : Int))).toNat = qct s.val + 1) ∧ (qct s.val = 6 → bAnd (bShr (s.val : Int) (i.val : Int)) 1 = 1) ∧ (s.val < 8 → qct s.val = 3 → i.val < 3 → bAnd (bShr (s.val : Int) (i.val : Int)) 1 = 1) := by decide +kernel
theorem qct_v {s i : Int} (s0 : 0 ≤ s) (s1 : s < 64) (i0 : 0 ≤ i) (i1 : i < 6) : (¬ bAnd (bShr s i) 1 = 1 → qct (bOrr s (bShl 1 i)).toNat = qct s.toNat + 1) ∧ (qct s.toNat = 6 → bAnd (bShr s i) 1 = 1) ∧ (s < 8 → qct s.toNat = 3 → i < 3 → bAnd (bShr s i) 1 = 1) := by
  obtain ⟨a, rfl⟩ := Int.eq_ofNat_of_zero_le s0
  obtain ⟨b, rfl⟩ := Int.eq_ofNat_of_zero_le i0
  have := qct_f ⟨a, by omega⟩ ⟨b, by omega⟩
  exact ⟨this.1, this.2.1, fun h1 h2 h3 => this.2.2 (by show a < 8; omega) h2 (by show b < 3; omega)⟩
def qMs (m : Nat → Int → Int) (σ : qSt) : Prop := m 126 = σ 126 ∧ m 128 = σ 128 ∧ m 130 = σ 130 ∧ m 132 = σ 132 ∧ m 120 29 = σ 120 29 ∧ m 120 30 = σ 120 30 ∧ m 120 31 = σ 120 31
/-- a row of both changed alike -/
theorem qMs_up {m : Nat → Int → Int} {σ : qSt} {a : Nat} {k z : Int} (ha : a = 126 ∨ a = 128 ∨ a = 130 ∨ a = 132) (h : qMs m σ) : qMs (up m a k z) (up σ a k z) := by
  obtain ⟨h1, h2, h3, h4, h5, h6, h7⟩ := h
  rcases ha with rfl | rfl | rfl | rfl
  · exact ⟨by rw [qup_f, qup_f, h1], by rw [qup_n (by omega), qup_n (by omega), h2], by rw [qup_n (by omega), qup_n (by omega), h3], by rw [qup_n (by omega), qup_n (by omega), h4], by rw [qup_n (by omega), qup_n (by omega), h5], by rw [qup_n (by omega), qup_n (by omega), h6], by rw [qup_n (by omega), qup_n (by omega), h7]⟩
  · exact ⟨by rw [qup_n (by omega), qup_n (by omega), h1], by rw [qup_f, qup_f, h2], by rw [qup_n (by omega), qup_n (by omega), h3], by rw [qup_n (by omega), qup_n (by omega), h4], by rw [qup_n (by omega), qup_n (by omega), h5], by rw [qup_n (by omega), qup_n (by omega), h6], by rw [qup_n (by omega), qup_n (by omega), h7]⟩
  · exact ⟨by rw [qup_n (by omega), qup_n (by omega), h1], by rw [qup_n (by omega), qup_n (by omega), h2], by rw [qup_f, qup_f, h3], by rw [qup_n (by omega), qup_n (by omega), h4], by rw [qup_n (by omega), qup_n (by omega), h5], by rw [qup_n (by omega), qup_n (by omega), h6], by rw [qup_n (by omega), qup_n (by omega), h7]⟩
  · exact ⟨by rw [qup_n (by omega), qup_n (by omega), h1], by rw [qup_n (by omega), qup_n (by omega), h2], by rw [qup_n (by omega), qup_n (by omega), h3], by rw [qup_f, qup_f, h4], by rw [qup_n (by omega), qup_n (by omega), h5], by rw [qup_n (by omega), qup_n (by omega), h6], by rw [qup_n (by omega), qup_n (by omega), h7]⟩
/-- the class's rows changed -/
theorem qMs_cl {m : Nat → Int → Int} {σ : qSt} {a : Nat} {k z : Int} (ha : a ≤ 9) (h : qMs m σ) : qMs m (up σ a k z) := by
  obtain ⟨h1, h2, h3, h4, h5, h6, h7⟩ := h
  exact ⟨by rw [qup_n (by omega), h1], by rw [qup_n (by omega), h2], by rw [qup_n (by omega), h3], by rw [qup_n (by omega), h4], by rw [qup_n (by omega), h5], by rw [qup_n (by omega), h6], by rw [qup_n (by omega), h7]⟩
/-- a count of both -/
theorem qMs_ct {m : Nat → Int → Int} {σ : qSt} {k z : Int} (h : qMs m σ) : qMs (up m 120 k z) (up σ 120 k z) := by
  obtain ⟨h1, h2, h3, h4, h5, h6, h7⟩ := h
  refine ⟨by rw [qup_n (by omega), qup_n (by omega), h1], by rw [qup_n (by omega), qup_n (by omega), h2], by rw [qup_n (by omega), qup_n (by omega), h3], by rw [qup_n (by omega), qup_n (by omega), h4], ?_, ?_, ?_⟩ <;> (rw [qup_if, qup_if]; split <;> first | rfl | assumption)
def qFmr (a : Nat) (k : Int) : Prop := a = 126 ∨ a = 128 ∨ a = 130 ∨ a = 132 ∨ (a = 120 ∧ (k = 10 ∨ k = 11 ∨ k = 29 ∨ k = 30 ∨ k = 31))
def qFms (a : Nat) (k : Int) : Prop := a = 126 ∨ a = 128 ∨ a = 130 ∨ a = 132 ∨ (a = 120 ∧ (k = 29 ∨ k = 30 ∨ k = 31))
theorem qFms_r {m m' : Nat → Int → Int} (h : qFr qFms m m') : qFr qFmr m m' := h.mono (fun a k h => by unfold qFms at h; unfold qFmr; omega)
section MW
variable {xs : List Int32} {d : Nat} {Q : bPo} {b b0 b1 b2 : Bool} {m : Nat → Int → Int} {nT nH : Int} {T P E U N : Int → Int} {t s h k : Int}
variable {M : Nat → Int → Int} {B : Int → Int} {L p q g : Int} {σ : qSt}
theorem qXm_fr {M' : Nat → Int → Int} (hf : qFr qFms M M') (hx : qXm M b2 g L B) : qXm M' b2 g L B := by
  have hT := qbT b2
  obtain ⟨x1, x2, x3, x4⟩ := hx
  refine ⟨by rw [hf 120 8 (by unfold qFms; omega)]; exact x1, by rw [hf 120 9 (by unfold qFms; omega)]; exact x2, x3, ?_⟩
  rw [qFr_at hf (bT b2) (fun k => by unfold qFms; omega)]
  exact x4
theorem qup_d {a : Nat} {k z : Int} (ha : ¬ a = 120) : up (up M 120 10 p) a k z = up (up M a k z) 120 10 p := qup_comm ha
theorem qup_e {k z : Int} (hk : ¬ k = 10) : up (up M 120 10 p) 120 k z = up (up M 120 k z) 120 10 p := by
  funext c j
  by_cases h1 : c = 120
  · subst h1
    rw [qup_f, qup_f, qup_f, qup_f]
    simp only [qset]
    split <;> split <;> first | rfl | omega
  · rw [qup_n h1, qup_n h1, qup_n h1, qup_n h1]
theorem d_readItemA {lo hi place : Int} (ht : qTp L B) (hx : qXm M b2 g L B) (h11 : M 120 11 = -1) (q0 : 0 ≤ q) (q1 : q < L) (x1 : inR lo) (x2 : inR hi) (hp : 0 ≤ place ∧ place < 24) (hy : (qnum B L 2 (q + 1) lo hi).1 = -1 → Q 0 ((b0, b1, b2), up (up M 126 place (qnum B L 2 (q + 1) lo hi).2.1) 120 10 (qnum B L 2 (q + 1) lo hi).2.2)) (hf : ¬ (qnum B L 2 (q + 1) lo hi).1 = -1 → ∀ m', qFr qFmr M m' → m' 120 11 = (qnum B L 2 (q + 1) lo hi).1 → Q 0 ((b0, b1, b2), m')) : bC xs 2 199 [vr 120, vr 126, vi place, vi lo, vi hi] ((b0, b1, b2), up M 120 10 q) Q := by
  refine qC rfl fun d hd => r_X12_readItemA_0 hd ?_
  have hb := ht.1
  have hT := qbT b2
  simp only [qup_s, qup_up]
  refine d_look ht hx (by omega) (by omega) ⟨rfl, d_isDigit ht hx (by have := qsk_bd (B := B) (L := L) (q + 1) (by omega); omega) (by have := qsk_bd (B := B) (L := L) (q + 1) (by omega); omega) ?_⟩
  have h1 := qsk_bd (B := B) (L := L) (q + 1) (by omega)
  have cc := qpk_c (p := q + 1) ht (by omega) (by omega)
  have fr : ∀ (r f : Int), qFr qFmr M (up (up M 120 10 r) 120 11 f) := fun r f => qFr_up (qFr_up qFr.refl (by unfold qFmr; omega)) (by unfold qFmr; omega)
  unfold qnum at hy hf
  generalize qsk B L (q + 1) = s at *
  generalize qpk B L (q + 1) = c at *
  simp (disch := omega) only [qup_s, qup_o, qup_n, qup_up, h11]
  by_cases d0 : qdg B L s
  · have d0' := d0
    unfold qdg at d0'
    have e0 := cc.resolve_left (by omega)
    rw [if_pos d0]
    refine ⟨trivial, by omega, fun _ => d_isDigit ht hx (by omega) (by omega) ?_, fun h => by omega⟩
    simp (disch := omega) only [qup_s, qup_o, qup_n, qup_up, h11, hx.1, hx.2.1]
    by_cases d1 : qdg B L (s + 1)
    · have d1' := d1
      unfold qdg at d1'
      rw [if_pos d1]
      have ex := hx.2.2.2 (s + 1) (by omega) (by omega)
      have eb := ht.2 (s + 1) (by omega) (by omega)
      have x3 := hx.2.2.1
      rw [ex, (qsb_c eb).1]
      refine ⟨trivial, by omega, fun h => by omega, fun _ => ⟨by omega, by omega, fun h => by omega, fun _ => ⟨by omega, d_isDigit ht hx (by omega) (by omega) ?_⟩⟩⟩
      simp (disch := omega) only [qup_s, qup_o, qup_n, qup_up, h11]
      have er : qnl B L 2 0 s = (10 * (c - 48) + B (s + 1) - 48, s + 1 + 1) := by
        rw [qnl, if_pos d0, qnl, if_pos d1, qnl]
        refine Prod.ext ?_ rfl
        dsimp only
        omega
      rw [er] at hy hf
      unfold qnmr at hy hf
      dsimp only at hy hf
      by_cases d2 : qdg B L (s + 1 + 1)
      · rw [if_pos (Or.inr d2)] at hy hf
        rw [if_pos d2]
        have hf := hf (by dsimp only; omega) _ (fr (s + 1 + 1) (s + 1 + 1)) qup_s
        (with_reducible repeat' (first | exact True.intro | apply And.intro | intro _))
        all_goals first | omega | exact absurd trivial (by assumption) | exact hf
      · rw [if_neg (by rintro (h | h); omega; exact d2 h)] at hy hf
        rw [if_neg d2]
        by_cases dr : lo ≤ 10 * (c - 48) + B (s + 1) - 48 ∧ 10 * (c - 48) + B (s + 1) - 48 ≤ hi
        · rw [if_pos dr] at hy
          have hy := hy rfl
          rw [← qup_d (by omega)] at hy
          (with_reducible repeat' (first | exact True.intro | apply And.intro | intro _))
          all_goals first | omega | exact absurd trivial (by assumption) | exact hy
        · rw [if_neg dr] at hf
          have hf := hf (by dsimp only; omega) _ (fr (s + 1 + 1 - 1) (s + 1 + 1 - 1)) qup_s
          (with_reducible repeat' (first | exact True.intro | apply And.intro | intro _))
          all_goals first | omega | exact absurd trivial (by assumption) | exact hf
    · rw [if_neg d1]
      refine ⟨trivial, by omega, fun _ => d_isDigit ht hx (by omega) (by omega) ?_, fun h => by omega⟩
      simp (disch := omega) only [qup_s, qup_o, qup_n, qup_up, h11]
      rw [if_neg d1]
      have er : qnl B L 2 0 s = (c - 48, s + 1) := by
        rw [qnl, if_pos d0, qnl, if_neg d1]
        refine Prod.ext ?_ rfl
        dsimp only
        omega
      rw [er] at hy hf
      unfold qnmr at hy hf
      dsimp only at hy hf
      rw [if_neg (by rintro (h | h); omega; exact d1 h)] at hy hf
      by_cases dr : lo ≤ c - 48 ∧ c - 48 ≤ hi
      · rw [if_pos dr] at hy
        have hy := hy rfl
        rw [← qup_d (by omega)] at hy
        (with_reducible repeat' (first | exact True.intro | apply And.intro | intro _))
        all_goals first | omega | exact absurd trivial (by assumption) | exact hy
      · rw [if_neg dr] at hf
        have hf := hf (by dsimp only; omega) _ (fr (s + 1 - 1) (s + 1 - 1)) qup_s
        (with_reducible repeat' (first | exact True.intro | apply And.intro | intro _))
        all_goals first | omega | exact absurd trivial (by assumption) | exact hf
  · rw [if_neg d0]
    have er : qnl B L 2 0 s = (0, s) := by rw [qnl, if_neg d0]
    rw [er] at hf
    unfold qnmr at hf
    dsimp only at hf
    rw [if_pos (Or.inl rfl)] at hf
    have hf := hf (by dsimp only; omega) _ (fr s s) qup_s
    (with_reducible repeat' (first | exact True.intro | apply And.intro | intro _))
    all_goals first | omega | exact absurd trivial (by assumption) | exact hf
theorem d_readItemB {lo hi place : Int} (ht : qTp L B) (hx : qXm M b2 g L B) (h11 : M 120 11 = -1) (q0 : 0 ≤ q) (q1 : q < L) (x1 : inR lo) (x2 : inR hi) (hp : 0 ≤ place ∧ place < 36) (hy : (qnum B L 2 (q + 1) lo hi).1 = -1 → Q 0 ((b0, b1, b2), up (up M 130 place (qnum B L 2 (q + 1) lo hi).2.1) 120 10 (qnum B L 2 (q + 1) lo hi).2.2)) (hf : ¬ (qnum B L 2 (q + 1) lo hi).1 = -1 → ∀ m', qFr qFmr M m' → m' 120 11 = (qnum B L 2 (q + 1) lo hi).1 → Q 0 ((b0, b1, b2), m')) : bC xs 2 199 [vr 120, vr 130, vi place, vi lo, vi hi] ((b0, b1, b2), up M 120 10 q) Q := by
  refine qC rfl fun d hd => r_X12_readItemB_0 hd ?_
  have hb := ht.1
  have hT := qbT b2
  simp only [qup_s, qup_up]
  refine d_look ht hx (by omega) (by omega) ⟨rfl, d_isDigit ht hx (by have := qsk_bd (B := B) (L := L) (q + 1) (by omega); omega) (by have := qsk_bd (B := B) (L := L) (q + 1) (by omega); omega) ?_⟩
  have h1 := qsk_bd (B := B) (L := L) (q + 1) (by omega)
  have cc := qpk_c (p := q + 1) ht (by omega) (by omega)
  have fr : ∀ (r f : Int), qFr qFmr M (up (up M 120 10 r) 120 11 f) := fun r f => qFr_up (qFr_up qFr.refl (by unfold qFmr; omega)) (by unfold qFmr; omega)
  unfold qnum at hy hf
  generalize qsk B L (q + 1) = s at *
  generalize qpk B L (q + 1) = c at *
  simp (disch := omega) only [qup_s, qup_o, qup_n, qup_up, h11]
  by_cases d0 : qdg B L s
  · have d0' := d0
    unfold qdg at d0'
    have e0 := cc.resolve_left (by omega)
    rw [if_pos d0]
    refine ⟨trivial, by omega, fun _ => d_isDigit ht hx (by omega) (by omega) ?_, fun h => by omega⟩
    simp (disch := omega) only [qup_s, qup_o, qup_n, qup_up, h11, hx.1, hx.2.1]
    by_cases d1 : qdg B L (s + 1)
    · have d1' := d1
      unfold qdg at d1'
      rw [if_pos d1]
      have ex := hx.2.2.2 (s + 1) (by omega) (by omega)
      have eb := ht.2 (s + 1) (by omega) (by omega)
      have x3 := hx.2.2.1
      rw [ex, (qsb_c eb).1]
      refine ⟨trivial, by omega, fun h => by omega, fun _ => ⟨by omega, by omega, fun h => by omega, fun _ => ⟨by omega, d_isDigit ht hx (by omega) (by omega) ?_⟩⟩⟩
      simp (disch := omega) only [qup_s, qup_o, qup_n, qup_up, h11]
      have er : qnl B L 2 0 s = (10 * (c - 48) + B (s + 1) - 48, s + 1 + 1) := by
        rw [qnl, if_pos d0, qnl, if_pos d1, qnl]
        refine Prod.ext ?_ rfl
        dsimp only
        omega
      rw [er] at hy hf
      unfold qnmr at hy hf
      dsimp only at hy hf
      by_cases d2 : qdg B L (s + 1 + 1)
      · rw [if_pos (Or.inr d2)] at hy hf
        rw [if_pos d2]
        have hf := hf (by dsimp only; omega) _ (fr (s + 1 + 1) (s + 1 + 1)) qup_s
        (with_reducible repeat' (first | exact True.intro | apply And.intro | intro _))
        all_goals first | omega | exact absurd trivial (by assumption) | exact hf
      · rw [if_neg (by rintro (h | h); omega; exact d2 h)] at hy hf
        rw [if_neg d2]
        by_cases dr : lo ≤ 10 * (c - 48) + B (s + 1) - 48 ∧ 10 * (c - 48) + B (s + 1) - 48 ≤ hi
        · rw [if_pos dr] at hy
          have hy := hy rfl
          rw [← qup_d (by omega)] at hy
          (with_reducible repeat' (first | exact True.intro | apply And.intro | intro _))
          all_goals first | omega | exact absurd trivial (by assumption) | exact hy
        · rw [if_neg dr] at hf
          have hf := hf (by dsimp only; omega) _ (fr (s + 1 + 1 - 1) (s + 1 + 1 - 1)) qup_s
          (with_reducible repeat' (first | exact True.intro | apply And.intro | intro _))
          all_goals first | omega | exact absurd trivial (by assumption) | exact hf
    · rw [if_neg d1]
      refine ⟨trivial, by omega, fun _ => d_isDigit ht hx (by omega) (by omega) ?_, fun h => by omega⟩
      simp (disch := omega) only [qup_s, qup_o, qup_n, qup_up, h11]
      rw [if_neg d1]
      have er : qnl B L 2 0 s = (c - 48, s + 1) := by
        rw [qnl, if_pos d0, qnl, if_neg d1]
        refine Prod.ext ?_ rfl
        dsimp only
        omega
      rw [er] at hy hf
      unfold qnmr at hy hf
      dsimp only at hy hf
      rw [if_neg (by rintro (h | h); omega; exact d1 h)] at hy hf
      by_cases dr : lo ≤ c - 48 ∧ c - 48 ≤ hi
      · rw [if_pos dr] at hy
        have hy := hy rfl
        rw [← qup_d (by omega)] at hy
        (with_reducible repeat' (first | exact True.intro | apply And.intro | intro _))
        all_goals first | omega | exact absurd trivial (by assumption) | exact hy
      · rw [if_neg dr] at hf
        have hf := hf (by dsimp only; omega) _ (fr (s + 1 - 1) (s + 1 - 1)) qup_s
        (with_reducible repeat' (first | exact True.intro | apply And.intro | intro _))
        all_goals first | omega | exact absurd trivial (by assumption) | exact hf
  · rw [if_neg d0]
    have er : qnl B L 2 0 s = (0, s) := by rw [qnl, if_neg d0]
    rw [er] at hf
    unfold qnmr at hf
    dsimp only at hf
    rw [if_pos (Or.inl rfl)] at hf
    have hf := hf (by dsimp only; omega) _ (fr s s) qup_s
    (with_reducible repeat' (first | exact True.intro | apply And.intro | intro _))
    all_goals first | omega | exact absurd trivial (by assumption) | exact hf
end MW
