/-! B: a will, read: heirs, tools, clauses -/
def qbt (s k : Int) : Prop := bAnd (bShr s k) 1 = 1
theorem qbt_f : ∀ s : Fin 64, ∀ i k : Fin 6, (bAnd (bShr (bOrr (s.val : Int) (bShl 1 (i.val : Int))) (k.val : Int)) 1 = 1 ↔ (k.val = i.val ∨ bAnd (bShr (s.val : Int) (k.val : Int)) 1 = 1)) := by decide +kernel
theorem qbt_r : ∀ s : Fin 64, ∀ i : Fin 6, (0 ≤ bOrr (s.val : Int) (bShl 1 (i.val : Int)) ∧ bOrr (s.val : Int) (bShl 1 (i.val : Int)) < 64) ∧ (s.val < 8 → i.val < 3 → bOrr (s.val : Int) (bShl 1 (i.val : Int)) < 8) := by decide +kernel
theorem qbt_or {s i k : Int} (s0 : 0 ≤ s) (s1 : s < 64) (i0 : 0 ≤ i) (i1 : i < 6) (k0 : 0 ≤ k) (k1 : k < 6) : qbt (bOrr s (bShl 1 i)) k ↔ (k = i ∨ qbt s k) := by
  obtain ⟨a, rfl⟩ := Int.eq_ofNat_of_zero_le s0
  obtain ⟨b, rfl⟩ := Int.eq_ofNat_of_zero_le i0
  obtain ⟨c, rfl⟩ := Int.eq_ofNat_of_zero_le k0
  have := qbt_f ⟨a, by omega⟩ ⟨b, by omega⟩ ⟨c, by omega⟩
  unfold qbt
  rw [this]
  constructor
  · rintro (h | h)
    · exact Or.inl (by have : c = b := h; omega)
    · exact Or.inr h
  · rintro (h | h)
    · exact Or.inl (by show c = b; omega)
    · exact Or.inr h
theorem qbt_bd {s i : Int} (s0 : 0 ≤ s) (s1 : s < 64) (i0 : 0 ≤ i) (i1 : i < 6) : (0 ≤ bOrr s (bShl 1 i) ∧ bOrr s (bShl 1 i) < 64) ∧ (s < 8 → i < 3 → bOrr s (bShl 1 i) < 8) := by
  obtain ⟨a, rfl⟩ := Int.eq_ofNat_of_zero_le s0
  obtain ⟨b, rfl⟩ := Int.eq_ofNat_of_zero_le i0
  have := qbt_r ⟨a, by omega⟩ ⟨b, by omega⟩
  exact ⟨this.1, fun h h2 => this.2 (by show a < 8; omega) (by show b < 3; omega)⟩
/-- while an heir is read -/
def qRh (σ : qSt) (h seen : Int) : Prop := qAq σ ∧ (σ 0 10 = h + 1 ∧ 0 ≤ h) ∧ qTq σ (σ 0 9) ∧ qHq σ h ∧ ((σ 6 h = σ 130 (6 * h + 5) ∧ 0 ≤ σ 130 (6 * h + 5) ∧ σ 130 (6 * h + 5) ≤ 9) ∧ qHk σ h ∧ (∀ k, 0 ≤ k → k < 5 → ¬ qbt seen k → σ 9 (36 + h * 5 + k) = 0) ∧ 0 ≤ seen ∧ seen < 64) ∧ qUq σ ∧ qZ1 σ (σ 0 9) ∧ qZ2 σ (h + 1)
section REL2
variable {σ : qSt} {t n h k v seen : Int} {B : Int → Int} {L p : Int}
theorem qRh_rl (hr : qRh σ h seen) : qRl σ := by
  obtain ⟨hA, ⟨e, h0⟩, hT, hH, ⟨h6, hk, _⟩, hU, hZ1, hZ2⟩ := hr
  refine ⟨hA, hT, ?_, hU, hZ1, ?_⟩
  · intro h' a b
    by_cases hh : h' = h
    · subst hh
      exact ⟨h6, hk⟩
    · exact hH h' a (by omega)
  · rw [e]
    exact hZ2
theorem qadh_rh (hr : qRl σ) (h6 : σ 0 10 < 6) : qRh (qadh σ) (σ 0 10) 0 := by
  obtain ⟨⟨hA1, hA2, hA3⟩, hT, hH, hU, hZ1, hZ2⟩ := hr
  obtain ⟨⟨n0, n1⟩, ⟨m0, m1⟩, g0, g1⟩ := hA1
  have f : ∀ j : Nat, ¬ j = 130 → qadh σ j = (up (up (up σ 0 10 (σ 0 10 + 1)) 6 (σ 0 10) 0) 120 30 (σ 0 10 + 1)) j := fun j hj => by unfold qadh qrw; rw [if_neg hj]
  have f130 : qadh σ 130 = qz6 (σ 0 10) (σ 130) := by unfold qadh qrw; rw [if_pos rfl]
  have z6 : ∀ k, 0 ≤ k → k < 6 → qz6 (σ 0 10) (σ 130) (6 * σ 0 10 + k) = 0 := by
    intro k k0 k1
    unfold qz6
    simp only [qset]
    have : k = 0 ∨ k = 1 ∨ k = 2 ∨ k = 3 ∨ k = 4 ∨ k = 5 := by omega
    rcases this with rfl | rfl | rfl | rfl | rfl | rfl <;> simp
  have z6o : ∀ i, ¬ (6 * σ 0 10 ≤ i ∧ i < 6 * σ 0 10 + 6) → qz6 (σ 0 10) (σ 130) i = σ 130 i := by
    intro i hi
    unfold qz6
    rw [qset_o (by omega), qset_o (by omega), qset_o (by omega), qset_o (by omega), qset_o (by omega), qset_o (by omega)]
  have e09 : qadh σ 0 9 = σ 0 9 := by rw [f 0 (by omega)]; simp (disch := omega) only [qup_n, qup_o]
  have e010 : qadh σ 0 10 = σ 0 10 + 1 := by rw [f 0 (by omega)]; simp (disch := omega) only [qup_n, qup_s]
  have e011 : qadh σ 0 11 = σ 0 11 := by rw [f 0 (by omega)]; simp (disch := omega) only [qup_n, qup_o]
  have e9 : qadh σ 9 = σ 9 := by rw [f 9 (by omega)]; simp (disch := omega) only [qup_n]
  have ez := fun k a b => z6 k a b
  refine ⟨⟨by omega, ⟨?_, ?_, ?_⟩, by rw [e9]; exact hA3⟩, ⟨e010, m0⟩, ?_, ?_, ⟨⟨?_, ?_⟩, ?_, ?_, by omega, by omega⟩, ?_, ?_, ?_⟩
  · rw [e09, ← hA2.1, f 120 (by omega)]; simp (disch := omega) only [qup_n, qup_o]
  · rw [e010, f 120 (by omega), qup_s]
  · rw [e011, ← hA2.2.2, f 120 (by omega)]; simp (disch := omega) only [qup_n, qup_o]
  · rw [e09]
    refine qTq_fr (by omega) (fun t a b => ?_) (fun t c a b e => by rw [e9]) (fun t i a b e g => ?_) (fun t s a b e g => ?_) hT
    · rw [f 1 (by omega), f 2 (by omega), f 3 (by omega)]; simp (disch := omega) only [qup_n, and_self]
    · rw [f 126 (by omega)]; simp (disch := omega) only [qup_n]
    · rw [f 4 (by omega), f 5 (by omega), f 128 (by omega)]; simp (disch := omega) only [qup_n, and_self]
  · refine qHq_fr (by omega) (fun h a b => ?_) (fun h k a b c d => by rw [e9]) (fun h k a b c d => ?_) hH
    · rw [f 6 (by omega)]; simp (disch := omega) only [qup_n, qup_o]
    · rw [f130]; exact z6o _ (by omega)
  · rw [f130, z6 5 (by omega) (by omega), f 6 (by omega)]; simp (disch := omega) only [qup_n, qup_s]
  · rw [f130, z6 5 (by omega) (by omega)]; omega
  · intro k k0 k1
    rw [f130, z6 k k0 (by omega), e9]
    exact ⟨hZ2 _ k (by omega) m0 h6 k0 k1, by omega⟩
  · intro k k0 k1 _
    rw [e9]
    exact hZ2 _ k (by omega) m0 h6 k0 k1
  · refine qUq_fr ?_ ?_ e011 hU
    · rw [f 7 (by omega)]; simp (disch := omega) only [qup_n]
    · rw [f 132 (by omega)]; simp (disch := omega) only [qup_n]
  · rw [e09]
    exact qZ1_fr (fun t c a b d e => by rw [e9]) hZ1
  · exact qZ2_fr (fun h k a b c d e => by rw [e9]) (fun h k a b c d e => hZ2 h k (by omega) b c d e)
theorem qhp_rh {it : Int} (i0 : 0 ≤ it) (i1 : it ≤ 5) (hns : ¬ qbt seen it) (hv : 0 ≤ v ∧ v ≤ 9) (hr : qRh σ h seen) : qRh (qhp h it v σ) h (bOrr seen (bShl 1 it)) := by
  obtain ⟨⟨hA1, hA2, hA3⟩, ⟨e10, h0⟩, hT, hH, ⟨h6, hk, hz, s0, s1⟩, hU, hZ1, hZ2⟩ := hr
  obtain ⟨⟨n0, n1⟩, ⟨m0, m1⟩, g0, g1⟩ := hA1
  have sb := qbt_bd s0 s1 i0 (show it < 6 by omega)
  by_cases h5 : it = 5
  · subst h5
    unfold qhp
    rw [if_pos rfl]
    refine ⟨⟨by simp (disch := omega) only [qup_n]; omega, by simp (disch := omega) only [qup_n]; exact hA2, by simp (disch := omega) only [qup_n]; exact hA3⟩, ⟨by simp (disch := omega) only [qup_n]; exact e10, h0⟩, ?_, ?_, ⟨⟨?_, ?_⟩, ?_, ?_, sb.1⟩, ?_, ?_, ?_⟩
    · simp (disch := omega) only [qup_n]
      exact qTq_fr (by omega) (fun t a b => by simp (disch := omega) only [qup_n, and_self]) (fun t c a b e => by simp (disch := omega) only [qup_n]) (fun t i a b e g => by simp (disch := omega) only [qup_n]) (fun t s a b e g => by simp (disch := omega) only [qup_n, and_self]) hT
    · exact qHq_fr (by omega) (fun h' a b => by simp (disch := omega) only [qup_n, qup_o]) (fun h' k a b c d => by simp (disch := omega) only [qup_n]) (fun h' k a b c d => by simp (disch := omega) only [qup_n, qup_o]) hH
    · simp (disch := omega) only [qup_n, qup_s]
    · rw [qup_s]; exact hv
    · intro k k0 k1
      rw [qup_n (by omega), qup_n (by omega), qup_o (by omega), qup_n (by omega)]
      exact hk k k0 k1
    · intro k k0 k1 hb
      rw [qup_n (by omega), qup_n (by omega)]
      exact hz k k0 k1 (fun hb2 => hb ((qbt_or s0 s1 i0 (by omega) k0 (by omega)).mpr (Or.inr hb2)))
    · exact qUq_fr (by simp (disch := omega) only [qup_n]) (by simp (disch := omega) only [qup_n]) (by simp (disch := omega) only [qup_n]) hU
    · simp (disch := omega) only [qup_n]
      exact qZ1_fr (fun t c a b d e => by simp (disch := omega) only [qup_n]) hZ1
    · exact qZ2_fr (fun h k a b c d e => by simp (disch := omega) only [qup_n]) hZ2
  · have ez := hz it i0 (by omega) hns
    unfold qhp
    rw [if_neg h5, ez, Int.zero_add]
    have f9 : ∀ j, ¬ j = 36 + h * 5 + it → (up (up σ 9 (36 + h * 5 + it) v) 130 (6 * h + it) v) 9 j = σ 9 j := fun j hj => by rw [qup_n (by omega), qup_o hj]
    refine ⟨⟨by simp (disch := omega) only [qup_n]; omega, by simp (disch := omega) only [qup_n]; exact hA2, by rw [f9 _ (by omega)]; exact hA3⟩, ⟨by simp (disch := omega) only [qup_n]; exact e10, h0⟩, ?_, ?_, ⟨⟨?_, ?_⟩, ?_, ?_, sb.1⟩, ?_, ?_, ?_⟩
    · simp (disch := omega) only [qup_n]
      exact qTq_fr (by omega) (fun t a b => by simp (disch := omega) only [qup_n, and_self]) (fun t c a b e => f9 _ (by omega)) (fun t i a b e g => by simp (disch := omega) only [qup_n]) (fun t s a b e g => by simp (disch := omega) only [qup_n, and_self]) hT
    · exact qHq_fr (by omega) (fun h' a b => by simp (disch := omega) only [qup_n]) (fun h' k a b c d => f9 _ (by omega)) (fun h' k a b c d => by simp (disch := omega) only [qup_n, qup_o]) hH
    · simp (disch := omega) only [qup_n, qup_o]; exact h6.1
    · rw [qup_o (by omega), qup_n (by omega)]; exact h6.2
    · intro k k0 k1
      by_cases hki : k = it
      · subst hki
        rw [qup_n (by omega), qup_s, qup_s]
        exact ⟨rfl, hv⟩
      · rw [f9 _ (by omega), qup_o (by omega), qup_n (by omega)]
        exact hk k k0 k1
    · intro k k0 k1 hb
      have hki : ¬ k = it := fun e => hb ((qbt_or s0 s1 i0 (by omega) k0 (by omega)).mpr (Or.inl e))
      rw [f9 _ (by omega)]
      exact hz k k0 k1 (fun hb2 => hb ((qbt_or s0 s1 i0 (by omega) k0 (by omega)).mpr (Or.inr hb2)))
    · exact qUq_fr (by simp (disch := omega) only [qup_n]) (by simp (disch := omega) only [qup_n]) (by simp (disch := omega) only [qup_n]) hU
    · simp (disch := omega) only [qup_n]
      exact qZ1_fr (fun t c a b d e => f9 _ (by omega)) hZ1
    · exact qZ2_fr (fun h' k a b c d e => f9 _ (by omega)) hZ2
theorem qtl_rl {tr : Int} (htr : 0 ≤ tr ∧ tr ≤ 4) (h4 : σ 0 11 < 4) (hr : qRl σ) : qRl (qtl tr σ) := by
  obtain ⟨⟨hA1, hA2, hA3⟩, hT, hH, hU, hZ1, hZ2⟩ := hr
  obtain ⟨⟨n0, n1⟩, ⟨m0, m1⟩, g0, g1⟩ := hA1
  unfold qtl
  have e09 : (up (up (up (up σ 7 tr (σ 7 tr + 1)) 0 11 (σ 0 11 + 1)) 132 tr (σ 132 tr + 1)) 120 31 (σ 0 11 + 1)) 0 9 = σ 0 9 := by simp (disch := omega) only [qup_n, qup_o]
  have e010 : (up (up (up (up σ 7 tr (σ 7 tr + 1)) 0 11 (σ 0 11 + 1)) 132 tr (σ 132 tr + 1)) 120 31 (σ 0 11 + 1)) 0 10 = σ 0 10 := by simp (disch := omega) only [qup_n, qup_o]
  have e011 : (up (up (up (up σ 7 tr (σ 7 tr + 1)) 0 11 (σ 0 11 + 1)) 132 tr (σ 132 tr + 1)) 120 31 (σ 0 11 + 1)) 0 11 = σ 0 11 + 1 := by simp (disch := omega) only [qup_n, qup_s]
  refine ⟨⟨by rw [e09, e010, e011]; omega, ⟨?_, ?_, ?_⟩, by simp (disch := omega) only [qup_n]; exact hA3⟩, ?_, ?_, ?_, ?_, ?_⟩
  · rw [e09, ← hA2.1]; simp (disch := omega) only [qup_n, qup_o]
  · rw [e010, ← hA2.2.1]; simp (disch := omega) only [qup_n, qup_o]
  · rw [e011, qup_s]
  · rw [e09]
    exact qTq_fr (by omega) (fun t a b => by simp (disch := omega) only [qup_n, and_self]) (fun t c a b e => by simp (disch := omega) only [qup_n]) (fun t i a b e g => by simp (disch := omega) only [qup_n]) (fun t s a b e g => by simp (disch := omega) only [qup_n, and_self]) hT
  · rw [e010]
    exact qHq_fr (by omega) (fun h' a b => by simp (disch := omega) only [qup_n]) (fun h' k a b c d => by simp (disch := omega) only [qup_n]) (fun h' k a b c d => by simp (disch := omega) only [qup_n]) hH
  · intro k k0 k1
    rw [e011]
    have a := hU k k0 k1
    by_cases hk : k = tr
    · subst hk
      simp (disch := omega) only [qup_n, qup_s]
      omega
    · simp (disch := omega) only [qup_n, qup_o]
      omega
  · rw [e09]
    exact qZ1_fr (fun t c a b d e => by simp (disch := omega) only [qup_n]) hZ1
  · rw [e010]
    exact qZ2_fr (fun h k a b c d e => by simp (disch := omega) only [qup_n]) hZ2
/-! what a whole reading leaves -/
theorem qTI_rp (ht : qTp L B) : ∀ (n : Nat) (seen : Int) (σ : qSt) (p : Int), 0 ≤ p → p ≤ L → qRp σ t 0 → (qTI B L t n seen σ p).1 = -1 → qRp (qTI B L t n seen σ p).2.1 t 0 := by
  intro n
  induction n with
  | zero => intro seen σ p p0 p1 hr _; exact hr
  | succ n ih =>
    intro seen σ p p0 p1 hr hok
    rw [qTI] at hok ⊢
    have h1 := qsk_bd (B := B) p p1
    have hc := qpk_c ht p0 p1
    have hv := qtit_v (qpk B L p)
    split at hok
    · rename_i hA
      rw [if_pos hA]
      exact hr
    · rename_i hA
      rw [if_neg hA]
      have hn := qnum_ok (B := B) (L := L) (n := 2) (p := qsk B L p + 1) (lo := qlo (qtit (qpk B L p))) (hi := qhi (qtit (qpk B L p))) (by omega) (by omega)
      split at hok
      · rename_i hB
        rw [if_pos hB]
        exact ih _ _ _ (by omega) (by omega) (qput_rp (by omega) (by omega) hr) hok
      · rename_i hB
        exact absurd hok hB
theorem qST_rl (ht : qTp L B) : ∀ (n : Nat) (k : Int) (σ : qSt) (p : Int), k + n = 9 → 0 ≤ k → k ≤ 8 → 0 ≤ p → p ≤ L → qRp σ t k → (qST B L t n k σ p).1 = -1 → qRl (qST B L t n k σ p).2.1 := by
  intro n
  induction n with
  | zero => intro k σ p hk k0 k8; omega
  | succ n ih =>
    intro k σ p hk k0 k8 p0 p1 hr hok
    rw [qST] at hok ⊢
    have h1 := qsk_bd (B := B) p p1
    have hc := qpk_c ht p0 p1
    have hv := qtrd_v (qpk B L p)
    split at hok
    · rename_i hA
      rw [if_pos hA]
      exact qstl_rl hA.2 hr
    · rename_i hA
      rw [if_neg hA]
      split at hok
      · exact absurd hok (by dsimp only; omega)
      · rename_i hB
        rw [if_neg hB]
        have h2 := qsk_bd (B := B) (L := L) (qsk B L p + 1) (by omega)
        have hc2 := qpk_c (p := qsk B L p + 1) ht (by omega) (by omega)
        split at hok
        · exact absurd hok (by dsimp only; omega)
        · rename_i hC
          rw [if_neg hC]
          exact ih _ _ _ (by omega) (by omega) (by omega) (by omega) (by omega) (qstp_rp (by omega) (by omega) (by omega) hr) hok
theorem qHI_rl (ht : qTp L B) : ∀ (n : Nat) (seen : Int) (σ : qSt) (p : Int), 0 ≤ p → p ≤ L → qRh σ h seen → (qHI B L h n seen σ p).1 = -1 → qRl (qHI B L h n seen σ p).2.1 := by
  intro n
  induction n with
  | zero => intro seen σ p p0 p1 hr _; exact qRh_rl hr
  | succ n ih =>
    intro seen σ p p0 p1 hr hok
    rw [qHI] at hok ⊢
    have h1 := qsk_bd (B := B) p p1
    have hc := qpk_c ht p0 p1
    have hv := qhit_v (qpk B L p)
    have hw := qtrd_v (qpk B L p)
    split at hok
    · rename_i hA
      rw [if_pos hA]
      exact qRh_rl hr
    · rename_i hA
      rw [if_neg hA]
      have hn := qnum_ok (B := B) (L := L) (n := 2) (p := qsk B L p + 1) (lo := 0) (hi := 9) (by omega) (by omega)
      split at hok
      · rename_i hB
        rw [if_pos hB]
        exact ih _ _ _ (by omega) (by omega) (qhp_rh (by omega) (by omega) (fun hb => hA (Or.inr hb)) (by omega) hr) hok
      · rename_i hB
        exact absurd hok hB
theorem qCL_rl (ht : qTp L B) (p0 : 0 ≤ p) (p1 : p ≤ L) (hr : qRl σ) (hok : (qCL B L σ p).1 = -1) : qRl (qCL B L σ p).2.1 := by
  have h1 := qsk_bd (B := B) p p1
  have hc := qpk_c ht p0 p1
  unfold qCL at hok ⊢
  split at hok
  · rename_i hA
    rw [if_pos hA]
    split at hok
    · rename_i hB
      rw [if_pos hB]
      unfold qTH qTHb at hok ⊢
      have hbd := qTI_bd (t := σ 0 9) ht 3 0 (qadt σ) (qsk B L p + 1) (by omega) (by omega)
      split at hok
      · rename_i hC
        exact absurd hok hC
      · rename_i hC
        rw [if_neg hC]
        have hC : (qTI B L (σ 0 9) 3 0 (qadt σ) (qsk B L p + 1)).1 = -1 := by omega
        have hrp := qTI_rp ht 3 0 (qadt σ) (qsk B L p + 1) (by omega) (by omega) (qadt_rp hr hB) hC
        have hb2 : qsk B L p + 1 ≤ (qTI B L (σ 0 9) 3 0 (qadt σ) (qsk B L p + 1)).2.2 ∧ (qTI B L (σ 0 9) 3 0 (qadt σ) (qsk B L p + 1)).2.2 ≤ L := by
          unfold qOkr at hbd; omega
        have h2 := qsk_bd (B := B) (L := L) (qTI B L (σ 0 9) 3 0 (qadt σ) (qsk B L p + 1)).2.2 hb2.2
        have hc2 := qpk_c (p := (qTI B L (σ 0 9) 3 0 (qadt σ) (qsk B L p + 1)).2.2) ht (by omega) hb2.2
        split at hok
        · rename_i hD
          rw [if_pos hD]
          exact qST_rl ht 9 0 _ _ (by omega) (by omega) (by omega) (by omega) (by omega) hrp hok
        · exact absurd hok (by dsimp only; omega)
    · exact absurd hok (by dsimp only; omega)
  · rename_i hA
    rw [if_neg hA]
    split at hok
    · rename_i hB
      rw [if_pos hB]
      split at hok
      · rename_i hC
        rw [if_pos hC]
        exact qHI_rl ht 6 0 (qadh σ) (qsk B L p + 1) (by omega) (by omega) (qadh_rh hr hC) hok
      · exact absurd hok (by dsimp only; omega)
    · rename_i hB
      rw [if_neg hB]
      split at hok
      · rename_i hC
        rw [if_pos hC]
        split at hok
        · rename_i hD
          rw [if_pos hD]
          have hc2 := qpk_c (p := qsk B L p + 1) ht (by omega) (by omega)
          have h2 := qsk_bd (B := B) (L := L) (qsk B L p + 1) (by omega)
          have hv := qtrd_v (qpk B L (qsk B L p + 1))
          split at hok
          · exact absurd hok (by dsimp only; omega)
          · rename_i hE
            rw [if_neg hE]
            exact qtl_rl (by omega) hD hr
        · exact absurd hok (by dsimp only; omega)
      · exact absurd hok (by dsimp only; omega)
end REL2
