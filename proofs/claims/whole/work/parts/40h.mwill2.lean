/-! B: the reference reads items, steps, things -/
section MW2
variable {xs : List Int32} {d : Nat} {Q : bPo} {b b0 b1 b2 : Bool} {m : Nat → Int → Int} {nT nH : Int} {T P E U N : Int → Int} {t s h k : Int}
variable {M : Nat → Int → Int} {B : Int → Int} {L p q g : Int} {σ : qSt}
theorem d_readItemsA {t : Int} (t0 : 0 ≤ t ∧ t < 6) (ht : qTp L B) (hx : qXm M b2 g L B) (hs : qMs M σ) (h11 : M 120 11 = -1) (p0 : 0 ≤ p) (p1 : p ≤ L) (hy : (qTI B L t 3 0 σ p).1 = -1 → qtit (qpk B L (qTI B L t 3 0 σ p).2.2) = -1 → ∀ M', qFr qFms M M' → qMs M' (qTI B L t 3 0 σ p).2.1 → Q 0 ((b0, b1, b2), up M' 120 10 (qsk B L (qTI B L t 3 0 σ p).2.2))) (hrep : (qTI B L t 3 0 σ p).1 = -1 → ¬ qtit (qpk B L (qTI B L t 3 0 σ p).2.2) = -1 → ∀ m', qFr qFmr M m' → m' 120 11 = qsk B L (qTI B L t 3 0 σ p).2.2 → Q 0 ((b0, b1, b2), m')) (hf : ¬ (qTI B L t 3 0 σ p).1 = -1 → ∀ m', qFr qFmr M m' → m' 120 11 = (qTI B L t 3 0 σ p).1 → Q 0 ((b0, b1, b2), m')) : bC xs 7 200 [vr 120, vr 126, vi (4 * t), vr 2002, vi 1] ((b0, b1, b2), up M 120 10 p) Q := by
  refine qC rfl fun d hd => r_X12_readItemsA_0 hd ?_
  have hb := ht.1
  have h1 := qsk_bd (B := B) p p1
  have cc := qpk_c ht p0 p1
  obtain ⟨R, hR⟩ : ∃ R, R = qTI B L t 3 0 σ p := ⟨_, rfl⟩
  rw [← hR] at hy hrep hf
  suffices H : ∀ (n : Nat) (seen : Int) (M1 : Nat → Int → Int) (σ1 : qSt) (q : Int), qct seen.toNat + n = 3 → 0 ≤ seen → seen < 8 → qFr qFms M M1 → qMs M1 σ1 → 0 ≤ q → q ≤ L → R = qTI B L t n seen σ1 q → bGo xs d aM_X12_readItems 13 [vr 120, vr 126, vi (4 * t), vr 2002, vi 1, vi seen, vi (qtit (qpk B L q))] [] ((b0, b1, b2), up M1 120 10 (qsk B L q)) Q by
    refine d_look ht hx p0 p1 ⟨rfl, by omega, ?_⟩
    rw [qbPl2]
    exact H 3 0 M σ p rfl (by omega) (by omega) qFr.refl hs p0 p1 hR
  intro n
  induction n with
  | zero =>
    intro seen M1 σ1 q hct s0 s1 hf1 hs1 q0 q1 he
    rw [qTI] at he
    rw [he] at hy hrep
    have k1 := qsk_bd (B := B) q q1
    have kc := qpk_c ht q0 q1
    have hv := qtit_v (qpk B L q)
    have h111 : M1 120 11 = -1 := by rw [hf1 120 11 (by unfold qFms; omega)]; exact h11
    refine r_X12_readItemsA_13 hd ?_
    simp (disch := omega) only [qup_s, qup_o, qup_n, h111]
    have wa := qAnd_inR (bShr seen (qtit (qpk B L q))) 1
    by_cases hi : qtit (qpk B L q) = -1
    · have hy := hy rfl hi M1 hf1 hs1
      (with_reducible repeat' (first | exact True.intro | apply And.intro | intro _))
      all_goals first | omega | exact absurd trivial (by assumption) | exact hy
    · have hc := qct_v s0 (show seen < 64 by omega) (show 0 ≤ qtit (qpk B L q) by omega) (by omega)
      have hbit : bAnd (bShr seen (qtit (qpk B L q))) 1 = 1 := hc.2.2 (by omega) (by omega) (by omega)
      have hrep := hrep rfl hi (up (up M1 120 10 (qsk B L q)) 120 11 (qsk B L q)) (qFr_up (qFr_up (qFms_r hf1) (by unfold qFmr; omega)) (by unfold qFmr; omega)) qup_s
      (with_reducible repeat' (first | exact True.intro | apply And.intro | intro _))
      all_goals first | omega | exact absurd trivial (by assumption) | exact hrep
  | succ n ih =>
    intro seen M1 σ1 q hct s0 s1 hf1 hs1 q0 q1 he
    rw [qTI] at he
    have k1 := qsk_bd (B := B) q q1
    have kc := qpk_c ht q0 q1
    have hv := qtit_v (qpk B L q)
    have h111 : M1 120 11 = -1 := by rw [hf1 120 11 (by unfold qFms; omega)]; exact h11
    have hx1 := qXm_fr hf1 hx
    refine r_X12_readItemsA_13 hd ?_
    simp (disch := omega) only [qup_s, qup_o, qup_n, h111]
    have wa := qAnd_inR (bShr seen (qtit (qpk B L q))) 1
    by_cases hi : qtit (qpk B L q) = -1
    · rw [if_pos (Or.inl hi)] at he
      rw [he] at hy
      dsimp only at hy
      rw [qpk_sk q1, qsk_sk q1] at hy
      have hy := hy rfl hi M1 hf1 hs1
      (with_reducible repeat' (first | exact True.intro | apply And.intro | intro _))
      all_goals first | omega | exact absurd trivial (by assumption) | exact hy
    · have hc := qct_v s0 (show seen < 64 by omega) (show 0 ≤ qtit (qpk B L q) by omega) (by omega)
      have hbd := qbt_bd s0 (show seen < 64 by omega) (show 0 ≤ qtit (qpk B L q) by omega) (by omega)
      by_cases hbit : bAnd (bShr seen (qtit (qpk B L q))) 1 = 1
      · rw [if_pos (Or.inr hbit)] at he
        rw [he] at hrep
        dsimp only at hrep
        rw [qpk_sk q1, qsk_sk q1] at hrep
        have hrep := hrep rfl hi (up (up M1 120 10 (qsk B L q)) 120 11 (qsk B L q)) (qFr_up (qFr_up (qFms_r hf1) (by unfold qFmr; omega)) (by unfold qFmr; omega)) qup_s
        (with_reducible repeat' (first | exact True.intro | apply And.intro | intro _))
        all_goals first | omega | exact absurd trivial (by assumption) | exact hrep
      · rw [if_neg (by rintro (h | h); exact hi h; exact hbit h)] at he
        have hn := qnum_ok (B := B) (L := L) (n := 2) (p := qsk B L q + 1) (lo := qlo (qtit (qpk B L q))) (hi := qhi (qtit (qpk B L q))) (by omega) (by omega)
        have go : ∀ lo hi, lo = qlo (qtit (qpk B L q)) → hi = qhi (qtit (qpk B L q)) → bC xs 2 199 [vr 120, vr 126, vi (4 * t + qtit (qpk B L q)), vi lo, vi hi] ((b0, b1, b2), up M1 120 10 (qsk B L q)) (fun z3 μ4 => (μ4.1 = (b0, b1, b2)) ∧ (inR (μ4.2 120 11) ∧ ((¬ μ4.2 120 11 = (-1) → (bGo xs d aM_X12_readItems 13 [vr 120, vr 126, vi (4 * t), vr 2002, vi 1, vi (bOrr seen (bShl 1 (qtit (qpk B L q)))), vi (qtit (qpk B L q))] [] ((b0, b1, b2), μ4.2) Q)) ∧ (μ4.2 120 11 = (-1) → (bC xs 1 180 [vr 120] ((b0, b1, b2), μ4.2) (fun z5 μ6 => (μ6.1 = (b0, b1, b2)) ∧ (inR z5 ∧ (bGo xs d aM_X12_readItems 13 [vr 120, vr 126, vi (4 * t), vr 2002, vi 1, vi (bOrr seen (bShl 1 (qtit (qpk B L q)))), vi (bPl (oTx 2002) z5 0)] [] ((b0, b1, b2), μ6.2) Q)))))))) := by
          intro lo hi el eh
          subst el
          subst eh
          have kb := qlohi (qtit (qpk B L q))
          refine d_readItemA ht hx1 h111 (by omega) (by omega) (by omega) (by omega) (by omega) (fun hg => ?_) (fun hg => ?_)
          · rw [if_pos hg] at he
            generalize qnum B L 2 (qsk B L q + 1) (qlo (qtit (qpk B L q))) (qhi (qtit (qpk B L q))) = r at *
            have hf2 : qFr qFms M (up M1 126 (4 * t + qtit (qpk B L q)) r.2.1) := qFr_up hf1 (by unfold qFms; omega)
            have hx2 := qXm_fr hf2 hx
            simp (disch := omega) only [qup_s, qup_o, qup_n, h111]
            have cc2 := qpk_c (p := r.2.2) ht (by omega) (by omega)
            refine ⟨trivial, by omega, fun h => by first | omega | exact absurd trivial h, fun _ => d_look ht hx2 (by omega) (by omega) ⟨rfl, by omega, ?_⟩⟩
            rw [qbPl2]
            refine ih _ _ _ r.2.2 (by have := hc.1 hbit; omega) hbd.1.1 (by omega) hf2 ?_ (by omega) (by omega) he
            unfold qput
            split
            · exact qMs_up (by omega) (qMs_cl (by omega) hs1)
            · split
              · exact qMs_up (by omega) (qMs_cl (by omega) hs1)
              · exact qMs_up (by omega) (qMs_cl (by omega) hs1)
          · rw [if_neg hg] at he
            generalize qnum B L 2 (qsk B L q + 1) (qlo (qtit (qpk B L q))) (qhi (qtit (qpk B L q))) = r at *
            rw [he] at hf
            intro m' fm em
            dsimp only
            rw [em]
            refine ⟨rfl, by omega, fun h => ?_, fun h => by first | omega | exact absurd trivial h⟩
            refine r_X12_readItemsA_13 hd ?_
            rw [em]
            have hf := hf hg m' ((qFms_r hf1).trans fm) em
            (with_reducible repeat' (first | exact True.intro | apply And.intro | intro _))
            all_goals first | omega | exact absurd trivial (by assumption) | exact hf
        (with_reducible repeat' (first | exact True.intro | apply And.intro | intro _))
        all_goals first | omega | exact absurd trivial (by assumption) | exact go _ _ (by unfold qlo; first | rw [if_pos (by omega)] | rw [if_neg (by omega)]) (by unfold qhi; first | rw [if_pos (by omega)] | rw [if_neg (by omega)])
theorem d_readItemsB {t : Int} (t0 : 0 ≤ t ∧ t < 6) (ht : qTp L B) (hx : qXm M b2 g L B) (hs : qMs M σ) (h11 : M 120 11 = -1) (p0 : 0 ≤ p) (p1 : p ≤ L) (hy : (qHI B L t 6 0 σ p).1 = -1 → qhit (qpk B L (qHI B L t 6 0 σ p).2.2) = -1 → ∀ M', qFr qFms M M' → qMs M' (qHI B L t 6 0 σ p).2.1 → Q 0 ((b0, b1, b2), up M' 120 10 (qsk B L (qHI B L t 6 0 σ p).2.2))) (hrep : (qHI B L t 6 0 σ p).1 = -1 → ¬ qhit (qpk B L (qHI B L t 6 0 σ p).2.2) = -1 → ∀ m', qFr qFmr M m' → m' 120 11 = qsk B L (qHI B L t 6 0 σ p).2.2 → Q 0 ((b0, b1, b2), m')) (hf : ¬ (qHI B L t 6 0 σ p).1 = -1 → ∀ m', qFr qFmr M m' → m' 120 11 = (qHI B L t 6 0 σ p).1 → Q 0 ((b0, b1, b2), m')) : bC xs 7 200 [vr 120, vr 130, vi (6 * t), vr 2004, vi 0] ((b0, b1, b2), up M 120 10 p) Q := by
  refine qC rfl fun d hd => r_X12_readItemsB_0 hd ?_
  have hb := ht.1
  have h1 := qsk_bd (B := B) p p1
  have cc := qpk_c ht p0 p1
  obtain ⟨R, hR⟩ : ∃ R, R = qHI B L t 6 0 σ p := ⟨_, rfl⟩
  rw [← hR] at hy hrep hf
  suffices H : ∀ (n : Nat) (seen : Int) (M1 : Nat → Int → Int) (σ1 : qSt) (q : Int), qct seen.toNat + n = 6 → 0 ≤ seen → seen < 64 → qFr qFms M M1 → qMs M1 σ1 → 0 ≤ q → q ≤ L → R = qHI B L t n seen σ1 q → bGo xs d aM_X12_readItems 13 [vr 120, vr 130, vi (6 * t), vr 2004, vi 0, vi seen, vi (qhit (qpk B L q))] [] ((b0, b1, b2), up M1 120 10 (qsk B L q)) Q by
    refine d_look ht hx p0 p1 ⟨rfl, by omega, ?_⟩
    rw [qbPl4]
    exact H 6 0 M σ p rfl (by omega) (by omega) qFr.refl hs p0 p1 hR
  intro n
  induction n with
  | zero =>
    intro seen M1 σ1 q hct s0 s1 hf1 hs1 q0 q1 he
    rw [qHI] at he
    rw [he] at hy hrep
    have k1 := qsk_bd (B := B) q q1
    have kc := qpk_c ht q0 q1
    have hv := qhit_v (qpk B L q)
    have hv2 := qtrd_v (qpk B L q)
    have h111 : M1 120 11 = -1 := by rw [hf1 120 11 (by unfold qFms; omega)]; exact h11
    refine r_X12_readItemsB_13 hd ?_
    simp (disch := omega) only [qup_s, qup_o, qup_n, h111]
    have wa := qAnd_inR (bShr seen (qhit (qpk B L q))) 1
    by_cases hi : qhit (qpk B L q) = -1
    · have hy := hy rfl hi M1 hf1 hs1
      (with_reducible repeat' (first | exact True.intro | apply And.intro | intro _))
      all_goals first | omega | exact absurd trivial (by assumption) | exact hy
    · have hc := qct_v s0 (show seen < 64 by omega) (show 0 ≤ qhit (qpk B L q) by omega) (by omega)
      have hbit : bAnd (bShr seen (qhit (qpk B L q))) 1 = 1 := hc.2.1 (by omega)
      have hrep := hrep rfl hi (up (up M1 120 10 (qsk B L q)) 120 11 (qsk B L q)) (qFr_up (qFr_up (qFms_r hf1) (by unfold qFmr; omega)) (by unfold qFmr; omega)) qup_s
      (with_reducible repeat' (first | exact True.intro | apply And.intro | intro _))
      all_goals first | omega | exact absurd trivial (by assumption) | exact hrep
  | succ n ih =>
    intro seen M1 σ1 q hct s0 s1 hf1 hs1 q0 q1 he
    rw [qHI] at he
    have k1 := qsk_bd (B := B) q q1
    have kc := qpk_c ht q0 q1
    have hv := qhit_v (qpk B L q)
    have hv2 := qtrd_v (qpk B L q)
    have h111 : M1 120 11 = -1 := by rw [hf1 120 11 (by unfold qFms; omega)]; exact h11
    have hx1 := qXm_fr hf1 hx
    refine r_X12_readItemsB_13 hd ?_
    simp (disch := omega) only [qup_s, qup_o, qup_n, h111]
    have wa := qAnd_inR (bShr seen (qhit (qpk B L q))) 1
    by_cases hi : qhit (qpk B L q) = -1
    · rw [if_pos (Or.inl hi)] at he
      rw [he] at hy
      dsimp only at hy
      rw [qpk_sk q1, qsk_sk q1] at hy
      have hy := hy rfl hi M1 hf1 hs1
      (with_reducible repeat' (first | exact True.intro | apply And.intro | intro _))
      all_goals first | omega | exact absurd trivial (by assumption) | exact hy
    · have hc := qct_v s0 (show seen < 64 by omega) (show 0 ≤ qhit (qpk B L q) by omega) (by omega)
      have hbd := qbt_bd s0 (show seen < 64 by omega) (show 0 ≤ qhit (qpk B L q) by omega) (by omega)
      by_cases hbit : bAnd (bShr seen (qhit (qpk B L q))) 1 = 1
      · rw [if_pos (Or.inr hbit)] at he
        rw [he] at hrep
        dsimp only at hrep
        rw [qpk_sk q1, qsk_sk q1] at hrep
        have hrep := hrep rfl hi (up (up M1 120 10 (qsk B L q)) 120 11 (qsk B L q)) (qFr_up (qFr_up (qFms_r hf1) (by unfold qFmr; omega)) (by unfold qFmr; omega)) qup_s
        (with_reducible repeat' (first | exact True.intro | apply And.intro | intro _))
        all_goals first | omega | exact absurd trivial (by assumption) | exact hrep
      · rw [if_neg (by rintro (h | h); exact hi h; exact hbit h)] at he
        have hn := qnum_ok (B := B) (L := L) (n := 2) (p := qsk B L q + 1) (lo := 0) (hi := 9) (by omega) (by omega)
        have go : ∀ lo hi, lo = 0 → hi = 9 → bC xs 2 199 [vr 120, vr 130, vi (6 * t + qhit (qpk B L q)), vi lo, vi hi] ((b0, b1, b2), up M1 120 10 (qsk B L q)) (fun z3 μ4 => (μ4.1 = (b0, b1, b2)) ∧ (inR (μ4.2 120 11) ∧ ((¬ μ4.2 120 11 = (-1) → (bGo xs d aM_X12_readItems 13 [vr 120, vr 130, vi (6 * t), vr 2004, vi 0, vi (bOrr seen (bShl 1 (qhit (qpk B L q)))), vi (qhit (qpk B L q))] [] ((b0, b1, b2), μ4.2) Q)) ∧ (μ4.2 120 11 = (-1) → (bC xs 1 180 [vr 120] ((b0, b1, b2), μ4.2) (fun z5 μ6 => (μ6.1 = (b0, b1, b2)) ∧ (inR z5 ∧ (bGo xs d aM_X12_readItems 13 [vr 120, vr 130, vi (6 * t), vr 2004, vi 0, vi (bOrr seen (bShl 1 (qhit (qpk B L q)))), vi (bPl (oTx 2004) z5 0)] [] ((b0, b1, b2), μ6.2) Q)))))))) := by
          intro lo hi el eh
          subst el
          subst eh
          skip
          refine d_readItemB ht hx1 h111 (by omega) (by omega) (by omega) (by omega) (by omega) (fun hg => ?_) (fun hg => ?_)
          · rw [if_pos hg] at he
            generalize qnum B L 2 (qsk B L q + 1) (0) (9) = r at *
            have hf2 : qFr qFms M (up M1 130 (6 * t + qhit (qpk B L q)) r.2.1) := qFr_up hf1 (by unfold qFms; omega)
            have hx2 := qXm_fr hf2 hx
            simp (disch := omega) only [qup_s, qup_o, qup_n, h111]
            have cc2 := qpk_c (p := r.2.2) ht (by omega) (by omega)
            refine ⟨trivial, by omega, fun h => by first | omega | exact absurd trivial h, fun _ => d_look ht hx2 (by omega) (by omega) ⟨rfl, by omega, ?_⟩⟩
            rw [qbPl4]
            refine ih _ _ _ r.2.2 (by have := hc.1 hbit; omega) hbd.1.1 (by omega) hf2 ?_ (by omega) (by omega) he
            unfold qhp
            split
            · exact qMs_up (by omega) (qMs_cl (by omega) hs1)
            · exact qMs_up (by omega) (qMs_cl (by omega) hs1)
          · rw [if_neg hg] at he
            generalize qnum B L 2 (qsk B L q + 1) (0) (9) = r at *
            rw [he] at hf
            intro m' fm em
            dsimp only
            rw [em]
            refine ⟨rfl, by omega, fun h => ?_, fun h => by first | omega | exact absurd trivial h⟩
            refine r_X12_readItemsB_13 hd ?_
            rw [em]
            have hf := hf hg m' ((qFms_r hf1).trans fm) em
            (with_reducible repeat' (first | exact True.intro | apply And.intro | intro _))
            all_goals first | omega | exact absurd trivial (by assumption) | exact hf
        (with_reducible repeat' (first | exact True.intro | apply And.intro | intro _))
        all_goals first | omega | exact absurd trivial (by assumption) | exact go _ _ (by omega) (by omega)
theorem d_readSteps {t : Int} (t0 : 0 ≤ t ∧ t < 6) (ht : qTp L B) (hx : qXm M b2 g L B) (hs : qMs M σ) (h11 : M 120 11 = -1) (p0 : 0 ≤ p) (p1 : p ≤ L) (hy : (qST B L t 9 0 σ p).1 = -1 → ∀ M', qFr qFms M M' → qMs M' (qST B L t 9 0 σ p).2.1 → Q 0 ((b0, b1, b2), up M' 120 10 (qST B L t 9 0 σ p).2.2)) (hrep : (qST B L t 9 0 σ p).1 = -1 → qdg B L (qST B L t 9 0 σ p).2.2 → ∀ m', qFr qFmr M m' → m' 120 11 = (qST B L t 9 0 σ p).2.2 → Q 0 ((b0, b1, b2), m')) (hf : ¬ (qST B L t 9 0 σ p).1 = -1 → ∀ m', qFr qFmr M m' → m' 120 11 = (qST B L t 9 0 σ p).1 → Q 0 ((b0, b1, b2), m')) : bC xs 7 201 [vr 120, vi t] ((b0, b1, b2), up M 120 10 p) Q := by
  refine qC rfl fun d hd => r_X12_readSteps_0 hd ?_
  have hb := ht.1
  have h1 := qsk_bd (B := B) p p1
  have cc := qpk_c ht p0 p1
  obtain ⟨R, hR⟩ : ∃ R, R = qST B L t 9 0 σ p := ⟨_, rfl⟩
  rw [← hR] at hy hrep hf
  suffices H : ∀ (n : Nat) (k : Int) (M1 : Nat → Int → Int) (σ1 : qSt) (q : Int), k + n = 9 → 0 ≤ k → k ≤ 8 → qFr qFms M M1 → qMs M1 σ1 → 0 ≤ q → q ≤ L → R = qST B L t n k σ1 q → bGo xs d aM_X12_readSteps 12 [vr 120, vi t, vi k, vi (qtrd (qpk B L q)), vn] [] ((b0, b1, b2), up M1 120 10 (qsk B L q)) Q by
    refine d_look ht hx p0 p1 ⟨rfl, by omega, ?_⟩
    rw [qbPl3]
    exact H 9 0 M σ p (by omega) (by omega) (by omega) qFr.refl hs p0 p1 hR
  intro n
  induction n with
  | zero => intro k M1 σ1 q hk; omega
  | succ n ih =>
    intro k M1 σ1 q hk k0 k8 hf1 hs1 q0 q1 he
    rw [qST] at he
    have k1 := qsk_bd (B := B) q q1
    have kc := qpk_c ht q0 q1
    have hv := qtrd_v (qpk B L q)
    have h111 : M1 120 11 = -1 := by rw [hf1 120 11 (by unfold qFms; omega)]; exact h11
    have hx1 := qXm_fr hf1 hx
    have fr : ∀ (r f : Int), qFr qFmr M (up (up M1 120 10 r) 120 11 f) := fun r f => qFr_up (qFr_up (qFms_r hf1) (by unfold qFmr; omega)) (by unfold qFmr; omega)
    refine r_X12_readSteps_12 hd ?_
    simp (disch := omega) only [qup_s, qup_o, qup_n, qup_up, h111]
    by_cases hA : qtrd (qpk B L q) = -1 ∧ 0 < k
    · rw [if_pos hA] at he
      rw [he] at hy
      have hy := hy rfl (up M1 126 (4 * t + 3) k) (qFr_up hf1 (by unfold qFms; omega)) (by unfold qstl; split; exact qMs_up (by omega) (qMs_cl (by omega) (qMs_cl (by omega) hs1)); exact qMs_up (by omega) hs1)
      dsimp only at hy
      rw [← qup_d (by omega)] at hy
      (with_reducible repeat' (first | exact True.intro | apply And.intro | intro _))
      all_goals first | omega | exact absurd trivial (by assumption) | exact hy
    · rw [if_neg hA] at he
      by_cases hB : qtrd (qpk B L q) = -1 ∨ k = 8
      · rw [if_pos hB] at he
        rw [he] at hf
        have hf := hf (by dsimp only; omega) _ (fr (qsk B L q) (qsk B L q)) qup_s
        (with_reducible repeat' (first | exact True.intro | apply And.intro | intro _))
        all_goals first | omega | exact absurd trivial (by assumption) | exact hf
      · rw [if_neg hB] at he
        have h2 := qsk_bd (B := B) (L := L) (qsk B L q + 1) (by omega)
        have cc2 := qpk_c (p := qsk B L q + 1) ht (by omega) (by omega)
        have go : bC xs 1 180 [vr 120] ((b0, b1, b2), up M1 120 10 (qsk B L q + 1)) (fun z3 μ4 => (μ4.1 = (b0, b1, b2)) ∧ (bC xs 1 184 [vr 120] ((b0, b1, b2), μ4.2) (fun z5 μ6 => (μ6.1 = (b0, b1, b2)) ∧ (inR z5 ∧ ((z5 = 0 → (inR (μ6.2 120 11) ∧ ((¬ μ6.2 120 11 = (-1) → (Q 0 ((b0, b1, b2), μ6.2))) ∧ (μ6.2 120 11 = (-1) → (Q 0 ((b0, b1, b2), up μ6.2 120 11 (μ6.2 120 10))))))) ∧ (¬ z5 = 0 → (inR z3 ∧ ((¬ z3 = 48 → ((0 ≤ 2 * ((8 * t) + k) ∧ 2 * ((8 * t) + k) < 96) ∧ ((0 ≤ (2 * ((8 * t) + k)) + 1 ∧ (2 * ((8 * t) + k)) + 1 < 96) ∧ (bC xs 1 184 [vr 120] ((b0, b1, b2), up (up (up μ6.2 128 (2 * ((8 * t) + k)) (qtrd (qpk B L q))) 128 ((2 * ((8 * t) + k)) + 1) (z3 - 48)) 120 10 ((μ6.2 120 10) + 1)) (fun z7 μ8 => (μ8.1 = (b0, b1, b2)) ∧ (inR z7 ∧ ((z7 = 0 → (bC xs 1 180 [vr 120] ((b0, b1, b2), μ8.2) (fun z9 μ10 => (μ10.1 = (b0, b1, b2)) ∧ (inR z9 ∧ (bGo xs d aM_X12_readSteps 12 [vr 120, vi t, vi (k + 1), vi (bPl (oTx 2003) z9 0), vn] [] ((b0, b1, b2), μ10.2) Q))))) ∧ (¬ z7 = 0 → (inR (μ8.2 120 11) ∧ ((¬ μ8.2 120 11 = (-1) → (Q 0 ((b0, b1, b2), μ8.2))) ∧ (μ8.2 120 11 = (-1) → (Q 0 ((b0, b1, b2), up μ8.2 120 11 (μ8.2 120 10)))))))))))))) ∧ (z3 = 48 → (inR (μ6.2 120 11) ∧ ((¬ μ6.2 120 11 = (-1) → (Q 0 ((b0, b1, b2), μ6.2))) ∧ (μ6.2 120 11 = (-1) → (Q 0 ((b0, b1, b2), up μ6.2 120 11 (μ6.2 120 10))))))))))))))) := by
          refine d_look ht hx1 (by omega) (by omega) ⟨rfl, d_isDigit ht hx1 (by omega) (by omega) ?_⟩
          simp (disch := omega) only [qup_s, qup_o, qup_n, qup_up, h111]
          by_cases hC : qpk B L (qsk B L q + 1) - 48 < 1 ∨ 9 < qpk B L (qsk B L q + 1) - 48
          · rw [if_pos hC] at he
            rw [he] at hf
            have hf := hf (by dsimp only; omega) _ (fr (qsk B L (qsk B L q + 1)) (qsk B L (qsk B L q + 1))) qup_s
            by_cases dg : qdg B L (qsk B L (qsk B L q + 1))
            · have dg' := dg
              unfold qdg at dg'
              rw [if_pos dg]
              (with_reducible repeat' (first | exact True.intro | apply And.intro | intro _))
              all_goals first | omega | exact absurd trivial (by assumption) | exact hf
            · rw [if_neg dg]
              (with_reducible repeat' (first | exact True.intro | apply And.intro | intro _))
              all_goals first | omega | exact absurd trivial (by assumption) | exact hf
          · rw [if_neg hC] at he
            have dg : qdg B L (qsk B L (qsk B L q + 1)) := by unfold qdg; omega
            rw [if_pos dg]
            generalize hs2 : qsk B L (qsk B L q + 1) = s2 at *
            generalize hc2 : qpk B L (qsk B L q + 1) = c2 at *
            rw [qup_d (a := 128) (by omega), qup_d (a := 128) (by omega), qup_up]
            have hf2 : qFr qFms M (up (up M1 128 (2 * (8 * t + k)) (qtrd (qpk B L q))) 128 (2 * (8 * t + k) + 1) (c2 - 48)) := qFr_up (qFr_up hf1 (by unfold qFms; omega)) (by unfold qFms; omega)
            have hx2 := qXm_fr hf2 hx
            have hms : qMs (up (up M1 128 (2 * (8 * t + k)) (qtrd (qpk B L q))) 128 (2 * (8 * t + k) + 1) (c2 - 48)) (qstp t k (qtrd (qpk B L q)) (c2 - 48) σ1) := by
              unfold qstp
              exact qMs_up (by omega) (qMs_up (by omega) (qMs_cl (by omega) (qMs_cl (by omega) (qMs_cl (by omega) hs1))))
            refine ⟨trivial, by omega, fun h => by first | omega | exact absurd trivial h, fun _ => ⟨by omega, fun _ => ⟨by omega, by omega, d_isDigit ht hx2 (by omega) (by omega) ?_⟩, fun h => by first | omega | exact absurd trivial h⟩⟩
            simp (disch := omega) only [qup_s, qup_o, qup_n, qup_up, h111]
            by_cases d3 : qdg B L (s2 + 1)
            · have d3' := d3
              unfold qdg at d3'
              rw [if_pos d3]
              have e3 : qsk B L (s2 + 1) = s2 + 1 := qsk_n (by omega)
              have e4 : qpk B L (s2 + 1) = B (s2 + 1) := by unfold qpk; rw [e3, if_pos d3'.1]
              have ht3 := qtrd_v (B (s2 + 1))
              obtain ⟨n', hn'⟩ : ∃ n', n = n' + 1 := ⟨n - 1, by omega⟩
              rw [hn', qST, e4, if_pos ⟨by omega, by omega⟩, e3] at he
              rw [he] at hrep
              have hrep := hrep rfl d3 (up (up (up (up M1 128 (2 * (8 * t + k)) (qtrd (qpk B L q))) 128 (2 * (8 * t + k) + 1) (c2 - 48)) 120 10 (s2 + 1)) 120 11 (s2 + 1)) (qFr_up (qFr_up (qFms_r hf2) (by unfold qFmr; omega)) (by unfold qFmr; omega)) qup_s
              (with_reducible repeat' (first | exact True.intro | apply And.intro | intro _))
              all_goals first | omega | exact absurd trivial (by assumption) | exact hrep
            · rw [if_neg d3]
              have cc3 := qpk_c (p := s2 + 1) ht (by omega) (by omega)
              refine ⟨trivial, by omega, fun _ => d_look ht hx2 (by omega) (by omega) ⟨rfl, by omega, ?_⟩, fun h => by first | omega | exact absurd trivial h⟩
              rw [qbPl3]
              exact ih (k + 1) _ _ (s2 + 1) (by omega) (by omega) (by omega) hf2 hms (by omega) (by omega) he
        (with_reducible repeat' (first | exact True.intro | apply And.intro | intro _))
        all_goals first | omega | exact absurd trivial (by assumption) | exact go
end MW2
