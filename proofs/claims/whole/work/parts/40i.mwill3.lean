/-! B: the reference reads a will: things, clauses, all -/
section MW3
variable {xs : List Int32} {d : Nat} {Q : bPo} {b b0 b1 b2 : Bool} {m : Nat → Int → Int} {nT nH : Int} {T P E U N : Int → Int} {t s h k : Int}
variable {M : Nat → Int → Int} {B : Int → Int} {L p q g : Int} {σ : qSt}
theorem d_readThing (ht : qTp L B) (hx : qXm M b2 g L B) (hs : qMs M σ) (hr : qRl σ) (h6 : σ 0 9 < 6) (h11 : M 120 11 = -1) (p0 : 0 ≤ p) (p1 : p ≤ L) (hy : (qTH B L σ p).1 = -1 → ∀ M', qFr qFms M M' → qMs M' (qTH B L σ p).2.1 → Q 0 ((b0, b1, b2), up M' 120 10 (qTH B L σ p).2.2)) (hrep : (qTH B L σ p).1 = -1 → qdg B L (qTH B L σ p).2.2 → ∀ m', qFr qFmr M m' → m' 120 11 = (qTH B L σ p).2.2 → Q 0 ((b0, b1, b2), m')) (hf : ¬ (qTH B L σ p).1 = -1 → ∀ m', qFr qFmr M m' → m' 120 11 = (qTH B L σ p).1 → Q 0 ((b0, b1, b2), m')) : bC xs 8 202 [vr 120] ((b0, b1, b2), up M 120 10 p) Q := by
  refine qC rfl fun d hd => r_X12_readThing_0 hd ?_
  have hb := ht.1
  have hA := hr.1
  have e29 : M 120 29 = σ 0 9 := by rw [hs.2.2.2.2.1]; exact hA.2.1.1
  have hA1 := hA.1
  simp (disch := omega) only [qup_o, e29]
  rw [qup_e (by omega), qup_d (by omega), qup_d (by omega), qup_d (by omega)]
  have hf1 : qFr qFms M (up (up (up (up M 120 29 (σ 0 9 + 1)) 126 (4 * σ 0 9) 10) 126 (4 * σ 0 9 + 1) 30) 126 (4 * σ 0 9 + 2) 0) := qFr_up (qFr_up (qFr_up (qFr_up qFr.refl (by unfold qFms; omega)) (by unfold qFms; omega)) (by unfold qFms; omega)) (by unfold qFms; omega)
  have hs1 : qMs (up (up (up (up M 120 29 (σ 0 9 + 1)) 126 (4 * σ 0 9) 10) 126 (4 * σ 0 9 + 1) 30) 126 (4 * σ 0 9 + 2) 0) (qadt σ) := by
    unfold qadt
    exact qMs_up (by omega) (qMs_up (by omega) (qMs_up (by omega) (qMs_ct (qMs_cl (by omega) (qMs_cl (by omega) (qMs_cl (by omega) (qMs_cl (by omega) (qMs_cl (by omega) (qMs_cl (by omega) (qMs_cl (by omega) hs))))))))))
  have hx1 := qXm_fr hf1 hx
  have h111 : (up (up (up (up M 120 29 (σ 0 9 + 1)) 126 (4 * σ 0 9) 10) 126 (4 * σ 0 9 + 1) 30) 126 (4 * σ 0 9 + 2) 0) 120 11 = -1 := by rw [hf1 120 11 (by unfold qFms; omega)]; exact h11
  have hbd := qTI_bd (t := σ 0 9) ht 3 0 (qadt σ) p p0 p1
  unfold qTH at hy hrep hf
  generalize hg : σ 0 9 = t at *
  generalize hM1 : (up (up (up (up M 120 29 (t + 1)) 126 (4 * t) 10) 126 (4 * t + 1) 30) 126 (4 * t + 2) 0) = M1 at *
  refine ⟨by omega, by omega, by omega, d_readItemsA (by omega) ht hx1 hs1 h111 p0 p1 ?_ ?_ ?_⟩
  · intro ok hit M2 f2 s2
    generalize qTI B L t 3 0 (qadt σ) p = r at *
    have rb : p ≤ r.2.2 ∧ r.2.2 ≤ L := by unfold qOkr at hbd; omega
    have k1 := qsk_bd (B := B) r.2.2 rb.2
    have kc := qpk_c ht (show 0 ≤ r.2.2 by omega) rb.2
    have hf2 : qFr qFms M M2 := hf1.trans f2
    have hx2 := qXm_fr hf2 hx
    have h112 : M2 120 11 = -1 := by rw [hf2 120 11 (by unfold qFms; omega)]; exact h11
    unfold qTHb at hy hrep hf
    rw [if_neg (by omega)] at hy hrep hf
    simp (disch := omega) only [qup_s, qup_o, qup_n, h112]
    refine ⟨trivial, by omega, fun _ => d_look ht hx2 (by omega) (by omega) ?_, fun h => by first | omega | exact absurd trivial h⟩
    rw [qsk_sk rb.2, qpk_sk rb.2]
    simp (disch := omega) only [qup_s, qup_o, qup_n, qup_up, h112]
    refine ⟨trivial, by omega, fun h58 => ?_, fun h58 => ?_⟩
    · rw [if_pos h58] at hy hrep hf
      refine d_readSteps (by omega) ht hx2 s2 h112 (by omega) (by omega) ?_ ?_ ?_
      · exact fun ok M3 f3 s3 => ⟨rfl, hy ok M3 (hf2.trans f3) s3⟩
      · exact fun ok dg m3 f3 e3 => ⟨rfl, hrep ok dg m3 ((qFms_r hf2).trans f3) e3⟩
      · exact fun ok m3 f3 e3 => ⟨rfl, hf ok m3 ((qFms_r hf2).trans f3) e3⟩
    · rw [if_neg h58] at hf
      exact ⟨by omega, fun h => by first | omega | exact absurd trivial h, fun _ => hf (by dsimp only; omega) _ (qFr_up (qFr_up (qFms_r hf2) (by unfold qFmr; omega)) (by unfold qFmr; omega)) qup_s⟩
  · intro ok hit m2 f2 e2
    generalize qTI B L t 3 0 (qadt σ) p = r at *
    have rb : p ≤ r.2.2 ∧ r.2.2 ≤ L := by unfold qOkr at hbd; omega
    have k1 := qsk_bd (B := B) r.2.2 rb.2
    have hv := qtit_v (qpk B L r.2.2)
    unfold qTHb at hf
    rw [if_neg (by omega), if_neg (by omega)] at hf
    dsimp only
    rw [e2]
    refine ⟨rfl, by omega, fun h => by first | omega | exact absurd trivial h, fun _ => hf (by dsimp only; omega) m2 ((qFms_r hf1).trans f2) e2⟩
  · intro ok m2 f2 e2
    generalize qTI B L t 3 0 (qadt σ) p = r at *
    unfold qTHb at hf
    rw [if_pos ok] at hf
    dsimp only
    rw [e2]
    have rb : 0 ≤ r.1 ∧ r.1 ≤ L := by unfold qOkr at hbd; omega
    exact ⟨rfl, by omega, fun h => absurd h ok, fun _ => hf ok m2 ((qFms_r hf1).trans f2) e2⟩
theorem d_readClause (ht : qTp L B) (hx : qXm M b2 g L B) (hs : qMs M σ) (hr : qRl σ) (h11 : M 120 11 = -1) (p0 : 0 ≤ p) (p1 : p ≤ L) (hy : (qCL B L σ p).1 = -1 → ∀ M', qFr qFms M M' → qMs M' (qCL B L σ p).2.1 → Q 0 ((b0, b1, b2), up M' 120 10 (qCL B L σ p).2.2)) (hyk : (qCL B L σ p).1 = -1 → ∀ M', qFr qFms M M' → qMs M' (qCL B L σ p).2.1 → Q 0 ((b0, b1, b2), up M' 120 10 (qsk B L (qCL B L σ p).2.2))) (hrep : (qCL B L σ p).1 = -1 → ¬ qpk B L (qCL B L σ p).2.2 = -1 → ¬ qpk B L (qCL B L σ p).2.2 = 59 → ∀ m', qFr qFmr M m' → m' 120 11 = qsk B L (qCL B L σ p).2.2 → Q 0 ((b0, b1, b2), m')) (hf : ¬ (qCL B L σ p).1 = -1 → ∀ m', qFr qFmr M m' → m' 120 11 = (qCL B L σ p).1 → Q 0 ((b0, b1, b2), m')) : bC xs 9 203 [vr 120] ((b0, b1, b2), up M 120 10 p) Q := by
  refine qC rfl fun d hd => r_X12_readClause_0 hd ?_
  have hb := ht.1
  have h1 := qsk_bd (B := B) p p1
  have cc := qpk_c ht p0 p1
  have hA := hr.1.1
  have hA2 := hr.1.2.1
  have e29 : M 120 29 = σ 0 9 := by rw [hs.2.2.2.2.1]; exact hA2.1
  have e30 : M 120 30 = σ 0 10 := by rw [hs.2.2.2.2.2.1]; exact hA2.2.1
  have e31 : M 120 31 = σ 0 11 := by rw [hs.2.2.2.2.2.2]; exact hA2.2.2
  refine d_look ht hx p0 p1 ?_
  simp (disch := omega) only [qup_s, qup_o, qup_n, qup_up, h11, e29, e30, e31]
  have flt : (qCL B L σ p).1 = qsk B L p → Q 0 ((b0, b1, b2), up (up M 120 10 (qsk B L p)) 120 11 (qsk B L p)) := by
    intro e
    exact hf (by omega) _ (qFr_up (qFr_up qFr.refl (by unfold qFmr; omega)) (by unfold qFmr; omega)) (by rw [qup_s, e])
  have go : ((qpk B L p = 116 ∧ σ 0 9 < 6) ∨ (qpk B L p = 104 ∧ σ 0 10 < 6) ∨ (qpk B L p = 103 ∧ σ 0 11 < 4)) → bGo xs d aM_X12_readClause 65 [vr 120, vi (qpk B L p), vn, vn] [] ((b0, b1, b2), up M 120 10 (qsk B L p)) Q := by
    intro hcase
    refine r_X12_readClause_65 hd ?_
    simp (disch := omega) only [qup_s, qup_o, qup_n, qup_up, h11, e30, e31]
    rcases hcase with ⟨hc, hn⟩ | ⟨hc, hn⟩ | ⟨hc, hn⟩
    · unfold qCL at hy hrep hf
      rw [if_pos hc, if_pos hn] at hy hrep hf
      refine ⟨by omega, fun h => by first | omega | exact absurd trivial h, fun _ => d_readThing ht hx hs hr hn h11 (by omega) (by omega) ?_ ?_ ?_⟩
      · exact fun ok M3 f3 s3 => ⟨rfl, hy ok M3 f3 s3⟩
      · intro ok dg m3 f3 e3
        have dg' := dg
        unfold qdg at dg'
        have e5 : qsk B L (qTH B L σ (qsk B L p + 1)).2.2 = (qTH B L σ (qsk B L p + 1)).2.2 := qsk_n (by omega)
        have e6 : qpk B L (qTH B L σ (qsk B L p + 1)).2.2 = B (qTH B L σ (qsk B L p + 1)).2.2 := by unfold qpk; rw [e5, if_pos dg'.1]
        refine ⟨rfl, hrep ok (by rw [e6]; omega) (by rw [e6]; omega) m3 f3 ?_⟩
        rw [e3, e5]
      · exact fun ok m3 f3 e3 => ⟨rfl, hf ok m3 f3 e3⟩
    · unfold qCL at hyk hrep hf
      rw [if_neg (by omega), if_pos hc, if_pos hn] at hyk hrep hf
      refine ⟨by omega, fun _ => ⟨by omega, fun h => by first | omega | exact absurd trivial h, fun _ => ?_⟩, fun h => by first | omega | exact absurd trivial h⟩
      rw [qup_e (by omega)]
      have st : ∀ (M1 : Nat → Int → Int) (x : Int), 0 ≤ x → x < 6 → M1 120 30 = σ 0 10 + 1 → bGo xs d aM_X12_readClause 106 [vr 120, vn, vn, vi (x + 1)] [] ((b0, b1, b2), up (up M1 130 (6 * σ 0 10 + x) 0) 120 10 (qsk B L p + 1)) Q → bGo xs d aM_X12_readClause 106 [vr 120, vn, vn, vi x] [] ((b0, b1, b2), up M1 120 10 (qsk B L p + 1)) Q := by
        intro M1 x x0 x1 e hn'
        refine r_X12_readClause_106 hd ?_
        simp (disch := omega) only [qup_s, qup_o, qup_n, qup_up, e]
        rw [show 6 * (σ 0 10 + 1 - 1) + x = 6 * σ 0 10 + x by omega, qup_d (by omega)]
        exact ⟨by omega, fun h => by first | omega | exact absurd trivial h, fun _ => ⟨by omega, hn'⟩⟩
      have k30 : ∀ M1 : Nat → Int → Int, ∀ k z, M1 120 30 = σ 0 10 + 1 → (up M1 130 k z) 120 30 = σ 0 10 + 1 := fun M1 k z h => by rw [qup_n (by omega)]; exact h
      have b30 : (up M 120 30 (σ 0 10 + 1)) 120 30 = σ 0 10 + 1 := qup_s
      refine st _ 0 (by omega) (by omega) b30 (st _ (0 + 1) (by omega) (by omega) (k30 _ _ _ b30) (st _ (0 + 1 + 1) (by omega) (by omega) (k30 _ _ _ (k30 _ _ _ b30)) (st _ (0 + 1 + 1 + 1) (by omega) (by omega) (k30 _ _ _ (k30 _ _ _ (k30 _ _ _ b30))) (st _ (0 + 1 + 1 + 1 + 1) (by omega) (by omega) (k30 _ _ _ (k30 _ _ _ (k30 _ _ _ (k30 _ _ _ b30)))) (st _ (0 + 1 + 1 + 1 + 1 + 1) (by omega) (by omega) (k30 _ _ _ (k30 _ _ _ (k30 _ _ _ (k30 _ _ _ (k30 _ _ _ b30))))) ?_)))))
      obtain ⟨M1, hM1⟩ : ∃ M1, M1 = up (up (up (up (up (up (up M 120 30 (σ 0 10 + 1)) 130 (6 * σ 0 10 + 0) 0) 130 (6 * σ 0 10 + (0 + 1)) 0) 130 (6 * σ 0 10 + (0 + 1 + 1)) 0) 130 (6 * σ 0 10 + (0 + 1 + 1 + 1)) 0) 130 (6 * σ 0 10 + (0 + 1 + 1 + 1 + 1)) 0) 130 (6 * σ 0 10 + (0 + 1 + 1 + 1 + 1 + 1)) 0 := ⟨_, rfl⟩
      have hf1 : qFr qFms M M1 := by
        rw [hM1]
        exact qFr_up (qFr_up (qFr_up (qFr_up (qFr_up (qFr_up (qFr_up qFr.refl (by unfold qFms; omega)) (by unfold qFms; omega)) (by unfold qFms; omega)) (by unfold qFms; omega)) (by unfold qFms; omega)) (by unfold qFms; omega)) (by unfold qFms; omega)
      have e130 : M1 120 30 = σ 0 10 + 1 := by rw [hM1]; exact k30 _ _ _ (k30 _ _ _ (k30 _ _ _ (k30 _ _ _ (k30 _ _ _ (k30 _ _ _ b30)))))
      have er : M1 130 = qz6 (σ 0 10) (M 130) := by
        rw [hM1, qup_f, qup_f, qup_f, qup_f, qup_f, qup_f, qup_n (by omega)]
        rfl
      have hs1 : qMs M1 (qadh σ) := by
        obtain ⟨a1, a2, a3, a4, a5, a6, a7⟩ := hs
        refine ⟨?_, ?_, ?_, ?_, ?_, ?_, ?_⟩
        · show M1 126 = σ 126
          rw [hM1]; simp (disch := omega) only [qup_n]; exact a1
        · show M1 128 = σ 128
          rw [hM1]; simp (disch := omega) only [qup_n]; exact a2
        · show M1 130 = qz6 (σ 0 10) (σ 130)
          rw [er, a3]
        · show M1 132 = σ 132
          rw [hM1]; simp (disch := omega) only [qup_n]; exact a4
        · show M1 120 29 = _
          have : qadh σ 120 29 = σ 120 29 := by unfold qadh qrw; rw [if_neg (by omega)]; simp (disch := omega) only [qup_o, qup_n]
          rw [this, ← a5, hM1]; simp (disch := omega) only [qup_n, qup_o]
        · have : qadh σ 120 30 = σ 0 10 + 1 := by unfold qadh qrw; rw [if_neg (by omega), qup_s]
          rw [this, e130]
        · have : qadh σ 120 31 = σ 120 31 := by unfold qadh qrw; rw [if_neg (by omega)]; simp (disch := omega) only [qup_o, qup_n]
          rw [this, ← a7, hM1]; simp (disch := omega) only [qup_n, qup_o]
      rw [← hM1]
      have hx1 := qXm_fr hf1 hx
      have h111 : M1 120 11 = -1 := by rw [hf1 120 11 (by unfold qFms; omega)]; exact h11
      have hbd := qHI_bd (t := σ 0 10) ht 6 0 (qadh σ) (qsk B L p + 1) (by omega) (by omega)
      refine r_X12_readClause_106 hd ?_
      simp (disch := omega) only [qup_s, qup_o, qup_n, qup_up, e130]
      rw [show 6 * (σ 0 10 + 1 - 1) = 6 * σ 0 10 by omega]
      refine ⟨by omega, fun _ => d_readItemsB (by omega) ht hx1 hs1 h111 (by omega) (by omega) ?_ ?_ ?_, fun h => by first | omega | exact absurd trivial h⟩
      · intro ok _ M3 f3 s3
        exact ⟨rfl, hyk ok M3 (hf1.trans f3) s3⟩
      · intro ok hit m3 f3 e3
        have hv := qhit_v (qpk B L (qHI B L (σ 0 10) 6 0 (qadh σ) (qsk B L p + 1)).2.2)
        have hv2 := qtrd_v (qpk B L (qHI B L (σ 0 10) 6 0 (qadh σ) (qsk B L p + 1)).2.2)
        exact ⟨rfl, hrep ok (by omega) (by omega) m3 ((qFms_r hf1).trans f3) e3⟩
      · exact fun ok m3 f3 e3 => ⟨rfl, hf ok m3 ((qFms_r hf1).trans f3) e3⟩
    · unfold qCL at hy hf
      rw [if_neg (by omega), if_neg (by omega), if_pos hc, if_pos hn] at hy hf
      have h2 := qsk_bd (B := B) (L := L) (qsk B L p + 1) (by omega)
      have cc2 := qpk_c (p := qsk B L p + 1) ht (by omega) (by omega)
      have hv := qtrd_v (qpk B L (qsk B L p + 1))
      refine ⟨by omega, fun _ => ⟨by omega, fun _ => d_look ht hx (by omega) (by omega) ?_, fun h => by first | omega | exact absurd trivial h⟩, fun h => by first | omega | exact absurd trivial h⟩
      rw [qbPl3]
      simp (disch := omega) only [qup_s, qup_o, qup_n, qup_up, h11, e31]
      refine ⟨trivial, by omega, by omega, fun h => ⟨by omega, by omega, ?_⟩, fun h => ⟨by omega, fun h2 => by first | omega | exact absurd trivial h2, fun _ => ?_⟩⟩
      · rw [if_neg h] at hy
        rw [qup_e (by omega), qup_d (by omega)]
        refine hy rfl _ (qFr_up (qFr_up qFr.refl (by unfold qFms; omega)) (by unfold qFms; omega)) ?_
        unfold qtl
        have := qMs_ct (k := 31) (z := σ 0 11 + 1) (qMs_up (a := 132) (k := qtrd (qpk B L (qsk B L p + 1))) (z := σ 132 (qtrd (qpk B L (qsk B L p + 1))) + 1) (by omega) (qMs_cl (a := 0) (k := 11) (z := σ 0 11 + 1) (by omega) (qMs_cl (a := 7) (k := qtrd (qpk B L (qsk B L p + 1))) (z := σ 7 (qtrd (qpk B L (qsk B L p + 1))) + 1) (by omega) hs)))
        rw [hs.2.2.2.1, qup_comm (by omega)]
        exact this
      · rw [if_pos h] at hf
        exact hf (by dsimp only; omega) _ (qFr_up (qFr_up qFr.refl (by unfold qFmr; omega)) (by unfold qFmr; omega)) qup_s
  unfold qCL at flt
  refine ⟨trivial, by omega, ?_⟩
  (with_reducible repeat' (first | exact True.intro | apply And.intro | intro _))
  all_goals first | omega | exact absurd trivial (by assumption) | exact go (by omega) | skip
  all_goals refine flt ?_
  all_goals first | (rw [if_neg (by omega), if_neg (by omega), if_neg (by omega)]) | (rw [if_neg (by omega), if_neg (by omega), if_pos (by omega), if_neg (by omega)]) | (rw [if_neg (by omega), if_pos (by omega), if_neg (by omega)]) | (rw [if_pos (by omega), if_neg (by omega)])
end MW3
