/-! B: the class reads a will: heirs, tools, clauses, all -/
section CW2
variable {xs : List Int32} {d : Nat} {Q : bPo} {b b0 b1 b2 : Bool} {m : Nat → Int → Int} {nT nH : Int} {T P E U N : Int → Int} {t s h k : Int}
variable {M : Nat → Int → Int} {B : Int → Int} {L p : Int} {σ : qSt}
theorem c_readHeir (ht : qTp L B) (hc : qTc M L B) (hs : qCs M (bW b) σ) (t0 : 0 ≤ σ 0 10) (p0 : 0 ≤ p) (p1 : p < L) (hy : (if σ 0 10 < 6 then qHI B L (σ 0 10) 6 0 (qadh σ) (p + 1) else (p, σ, p)).1 = -1 → ∀ M', qFr (qFw (bW b)) M M' → qCs M' (bW b) (if σ 0 10 < 6 then qHI B L (σ 0 10) 6 0 (qadh σ) (p + 1) else (p, σ, p)).2.1 → Q 1 ((b0, b1, b2), up M' 1 2 (if σ 0 10 < 6 then qHI B L (σ 0 10) 6 0 (qadh σ) (p + 1) else (p, σ, p)).2.2)) (hf : ¬ (if σ 0 10 < 6 then qHI B L (σ 0 10) 6 0 (qadh σ) (p + 1) else (p, σ, p)).1 = -1 → ∀ M' q, qFr (qFw (bW b)) M M' → Q 0 ((b0, b1, b2), up (up M' 1 2 q) 1 3 (if σ 0 10 < 6 then qHI B L (σ 0 10) 6 0 (qadh σ) (p + 1) else (p, σ, p)).1)) (h6 : inR (σ 0 10)) : bC xs 3 124 [vr 3, vr (bW b)] ((b0, b1, b2), up M 1 2 p) Q := by
  refine qC rfl fun d hd => r_X10_readHeir_0 hd ?_
  have hw := qW b
  have hb := ht.1
  have e0 := hs 0 (by omega)
  rw [Nat.add_zero] at e0
  simp (disch := omega) only [qup_n, qup_s, qup_up, e0]
  by_cases h5 : σ 0 10 < 6
  · rw [if_pos h5] at hy hf
    refine ⟨h6, fun _ => ⟨by omega, ?_⟩, fun h => by omega⟩
    rw [qup_c (by omega), qup_c (by omega)]
    have hs0 : qCs (up (up M (bW b) 10 (σ 0 10 + 1)) (bW b + 6) (σ 0 10) 0) (bW b) (qadh σ) := by
      unfold qadh
      exact qCs_rw (by omega) (qCs_mo (by omega) (qCs_up (by omega) (qCs_0 hs)))
    have hf0 : qFr (qFw (bW b)) M (up (up M (bW b) 10 (σ 0 10 + 1)) (bW b + 6) (σ 0 10) 0) := qFr_up (qFr_up qFr.refl (by unfold qFw; omega)) (by unfold qFw; omega)
    generalize σ 0 10 = h at *
    obtain ⟨R, hR⟩ : ∃ R, R = qHI B L h 6 0 (qadh σ) (p + 1) := ⟨_, rfl⟩
    rw [← hR] at hy hf
    suffices H : ∀ (n : Nat) (x4 seen : Int) (M1 : Nat → Int → Int) (σ1 : qSt) (q : Int), x4 + n = 6 → 0 ≤ x4 → qFr (qFw (bW b)) M M1 → qCs M1 (bW b) σ1 → 0 ≤ q → q ≤ L → R = qHI B L h n seen σ1 q → bGo xs d aM_X10_readHeir 34 [vr 3, vr (bW b), vi h, vi seen, vi x4, vn, vn] [] ((b0, b1, b2), up M1 1 2 q) Q from H 6 0 0 _ (qadh σ) (p + 1) (by omega) (by omega) hf0 hs0 (by omega) (by omega) hR
    intro n
    induction n with
    | zero =>
      intro x4 seen M1 σ1 q hx x0 hf1 hs1 q0 q1 he
      rw [qHI] at he
      rw [he] at hy
      exact r_X10_readHeir_34 hd ⟨by omega, fun _ => hy rfl M1 hf1 hs1, fun h => by omega⟩
    | succ n ih =>
      intro x4 seen M1 σ1 q hx x0 hf1 hs1 q0 q1 he
      have hc1 : qTc M1 L B := ⟨by rw [hf1 1 1 (by unfold qFw; omega)]; exact hc.1, by rw [qFr_at hf1 2 (fun k => by unfold qFw; omega)]; exact hc.2⟩
      have h1 := qsk_bd (B := B) q q1
      have cc := qpk_c ht q0 q1
      have hv := qhit_v (qpk B L q)
      have hv2 := qtrd_v (qpk B L q)
      have wa := qAnd_inR (bShr seen (qhit (qpk B L q))) 1
      have hn := qnum_ok (B := B) (L := L) (n := 2) (p := qsk B L q + 1) (lo := 0) (hi := 9)
      rw [qHI] at he
      -- behind the item's letter
      have go : ∀ z, z = qhit (qpk B L q) → ¬ z = -1 → ((¬ bAnd (bShr seen z) 1 = 1 → (bC xs 2 116 [vr 1, vi 2, vi 0, vi 9] ((b0, b1, b2), up M1 1 2 (qsk B L q + 1)) (fun z7 μ8 => (μ8.1 = (b0, b1, b2)) ∧ (inR z7 ∧ ((¬ z7 = (-1) → ((z = 5 → bGo xs d aM_X10_readHeir 34 [vr 3, vr (bW b), vi h, vi (bOrr seen (bShl 1 z)), vi (x4 + 1), vn, vn] [] ((b0, b1, b2), up μ8.2 (bW b + 6) h z7) Q) ∧ (¬ z = 5 → bGo xs d aM_X10_readHeir 34 [vr 3, vr (bW b), vi h, vi (bOrr seen (bShl 1 z)), vi (x4 + 1), vn, vn] [] ((b0, b1, b2), up μ8.2 (bW b + 9) (36 + h * 5 + z) (μ8.2 (bW b + 9) (36 + h * 5 + z) + z7)) Q))) ∧ (z7 = (-1) → (Q 0 ((b0, b1, b2), μ8.2)))))))) ∧ (bAnd (bShr seen z) 1 = 1 → Q 1 ((b0, b1, b2), up M1 1 2 (qsk B L q)))) := by
        intro z hz hz1
        subst hz
        refine ⟨fun hns => ?_, fun hsn => ?_⟩
        · rw [if_neg (fun e => e.elim hz1 hns)] at he
          have hn := hn (by omega) (by omega)
          refine c_number (n := 2) (Or.inl rfl) ht hc1 (by omega) (by omega) (by omega) (by omega) (fun hg => ?_) (fun hg => ?_)
          · rw [if_pos hg] at he
            generalize qnum B L 2 (qsk B L q + 1) 0 9 = r at *
            dsimp only
            refine ⟨rfl, by omega, fun _ => ⟨fun h5 => ?_, fun h5 => ?_⟩, fun h => by omega⟩
            · rw [qup_c (by omega)]
              refine ih (x4 + 1) _ _ _ r.2.2 (by omega) (by omega) (qFr_up hf1 (by unfold qFw; omega)) ?_ (by omega) (by omega) he
              unfold qhp
              rw [if_pos h5]
              exact qCs_mo (by omega) (qCs_up (by omega) hs1)
            · rw [qup_n (by omega), hs1 9 (by omega), qup_c (by omega)]
              refine ih (x4 + 1) _ _ _ r.2.2 (by omega) (by omega) (qFr_up hf1 (by unfold qFw; omega)) ?_ (by omega) (by omega) he
              unfold qhp
              rw [if_neg h5]
              exact qCs_mo (by omega) (qCs_up (by omega) hs1)
          · rw [if_neg hg] at he
            rw [he] at hf
            refine ⟨rfl, by omega, fun h => by omega, fun _ => ?_⟩
            exact hf hg M1 _ hf1
        · rw [if_pos (Or.inr hsn)] at he
          rw [he] at hy
          exact hy rfl M1 hf1 hs1
      have stop : qhit (qpk B L q) = -1 → Q 1 ((b0, b1, b2), up M1 1 2 (qsk B L q)) := by
        intro hz
        rw [if_pos (Or.inl hz)] at he
        rw [he] at hy
        exact hy rfl M1 hf1 hs1
      refine r_X10_readHeir_34 hd ⟨by omega, fun h => by omega, fun _ => ?_⟩
      refine c_peek ht hc1 q0 q1 ⟨rfl, by omega, fun h7 => ?_, fun h7 => ?_⟩
      · refine c_peek ht hc1 (by omega) (by omega) ?_
        rw [qsk_sk q1, qpk_sk q1]
        refine ⟨rfl, c_tradeOf (by omega) ⟨rfl, ?_⟩⟩
        simp only [qup_s, qup_up]
        refine ⟨by omega, fun h => stop (by omega), fun h => ?_⟩
        have hg := go (qtrd (qpk B L q)) (by omega) h
        have wa2 := qAnd_inR (bShr seen (qtrd (qpk B L q))) 1
        refine ⟨wa2, fun h2 => ?_, fun h2 => hg.2 h2⟩
        have hg1 := hg.1 h2
        intro M' hM' d' hd'
        obtain ⟨f, v, z, μ', o1, o2, o3, o4, o5⟩ := hg1 M' hM' d' hd'
        refine ⟨f, v, z, μ', o1, o2, o3, o4, fun h3 => ⟨by omega, fun h4 => ⟨by omega, by omega, ?_⟩, fun h4 => by omega⟩, fun h3 => o5.2 h3⟩
        exact (o5.1 h3).2 h4
      · simp only [qup_s, qup_up]
        have e5 : qhit (qpk B L q) = 5 := by omega
        rw [e5] at wa
        have hg := go 5 (by omega) (by omega)
        refine ⟨wa, fun h2 => ?_, fun h2 => hg.2 h2⟩
        have hg1 := hg.1 h2
        intro M' hM' d' hd'
        obtain ⟨f, v, z, μ', o1, o2, o3, o4, o5⟩ := hg1 M' hM' d' hd'
        refine ⟨f, v, z, μ', o1, o2, o3, o4, fun h3 => ⟨by omega, ?_⟩, fun h3 => o5.2 h3⟩
        exact (o5.1 h3).1 rfl
  · rw [if_neg h5] at hy hf
    exact ⟨h6, fun h => by omega, fun _ => hf (by dsimp only; omega) M p qFr.refl⟩
theorem c_readClause (ht : qTp L B) (hc : qTc M L B) (hs : qCs M (bW b) σ) (hr : qRl σ) (p0 : 0 ≤ p) (p1 : p ≤ L) (hy : (qCL B L σ p).1 = -1 → ∀ M', qFr (qFw (bW b)) M M' → qCs M' (bW b) (qCL B L σ p).2.1 → Q 1 ((b0, b1, b2), up M' 1 2 (qCL B L σ p).2.2)) (hf : ¬ (qCL B L σ p).1 = -1 → ∀ M' q, qFr (qFw (bW b)) M M' → Q 0 ((b0, b1, b2), up (up M' 1 2 q) 1 3 (qCL B L σ p).1)) : bC xs 4 119 [vr 3, vr (bW b)] ((b0, b1, b2), up M 1 2 p) Q := by
  refine qC rfl fun d hd => r_X10_readClause_0 hd ?_
  have hw := qW b
  have hb := ht.1
  have h1 := qsk_bd (B := B) p p1
  have cc := qpk_c ht p0 p1
  have hA := hr.1.1
  refine c_peek ht hc p0 p1 ⟨rfl, by omega, fun hg => ?_, fun hg => ⟨fun hh => ?_, fun hh => ⟨fun htt => ?_, fun htt => ?_⟩⟩⟩
  · unfold qCL at hy hf
    rw [if_neg (by omega), if_neg (by omega), if_pos hg] at hy hf
    refine qC rfl fun d hd => r_X10_readTool_0 hd ?_
    have e0 := hs 0 (by omega)
    have e7 := hs 7 (by omega)
    rw [Nat.add_zero] at e0
    simp (disch := omega) only [qup_n, qup_s, qup_up, e0]
    by_cases h4 : σ 0 11 < 4
    · rw [if_pos h4] at hy hf
      have h2 := qsk_bd (B := B) (L := L) (qsk B L p + 1) (by omega)
      have cc2 := qpk_c (p := qsk B L p + 1) ht (by omega) (by omega)
      have hv := qtrd_v (qpk B L (qsk B L p + 1))
      refine ⟨by omega, fun _ => c_peek ht hc (by omega) (by omega) ⟨rfl, c_tradeOf (by omega) ⟨rfl, ?_⟩⟩, fun h => by omega⟩
      simp (disch := omega) only [qup_n, qup_s, qup_up, e0, e7]
      have yes : ¬ qtrd (qpk B L (qsk B L p + 1)) = -1 → Q 1 ((b0, b1, b2), up (up (up M 1 2 (qsk B L (qsk B L p + 1) + 1)) (bW b + 7) (qtrd (qpk B L (qsk B L p + 1))) (σ 7 (qtrd (qpk B L (qsk B L p + 1))) + 1)) (bW b) 11 (σ 0 11 + 1)) := by
        intro h
        rw [if_neg h] at hy
        rw [qup_c (by omega), qup_c (by omega)]
        refine hy rfl _ (qFr_up (qFr_up qFr.refl (by unfold qFw; omega)) (by unfold qFw; omega)) ?_
        unfold qtl
        exact qCs_mo (by omega) (qCs_mo (by omega) (qCs_0 (qCs_up (by omega) hs)))
      have no : qtrd (qpk B L (qsk B L p + 1)) = -1 → Q 0 ((b0, b1, b2), up (up M 1 2 (qsk B L (qsk B L p + 1))) 1 3 (qsk B L (qsk B L p + 1))) := by
        intro h
        rw [if_pos h] at hf
        exact hf (by dsimp only; omega) M _ qFr.refl
      (with_reducible repeat' (first | exact True.intro | apply And.intro | intro _))
      all_goals first | omega | rfl | exact Or.inl trivial | exact Or.inr trivial | exact yes (by omega) | exact no (by omega)
    · rw [if_neg h4] at hy hf
      have no := hf (by dsimp only; omega) M (qsk B L p) qFr.refl
      (with_reducible repeat' (first | exact True.intro | apply And.intro | intro _))
      all_goals first | omega | rfl | exact Or.inl trivial | exact Or.inr trivial | exact no
  · unfold qCL at hy hf
    rw [if_neg (by omega), if_pos hh] at hy hf
    refine c_readHeir ht hc hs (by omega) (by omega) (by omega) (fun h M' f s => ⟨rfl, by omega, hy h M' f s⟩) (fun h M' q f => ⟨rfl, by omega, hf h M' q f⟩) (by omega)
  · unfold qCL at hy hf
    rw [if_pos htt] at hy hf
    refine c_readThing ht hc hs (by omega) (fun t a b c => (hr.2.2.2.2.1 t c a b).1) (by omega) (by omega) (fun h M' f s => ⟨rfl, by omega, hy h M' f s⟩) (fun h M' q f => ⟨rfl, by omega, hf h M' q f⟩) (by omega)
  · unfold qCL at hy hf
    rw [if_neg htt, if_neg hh, if_neg hg] at hy hf
    simp only [qup_s]
    exact hf (by dsimp only; omega) M _ qFr.refl
theorem qwh_z {σ : qSt} : ∀ t, t ≤ σ 0 9 → qfold (fun t a => if σ 9 (0 + t) ≤ σ 3 t then a else 0) (σ 0 9) t (0 : Int) = 0 := by
  refine qUpto ?_
  intro t ht ih
  by_cases h : t < σ 0 9
  · rw [qfold_lt h, show (if σ 9 (0 + t) ≤ σ 3 t then (0 : Int) else 0) = 0 by split <;> rfl]
    exact ih h
  · exact qfold_ge (by omega)
theorem c_isWhole (hs : qCs M (bW b) σ) (hr : qRl σ) (hQ : Q (if qwh σ = 1 ∧ 0 < σ 0 9 ∧ 0 < σ 0 10 then 1 else 0) ((b0, b1, b2), up M 1 2 p)) : bC xs 1 40 [vr (bW b)] ((b0, b1, b2), up M 1 2 p) Q := by
  refine qC rfl fun d hd => r_X4_isWhole_0 hd ?_
  have hw := qW b
  have hA := hr.1.1
  have e0 := hs 0 (by omega)
  rw [Nat.add_zero] at e0
  have e9 := hs 9 (by omega)
  have e3 := hs 3 (by omega)
  suffices H : ∀ t, t ≤ σ 0 9 → 0 ≤ t → qwh σ = qfold (fun t a => if σ 9 (0 + t) ≤ σ 3 t then a else 0) (σ 0 9) t 1 → bGo xs d aM_X4_isWhole 2 [vr (bW b), vi t] [] ((b0, b1, b2), up M 1 2 p) Q from H 0 (by omega) (by omega) rfl
  refine qUpto ?_
  intro t ht ih t0 he
  refine r_X4_isWhole_2 hd ?_
  simp (disch := omega) only [qup_n, e0, e9, e3]
  by_cases hlt : t < σ 0 9
  · obtain ⟨q0, q1, _⟩ := hr.2.1 t t0 hlt
    unfold qT0 at q0
    unfold qF1 at q1
    rw [qfold_lt hlt] at he
    refine ⟨by omega, by omega, fun h => by omega, fun _ => ⟨by omega, by omega, by omega, by omega, fun h => ?_, fun h => ?_⟩⟩
    · rw [if_pos h] at he
      exact ih hlt (by omega) he
    · rw [if_neg (by omega), qwh_z _ (by omega)] at he
      rw [if_neg (by omega)] at hQ
      exact hQ
  · rw [qfold_ge (by omega)] at he
    (with_reducible repeat' (first | exact True.intro | apply And.intro | intro _))
    all_goals first | omega | exact qQ hQ (by first | rw [if_pos (by omega)] | rw [if_neg (by omega)])
def qFrd (w : Nat) (a : Nat) (k : Int) : Prop := (w ≤ a ∧ a ≤ w + 9) ∨ (a = 1 ∧ (k = 2 ∨ k = 3))
def qz5 (f : Int → Int) : Int → Int := qset (qset (qset (qset (qset f 0 0) 1 0) 2 0) 3 0) 4 0
/-- what reading a will begins with: the reference's rows -/
def qMo0 (m : Nat → Int → Int) (σ : qSt) : Prop := (σ 0 9 = 0 ∧ σ 0 10 = 0 ∧ σ 0 11 = 0) ∧ σ 126 = m 126 ∧ σ 128 = m 128 ∧ σ 130 = m 130 ∧ σ 132 = qz5 (m 132)
theorem c_readWill (ht : qTp L B) (hc : qTc m L B) (hQ : ∀ (σ0 : qSt) m', qRl σ0 → qMo0 m σ0 → qFr (qFrd (bW b)) m m' → ((qWL B L 240 σ0 0).1 = -1 → qCs m' (bW b) (qWL B L 240 σ0 0).2) → Q (qWL B L 240 σ0 0).1 ((b0, b1, b2), m')) : bC xs 5 118 [vr 3, vr (bW b)] ((b0, b1, b2), m) Q := by
  refine qC rfl fun d hd => r_X10_read_0 hd ?_
  have hw := qW b
  have hb := ht.1
  refine c_fillC ?_
  intro m1 f1 z1
  refine ⟨rfl, c_fillD ?_⟩
  intro m2 f2 z2
  refine ⟨rfl, ?_⟩
  dsimp only at f1 f2 ⊢
  have a12 : m2 1 2 = 0 := by
    rw [f2 1 2 (by omega), f1 1 2 (by omega)]
    simp (disch := omega) only [qup_n, qup_o, qup_s]
  have g2 : qFr (qFrd (bW b)) m m2 := by
    refine ((qFr_up (qFr_up (qFr_up (qFr_up (qFr_up qFr.refl ?_) ?_) ?_) ?_) ?_).trans (f1.mono ?_)).trans (f2.mono ?_)
    all_goals first | (intro a k h; unfold qFrd; omega) | (unfold qFrd; omega)
  have hc2 : qTc m2 L B := ⟨by rw [g2 1 1 (by unfold qFrd; omega)]; exact hc.1, by rw [qFr_at g2 2 (fun k => by unfold qFrd; omega)]; exact hc.2⟩
  obtain ⟨σ0, hσ⟩ : ∃ σ0 : qSt, σ0 = fun i => if i ≤ 9 then m2 (bW b + i) else if i = 120 then qset (qset (qset (m 120) 29 0) 30 0) 31 0 else if i = 132 then qz5 (m 132) else m i := ⟨_, rfl⟩
  have s9 : ∀ i, i ≤ 9 → σ0 i = m2 (bW b + i) := fun i hi => by rw [hσ]; exact if_pos hi
  have s120 : σ0 120 = qset (qset (qset (m 120) 29 0) 30 0) 31 0 := by rw [hσ]; rfl
  have s132 : σ0 132 = qz5 (m 132) := by rw [hσ]; rfl
  have hs2 : qCs m2 (bW b) σ0 := fun i hi => (s9 i hi).symm
  have w0 : m2 (bW b) = qset (qset (qset (m (bW b)) 9 0) 10 0) 11 0 := by
    rw [qFr_at f2 (bW b) (fun k => by omega), qFr_at f1 (bW b) (fun k => by omega)]
    rw [qup_f, qup_f, qup_f, qup_n (by omega), qup_n (by omega)]
  have e0 : σ0 0 = qset (qset (qset (m (bW b)) 9 0) 10 0) 11 0 := by rw [s9 0 (by omega), Nat.add_zero, w0]
  have e09 : σ0 0 9 = 0 := by rw [e0]; rfl
  have e010 : σ0 0 10 = 0 := by rw [e0]; rfl
  have e011 : σ0 0 11 = 0 := by rw [e0]; rfl
  have e9 : ∀ k, 0 ≤ k → k < 67 → σ0 9 k = 0 := fun k k0 k1 => by rw [s9 9 (by omega)]; exact z2 k k0 k1
  have e7 : ∀ k, 0 ≤ k → k < 5 → σ0 7 k = 0 := fun k k0 k1 => by rw [s9 7 (by omega), qFr_at f2 (bW b + 7) (fun k => by omega)]; exact z1 k k0 k1
  have hr0 : qRl σ0 := by
    refine ⟨⟨by omega, ⟨by rw [e09, s120]; rfl, by rw [e010, s120]; rfl, by rw [e011, s120]; rfl⟩, e9 _ (by omega) (by omega)⟩, ?_, ?_, ?_, ?_, ?_⟩
    · intro t a b; omega
    · intro t a b; omega
    · intro k k0 k1
      have ez : qz5 (m 132) k = 0 := by
        have : k = 0 ∨ k = 1 ∨ k = 2 ∨ k = 3 ∨ k = 4 := by omega
        rcases this with rfl | rfl | rfl | rfl | rfl <;> rfl
      rw [e011, e7 k k0 k1, s132, ez]
      omega
    · intro t _ a b
      exact ⟨e9 _ (by omega) (by omega), e9 _ (by omega) (by omega), e9 _ (by omega) (by omega)⟩
    · intro h k _ a b c d
      exact e9 _ (by omega) (by omega)
  have hmo : qMo0 m σ0 := ⟨⟨e09, e010, e011⟩, by rw [hσ]; rfl, by rw [hσ]; rfl, by rw [hσ]; rfl, s132⟩
  have hQ := hQ σ0
  obtain ⟨R, hR⟩ : ∃ R, R = qWL B L 240 σ0 0 := ⟨_, rfl⟩
  rw [← hR] at hQ
  have hQ := fun m' => hQ m' hr0 hmo
  have hend : ∀ (M1 : Nat → Int → Int) (σ1 : qSt) (q : Int), qFr (qFrd (bW b)) m M1 → qCs M1 (bW b) σ1 → qRl σ1 → R = (qwf L σ1, σ1) → bC xs 1 40 [vr (bW b)] ((b0, b1, b2), up M1 1 2 q) (fun z5 μ6 => (μ6.1 = (b0, b1, b2)) ∧ (inR z5 ∧ ((z5 = 0 → (Q (μ6.2 1 1) ((b0, b1, b2), μ6.2))) ∧ (¬ z5 = 0 → (Q (-1) ((b0, b1, b2), μ6.2)))))) := by
    intro M1 σ1 q hf1 hs1 hr1 he
    refine c_isWhole hs1 hr1 ?_
    have el : M1 1 1 = L := by rw [hf1 1 1 (by unfold qFrd; omega)]; exact hc.1
    dsimp only
    rw [qup_o (by omega), el]
    have fr : qFr (qFrd (bW b)) m (up M1 1 2 q) := qFr_up hf1 (by unfold qFrd; omega)
    have hcs : qCs (up M1 1 2 q) (bW b) σ1 := qCs_tp (by omega) hs1
    have hQ := hQ _ fr
    rw [he] at hQ
    unfold qwf at hQ
    dsimp only at hQ
    by_cases h : qwh σ1 = 1 ∧ 0 < σ1 0 9 ∧ 0 < σ1 0 10
    · rw [if_pos h]
      rw [if_pos h] at hQ
      exact ⟨rfl, by omega, fun h => by omega, fun _ => hQ (fun _ => hcs)⟩
    · rw [if_neg h]
      rw [if_neg h] at hQ
      exact ⟨rfl, by omega, fun _ => hQ (fun h2 => by omega), fun h => by omega⟩
  suffices H : ∀ (n : Nat) (x2 : Int) (M1 : Nat → Int → Int) (σ1 : qSt) (q : Int), x2 + n = 240 → 0 ≤ x2 → qFr (qFrd (bW b)) m M1 → qCs M1 (bW b) σ1 → qRl σ1 → 0 ≤ q → q ≤ L → R = qWL B L n σ1 q → bGo xs d aM_X10_read 13 [vr 3, vr (bW b), vi x2] [] ((b0, b1, b2), up M1 1 2 q) Q by
    have := H 240 0 m2 σ0 0 (by omega) (by omega) g2 hs2 hr0 (by omega) (by omega) hR
    have ei : up m2 1 2 0 = m2 := by
      have := qup_id (m := m2) (a := 1) (k := 2)
      rw [a12] at this
      exact this
    rw [ei] at this
    exact this
  intro n
  induction n with
  | zero =>
    intro x2 M1 σ1 q hx x0 hf1 hs1 hr1 q0 q1 he
    rw [qWL] at he
    exact r_X10_read_13 hd ⟨by omega, fun _ => hend M1 σ1 q hf1 hs1 hr1 he, fun h => by omega⟩
  | succ n ih =>
    intro x2 M1 σ1 q hx x0 hf1 hs1 hr1 q0 q1 he
    have hc1 : qTc M1 L B := ⟨by rw [hf1 1 1 (by unfold qFrd; omega)]; exact hc.1, by rw [qFr_at hf1 2 (fun k => by unfold qFrd; omega)]; exact hc.2⟩
    rw [qWL] at he
    have hbd := qCL_bd (σ := σ1) ht q0 q1
    have hrl := qCL_rl ht q0 q1 hr1
    refine r_X10_read_13 hd ⟨by omega, fun h => by omega, fun _ => ?_⟩
    generalize hgen : qCL B L σ1 q = r at *
    refine c_readClause ht hc1 hs1 hr1 q0 q1 ?_ ?_
    · rw [hgen]
      intro hok M2 f2 s2
      rw [if_neg (by omega)] at he
      have hf2 : qFr (qFrd (bW b)) m M2 := hf1.trans (f2.mono (fun a k h => by unfold qFw at h; unfold qFrd; omega))
      have hc2 : qTc M2 L B := ⟨by rw [hf2 1 1 (by unfold qFrd; omega)]; exact hc.1, by rw [qFr_at hf2 2 (fun k => by unfold qFrd; omega)]; exact hc.2⟩
      have h1 := qsk_bd (B := B) (L := L) r.2.2 (by omega)
      have cc := qpk_c (p := r.2.2) ht (by omega) (by omega)
      refine ⟨rfl, by omega, fun _ => c_peek ht hc2 (by omega) (by omega) ⟨rfl, by omega, fun hne => ?_, fun heq => ?_⟩, fun h => by omega⟩
      · rw [if_neg hne] at he
        refine c_must ht hc2 (by omega) (by omega) (by omega) ?_ ?_
        · rw [qsk_sk (by omega), qpk_sk (by omega)]
          intro h59
          rw [if_pos h59] at he
          exact ⟨rfl, by omega, fun _ => ih (x2 + 1) M2 r.2.1 (qsk B L r.2.2 + 1) (by omega) (by omega) hf2 s2 (hrl hok) (by omega) (by omega) he, fun h => by omega⟩
        · rw [qsk_sk (by omega), qpk_sk (by omega)]
          intro h59
          rw [if_neg h59] at he
          refine ⟨rfl, by omega, fun h => by omega, fun _ => ?_⟩
          simp only [qup_s]
          have := hQ _ (show qFr (qFrd (bW b)) m (up (up M2 1 2 (qsk B L r.2.2)) 1 3 (qsk B L r.2.2)) from qFr_up (qFr_up hf2 (by unfold qFrd; omega)) (by unfold qFrd; omega))
          rw [he] at this
          exact this (fun h => by dsimp only at h; omega)
      · rw [if_pos heq] at he
        exact hend M2 r.2.1 (qsk B L r.2.2) hf2 s2 (hrl hok) he
    · rw [hgen]
      intro hne M2 q2 f2
      rw [if_pos hne] at he
      have hf2 : qFr (qFrd (bW b)) m M2 := hf1.trans (f2.mono (fun a k h => by unfold qFw at h; unfold qFrd; omega))
      refine ⟨rfl, by omega, fun h => by omega, fun _ => ?_⟩
      simp only [qup_s]
      have := hQ _ (show qFr (qFrd (bW b)) m (up (up M2 1 2 q2) 1 3 r.1) from qFr_up (qFr_up hf2 (by unfold qFrd; omega)) (by unfold qFrd; omega))
      rw [he] at this
      exact this (fun h => absurd h hne)
end CW2
