/-! B: the class reads a will -/
theorem qup_comm {m : Nat → Int → Int} {a b : Nat} {k z k' z' : Int} (h : ¬ b = a) : up (up m a k z) b k' z' = up (up m b k' z') a k z := by
  funext c j
  by_cases h1 : c = b
  · subst h1
    rw [qup_f, qup_n h, qup_n h, qup_f]
  · rw [qup_n h1]
    by_cases h2 : c = a
    · subst h2
      rw [qup_f, qup_f, qup_n h1]
    · rw [qup_n h2, qup_n h2, qup_n h1]
section CW
variable {xs : List Int32} {d : Nat} {Q : bPo} {b b0 b1 b2 : Bool} {m : Nat → Int → Int} {nT nH : Int} {T P E U N : Int → Int} {t s h k : Int}
variable {M : Nat → Int → Int} {B : Int → Int} {L p : Int} {σ : qSt}
/-- updates of rows stand behind those of the place -/
theorem qup_c {a : Nat} {k z : Int} (ha : ¬ a = 1) : up (up M 1 2 p) a k z = up (up M a k z) 1 2 p := qup_comm ha
theorem c_tradeOf {c : Int} (hx : inR c) (hQ : Q (qtrd c) ((b0, b1, b2), m)) : bC xs 1 126 [vi c] ((b0, b1, b2), m) Q := by
  refine qC rfl fun d hd => r_X10_tradeOf_0 hd ?_
  have hv := qtrd_v c
  (with_reducible repeat' (first | exact True.intro | apply And.intro | intro _))
  all_goals first | omega | exact qQ hQ (by omega)
theorem c_thingItem {c : Int} (hx : inR c) (hQ : Q (qtit c) ((b0, b1, b2), m)) : bC xs 1 121 [vi c] ((b0, b1, b2), m) Q := by
  refine qC rfl fun d hd => r_X10_thingItem_0 hd ?_
  have hv := qtit_v c
  (with_reducible repeat' (first | exact True.intro | apply And.intro | intro _))
  all_goals first | omega | exact qQ hQ (by omega)
theorem c_settle (ht : 0 ≤ t ∧ t < 6) (hs : qCs M (bW b) σ) (h3 : inR (σ 3 t)) (h9 : inR (σ 9 (0 + t))) (hQ : ∀ M', qFr (qFw (bW b)) M M' → qCs M' (bW b) (qstl t k σ) → Q 0 ((b0, b1, b2), up M' 1 2 p)) : bC xs 1 37 [vr (bW b), vi t] ((b0, b1, b2), up M 1 2 p) Q := by
  refine qC rfl fun d hd => r_X4_settle_0 hd ?_
  have hw := qW b
  have e9 := hs 9 (by omega)
  have e3 := hs 3 (by omega)
  simp (disch := omega) only [qup_n, e9, e3]
  unfold qstl at hQ
  by_cases h : σ 9 (0 + t) = σ 3 t
  · rw [if_pos h] at hQ
    rw [qup_c (by omega), qup_c (by omega)]
    have := hQ (up (up M (bW b + 9) (18 + t) 1) (bW b + 9) (24 + t) 0) (qFr_up (qFr_up qFr.refl (by unfold qFw; omega)) (by unfold qFw; omega)) (qCs_mo (by omega) (qCs_up (by omega) (qCs_up (by omega) hs)))
    (with_reducible repeat' (first | exact True.intro | apply And.intro | intro _))
    all_goals first | omega | exact this
  · rw [if_neg h] at hQ
    have := hQ M qFr.refl (qCs_mo (by omega) hs)
    (with_reducible repeat' (first | exact True.intro | apply And.intro | intro _))
    all_goals first | omega | exact this
theorem c_readSteps (ht : qTp L B) (hc : qTc M L B) (hs : qCs M (bW b) σ) (t0 : 0 ≤ t ∧ t < 6) (p0 : 0 ≤ p) (p1 : p ≤ L) (h3 : σ 3 t = 0) (h9 : inR (σ 9 (0 + t))) (hy : (qST B L t 9 0 σ p).1 = -1 → ∀ M', qFr (qFw (bW b)) M M' → qCs M' (bW b) (qST B L t 9 0 σ p).2.1 → Q 1 ((b0, b1, b2), up M' 1 2 (qST B L t 9 0 σ p).2.2)) (hf : ¬ (qST B L t 9 0 σ p).1 = -1 → ∀ M' q, qFr (qFw (bW b)) M M' → Q 0 ((b0, b1, b2), up (up M' 1 2 q) 1 3 (qST B L t 9 0 σ p).1)) : bC xs 2 123 [vr 3, vr (bW b), vi t] ((b0, b1, b2), up M 1 2 p) Q := by
  refine qC rfl fun d hd => r_X10_readSteps_0 hd ?_
  have hw := qW b
  obtain ⟨R, hR⟩ : ∃ R, R = qST B L t 9 0 σ p := ⟨_, rfl⟩
  rw [← hR] at hy hf
  suffices H : ∀ (n : Nat) (k : Int) (M1 : Nat → Int → Int) (σ1 : qSt) (q : Int), k + n = 9 → 0 ≤ k → k ≤ 8 → qFr (qFw (bW b)) M M1 → qCs M1 (bW b) σ1 → σ1 3 t = k → inR (σ1 9 (0 + t)) → 0 ≤ q → q ≤ L → R = qST B L t n k σ1 q → bGo xs d aM_X10_readSteps 2 [vr 3, vr (bW b), vi t, vi k, vn, vn] [] ((b0, b1, b2), up M1 1 2 q) Q from H 9 0 M σ p (by omega) (by omega) (by omega) qFr.refl hs h3 h9 p0 p1 hR
  intro n
  induction n with
  | zero => intro k M1 σ1 q hk; omega
  | succ n ih =>
    intro k M1 σ1 q hk k0 k8 hfr hs1 h31 h91 q0 q1 he
    have hc1 : qTc M1 L B := ⟨by rw [hfr 1 1 (by unfold qFw; omega)]; exact hc.1, by rw [qFr_at hfr 2 (fun k => by unfold qFw; omega)]; exact hc.2⟩
    refine r_X10_readSteps_2 hd ?_
    have h1 := qsk_bd (B := B) q q1
    have cc := qpk_c ht q0 q1
    have hv := qtrd_v (qpk B L q)
    have hb := ht.1
    rw [qST] at he
    by_cases hA : qtrd (qpk B L q) = -1 ∧ 0 < k
    · rw [if_pos hA] at he
      rw [he] at hy
      refine ⟨by omega, fun h => by omega, fun _ => c_peek ht hc1 q0 q1 ⟨rfl, c_tradeOf (by omega) ⟨rfl, ?_⟩⟩⟩
      dsimp only
      refine ⟨by omega, fun h => by omega, fun _ => ⟨by omega, fun h => by omega, fun _ => c_settle (k := k) t0 hs1 (by omega) h91 ?_⟩⟩
      intro M2 f2 s2
      exact ⟨rfl, hy rfl M2 (hfr.trans f2) s2⟩
    · rw [if_neg hA] at he
      by_cases hB : qtrd (qpk B L q) = -1 ∨ k = 8
      · rw [if_pos hB] at he
        rw [he] at hf
        have hf := hf (by dsimp only; omega) M1 (qsk B L q) hfr
        dsimp only at hf
        refine ⟨by omega, fun h => by omega, fun _ => c_peek ht hc1 q0 q1 ⟨rfl, c_tradeOf (by omega) ⟨rfl, ?_⟩⟩⟩
        simp only [qup_s]
        (with_reducible repeat' (first | exact True.intro | apply And.intro | intro _))
        all_goals first | omega | exact hf
      · rw [if_neg hB] at he
        have h2 := qsk_bd (B := B) (L := L) (qsk B L q + 1) (by omega)
        have cc2 := qpk_c (p := qsk B L q + 1) ht (by omega) (by omega)
        refine ⟨by omega, fun h => by omega, fun _ => c_peek ht hc1 q0 q1 ⟨rfl, c_tradeOf (by omega) ⟨rfl, ?_⟩⟩⟩
        simp only [qup_s, qup_up]
        refine ⟨by omega, fun _ => ⟨by omega, fun h => by omega, fun _ => ⟨by omega, fun _ => c_peek ht hc1 (by omega) (by omega) ⟨rfl, ?_⟩, fun h => by omega⟩⟩, fun h => by omega⟩
        simp (disch := omega) only [qup_s, qup_up, qup_n, hs1 3 (by omega), h31]
        by_cases hC : qpk B L (qsk B L q + 1) - 48 < 1 ∨ 9 < qpk B L (qsk B L q + 1) - 48
        · rw [if_pos hC] at he
          rw [he] at hf
          have hf := hf (by dsimp only; omega) M1 (qsk B L (qsk B L q + 1)) hfr
          dsimp only at hf
          (with_reducible repeat' (first | exact True.intro | apply And.intro | intro _))
          all_goals first | omega | exact hf
        · rw [if_neg hC] at he
          (with_reducible repeat' (first | exact True.intro | apply And.intro | intro _))
          all_goals first | omega | skip
          rw [qup_c (by omega), qup_c (by omega), qup_c (by omega)]
          refine ih (k + 1) _ (qstp t k (qtrd (qpk B L q)) (qpk B L (qsk B L q + 1) - 48) σ1) (qsk B L (qsk B L q + 1) + 1) (by omega) (by omega) (by omega) (qFr_up (qFr_up (qFr_up hfr (by unfold qFw; omega)) (by unfold qFw; omega)) (by unfold qFw; omega)) ?_ ?_ ?_ (by omega) (by omega) he
          · unfold qstp
            rw [h31]
            exact qCs_mo (by omega) (qCs_mo (by omega) (qCs_up (by omega) (qCs_up (by omega) (qCs_up (by omega) hs1))))
          · unfold qstp
            rw [qup_n (by omega), qup_n (by omega), qup_s]
            omega
          · unfold qstp
            rw [qup_n (by omega), qup_n (by omega), qup_n (by omega), qup_n (by omega), qup_n (by omega)]
            exact h91
theorem qlo_v {xs : List Int32} {it : Int} (h : 0 ≤ it ∧ it < 3) : bXv xs 1002 it = qlo it ∧ bXv xs 1003 it = qhi it := by
  have : it = 0 ∨ it = 1 ∨ it = 2 := by omega
  rcases this with rfl | rfl | rfl <;> exact ⟨rfl, rfl⟩
theorem qlohi (it : Int) : (0 ≤ qlo it ∧ qlo it ≤ 1) ∧ (8 ≤ qhi it ∧ qhi it ≤ 99) := by
  unfold qlo qhi
  constructor
  · split <;> omega
  · split <;> omega
theorem c_readThing (ht : qTp L B) (hc : qTc M L B) (hs : qCs M (bW b) σ) (t0 : 0 ≤ σ 0 9) (z9 : ∀ t, 0 ≤ t → t < 6 → σ 0 9 ≤ t → σ 9 (0 + t) = 0) (p0 : 0 ≤ p) (p1 : p < L) (hy : (if σ 0 9 < 6 then qTH B L σ (p + 1) else (p, σ, p)).1 = -1 → ∀ M', qFr (qFw (bW b)) M M' → qCs M' (bW b) (if σ 0 9 < 6 then qTH B L σ (p + 1) else (p, σ, p)).2.1 → Q 1 ((b0, b1, b2), up M' 1 2 (if σ 0 9 < 6 then qTH B L σ (p + 1) else (p, σ, p)).2.2)) (hf : ¬ (if σ 0 9 < 6 then qTH B L σ (p + 1) else (p, σ, p)).1 = -1 → ∀ M' q, qFr (qFw (bW b)) M M' → Q 0 ((b0, b1, b2), up (up M' 1 2 q) 1 3 (if σ 0 9 < 6 then qTH B L σ (p + 1) else (p, σ, p)).1)) (h6 : inR (σ 0 9)) : bC xs 3 120 [vr 3, vr (bW b)] ((b0, b1, b2), up M 1 2 p) Q := by
  refine qC rfl fun d hd => r_X10_readThing_0 hd ?_
  have hw := qW b
  have hb := ht.1
  have e0 := hs 0 (by omega)
  rw [Nat.add_zero] at e0
  simp (disch := omega) only [qup_n, qup_s, qup_up, e0]
  by_cases h5 : σ 0 9 < 6
  · rw [if_pos h5] at hy hf
    refine ⟨h6, fun _ => ?_, fun h => by omega⟩
    refine qC rfl fun d' hd' => r_X4_addThing_0 hd' ?_
    simp (disch := omega) only [qup_n, e0]
    refine ⟨by omega, by omega, by omega, by omega, by omega, by omega, trivial, ?_⟩
    rw [qup_c (by omega), qup_c (by omega), qup_c (by omega), qup_c (by omega), qup_c (by omega), qup_c (by omega), qup_c (by omega)]
    have hs0 : qCs (up (up (up (up (up (up (up M (bW b) 9 (σ 0 9 + 1)) (bW b + 1) (σ 0 9) 10) (bW b + 2) (σ 0 9) 30) (bW b + 3) (σ 0 9) 0) (bW b + 9) (12 + σ 0 9) (-1)) (bW b + 9) (24 + σ 0 9) (-1)) (bW b + 9) (30 + σ 0 9) (-1)) (bW b) (qadt σ) := by
      unfold qadt
      exact qCs_mo (by omega) (qCs_mo (by omega) (qCs_mo (by omega) (qCs_mo (by omega) (qCs_up (by omega) (qCs_up (by omega) (qCs_up (by omega) (qCs_up (by omega) (qCs_up (by omega) (qCs_up (by omega) (qCs_0 hs))))))))))
    have hf0 : qFr (qFw (bW b)) M (up (up (up (up (up (up (up M (bW b) 9 (σ 0 9 + 1)) (bW b + 1) (σ 0 9) 10) (bW b + 2) (σ 0 9) 30) (bW b + 3) (σ 0 9) 0) (bW b + 9) (12 + σ 0 9) (-1)) (bW b + 9) (24 + σ 0 9) (-1)) (bW b + 9) (30 + σ 0 9) (-1)) :=
      qFr_up (qFr_up (qFr_up (qFr_up (qFr_up (qFr_up (qFr_up qFr.refl (by unfold qFw; omega)) (by unfold qFw; omega)) (by unfold qFw; omega)) (by unfold qFw; omega)) (by unfold qFw; omega)) (by unfold qFw; omega)) (by unfold qFw; omega)
    have a3 : qadt σ 3 (σ 0 9) = 0 := by
      unfold qadt
      simp (disch := omega) only [qup_n, qup_s]
    have a9 : qadt σ 9 (0 + σ 0 9) = 0 := by
      unfold qadt
      simp (disch := omega) only [qup_n, qup_o]
      exact z9 _ t0 h5 (by omega)
    unfold qTH at hy hf
    generalize σ 0 9 = t at *
    obtain ⟨R, hR⟩ : ∃ R, R = qTHb B L t (qTI B L t 3 0 (qadt σ) (p + 1)) := ⟨_, rfl⟩
    rw [← hR] at hy hf
    have hK : ∀ (M1 : Nat → Int → Int) (σ1 : qSt) (q : Int), qFr (qFw (bW b)) M M1 → qCs M1 (bW b) σ1 → σ1 3 t = 0 → inR (σ1 9 (0 + t)) → 0 ≤ q → q ≤ L → R = qTHb B L t (-1, σ1, q) → bC xs 2 115 [vr 1, vi 58] ((b0, b1, b2), up M1 1 2 q) (fun z3 μ4 => (μ4.1 = (b0, b1, b2)) ∧ (inR z3 ∧ ((z3 = 0 → (Q 0 ((b0, b1, b2), μ4.2))) ∧ (¬ z3 = 0 → (bC xs 2 123 [vr 3, vr (bW b), vi t] ((b0, b1, b2), μ4.2) (fun z5 μ6 => (μ6.1 = (b0, b1, b2)) ∧ (inR z5 ∧ ((z5 = 0 → (Q 0 ((b0, b1, b2), μ6.2))) ∧ (¬ z5 = 0 → (Q 1 ((b0, b1, b2), μ6.2))))))))))) := by
      intro M1 σ1 q hf1 hs1 h31 h91 q0 q1 he
      have hc1 : qTc M1 L B := ⟨by rw [hf1 1 1 (by unfold qFw; omega)]; exact hc.1, by rw [qFr_at hf1 2 (fun k => by unfold qFw; omega)]; exact hc.2⟩
      have h1 := qsk_bd (B := B) q q1
      have cc := qpk_c ht q0 q1
      rw [he] at hy hf
      unfold qTHb at hy hf
      dsimp only at hy hf
      rw [if_neg (by omega)] at hy hf
      refine c_must ht hc1 q0 q1 (by omega) (fun h => ?_) (fun h => ?_)
      · rw [if_pos h] at hy hf
        refine ⟨rfl, by omega, fun h => by omega, fun _ => ?_⟩
        refine c_readSteps ht hc1 hs1 (by omega) (by omega) (by omega) h31 h91 (fun h => ?_) (fun h => ?_)
        · intro M2 f2 s2
          exact ⟨rfl, by omega, fun h => by omega, fun _ => hy h M2 (hf1.trans f2) s2⟩
        · intro M2 q2 f2
          exact ⟨rfl, by omega, fun _ => hf h M2 q2 (hf1.trans f2), fun h => by omega⟩
      · rw [if_neg h] at hy hf
        exact ⟨rfl, by omega, fun _ => hf (by dsimp only; omega) M1 _ hf1, fun h => by omega⟩
    suffices H : ∀ (n : Nat) (x4 seen : Int) (M1 : Nat → Int → Int) (σ1 : qSt) (q : Int), x4 + n = 3 → 0 ≤ x4 → qFr (qFw (bW b)) M M1 → qCs M1 (bW b) σ1 → σ1 3 t = 0 → inR (σ1 9 (0 + t)) → 0 ≤ q → q ≤ L → R = qTHb B L t (qTI B L t n seen σ1 q) → bGo xs d aM_X10_readThing 34 [vr 3, vr (bW b), vi t, vi seen, vi x4, vn, vn] [] ((b0, b1, b2), up M1 1 2 q) Q from H 3 0 0 _ (qadt σ) (p + 1) (by omega) (by omega) hf0 hs0 a3 (by omega) (by omega) (by omega) hR
    intro n
    induction n with
    | zero =>
      intro x4 seen M1 σ1 q hx x0 hf1 hs1 h31 h91 q0 q1 he
      refine r_X10_readThing_34 hd ⟨by omega, by omega, fun _ => ?_, fun h => by omega⟩
      exact hK M1 σ1 q hf1 hs1 h31 h91 q0 q1 he
    | succ n ih =>
      intro x4 seen M1 σ1 q hx x0 hf1 hs1 h31 h91 q0 q1 he
      have hc1 : qTc M1 L B := ⟨by rw [hf1 1 1 (by unfold qFw; omega)]; exact hc.1, by rw [qFr_at hf1 2 (fun k => by unfold qFw; omega)]; exact hc.2⟩
      have h1 := qsk_bd (B := B) q q1
      have cc := qpk_c ht q0 q1
      have hv := qtit_v (qpk B L q)
      have wa := qAnd_inR (bShr seen (qtit (qpk B L q))) 1
      have kb := qlohi (qtit (qpk B L q))
      rw [qTI] at he
      refine r_X10_readThing_34 hd ⟨by omega, by omega, fun h => by omega, fun _ => ?_⟩
      refine c_peek ht hc1 q0 q1 ⟨rfl, c_thingItem (by omega) ⟨rfl, ?_⟩⟩
      simp only [qup_s, qup_up]
      by_cases hA : qtit (qpk B L q) = -1 ∨ bAnd (bShr seen (qtit (qpk B L q))) 1 = 1
      · rw [if_pos hA] at he
        have kk := hK M1 σ1 (qsk B L q) hf1 hs1 h31 h91 (by omega) (by omega) he
        refine ⟨by omega, fun _ => kk, fun h => ⟨wa, fun h2 => by omega, fun _ => kk⟩⟩
      · rw [if_neg hA] at he
        have hl := qlo_v (xs := xs) (it := qtit (qpk B L q)) (by omega)
        rw [hl.1, hl.2]
        have hn := qnum_ok (B := B) (L := L) (n := 2) (p := qsk B L q + 1) (lo := qlo (qtit (qpk B L q))) (hi := qhi (qtit (qpk B L q))) (by omega) (by omega)
        refine ⟨by omega, fun h => by omega, fun _ => ⟨wa, fun _ => ⟨by omega, by omega, c_number (n := 2) (Or.inl rfl) ht hc1 (by omega) (by omega) (by omega) (by omega) (fun hg => ?_) (fun hg => ?_)⟩, fun h => by omega⟩⟩
        · rw [if_pos hg] at he
          generalize qnum B L 2 (qsk B L q + 1) (qlo (qtit (qpk B L q))) (qhi (qtit (qpk B L q))) = r at *
          dsimp only
          have go : ∀ (a : Nat) (k : Int), (qtit (qpk B L q) = 0 ∧ a = 1 ∧ k = t) ∨ (qtit (qpk B L q) = 1 ∧ a = 2 ∧ k = t) ∨ (qtit (qpk B L q) = 2 ∧ a = 9 ∧ k = 0 + t) → bGo xs d aM_X10_readThing 34 [vr 3, vr (bW b), vi t, vi (bOrr seen (bShl 1 (qtit (qpk B L q)))), vi (x4 + 1), vn, vn] [] ((b0, b1, b2), up (up M1 1 2 r.2.2) (bW b + a) k r.2.1) Q := by
            intro a k hak
            rw [qup_c (by omega)]
            have hS : qCs (up M1 (bW b + a) k r.2.1) (bW b) (qput t (qtit (qpk B L q)) r.2.1 σ1) := by
              unfold qput
              rcases hak with ⟨e1, rfl, rfl⟩ | ⟨e1, rfl, rfl⟩ | ⟨e1, rfl, rfl⟩
              · rw [if_pos e1]; exact qCs_mo (by omega) (qCs_up (by omega) hs1)
              · rw [if_neg (by omega), if_pos e1]; exact qCs_mo (by omega) (qCs_up (by omega) hs1)
              · rw [if_neg (by omega), if_neg (by omega)]; exact qCs_mo (by omega) (qCs_up (by omega) hs1)
            refine ih (x4 + 1) _ _ (qput t (qtit (qpk B L q)) r.2.1 σ1) r.2.2 (by omega) (by omega) (qFr_up hf1 (by unfold qFw; omega)) hS ?_ ?_ (by omega) (by omega) he
            · unfold qput
              rw [qup_n (by omega)]
              split
              · rw [qup_n (by omega)]; exact h31
              · split
                · rw [qup_n (by omega)]; exact h31
                · rw [qup_n (by omega)]; exact h31
            · unfold qput
              rw [qup_n (by omega)]
              split
              · rw [qup_n (by omega)]; exact h91
              · split
                · rw [qup_n (by omega)]; exact h91
                · rw [qup_s]; omega
          (with_reducible repeat' (first | exact True.intro | apply And.intro | intro _))
          all_goals first | omega | rfl | exact go 9 (0 + t) (by omega) | exact go 2 t (by omega) | exact go 1 t (by omega)
        · rw [if_neg hg] at he
          generalize qnum B L 2 (qsk B L q + 1) (qlo (qtit (qpk B L q))) (qhi (qtit (qpk B L q))) = r at *
          unfold qTHb at he
          dsimp only at he
          rw [if_pos hg] at he
          rw [he] at hf
          refine ⟨rfl, by omega, fun h => by omega, fun _ => ?_⟩
          exact hf hg M1 r.2.2 hf1
  · rw [if_neg h5] at hy hf
    exact ⟨h6, fun h => by omega, fun _ => hf (by dsimp only; omega) M p qFr.refl⟩
end CW
