/-! B: the model goes through rows of games -/
def qRf (a : Nat) (k : Int) : Prop := qYm a k ∨ a = 145 ∨ (a = 120 ∧ (k = 51 ∨ k = 53))
section GMR
variable {xs : List Int32} {d : Nat} {Q : bPo} {b b0 b1 b2 : Bool} {m : Nat → Int → Int} {nT nH : Int} {T P E U N : Int → Int} {t s h k : Int}
variable {nL hold i row : Int} {lB : Int → Int → Int} {lN : Int → Int} {m' : Nat → Int → Int} {g : Int → Int}
theorem qMR.rf (hM : qMR m nT nH T P E U N) (f : qFr qRf m m') : qMR m' nT nH T P E U N := hM.fr ⟨f 120 26 (by unfold qRf qYm; omega), f 120 27 (by unfold qRf qYm; omega)⟩ (qFr_at f 125 (fun k => by unfold qRf qYm; omega)) (qFr_at f 127 (fun k => by unfold qRf qYm; omega)) (qFr_at f 129 (fun k => by unfold qRf qYm; omega)) (qFr_at f 131 (fun k => by unfold qRf qYm; omega)) (qFr_at f 135 (fun k => by unfold qRf qYm; omega))
theorem qVm.rf (hc : qVm m nL lB lN) (f : qFr qRf m m') : qVm m' nL lB lN := hc.fr (f 120 7 (by unfold qRf qYm; omega)) (qFr_at f 123 (fun k => by unfold qRf qYm; omega)) (qFr_at f 122 (fun k => by unfold qRf qYm; omega))
theorem d_goRests {m : Nat → Int → Int} (hW : qWF nT nH T P E U N) (hM : qMR m nT nH T P E U N) (hV : qVs nL lB lN) (hc : qVm m nL lB lN) (hh : m 120 36 = hold) (hi : m 120 52 = i) (x1 : inR i) (hb : -1 ≤ hold ∧ hold < nL) (h4 : nH ≤ 4) (hK3 : qK N nT ^ nH.toNat ≤ 2401) : ∀ (n : Nat) (h B : Int) (d : Nat) (b2 : Bool) (m1 : Nat → Int → Int) (Q : bPo), h + n = nH → 0 ≤ h → 256 + n ≤ d → 0 ≤ B → (B + 1) * qK N nT ^ n ≤ qK N nT ^ nH.toNat → qFr qRf m m1 → (∀ k, qbn (m1 124 k)) → (∀ k, 0 ≤ k → k < h → m1 145 k = qgp N nT h B k) → (0 ≤ m1 120 51 ∧ m1 120 51 ≤ B * qK N nT ^ n) → (-1 ≤ m1 120 53 ∧ m1 120 53 ≤ 9999) → (∀ b2' m', qFr qRf m m' → (∀ k, qbn (m' 124 k)) → (∀ k, 0 ≤ k → k < h → m' 145 k = m1 145 k) → (m' 120 51, m' 120 53) = qfold (qst1 (qrnk T P N) (qwsh T P E N lB lN hold) nT nH N i) ((B + 1) * qK N nT ^ n) (B * qK N nT ^ n) (m1 120 51, m1 120 53) → Q 0 ((b0, b1, b2'), m')) → bGo xs d aM_X12_goRests 0 [vr 120, vi h, vi (qdp N nT h B), vn] [] ((b0, b1, b2), m1) Q := by
  have wn := qw_n hW
  have hK := qK_bd (N := N) wn.1.1
  intro n
  induction n with
  | zero =>
    intro h B d b2 m1 Q hn h0 hd B0 hB f1 hl1 hg1 hm1 hf1 hQ
    have hM1 := hM.rf f1
    rw [Int.pow_zero, Int.mul_one] at hB hm1
    rw [Int.pow_zero, Int.mul_one, Int.mul_one, qfold_lt (by omega), qfold_ge (by omega)] at hQ
    have eh : h = nH := by omega
    subst eh
    have bd := qdp_bd (N := N) (nT := nT) (h := h) (B := B) wn.1.1 wn.1.2 h0 h4
    refine r_X12_goRests_0 (by omega) ?_
    rw [hM1.2.1]
    unfold qst1 at hQ
    dsimp only at hQ
    refine ⟨by omega, fun hfd => ⟨by omega, by omega, fun h => absurd rfl h, fun _ => ?_⟩, fun hfd => ?_⟩
    · rw [if_pos hfd] at hQ
      refine d_isRest hW hM1 hV (hc.rf f1) hl1 (by rw [f1 120 36 (by unfold qRf qYm; omega)]; exact hh) hb h4 hg1 (fun k a b => qgp_c wn.1.1) ?_
      intro b2' m2 f2 hl2 hg2
      have f12 : qFr qRf m m2 := f1.trans (f2.mono (fun a k h => h.elim (fun h => Or.inl h) (fun h => Or.inr (Or.inl h))))
      have e51 : m2 120 51 = m1 120 51 := f2 120 51 (by unfold qHf qYm; omega)
      have e52 : m2 120 52 = i := by rw [f12 120 52 (by unfold qRf qYm; omega)]; exact hi
      have e53 : m2 120 53 = m1 120 53 := f2 120 53 (by unfold qHf qYm; omega)
      have z01 := qrz_01 (R := qrnk T P N) (Ws := qwsh T P E N lB lN hold) (g := qgp N nT h B) (nT := nT) (nH := h) (N := N)
      dsimp only
      rw [e51, e52]
      refine ⟨⟨rfl, rfl⟩, by omega, fun hz => ⟨by omega, by omega, fun e => ?_, fun e => ?_⟩, fun hz => ?_⟩
      · rw [if_neg hz, if_neg e] at hQ
        refine hQ b2' _ (qFr_up f12 (by unfold qRf; omega)) (fun k => by rw [qup_n (by omega)]; exact hl2 k) (fun k a b => by rw [qup_n (by omega), hg2 k a b]; exact (hg1 k a b).symm) ?_
        rw [qup_s, qup_o (by omega), e53, hfd]
      · rw [if_neg hz, if_pos e] at hQ
        refine hQ b2' _ (qFr_up (qFr_up f12 (by unfold qRf; omega)) (by unfold qRf; omega)) (fun k => by rw [qup_n (by omega), qup_n (by omega)]; exact hl2 k) (fun k a b => by rw [qup_n (by omega), qup_n (by omega), hg2 k a b]; exact (hg1 k a b).symm) ?_
        rw [qup_s, qup_o (by omega), qup_s]
      · rw [if_pos hz] at hQ
        exact hQ b2' m2 f12 hl2 (fun k a b => by rw [hg2 k a b]; exact (hg1 k a b).symm) (by rw [e51, e53])
    · rw [if_neg hfd] at hQ
      exact hQ b2 m1 f1 hl1 (fun k _ _ => rfl) rfl
  | succ n ih =>
    intro h B d b2 m1 Q hn h0 hd B0 hB f1 hl1 hg1 hm1 hf1 hQ
    have hM1 := hM.rf f1
    have p0 : 0 < qK N nT ^ n := qKp wn.1.1
    have ep : qK N nT ^ (n + 1) = qK N nT * qK N nT ^ n := Int.pow_succ' ..
    rw [ep] at hB hm1 hQ
    refine r_X12_goRests_0 (by omega) ?_
    rw [hM1.2.1]
    have eS : B * (qK N nT * qK N nT ^ n) = (B * qK N nT + 0) * qK N nT ^ n := by rw [Int.add_zero, Int.mul_assoc]
    have eE : (B + 1) * (qK N nT * qK N nT ^ n) = (B * qK N nT + qK N nT) * qK N nT ^ n := by rw [← Int.mul_assoc, Int.add_mul, Int.one_mul]
    rw [eS] at hm1
    rw [eE] at hB
    rw [eS, eE] at hQ
    have mon : ∀ c c' : Int, c ≤ c' → (B * qK N nT + c) * qK N nT ^ n ≤ (B * qK N nT + c') * qK N nT ^ n := fun c c' h => Int.mul_le_mul_of_nonneg_right (by omega) (by omega)
    refine ⟨by omega, fun hfd => ⟨by omega, by omega, fun _ => ?_, fun h => by omega⟩, fun hfd => ?_⟩
    · -- what is known behind c choices
      let RS : Int → (Nat → Int → Int) → Prop := fun c m2 => qFr qRf m m2 ∧ (∀ k, qbn (m2 124 k)) ∧ (∀ k, 0 ≤ k → k < h → m2 145 k = m1 145 k) ∧ (m2 120 51, m2 120 53) = qfold (qst1 (qrnk T P N) (qwsh T P E N lB lN hold) nT nH N i) ((B * qK N nT + c) * qK N nT ^ n) ((B * qK N nT + 0) * qK N nT ^ n) (m1 120 51, m1 120 53)
      -- one choice
      have one : ∀ (c : Int) (b2 : Bool) (m2 : Nat → Int → Int) (Q' : bPo), 0 ≤ c → c < qK N nT → RS c m2 → (∀ b2' m', RS (c + 1) m' → Q' 0 ((b0, b1, b2'), m')) → bGo xs (d - 1) aM_X12_goRests 0 [vr 120, vi (h + 1), vi (10 * qdp N nT h B + qch N nT c), vn] [] ((b0, b1, b2), up m2 145 h (qch N nT c)) Q' := by
        intro c b2 m2 Q' c0 c1 hRS hQ'
        obtain ⟨f2, hl2, hg2, hst⟩ := hRS
        have hBc : 0 ≤ B * qK N nT + c := by
          have := Int.mul_nonneg B0 (show 0 ≤ qK N nT by omega)
          omega
        have hle := mon 0 c c0
        have hle2 := mon (c + 1) (qK N nT) (by omega)
        have bd := qst1_bd (R := qrnk T P N) (Ws := qwsh T P E N lB lN hold) (nT := nT) (nH := nH) (N := N) (i := i) (st := (m1 120 51, m1 120 53)) hle
        have bf := qst1_d (R := qrnk T P N) (Ws := qwsh T P E N lB lN hold) (nT := nT) (nH := nH) (N := N) (i := i) (st := (m1 120 51, m1 120 53)) wn.1.1 wn.1.2 wn.2.1.1 h4 hle hf1
        rw [← hst] at bd bf
        dsimp only at bd bf
        rw [← qdp_s wn.1.1 h0 c0 c1]
        refine ih (h + 1) (B * qK N nT + c) (d - 1) b2 _ Q' (by omega) (by omega) (by omega) hBc ?_ (qFr_up f2 (by unfold qRf; omega)) (fun k => by rw [qup_n (by omega)]; exact hl2 k) ?_ ?_ ?_ ?_
        · rw [Int.add_assoc]
          omega
        · intro k a b
          rw [qup_if]
          by_cases e : k = h
          · rw [if_pos e, e, qgp_h wn.1.1 c0 c1]
          · rw [if_neg e, hg2 k a (by omega), hg1 k a (by omega), qgp_s wn.1.1 c0 c1 a (by omega)]
        · rw [qup_n (by omega)]
          omega
        · rw [qup_n (by omega)]
          exact bf
        · intro b2' m3 f3 hl3 hg3 hst3
          refine hQ' b2' m3 ⟨f3, hl3, fun k a b => ?_, ?_⟩
          · rw [hg3 k a (by omega), qup_o (by omega)]
            exact hg2 k a b
          · rw [qup_n (by omega), hst, Int.add_assoc, ← qfold_sp (mon c (c + 1) (by omega)) _ hle] at hst3
            exact hst3
      have fin : ∀ b2 m2, RS (qK N nT) m2 → bGo xs d aM_X12_goRests 54 [vr 120, vi h, vi (qdp N nT h B), vi 10] [] ((b0, b1, b2), m2) Q := by
        intro b2 m2 ⟨f2, hl2, hg2, hst⟩
        exact r_X12_goRests_54 (by omega) ⟨by omega, fun _ => hQ b2 m2 f2 hl2 hg2 hst, fun h => by omega⟩
      have L9 : ∀ t, t ≤ 9 → nT ≤ t → ∀ b2 m2, RS (qno N nT) m2 → bGo xs d aM_X12_goRests 54 [vr 120, vi h, vi (qdp N nT h B), vi t] [] ((b0, b1, b2), m2) Q := by
        refine qUpto ?_
        intro t ht iht tn b2 m2 hRS
        have hM2 := hM.rf hRS.1
        refine r_X12_goRests_54 (by omega) ?_
        rw [hM2.1]
        refine ⟨by omega, fun h => by omega, fun _ => ⟨by omega, fun e9 => ⟨by omega, ?_⟩, fun e9 => ⟨by omega, fun h => by omega, fun _ => ⟨by omega, by omega, fun _ => iht (by omega) (by omega) b2 m2 hRS, fun h => by omega⟩⟩⟩⟩
        have := one (qno N nT) b2 m2 (fun z3 μ4 => (μ4.1.1 = b0 ∧ μ4.1.2.1 = b1) ∧ (bGo xs d aM_X12_goRests 54 [vr 120, vi h, vi (qdp N nT h B), vi (t + 1)] [] ((b0, b1, μ4.1.2.2), μ4.2) Q)) (qno_bd wn.1.1).1 (by unfold qK; omega) hRS (fun b2' m' hRS' => ⟨⟨rfl, rfl⟩, by rw [e9]; exact fin b2' m' hRS'⟩)
        rw [qch_9] at this
        rw [e9] at this ⊢
        exact this
      suffices H : ∀ t, t ≤ nT → 0 ≤ t → ∀ b2 m2, RS (qno N t) m2 → bGo xs d aM_X12_goRests 54 [vr 120, vi h, vi (qdp N nT h B), vi t] [] ((b0, b1, b2), m2) Q by
        refine H 0 wn.1.1 (by omega) b2 m1 ⟨f1, hl1, fun k _ _ => rfl, ?_⟩
        rw [qno_0, qfold_ge (by omega)]
      refine qUpto ?_
      intro t ht iht t0 b2 m2 hRS
      by_cases e : t = nT
      · rw [e] at hRS ⊢
        exact L9 nT (by omega) (by omega) b2 m2 hRS
      · have t1 : t < nT := by omega
        have hM2 := hM.rf hRS.1
        have ws := qw_st hW t0 t1
        have ns := qno_s (N := N) t0
        refine r_X12_goRests_54 (by omega) ?_
        rw [hM2.1, hM2.2.2.2.2.2.2]
        refine ⟨by omega, fun h => by omega, fun _ => ⟨by omega, fun e9 => by omega, fun e9 => ⟨by omega, fun h => by omega, fun _ => ⟨by omega, by omega, fun h => by omega, fun _ => ⟨by omega, by omega, fun hs => iht t1 (by omega) b2 m2 (by rw [ns, if_neg hs]; exact hRS), fun hs => ⟨by omega, ?_⟩⟩⟩⟩⟩⟩
        have hlt := qno_lt t0 t1 hs
        have := one (qno N t) b2 m2 (fun z3 μ4 => (μ4.1.1 = b0 ∧ μ4.1.2.1 = b1) ∧ (bGo xs d aM_X12_goRests 54 [vr 120, vi h, vi (qdp N nT h B), vi (t + 1)] [] ((b0, b1, μ4.1.2.2), μ4.2) Q)) (qno_bd t0).1 (by unfold qK; omega) hRS (fun b2' m' hRS' => ⟨⟨rfl, rfl⟩, iht t1 (by omega) b2' m' (by rw [ns, if_pos hs]; exact hRS')⟩)
        rw [qch_o t0 t1 hs] at this
        exact this
    · have fx := qst1_fix (R := qrnk T P N) (Ws := qwsh T P E N lB lN hold) (nT := nT) (nH := nH) (N := N) (i := i) (st := (m1 120 51, m1 120 53)) hfd (mon 0 (qK N nT) (by omega))
      exact hQ b2 m1 f1 hl1 (fun k _ _ => rfl) fx.symm
end GMR
