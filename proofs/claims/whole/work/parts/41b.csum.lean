/-! B: the class reads sums -/
def qSeg (C : Int → Int) : Int → List Int → Prop
  | _, [] => True
  | n, c :: l => C n = c ∧ qSeg C (n + 1) l
theorem qSeg_app {C : Int → Int} : ∀ (l1 l2 : List Int) (n : Int), qSeg C n (l1 ++ l2) ↔ qSeg C n l1 ∧ qSeg C (n + l1.length) l2 := by
  intro l1
  induction l1 with
  | nil => intro l2 n; simp [qSeg]
  | cons c l ih =>
    intro l2 n
    rw [List.cons_append, qSeg, qSeg, ih, List.length_cons, show n + 1 + (l.length : Int) = n + ((l.length + 1 : Nat) : Int) by omega, and_assoc]
theorem qSeg_fr {C C' : Int → Int} : ∀ (l : List Int) (n : Int), (∀ k, n ≤ k → k < n + l.length → C' k = C k) → qSeg C n l → qSeg C' n l := by
  intro l
  induction l with
  | nil => intro n _ _; trivial
  | cons c l ih =>
    intro n h hs
    rw [List.length_cons] at h
    exact ⟨by rw [h n (by omega) (by omega)]; exact hs.1, ih (n + 1) (fun k a b => h k (by omega) (by omega)) hs.2⟩
def qLf (a : Nat) (k : Int) : Prop := a = 5 ∨ (a = 4 ∧ k = 2)
def qLg (a : Nat) (k : Int) : Prop := a = 5 ∨ (a = 4 ∧ k = 2) ∨ (a = 1 ∧ (k = 2 ∨ k = 3))
/-- codes more behind the first n -/
def qCd (M M' : Nat → Int → Int) (n : Int) (l : List Int) : Prop := M' 4 2 = n + l.length ∧ (∀ k, k < n → M' 5 k = M 5 k) ∧ qSeg (M' 5) n l
theorem qCd_nil {M : Nat → Int → Int} {n : Int} (h : M 4 2 = n) : qCd M M n [] := ⟨by simp only [List.length_nil]; omega, fun _ _ => rfl, trivial⟩
theorem qCd_app {M M1 M2 : Nat → Int → Int} {n : Int} {l1 l2 : List Int} (h1 : qCd M M1 n l1) (h2 : qCd M1 M2 (n + l1.length) l2) : qCd M M2 n (l1 ++ l2) := by
  refine ⟨by rw [h2.1, List.length_append]; omega, fun k hk => by rw [h2.2.1 k (by omega), h1.2.1 k hk], ?_⟩
  rw [qSeg_app]
  exact ⟨qSeg_fr l1 n (fun k a b => h2.2.1 k b) h1.2.2, h2.2.2⟩
theorem qLf_g {M M' : Nat → Int → Int} (h : qFr qLf M M') : qFr qLg M M' := h.mono (fun a k h => by unfold qLf at h; unfold qLg; omega)
section CLW
variable {xs : List Int32} {d : Nat} {Q : bPo} {b b0 b1 b2 : Bool} {m : Nat → Int → Int} {nT nH : Int} {T P E U N : Int → Int} {t s h k : Int}
variable {M : Nat → Int → Int} {B : Int → Int} {L p n c : Int}
theorem c_emit (h : M 4 2 = n) (n0 : 0 ≤ n) (n1 : n < 240) (hQ : ∀ M', qFr qLf M M' → qCd M M' n [c] → Q 0 ((b0, b1, b2), up M' 1 2 p)) : bC xs 1 83 [vr 4, vi c] ((b0, b1, b2), up M 1 2 p) Q := by
  refine qC rfl fun d hd => r_X6_emit_0 hd ?_
  simp (disch := omega) only [qup_n, h]
  rw [qup_c (by omega), qup_c (by omega)]
  refine ⟨by omega, fun h => by omega, fun _ => ⟨by omega, hQ _ (qFr_up (qFr_up qFr.refl (by unfold qLf; omega)) (by unfold qLf; omega)) ⟨?_, ?_, ?_⟩⟩⟩
  · rw [qup_s]; rfl
  · intro k hk
    rw [qup_n (by omega), qup_o (by omega)]
  · refine ⟨?_, trivial⟩
    rw [qup_n (by omega), qup_s]
theorem c_letterOf (hx : inR c) (hQ : Q (qlet c) ((b0, b1, b2), m)) : bC xs 1 93 [vi c] ((b0, b1, b2), m) Q := by
  refine qC rfl fun d hd => r_X6_letterOf_0 hd ?_
  unfold qlet at hQ
  (with_reducible repeat' (first | exact True.intro | apply And.intro | intro _))
  all_goals first | omega | skip
  all_goals repeat (first | rw [if_pos (by omega)] at hQ | rw [if_neg (by omega)] at hQ)
  all_goals exact hQ
theorem c_comparison (hx : inR c) (hQ : Q (qcmp c) ((b0, b1, b2), m)) : bC xs 1 92 [vi c] ((b0, b1, b2), m) Q := by
  refine qC rfl fun d hd => r_X6_comparison_0 hd ?_
  unfold qcmp at hQ
  (with_reducible repeat' (first | exact True.intro | apply And.intro | intro _))
  all_goals first | omega | skip
  all_goals repeat (first | rw [if_pos (by omega)] at hQ | rw [if_neg (by omega)] at hQ)
  all_goals exact hQ
theorem qTc_lf {M' : Nat → Int → Int} (hf : qFr qLf M M') (hc : qTc M L B) : qTc M' L B := ⟨by rw [hf 1 1 (by unfold qLf; omega)]; exact hc.1, by rw [qFr_at hf 2 (fun k => by unfold qLf; omega)]; exact hc.2⟩
/-- what is asked of a reading's end -/
def qKy (b0 b1 b2 : Bool) (M : Nat → Int → Int) (n : Int) (r : qLr) (Q : bPo) : Prop := (r.1 = -1 → ∀ M', qFr qLf M M' → qCd M M' n r.2.1 → Q 1 ((b0, b1, b2), up M' 1 2 r.2.2)) ∧ (¬ r.1 = -1 → ∀ m', qFr qLg M m' → m' 1 3 = r.1 → Q 0 ((b0, b1, b2), m'))
def qPre (M : Nat → Int → Int) (B : Int → Int) (L p n : Int) : Prop := qTc M L B ∧ M 4 2 = n ∧ (0 ≤ n ∧ n ≤ p) ∧ 0 ≤ p ∧ p ≤ L
theorem c_atomS (ht : qTp L B) (f : Nat) (ihS : ∀ (dJ : Nat) (dp p n : Int) (M : Nat → Int → Int) (Q : bPo), 3 * (6 - dp) + 7 ≤ dJ → 0 ≤ dp → dp ≤ 6 → qPre M B L p n → ¬ (qE B L f 3 dp p).1 = -2 → qKy b0 b1 b2 M n (qE B L f 3 dp p) Q → bGo xs dJ aM_X6_readSum 0 [vr 4, vi dp, vn, vn] [] ((b0, b1, b2), up M 1 2 p) Q) : ∀ (dJ : Nat) (dp p n : Int) (M : Nat → Int → Int) (Q : bPo), 3 * (6 - dp) + 5 ≤ dJ → 0 ≤ dp → dp ≤ 6 → qPre M B L p n → ¬ (qE B L (f + 1) 0 dp p).1 = -2 → qKy b0 b1 b2 M n (qE B L (f + 1) 0 dp p) Q → bGo xs dJ aM_X6_readAtom 0 [vr 4, vi dp, vn, vn] [] ((b0, b1, b2), up M 1 2 p) Q := by
  intro dJ dp p n M Q hJ d0 d6 hp hne hk
  obtain ⟨hc, hn, n0, p0, p1⟩ := hp
  have hb := ht.1
  have k1 := qsk_bd (B := B) p p1
  have kc := qpk_c ht p0 p1
  have er : qE B L (f + 1) 0 dp p = qEat B L (qE B L f) dp p := rfl
  rw [er] at hne hk
  unfold qEat at hne hk
  refine r_X6_readAtom_0 (by omega) (c_peek ht hc p0 p1 ?_)
  simp (disch := omega) only [qup_s, qup_up]
  by_cases hbr : qpk B L p = 91
  · rw [if_pos hbr] at hne hk
    refine ⟨trivial, by omega, fun h => absurd hbr h, fun _ => ⟨by omega, fun h6 => ?_, fun h6 => ?_⟩⟩
    · rw [if_neg (by omega)] at hne hk
      have hok := qE_ok ht f 3 (dp + 1) (qsk B L p + 1) (by omega) (by omega)
      have hne2 : ¬ (qE B L f 3 (dp + 1) (qsk B L p + 1)).1 = -2 := by
        intro h
        apply hne
        unfold qEb
        rw [if_neg (by omega)]
        exact h
      refine ihS (dJ - 1) (dp + 1) (qsk B L p + 1) n M _ (by omega) (by omega) (by omega) ⟨hc, hn, by omega, by omega, by omega⟩ hne2 ⟨?_, ?_⟩
      · intro ok M1 f1 c1
        unfold qEb at hk
        rw [if_pos ok] at hk
        generalize qE B L f 3 (dp + 1) (qsk B L p + 1) = r at *
        have hb1 : qsk B L p + 2 ≤ r.2.2 ∧ r.2.2 ≤ L := by
          have e : qlw 3 = 1 := rfl
          rw [e] at hok
          unfold qEok at hok
          omega
        have k2 := qsk_bd (B := B) r.2.2 hb1.2
        refine ⟨rfl, by omega, fun h => by omega, fun _ => c_must ht (qTc_lf f1 hc) (by omega) hb1.2 (by omega) (fun h => ?_) (fun h => ?_)⟩
        · rw [if_pos h] at hk
          exact ⟨rfl, by omega, fun h => by omega, fun _ => hk.1 rfl M1 f1 c1⟩
        · rw [if_neg h] at hk
          exact ⟨rfl, by omega, fun _ => hk.2 (by dsimp only; omega) _ (qFr_up (qFr_up (qLf_g f1) (by unfold qLg; omega)) (by unfold qLg; omega)) (by dsimp only; rw [qup_s]), fun h => by omega⟩
      · intro nok m1 f1 e1
        unfold qEb at hk
        rw [if_neg nok] at hk
        exact ⟨rfl, by omega, fun _ => hk.2 nok m1 f1 e1, fun h => by omega⟩
    · rw [if_pos h6] at hk
      exact hk.2 (by dsimp only; omega) _ (qFr_up (qFr_up qFr.refl (by unfold qLg; omega)) (by unfold qLg; omega)) qup_s
  · rw [if_neg hbr] at hk
    refine ⟨trivial, by omega, fun _ => ⟨by omega, ?_⟩, fun h => absurd h hbr⟩
    by_cases hd : 48 ≤ qpk B L p ∧ qpk B L p ≤ 57
    · rw [if_pos hd] at hk
      have hnum := qnum_ok (B := B) (L := L) (n := 4) (p := qsk B L p) (lo := 0) (hi := 9999) (by omega) (by omega)
      have en : qnum B L 4 (qsk B L p) 0 9999 = qnum B L 4 p 0 9999 := by unfold qnum; rw [qsk_sk p1]
      refine ⟨fun h => by omega, fun _ => ⟨by omega, fun h => by omega, fun _ => c_number (n := 4) (Or.inr rfl) ht hc (by omega) (by omega) (by omega) (by omega) ?_ ?_⟩⟩
      · intro ok
        rw [en] at ok hnum ⊢
        rw [if_pos ok] at hk
        refine ⟨rfl, c_emit hn n0.1 (by omega) ?_⟩
        intro M1 f1 c1
        exact ⟨rfl, by omega, fun h => by omega, fun _ => hk.1 rfl M1 f1 c1⟩
      · intro nok
        rw [en] at nok hnum ⊢
        rw [if_neg nok] at hk
        refine ⟨rfl, ?_⟩
        refine qC rfl fun d hd => r_X6_emit_0 hd ?_
        simp (disch := omega) only [qup_n, hn]
        refine ⟨by omega, fun h => by omega, fun _ => ⟨by omega, trivial, by omega, fun _ => ?_, fun h => absurd trivial h⟩⟩
        refine hk.2 nok _ (qFr_up (qFr_up (qFr_up (qFr_up qFr.refl (by unfold qLg; omega)) (by unfold qLg; omega)) (by unfold qLg; omega)) (by unfold qLg; omega)) ?_
        simp (disch := omega) only [qup_n, qup_s]
    · rw [if_neg hd] at hk
      have hl := qlet_v (qpk B L p)
      have go : bC xs 1 93 [vi (qpk B L p)] ((b0, b1, b2), up M 1 2 (qsk B L p)) (fun z3 μ4 => (μ4.1 = (b0, b1, b2)) ∧ (inR z3 ∧ ((¬ z3 = (-1) → (bC xs 1 83 [vr 4, vi ((-2) - z3)] ((b0, b1, b2), up μ4.2 1 2 ((μ4.2 1 2) + 1)) (fun z5 μ6 => (μ6.1 = (b0, b1, b2)) ∧ (Q 1 ((b0, b1, b2), μ6.2))))) ∧ (z3 = (-1) → (Q 0 ((b0, b1, b2), up μ4.2 1 3 (μ4.2 1 2))))))) := by
        refine c_letterOf (by omega) ?_
        simp (disch := omega) only [qup_s, qup_up]
        refine ⟨trivial, by omega, fun h => ?_, fun h => ?_⟩
        · rw [if_neg h] at hk
          refine c_emit hn n0.1 (by omega) ?_
          intro M1 f1 c1
          exact ⟨rfl, hk.1 rfl M1 f1 c1⟩
        · rw [if_pos h] at hk
          exact hk.2 (by dsimp only; omega) _ (qFr_up (qFr_up qFr.refl (by unfold qLg; omega)) (by unfold qLg; omega)) qup_s
      exact ⟨fun _ => go, fun h => ⟨by omega, fun _ => go, fun h2 => by omega⟩⟩
theorem c_term0 (ht : qTp L B) (f : Nat) (ihI : ∀ (dJ : Nat) (dp p n : Int) (M : Nat → Int → Int) (Q : bPo), 3 * (6 - dp) + 5 ≤ dJ → 0 ≤ dp → dp ≤ 6 → qPre M B L p n → ¬ (qE B L f 0 dp p).1 = -2 → qKy b0 b1 b2 M n (qE B L f 0 dp p) Q → bGo xs dJ aM_X6_readAtom 0 [vr 4, vi dp, vn, vn] [] ((b0, b1, b2), up M 1 2 p) Q) (ihL : ∀ (dJ : Nat) (dp p n x : Int) (M : Nat → Int → Int) (Q : bPo), 3 * (6 - dp) + 6 ≤ dJ → 0 ≤ dp → dp ≤ 6 → 0 ≤ x → x ≤ p → qPre M B L p n → ¬ (qE B L f 2 dp p).1 = -2 → qKy b0 b1 b2 M n (qE B L f 2 dp p) Q → bGo xs dJ aM_X6_readTerm 12 [vr 4, vi dp, vi x, vn] [] ((b0, b1, b2), up M 1 2 p) Q) : ∀ (dJ : Nat) (dp p n : Int) (M : Nat → Int → Int) (Q : bPo), 3 * (6 - dp) + 6 ≤ dJ → 0 ≤ dp → dp ≤ 6 → qPre M B L p n → ¬ (qE B L (f + 1) 1 dp p).1 = -2 → qKy b0 b1 b2 M n (qE B L (f + 1) 1 dp p) Q → bGo xs dJ aM_X6_readTerm 0 [vr 4, vi dp, vn, vn] [] ((b0, b1, b2), up M 1 2 p) Q := by
  intro dJ dp p n M Q hJ d0 d6 hp hne hk
  have hp0 := hp
  obtain ⟨hc, hn, n0, p0, p1⟩ := hp
  have hb := ht.1
  have er : qE B L (f + 1) 1 dp p = qEs (qE B L f 0 dp p) (qE B L f 2 dp) := rfl
  rw [er] at hne hk
  have hok := qE_ok ht f 0 dp p p0 p1
  have hne1 : ¬ (qE B L f 0 dp p).1 = -2 := by
    intro h
    apply hne
    unfold qEs
    rw [if_neg (by omega)]
    exact h
  refine r_X6_readTerm_0 (by omega) (ihI (dJ - 1) dp p n M _ (by omega) d0 d6 hp0 hne1 ⟨?_, ?_⟩)
  · intro ok M1 f1 c1
    refine ⟨rfl, by omega, fun _ => ?_, fun h => by omega⟩
    unfold qEs at hne hk
    rw [if_pos ok] at hne hk
    generalize qE B L f 0 dp p = r at *
    have hb1 : p + 1 ≤ r.2.2 ∧ r.2.2 ≤ L ∧ (r.2.1.length : Int) + p ≤ r.2.2 := by
      have e : qlw 0 = 1 := rfl
      rw [e] at hok
      unfold qEok at hok
      omega
    have hne2 : ¬ (qE B L f 2 dp r.2.2).1 = -2 := by
      intro h
      apply hne
      rw [if_neg (by omega)]
      exact h
    refine ihL dJ dp r.2.2 (n + r.2.1.length) 0 M1 Q hJ d0 d6 (by omega) (by omega) ⟨qTc_lf f1 hc, c1.1, by omega, by omega, by omega⟩ hne2 ⟨?_, ?_⟩
    · intro ok2 M2 f2 c2
      rw [if_pos ok2] at hk
      exact hk.1 rfl M2 (f1.trans f2) (qCd_app c1 c2)
    · intro nok2 m2 f2 e2
      rw [if_neg nok2] at hk
      exact hk.2 nok2 m2 ((qLf_g f1).trans f2) e2
  · intro nok m1 f1 e1
    unfold qEs at hk
    rw [if_neg nok] at hk
    exact ⟨rfl, by omega, fun h => by omega, fun _ => hk.2 nok m1 f1 e1⟩
theorem c_termL (ht : qTp L B) (f : Nat) (ihI : ∀ (dJ : Nat) (dp p n : Int) (M : Nat → Int → Int) (Q : bPo), 3 * (6 - dp) + 5 ≤ dJ → 0 ≤ dp → dp ≤ 6 → qPre M B L p n → ¬ (qE B L f 0 dp p).1 = -2 → qKy b0 b1 b2 M n (qE B L f 0 dp p) Q → bGo xs dJ aM_X6_readAtom 0 [vr 4, vi dp, vn, vn] [] ((b0, b1, b2), up M 1 2 p) Q) (ihL : ∀ (dJ : Nat) (dp p n x : Int) (M : Nat → Int → Int) (Q : bPo), 3 * (6 - dp) + 6 ≤ dJ → 0 ≤ dp → dp ≤ 6 → 0 ≤ x → x ≤ p → qPre M B L p n → ¬ (qE B L f 2 dp p).1 = -2 → qKy b0 b1 b2 M n (qE B L f 2 dp p) Q → bGo xs dJ aM_X6_readTerm 12 [vr 4, vi dp, vi x, vn] [] ((b0, b1, b2), up M 1 2 p) Q) : ∀ (dJ : Nat) (dp p n x : Int) (M : Nat → Int → Int) (Q : bPo), 3 * (6 - dp) + 6 ≤ dJ → 0 ≤ dp → dp ≤ 6 → 0 ≤ x → x ≤ p → qPre M B L p n → ¬ (qE B L (f + 1) 2 dp p).1 = -2 → qKy b0 b1 b2 M n (qE B L (f + 1) 2 dp p) Q → bGo xs dJ aM_X6_readTerm 12 [vr 4, vi dp, vi x, vn] [] ((b0, b1, b2), up M 1 2 p) Q := by
  intro dJ dp p n x M Q hJ d0 d6 x0 x1 hp hne hk
  obtain ⟨hc, hn, n0, p0, p1⟩ := hp
  have hb := ht.1
  have k1 := qsk_bd (B := B) p p1
  have kc := qpk_c ht p0 p1
  have er : qE B L (f + 1) 2 dp p = if qpk B L p = 42 ∨ qpk B L p = 47 then qEo (qE B L f 0 dp (qsk B L p + 1)) (if qpk B L p = 42 then -12 else -13) (qE B L f 2 dp) else (-1, [], qsk B L p) := rfl
  rw [er] at hne hk
  by_cases hop : qpk B L p = 42 ∨ qpk B L p = 47
  · rw [if_pos hop] at hne hk
    obtain ⟨op, hopv⟩ : ∃ op, op = (if qpk B L p = 42 then (-12 : Int) else -13) := ⟨_, rfl⟩
    rw [← hopv] at hne hk
    have hok := qE_ok ht f 0 dp (qsk B L p + 1) (by omega) (by omega)
    have hne1 : ¬ (qE B L f 0 dp (qsk B L p + 1)).1 = -2 := by
      intro h
      apply hne
      unfold qEo
      rw [if_neg (by omega)]
      exact h
    have e1 : qlw 0 = 1 := rfl
    rw [e1] at hok
    have go : bGo xs (dJ - 1) aM_X6_readAtom 0 [vr 4, vi dp, vn, vn] [] ((b0, b1, b2), up M 1 2 (qsk B L p + 1)) (fun z5 μ6 => (μ6.1 = (b0, b1, b2)) ∧ (inR z5 ∧ ((¬ z5 = 0 → (inR (qpk B L p) ∧ ((¬ qpk B L p = 42 → (bC xs 1 83 [vr 4, vi (-13)] ((b0, b1, b2), μ6.2) (fun z7 μ8 => (μ8.1 = (b0, b1, b2)) ∧ (bGo xs dJ aM_X6_readTerm 12 [vr 4, vi dp, vi (x + 1), vn] [] ((b0, b1, b2), μ8.2) Q)))) ∧ (qpk B L p = 42 → (bC xs 1 83 [vr 4, vi (-12)] ((b0, b1, b2), μ6.2) (fun z9 μ10 => (μ10.1 = (b0, b1, b2)) ∧ (bGo xs dJ aM_X6_readTerm 12 [vr 4, vi dp, vi (x + 1), vn] [] ((b0, b1, b2), μ10.2) Q))))))) ∧ (z5 = 0 → (Q 0 ((b0, b1, b2), μ6.2)))))) := by
      refine ihI (dJ - 1) dp (qsk B L p + 1) n M _ (by omega) d0 d6 ⟨hc, hn, by omega, by omega, by omega⟩ hne1 ⟨?_, ?_⟩
      · intro ok M1 f1 c1
        unfold qEo at hne hk
        rw [if_pos ok] at hne hk
        generalize qE B L f 0 dp (qsk B L p + 1) = r at *
        have hb1 : qsk B L p + 1 + 1 ≤ r.2.2 ∧ r.2.2 ≤ L ∧ (r.2.1.length : Int) + (qsk B L p + 1) ≤ r.2.2 := by unfold qEok at hok; omega
        have hne2 : ¬ (qE B L f 2 dp r.2.2).1 = -2 := by
          intro h
          apply hne
          rw [if_neg (by omega)]
          exact h
        have emt : bC xs 1 83 [vr 4, vi op] ((b0, b1, b2), up M1 1 2 r.2.2) (fun z7 μ8 => (μ8.1 = (b0, b1, b2)) ∧ (bGo xs dJ aM_X6_readTerm 12 [vr 4, vi dp, vi (x + 1), vn] [] ((b0, b1, b2), μ8.2) Q)) := by
          refine c_emit c1.1 (by omega) (by omega) ?_
          intro M2 f2 c2
          refine ⟨rfl, ihL dJ dp r.2.2 (n + r.2.1.length + 1) (x + 1) M2 Q hJ d0 d6 (by omega) (by omega) ⟨qTc_lf f2 (qTc_lf f1 hc), c2.1, by omega, by omega, by omega⟩ hne2 ⟨?_, ?_⟩⟩
          · intro ok2 M3 f3 c3
            rw [if_pos ok2] at hk
            refine hk.1 rfl M3 ((f1.trans f2).trans f3) ?_
            have := qCd_app c1 (qCd_app c2 c3)
            exact this
          · intro nok2 m3 f3 e3
            rw [if_neg nok2] at hk
            exact hk.2 nok2 m3 (((qLf_g f1).trans (qLf_g f2)).trans f3) e3
        refine ⟨rfl, by omega, fun _ => ⟨by omega, fun h => ?_, fun h => ?_⟩, fun h => by omega⟩
        · rw [if_neg h] at hopv
          rw [hopv] at emt
          exact emt
        · rw [if_pos h] at hopv
          rw [hopv] at emt
          exact emt
      · intro nok m1 f1 e1
        unfold qEo at hk
        rw [if_neg nok] at hk
        exact ⟨rfl, by omega, fun h => by omega, fun _ => hk.2 nok m1 f1 e1⟩
    refine r_X6_readTerm_12 (by omega) ⟨by omega, fun h => by omega, fun _ => c_peek ht hc p0 p1 ?_⟩
    simp (disch := omega) only [qup_s, qup_up]
    exact ⟨trivial, by omega, fun _ => go, fun h => ⟨by omega, fun _ => go, fun h2 => by omega⟩⟩
  · rw [if_neg hop] at hk
    have fin := hk.1 rfl M qFr.refl (qCd_nil hn)
    dsimp only at fin
    refine r_X6_readTerm_12 (by omega) ⟨by omega, fun h => ?_, fun _ => c_peek ht hc p0 p1 ?_⟩
    · have e : qsk B L p = p := by omega
      rw [e] at fin
      exact fin
    · simp (disch := omega) only [qup_s, qup_up]
      exact ⟨trivial, by omega, fun h => by omega, fun _ => ⟨by omega, fun h => by omega, fun _ => fin⟩⟩
theorem c_sum0 (ht : qTp L B) (f : Nat) (ihI : ∀ (dJ : Nat) (dp p n : Int) (M : Nat → Int → Int) (Q : bPo), 3 * (6 - dp) + 6 ≤ dJ → 0 ≤ dp → dp ≤ 6 → qPre M B L p n → ¬ (qE B L f 1 dp p).1 = -2 → qKy b0 b1 b2 M n (qE B L f 1 dp p) Q → bGo xs dJ aM_X6_readTerm 0 [vr 4, vi dp, vn, vn] [] ((b0, b1, b2), up M 1 2 p) Q) (ihL : ∀ (dJ : Nat) (dp p n x : Int) (M : Nat → Int → Int) (Q : bPo), 3 * (6 - dp) + 7 ≤ dJ → 0 ≤ dp → dp ≤ 6 → 0 ≤ x → x ≤ p → qPre M B L p n → ¬ (qE B L f 4 dp p).1 = -2 → qKy b0 b1 b2 M n (qE B L f 4 dp p) Q → bGo xs dJ aM_X6_readSum 12 [vr 4, vi dp, vi x, vn] [] ((b0, b1, b2), up M 1 2 p) Q) : ∀ (dJ : Nat) (dp p n : Int) (M : Nat → Int → Int) (Q : bPo), 3 * (6 - dp) + 7 ≤ dJ → 0 ≤ dp → dp ≤ 6 → qPre M B L p n → ¬ (qE B L (f + 1) 3 dp p).1 = -2 → qKy b0 b1 b2 M n (qE B L (f + 1) 3 dp p) Q → bGo xs dJ aM_X6_readSum 0 [vr 4, vi dp, vn, vn] [] ((b0, b1, b2), up M 1 2 p) Q := by
  intro dJ dp p n M Q hJ d0 d6 hp hne hk
  have hp0 := hp
  obtain ⟨hc, hn, n0, p0, p1⟩ := hp
  have hb := ht.1
  have er : qE B L (f + 1) 3 dp p = qEs (qE B L f 1 dp p) (qE B L f 4 dp) := rfl
  rw [er] at hne hk
  have hok := qE_ok ht f 1 dp p p0 p1
  have hne1 : ¬ (qE B L f 1 dp p).1 = -2 := by
    intro h
    apply hne
    unfold qEs
    rw [if_neg (by omega)]
    exact h
  refine r_X6_readSum_0 (by omega) (ihI (dJ - 1) dp p n M _ (by omega) d0 d6 hp0 hne1 ⟨?_, ?_⟩)
  · intro ok M1 f1 c1
    refine ⟨rfl, by omega, fun _ => ?_, fun h => by omega⟩
    unfold qEs at hne hk
    rw [if_pos ok] at hne hk
    generalize qE B L f 1 dp p = r at *
    have hb1 : p + 1 ≤ r.2.2 ∧ r.2.2 ≤ L ∧ (r.2.1.length : Int) + p ≤ r.2.2 := by
      have e : qlw 1 = 1 := rfl
      rw [e] at hok
      unfold qEok at hok
      omega
    have hne2 : ¬ (qE B L f 4 dp r.2.2).1 = -2 := by
      intro h
      apply hne
      rw [if_neg (by omega)]
      exact h
    refine ihL dJ dp r.2.2 (n + r.2.1.length) 0 M1 Q hJ d0 d6 (by omega) (by omega) ⟨qTc_lf f1 hc, c1.1, by omega, by omega, by omega⟩ hne2 ⟨?_, ?_⟩
    · intro ok2 M2 f2 c2
      rw [if_pos ok2] at hk
      exact hk.1 rfl M2 (f1.trans f2) (qCd_app c1 c2)
    · intro nok2 m2 f2 e2
      rw [if_neg nok2] at hk
      exact hk.2 nok2 m2 ((qLf_g f1).trans f2) e2
  · intro nok m1 f1 e1
    unfold qEs at hk
    rw [if_neg nok] at hk
    exact ⟨rfl, by omega, fun h => by omega, fun _ => hk.2 nok m1 f1 e1⟩
theorem c_sumL (ht : qTp L B) (f : Nat) (ihI : ∀ (dJ : Nat) (dp p n : Int) (M : Nat → Int → Int) (Q : bPo), 3 * (6 - dp) + 6 ≤ dJ → 0 ≤ dp → dp ≤ 6 → qPre M B L p n → ¬ (qE B L f 1 dp p).1 = -2 → qKy b0 b1 b2 M n (qE B L f 1 dp p) Q → bGo xs dJ aM_X6_readTerm 0 [vr 4, vi dp, vn, vn] [] ((b0, b1, b2), up M 1 2 p) Q) (ihL : ∀ (dJ : Nat) (dp p n x : Int) (M : Nat → Int → Int) (Q : bPo), 3 * (6 - dp) + 7 ≤ dJ → 0 ≤ dp → dp ≤ 6 → 0 ≤ x → x ≤ p → qPre M B L p n → ¬ (qE B L f 4 dp p).1 = -2 → qKy b0 b1 b2 M n (qE B L f 4 dp p) Q → bGo xs dJ aM_X6_readSum 12 [vr 4, vi dp, vi x, vn] [] ((b0, b1, b2), up M 1 2 p) Q) : ∀ (dJ : Nat) (dp p n x : Int) (M : Nat → Int → Int) (Q : bPo), 3 * (6 - dp) + 7 ≤ dJ → 0 ≤ dp → dp ≤ 6 → 0 ≤ x → x ≤ p → qPre M B L p n → ¬ (qE B L (f + 1) 4 dp p).1 = -2 → qKy b0 b1 b2 M n (qE B L (f + 1) 4 dp p) Q → bGo xs dJ aM_X6_readSum 12 [vr 4, vi dp, vi x, vn] [] ((b0, b1, b2), up M 1 2 p) Q := by
  intro dJ dp p n x M Q hJ d0 d6 x0 x1 hp hne hk
  obtain ⟨hc, hn, n0, p0, p1⟩ := hp
  have hb := ht.1
  have k1 := qsk_bd (B := B) p p1
  have kc := qpk_c ht p0 p1
  have er : qE B L (f + 1) 4 dp p = if qpk B L p = 43 ∨ qpk B L p = 45 then qEo (qE B L f 1 dp (qsk B L p + 1)) (if qpk B L p = 43 then -10 else -11) (qE B L f 4 dp) else (-1, [], qsk B L p) := rfl
  rw [er] at hne hk
  by_cases hop : qpk B L p = 43 ∨ qpk B L p = 45
  · rw [if_pos hop] at hne hk
    obtain ⟨op, hopv⟩ : ∃ op, op = (if qpk B L p = 43 then (-10 : Int) else -11) := ⟨_, rfl⟩
    rw [← hopv] at hne hk
    have hok := qE_ok ht f 1 dp (qsk B L p + 1) (by omega) (by omega)
    have hne1 : ¬ (qE B L f 1 dp (qsk B L p + 1)).1 = -2 := by
      intro h
      apply hne
      unfold qEo
      rw [if_neg (by omega)]
      exact h
    have e1 : qlw 1 = 1 := rfl
    rw [e1] at hok
    have go : bGo xs (dJ - 1) aM_X6_readTerm 0 [vr 4, vi dp, vn, vn] [] ((b0, b1, b2), up M 1 2 (qsk B L p + 1)) (fun z5 μ6 => (μ6.1 = (b0, b1, b2)) ∧ (inR z5 ∧ ((¬ z5 = 0 → (inR (qpk B L p) ∧ ((¬ qpk B L p = 43 → (bC xs 1 83 [vr 4, vi (-11)] ((b0, b1, b2), μ6.2) (fun z7 μ8 => (μ8.1 = (b0, b1, b2)) ∧ (bGo xs dJ aM_X6_readSum 12 [vr 4, vi dp, vi (x + 1), vn] [] ((b0, b1, b2), μ8.2) Q)))) ∧ (qpk B L p = 43 → (bC xs 1 83 [vr 4, vi (-10)] ((b0, b1, b2), μ6.2) (fun z9 μ10 => (μ10.1 = (b0, b1, b2)) ∧ (bGo xs dJ aM_X6_readSum 12 [vr 4, vi dp, vi (x + 1), vn] [] ((b0, b1, b2), μ10.2) Q))))))) ∧ (z5 = 0 → (Q 0 ((b0, b1, b2), μ6.2)))))) := by
      refine ihI (dJ - 1) dp (qsk B L p + 1) n M _ (by omega) d0 d6 ⟨hc, hn, by omega, by omega, by omega⟩ hne1 ⟨?_, ?_⟩
      · intro ok M1 f1 c1
        unfold qEo at hne hk
        rw [if_pos ok] at hne hk
        generalize qE B L f 1 dp (qsk B L p + 1) = r at *
        have hb1 : qsk B L p + 1 + 1 ≤ r.2.2 ∧ r.2.2 ≤ L ∧ (r.2.1.length : Int) + (qsk B L p + 1) ≤ r.2.2 := by unfold qEok at hok; omega
        have hne2 : ¬ (qE B L f 4 dp r.2.2).1 = -2 := by
          intro h
          apply hne
          rw [if_neg (by omega)]
          exact h
        have emt : bC xs 1 83 [vr 4, vi op] ((b0, b1, b2), up M1 1 2 r.2.2) (fun z7 μ8 => (μ8.1 = (b0, b1, b2)) ∧ (bGo xs dJ aM_X6_readSum 12 [vr 4, vi dp, vi (x + 1), vn] [] ((b0, b1, b2), μ8.2) Q)) := by
          refine c_emit c1.1 (by omega) (by omega) ?_
          intro M2 f2 c2
          refine ⟨rfl, ihL dJ dp r.2.2 (n + r.2.1.length + 1) (x + 1) M2 Q hJ d0 d6 (by omega) (by omega) ⟨qTc_lf f2 (qTc_lf f1 hc), c2.1, by omega, by omega, by omega⟩ hne2 ⟨?_, ?_⟩⟩
          · intro ok2 M3 f3 c3
            rw [if_pos ok2] at hk
            refine hk.1 rfl M3 ((f1.trans f2).trans f3) ?_
            have := qCd_app c1 (qCd_app c2 c3)
            exact this
          · intro nok2 m3 f3 e3
            rw [if_neg nok2] at hk
            exact hk.2 nok2 m3 (((qLf_g f1).trans (qLf_g f2)).trans f3) e3
        refine ⟨rfl, by omega, fun _ => ⟨by omega, fun h => ?_, fun h => ?_⟩, fun h => by omega⟩
        · rw [if_neg h] at hopv
          rw [hopv] at emt
          exact emt
        · rw [if_pos h] at hopv
          rw [hopv] at emt
          exact emt
      · intro nok m1 f1 e1
        unfold qEo at hk
        rw [if_neg nok] at hk
        exact ⟨rfl, by omega, fun h => by omega, fun _ => hk.2 nok m1 f1 e1⟩
    refine r_X6_readSum_12 (by omega) ⟨by omega, fun h => by omega, fun _ => c_peek ht hc p0 p1 ?_⟩
    simp (disch := omega) only [qup_s, qup_up]
    exact ⟨trivial, by omega, fun _ => go, fun h => ⟨by omega, fun _ => go, fun h2 => by omega⟩⟩
  · rw [if_neg hop] at hk
    have fin := hk.1 rfl M qFr.refl (qCd_nil hn)
    dsimp only at fin
    refine r_X6_readSum_12 (by omega) ⟨by omega, fun h => ?_, fun _ => c_peek ht hc p0 p1 ?_⟩
    · have e : qsk B L p = p := by omega
      rw [e] at fin
      exact fin
    · simp (disch := omega) only [qup_s, qup_up]
      exact ⟨trivial, by omega, fun h => by omega, fun _ => ⟨by omega, fun h => by omega, fun _ => fin⟩⟩
theorem c_sums (ht : qTp L B) : ∀ f : Nat, (∀ (dJ : Nat) (dp p n : Int) (M : Nat → Int → Int) (Q : bPo), 3 * (6 - dp) + 5 ≤ dJ → 0 ≤ dp → dp ≤ 6 → qPre M B L p n → ¬ (qE B L f 0 dp p).1 = -2 → qKy b0 b1 b2 M n (qE B L f 0 dp p) Q → bGo xs dJ aM_X6_readAtom 0 [vr 4, vi dp, vn, vn] [] ((b0, b1, b2), up M 1 2 p) Q) ∧ (∀ (dJ : Nat) (dp p n : Int) (M : Nat → Int → Int) (Q : bPo), 3 * (6 - dp) + 6 ≤ dJ → 0 ≤ dp → dp ≤ 6 → qPre M B L p n → ¬ (qE B L f 1 dp p).1 = -2 → qKy b0 b1 b2 M n (qE B L f 1 dp p) Q → bGo xs dJ aM_X6_readTerm 0 [vr 4, vi dp, vn, vn] [] ((b0, b1, b2), up M 1 2 p) Q) ∧ (∀ (dJ : Nat) (dp p n x : Int) (M : Nat → Int → Int) (Q : bPo), 3 * (6 - dp) + 6 ≤ dJ → 0 ≤ dp → dp ≤ 6 → 0 ≤ x → x ≤ p → qPre M B L p n → ¬ (qE B L f 2 dp p).1 = -2 → qKy b0 b1 b2 M n (qE B L f 2 dp p) Q → bGo xs dJ aM_X6_readTerm 12 [vr 4, vi dp, vi x, vn] [] ((b0, b1, b2), up M 1 2 p) Q) ∧ (∀ (dJ : Nat) (dp p n : Int) (M : Nat → Int → Int) (Q : bPo), 3 * (6 - dp) + 7 ≤ dJ → 0 ≤ dp → dp ≤ 6 → qPre M B L p n → ¬ (qE B L f 3 dp p).1 = -2 → qKy b0 b1 b2 M n (qE B L f 3 dp p) Q → bGo xs dJ aM_X6_readSum 0 [vr 4, vi dp, vn, vn] [] ((b0, b1, b2), up M 1 2 p) Q) ∧ (∀ (dJ : Nat) (dp p n x : Int) (M : Nat → Int → Int) (Q : bPo), 3 * (6 - dp) + 7 ≤ dJ → 0 ≤ dp → dp ≤ 6 → 0 ≤ x → x ≤ p → qPre M B L p n → ¬ (qE B L f 4 dp p).1 = -2 → qKy b0 b1 b2 M n (qE B L f 4 dp p) Q → bGo xs dJ aM_X6_readSum 12 [vr 4, vi dp, vi x, vn] [] ((b0, b1, b2), up M 1 2 p) Q) := by
  intro f
  induction f with
  | zero =>
    refine ⟨fun dJ dp p n M Q _ _ _ _ h => absurd rfl h, fun dJ dp p n M Q _ _ _ _ h => absurd rfl h, fun dJ dp p n x M Q _ _ _ _ _ _ h => absurd rfl h, fun dJ dp p n M Q _ _ _ _ h => absurd rfl h, fun dJ dp p n x M Q _ _ _ _ _ _ h => absurd rfl h⟩
  | succ f ih =>
    obtain ⟨i0, i1, i2, i3, i4⟩ := ih
    exact ⟨c_atomS ht f i3, c_term0 ht f i0 i2, c_termL ht f i0 i2, c_sum0 ht f i1 i4, c_sumL ht f i1 i4⟩
theorem c_readSum {dp : Int} (ht : qTp L B) (d0 : 0 ≤ dp) (d6 : dp ≤ 6) (hp : qPre M B L p n) {f : Nat} (hne : ¬ (qE B L f 3 dp p).1 = -2) (hk : qKy b0 b1 b2 M n (qE B L f 3 dp p) Q) : bC xs 122 89 [vr 4, vi dp] ((b0, b1, b2), up M 1 2 p) Q :=
  qC rfl fun dJ hd => (c_sums ht f).2.2.2.1 dJ dp p n M Q (by omega) d0 d6 hp hne hk
end CLW
