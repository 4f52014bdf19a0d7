/-! B: the model reckons sums, on -/
theorem qva_sq {E : Int → Int} {G1 G2 a v : Int} {l1 l2 : List Int} (h1 : qSem E G1 l1 a) (h2 : qSeL E G2 l2 a v) (g1 : G1 ≤ 64) (g2 : G2 ≤ 64) : qva E (l1 ++ l2) [] = qva E l2 [qva E l1 []] := by
  rw [qva_s h1 g1, qva_l h2 g2]
  exact qva_s (G := 64) (qSem_s h1 h2 g1 g2) (by omega)
theorem qva_so {E : Int → Int} {G1 G2 a b v op : Int} {l1 l2 : List Int} (hc : -18 ≤ op ∧ op ≤ -10) (hk : qokk op a b) (h1 : qSem E G1 l1 b) (h2 : qSeL E G2 l2 (qop op a b) v) (g1 : G1 + 1 ≤ 64) (g2 : G2 ≤ 64) : qva E (l1 ++ (op :: l2)) [a] = qva E l2 [qop op a (qva E l1 [])] := by
  rw [qva_s h1 (by omega), qva_l h2 g2]
  exact qva_l (G := 64) (qSeL_o hc hk h1 h2 g1 g2) (by omega)
theorem qG_le {tag : Nat} {d : Int} (d0 : 0 ≤ d) : qG tag d + 1 ≤ 64 := by
  have : qGb tag ≤ 6 := by
    unfold qGb
    split <;> omega
  unfold qG
  omega
abbrev qD1 (b0 b1 b2 : Bool) (g L : Int) (B E : Int → Int) (n tag : Nat) (r0 : Int) (kd : Int → Prop) (go : Nat → bMm → bPo → Prop) : Prop := ∀ (dJ : Nat) (dp p : Int) (M : Nat → Int → Int) (Q : bPo), r0 + 3 * (6 - dp) ≤ dJ → 0 ≤ dp → dp ≤ 6 → qMp M b2 g L B E dp p → ¬ (qE B L n tag dp p).1 = -2 → qKm b0 b1 b2 M (qE B L n tag dp p) (qva E (qE B L n tag dp p).2.1 []) kd Q → go dJ ((b0, b1, b2), up M 120 10 p) Q
abbrev qD2 (b0 b1 b2 : Bool) (g L : Int) (B E : Int → Int) (n tag : Nat) (r0 : Int) (ka kd : Int → Prop) (go : Nat → Int → bMm → bPo → Prop) : Prop := ∀ (dJ : Nat) (dp p a : Int) (M : Nat → Int → Int) (Q : bPo), r0 + 3 * (6 - dp) ≤ dJ → 0 ≤ dp → dp ≤ 6 → ka a → qMp M b2 g L B E dp p → ¬ (qE B L n tag dp p).1 = -2 → qKm b0 b1 b2 M (qE B L n tag dp p) (qva E (qE B L n tag dp p).2.1 [a]) kd Q → go dJ a ((b0, b1, b2), up M 120 10 p) Q
theorem bGo_imp {xs : List Int32} {d : Nat} {K : aM} {pc : Nat} {lv st : List bV} {μ : bMm} {Q Q' : bPo} (hi : ∀ z μ, Q z μ → Q' z μ) (k : bGo xs d K pc lv st μ Q) : bGo xs d K pc lv st μ Q' := by
  obtain ⟨f, v, z, μ2, e, hr, hq⟩ := k
  exact ⟨f, v, z, μ2, e, hr, hi _ _ hq⟩
section MS2
variable {xs : List Int32} {b0 b1 b2 : Bool} {B E : Int → Int} {g L : Int}
theorem qr_L (ht : qTp L B) {n tag : Nat} {d p : Int} (p0 : 0 ≤ p) (p1 : p ≤ L) (h : ¬ (qE B L n tag d p).1 = -2) : -1 ≤ (qE B L n tag d p).1 ∧ (qE B L n tag d p).1 ≤ 240 := by
  have := qE_ok ht n tag d p p0 p1
  have := ht.1
  unfold qEok at *
  omega
theorem qr_p (ht : qTp L B) {n tag : Nat} {d p : Int} (p0 : 0 ≤ p) (p1 : p ≤ L) (h : (qE B L n tag d p).1 = -1) : p ≤ (qE B L n tag d p).2.2 ∧ (qE B L n tag d p).2.2 ≤ L := by
  have := qE_ok ht n tag d p p0 p1
  have : qlw tag = 0 ∨ qlw tag = 1 := by unfold qlw; split <;> simp
  unfold qEok at *
  omega
theorem d_atomS (ht : qTp L B) (hE : ∀ i, qbn (E i)) (n : Nat) (ihS : qD1 b0 b1 b2 g L B E n 3 11 qbn (fun dJ μ Q => bGo xs dJ aM_X12_sum 0 [vr 120, vn, vn, vn, vn] [] μ Q)) : qD1 b0 b1 b2 g L B E (n + 1) 0 9 qbn (fun dJ μ Q => bGo xs dJ aM_X12_atom 0 [vr 120, vn, vn, vn] [] μ Q) := by
  intro dJ dp p M Q hJ d0 d6 hp hne hk
  obtain ⟨hx, h11, h12, hl, p0, p1⟩ := hp
  have hb := ht.1
  have k1 := qsk_bd (B := B) p p1
  have kc := qpk_c ht p0 p1
  have hlv := qlet_v (qpk B L p)
  have b0' : qbn 0 := by unfold qbn; omega
  change ¬ (qEat B L (qE B L n) dp p).1 = -2 at hne
  change qKm b0 b1 b2 M (qEat B L (qE B L n) dp p) (qva E (qEat B L (qE B L n) dp p).2.1 []) qbn Q at hk
  unfold qEat at hk hne
  refine r_X12_atom_0 (by omega) (d_look ht hx p0 p1 ?_)
  rw [qAm_let]
  refine ⟨rfl, by omega, by split <;> omega, fun hz => ⟨by omega, fun h91 => ?_, fun h91 => ?_⟩, fun hz => ⟨by split at hz <;> omega, ?_⟩⟩
  · have hnl : qlet (qpk B L p) = -1 := by split at hz <;> omega
    rw [if_neg h91] at hk
    have edg : qdg B L (qsk B L p) ↔ 48 ≤ qpk B L p ∧ qpk B L p ≤ 57 := by
      unfold qdg
      rcases kc with ⟨h1, h2⟩ | ⟨h1, h2, h3⟩
      · omega
      · rw [h2]; omega
    refine d_isDigit ht hx (by omega) (by omega) ?_
    by_cases hg : qdg B L (qsk B L p)
    · rw [if_pos hg]
      refine ⟨rfl, by omega, fun _ => ?_, fun h => by omega⟩
      rw [if_pos (edg.mp hg)] at hk
      have hbd := qnl_bd (B := B) (L := L) 4 0 (qsk B L p) (by omega) (by omega)
      have hst : ¬ (qnl B L 4 0 (qsk B L p)).2 = qsk B L p := by
        rw [qnl, if_pos hg]
        have := qnl_bd (B := B) (L := L) 3 (0 * 10 + B (qsk B L p) - 48) (qsk B L p + 1) (by unfold qdg at hg; omega) (by unfold qdg at hg; omega)
        omega
      refine d_atomN (by omega) ht hx h11 4 0 0 (qsk B L p) (by omega) (by omega) (by omega) (by omega) (fun hnd => ?_) (fun hd => ?_)
      · have hor : ¬ ((qnl B L 4 0 (qsk B L p)).2 = qsk B L p ∨ qdg B L (qnl B L 4 0 (qsk B L p)).2) := fun h => h.elim hst hnd
        have en : qnum B L 4 p 0 9999 = (-1, (qnl B L 4 0 (qsk B L p)).1, (qnl B L 4 0 (qsk B L p)).2) := by
          unfold qnum qnmr
          rw [if_neg hor, if_pos (by omega)]
        rw [en, if_pos rfl] at hk
        have := hk.1 rfl
        dsimp only at this
        rw [qva_s (G := 1) (qSem_num (by omega) (by omega) (by omega)) (by omega)] at this
        exact this
      · have en : qnum B L 4 p 0 9999 = ((qnl B L 4 0 (qsk B L p)).2, 0, (qnl B L 4 0 (qsk B L p)).2) := by
          unfold qnum qnmr
          rw [if_pos (Or.inr hd)]
        rw [en, if_neg (by dsimp only; omega)] at hk
        exact hk.2 (by dsimp only; omega) 0 _ b0' (qFr_up (qFr_up qFr.refl (by unfold qLm; omega)) (by unfold qLm; omega)) (by dsimp only; rw [qup_s])
    · rw [if_neg hg]
      refine ⟨rfl, by omega, fun h => absurd rfl h, fun _ => ?_⟩
      dsimp only
      rw [qup_o (by omega), h11, qup_s]
      refine ⟨by omega, fun h => absurd rfl h, fun _ => ?_⟩
      rw [if_neg (fun h => hg (edg.mpr h)), if_pos hnl] at hk
      rw [qup_e (by omega)]
      refine r_X12_atom_90 (by omega) (d_isDigit ht (qXm_12 (by omega) hx) (by omega) (by omega) ?_)
      rw [if_neg hg]
      exact ⟨rfl, by omega, fun _ => hk.2 (by dsimp only; omega) 0 _ b0' (qFr_up (qFr_up qFr.refl (by unfold qLm; omega)) (by unfold qLm; omega)) (by dsimp only; rw [qup_o (by omega), qup_s]), fun h => absurd rfl h⟩
  · rw [if_pos h91] at hk hne
    refine d_goesIn h11 h12 d0 d6 (fun h6 => ?_) (fun h6 => ?_)
    · rw [if_neg h6] at hk hne
      refine ⟨rfl, by omega, fun _ => ?_, fun h => by omega⟩
      have hs2 : ¬ (qE B L n 3 (dp + 1) (qsk B L p + 1)).1 = -2 := by
        intro h
        unfold qEb at hne
        rw [if_neg (by omega)] at hne
        exact hne h
      have hrl := qr_L ht (by omega) (by omega) hs2
      have hrp := qr_p (n := n) (tag := 3) (d := dp + 1) (p := qsk B L p + 1) ht (by omega) (by omega)
      refine ihS (dJ - 1) (dp + 1) (qsk B L p + 1) (up M 120 12 (dp + 1)) _ (by omega) (by omega) (by omega) ⟨qXm_12 (by omega) hx, by rw [qup_o (by omega)]; exact h11, qup_s, fun c hc => by rw [qup_n (by omega)]; exact hl c hc, by omega, by omega⟩ hs2 ⟨?_, ?_⟩
      · intro ok
        have hrp := hrp ok
        unfold qEb at hk
        rw [if_pos ok] at hk
        generalize qE B L n 3 (dp + 1) (qsk B L p + 1) = r at *
        have k4 := qsk_bd (B := B) r.2.2 hrp.2
        refine ⟨rfl, d_takesC ht (qXm_12 (by omega) hx) (by rw [qup_o (by omega)]; exact h11) (by omega) (by omega) (by omega) (fun h93 => ?_) (fun h93 => ?_)⟩
        · rw [if_pos h93] at hk
          refine ⟨rfl, by omega, fun _ => ?_, fun h => by omega⟩
          have := hk.1 rfl
          dsimp only
          rw [qup_e (by omega), qup_up, qup_o (by omega), qup_s, show dp + 1 - 1 = dp by omega, ← h12, qup_id]
          exact this
        · rw [if_neg h93] at hk
          exact ⟨rfl, by omega, fun h => absurd rfl h, fun _ => hk.2 (by dsimp only; omega) 0 _ b0' (qFr_up (qFr_up (qFr_up qFr.refl (by unfold qLm; omega)) (by unfold qLm; omega)) (by unfold qLm; omega)) (by dsimp only; rw [qup_s])⟩
      · intro nok w m' hw fm e11
        unfold qEb at hk
        rw [if_neg nok] at hk
        exact ⟨rfl, d_takesF (by dsimp only; rw [e11]; exact nok) (by dsimp only; rw [e11]; omega) ⟨rfl, by omega, fun h => absurd rfl h, fun _ => hk.2 nok 0 m' b0' ((qFr_up qFr.refl (by unfold qLm; omega)).trans fm) e11⟩⟩
    · rw [if_pos h6] at hk
      exact ⟨rfl, by omega, fun h => absurd rfl h, fun _ => hk.2 (by dsimp only; omega) 0 _ b0' (qFr_up (qFr_up qFr.refl (by unfold qLm; omega)) (by unfold qLm; omega)) (by dsimp only; rw [qup_s])⟩
  · have hnl : ¬ qlet (qpk B L p) = -1 := by split at hz <;> first | omega | assumption
    have h91 : ¬ qpk B L p = 91 := by omega
    rw [if_neg h91, if_neg (by omega), if_neg hnl] at hk
    have := hk.1 rfl
    rw [qva_s (G := 1) (qSem_let (by omega) (by omega) (by omega)) (by omega)] at this
    dsimp only
    rw [qup_n (by omega), hl _ hnl, qup_s, qup_up]
    exact this
def qT5 (xs : List Int32) (d : Nat) (b0 b1 b2 : Bool) (m : Nat → Int → Int) (x1 : Int) (Q : bPo) : Prop := inR (m 120 11) ∧ ((¬ m 120 11 = (-1) → (Q x1 ((b0, b1, b2), m))) ∧ (m 120 11 = (-1) → (bC xs 1 180 [vr 120] ((b0, b1, b2), m) (fun z3 μ4 => (μ4.1 = (b0, b1, b2)) ∧ (inR z3 ∧ ((z3 = 42 → (bC xs 1 180 [vr 120] ((b0, b1, b2), μ4.2) (fun z5 μ6 => (μ6.1 = (b0, b1, b2)) ∧ (inR z5 ∧ ((¬ z5 = 42 → (bGo xs (d - 1) aM_X12_atom 0 [vr 120, vn, vn, vn] [] ((b0, b1, b2), up μ6.2 120 10 ((μ6.2 120 10) + 1)) (fun z7 μ8 => (μ8.1 = (b0, b1, b2)) ∧ (inR z7 ∧ (inL z7 ∧ ((¬ z7 = 0 → (inR x1 ∧ (inL x1 ∧ ((inL z7 ∧ ¬ z7 = 0) ∧ (inL (Int.tdiv x1 z7) ∧ (inL (min 1000000 (Int.tdiv x1 z7)) ∧ (bGo xs d aM_X12_term 5 [vr 120, vi (max (-1000000) (min 1000000 (Int.tdiv x1 z7))), vn, vl z7, vn] [] ((b0, b1, b2), μ8.2) Q))))))) ∧ (z7 = 0 → (inL (min 1000000 0) ∧ (bGo xs d aM_X12_term 5 [vr 120, vi (max (-1000000) (min 1000000 0)), vn, vl z7, vn] [] ((b0, b1, b2), μ8.2) Q))))))))) ∧ (z5 = 42 → (bGo xs (d - 1) aM_X12_atom 0 [vr 120, vn, vn, vn] [] ((b0, b1, b2), up μ6.2 120 10 ((μ6.2 120 10) + 1)) (fun z9 μ10 => (μ10.1 = (b0, b1, b2)) ∧ (inR z9 ∧ (inR x1 ∧ (inL (x1 * z9) ∧ (inL (min 1000000 (x1 * z9)) ∧ (bGo xs d aM_X12_term 5 [vr 120, vi (max (-1000000) (min 1000000 (x1 * z9))), vn, vl z9, vn] [] ((b0, b1, b2), μ10.2) Q))))))))))))) ∧ (¬ z3 = 42 → (bC xs 1 180 [vr 120] ((b0, b1, b2), μ4.2) (fun z11 μ12 => (μ12.1 = (b0, b1, b2)) ∧ (inR z11 ∧ ((¬ z11 = 47 → (Q x1 ((b0, b1, b2), μ12.2))) ∧ (z11 = 47 → (bC xs 1 180 [vr 120] ((b0, b1, b2), μ12.2) (fun z13 μ14 => (μ14.1 = (b0, b1, b2)) ∧ (inR z13 ∧ ((¬ z13 = 42 → (bGo xs (d - 1) aM_X12_atom 0 [vr 120, vn, vn, vn] [] ((b0, b1, b2), up μ14.2 120 10 ((μ14.2 120 10) + 1)) (fun z15 μ16 => (μ16.1 = (b0, b1, b2)) ∧ (inR z15 ∧ (inL z15 ∧ ((¬ z15 = 0 → (inR x1 ∧ (inL x1 ∧ ((inL z15 ∧ ¬ z15 = 0) ∧ (inL (Int.tdiv x1 z15) ∧ (inL (min 1000000 (Int.tdiv x1 z15)) ∧ (bGo xs d aM_X12_term 5 [vr 120, vi (max (-1000000) (min 1000000 (Int.tdiv x1 z15))), vn, vl z15, vn] [] ((b0, b1, b2), μ16.2) Q))))))) ∧ (z15 = 0 → (inL (min 1000000 0) ∧ (bGo xs d aM_X12_term 5 [vr 120, vi (max (-1000000) (min 1000000 0)), vn, vl z15, vn] [] ((b0, b1, b2), μ16.2) Q))))))))) ∧ (z13 = 42 → (bGo xs (d - 1) aM_X12_atom 0 [vr 120, vn, vn, vn] [] ((b0, b1, b2), up μ14.2 120 10 ((μ14.2 120 10) + 1)) (fun z17 μ18 => (μ18.1 = (b0, b1, b2)) ∧ (inR z17 ∧ (inR x1 ∧ (inL (x1 * z17) ∧ (inL (min 1000000 (x1 * z17)) ∧ (bGo xs d aM_X12_term 5 [vr 120, vi (max (-1000000) (min 1000000 (x1 * z17))), vn, vl z17, vn] [] ((b0, b1, b2), μ18.2) Q))))))))))))))))))))))))
theorem r_term5 {d : Nat} {a : Int} {lv : bV} {m : Nat → Int → Int} {Q : bPo} (hl : lv = vn ∨ ∃ y, lv = vl y) (hd : 9 ≤ d) (H : qT5 xs d b0 b1 b2 m a Q) : bGo xs d aM_X12_term 5 [vr 120, vi a, vn, lv, vn] [] ((b0, b1, b2), m) Q := by
  rcases hl with rfl | ⟨y, rfl⟩
  · exact r_X12_term_5 hd H
  · exact r_X12_term_5L hd H
def qS5 (xs : List Int32) (d : Nat) (b0 b1 b2 : Bool) (m : Nat → Int → Int) (x1 : Int) (Q : bPo) : Prop := inR (m 120 11) ∧ ((¬ m 120 11 = (-1) → (Q x1 ((b0, b1, b2), m))) ∧ (m 120 11 = (-1) → (bC xs 1 180 [vr 120] ((b0, b1, b2), m) (fun z3 μ4 => (μ4.1 = (b0, b1, b2)) ∧ (inR z3 ∧ ((z3 = 43 → (bC xs 1 180 [vr 120] ((b0, b1, b2), μ4.2) (fun z5 μ6 => (μ6.1 = (b0, b1, b2)) ∧ (inR z5 ∧ ((¬ z5 = 43 → (bGo xs (d - 1) aM_X12_term 0 [vr 120, vn, vn, vn, vn] [] ((b0, b1, b2), up μ6.2 120 10 ((μ6.2 120 10) + 1)) (fun z7 μ8 => (μ8.1 = (b0, b1, b2)) ∧ (inR z7 ∧ (inR x1 ∧ (inL (x1 - z7) ∧ (inL (min 1000000 (x1 - z7)) ∧ (bGo xs d aM_X12_sum 5 [vr 120, vi (max (-1000000) (min 1000000 (x1 - z7))), vn, vl z7, vn] [] ((b0, b1, b2), μ8.2) Q)))))))) ∧ (z5 = 43 → (bGo xs (d - 1) aM_X12_term 0 [vr 120, vn, vn, vn, vn] [] ((b0, b1, b2), up μ6.2 120 10 ((μ6.2 120 10) + 1)) (fun z9 μ10 => (μ10.1 = (b0, b1, b2)) ∧ (inR z9 ∧ (inR x1 ∧ (inL (x1 + z9) ∧ (inL (min 1000000 (x1 + z9)) ∧ (bGo xs d aM_X12_sum 5 [vr 120, vi (max (-1000000) (min 1000000 (x1 + z9))), vn, vl z9, vn] [] ((b0, b1, b2), μ10.2) Q))))))))))))) ∧ (¬ z3 = 43 → (bC xs 1 180 [vr 120] ((b0, b1, b2), μ4.2) (fun z11 μ12 => (μ12.1 = (b0, b1, b2)) ∧ (inR z11 ∧ ((¬ z11 = 45 → (Q x1 ((b0, b1, b2), μ12.2))) ∧ (z11 = 45 → (bC xs 1 180 [vr 120] ((b0, b1, b2), μ12.2) (fun z13 μ14 => (μ14.1 = (b0, b1, b2)) ∧ (inR z13 ∧ ((¬ z13 = 43 → (bGo xs (d - 1) aM_X12_term 0 [vr 120, vn, vn, vn, vn] [] ((b0, b1, b2), up μ14.2 120 10 ((μ14.2 120 10) + 1)) (fun z15 μ16 => (μ16.1 = (b0, b1, b2)) ∧ (inR z15 ∧ (inR x1 ∧ (inL (x1 - z15) ∧ (inL (min 1000000 (x1 - z15)) ∧ (bGo xs d aM_X12_sum 5 [vr 120, vi (max (-1000000) (min 1000000 (x1 - z15))), vn, vl z15, vn] [] ((b0, b1, b2), μ16.2) Q)))))))) ∧ (z13 = 43 → (bGo xs (d - 1) aM_X12_term 0 [vr 120, vn, vn, vn, vn] [] ((b0, b1, b2), up μ14.2 120 10 ((μ14.2 120 10) + 1)) (fun z17 μ18 => (μ18.1 = (b0, b1, b2)) ∧ (inR z17 ∧ (inR x1 ∧ (inL (x1 + z17) ∧ (inL (min 1000000 (x1 + z17)) ∧ (bGo xs d aM_X12_sum 5 [vr 120, vi (max (-1000000) (min 1000000 (x1 + z17))), vn, vl z17, vn] [] ((b0, b1, b2), μ18.2) Q))))))))))))))))))))))))
theorem r_sum5 {d : Nat} {a : Int} {lv : bV} {m : Nat → Int → Int} {Q : bPo} (hl : lv = vn ∨ ∃ y, lv = vl y) (hd : 9 ≤ d) (H : qS5 xs d b0 b1 b2 m a Q) : bGo xs d aM_X12_sum 5 [vr 120, vi a, vn, lv, vn] [] ((b0, b1, b2), m) Q := by
  rcases hl with rfl | ⟨y, rfl⟩
  · exact r_X12_sum_5 hd H
  · exact r_X12_sum_5L hd H
theorem d_termL (ht : qTp L B) (hE : ∀ i, qbn (E i)) (n : Nat) (ihA : qD1 b0 b1 b2 g L B E n 0 9 qbn (fun dJ μ Q => bGo xs dJ aM_X12_atom 0 [vr 120, vn, vn, vn] [] μ Q)) (ihL : qD2 b0 b1 b2 g L B E n 2 10 qbn qbn (fun dJ a μ Q => ∀ lv, (lv = vn ∨ ∃ y, lv = vl y) → bGo xs dJ aM_X12_term 5 [vr 120, vi a, vn, lv, vn] [] μ Q)) : qD2 b0 b1 b2 g L B E (n + 1) 2 10 qbn qbn (fun dJ a μ Q => ∀ lv, (lv = vn ∨ ∃ y, lv = vl y) → bGo xs dJ aM_X12_term 5 [vr 120, vi a, vn, lv, vn] [] μ Q) := by
  intro dJ dp p a M Q hJ d0 d6 ha hp hne hk lv hlv
  have hp0 := hp
  obtain ⟨hx, h11, h12, hl, p0, p1⟩ := hp
  have hb := ht.1
  have k1 := qsk_bd (B := B) p p1
  have kc := qpk_c ht p0 p1
  have hab := ha
  unfold qbn at hab
  change ¬ (if qpk B L p = 42 ∨ qpk B L p = 47 then qEo (qE B L n 0 dp (qsk B L p + 1)) (if qpk B L p = 42 then -12 else -13) (qE B L n 2 dp) else (-1, [], qsk B L p)).1 = -2 at hne
  change qKm b0 b1 b2 M (if qpk B L p = 42 ∨ qpk B L p = 47 then qEo (qE B L n 0 dp (qsk B L p + 1)) (if qpk B L p = 42 then -12 else -13) (qE B L n 2 dp) else (-1, [], qsk B L p)) (qva E (if qpk B L p = 42 ∨ qpk B L p = 47 then qEo (qE B L n 0 dp (qsk B L p + 1)) (if qpk B L p = 42 then -12 else -13) (qE B L n 2 dp) else (-1, [], qsk B L p)).2.1 [a]) qbn Q at hk
  -- behind the operand
  have nxt : ∀ op : Int, (-13 ≤ op ∧ op ≤ -10) → (qpk B L p = 42 ∨ qpk B L p = 47) → (if qpk B L p = 42 then (-12 : Int) else -13) = op → bGo xs (dJ - 1) aM_X12_atom 0 [vr 120, vn, vn, vn] [] ((b0, b1, b2), up M 120 10 (qsk B L p + 1)) (fun z μ => μ.1 = (b0, b1, b2) ∧ qbn z ∧ ∀ y, bGo xs dJ aM_X12_term 5 [vr 120, vi (qop op a z), vn, vl y, vn] [] ((b0, b1, b2), μ.2) Q) := by
    intro op hop hsg heo
    rw [if_pos hsg, heo] at hk hne
    have hne1 : ¬ (qE B L n 0 dp (qsk B L p + 1)).1 = -2 := by
      intro h
      unfold qEo at hne
      rw [if_neg (by omega)] at hne
      exact hne h
    have hrl := qr_L ht (by omega) (by omega) hne1
    refine ihA (dJ - 1) dp (qsk B L p + 1) M _ (by omega) d0 d6 ⟨hx, h11, h12, hl, by omega, by omega⟩ hne1 ⟨?_, ?_⟩
    · intro ok
      obtain ⟨b, hb1, sb⟩ : ∃ v, qbn v ∧ qSem E (qG 0 dp) (qE B L n 0 dp (qsk B L p + 1)).2.1 v := qE_sem ht hE n 0 dp _ d6 (by omega) (by omega) ok
      have hrp := qr_p ht (by omega) (by omega) ok
      have eb := qva_s sb (by have := qG_le (tag := 0) d0; omega)
      unfold qEo at hk hne
      rw [if_pos ok] at hk hne
      have hne2 : ¬ (qE B L n 2 dp (qE B L n 0 dp (qsk B L p + 1)).2.2).1 = -2 := by
        intro h
        rw [if_neg (by omega)] at hne
        exact hne h
      have hq := qop_b (a := a) (b := b) hop
      have hrl2 := qr_L ht (by omega) hrp.2 hne2
      rw [eb]
      refine ⟨rfl, hb1, fun y => ?_⟩
      refine ihL dJ dp _ (qop op a b) M Q hJ d0 d6 hq ⟨hx, h11, h12, hl, by omega, hrp.2⟩ hne2 ⟨fun ok2 => ?_, fun nok2 => ?_⟩ (vl y) (Or.inr ⟨y, rfl⟩)
      · rw [if_pos ok2] at hk
        obtain ⟨v, hv, sv⟩ : ∃ v, qbn v ∧ qSeL E (qG 2 dp) (qE B L n 2 dp (qE B L n 0 dp (qsk B L p + 1)).2.2).2.1 (qop op a b) v := qE_sem ht hE n 2 dp _ d6 (by omega) hrp.2 ok2 _ hq
        have := hk.1 rfl
        dsimp only at this
        rw [qva_so (by omega) (by unfold qokk; unfold qbn at hb1; omega) sb sv (qG_le d0) (by have := qG_le (tag := 2) d0; omega), eb] at this
        exact this
      · rw [if_neg nok2] at hk
        exact hk.2 nok2
    · intro nok w m' hw fm e11
      unfold qEo at hk
      rw [if_neg nok] at hk
      refine ⟨rfl, hw, fun y => r_term5 (Or.inr ⟨y, rfl⟩) (by omega) ?_⟩
      unfold qT5
      dsimp only
      rw [e11]
      exact ⟨by omega, fun _ => hk.2 nok _ m' (qop_b hop) fm e11, fun h => absurd h nok⟩
  refine r_term5 hlv (by omega) ?_
  unfold qT5
  have e11 : (up M 120 10 p) 120 11 = -1 := by rw [qup_o (by omega)]; exact h11
  rw [e11]
  refine ⟨by omega, fun h => absurd rfl h, fun _ => d_look ht hx p0 p1 ⟨rfl, by omega, fun h42 => d_look ht hx (by omega) (by omega) ?_, fun h42 => d_look ht hx (by omega) (by omega) ?_⟩⟩
  · rw [qpk_sk p1, qsk_sk p1]
    refine ⟨rfl, by omega, fun h => absurd h42 h, fun _ => ?_⟩
    dsimp only
    rw [qup_s, qup_up]
    refine bGo_imp (fun z μ h => ?_) (nxt (-12) (by omega) (Or.inl h42) (if_pos h42))
    · obtain ⟨h1, h2, h3⟩ := h
      have hm := qmul_b ha h2
      unfold qbn at h2
      refine ⟨h1, by omega, by omega, by omega, by omega, ?_⟩
      have := h3 z
      rw [show qop (-12) a z = max (-1000000) (min 1000000 (a * z)) from rfl] at this
      exact this
  · rw [qpk_sk p1, qsk_sk p1]
    refine ⟨rfl, by omega, fun h47 => ?_, fun h47 => d_look ht hx (by omega) (by omega) ?_⟩
    · rw [if_neg (by omega)] at hk
      exact hk.1 rfl
    · rw [qpk_sk p1, qsk_sk p1]
      refine ⟨rfl, by omega, fun _ => ?_, fun h => absurd h h42⟩
      dsimp only
      rw [qup_s, qup_up]
      refine bGo_imp (fun z μ h => ?_) (nxt (-13) (by omega) (Or.inr h47) (if_neg h42))
      obtain ⟨h1, h2, h3⟩ := h
      have hm := qdiv_b (y := z) ha
      unfold qbn at h2 hm
      refine ⟨h1, by omega, by omega, fun hz => ⟨by omega, by omega, ⟨by omega, hz⟩, by omega, by omega, ?_⟩, fun hz => ⟨by omega, ?_⟩⟩
      · have := h3 z
        rw [show qop (-13) a z = max (-1000000) (min 1000000 (if z = 0 then 0 else Int.tdiv a z)) from rfl, if_neg hz] at this
        exact this
      · have := h3 z
        rw [show qop (-13) a z = max (-1000000) (min 1000000 (if z = 0 then 0 else Int.tdiv a z)) from rfl, if_pos hz] at this
        exact this
theorem d_sumL (ht : qTp L B) (hE : ∀ i, qbn (E i)) (n : Nat) (ihA : qD1 b0 b1 b2 g L B E n 1 10 qbn (fun dJ μ Q => bGo xs dJ aM_X12_term 0 [vr 120, vn, vn, vn, vn] [] μ Q)) (ihL : qD2 b0 b1 b2 g L B E n 4 11 qbn qbn (fun dJ a μ Q => ∀ lv, (lv = vn ∨ ∃ y, lv = vl y) → bGo xs dJ aM_X12_sum 5 [vr 120, vi a, vn, lv, vn] [] μ Q)) : qD2 b0 b1 b2 g L B E (n + 1) 4 11 qbn qbn (fun dJ a μ Q => ∀ lv, (lv = vn ∨ ∃ y, lv = vl y) → bGo xs dJ aM_X12_sum 5 [vr 120, vi a, vn, lv, vn] [] μ Q) := by
  intro dJ dp p a M Q hJ d0 d6 ha hp hne hk lv hlv
  have hp0 := hp
  obtain ⟨hx, h11, h12, hl, p0, p1⟩ := hp
  have hb := ht.1
  have k1 := qsk_bd (B := B) p p1
  have kc := qpk_c ht p0 p1
  have hab := ha
  unfold qbn at hab
  change ¬ (if qpk B L p = 43 ∨ qpk B L p = 45 then qEo (qE B L n 1 dp (qsk B L p + 1)) (if qpk B L p = 43 then -10 else -11) (qE B L n 4 dp) else (-1, [], qsk B L p)).1 = -2 at hne
  change qKm b0 b1 b2 M (if qpk B L p = 43 ∨ qpk B L p = 45 then qEo (qE B L n 1 dp (qsk B L p + 1)) (if qpk B L p = 43 then -10 else -11) (qE B L n 4 dp) else (-1, [], qsk B L p)) (qva E (if qpk B L p = 43 ∨ qpk B L p = 45 then qEo (qE B L n 1 dp (qsk B L p + 1)) (if qpk B L p = 43 then -10 else -11) (qE B L n 4 dp) else (-1, [], qsk B L p)).2.1 [a]) qbn Q at hk
  -- behind the operand
  have nxt : ∀ op : Int, (-13 ≤ op ∧ op ≤ -10) → (qpk B L p = 43 ∨ qpk B L p = 45) → (if qpk B L p = 43 then (-10 : Int) else -11) = op → bGo xs (dJ - 1) aM_X12_term 0 [vr 120, vn, vn, vn, vn] [] ((b0, b1, b2), up M 120 10 (qsk B L p + 1)) (fun z μ => μ.1 = (b0, b1, b2) ∧ qbn z ∧ ∀ y, bGo xs dJ aM_X12_sum 5 [vr 120, vi (qop op a z), vn, vl y, vn] [] ((b0, b1, b2), μ.2) Q) := by
    intro op hop hsg heo
    rw [if_pos hsg, heo] at hk hne
    have hne1 : ¬ (qE B L n 1 dp (qsk B L p + 1)).1 = -2 := by
      intro h
      unfold qEo at hne
      rw [if_neg (by omega)] at hne
      exact hne h
    have hrl := qr_L ht (by omega) (by omega) hne1
    refine ihA (dJ - 1) dp (qsk B L p + 1) M _ (by omega) d0 d6 ⟨hx, h11, h12, hl, by omega, by omega⟩ hne1 ⟨?_, ?_⟩
    · intro ok
      obtain ⟨b, hb1, sb⟩ : ∃ v, qbn v ∧ qSem E (qG 1 dp) (qE B L n 1 dp (qsk B L p + 1)).2.1 v := qE_sem ht hE n 1 dp _ d6 (by omega) (by omega) ok
      have hrp := qr_p ht (by omega) (by omega) ok
      have eb := qva_s sb (by have := qG_le (tag := 1) d0; omega)
      unfold qEo at hk hne
      rw [if_pos ok] at hk hne
      have hne2 : ¬ (qE B L n 4 dp (qE B L n 1 dp (qsk B L p + 1)).2.2).1 = -2 := by
        intro h
        rw [if_neg (by omega)] at hne
        exact hne h
      have hq := qop_b (a := a) (b := b) hop
      have hrl2 := qr_L ht (by omega) hrp.2 hne2
      rw [eb]
      refine ⟨rfl, hb1, fun y => ?_⟩
      refine ihL dJ dp _ (qop op a b) M Q hJ d0 d6 hq ⟨hx, h11, h12, hl, by omega, hrp.2⟩ hne2 ⟨fun ok2 => ?_, fun nok2 => ?_⟩ (vl y) (Or.inr ⟨y, rfl⟩)
      · rw [if_pos ok2] at hk
        obtain ⟨v, hv, sv⟩ : ∃ v, qbn v ∧ qSeL E (qG 4 dp) (qE B L n 4 dp (qE B L n 1 dp (qsk B L p + 1)).2.2).2.1 (qop op a b) v := qE_sem ht hE n 4 dp _ d6 (by omega) hrp.2 ok2 _ hq
        have := hk.1 rfl
        dsimp only at this
        rw [qva_so (by omega) (by unfold qokk; unfold qbn at hb1; omega) sb sv (qG_le d0) (by have := qG_le (tag := 4) d0; omega), eb] at this
        exact this
      · rw [if_neg nok2] at hk
        exact hk.2 nok2
    · intro nok w m' hw fm e11
      unfold qEo at hk
      rw [if_neg nok] at hk
      refine ⟨rfl, hw, fun y => r_sum5 (Or.inr ⟨y, rfl⟩) (by omega) ?_⟩
      unfold qS5
      dsimp only
      rw [e11]
      exact ⟨by omega, fun _ => hk.2 nok _ m' (qop_b hop) fm e11, fun h => absurd h nok⟩
  refine r_sum5 hlv (by omega) ?_
  unfold qS5
  have e11 : (up M 120 10 p) 120 11 = -1 := by rw [qup_o (by omega)]; exact h11
  rw [e11]
  refine ⟨by omega, fun h => absurd rfl h, fun _ => d_look ht hx p0 p1 ⟨rfl, by omega, fun h42 => d_look ht hx (by omega) (by omega) ?_, fun h42 => d_look ht hx (by omega) (by omega) ?_⟩⟩
  · rw [qpk_sk p1, qsk_sk p1]
    refine ⟨rfl, by omega, fun h => absurd h42 h, fun _ => ?_⟩
    dsimp only
    rw [qup_s, qup_up]
    refine bGo_imp (fun z μ h => ?_) (nxt (-10) (by omega) (Or.inl h42) (if_pos h42))
    · obtain ⟨h1, h2, h3⟩ := h
      have hm := qmul_b ha h2
      unfold qbn at h2
      refine ⟨h1, by omega, by omega, by omega, by omega, ?_⟩
      have := h3 z
      rw [show qop (-10) a z = max (-1000000) (min 1000000 (a + z)) from rfl] at this
      exact this
  · rw [qpk_sk p1, qsk_sk p1]
    refine ⟨rfl, by omega, fun h47 => ?_, fun h47 => d_look ht hx (by omega) (by omega) ?_⟩
    · rw [if_neg (by omega)] at hk
      exact hk.1 rfl
    · rw [qpk_sk p1, qsk_sk p1]
      refine ⟨rfl, by omega, fun _ => ?_, fun h => absurd h h42⟩
      dsimp only
      rw [qup_s, qup_up]
      refine bGo_imp (fun z μ h => ?_) (nxt (-11) (by omega) (Or.inr h47) (if_neg h42))
      obtain ⟨h1, h2, h3⟩ := h
      have hm := qdiv_b (y := z) ha
      unfold qbn at h2 hm
      refine ⟨h1, by omega, by omega, by omega, by omega, ?_⟩
      have := h3 z
      rw [show qop (-11) a z = max (-1000000) (min 1000000 (a - z)) from rfl] at this
      exact this
theorem d_sums (ht : qTp L B) (hE : ∀ i, qbn (E i)) : ∀ n : Nat, qD1 b0 b1 b2 g L B E n 0 9 qbn (fun dJ μ Q => bGo xs dJ aM_X12_atom 0 [vr 120, vn, vn, vn] [] μ Q) ∧ qD1 b0 b1 b2 g L B E n 1 10 qbn (fun dJ μ Q => bGo xs dJ aM_X12_term 0 [vr 120, vn, vn, vn, vn] [] μ Q) ∧ qD2 b0 b1 b2 g L B E n 2 10 qbn qbn (fun dJ a μ Q => ∀ lv, (lv = vn ∨ ∃ y, lv = vl y) → bGo xs dJ aM_X12_term 5 [vr 120, vi a, vn, lv, vn] [] μ Q) ∧ qD1 b0 b1 b2 g L B E n 3 11 qbn (fun dJ μ Q => bGo xs dJ aM_X12_sum 0 [vr 120, vn, vn, vn, vn] [] μ Q) ∧ qD2 b0 b1 b2 g L B E n 4 11 qbn qbn (fun dJ a μ Q => ∀ lv, (lv = vn ∨ ∃ y, lv = vl y) → bGo xs dJ aM_X12_sum 5 [vr 120, vi a, vn, lv, vn] [] μ Q) := by
  intro n
  induction n with
  | zero => exact ⟨fun _ _ _ _ _ _ _ _ _ h => absurd rfl h, fun _ _ _ _ _ _ _ _ _ h => absurd rfl h, fun _ _ _ _ _ _ _ _ _ _ _ h => absurd rfl h, fun _ _ _ _ _ _ _ _ _ h => absurd rfl h, fun _ _ _ _ _ _ _ _ _ _ _ h => absurd rfl h⟩
  | succ n ih =>
    obtain ⟨i0, i1, i2, i3, i4⟩ := ih
    refine ⟨d_atomS ht hE n i3, ?_, d_termL ht hE n i0 i2, ?_, d_sumL ht hE n i1 i4⟩
    · intro dJ dp p M Q hJ d0 d6 hp hne hk
      have hp0 := hp
      obtain ⟨hx, h11, h12, hl, p0, p1⟩ := hp
      change ¬ (qEs (qE B L n 0 dp p) (qE B L n 2 dp)).1 = -2 at hne
      change qKm b0 b1 b2 M (qEs (qE B L n 0 dp p) (qE B L n 2 dp)) (qva E (qEs (qE B L n 0 dp p) (qE B L n 2 dp)).2.1 []) qbn Q at hk
      unfold qEs at hk hne
      have hne1 : ¬ (qE B L n 0 dp p).1 = -2 := by
        intro h
        rw [if_neg (by omega)] at hne
        exact hne h
      have hrl := qr_L ht p0 p1 hne1
      refine r_X12_term_0 (by omega) (i0 (dJ - 1) dp p M _ (by omega) d0 d6 hp0 hne1 ⟨fun ok => ?_, fun nok w m' hw fm e11 => ?_⟩)
      · obtain ⟨a, ha, sa⟩ : ∃ v, qbn v ∧ qSem E (qG 0 dp) (qE B L n 0 dp p).2.1 v := qE_sem ht hE n 0 dp p d6 p0 p1 ok
        have ea := qva_s sa (by have := qG_le (tag := 0) d0; omega)
        have hrp := qr_p ht p0 p1 ok
        rw [if_pos ok] at hk hne
        have hne2 : ¬ (qE B L n 2 dp (qE B L n 0 dp p).2.2).1 = -2 := by
          intro h
          rw [if_neg (by omega)] at hne
          exact hne h
        rw [ea]
        refine ⟨rfl, i2 dJ dp _ a M Q hJ d0 d6 ha ⟨hx, h11, h12, hl, by omega, hrp.2⟩ hne2 ⟨fun ok2 => ?_, fun nok2 => ?_⟩ vn (Or.inl rfl)⟩
        · rw [if_pos ok2] at hk
          obtain ⟨v, hv, sv⟩ : ∃ v, qbn v ∧ qSeL E (qG 2 dp) (qE B L n 2 dp (qE B L n 0 dp p).2.2).2.1 a v := qE_sem ht hE n 2 dp _ d6 (by omega) hrp.2 ok2 _ ha
          have := hk.1 rfl
          dsimp only at this
          rw [qva_sq sa sv (by have := qG_le (tag := 0) d0; omega) (by have := qG_le (tag := 2) d0; omega), ea] at this
          exact this
        · rw [if_neg nok2] at hk
          exact hk.2 nok2
      · rw [if_neg nok] at hk
        refine ⟨rfl, r_X12_term_5 (by omega) ?_⟩
        dsimp only
        rw [e11]
        exact ⟨by omega, fun _ => hk.2 nok w m' hw fm e11, fun h => absurd h nok⟩
    · intro dJ dp p M Q hJ d0 d6 hp hne hk
      have hp0 := hp
      obtain ⟨hx, h11, h12, hl, p0, p1⟩ := hp
      change ¬ (qEs (qE B L n 1 dp p) (qE B L n 4 dp)).1 = -2 at hne
      change qKm b0 b1 b2 M (qEs (qE B L n 1 dp p) (qE B L n 4 dp)) (qva E (qEs (qE B L n 1 dp p) (qE B L n 4 dp)).2.1 []) qbn Q at hk
      unfold qEs at hk hne
      have hne1 : ¬ (qE B L n 1 dp p).1 = -2 := by
        intro h
        rw [if_neg (by omega)] at hne
        exact hne h
      have hrl := qr_L ht p0 p1 hne1
      refine r_X12_sum_0 (by omega) (i1 (dJ - 1) dp p M _ (by omega) d0 d6 hp0 hne1 ⟨fun ok => ?_, fun nok w m' hw fm e11 => ?_⟩)
      · obtain ⟨a, ha, sa⟩ : ∃ v, qbn v ∧ qSem E (qG 1 dp) (qE B L n 1 dp p).2.1 v := qE_sem ht hE n 1 dp p d6 p0 p1 ok
        have ea := qva_s sa (by have := qG_le (tag := 1) d0; omega)
        have hrp := qr_p ht p0 p1 ok
        rw [if_pos ok] at hk hne
        have hne2 : ¬ (qE B L n 4 dp (qE B L n 1 dp p).2.2).1 = -2 := by
          intro h
          rw [if_neg (by omega)] at hne
          exact hne h
        rw [ea]
        refine ⟨rfl, i4 dJ dp _ a M Q hJ d0 d6 ha ⟨hx, h11, h12, hl, by omega, hrp.2⟩ hne2 ⟨fun ok2 => ?_, fun nok2 => ?_⟩ vn (Or.inl rfl)⟩
        · rw [if_pos ok2] at hk
          obtain ⟨v, hv, sv⟩ : ∃ v, qbn v ∧ qSeL E (qG 4 dp) (qE B L n 4 dp (qE B L n 1 dp p).2.2).2.1 a v := qE_sem ht hE n 4 dp _ d6 (by omega) hrp.2 ok2 _ ha
          have := hk.1 rfl
          dsimp only at this
          rw [qva_sq sa sv (by have := qG_le (tag := 1) d0; omega) (by have := qG_le (tag := 4) d0; omega), ea] at this
          exact this
        · rw [if_neg nok2] at hk
          exact hk.2 nok2
      · rw [if_neg nok] at hk
        refine ⟨rfl, r_X12_sum_5 (by omega) ?_⟩
        dsimp only
        rw [e11]
        exact ⟨by omega, fun _ => hk.2 nok w m' hw fm e11, fun h => absurd h nok⟩
theorem d_sum {n : Nat} {p dp : Int} {M : Nat → Int → Int} {Q : bPo} (ht : qTp L B) (hE : ∀ i, qbn (E i)) (d0 : 0 ≤ dp) (d6 : dp ≤ 6) (hp : qMp M b2 g L B E dp p) (hne : ¬ (qE B L n 3 dp p).1 = -2) (hk : qKm b0 b1 b2 M (qE B L n 3 dp p) (qva E (qE B L n 3 dp p).2.1 []) qbn Q) : bC xs 126 188 [vr 120] ((b0, b1, b2), up M 120 10 p) Q :=
  qC rfl fun d hd => (d_sums ht hE n).2.2.2.1 d dp p M Q (by omega) d0 d6 hp hne hk
end MS2
