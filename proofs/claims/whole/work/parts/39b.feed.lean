/-! B: feed, end -/
def qTp (L : Int) (B : Int → Int) : Prop := (0 ≤ L ∧ L ≤ 240) ∧ ∀ k, 0 ≤ k → k < L → 1 ≤ B k ∧ B k ≤ 255
def qTc (m : Nat → Int → Int) (L : Int) (B : Int → Int) : Prop := m 1 1 = L ∧ ∀ k, 0 ≤ k → k < L → m 2 k = B k
def qTm (m : Nat → Int → Int) (L : Int) (B : Int → Int) : Prop := m 120 6 = L ∧ ∀ k, 0 ≤ k → k < L → m 121 k = qsb (B k)
def qby (x s : Int) : Int := bAnd (bUsh x s) 255
def qn1 (x s : Int) : Int := if qby x s = 0 then 0 else 1
def qnb (x : Int) : Int := qn1 x 24 + qn1 x 16 + qn1 x 8 + qn1 x 0
abbrev qTs : Type := Int × (Int → Int)
def qpt1 (x s : Int) (st : qTs) : qTs := if qby x s = 0 then st else (st.1 + 1, qset st.2 st.1 (qby x s))
def qpt (x : Int) (st : qTs) : qTs := qpt1 x 0 (qpt1 x 8 (qpt1 x 16 (qpt1 x 24 st)))
theorem qby_e {x s : Int} (h : inR x) (hs : s = 24 ∨ s = 16 ∨ s = 8 ∨ s = 0) : (0 ≤ qby x s ∧ qby x s ≤ 255) ∧ bAnd (bShr x s) 255 = qby x s ∧ bNar 1 (bByt (bShr x s)) = qsb (qby x s) := by
  obtain ⟨u1, u2, u3, u4⟩ := qUshL h
  obtain ⟨v1, v2, v3, v4⟩ := qShrL h
  have a := qUsh_inR x s
  have b := qShr_inR x s
  have e1 : qby x s = bUsh x s % 256 := qAnd255 a
  have e2 : bAnd (bShr x s) 255 = bShr x s % 256 := qAnd255 b
  have e3 : bNar 1 (bByt (bShr x s)) = qsb (bShr x s % 256) := qByt b
  have e4 : bShr x s % 256 = bUsh x s % 256 := by
    rcases hs with rfl | rfl | rfl | rfl
    · rw [u1, v1]; omega
    · rw [u2, v2]; omega
    · rw [u3, v3]; omega
    · rw [u4, v4]
  rw [e2, e3, e4, ← e1]
  exact ⟨by omega, rfl, rfl⟩
theorem qpt1_n {x s : Int} {st : qTs} : (qpt1 x s st).1 = st.1 + qn1 x s := by
  unfold qpt1 qn1
  split
  · omega
  · rfl
theorem qn1_bd (x s : Int) : 0 ≤ qn1 x s ∧ qn1 x s ≤ 1 := by
  unfold qn1
  split <;> omega
theorem qpt_n {x : Int} {st : qTs} : (qpt x st).1 = st.1 + qnb x := by
  unfold qpt qnb
  rw [qpt1_n, qpt1_n, qpt1_n, qpt1_n]
  omega
theorem qnb_bd (x : Int) : 0 ≤ qnb x ∧ qnb x ≤ 4 := by
  unfold qnb
  have a := qn1_bd x 24
  have b := qn1_bd x 16
  have c := qn1_bd x 8
  have d := qn1_bd x 0
  omega
theorem qpt1_tp {x s : Int} {st : qTs} (h : inR x) (hs : s = 24 ∨ s = 16 ∨ s = 8 ∨ s = 0) (ht : qTp st.1 st.2) (hl : st.1 + qn1 x s ≤ 240) : qTp (qpt1 x s st).1 (qpt1 x s st).2 := by
  have e := qby_e h hs
  have hb := ht.1
  refine ⟨by rw [qpt1_n]; have := qn1_bd x s; omega, ?_⟩
  unfold qpt1
  split
  · exact ht.2
  · intro k k0 k1
    dsimp only at k1 ⊢
    simp only [qset]
    split
    · omega
    · exact ht.2 k k0 (by omega)
theorem qpt_tp {x : Int} {st : qTs} (h : inR x) (ht : qTp st.1 st.2) (hl : st.1 + qnb x ≤ 240) : qTp (qpt x st).1 (qpt x st).2 := by
  have a := qn1_bd x 24
  have b := qn1_bd x 16
  have c := qn1_bd x 8
  have d := qn1_bd x 0
  unfold qnb at hl
  unfold qpt
  refine qpt1_tp h (by omega) (qpt1_tp h (by omega) (qpt1_tp h (by omega) (qpt1_tp h (by omega) ht (by omega)) ?_) ?_) ?_
  · rw [qpt1_n]; omega
  · rw [qpt1_n, qpt1_n]; omega
  · rw [qpt1_n, qpt1_n, qpt1_n]; omega
section FEED
variable {xs : List Int32} {d : Nat} {Q : bPo} {b b0 b1 b2 : Bool} {m : Nat → Int → Int} {nT nH : Int} {T P E U N : Int → Int} {t s h k : Int}
variable {x L : Int} {B : Int → Int}
theorem c_bytesOf (hx : inR x) (hQ : Q (qnb x) ((b0, b1, b2), m)) : bC xs 1 109 [vi x] ((b0, b1, b2), m) Q := by
  refine qC rfl fun d hd => r_X9_bytesOf_0 hd ?_
  have step : ∀ s acc, 0 ≤ s → s ≤ 24 → bGo xs d aM_X9_bytesOf 5 [vi x, vi (acc + qn1 x s), vi (s + (-8))] [] ((b0, b1, b2), m) Q → bGo xs d aM_X9_bytesOf 5 [vi x, vi acc, vi s] [] ((b0, b1, b2), m) Q := by
    intro s acc s0 s1 hn
    refine r_X9_bytesOf_5 hd ?_
    have wa := qAnd_inR (bUsh x s) 255
    unfold qn1 qby at hn
    refine ⟨by omega, fun h => by omega, fun _ => ⟨wa, fun h => ?_, fun h => ?_⟩⟩
    · rw [if_pos h, Int.add_zero] at hn
      exact hn
    · rw [if_neg h] at hn
      exact hn
  refine step 24 0 (by omega) (by omega) (step 16 _ (by omega) (by omega) (step 8 _ (by omega) (by omega) (step 0 _ (by omega) (by omega) ?_)))
  refine r_X9_bytesOf_5 hd ⟨by omega, fun _ => qQ hQ ?_, fun h => by omega⟩
  unfold qnb
  omega
theorem d_bytesIn (hx : inR x) (hQ : Q (qnb x) ((b0, b1, b2), m)) : bC xs 1 176 [vi x] ((b0, b1, b2), m) Q := by
  refine qC rfl fun d hd => r_X12_bytesIn_0 hd ?_
  have step : ∀ s acc, (s = 24 ∨ s = 16 ∨ s = 8 ∨ s = 0) → bGo xs d aM_X12_bytesIn 5 [vi x, vi (acc + qn1 x s), vi (s + (-8))] [] ((b0, b1, b2), m) Q → bGo xs d aM_X12_bytesIn 5 [vi x, vi acc, vi s] [] ((b0, b1, b2), m) Q := by
    intro s acc s0 hn
    refine r_X12_bytesIn_5 hd ?_
    have e := qby_e hx s0
    rw [e.2.1]
    unfold qn1 at hn
    refine ⟨by omega, fun h => by omega, fun _ => ⟨by omega, fun h => ?_, fun h => ?_⟩⟩
    · rw [if_pos h] at hn
      exact hn
    · rw [if_neg h] at hn
      exact hn
  refine step 24 0 (by omega) (step 16 _ (by omega) (step 8 _ (by omega) (step 0 _ (by omega) ?_)))
  refine r_X12_bytesIn_5 hd ⟨by omega, fun _ => qQ hQ ?_, fun h => by omega⟩
  unfold qnb
  omega
def qFtc (a : Nat) (k : Int) : Prop := a = 2 ∨ (a = 1 ∧ k = 1)
def qFtm (a : Nat) (k : Int) : Prop := a = 121 ∨ (a = 120 ∧ (k = 6 ∨ k = 0))
theorem c_add {st : qTs} (hx : inR x) (hc : qTc m st.1 st.2) (hl : 0 ≤ st.1) (hl2 : st.1 + qnb x ≤ 240) (hQ : ∀ m', qFr qFtc m m' → qTc m' (qpt x st).1 (qpt x st).2 → Q 0 ((b0, b1, b2), m')) : bC xs 1 110 [vr 1, vi x] ((b0, b1, b2), m) Q := by
  refine qC rfl fun d hd => r_X9_add_0 hd ?_
  have step : ∀ s m' (st : qTs), (s = 24 ∨ s = 16 ∨ s = 8 ∨ s = 0) → 0 ≤ st.1 → st.1 + qn1 x s ≤ 240 → qTc m' st.1 st.2 → (∀ m2, qFr qFtc m' m2 → qTc m2 (qpt1 x s st).1 (qpt1 x s st).2 → bGo xs d aM_X9_add 3 [vr 1, vi x, vi (s + (-8)), vn] [] ((b0, b1, b2), m2) Q) → bGo xs d aM_X9_add 3 [vr 1, vi x, vi s, vn] [] ((b0, b1, b2), m') Q := by
    intro s m' st s0 l0 l1 ht hn
    refine r_X9_add_3 hd ?_
    have e := qby_e hx s0
    have er : bAnd (bUsh x s) 255 = qby x s := rfl
    rw [er, ht.1]
    unfold qpt1 at hn
    unfold qn1 at l1
    refine ⟨by omega, fun h => by omega, fun _ => ⟨by omega, fun h => ?_, fun h => ?_⟩⟩
    · rw [if_pos h] at hn
      exact hn m' qFr.refl ht
    · rw [if_neg h] at hn l1
      refine ⟨by omega, fun h2 => by omega, fun _ => ⟨by omega, ?_⟩⟩
      refine hn _ (qFr_up (qFr_up qFr.refl (Or.inl rfl)) (Or.inr ⟨rfl, rfl⟩)) ⟨qup_s, ?_⟩
      intro k k0 k1
      dsimp only at k1 ⊢
      rw [qup_n (by omega), qup_if]
      simp only [qset]
      split
      · rfl
      · exact ht.2 k k0 (by omega)
  have a := qn1_bd x 24
  have b := qn1_bd x 16
  have c := qn1_bd x 8
  have d' := qn1_bd x 0
  unfold qnb at hl2
  refine step 24 m st (by omega) hl (by omega) hc ?_
  intro m1 f1 t1
  refine step 16 m1 _ (by omega) (by rw [qpt1_n]; omega) (by rw [qpt1_n]; omega) t1 ?_
  intro m2 f2 t2
  refine step 8 m2 _ (by omega) (by rw [qpt1_n, qpt1_n]; omega) (by rw [qpt1_n, qpt1_n]; omega) t2 ?_
  intro m3 f3 t3
  refine step 0 m3 _ (by omega) (by rw [qpt1_n, qpt1_n, qpt1_n]; omega) (by rw [qpt1_n, qpt1_n, qpt1_n]; omega) t3 ?_
  intro m4 f4 t4
  refine r_X9_add_3 hd ⟨by omega, fun _ => ?_, fun h => by omega⟩
  exact hQ m4 (((f1.trans f2).trans f3).trans f4) t4
theorem d_put {st : qTs} (hx : inR x) (hc : qTm m st.1 st.2) (hl : 0 ≤ st.1) (hl2 : st.1 + qnb x ≤ 240) (hQ : ∀ m', qFr qFtm m m' → qTm m' (qpt x st).1 (qpt x st).2 → Q 0 ((b0, b1, b2), m')) : bC xs 1 177 [vr 120, vi x] ((b0, b1, b2), m) Q := by
  refine qC rfl fun d hd => r_X12_put_0 hd ?_
  have step : ∀ s m' (st : qTs), (s = 24 ∨ s = 16 ∨ s = 8 ∨ s = 0) → 0 ≤ st.1 → st.1 + qn1 x s ≤ 240 → qTm m' st.1 st.2 → (∀ m2, qFr qFtm m' m2 → qTm m2 (qpt1 x s st).1 (qpt1 x s st).2 → bGo xs d aM_X12_put 3 [vr 120, vi x, vi (s + (-8))] [] ((b0, b1, b2), m2) Q) → bGo xs d aM_X12_put 3 [vr 120, vi x, vi s] [] ((b0, b1, b2), m') Q := by
    intro s m' st s0 l0 l1 ht hn
    refine r_X12_put_3 hd ?_
    have e := qby_e hx s0
    rw [e.2.1, e.2.2, ht.1]
    unfold qpt1 at hn
    unfold qn1 at l1
    refine ⟨by omega, fun h => by omega, fun _ => ⟨by omega, fun h => ?_, fun h => ?_⟩⟩
    · rw [if_neg h] at hn l1
      refine ⟨by omega, ?_⟩
      refine hn _ (qFr_up (qFr_up qFr.refl (Or.inl rfl)) (by unfold qFtm; omega)) ⟨qup_s, ?_⟩
      intro k k0 k1
      dsimp only at k1 ⊢
      rw [qup_n (by omega), qup_if]
      simp only [qset]
      split
      · rfl
      · exact ht.2 k k0 (by omega)
    · rw [if_pos h] at hn
      exact hn m' qFr.refl ht
  have a := qn1_bd x 24
  have b := qn1_bd x 16
  have c := qn1_bd x 8
  have d' := qn1_bd x 0
  unfold qnb at hl2
  refine step 24 m st (by omega) hl (by omega) hc ?_
  intro m1 f1 t1
  refine step 16 m1 _ (by omega) (by rw [qpt1_n]; omega) (by rw [qpt1_n]; omega) t1 ?_
  intro m2 f2 t2
  refine step 8 m2 _ (by omega) (by rw [qpt1_n, qpt1_n]; omega) (by rw [qpt1_n, qpt1_n]; omega) t2 ?_
  intro m3 f3 t3
  refine step 0 m3 _ (by omega) (by rw [qpt1_n, qpt1_n, qpt1_n]; omega) (by rw [qpt1_n, qpt1_n, qpt1_n]; omega) t3 ?_
  intro m4 f4 t4
  refine r_X12_put_3 hd ⟨by omega, fun _ => ?_, fun h => by omega⟩
  exact hQ m4 (((f1.trans f2).trans f3).trans f4) t4
variable {a1 a2 a3 a4 a5 : Int}
def qfeed (a1 a2 a3 a4 a5 : Int) (st : qTs) : qTs := qpt a5 (qpt a4 (qpt a3 (qpt a2 (qpt a1 st))))
theorem c_feed (ht : qTp L B) (hc : qTc m L B) (x1 : inR a1) (x2 : inR a2) (x3 : inR a3) (x4 : inR a4) (x5 : inR a5) (hn : 240 < L + (qnb a1 + qnb a2 + qnb a3 + qnb a4 + qnb a5) → Q (-1) ((b0, b1, b2), m)) (hy : L + (qnb a1 + qnb a2 + qnb a3 + qnb a4 + qnb a5) ≤ 240 → ∀ m', qFr qFtc m m' → qTc m' (qfeed a1 a2 a3 a4 a5 (L, B)).1 (qfeed a1 a2 a3 a4 a5 (L, B)).2 → Q (qfeed a1 a2 a3 a4 a5 (L, B)).1 ((b0, b1, b2), m')) : bC xs 2 127 [vr 0, vi a1, vi a2, vi a3, vi a4, vi a5] ((b0, b1, b2), m) Q := by
  refine qC rfl fun d hd => r_X11_feed_0 hd ?_
  have hb := ht.1
  have n1 := qnb_bd a1
  have n2 := qnb_bd a2
  have n3 := qnb_bd a3
  have n4 := qnb_bd a4
  have n5 := qnb_bd a5
  refine c_bytesOf x1 ⟨rfl, c_bytesOf x2 ⟨rfl, c_bytesOf x3 ⟨rfl, c_bytesOf x4 ⟨rfl, c_bytesOf x5 ⟨rfl, ?_⟩⟩⟩⟩⟩
  try dsimp only
  rw [hc.1]
  refine ⟨by omega, fun h => ?_, fun h => hn h⟩
  refine c_add (st := (L, B)) x1 hc (by dsimp only; omega) (by dsimp only; omega) ?_
  intro m1 f1 t1
  refine ⟨rfl, c_add x2 t1 (by rw [qpt_n]; omega) (by rw [qpt_n]; omega) ?_⟩
  intro m2 f2 t2
  refine ⟨rfl, c_add x3 t2 (by rw [qpt_n, qpt_n]; omega) (by rw [qpt_n, qpt_n]; omega) ?_⟩
  intro m3 f3 t3
  refine ⟨rfl, c_add x4 t3 (by rw [qpt_n, qpt_n, qpt_n]; omega) (by rw [qpt_n, qpt_n, qpt_n]; omega) ?_⟩
  intro m4 f4 t4
  refine ⟨rfl, c_add x5 t4 (by rw [qpt_n, qpt_n, qpt_n, qpt_n]; omega) (by rw [qpt_n, qpt_n, qpt_n, qpt_n]; omega) ?_⟩
  intro m5 f5 t5
  refine ⟨rfl, ?_⟩
  try dsimp only
  rw [t5.1]
  exact hy h m5 ((((f1.trans f2).trans f3).trans f4).trans f5) t5
theorem d_feed (ht : qTp L B) (hc : qTm m L B) (x1 : inR a1) (x2 : inR a2) (x3 : inR a3) (x4 : inR a4) (x5 : inR a5) (hn : 240 < L + (qnb a1 + qnb a2 + qnb a3 + qnb a4 + qnb a5) → Q (-1) ((b0, b1, b2), up m 120 0 0)) (hy : L + (qnb a1 + qnb a2 + qnb a3 + qnb a4 + qnb a5) ≤ 240 → ∀ m', qFr qFtm m m' → qTm m' (qfeed a1 a2 a3 a4 a5 (L, B)).1 (qfeed a1 a2 a3 a4 a5 (L, B)).2 → Q (qfeed a1 a2 a3 a4 a5 (L, B)).1 ((b0, b1, b2), m')) : bC xs 2 178 [vr 120, vi a1, vi a2, vi a3, vi a4, vi a5] ((b0, b1, b2), m) Q := by
  refine qC rfl fun d hd => r_X12_feed_0 hd ?_
  have hb := ht.1
  have n1 := qnb_bd a1
  have n2 := qnb_bd a2
  have n3 := qnb_bd a3
  have n4 := qnb_bd a4
  have n5 := qnb_bd a5
  have f0 : qFr qFtm m (up m 120 0 0) := qFr_up qFr.refl (by unfold qFtm; omega)
  have hc0 : qTm (up m 120 0 0) L B := ⟨by rw [qup_o (by omega)]; exact hc.1, by rw [qup_n (by omega)]; exact hc.2⟩
  refine d_bytesIn x1 ⟨rfl, d_bytesIn x2 ⟨rfl, d_bytesIn x3 ⟨rfl, d_bytesIn x4 ⟨rfl, d_bytesIn x5 ⟨rfl, ?_⟩⟩⟩⟩⟩
  try dsimp only
  rw [hc.1]
  refine ⟨by omega, fun h => ?_, fun h => hn (by omega)⟩
  refine d_put (st := (L, B)) x1 hc0 (by dsimp only; omega) (by dsimp only; omega) ?_
  intro m1 f1 t1
  refine ⟨rfl, d_put x2 t1 (by rw [qpt_n]; omega) (by rw [qpt_n]; omega) ?_⟩
  intro m2 f2 t2
  refine ⟨rfl, d_put x3 t2 (by rw [qpt_n, qpt_n]; omega) (by rw [qpt_n, qpt_n]; omega) ?_⟩
  intro m3 f3 t3
  refine ⟨rfl, d_put x4 t3 (by rw [qpt_n, qpt_n, qpt_n]; omega) (by rw [qpt_n, qpt_n, qpt_n]; omega) ?_⟩
  intro m4 f4 t4
  refine ⟨rfl, d_put x5 t4 (by rw [qpt_n, qpt_n, qpt_n, qpt_n]; omega) (by rw [qpt_n, qpt_n, qpt_n, qpt_n]; omega) ?_⟩
  intro m5 f5 t5
  refine ⟨rfl, ?_⟩
  try dsimp only
  rw [t5.1]
  exact hy (by omega) m5 (((((f0.trans f1).trans f2).trans f3).trans f4).trans f5) t5
theorem qfeed_tp (ht : qTp L B) (x1 : inR a1) (x2 : inR a2) (x3 : inR a3) (x4 : inR a4) (x5 : inR a5) (h : L + (qnb a1 + qnb a2 + qnb a3 + qnb a4 + qnb a5) ≤ 240) : qTp (qfeed a1 a2 a3 a4 a5 (L, B)).1 (qfeed a1 a2 a3 a4 a5 (L, B)).2 := by
  have n1 := qnb_bd a1
  have n2 := qnb_bd a2
  have n3 := qnb_bd a3
  have n4 := qnb_bd a4
  have n5 := qnb_bd a5
  unfold qfeed
  refine qpt_tp x5 (qpt_tp x4 (qpt_tp x3 (qpt_tp x2 (qpt_tp x1 (st := (L, B)) ht (by dsimp only; omega)) ?_) ?_) ?_) ?_
  · rw [qpt_n]; dsimp only; omega
  · rw [qpt_n, qpt_n]; dsimp only; omega
  · rw [qpt_n, qpt_n, qpt_n]; dsimp only; omega
  · rw [qpt_n, qpt_n, qpt_n, qpt_n]; dsimp only; omega
theorem c_end {n : Int} (ht : qTp L B) (hc : qTc m L B) (x1 : inR n) (hn : ¬ (0 ≤ n ∧ n ≤ L) → Q 0 ((b0, b1, b2), m)) (hy : 0 ≤ n ∧ n ≤ L → Q 1 ((b0, b1, b2), up m 1 1 n)) : bC xs 1 128 [vr 0, vi n] ((b0, b1, b2), m) Q := by
  refine qC rfl fun d hd => r_X11_end_0 hd ?_
  have hb := ht.1
  rw [hc.1]
  (with_reducible repeat' (first | exact True.intro | apply And.intro | intro _))
  all_goals first | omega | exact hn (by omega) | exact hy (by omega)
theorem d_end {n : Int} (ht : qTp L B) (hc : qTm m L B) (x1 : inR n) (hn : ¬ (0 ≤ n ∧ n ≤ L) → Q 0 ((b0, b1, b2), up m 120 0 0)) (hy : 0 ≤ n ∧ n ≤ L → Q 1 ((b0, b1, b2), up (up m 120 0 0) 120 6 n)) : bC xs 1 179 [vr 120, vi n] ((b0, b1, b2), m) Q := by
  refine qC rfl fun d hd => r_X12_end_0 hd ?_
  have hb := ht.1
  rw [hc.1]
  (with_reducible repeat' (first | exact True.intro | apply And.intro | intro _))
  all_goals first | omega | exact hn (by omega) | exact hy (by omega)
end FEED
