/-! B: a beginning, read -/
def qBR (B : Int → Int) (L : Int) : Nat → Int → (Int → Int) → Int → Int × Int × (Int → Int)
  | 0, n, S, _ => (-2, n, S)
  | f + 1, n, S, p => if qpk B L p = -1 then ((if n = 0 then L else -1), n, S)
    else if ¬ (48 ≤ qpk B L p ∧ qpk B L p ≤ 57) ∨ 12 ≤ n then (qsk B L p, n, S)
    else qBR B L f (n + 1) (qset S n (qpk B L p - 48)) (qsk B L p + 1)
def qBrd (B : Int → Int) (L : Int) : Int × Int × (Int → Int) := qBR B L 13 0 (fun _ => 0) 0
theorem qBR_ok {B : Int → Int} {L : Int} (ht : qTp L B) : ∀ (f : Nat) (n : Int) (S : Int → Int) (p : Int), n + f = 13 → 0 ≤ n → n ≤ 12 → 0 ≤ p → p ≤ L → (∀ i, 0 ≤ i → i < n → 0 ≤ S i ∧ S i ≤ 9) → (0 ≤ (qBR B L f n S p).1 ∧ (qBR B L f n S p).1 ≤ L) ∨ ((qBR B L f n S p).1 = -1 ∧ (1 ≤ (qBR B L f n S p).2.1 ∧ (qBR B L f n S p).2.1 ≤ 12) ∧ ∀ i, 0 ≤ i → i < (qBR B L f n S p).2.1 → 0 ≤ (qBR B L f n S p).2.2 i ∧ (qBR B L f n S p).2.2 i ≤ 9) := by
  intro f
  induction f with
  | zero => intro n S p h; omega
  | succ f ih =>
    intro n S p hn n0 n1 p0 p1 hS
    have hb := ht.1
    have k1 := qsk_bd (B := B) p p1
    have kc := qpk_c ht p0 p1
    rw [qBR]
    split
    · dsimp only
      split
      · left; omega
      · right; exact ⟨rfl, by omega, hS⟩
    · split
      · left; dsimp only; omega
      · refine ih (n + 1) _ _ (by omega) (by omega) (by omega) (by omega) (by omega) ?_
        intro i i0 i1
        simp only [qset]
        split
        · omega
        · exact hS i i0 (by omega)
section BGN
variable {xs : List Int32} {d : Nat} {Q : bPo} {b b0 b1 b2 : Bool} {m : Nat → Int → Int} {nT nH : Int} {T P E U N : Int → Int} {t s h k : Int}
variable {M : Nat → Int → Int} {B : Int → Int} {L p : Int}
theorem c_readBeg {c : Int} (ht : qTp L B) (hc : qTc m L B) (hcnt : m 24 2 = c) (c0 : 0 ≤ c ∧ c ≤ 4) (hQ : ∀ m', qFr (fun a k => (a = 1 ∧ (k = 2 ∨ k = 3)) ∨ (a = 25 ∧ c * 1000 ≤ k) ∨ (a = 31 ∧ k = c)) m m' → ((qBrd B L).1 = -1 → m' 31 c = (qBrd B L).2.1 ∧ ∀ i, 0 ≤ i → i < (qBrd B L).2.1 → m' 25 (c * 1000 + i) = (qBrd B L).2.2 i) → Q (qBrd B L).1 ((b0, b1, b2), m')) : bC xs 2 1 [vr 24, vr 1] ((b0, b1, b2), m) Q := by
  refine qC rfl fun d hd => r_X0_read_0 hd ?_
  have hb := ht.1
  rw [show up (up m 1 2 0) 1 3 (-1) = up (up m 1 3 (-1)) 1 2 0 from by
    funext a j
    by_cases h1 : a = 1
    · subst h1
      rw [qup_f, qup_f, qup_f, qup_f]
      simp only [qset]
      split <;> split <;> first | rfl | omega
    · rw [qup_n h1, qup_n h1, qup_n h1, qup_n h1]]
  obtain ⟨R, hR⟩ : ∃ R, R = qBrd B L := ⟨_, rfl⟩
  rw [← hR] at hQ
  suffices H : ∀ (f : Nat) (n : Int) (S : Int → Int) (q : Int) (M1 : Nat → Int → Int), n + f = 13 → 0 ≤ n → n ≤ 12 → 0 ≤ q → q ≤ L → qFr (fun a k => (a = 1 ∧ (k = 2 ∨ k = 3)) ∨ (a = 25 ∧ c * 1000 ≤ k) ∨ (a = 31 ∧ k = c)) m M1 → (∀ i, 0 ≤ i → i < n → M1 25 (c * 1000 + i) = S i) → R = qBR B L f n S q → bGo xs d aM_X0_read 8 [vr 24, vr 1, vi n, vi n, vn] [] ((b0, b1, b2), up M1 1 2 q) Q from H 13 0 (fun _ => 0) 0 _ (by omega) (by omega) (by omega) (by omega) (by omega) (qFr_up qFr.refl (by omega)) (fun i _ _ => by omega) hR
  intro f
  induction f with
  | zero => intro n S q M1 h; omega
  | succ f ih =>
    intro n S q M1 hn n0 n1 q0 q1 hf hS he
    have hc1 : qTc M1 L B := ⟨by rw [hf 1 1 (by omega)]; exact hc.1, by rw [qFr_at hf 2 (fun k => by omega)]; exact hc.2⟩
    have e24 : M1 24 2 = c := by rw [hf 24 2 (by omega)]; exact hcnt
    have k1 := qsk_bd (B := B) q q1
    have kc := qpk_c ht q0 q1
    rw [qBR] at he
    refine r_X0_read_8 hd ⟨by omega, fun h => by omega, fun _ => c_peek ht hc1 q0 q1 ?_⟩
    simp (disch := omega) only [qup_s, qup_o, qup_n, qup_up, e24, hc1.1]
    by_cases hE : qpk B L q = -1
    · rw [if_pos hE] at he
      have fin : ∀ z, z = R.1 → Q z ((b0, b1, b2), up (up M1 1 2 (qsk B L q)) 31 c n) := by
        intro z hz
        rw [hz]
        refine hQ _ (qFr_up (qFr_up hf (by omega)) (by omega)) ?_
        intro h1
        rw [he]
        try dsimp only
        refine ⟨qup_s, fun i i0 i1 => ?_⟩
        rw [qup_n (by omega), qup_n (by omega)]
        exact hS i i0 i1
      rw [he] at fin
      dsimp only at fin
      (with_reducible repeat' (first | exact True.intro | apply And.intro | intro _))
      all_goals first | omega | rfl | exact fin _ (by first | rw [if_pos (by omega)] | rw [if_neg (by omega)])
    · rw [if_neg hE] at he
      by_cases hF : ¬ (48 ≤ qpk B L q ∧ qpk B L q ≤ 57) ∨ 12 ≤ n
      · rw [if_pos hF] at he
        rw [he] at hQ
        have fin := hQ (up M1 1 2 (qsk B L q)) (qFr_up hf (by omega)) (fun h => by dsimp only at h; omega)
        dsimp only at fin
        (with_reducible repeat' (first | exact True.intro | apply And.intro | intro _))
        all_goals first | omega | rfl | exact fin
      · rw [if_neg hF] at he
        have go : bGo xs d aM_X0_read 8 [vr 24, vr 1, vi (n + 1), vi (n + 1), vn] [] ((b0, b1, b2), up (up (up M1 1 2 (qsk B L q)) 25 (c * 1000 + n) (qpk B L q - 48)) 1 2 (qsk B L q + 1)) Q := by
          rw [qup_c (by omega), qup_up]
          refine ih (n + 1) _ _ _ (by omega) (by omega) (by omega) (by omega) (by omega) (qFr_up hf (by omega)) ?_ he
          intro i i0 i1
          rw [qup_if]
          simp only [qset]
          by_cases hi : i = n
          · rw [if_pos (by omega), if_pos hi]
          · rw [if_neg (by omega), if_neg hi]
            exact hS i i0 (by omega)
        (with_reducible repeat' (first | exact True.intro | apply And.intro | intro _))
        all_goals first | omega | rfl | exact go
theorem d_readRow (ht : qTp L B) (hc : qTm m L B) (hQ : ∀ m', qFr (fun a k => (a = 133 ∧ 48 ≤ k) ∨ (a = 134 ∧ k = 4) ∨ (a = 120 ∧ 8 ≤ k ∧ k ≤ 11)) m m' → m' 120 11 = (qBrd B L).1 → ((qBrd B L).1 = -1 → m' 134 4 = (qBrd B L).2.1 ∧ ∀ i, 0 ≤ i → i < (qBrd B L).2.1 → m' 133 (48 + i) = (qBrd B L).2.2 i) → Q 0 ((b0, b1, false), m')) : bC xs 2 205 [vr 120] ((b0, b1, b2), m) Q := by
  refine qC rfl fun d hd => r_X12_readRow_0 hd ?_
  have hb := ht.1
  rw [hc.1, show up (up (up (up m 120 8 0) 120 9 L) 120 10 0) 120 11 (-1) = up (up (up (up m 120 8 0) 120 9 L) 120 11 (-1)) 120 10 0 from qup_e (by omega)]
  obtain ⟨M0, hM0⟩ : ∃ M0, M0 = up (up (up m 120 8 0) 120 9 L) 120 11 (-1) := ⟨_, rfl⟩
  rw [← hM0]
  have f0 : qFr (fun a k => (a = 133 ∧ 48 ≤ k) ∨ (a = 134 ∧ k = 4) ∨ (a = 120 ∧ 8 ≤ k ∧ k ≤ 11)) m M0 := by
    rw [hM0]
    exact qFr_up (qFr_up (qFr_up qFr.refl (by omega)) (by omega)) (by omega)
  have b11 : M0 120 11 = -1 := by rw [hM0, qup_s]
  have hx0 : qXm M0 false 0 L B := by
    refine ⟨by rw [hM0]; simp (disch := omega) only [qup_o, qup_s], by rw [hM0]; simp (disch := omega) only [qup_o, qup_s], ⟨by omega, by show 0 + L ≤ 240; omega⟩, ?_⟩
    intro k k0 k1
    show M0 121 (0 + k) = _
    rw [f0 121 _ (by omega), Int.zero_add]
    exact hc.2 k k0 k1
  obtain ⟨R, hR⟩ : ∃ R, R = qBrd B L := ⟨_, rfl⟩
  rw [← hR] at hQ
  suffices H : ∀ (f : Nat) (n : Int) (S : Int → Int) (q : Int) (M1 : Nat → Int → Int), n + f = 13 → 0 ≤ n → n ≤ 12 → 0 ≤ q → q ≤ L → qFr (fun a k => a = 133 ∧ 48 ≤ k) M0 M1 → (∀ i, 0 ≤ i → i < n → M1 133 (48 + i) = S i) → R = qBR B L f n S q → bGo xs d aM_X12_readRow 20 [vr 120, vi n] [] ((b0, b1, false), up M1 120 10 (qsk B L q)) Q by
    refine d_look ht hx0 (by omega) (by omega) ⟨rfl, ?_⟩
    exact H 13 0 (fun _ => 0) 0 M0 (by omega) (by omega) (by omega) (by omega) (by omega) qFr.refl (fun i _ _ => by omega) hR
  intro f
  induction f with
  | zero => intro n S q M1 h; omega
  | succ f ih =>
    intro n S q M1 hn n0 n1 q0 q1 hf hS he
    have hx1 : qXm M1 false 0 L B := by
      obtain ⟨x1, x2, x3, x4⟩ := hx0
      refine ⟨by rw [hf 120 8 (by omega)]; exact x1, by rw [hf 120 9 (by omega)]; exact x2, x3, ?_⟩
      rw [qFr_at hf (bT false) (fun k => by show ¬ ((121 : Nat) = 133 ∧ 48 ≤ k); omega)]
      exact x4
    have h11 : M1 120 11 = -1 := by rw [hf 120 11 (by omega)]; exact b11
    have hfm : qFr (fun a k => (a = 133 ∧ 48 ≤ k) ∨ (a = 134 ∧ k = 4) ∨ (a = 120 ∧ 8 ≤ k ∧ k ≤ 11)) m M1 := f0.trans (hf.mono (fun a k h => Or.inl h))
    have k1 := qsk_bd (B := B) q q1
    have kc := qpk_c ht q0 q1
    have ks := qsk_sk (B := B) q1
    have kp := qpk_sk (B := B) q1
    rw [qBR] at he
    refine r_X12_readRow_20 hd (d_isDigit ht hx1 (by omega) (by omega) ?_)
    have hbT : bT false = 121 := rfl
    simp (disch := omega) only [qup_s, qup_o, qup_n, qup_up, h11, hx1.1, hx1.2.1, hbT]
    by_cases hD : 48 ≤ qpk B L q ∧ qpk B L q ≤ 57
    · have hD1 : qsk B L q < L ∧ qpk B L q = B (qsk B L q) := by omega
      have dg : qdg B L (qsk B L q) := by unfold qdg; omega
      rw [if_pos dg]
      rw [if_neg (by omega)] at he
      by_cases hF : 12 ≤ n
      · rw [if_pos (Or.inr hF)] at he
        rw [he] at hQ
        have fin := hQ (up (up M1 120 10 (qsk B L q)) 120 11 (qsk B L q)) (qFr_up (qFr_up hfm (by omega)) (by omega)) qup_s (fun h => by dsimp only at h; omega)
        (with_reducible repeat' (first | exact True.intro | apply And.intro | intro _))
        all_goals first | omega | exact absurd trivial (by assumption) | rfl | exact fin
      · rw [if_neg (by omega)] at he
        have ex := hx1.2.2.2 (qsk B L q) (by omega) (by omega)
        rw [hbT] at ex
        have eb := ht.2 (qsk B L q) (by omega) (by omega)
        rw [ex, (qsb_c eb).1, qup_d (a := 133) (by omega), qup_d (a := 133) (by omega), qup_up, qup_up, ← hD1.2]
        have hf2 : qFr (fun a k => a = 133 ∧ 48 ≤ k) M0 (up M1 133 (48 + n) (qpk B L q - 48)) := qFr_up hf (by omega)
        have hx2 : qXm (up M1 133 (48 + n) (qpk B L q - 48)) false 0 L B := by
          obtain ⟨x1, x2, x3, x4⟩ := hx1
          refine ⟨by rw [qup_n (by omega)]; exact x1, by rw [qup_n (by omega)]; exact x2, x3, ?_⟩
          rw [hbT, qup_n (by omega)]
          exact x4
        have go : bC xs 1 180 [vr 120] ((b0, b1, false), up (up M1 133 (48 + n) (qpk B L q - 48)) 120 10 (qsk B L q + 1)) (fun z9 μ10 => (μ10.1 = (b0, b1, false)) ∧ (bGo xs d aM_X12_readRow 20 [vr 120, vi (n + 1)] [] ((b0, b1, false), μ10.2) Q)) := by
          refine d_look ht hx2 (by omega) (by omega) ⟨rfl, ?_⟩
          refine ih (n + 1) _ (qsk B L q + 1) _ (by omega) (by omega) (by omega) (by omega) (by omega) hf2 ?_ he
          intro i i0 i1
          rw [qup_if]
          simp only [qset]
          by_cases hi : i = n
          · rw [if_pos (by omega), if_pos hi]
          · rw [if_neg (by omega), if_neg hi]
            exact hS i i0 (by omega)
        have hTn : bTn false = 240 := rfl
        rw [hTn]
        (with_reducible repeat' (first | exact True.intro | apply And.intro | intro _))
        all_goals first | omega | exact absurd trivial (by assumption) | rfl | exact go
    · have dg : ¬ qdg B L (qsk B L q) := by unfold qdg; omega
      rw [if_neg dg]
      have hx2 : qXm (up M1 134 4 n) false 0 L B := by
        obtain ⟨x1, x2, x3, x4⟩ := hx1
        refine ⟨by rw [qup_n (by omega)]; exact x1, by rw [qup_n (by omega)]; exact x2, x3, ?_⟩
        rw [hbT, qup_n (by omega)]
        exact x4
      have h112 : (up M1 134 4 n) 120 11 = -1 := by rw [qup_n (by omega)]; exact h11
      by_cases hE : qpk B L q = -1
      · rw [if_pos hE] at he
        by_cases hn0 : n = 0
        · rw [if_pos hn0] at he
          rw [he] at hQ
          have fin := hQ (up (up (up M1 120 10 (qsk B L q)) 134 4 n) 120 11 (qsk B L q)) (qFr_up (qFr_up (qFr_up hfm (by omega)) (by omega)) (by omega)) (by rw [qup_s]; dsimp only; omega) (fun h => by dsimp only at h; omega)
          (with_reducible repeat' (first | exact True.intro | apply And.intro | intro _))
          all_goals first | omega | exact absurd trivial (by assumption) | rfl | exact fin
        · rw [if_neg hn0] at he
          rw [he] at hQ
          refine ⟨trivial, by omega, fun _ => ⟨by omega, fun h => by omega, fun _ => ?_⟩, fun h => by omega⟩
          rw [qup_d (a := 134) (by omega)]
          refine d_look ht hx2 (by omega) (by omega) ?_
          rw [ks, kp]
          refine ⟨rfl, by omega, fun _ => ?_, fun h => by omega⟩
          dsimp only at hQ ⊢
          refine hQ _ (qFr_up (qFr_up hfm (by omega)) (by omega)) (by rw [qup_o (by omega), h112]) (fun _ => ⟨?_, fun i i0 i1 => ?_⟩)
          · rw [qup_n (by omega), qup_s]
          · rw [qup_n (by omega), qup_n (by omega)]
            exact hS i i0 i1
      · rw [if_neg hE, if_pos (Or.inl hD)] at he
        rw [he] at hQ
        by_cases hn0 : n = 0
        · have fin := hQ (up (up (up M1 120 10 (qsk B L q)) 134 4 n) 120 11 (qsk B L q)) (qFr_up (qFr_up (qFr_up hfm (by omega)) (by omega)) (by omega)) (by rw [qup_s]) (fun h => by dsimp only at h; omega)
          (with_reducible repeat' (first | exact True.intro | apply And.intro | intro _))
          all_goals first | omega | exact absurd trivial (by assumption) | rfl | exact fin
        · refine ⟨trivial, by omega, fun _ => ⟨by omega, fun h => by omega, fun _ => ?_⟩, fun h => by omega⟩
          rw [qup_d (a := 134) (by omega)]
          refine d_look ht hx2 (by omega) (by omega) ?_
          rw [ks, kp]
          simp (disch := omega) only [qup_s, qup_o, h112]
          refine ⟨trivial, by omega, fun h => by omega, fun _ => ⟨by omega, fun h => absurd trivial h, fun _ => ?_⟩⟩
          exact hQ _ (qFr_up (qFr_up (qFr_up hfm (by omega)) (by omega)) (by omega)) (by rw [qup_s]) (fun h => by dsimp only at h; omega)
end BGN
