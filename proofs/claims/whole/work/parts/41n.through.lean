/-! B: the model goes through a law, its end -/
def qLn (a : Nat) (k : Int) : Prop := a = 120 ∧ 8 ≤ k ∧ k ≤ 17
def qfdL (E : Int → Int) : List qCz → (Nat → Int → Int) → (Nat → Int → Int)
  | [], M => M
  | z :: zs, M => qfdL E zs (qfd E z M)
def qKl (b0 b1 b2 : Bool) (E : Int → Int) (M : Nat → Int → Int) (r : Int × List qCz) (Q : bPo) : Prop := (r.1 = -1 → ∀ p', Q 0 ((b0, b1, b2), up (qfdL E r.2 M) 120 10 p')) ∧ (¬ r.1 = -1 → ∀ m', qFr qLn M m' → m' 120 11 = r.1 → Q 0 ((b0, b1, b2), m'))
section MGV
variable {xs : List Int32} {b0 b1 b2 : Bool} {B E : Int → Int} {g L : Int}
theorem qfd_fr {z : qCz} {M : Nat → Int → Int} : qFr (fun a k => a = 120 ∧ (k = 14 ∨ k = 17)) M (qfd E z M) := by
  unfold qfd
  split
  · exact qFr_up (qFr_up qFr.refl ⟨rfl, Or.inr rfl⟩) ⟨rfl, Or.inl rfl⟩
  · exact qFr.refl
theorem qfdL_fr : ∀ (zs : List qCz) (M : Nat → Int → Int), qFr (fun a k => a = 120 ∧ (k = 14 ∨ k = 17)) M (qfdL E zs M)
  | [], M => qFr.refl
  | z :: zs, M => qfd_fr.trans (qfdL_fr zs (qfd E z M))
theorem qfd_17 {z : qCz} {M : Nat → Int → Int} (h : M 120 17 = 0 ∨ M 120 17 = 1) : (qfd E z M) 120 17 = 0 ∨ (qfd E z M) 120 17 = 1 := by
  unfold qfd
  split
  · right; rw [qup_o (by omega), qup_s]
  · exact h
theorem qfdL_1 : ∀ (zs : List qCz) (M : Nat → Int → Int), M 120 17 = 1 → qfdL E zs M = M
  | [], M, _ => rfl
  | z :: zs, M, h => by
    have e : qfd E z M = M := by
      unfold qfd
      rw [if_neg (fun h2 => by omega)]
    rw [qfdL, e]
    exact qfdL_1 zs M h
theorem qfdL_14 : ∀ (zs : List qCz) (M : Nat → Int → Int), M 120 17 = 0 → M 120 14 = 0 → (qfdL E zs M) 120 14 = qwz E zs
  | [], M, _, h => h
  | z :: zs, M, h17, h14 => by
    have hw : qwz E (z :: zs) = if qzt E z = 0 then qwz E zs else qva E z.2 [] := by
      obtain ⟨zc, zl⟩ := z
      cases zc with
      | none =>
        show qva E zl [] = if (1 : Int) = 0 then _ else _
        rw [if_neg (by omega)]
      | some c => rfl
    rw [qfdL, hw]
    by_cases hz : qzt E z = 0
    · have e : qfd E z M = M := by
        unfold qfd
        rw [if_neg (fun h2 => h2.2 hz)]
      rw [e, if_pos hz]
      exact qfdL_14 zs M h17 h14
    · have e : qfd E z M = up (up M 120 17 1) 120 14 (qva E z.2 []) := by
        unfold qfd
        rw [if_pos ⟨h17, hz⟩]
      rw [e, if_neg hz, qfdL_1 zs _ (by rw [qup_o (by omega), qup_s]), qup_s]
theorem d_goL {n d : Nat} (ht : qTp L B) (hE : ∀ i, qbn (E i)) (hn : 2440 ≤ n) (hd : 249 ≤ d) {Q : bPo} : ∀ (k : Nat) (p : Int) (M : Nat → Int → Int), 480 ≤ p + 2 * k → qMp M b2 g L B E 0 p → M 120 13 = 121 → (M 120 17 = 0 ∨ M 120 17 = 1) → qKl b0 b1 b2 E M (qLw B L n k p) Q → bC xs 248 194 [vr 120] ((b0, b1, b2), up M 120 10 p) (fun _ μ => μ.1 = (b0, b1, b2) ∧ bGo xs d aM_X12_goThrough 32 [vr 120, vn, vn, vn] [] ((b0, b1, b2), μ.2) Q) := by
  intro k
  have hb := ht.1
  induction k with
  | zero => intro p M h hp; have := hp.2.2.2.2; omega
  | succ k ih =>
    intro p M hf hp h13 h17 hk
    have hp0 := hp
    obtain ⟨hx, h11, h12, hl, p0, p1⟩ := hp
    have hok := qCc_ok ht hn p0 p1
    rw [qLw] at hk
    have lm : ∀ m', qFr qLm M m' → qFr qLn M m' := fun m' h => h.mono (fun a k h => by unfold qLm at h; unfold qLn; omega)
    refine d_clause ht hE hn hp0 h13 (by omega) ⟨fun ok => ?_, fun nok m' fm e11 => ?_⟩
    · rw [if_neg (by omega)] at hk
      generalize qCc B L n p = r at *
      have hr : p + 1 ≤ r.2.2 ∧ r.2.2 ≤ L := by
        unfold qCk2 at hok
        rcases hok with h | ⟨_, h2, h3, h4⟩
        · omega
        · exact ⟨h2, h3⟩
      have k1 := qsk_bd (B := B) r.2.2 hr.2
      have kc := qpk_c ht (show 0 ≤ r.2.2 by omega) hr.2
      have fz := qfd_fr (E := E) (z := r.2.1) (M := M)
      have f17 := qfd_17 (E := E) (z := r.2.1) h17
      have fzn : qFr qLn M (qfd E r.2.1 M) := fz.mono (fun a k h => by unfold qLn; omega)
      generalize hN : qfd E r.2.1 M = N at *
      have n11 : N 120 11 = -1 := by rw [fz 120 11 (by omega)]; exact h11
      have hT := qbT b2
      have nx : qXm N b2 g L B := ⟨by rw [fz 120 8 (by omega)]; exact hx.1, by rw [fz 120 9 (by omega)]; exact hx.2.1, hx.2.2.1, fun j a b => by rw [fz (bT b2) _ (by omega)]; exact hx.2.2.2 j a b⟩
      have e11 : ∀ q, (up N 120 10 q) 120 11 = -1 := fun q => by rw [qup_o (by omega)]; exact n11
      refine ⟨rfl, r_X12_goThroughA_32 hd ?_⟩
      dsimp only
      rw [e11]
      refine ⟨by omega, fun h => absurd rfl h, fun _ => d_look ht nx (by omega) hr.2 ⟨rfl, by omega, fun h59 => ?_, fun h59 => ?_⟩⟩
      · dsimp only
        rw [e11]
        refine ⟨by omega, fun h => absurd rfl h, fun _ => d_look ht nx (by omega) (by omega) ?_⟩
        rw [qpk_sk hr.2, qsk_sk hr.2]
        refine ⟨rfl, by omega, fun he => ?_, fun he => ?_⟩
        · rw [if_pos he] at hk
          have := hk.1 rfl (qsk B L r.2.2)
          dsimp only [qfdL] at this
          rw [hN] at this
          exact this
        · rw [if_neg he, if_neg h59] at hk
          dsimp only
          rw [e11, qup_s]
          exact ⟨by omega, fun h => absurd rfl h, fun _ => hk.2 (by dsimp only; omega) _ (qFr_up (qFr_up fzn (by unfold qLn; omega)) (by unfold qLn; omega)) (by dsimp only; rw [qup_s])⟩
      · rw [if_neg (by omega), if_pos h59] at hk
        dsimp only
        rw [qup_s, qup_up]
        refine ih (qsk B L r.2.2 + 1) N (by omega) ⟨nx, n11, by rw [fz 120 12 (by omega)]; exact h12, fun c hc => by rw [fz 124 c (by omega)]; exact hl c hc, by omega, by omega⟩ (by rw [fz 120 13 (by omega)]; exact h13) f17 ⟨fun ok2 p' => ?_, fun nok2 m' fm e11' => ?_⟩
        · have := hk.1 ok2 p'
          dsimp only [qfdL] at this
          rw [hN] at this
          exact this
        · exact hk.2 nok2 m' (fzn.trans fm) e11'
    · rw [if_pos nok] at hk
      have hr : 0 ≤ (qCc B L n p).1 ∧ (qCc B L n p).1 ≤ L := by
        unfold qCk2 at hok
        rcases hok with h | ⟨h, _⟩
        · exact h
        · exact absurd h nok
      refine ⟨rfl, r_X12_goThroughA_32 hd ?_⟩
      dsimp only
      rw [e11]
      exact ⟨by omega, fun _ => ⟨by omega, fun _ => hk.2 nok m' (lm m' fm) e11, fun h => absurd h nok⟩, fun h => absurd h nok⟩
theorem d_goA {m : Nat → Int → Int} {x2 : Int} {Q : bPo} (ht : qTp L B) (hE : ∀ i, qbn (E i)) (hx2 : 0 ≤ x2 ∧ x2 + L ≤ 240) (hm : ∀ k, 0 ≤ k → k < L → m 121 (x2 + k) = qsb (B k)) (hl : ∀ c, ¬ qlet c = -1 → m 124 c = E (qlet c)) (hQ : ∀ m', qFr qLn m m' → ((qLw B L 2440 240 0).1 = -1 → m' 120 11 = -1 ∧ m' 120 14 = qwz E (qLw B L 2440 240 0).2) → (¬ (qLw B L 2440 240 0).1 = -1 → m' 120 11 = (qLw B L 2440 240 0).1) → Q 0 ((b0, b1, false), m')) : bC xs 249 196 [vr 120, vr 121, vi x2, vi L] ((b0, b1, b2), m) Q := by
  refine qC rfl fun d hd => r_X12_goThroughA_0 hd ?_
  have hb := ht.1
  rw [qup_e (by omega), qup_e (by omega), qup_e (by omega), qup_e (by omega), qup_e (by omega)]
  have hfr : qFr qLn m (up (up (up (up (up (up (up m 120 8 x2) 120 9 L) 120 11 (-1)) 120 13 121) 120 12 0) 120 17 0) 120 14 0) := qFr_up (qFr_up (qFr_up (qFr_up (qFr_up (qFr_up (qFr_up qFr.refl (by unfold qLn; omega)) (by unfold qLn; omega)) (by unfold qLn; omega)) (by unfold qLn; omega)) (by unfold qLn; omega)) (by unfold qLn; omega)) (by unfold qLn; omega)
  have h8 : (up (up (up (up (up (up (up m 120 8 x2) 120 9 L) 120 11 (-1)) 120 13 121) 120 12 0) 120 17 0) 120 14 0) 120 8 = x2 := by simp (disch := omega) only [qup_s, qup_o]
  have h9 : (up (up (up (up (up (up (up m 120 8 x2) 120 9 L) 120 11 (-1)) 120 13 121) 120 12 0) 120 17 0) 120 14 0) 120 9 = L := by simp (disch := omega) only [qup_s, qup_o]
  have h11 : (up (up (up (up (up (up (up m 120 8 x2) 120 9 L) 120 11 (-1)) 120 13 121) 120 12 0) 120 17 0) 120 14 0) 120 11 = -1 := by simp (disch := omega) only [qup_s, qup_o]
  have h13 : (up (up (up (up (up (up (up m 120 8 x2) 120 9 L) 120 11 (-1)) 120 13 121) 120 12 0) 120 17 0) 120 14 0) 120 13 = 121 := by simp (disch := omega) only [qup_s, qup_o]
  have h12 : (up (up (up (up (up (up (up m 120 8 x2) 120 9 L) 120 11 (-1)) 120 13 121) 120 12 0) 120 17 0) 120 14 0) 120 12 = 0 := by simp (disch := omega) only [qup_s, qup_o]
  have h17 : (up (up (up (up (up (up (up m 120 8 x2) 120 9 L) 120 11 (-1)) 120 13 121) 120 12 0) 120 17 0) 120 14 0) 120 17 = 0 := by simp (disch := omega) only [qup_s, qup_o]
  have h14 : (up (up (up (up (up (up (up m 120 8 x2) 120 9 L) 120 11 (-1)) 120 13 121) 120 12 0) 120 17 0) 120 14 0) 120 14 = 0 := qup_s
  generalize (up (up (up (up (up (up (up m 120 8 x2) 120 9 L) 120 11 (-1)) 120 13 121) 120 12 0) 120 17 0) 120 14 0) = M at *
  refine d_goL (g := x2) (n := 2440) ht hE (by omega) hd 240 0 M (by omega) ⟨⟨h8, h9, hx2, fun k a b => ?_⟩, h11, h12, fun c hc => ?_, by omega, by omega⟩ h13 (Or.inl h17) ⟨fun ok p' => ?_, fun nok m' fm e11 => ?_⟩
  · show M 121 (x2 + k) = _
    rw [hfr 121 _ (by unfold qLn; omega)]
    exact hm k a b
  · rw [hfr 124 c (by unfold qLn; omega)]
    exact hl c hc
  · have f2 := qfdL_fr (E := E) (qLw B L 2440 240 0).2 M
    refine hQ _ (qFr_up (hfr.trans (f2.mono (fun a k h => by unfold qLn; omega))) (by unfold qLn; omega)) (fun _ => ⟨?_, ?_⟩) (fun h => absurd ok h)
    · rw [qup_o (by omega), f2 120 11 (by omega)]; exact h11
    · rw [qup_o (by omega)]; exact qfdL_14 _ M h17 h14
  · exact hQ m' (hfr.trans fm) (fun h => absurd h nok) (fun _ => e11)
theorem d_goB {m : Nat → Int → Int} {x2 : Int} {Q : bPo} (ht : qTp L B) (hE : ∀ i, qbn (E i)) (hx2 : 0 ≤ x2 ∧ x2 + L ≤ 1440) (hm : ∀ k, 0 ≤ k → k < L → m 122 (x2 + k) = qsb (B k)) (hl : ∀ c, ¬ qlet c = -1 → m 124 c = E (qlet c)) (hQ : ∀ m', qFr qLn m m' → ((qLw B L 2440 240 0).1 = -1 → m' 120 11 = -1 ∧ m' 120 14 = qwz E (qLw B L 2440 240 0).2) → (¬ (qLw B L 2440 240 0).1 = -1 → m' 120 11 = (qLw B L 2440 240 0).1) → Q 0 ((b0, b1, true), m')) : bC xs 249 196 [vr 120, vr 122, vi x2, vi L] ((b0, b1, b2), m) Q := by
  refine qC rfl fun d hd => r_X12_goThroughB_0 hd ?_
  have hb := ht.1
  rw [qup_e (by omega), qup_e (by omega), qup_e (by omega), qup_e (by omega), qup_e (by omega)]
  have hfr : qFr qLn m (up (up (up (up (up (up (up m 120 8 x2) 120 9 L) 120 11 (-1)) 120 13 121) 120 12 0) 120 17 0) 120 14 0) := qFr_up (qFr_up (qFr_up (qFr_up (qFr_up (qFr_up (qFr_up qFr.refl (by unfold qLn; omega)) (by unfold qLn; omega)) (by unfold qLn; omega)) (by unfold qLn; omega)) (by unfold qLn; omega)) (by unfold qLn; omega)) (by unfold qLn; omega)
  have h8 : (up (up (up (up (up (up (up m 120 8 x2) 120 9 L) 120 11 (-1)) 120 13 121) 120 12 0) 120 17 0) 120 14 0) 120 8 = x2 := by simp (disch := omega) only [qup_s, qup_o]
  have h9 : (up (up (up (up (up (up (up m 120 8 x2) 120 9 L) 120 11 (-1)) 120 13 121) 120 12 0) 120 17 0) 120 14 0) 120 9 = L := by simp (disch := omega) only [qup_s, qup_o]
  have h11 : (up (up (up (up (up (up (up m 120 8 x2) 120 9 L) 120 11 (-1)) 120 13 121) 120 12 0) 120 17 0) 120 14 0) 120 11 = -1 := by simp (disch := omega) only [qup_s, qup_o]
  have h13 : (up (up (up (up (up (up (up m 120 8 x2) 120 9 L) 120 11 (-1)) 120 13 121) 120 12 0) 120 17 0) 120 14 0) 120 13 = 121 := by simp (disch := omega) only [qup_s, qup_o]
  have h12 : (up (up (up (up (up (up (up m 120 8 x2) 120 9 L) 120 11 (-1)) 120 13 121) 120 12 0) 120 17 0) 120 14 0) 120 12 = 0 := by simp (disch := omega) only [qup_s, qup_o]
  have h17 : (up (up (up (up (up (up (up m 120 8 x2) 120 9 L) 120 11 (-1)) 120 13 121) 120 12 0) 120 17 0) 120 14 0) 120 17 = 0 := by simp (disch := omega) only [qup_s, qup_o]
  have h14 : (up (up (up (up (up (up (up m 120 8 x2) 120 9 L) 120 11 (-1)) 120 13 121) 120 12 0) 120 17 0) 120 14 0) 120 14 = 0 := qup_s
  generalize (up (up (up (up (up (up (up m 120 8 x2) 120 9 L) 120 11 (-1)) 120 13 121) 120 12 0) 120 17 0) 120 14 0) = M at *
  refine d_goL (g := x2) (n := 2440) ht hE (by omega) hd 240 0 M (by omega) ⟨⟨h8, h9, hx2, fun k a b => ?_⟩, h11, h12, fun c hc => ?_, by omega, by omega⟩ h13 (Or.inl h17) ⟨fun ok p' => ?_, fun nok m' fm e11 => ?_⟩
  · show M 122 (x2 + k) = _
    rw [hfr 122 _ (by unfold qLn; omega)]
    exact hm k a b
  · rw [hfr 124 c (by unfold qLn; omega)]
    exact hl c hc
  · have f2 := qfdL_fr (E := E) (qLw B L 2440 240 0).2 M
    refine hQ _ (qFr_up (hfr.trans (f2.mono (fun a k h => by unfold qLn; omega))) (by unfold qLn; omega)) (fun _ => ⟨?_, ?_⟩) (fun h => absurd ok h)
    · rw [qup_o (by omega), f2 120 11 (by omega)]; exact h11
    · rw [qup_o (by omega)]; exact qfdL_14 _ M h17 h14
  · exact hQ m' (hfr.trans fm) (fun h => absurd h nok) (fun _ => e11)
theorem d_worthBy {m : Nat → Int → Int} {l : Int} {Q : bPo} (ht : qTp L B) (hE : ∀ i, qbn (E i)) (l0 : 0 ≤ l) (l1 : l < 6) (hL : m 123 l = L) (hm : ∀ k, 0 ≤ k → k < L → m 122 (240 * l + k) = qsb (B k)) (hl : ∀ c, ¬ qlet c = -1 → m 124 c = E (qlet c)) (ok : (qLw B L 2440 240 0).1 = -1) (hQ : ∀ m', qFr qLn m m' → Q (qwz E (qLw B L 2440 240 0).2) ((b0, b1, true), m')) : bC xs 250 256 [vr 120, vi l] ((b0, b1, b2), m) Q := by
  refine qC rfl fun d hd => r_X12_worthBy_0 hd ?_
  have hb := ht.1
  rw [hL]
  refine ⟨⟨l0, l1⟩, d_goB ht hE (by omega) hm hl (fun m' f' h1 _ => ⟨⟨rfl, rfl⟩, ?_⟩)⟩
  dsimp only
  rw [(h1 ok).2]
  exact hQ m' f'
end MGV
