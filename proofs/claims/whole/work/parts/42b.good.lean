/-! B: laws that were read are good; the class adds one -/
section GDL
variable {xs : List Int32} {d : Nat} {Q : bPo} {b b0 b1 b2 : Bool} {m : Nat → Int → Int} {nT nH : Int} {T P E U N : Int → Int} {t s h k : Int}
variable {B E : Int → Int} {L p q : Int} {f : Nat}
theorem qCq_good (ht : qTp L B) (hE : ∀ i, qbn (E i)) {rc : qLr} (p0 : 0 ≤ rc.2.2) (p1 : rc.1 = -1 → rc.2.2 ≤ L) (hs : rc.1 = -1 → ∃ v, q01 v ∧ qSem E 18 rc.2.1 v) (h : (qCq B L f rc).1 = -1) : qGz E (qCq B L f rc).2.1 := by
  unfold qCq at h ⊢
  by_cases ok : rc.1 = -1
  · have p1 := p1 ok
    have k1 := qsk_bd (B := B) rc.2.2 p1
    have kc := qpk_c ht p0 p1
    rw [if_neg (fun h => h ok)] at h ⊢
    by_cases h63 : qpk B L rc.2.2 = 63
    · rw [if_neg (fun h => h h63)] at h ⊢
      by_cases ok2 : (qE B L f 3 0 (qsk B L rc.2.2 + 1)).1 = -1
      · rw [if_pos ok2]
        obtain ⟨v, hv, sv⟩ : ∃ v, qbn v ∧ qSem E (qG 3 0) (qE B L f 3 0 (qsk B L rc.2.2 + 1)).2.1 v := qE_sem ht hE f 3 0 _ (by omega) (by omega) (by omega) ok2
        obtain ⟨w, hw, sw⟩ := hs ok
        exact ⟨Or.inr ⟨rc.2.1, w, rfl, hw, sw⟩, v, hv, qSem_le sv (by decide)⟩
      · rw [if_neg ok2] at h
        exact absurd h ok2
    · rw [if_pos h63] at h
      dsimp only at h
      omega
  · rw [if_pos ok] at h
    exact absurd h ok
theorem qCc_good (ht : qTp L B) (hE : ∀ i, qbn (E i)) (hf : 2440 ≤ f) (p0 : 0 ≤ p) (p1 : p ≤ L) (h : (qCc B L f p).1 = -1) : qGz E (qCc B L f p).2.1 := by
  have k1 := qsk_bd (B := B) p p1
  have kc := qpk_c ht p0 p1
  unfold qCc at h ⊢
  by_cases h121 : qpk B L p = 121
  · rw [if_neg (fun h => h h121)] at h ⊢
    have k2 := qsk_bd (B := B) (L := L) (qsk B L p + 1) (by omega)
    have kc2 := qpk_c (p := qsk B L p + 1) ht (by omega) (by omega)
    by_cases h58 : qpk B L (qsk B L p + 1) = 58
    · rw [if_neg (fun h => h h58)] at h ⊢
      generalize hq : qsk B L (qsk B L p + 1) + 1 = q at *
      have hqb : 0 ≤ q ∧ q ≤ L := by omega
      have k3 := qsk_bd (B := B) (L := L) q (by omega)
      unfold qCc2 at h ⊢
      by_cases hcs : qpk B L q = 33 ∨ qpk B L q = 40
      · rw [if_pos hcs] at h ⊢
        have o8 : qEok L 1 q (qE B L f 8 0 q) := qE_ok ht f 8 0 q hqb.1 hqb.2
        by_cases ok : (qE B L f 8 0 q).1 = -1
        · have hrp := qr_p ht hqb.1 hqb.2 ok
          refine qCq_good ht hE (by omega) (fun _ => hrp.2) (fun _ => ?_) h
          obtain ⟨v, hv, sv⟩ : ∃ v, q01 v ∧ qSem E (qG 8 0) (qE B L f 8 0 q).2.1 v := qE_sem ht hE f 8 0 q (by omega) hqb.1 hqb.2 ok
          exact ⟨v, hv, qSem_le sv (by decide)⟩
        · unfold qCq at h
          rw [if_pos ok] at h
          exact absurd h ok
      · rw [if_neg hcs] at h ⊢
        by_cases ok : (qE B L f 3 0 q).1 = -1
        · rw [if_neg (fun h => h ok)] at h ⊢
          have hrp := qr_p ht hqb.1 hqb.2 ok
          obtain ⟨a, ha, sa⟩ : ∃ v, qbn v ∧ qSem E (qG 3 0) (qE B L f 3 0 q).2.1 v := qE_sem ht hE f 3 0 q (by omega) hqb.1 hqb.2 ok
          by_cases hcm : qcmp (qpk B L (qE B L f 3 0 q).2.2) = -1
          · rw [if_pos hcm]
            exact ⟨Or.inl rfl, a, ha, qSem_le sa (by decide)⟩
          · rw [if_neg hcm] at h ⊢
            have ocb := qCB_ok (B := B) (p := (qE B L f 3 0 q).2.2) ht (by omega) hrp.2 f
            unfold qEs at h ⊢
            rw [if_pos ok] at h ⊢
            by_cases ok2 : (qCB B L f (qE B L f 3 0 q).2.2).1 = -1
            · rw [if_pos ok2] at h ⊢
              obtain ⟨v, hv, sv⟩ := qCB_sem ht hE (show 0 ≤ (qE B L f 3 0 q).2.2 by omega) hrp.2 ok2 a ha
              have hbb : (qE B L f 3 0 q).2.2 ≤ (qCB B L f (qE B L f 3 0 q).2.2).2.2 ∧ (qCB B L f (qE B L f 3 0 q).2.2).2.2 ≤ L := by unfold qEok at ocb; omega
              exact qCq_good ht hE (by dsimp only; omega) (fun _ => hbb.2) (fun _ => ⟨v, hv, qSem_s sa sv (by decide) (by decide)⟩) h
            · rw [if_neg ok2] at h
              unfold qCq at h
              rw [if_pos ok2] at h
              exact absurd h ok2
        · rw [if_pos ok] at h
          exact absurd h ok
    · rw [if_pos h58] at h
      dsimp only at h
      omega
  · rw [if_pos h121] at h
    dsimp only at h
    omega
theorem qLw_good (ht : qTp L B) (hE : ∀ i, qbn (E i)) (hf : 2440 ≤ f) : ∀ (k : Nat) (p : Int), 0 ≤ p → p ≤ L → (qLw B L f k p).1 = -1 → (∀ z, z ∈ (qLw B L f k p).2 → qGz E z) ∧ ∀ o, ((qlayL o (qLw B L f k p).2).length : Int) + p ≤ L := by
  intro k
  induction k with
  | zero => intro p p0 p1 h; exact absurd h (by show ¬ (-2 : Int) = -1; decide)
  | succ k ih =>
    intro p p0 p1 h
    have hok := qCc_ok ht hf p0 p1
    rw [qLw] at h ⊢
    by_cases ok : (qCc B L f p).1 = -1
    · rw [if_neg (fun h => h ok)] at h ⊢
      have hg := qCc_good ht hE hf p0 p1 ok
      generalize qCc B L f p = r at *
      have hr : p + 1 ≤ r.2.2 ∧ r.2.2 ≤ L ∧ ∀ o, ((qlay o r.2.1).length : Int) + p ≤ r.2.2 := by
        unfold qCk2 at hok
        rcases hok with h | ⟨_, h2, h3, h4⟩
        · omega
        · exact ⟨h2, h3, h4⟩
      have k1 := qsk_bd (B := B) r.2.2 hr.2.1
      have kc := qpk_c ht (show 0 ≤ r.2.2 by omega) hr.2.1
      by_cases he : qpk B L r.2.2 = -1
      · rw [if_pos he]
        refine ⟨fun z hz => ?_, fun o => ?_⟩
        · rw [List.mem_singleton] at hz
          rw [hz]; exact hg
        · simp only [qlayL, List.append_nil]
          have := hr.2.2 o
          omega
      · rw [if_neg he] at h ⊢
        by_cases h59 : qpk B L r.2.2 = 59
        · rw [if_pos h59] at h ⊢
          obtain ⟨i1, i2⟩ := ih (qsk B L r.2.2 + 1) (by omega) (by omega) h
          refine ⟨fun z hz => ?_, fun o => ?_⟩
          · rcases List.mem_cons.mp hz with hz | hz
            · rw [hz]; exact hg
            · exact i1 z hz
          · have h1 := hr.2.2 o
            have h2 := i2 (o + (qlay o r.2.1).length)
            rw [qlayL, List.length_append]
            omega
        · rw [if_neg h59] at h
          dsimp only at h
          omega
    · rw [if_pos ok] at h
      exact absurd h ok
theorem c_lawAdd {n l : Int} {cs : List Int} (hl : m 6 6 = l) (l0 : 0 ≤ l) (l6 : l < 6) (hn : n = cs.length) (h240 : cs.length ≤ 240) (hs : qSeg (m 5) 0 cs) (hQ : ∀ m', qFr (fun a k => (a = 7 ∧ l * 1000 ≤ k ∧ k < l * 1000 + 240) ∨ (a = 14 ∧ k = l) ∨ (a = 17 ∧ l * 1000 ≤ k ∧ k < l * 1000 + 160) ∨ (a = 6 ∧ k = 6)) m m' → m' 6 6 = l + 1 → m' 14 l = n → qSeg (fun k => m' 7 (l * 1000 + k)) 0 cs → (∀ k, 0 ≤ k → k < 160 → m' 17 (l * 1000 + k) = -1) → Q l ((b0, b1, b2), m')) : bC xs 2 95 [vr 6, vr 5, vi n] ((b0, b1, b2), m) Q := by
  refine qC rfl fun d hd => r_X7_add_0 hd ?_
  rw [hl]
  refine ⟨⟨l0, l6⟩, ⟨l0, l6⟩, by omega, ⟨l0, l6⟩, ⟨l0, l6⟩, c_fillB ⟨l0, l6⟩ ?_⟩
  intro m' fr hfill
  have e66 : m' 6 6 = l := by
    rw [fr 6 6 (by omega), qup_n (by omega), qcp_n (by omega)]
    exact hl
  dsimp only
  rw [e66, show l + 1 - 1 = l by omega]
  have e7 : ∀ j, m' 7 j = cp m 7 (l * 1000 + 0) 5 (0 + 0) n 7 j := fun j => by rw [fr 7 j (by omega), qup_n (by omega)]
  refine ⟨rfl, hQ _ (qFr_up ?_ (Or.inr (Or.inr (Or.inr ⟨rfl, rfl⟩)))) qup_s ?_ ?_ ?_⟩
  · refine qFr.trans (qFr_up (qFr_cp qFr.refl (fun j a b => Or.inl ⟨rfl, by omega, by omega⟩)) (Or.inr (Or.inl ⟨rfl, rfl⟩))) (fr.mono (fun a k h => Or.inr (Or.inr (Or.inl h))))
  · rw [qup_n (by omega), fr 14 l (by omega), qup_s]
  · refine qSeg_fr cs 0 (fun k a b => ?_) hs
    try dsimp only
    rw [qup_n (by omega), e7, qcp_i (by omega) (by omega)]
    congr 1
    omega
  · intro k a b
    rw [qup_n (by omega)]
    exact hfill k a b
end GDL
