/-! B: the model goes through a law, on -/
section MGU
variable {xs : List Int32} {b0 b1 b2 : Bool} {B E : Int → Int} {g L : Int}
theorem qCB_sem {n : Nat} {p : Int} (ht : qTp L B) (hE : ∀ i, qbn (E i)) (p0 : 0 ≤ p) (p1 : p ≤ L) (h : (qCB B L n p).1 = -1) : ∀ a, qbn a → ∃ v, q01 v ∧ qSeL E 18 (qCB B L n p).2.1 a v := by
  intro a ha
  unfold qCB qEs at h ⊢
  by_cases ok1 : (qE B L n 10 0 p).1 = -1
  · rw [if_pos ok1] at h ⊢
    have hrp1 := qr_p ht p0 p1 ok1
    obtain ⟨c1, hc1, s1⟩ : ∃ v, q01 v ∧ qSeL E (qG 10 0) (qE B L n 10 0 p).2.1 a v := qE_sem ht hE n 10 0 p (by omega) p0 p1 ok1 a ha
    by_cases ok2 : (qE B L n 7 0 (qE B L n 10 0 p).2.2).1 = -1
    · rw [if_pos ok2, if_pos rfl] at h ⊢
      dsimp only at h ⊢
      have hrp2 := qr_p ht (by omega) hrp1.2 ok2
      obtain ⟨c2, hc2, s2⟩ : ∃ v, q01 v ∧ qSeL E (qG 7 0) (qE B L n 7 0 (qE B L n 10 0 p).2.2).2.1 c1 v := qE_sem ht hE n 7 0 _ (by omega) (by omega) hrp1.2 ok2 c1 hc1
      by_cases ok3 : (qE B L n 9 0 (qE B L n 7 0 (qE B L n 10 0 p).2.2).2.2).1 = -1
      · obtain ⟨c3, hc3, s3⟩ : ∃ v, q01 v ∧ qSeL E (qG 9 0) (qE B L n 9 0 (qE B L n 7 0 (qE B L n 10 0 p).2.2).2.2).2.1 c2 v := qE_sem ht hE n 9 0 _ (by omega) (by omega) hrp2.2 ok3 c2 hc2
        rw [if_pos ok3]
        have e1 : qG 10 0 ≤ 18 := by decide
        have e2 : qG 7 0 ≤ 18 := by decide
        have e3 : qG 9 0 ≤ 18 := by decide
        exact ⟨c3, hc3, qSeL_s (G1 := 18) (qSeL_s s1 s2 e1 e2) s3 (by omega) e3⟩
      · rw [if_neg ok3] at h
        exact absurd h ok3
    · rw [if_neg ok2, if_neg ok2] at h
      exact absurd h ok2
  · rw [if_neg ok1, if_neg ok1] at h
    exact absurd h ok1
theorem d_clause {n : Nat} {p : Int} {M : Nat → Int → Int} {Q : bPo} (ht : qTp L B) (hE : ∀ i, qbn (E i)) (hn : 2440 ≤ n) (hp : qMp M b2 g L B E 0 p) (h13 : M 120 13 = 121) (h17 : inR (M 120 17)) (hk : qKc b0 b1 b2 E M (qCc B L n p) Q) : bC xs 248 194 [vr 120] ((b0, b1, b2), up M 120 10 p) Q := by
  obtain ⟨hx, h11, h12, hl, p0, p1⟩ := hp
  have hb := ht.1
  have hrk : qrk 3 = 3 ∧ qrk 8 = 6 := ⟨rfl, rfl⟩
  have k1 := qsk_bd (B := B) p p1
  have kc := qpk_c ht p0 p1
  unfold qCc at hk
  refine qC rfl fun dJ hd => r_X12_clause_0 hd (d_look ht hx p0 p1 ?_)
  by_cases h121 : qpk B L p = 121
  · rw [if_neg (by omega)] at hk
    rw [h121]
    have k2 := qsk_bd (B := B) (L := L) (qsk B L p + 1) (by omega)
    have kc2 := qpk_c (p := qsk B L p + 1) ht (by omega) (by omega)
    refine ⟨rfl, by omega, by decide, fun _ => ?_, fun h => absurd h (by decide)⟩
    dsimp only
    rw [qup_s, qup_up]
    refine d_takesC ht hx h11 (by omega) (by omega) (by omega) (fun h58 => ?_) (fun h58 => ?_)
    · rw [if_neg (by omega)] at hk
      refine ⟨rfl, by omega, fun _ => ?_, fun h => by omega⟩
      generalize hq : qsk B L (qsk B L p + 1) + 1 = q at *
      have hqb : 0 ≤ q ∧ q ≤ L := by omega
      have k3 := qsk_bd (B := B) (L := L) q (by omega)
      have kc3 := qpk_c (p := q) ht (by omega) (by omega)
      have esk8 := qE_sk (B := B) (p := q) (L := L) (by omega) n 8 0
      have esk3 := qE_sk (B := B) (p := q) (L := L) (by omega) n 3 0
      have g8 := qE_f ht n 8 0 q (by omega) (by omega) (by omega) (by omega)
      have g3 := qE_f ht n 3 0 q (by omega) (by omega) (by omega) (by omega)
      unfold qCc2 at hk
      have cnd : qpk B L q = 33 ∨ qpk B L q = 40 → bC xs 247 193 [vr 120, vi 0, vi 0] ((b0, b1, b2), up M 120 10 (qsk B L q)) (fun z7 μ8 => (μ8.1 = (b0, b1, b2)) ∧ qTl xs b0 b1 b2 121 μ8.2 z7 Q) := by
        intro hcs
        rw [if_pos hcs] at hk
        have hrl := qr_L ht hqb.1 hqb.2 g8
        refine d_cond0 (n := n) ht hE ⟨hx, h11, h12, hl, by omega, by omega⟩ (by rw [esk8]; exact g8) ?_
        rw [esk8]
        refine ⟨fun ok => ?_, fun nok w m' hw fm e11 => ?_⟩
        · have hrp := qr_p ht hqb.1 hqb.2 ok
          obtain ⟨v, hv, sv⟩ : ∃ v, q01 v ∧ qSem E (qG 8 0) (qE B L n 8 0 q).2.1 v := qE_sem ht hE n 8 0 q (by omega) hqb.1 hqb.2 ok
          exact ⟨rfl, d_tail ht hE hn ⟨hx, h11, h12, hl, by omega, hrp.2⟩ h13 h17 ok (by rw [qva_s sv (by decide)]; exact hv) hk⟩
        · unfold qCq at hk
          rw [if_pos nok] at hk
          exact ⟨rfl, d_tailF (by dsimp only; rw [e11]; exact nok) (by dsimp only; rw [e11]; omega) (hk.2 nok m' fm e11)⟩
      refine d_look ht hx hqb.1 hqb.2 ⟨rfl, by omega, fun h33 => cnd (Or.inl h33), fun h33 => ⟨by omega, fun h40 => ?_, fun h40 => cnd (Or.inr h40)⟩⟩
      rw [if_neg (by omega)] at hk
      have hrl := qr_L ht hqb.1 hqb.2 g3
      refine d_sum (n := n) (dp := 0) ht hE (by omega) (by omega) ⟨hx, h11, h12, hl, by omega, by omega⟩ (by rw [esk3]; exact g3) ?_
      rw [esk3]
      refine ⟨fun ok => ?_, fun nok w m' hw fm e11 => ?_⟩
      · have hrp := qr_p ht hqb.1 hqb.2 ok
        obtain ⟨a, ha, sa⟩ : ∃ v, qbn v ∧ qSem E (qG 3 0) (qE B L n 3 0 q).2.1 v := qE_sem ht hE n 3 0 q (by omega) hqb.1 hqb.2 ok
        have ea := qva_s sa (by decide)
        rw [if_neg (by omega)] at hk
        rw [ea]
        have k4 := qsk_bd (B := B) (qE B L n 3 0 q).2.2 hrp.2
        have kc4 := qpk_c ht (show 0 ≤ (qE B L n 3 0 q).2.2 by omega) hrp.2
        have hv := qcmp_v (qpk B L (qE B L n 3 0 q).2.2)
        have e11 : (up M 120 10 (qE B L n 3 0 q).2.2) 120 11 = -1 := by rw [qup_o (by omega)]; exact h11
        dsimp only
        rw [e11]
        have cb : ¬ qcmp (qpk B L (qE B L n 3 0 q).2.2) = -1 → bC xs 247 193 [vr 120, vi 1, vi a] ((b0, b1, b2), up M 120 10 (qsk B L (qE B L n 3 0 q).2.2)) (fun z7 μ8 => (μ8.1 = (b0, b1, b2)) ∧ qTl xs b0 b1 b2 121 μ8.2 z7 Q) := by
          intro hcm
          rw [if_neg hcm] at hk
          unfold qEs at hk
          rw [if_pos ok] at hk
          have ecb : qCB B L n (qsk B L (qE B L n 3 0 q).2.2) = qCB B L n (qE B L n 3 0 q).2.2 := by
            unfold qCB
            rw [qE_sk hrp.2]
          have gcb := qCB_f ht hn (show 0 ≤ (qE B L n 3 0 q).2.2 by omega) hrp.2
          have ocb := qCB_ok (B := B) (p := (qE B L n 3 0 q).2.2) ht (by omega) hrp.2 n
          refine d_cond1 (n := n) ht hE ha ⟨hx, h11, h12, hl, by omega, by omega⟩ (by rw [ecb]; exact gcb) ?_
          rw [ecb]
          refine ⟨fun ok2 => ?_, fun nok2 w m' hw fm e11 => ?_⟩
          · obtain ⟨v, hv2, sv⟩ := qCB_sem ht hE (show 0 ≤ (qE B L n 3 0 q).2.2 by omega) hrp.2 ok2 a ha
            rw [if_pos ok2] at hk
            have hbb : (qE B L n 3 0 q).2.2 ≤ (qCB B L n (qE B L n 3 0 q).2.2).2.2 ∧ (qCB B L n (qE B L n 3 0 q).2.2).2.2 ≤ L := by unfold qEok at ocb; omega
            have es : qva E ((qE B L n 3 0 q).2.1 ++ (qCB B L n (qE B L n 3 0 q).2.2).2.1) [] = qva E (qCB B L n (qE B L n 3 0 q).2.2).2.1 [a] := by
              rw [qva_sq sa sv (by decide) (by decide), ea]
            have ev := qva_l sv (by decide)
            have tl := d_tail (xs := xs) (rc := (-1, (qE B L n 3 0 q).2.1 ++ (qCB B L n (qE B L n 3 0 q).2.2).2.1, (qCB B L n (qE B L n 3 0 q).2.2).2.2)) ht hE hn ⟨hx, h11, h12, hl, by dsimp only; omega, hbb.2⟩ h13 h17 rfl (by dsimp only; rw [es, ev]; exact hv2) hk
            dsimp only at tl
            rw [es] at tl
            exact ⟨rfl, tl⟩
          · rw [if_neg nok2] at hk
            unfold qCq at hk
            rw [if_pos nok2] at hk
            exact ⟨rfl, d_tailF (by dsimp only; rw [e11]; exact nok2) (by dsimp only; rw [e11]; unfold qEok at ocb; omega) (hk.2 nok2 m' fm e11)⟩
        refine ⟨rfl, by omega, fun h => absurd rfl h, fun _ => d_look ht hx (by omega) hrp.2 ⟨rfl, by omega, fun h61 => cb (by omega), fun h61 => ⟨by omega, fun h60 => cb (by omega), fun h60 => ⟨by omega, fun h62 => ?_, fun h62 => cb (by omega)⟩⟩⟩⟩
        rw [if_pos (by omega)] at hk
        have := hk.1 rfl
        dsimp only at this
        generalize qE B L n 3 0 q = r2 at *
        unfold qfd at this
        rw [show qzt E (none, r2.2.1) = 1 from rfl] at this
        simp (disch := omega) only [qup_o, h11, h13]
        refine ⟨by omega, fun h => absurd trivial h, fun _ => ⟨h17, fun h => ?_, fun h => ⟨by omega, by omega, fun h => absurd trivial h, fun _ => ?_⟩⟩⟩
        · rw [if_neg (fun h2 => h h2.1)] at this; exact this
        · rw [if_pos ⟨h, by omega⟩, ea] at this
          rw [qup_e (by omega), qup_e (by omega)]
          exact this
      · rw [if_pos nok] at hk
        dsimp only
        rw [e11]
        exact ⟨rfl, by omega, fun _ => ⟨by omega, fun _ => hk.2 nok m' fm e11, fun h => absurd h nok⟩, fun h => absurd h nok⟩
    · rw [if_pos h58] at hk
      exact ⟨rfl, by omega, fun h => absurd rfl h, fun _ => hk.2 (by dsimp only; omega) _ (qFr_up (qFr_up qFr.refl (by unfold qLm; omega)) (by unfold qLm; omega)) (by dsimp only; rw [qup_s])⟩
  · rw [if_pos h121] at hk
    have hz : bAm (oTx 2000) (qpk B L p) = 0 := by
      simp only [oTx, bAm]
      rw [if_neg h121]
    rw [hz]
    refine ⟨rfl, by omega, by decide, fun h => absurd rfl h, fun _ => ?_⟩
    dsimp only
    rw [qup_o (by omega), h11, qup_s]
    exact ⟨by omega, fun h => absurd rfl h, fun _ => hk.2 (by dsimp only; omega) _ (qFr_up (qFr_up qFr.refl (by unfold qLm; omega)) (by unfold qLm; omega)) (by dsimp only; rw [qup_s])⟩
end MGU
