/-! B: the model goes through a law -/
def qTl (xs : List Int32) (b0 b1 b2 : Bool) (z1 : Int) (m : Nat → Int → Int) (x2 : Int) (Q : bPo) : Prop := (bC xs 2 183 [vr 120, vi 63] ((b0, b1, b2), m) (fun z9 μ10 => (μ10.1 = (b0, b1, b2)) ∧ (inR z9 ∧ ((¬ z9 = 0 → (bC xs 126 188 [vr 120] ((b0, b1, b2), μ10.2) (fun z11 μ12 => (μ12.1 = (b0, b1, b2)) ∧ (inR (μ12.2 120 11) ∧ ((¬ μ12.2 120 11 = (-1) → (Q 0 ((b0, b1, b2), μ12.2))) ∧ (μ12.2 120 11 = (-1) → (inR (μ12.2 120 17) ∧ ((¬ μ12.2 120 17 = 0 → (Q 0 ((b0, b1, b2), μ12.2))) ∧ (μ12.2 120 17 = 0 → (inR z1 ∧ (inR (μ12.2 120 13) ∧ ((¬ z1 = μ12.2 120 13 → (Q 0 ((b0, b1, b2), μ12.2))) ∧ (z1 = μ12.2 120 13 → (inR x2 ∧ ((¬ x2 = 0 → (Q 0 ((b0, b1, b2), up (up μ12.2 120 17 1) 120 14 z11))) ∧ (x2 = 0 → (Q 0 ((b0, b1, b2), μ12.2)))))))))))))))))) ∧ (z9 = 0 → (Q 0 ((b0, b1, b2), μ10.2)))))))
def qzt (E : Int → Int) (z : qCz) : Int := match z.1 with | none => 1 | some c => qva E c []
def qfd (E : Int → Int) (z : qCz) (M : Nat → Int → Int) : Nat → Int → Int := if M 120 17 = 0 ∧ ¬ qzt E z = 0 then up (up M 120 17 1) 120 14 (qva E z.2 []) else M
def qKc (b0 b1 b2 : Bool) (E : Int → Int) (M : Nat → Int → Int) (r : Int × qCz × Int) (Q : bPo) : Prop := (r.1 = -1 → Q 0 ((b0, b1, b2), up (qfd E r.2.1 M) 120 10 r.2.2)) ∧ (¬ r.1 = -1 → ∀ m', qFr qLm M m' → m' 120 11 = r.1 → Q 0 ((b0, b1, b2), m'))
theorem qva_ll {E : Int → Int} {G1 G2 a b v : Int} {l1 l2 : List Int} (h1 : qSeL E G1 l1 a b) (h2 : qSeL E G2 l2 b v) (g1 : G1 ≤ 64) (g2 : G2 ≤ 64) : qva E (l1 ++ l2) [a] = qva E l2 [qva E l1 [a]] := by
  rw [qva_l h1 g1, qva_l h2 g2]
  exact qva_l (G := 64) (qSeL_s h1 h2 g1 g2) (by omega)
section MGT
variable {xs : List Int32} {b0 b1 b2 : Bool} {B E : Int → Int} {g L : Int}
theorem d_cond0 {n : Nat} {p : Int} {M : Nat → Int → Int} {Q : bPo} (ht : qTp L B) (hE : ∀ i, qbn (E i)) (hp : qMp M b2 g L B E 0 p) (hne : ¬ (qE B L n 8 0 p).1 = -2) (hk : qKm b0 b1 b2 M (qE B L n 8 0 p) (qva E (qE B L n 8 0 p).2.1 []) q01 Q) : bC xs 247 193 [vr 120, vi 0, vi 0] ((b0, b1, b2), up M 120 10 p) Q :=
  qC rfl fun d hd => (d_conds ht hE n).2.2.2.1 d 0 p M Q (by omega) (by omega) (by omega) hp hne hk
theorem d_cond1 {n : Nat} {p a : Int} {M : Nat → Int → Int} {Q : bPo} (ht : qTp L B) (hE : ∀ i, qbn (E i)) (ha : qbn a) (hp : qMp M b2 g L B E 0 p) (hne : ¬ (qCB B L n p).1 = -2) (hk : qKm b0 b1 b2 M (qCB B L n p) (qva E (qCB B L n p).2.1 [a]) q01 Q) : bC xs 247 193 [vr 120, vi 1, vi a] ((b0, b1, b2), up M 120 10 p) Q := by
  refine qC rfl fun dJ hd => r_X12_condition_0 (by omega) (r_X12_part_0 (by omega) ⟨by omega, fun h => by omega, fun _ => ?_⟩)
  have hp0 := hp
  obtain ⟨hx, h11, h12, hl, p0, p1⟩ := hp
  unfold qCB qEs at hk hne
  have g7 := qG_le (tag := 7) (d := 0) (by omega)
  have g9 := qG_le (tag := 9) (d := 0) (by omega)
  have g10 := qG_le (tag := 10) (d := 0) (by omega)
  by_cases ok1 : (qE B L n 10 0 p).1 = -1
  · have hrp1 := qr_p ht p0 p1 ok1
    obtain ⟨c1, hc1, s1⟩ : ∃ v, q01 v ∧ qSeL E (qG 10 0) (qE B L n 10 0 p).2.1 a v := qE_sem ht hE n 10 0 p (by omega) p0 p1 ok1 a ha
    have e1 := qva_l s1 (by omega)
    rw [if_pos ok1] at hk hne
    by_cases ok2 : (qE B L n 7 0 (qE B L n 10 0 p).2.2).1 = -1
    · have hrp2 := qr_p ht (by omega) hrp1.2 ok2
      obtain ⟨c2, hc2, s2⟩ : ∃ v, q01 v ∧ qSeL E (qG 7 0) (qE B L n 7 0 (qE B L n 10 0 p).2.2).2.1 c1 v := qE_sem ht hE n 7 0 _ (by omega) (by omega) hrp1.2 ok2 c1 hc1
      have e2 := qva_l s2 (by omega)
      rw [if_pos ok2, if_pos rfl] at hk hne
      dsimp only at hk hne
      have hne3 : ¬ (qE B L n 9 0 (qE B L n 7 0 (qE B L n 10 0 p).2.2).2.2).1 = -2 := by
        intro h
        rw [if_neg (by omega)] at hne
        exact hne h
      refine d_cmp1 (n := n) (dp := 0) ht hE (by omega) (by omega) ha hp0 (by omega) ⟨fun _ => ?_, fun h => absurd ok1 h⟩
      rw [e1]
      refine ⟨rfl, (d_conds ht hE n).2.2.1 (dJ - 1) 0 _ c1 M _ (by omega) (by omega) (by omega) hc1 ⟨hx, h11, h12, hl, by omega, hrp1.2⟩ (by omega) ⟨fun _ => ?_, fun h => absurd ok2 h⟩⟩
      rw [e2]
      refine ⟨rfl, (d_conds ht hE n).2.2.2.2 dJ 0 _ c2 M _ (by omega) (by omega) (by omega) hc2 ⟨hx, h11, h12, hl, by omega, hrp2.2⟩ hne3 ⟨fun ok3 => ?_, fun nok3 => ?_⟩⟩
      · obtain ⟨c3, hc3, s3⟩ : ∃ v, q01 v ∧ qSeL E (qG 9 0) (qE B L n 9 0 (qE B L n 7 0 (qE B L n 10 0 p).2.2).2.2).2.1 c2 v := qE_sem ht hE n 9 0 _ (by omega) (by omega) hrp2.2 ok3 c2 hc2
        rw [if_pos ok3] at hk
        have := hk.1 rfl
        dsimp only at this
        rw [qva_ll (G1 := 64) (qSeL_s s1 s2 (by omega) (by omega)) s3 (by omega) (by omega), qva_ll s1 s2 (by omega) (by omega), e1, e2] at this
        exact this
      · rw [if_neg nok3] at hk
        exact hk.2 nok3
    · rw [if_neg ok2, if_neg ok2] at hk hne
      have hrl := qr_L ht (by omega) hrp1.2 hne
      refine d_cmp1 (n := n) (dp := 0) ht hE (by omega) (by omega) ha hp0 (by omega) ⟨fun _ => ?_, fun h => absurd ok1 h⟩
      rw [e1]
      refine ⟨rfl, (d_conds ht hE n).2.2.1 (dJ - 1) 0 _ c1 M _ (by omega) (by omega) (by omega) hc1 ⟨hx, h11, h12, hl, by omega, hrp1.2⟩ hne ⟨fun h => absurd h ok2, fun _ w m' hw fm e11 => ⟨rfl, r_X12_condition_7 (by omega) ?_⟩⟩⟩
      dsimp only
      rw [e11]
      exact ⟨by omega, fun _ => ⟨hw, hk.2 ok2 w m' hw fm e11⟩, fun h => absurd h ok2⟩
  · rw [if_neg ok1, if_neg ok1] at hk hne
    have hrl := qr_L ht p0 p1 hne
    refine d_cmp1 (n := n) (dp := 0) ht hE (by omega) (by omega) ha hp0 hne ⟨fun h => absurd h ok1, fun _ w m' hw fm e11 => ⟨rfl, r_X12_part_18 (by omega) ?_⟩⟩
    dsimp only
    rw [e11]
    refine ⟨by omega, fun _ => ⟨hw, rfl, r_X12_condition_7 (by omega) ?_⟩, fun h => absurd h ok1⟩
    try dsimp only
    rw [e11]
    exact ⟨by omega, fun _ => ⟨hw, hk.2 ok1 w m' hw fm e11⟩, fun h => absurd h ok1⟩
/-- behind a condition -/
theorem d_tail {n : Nat} {rc : qLr} {M : Nat → Int → Int} {Q : bPo} (ht : qTp L B) (hE : ∀ i, qbn (E i)) (hn : 2440 ≤ n) (hp : qMp M b2 g L B E 0 rc.2.2) (h13 : M 120 13 = 121) (h17 : inR (M 120 17)) (ok : rc.1 = -1) (hc : q01 (qva E rc.2.1 [])) (hk : qKc b0 b1 b2 E M (qCq B L n rc) Q) : qTl xs b0 b1 b2 121 (up M 120 10 rc.2.2) (qva E rc.2.1 []) Q := by
  obtain ⟨hx, h11, h12, hl, p0, p1⟩ := hp
  have hb := ht.1
  have k1 := qsk_bd (B := B) rc.2.2 p1
  have kc := qpk_c ht p0 p1
  unfold qCq at hk
  rw [if_neg (by omega)] at hk
  unfold qTl
  refine d_takesC ht hx h11 (by omega) p0 p1 (fun h63 => ?_) (fun h63 => ?_)
  · rw [if_neg (by omega)] at hk
    have hf := qE_f ht n 3 0 (qsk B L rc.2.2 + 1) (by omega) (by omega) (by omega) (by have : qrk 3 = 3 := rfl; omega)
    have hrl := qr_L ht (by omega) (by omega) hf
    refine ⟨rfl, by omega, fun _ => d_sum ht hE (dp := 0) (by omega) (by omega) ⟨hx, h11, h12, hl, by omega, by omega⟩ hf ⟨fun ok2 => ?_, fun nok w m' hw fm e11 => ?_⟩, fun h => by omega⟩
    · rw [if_pos ok2] at hk
      have := hk.1 rfl
      dsimp only at this
      generalize qE B L n 3 0 (qsk B L rc.2.2 + 1) = r2 at *
      unfold qfd at this
      rw [show qzt E (some rc.2.1, r2.2.1) = qva E rc.2.1 [] from rfl] at this
      simp (disch := omega) only [qup_o, h11, h13]
      unfold q01 at hc
      refine ⟨True.intro, by omega, fun h => absurd trivial h, fun _ => ⟨h17, fun h => ?_, fun h => ⟨by omega, by omega, fun h => absurd trivial h, fun _ => ⟨by omega, fun hz => ?_, fun hz => ?_⟩⟩⟩⟩
      · rw [if_neg (fun h2 => h h2.1)] at this; exact this
      · rw [if_pos ⟨h, hz⟩] at this
        rw [qup_e (by omega), qup_e (by omega)]
        exact this
      · rw [if_neg (fun h2 => h2.2 hz)] at this; exact this
    · rw [if_neg nok] at hk
      dsimp only
      rw [e11]
      exact ⟨rfl, by omega, fun _ => hk.2 nok m' fm e11, fun h => absurd h nok⟩
  · rw [if_pos h63] at hk
    exact ⟨rfl, by omega, fun h => absurd rfl h, fun _ => hk.2 (by dsimp only; omega) _ (qFr_up (qFr_up qFr.refl (by unfold qLm; omega)) (by unfold qLm; omega)) (by dsimp only; rw [qup_s])⟩
theorem d_tailF {m' : Nat → Int → Int} {z1 w : Int} {Q : bPo} (h11 : ¬ m' 120 11 = -1) (hr : inR (m' 120 11)) (hQ : Q 0 ((b0, b1, b2), m')) : qTl xs b0 b1 b2 z1 m' w Q := by
  unfold qTl
  exact d_takesF h11 hr ⟨rfl, by omega, fun h => absurd rfl h, fun _ => hQ⟩
end MGT
