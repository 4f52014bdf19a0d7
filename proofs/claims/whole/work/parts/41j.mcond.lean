/-! B: the model reckons conditions -/
def qCm (xs : List Int32) (b0 b1 b2 : Bool) (m : Nat → Int → Int) (x2 : Int) (Q : bPo) : Prop := (bC xs 1 180 [vr 120] ((b0, b1, b2), m) (fun z11 μ12 => (μ12.1 = (b0, b1, b2)) ∧ (inR z11 ∧ ((z11 = 61 → (bC xs 126 188 [vr 120] ((b0, b1, b2), up μ12.2 120 10 ((μ12.2 120 10) + 1)) (fun z13 μ14 => (μ14.1 = (b0, b1, b2)) ∧ (inR z11 ∧ ((¬ z11 = 61 → (inR z11 ∧ ((¬ z11 = 60 → (inR x2 ∧ (inR z13 ∧ ((x2 ≤ z13 → (Q 0 ((b0, b1, b2), μ14.2))) ∧ (z13 < x2 → (Q 1 ((b0, b1, b2), μ14.2))))))) ∧ (z11 = 60 → (inR x2 ∧ (inR z13 ∧ ((z13 ≤ x2 → (Q 0 ((b0, b1, b2), μ14.2))) ∧ (x2 < z13 → (Q 1 ((b0, b1, b2), μ14.2)))))))))) ∧ (z11 = 61 → (inR x2 ∧ (inR z13 ∧ ((¬ x2 = z13 → (Q 0 ((b0, b1, b2), μ14.2))) ∧ (x2 = z13 → (Q 1 ((b0, b1, b2), μ14.2)))))))))))) ∧ (¬ z11 = 61 → (inR z11 ∧ ((z11 = 60 → (bC xs 126 188 [vr 120] ((b0, b1, b2), up μ12.2 120 10 ((μ12.2 120 10) + 1)) (fun z15 μ16 => (μ16.1 = (b0, b1, b2)) ∧ (inR z11 ∧ ((¬ z11 = 61 → (inR z11 ∧ ((¬ z11 = 60 → (inR x2 ∧ (inR z15 ∧ ((x2 ≤ z15 → (Q 0 ((b0, b1, b2), μ16.2))) ∧ (z15 < x2 → (Q 1 ((b0, b1, b2), μ16.2))))))) ∧ (z11 = 60 → (inR x2 ∧ (inR z15 ∧ ((z15 ≤ x2 → (Q 0 ((b0, b1, b2), μ16.2))) ∧ (x2 < z15 → (Q 1 ((b0, b1, b2), μ16.2)))))))))) ∧ (z11 = 61 → (inR x2 ∧ (inR z15 ∧ ((¬ x2 = z15 → (Q 0 ((b0, b1, b2), μ16.2))) ∧ (x2 = z15 → (Q 1 ((b0, b1, b2), μ16.2)))))))))))) ∧ (¬ z11 = 60 → (inR z11 ∧ ((¬ z11 = 62 → (inR (μ12.2 120 11) ∧ ((¬ μ12.2 120 11 = (-1) → (Q 0 ((b0, b1, b2), μ12.2))) ∧ (μ12.2 120 11 = (-1) → (Q 0 ((b0, b1, b2), up μ12.2 120 11 (μ12.2 120 10))))))) ∧ (z11 = 62 → (bC xs 126 188 [vr 120] ((b0, b1, b2), up μ12.2 120 10 ((μ12.2 120 10) + 1)) (fun z17 μ18 => (μ18.1 = (b0, b1, b2)) ∧ (inR z11 ∧ ((¬ z11 = 61 → (inR z11 ∧ ((¬ z11 = 60 → (inR x2 ∧ (inR z17 ∧ ((x2 ≤ z17 → (Q 0 ((b0, b1, b2), μ18.2))) ∧ (z17 < x2 → (Q 1 ((b0, b1, b2), μ18.2))))))) ∧ (z11 = 60 → (inR x2 ∧ (inR z17 ∧ ((z17 ≤ x2 → (Q 0 ((b0, b1, b2), μ18.2))) ∧ (x2 < z17 → (Q 1 ((b0, b1, b2), μ18.2)))))))))) ∧ (z11 = 61 → (inR x2 ∧ (inR z17 ∧ ((¬ x2 = z17 → (Q 0 ((b0, b1, b2), μ18.2))) ∧ (x2 = z17 → (Q 1 ((b0, b1, b2), μ18.2))))))))))))))))))))))
theorem qva_a {E : Int → Int} {G1 a b op : Int} {l1 : List Int} (hc : -18 ≤ op ∧ op ≤ -10) (hk : qokk op a b) (h1 : qSem E G1 l1 b) (g1 : G1 + 1 ≤ 64) : qva E (l1 ++ [op]) [a] = qop op a b :=
  qva_l (G := 64) (qSeL_a hc hk h1 g1) (by omega)
theorem qva_n {E : Int → Int} {G1 b : Int} {l1 : List Int} (hb : q01 b) (h1 : qSem E G1 l1 b) (g1 : G1 ≤ 64) : qva E (l1 ++ [-19]) [] = 1 - b :=
  qva_s (G := 64) (qSem_n hb h1 g1) (by omega)
section MCD
variable {xs : List Int32} {b0 b1 b2 : Bool} {B E : Int → Int} {g L : Int}
theorem d_cmpF {n : Nat} {dp p a : Int} {M : Nat → Int → Int} {Q : bPo} (ht : qTp L B) (hE : ∀ i, qbn (E i)) (d0 : 0 ≤ dp) (d6 : dp ≤ 6) (ha : qbn a) (hp : qMp M b2 g L B E dp p) (hne : ¬ (qE B L n 10 dp p).1 = -2) (hk : qKm b0 b1 b2 M (qE B L n 10 dp p) (qva E (qE B L n 10 dp p).2.1 [a]) q01 Q) : qCm xs b0 b1 b2 (up M 120 10 p) a Q := by
  cases n with
  | zero => exact absurd rfl hne
  | succ n =>
    obtain ⟨hx, h11, h12, hl, p0, p1⟩ := hp
    have hb := ht.1
    have k1 := qsk_bd (B := B) p p1
    have kc := qpk_c ht p0 p1
    have hv := qcmp_v (qpk B L p)
    change ¬ (if qcmp (qpk B L p) = -1 then (qsk B L p, [], 0) else qEa (qE B L n 3 dp (qsk B L p + 1)) (qcmp (qpk B L p))).1 = -2 at hne
    change qKm b0 b1 b2 M (if qcmp (qpk B L p) = -1 then (qsk B L p, [], 0) else qEa (qE B L n 3 dp (qsk B L p + 1)) (qcmp (qpk B L p))) (qva E (if qcmp (qpk B L p) = -1 then (qsk B L p, [], 0) else qEa (qE B L n 3 dp (qsk B L p + 1)) (qcmp (qpk B L p))).2.1 [a]) q01 Q at hk
    have sm : ∀ (Q' : bPo), ¬ qcmp (qpk B L p) = -1 → (∀ z m', qbn z → Q (qop (qcmp (qpk B L p)) a z) ((b0, b1, b2), m') → Q' z ((b0, b1, b2), m')) → bC xs 126 188 [vr 120] ((b0, b1, b2), up (up M 120 10 (qsk B L p)) 120 10 ((up M 120 10 (qsk B L p)) 120 10 + 1)) Q' := by
      intro Q' hc hq
      rw [if_neg hc] at hk hne
      rw [qup_s, qup_up]
      have hne1 : ¬ (qE B L n 3 dp (qsk B L p + 1)).1 = -2 := by
        intro h
        unfold qEa at hne
        rw [if_neg (by omega)] at hne
        exact hne h
      unfold qEa at hk
      refine d_sum ht hE d0 d6 ⟨hx, h11, h12, hl, by omega, by omega⟩ hne1 ⟨fun ok => ?_, fun nok w m' hw fm e11 => ?_⟩
      · obtain ⟨b, hb1, sb⟩ : ∃ v, qbn v ∧ qSem E (qG 3 dp) (qE B L n 3 dp (qsk B L p + 1)).2.1 v := qE_sem ht hE n 3 dp _ d6 (by omega) (by omega) ok
        have eb := qva_s sb (by have := qG_le (tag := 3) d0; omega)
        rw [if_pos ok] at hk
        have := hk.1 rfl
        dsimp only at this
        rw [qva_a (by omega) (by unfold qokk; unfold qbn at ha hb1; omega) sb (qG_le d0)] at this
        rw [eb]
        exact hq b _ hb1 this
      · rw [if_neg nok] at hk
        exact hq w m' hw (hk.2 nok _ m' (qop_c (by omega)) fm e11)
    have hab := ha
    unfold qbn at hab
    unfold qCm
    refine d_look ht hx p0 p1 ⟨rfl, by omega, fun h61 => sm _ (by omega) (fun z m' hz hq => ?_), fun h61 => ⟨by omega, fun h60 => sm _ (by omega) (fun z m' hz hq => ?_), fun h60 => ⟨by omega, fun h62 => ?_, fun h62 => sm _ (by omega) (fun z m' hz hq => ?_)⟩⟩⟩
    · unfold qbn at hz
      rw [show qcmp (qpk B L p) = -14 by omega, show qop (-14) a z = if a = z then 1 else 0 from rfl] at hq
      refine ⟨rfl, by omega, fun h => absurd h61 h, fun _ => ⟨by omega, by omega, fun h => ?_, fun h => ?_⟩⟩
      · rw [if_neg h] at hq; exact hq
      · rw [if_pos h] at hq; exact hq
    · unfold qbn at hz
      rw [show qcmp (qpk B L p) = -15 by omega, show qop (-15) a z = if a < z then 1 else 0 from rfl] at hq
      refine ⟨rfl, by omega, fun _ => ⟨by omega, fun h => absurd h60 h, fun _ => ⟨by omega, by omega, fun h => ?_, fun h => ?_⟩⟩, fun h => absurd h h61⟩
      · rw [if_neg (by omega)] at hq; exact hq
      · rw [if_pos h] at hq; exact hq
    · rw [if_pos (by omega)] at hk
      dsimp only
      rw [qup_o (by omega), h11, qup_s]
      exact ⟨by omega, fun h => absurd rfl h, fun _ => hk.2 (by dsimp only; omega) 0 _ (Or.inl rfl) (qFr_up (qFr_up qFr.refl (by unfold qLm; omega)) (by unfold qLm; omega)) (by dsimp only; rw [qup_s])⟩
    · unfold qbn at hz
      rw [show qcmp (qpk B L p) = -16 by omega, show qop (-16) a z = if z < a then 1 else 0 from rfl] at hq
      refine ⟨rfl, by omega, fun _ => ⟨by omega, fun _ => ⟨by omega, by omega, fun h => ?_, fun h => ?_⟩, fun h => absurd h h60⟩, fun h => absurd h h61⟩
      · rw [if_neg (by omega)] at hq; exact hq
      · rw [if_pos h] at hq; exact hq
theorem d_cmp1 {n : Nat} {dp p a : Int} {M : Nat → Int → Int} {Q : bPo} (ht : qTp L B) (hE : ∀ i, qbn (E i)) (d0 : 0 ≤ dp) (d6 : dp ≤ 6) (ha : qbn a) (hp : qMp M b2 g L B E dp p) (hne : ¬ (qE B L n 10 dp p).1 = -2) (hk : qKm b0 b1 b2 M (qE B L n 10 dp p) (qva E (qE B L n 10 dp p).2.1 [a]) q01 Q) : bC xs 127 190 [vr 120, vi 1, vi a] ((b0, b1, b2), up M 120 10 p) Q := by
  refine qC rfl fun d hd => r_X12_compares_0 hd ?_
  have e11 : (up M 120 10 p) 120 11 = -1 := by rw [qup_o (by omega)]; exact hp.2.1
  rw [e11]
  exact ⟨by omega, fun h => by omega, fun _ => ⟨by omega, fun _ => d_cmpF ht hE d0 d6 ha hp hne hk, fun h => absurd rfl h⟩⟩
theorem d_cmp0 {n : Nat} {dp p : Int} {M : Nat → Int → Int} {Q : bPo} (ht : qTp L B) (hE : ∀ i, qbn (E i)) (d0 : 0 ≤ dp) (d6 : dp ≤ 6) (hp : qMp M b2 g L B E dp p) (hne : ¬ (qEs (qE B L n 3 dp p) (qE B L n 10 dp)).1 = -2) (hk : qKm b0 b1 b2 M (qEs (qE B L n 3 dp p) (qE B L n 10 dp)) (qva E (qEs (qE B L n 3 dp p) (qE B L n 10 dp)).2.1 []) q01 Q) : bC xs 127 190 [vr 120, vi 0, vi 0] ((b0, b1, b2), up M 120 10 p) Q := by
  refine qC rfl fun d hd => r_X12_compares_0 hd ?_
  have hp0 := hp
  obtain ⟨hx, h11, h12, hl, p0, p1⟩ := hp
  unfold qEs at hk hne
  have hne1 : ¬ (qE B L n 3 dp p).1 = -2 := by
    intro h
    rw [if_neg (by omega)] at hne
    exact hne h
  have hrl := qr_L ht p0 p1 hne1
  refine ⟨by omega, fun _ => d_sum ht hE d0 d6 hp0 hne1 ⟨fun ok => ?_, fun nok w m' hw fm e11 => ?_⟩, fun h => absurd rfl h⟩
  · obtain ⟨a, ha, sa⟩ : ∃ v, qbn v ∧ qSem E (qG 3 dp) (qE B L n 3 dp p).2.1 v := qE_sem ht hE n 3 dp p d6 p0 p1 ok
    have ea := qva_s sa (by have := qG_le (tag := 3) d0; omega)
    have hrp := qr_p ht p0 p1 ok
    rw [if_pos ok] at hk hne
    have hne2 : ¬ (qE B L n 10 dp (qE B L n 3 dp p).2.2).1 = -2 := by
      intro h
      rw [if_neg (by omega)] at hne
      exact hne h
    rw [ea]
    have e11 : (up M 120 10 (qE B L n 3 dp p).2.2) 120 11 = -1 := by rw [qup_o (by omega)]; exact h11
    dsimp only
    rw [e11]
    refine ⟨rfl, by omega, fun _ => d_cmpF (n := n) (dp := dp) ht hE d0 d6 ha ⟨hx, h11, h12, hl, by omega, hrp.2⟩ hne2 ⟨fun ok2 => ?_, fun nok2 => ?_⟩, fun h => absurd rfl h⟩
    · rw [if_pos ok2] at hk
      obtain ⟨v, hv, sv⟩ : ∃ v, q01 v ∧ qSeL E (qG 10 dp) (qE B L n 10 dp (qE B L n 3 dp p).2.2).2.1 a v := qE_sem ht hE n 10 dp _ d6 (by omega) hrp.2 ok2 _ ha
      have := hk.1 rfl
      dsimp only at this
      rw [qva_sq sa sv (by have := qG_le (tag := 3) d0; omega) (by have := qG_le (tag := 10) d0; omega), ea] at this
      exact this
    · rw [if_neg nok2] at hk
      exact hk.2 nok2
  · rw [if_neg nok] at hk
    dsimp only
    rw [e11]
    exact ⟨rfl, by omega, fun h => absurd h nok, fun _ => hk.2 nok 0 m' (Or.inl rfl) fm e11⟩
end MCD
