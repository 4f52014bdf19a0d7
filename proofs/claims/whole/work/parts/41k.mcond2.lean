/-! B: the model reckons conditions, on -/
section MCE
variable {xs : List Int32} {b0 b1 b2 : Bool} {B E : Int → Int} {g L : Int}
theorem d_partL (ht : qTp L B) (hE : ∀ i, qbn (E i)) (n : Nat) (ihA : qD1 b0 b1 b2 g L B E n 5 130 q01 (fun dJ μ Q => bGo xs dJ aM_X12_unit 0 [vr 120, vn, vn] [] μ Q)) (ihL : qD2 b0 b1 b2 g L B E n 7 131 q01 q01 (fun dJ a μ Q => bGo xs dJ aM_X12_part 18 [vr 120, vn, vn, vi a, vn] [] μ Q)) : qD2 b0 b1 b2 g L B E (n + 1) 7 131 q01 q01 (fun dJ a μ Q => bGo xs dJ aM_X12_part 18 [vr 120, vn, vn, vi a, vn] [] μ Q) := by
  intro dJ dp p a M Q hJ d0 d6 ha hp hne hk
  obtain ⟨hx, h11, h12, hl, p0, p1⟩ := hp
  have hb := ht.1
  have k1 := qsk_bd (B := B) p p1
  have kc := qpk_c ht p0 p1
  have hab := ha
  unfold q01 at hab
  change ¬ (if qpk B L p = 38 then qEo (qE B L n 5 dp (qsk B L p + 1)) (-17) (qE B L n 7 dp) else (-1, [], qsk B L p)).1 = -2 at hne
  change qKm b0 b1 b2 M (if qpk B L p = 38 then qEo (qE B L n 5 dp (qsk B L p + 1)) (-17) (qE B L n 7 dp) else (-1, [], qsk B L p)) (qva E (if qpk B L p = 38 then qEo (qE B L n 5 dp (qsk B L p + 1)) (-17) (qE B L n 7 dp) else (-1, [], qsk B L p)).2.1 [a]) q01 Q at hk
  have nxt : qpk B L p = 38 → bGo xs (dJ - 1) aM_X12_unit 0 [vr 120, vn, vn] [] ((b0, b1, b2), up M 120 10 (qsk B L p + 1)) (fun z μ => μ.1 = (b0, b1, b2) ∧ q01 z ∧ bGo xs dJ aM_X12_part 18 [vr 120, vn, vn, vi (qop (-17) a z), vn] [] ((b0, b1, b2), μ.2) Q) := by
    intro hsg
    rw [if_pos hsg] at hk hne
    have hne1 : ¬ (qE B L n 5 dp (qsk B L p + 1)).1 = -2 := by
      intro h
      unfold qEo at hne
      rw [if_neg (by omega)] at hne
      exact hne h
    have hrl := qr_L ht (by omega) (by omega) hne1
    refine ihA (dJ - 1) dp (qsk B L p + 1) M _ (by omega) d0 d6 ⟨hx, h11, h12, hl, by omega, by omega⟩ hne1 ⟨?_, ?_⟩
    · intro ok
      obtain ⟨b, hb1, sb⟩ : ∃ v, q01 v ∧ qSem E (qG 5 dp) (qE B L n 5 dp (qsk B L p + 1)).2.1 v := qE_sem ht hE n 5 dp _ d6 (by omega) (by omega) ok
      have hrp := qr_p ht (by omega) (by omega) ok
      have eb := qva_s sb (by have := qG_le (tag := 5) d0; omega)
      unfold qEo at hk hne
      rw [if_pos ok] at hk hne
      have hne2 : ¬ (qE B L n 7 dp (qE B L n 5 dp (qsk B L p + 1)).2.2).1 = -2 := by
        intro h
        rw [if_neg (by omega)] at hne
        exact hne h
      have hq : q01 (qop (-17) a b) := qop_l (by omega) ha hb1
      rw [eb]
      refine ⟨rfl, hb1, ?_⟩
      refine ihL dJ dp _ (qop (-17) a b) M Q hJ d0 d6 hq ⟨hx, h11, h12, hl, by omega, hrp.2⟩ hne2 ⟨fun ok2 => ?_, fun nok2 => ?_⟩
      · rw [if_pos ok2] at hk
        obtain ⟨v, hv, sv⟩ : ∃ v, q01 v ∧ qSeL E (qG 7 dp) (qE B L n 7 dp (qE B L n 5 dp (qsk B L p + 1)).2.2).2.1 (qop (-17) a b) v := qE_sem ht hE n 7 dp _ d6 (by omega) hrp.2 ok2 _ hq
        have := hk.1 rfl
        dsimp only at this
        rw [qva_so (by omega) (by unfold qokk; unfold q01 at hb1; omega) sb sv (qG_le d0) (by have := qG_le (tag := 7) d0; omega), eb] at this
        exact this
      · rw [if_neg nok2] at hk
        exact hk.2 nok2
    · intro nok w m' hw fm e11
      unfold qEo at hk
      rw [if_neg nok] at hk
      refine ⟨rfl, hw, r_X12_part_18 (by omega) ?_⟩
      dsimp only
      rw [e11]
      have hq : q01 (qop (-17) a w) := qop_l (by omega) ha hw
      exact ⟨by omega, fun _ => ⟨hq, hk.2 nok _ m' hq fm e11⟩, fun h => absurd h nok⟩
  refine r_X12_part_18 (by omega) ?_
  have e11 : (up M 120 10 p) 120 11 = -1 := by rw [qup_o (by omega)]; exact h11
  rw [e11]
  refine ⟨by omega, fun h => absurd rfl h, fun _ => d_look ht hx p0 p1 ⟨rfl, by omega, fun hc => ?_, fun hc => ?_⟩⟩
  · rw [if_neg hc] at hk
    exact ⟨ha, hk.1 rfl⟩
  · dsimp only
    rw [qup_s, qup_up]
    refine bGo_imp (fun z μ h => ?_) (nxt hc)
    · obtain ⟨h1, h2, h3⟩ := h
      refine ⟨h1, by unfold q01 at ha; omega, fun hz0 => ?_, fun hz0 => ⟨by unfold q01 at h2; omega, fun hz => ?_, fun hz => ?_⟩⟩
      · rw [qop_and ha h2, if_pos hz0] at h3; exact h3
      · rw [qop_and ha h2, if_neg hz0, if_pos hz] at h3; exact h3
      · rw [qop_and ha h2, if_neg hz0, if_neg hz] at h3; exact h3
theorem d_condL (ht : qTp L B) (hE : ∀ i, qbn (E i)) (n : Nat) (ihA : qD1 b0 b1 b2 g L B E n 6 131 q01 (fun dJ μ Q => bGo xs dJ aM_X12_part 0 [vr 120, vi 0, vi 0, vn, vn] [] μ Q)) (ihL : qD2 b0 b1 b2 g L B E n 9 132 q01 q01 (fun dJ a μ Q => bGo xs dJ aM_X12_condition 7 [vr 120, vn, vn, vi a, vn] [] μ Q)) : qD2 b0 b1 b2 g L B E (n + 1) 9 132 q01 q01 (fun dJ a μ Q => bGo xs dJ aM_X12_condition 7 [vr 120, vn, vn, vi a, vn] [] μ Q) := by
  intro dJ dp p a M Q hJ d0 d6 ha hp hne hk
  obtain ⟨hx, h11, h12, hl, p0, p1⟩ := hp
  have hb := ht.1
  have k1 := qsk_bd (B := B) p p1
  have kc := qpk_c ht p0 p1
  have hab := ha
  unfold q01 at hab
  change ¬ (if qpk B L p = 124 then qEo (qE B L n 6 dp (qsk B L p + 1)) (-18) (qE B L n 9 dp) else (-1, [], qsk B L p)).1 = -2 at hne
  change qKm b0 b1 b2 M (if qpk B L p = 124 then qEo (qE B L n 6 dp (qsk B L p + 1)) (-18) (qE B L n 9 dp) else (-1, [], qsk B L p)) (qva E (if qpk B L p = 124 then qEo (qE B L n 6 dp (qsk B L p + 1)) (-18) (qE B L n 9 dp) else (-1, [], qsk B L p)).2.1 [a]) q01 Q at hk
  have nxt : qpk B L p = 124 → bGo xs (dJ - 1) aM_X12_part 0 [vr 120, vi 0, vi 0, vn, vn] [] ((b0, b1, b2), up M 120 10 (qsk B L p + 1)) (fun z μ => μ.1 = (b0, b1, b2) ∧ q01 z ∧ bGo xs dJ aM_X12_condition 7 [vr 120, vn, vn, vi (qop (-18) a z), vn] [] ((b0, b1, b2), μ.2) Q) := by
    intro hsg
    rw [if_pos hsg] at hk hne
    have hne1 : ¬ (qE B L n 6 dp (qsk B L p + 1)).1 = -2 := by
      intro h
      unfold qEo at hne
      rw [if_neg (by omega)] at hne
      exact hne h
    have hrl := qr_L ht (by omega) (by omega) hne1
    refine ihA (dJ - 1) dp (qsk B L p + 1) M _ (by omega) d0 d6 ⟨hx, h11, h12, hl, by omega, by omega⟩ hne1 ⟨?_, ?_⟩
    · intro ok
      obtain ⟨b, hb1, sb⟩ : ∃ v, q01 v ∧ qSem E (qG 6 dp) (qE B L n 6 dp (qsk B L p + 1)).2.1 v := qE_sem ht hE n 6 dp _ d6 (by omega) (by omega) ok
      have hrp := qr_p ht (by omega) (by omega) ok
      have eb := qva_s sb (by have := qG_le (tag := 6) d0; omega)
      unfold qEo at hk hne
      rw [if_pos ok] at hk hne
      have hne2 : ¬ (qE B L n 9 dp (qE B L n 6 dp (qsk B L p + 1)).2.2).1 = -2 := by
        intro h
        rw [if_neg (by omega)] at hne
        exact hne h
      have hq : q01 (qop (-18) a b) := qop_l (by omega) ha hb1
      rw [eb]
      refine ⟨rfl, hb1, ?_⟩
      refine ihL dJ dp _ (qop (-18) a b) M Q hJ d0 d6 hq ⟨hx, h11, h12, hl, by omega, hrp.2⟩ hne2 ⟨fun ok2 => ?_, fun nok2 => ?_⟩
      · rw [if_pos ok2] at hk
        obtain ⟨v, hv, sv⟩ : ∃ v, q01 v ∧ qSeL E (qG 9 dp) (qE B L n 9 dp (qE B L n 6 dp (qsk B L p + 1)).2.2).2.1 (qop (-18) a b) v := qE_sem ht hE n 9 dp _ d6 (by omega) hrp.2 ok2 _ hq
        have := hk.1 rfl
        dsimp only at this
        rw [qva_so (by omega) (by unfold qokk; unfold q01 at hb1; omega) sb sv (qG_le d0) (by have := qG_le (tag := 9) d0; omega), eb] at this
        exact this
      · rw [if_neg nok2] at hk
        exact hk.2 nok2
    · intro nok w m' hw fm e11
      unfold qEo at hk
      rw [if_neg nok] at hk
      refine ⟨rfl, hw, r_X12_condition_7 (by omega) ?_⟩
      dsimp only
      rw [e11]
      have hq : q01 (qop (-18) a w) := qop_l (by omega) ha hw
      exact ⟨by omega, fun _ => ⟨hq, hk.2 nok _ m' hq fm e11⟩, fun h => absurd h nok⟩
  refine r_X12_condition_7 (by omega) ?_
  have e11 : (up M 120 10 p) 120 11 = -1 := by rw [qup_o (by omega)]; exact h11
  rw [e11]
  refine ⟨by omega, fun h => absurd rfl h, fun _ => d_look ht hx p0 p1 ⟨rfl, by omega, fun hc => ?_, fun hc => ?_⟩⟩
  · rw [if_neg hc] at hk
    exact ⟨ha, hk.1 rfl⟩
  · dsimp only
    rw [qup_s, qup_up]
    refine bGo_imp (fun z μ h => ?_) (nxt hc)
    · obtain ⟨h1, h2, h3⟩ := h
      refine ⟨h1, by unfold q01 at ha; omega, fun hz0 => ?_, fun hz0 => ⟨by unfold q01 at h2; omega, fun hz => ?_, fun hz => ?_⟩⟩
      · rw [qop_or ha h2, if_neg hz0] at h3; exact h3
      · rw [qop_or ha h2, if_pos hz0, if_pos hz] at h3; exact h3
      · rw [qop_or ha h2, if_pos hz0, if_neg hz] at h3; exact h3
theorem d_unit (ht : qTp L B) (hE : ∀ i, qbn (E i)) (n : Nat) (ih5 : qD1 b0 b1 b2 g L B E n 5 130 q01 (fun dJ μ Q => bGo xs dJ aM_X12_unit 0 [vr 120, vn, vn] [] μ Q)) (ih8 : qD1 b0 b1 b2 g L B E n 8 132 q01 (fun dJ μ Q => bGo xs dJ aM_X12_condition 0 [vr 120, vi 0, vi 0, vn, vn] [] μ Q)) : qD1 b0 b1 b2 g L B E (n + 1) 5 130 q01 (fun dJ μ Q => bGo xs dJ aM_X12_unit 0 [vr 120, vn, vn] [] μ Q) := by
  intro dJ dp p M Q hJ d0 d6 hp hne hk
  have hp0 := hp
  obtain ⟨hx, h11, h12, hl, p0, p1⟩ := hp
  have hb := ht.1
  have k1 := qsk_bd (B := B) p p1
  have kc := qpk_c ht p0 p1
  change ¬ (qEun B L (qE B L n) dp p).1 = -2 at hne
  change qKm b0 b1 b2 M (qEun B L (qE B L n) dp p) (qva E (qEun B L (qE B L n) dp p).2.1 []) q01 Q at hk
  unfold qEun at hk hne
  have z0 : q01 0 := Or.inl rfl
  refine r_X12_unit_0 (by omega) (d_look ht hx p0 p1 ⟨rfl, by omega, fun h33 => ⟨by omega, fun h40 => ?_, fun h40 => ?_⟩, fun h33 => ?_⟩)
  · rw [if_neg h33, if_neg h40] at hk hne
    have es : qEs (qE B L n 3 dp (qsk B L p)) (qE B L n 10 dp) = qEs (qE B L n 3 dp p) (qE B L n 10 dp) := by rw [qE_sk p1]
    refine d_cmp0 (n := n) (dp := dp) ht hE d0 d6 ⟨hx, h11, h12, hl, by omega, by omega⟩ (by rw [es]; exact hne) ?_
    rw [es]
    obtain ⟨v, hv⟩ : ∃ v, v = qva E (qEs (qE B L n 3 dp p) (qE B L n 10 dp)).2.1 [] := ⟨_, rfl⟩
    have hv1 : (qEs (qE B L n 3 dp p) (qE B L n 10 dp)).1 = -1 → q01 v := by
      intro ok
      have h5 : (qE B L (n + 1) 5 dp p) = qEs (qE B L n 3 dp p) (qE B L n 10 dp) := by
        show qEun B L (qE B L n) dp p = _
        unfold qEun
        rw [if_neg h33, if_neg h40]
      obtain ⟨w, hw, sw⟩ : ∃ v, q01 v ∧ qSem E (qG 5 dp) (qE B L (n + 1) 5 dp p).2.1 v := qE_sem ht hE (n + 1) 5 dp p d6 p0 p1 (by rw [h5]; exact ok)
      have := qva_s sw (by have := qG_le (tag := 5) d0; omega)
      rw [h5] at this
      rw [hv, this]
      exact hw
    rw [← hv] at hk ⊢
    exact ⟨fun ok => ⟨rfl, hv1 ok, hk.1 ok⟩, fun nok w m' hw fm e11 => ⟨rfl, hw, hk.2 nok w m' hw fm e11⟩⟩
  · rw [if_neg h33, if_pos h40] at hk hne
    refine d_goesIn h11 h12 d0 d6 (fun h6 => ?_) (fun h6 => ?_)
    · rw [if_neg h6] at hk hne
      refine ⟨rfl, by omega, fun _ => ?_, fun h => by omega⟩
      have hs2 : ¬ (qE B L n 8 (dp + 1) (qsk B L p + 1)).1 = -2 := by
        intro h
        unfold qEb at hne
        rw [if_neg (by omega)] at hne
        exact hne h
      have hrl := qr_L ht (by omega) (by omega) hs2
      have hrp := qr_p (n := n) (tag := 8) (d := dp + 1) (p := qsk B L p + 1) ht (by omega) (by omega)
      have hsem : (qE B L n 8 (dp + 1) (qsk B L p + 1)).1 = -1 → q01 (qva E (qE B L n 8 (dp + 1) (qsk B L p + 1)).2.1 []) := by
        intro ok
        obtain ⟨w, hw, sw⟩ : ∃ v, q01 v ∧ qSem E (qG 8 (dp + 1)) (qE B L n 8 (dp + 1) (qsk B L p + 1)).2.1 v := qE_sem ht hE n 8 (dp + 1) _ (by omega) (by omega) (by omega) ok
        rw [qva_s sw (by have := qG_le (tag := 8) (d := dp + 1) (by omega); omega)]
        exact hw
      refine ih8 (dJ - 1) (dp + 1) (qsk B L p + 1) (up M 120 12 (dp + 1)) _ (by omega) (by omega) (by omega) ⟨qXm_12 (by omega) hx, by rw [qup_o (by omega)]; exact h11, qup_s, fun c hc => by rw [qup_n (by omega)]; exact hl c hc, by omega, by omega⟩ hs2 ⟨?_, ?_⟩
      · intro ok
        have hrp := hrp ok
        have hsem := hsem ok
        unfold qEb at hk
        rw [if_pos ok] at hk
        generalize qE B L n 8 (dp + 1) (qsk B L p + 1) = r at *
        have k4 := qsk_bd (B := B) r.2.2 hrp.2
        refine ⟨rfl, d_takesC ht (qXm_12 (by omega) hx) (by rw [qup_o (by omega)]; exact h11) (by omega) (by omega) (by omega) (fun h93 => ?_) (fun h93 => ?_)⟩
        · rw [if_pos h93] at hk
          refine ⟨rfl, by omega, fun _ => ⟨hsem, ?_⟩, fun h => by omega⟩
          have := hk.1 rfl
          dsimp only
          rw [qup_e (by omega), qup_up, qup_o (by omega), qup_s, show dp + 1 - 1 = dp by omega, ← h12, qup_id]
          exact this
        · rw [if_neg h93] at hk
          exact ⟨rfl, by omega, fun h => absurd rfl h, fun _ => hk.2 (by dsimp only; omega) 0 _ z0 (qFr_up (qFr_up (qFr_up qFr.refl (by unfold qLm; omega)) (by unfold qLm; omega)) (by unfold qLm; omega)) (by dsimp only; rw [qup_s])⟩
      · intro nok w m' hw fm e11
        unfold qEb at hk
        rw [if_neg nok] at hk
        exact ⟨rfl, d_takesF (by dsimp only; rw [e11]; exact nok) (by dsimp only; rw [e11]; omega) ⟨rfl, by omega, fun h => absurd rfl h, fun _ => hk.2 nok 0 m' z0 ((qFr_up qFr.refl (by unfold qLm; omega)).trans fm) e11⟩⟩
    · rw [if_pos h6] at hk
      exact ⟨rfl, by omega, fun h => absurd rfl h, fun _ => hk.2 (by dsimp only; omega) 0 _ z0 (qFr_up (qFr_up qFr.refl (by unfold qLm; omega)) (by unfold qLm; omega)) (by dsimp only; rw [qup_s])⟩
  · rw [if_pos h33] at hk hne
    refine d_goesIn h11 h12 d0 d6 (fun h6 => ?_) (fun h6 => ?_)
    · rw [if_neg h6] at hk hne
      refine ⟨rfl, by omega, fun _ => ?_, fun h => by omega⟩
      have hs2 : ¬ (qE B L n 5 (dp + 1) (qsk B L p + 1)).1 = -2 := by
        intro h
        unfold qEa at hne
        rw [if_neg (by omega)] at hne
        exact hne h
      refine ih5 (dJ - 1) (dp + 1) (qsk B L p + 1) (up M 120 12 (dp + 1)) _ (by omega) (by omega) (by omega) ⟨qXm_12 (by omega) hx, by rw [qup_o (by omega)]; exact h11, qup_s, fun c hc => by rw [qup_n (by omega)]; exact hl c hc, by omega, by omega⟩ hs2 ⟨?_, ?_⟩
      · intro ok
        obtain ⟨w, hw, sw⟩ : ∃ v, q01 v ∧ qSem E (qG 5 (dp + 1)) (qE B L n 5 (dp + 1) (qsk B L p + 1)).2.1 v := qE_sem ht hE n 5 (dp + 1) _ (by omega) (by omega) (by omega) ok
        have ew := qva_s sw (by have := qG_le (tag := 5) (d := dp + 1) (by omega); omega)
        unfold qEa at hk
        rw [if_pos ok] at hk
        have := hk.1 rfl
        dsimp only at this
        rw [qva_n hw sw (by have := qG_le (tag := 5) (d := dp + 1) (by omega); omega)] at this
        rw [ew]
        dsimp only
        rw [qup_e (by omega), qup_up, qup_o (by omega), qup_s, show dp + 1 - 1 = dp by omega, ← h12, qup_id, h12]
        unfold q01 at hw
        refine ⟨rfl, by omega, fun h => ?_, fun h => ?_⟩
        · rw [show 1 - w = 0 by omega] at this; exact this
        · rw [show 1 - w = 1 by omega] at this; exact this
      · intro nok w m' hw fm e11
        unfold qEa at hk
        rw [if_neg nok] at hk
        have hfr : qFr qLm M (up m' 120 12 (m' 120 12 - 1)) := qFr_up ((qFr_up qFr.refl (by unfold qLm; omega)).trans fm) (by unfold qLm; omega)
        have e2 : (up m' 120 12 (m' 120 12 - 1)) 120 11 = (qE B L n 5 (dp + 1) (qsk B L p + 1)).1 := by rw [qup_o (by omega)]; exact e11
        unfold q01 at hw
        exact ⟨rfl, by omega, fun _ => hk.2 nok 0 _ z0 hfr e2, fun _ => hk.2 nok 1 _ (Or.inr rfl) hfr e2⟩
    · rw [if_pos h6] at hk
      exact ⟨rfl, by omega, fun h => absurd rfl h, fun _ => hk.2 (by dsimp only; omega) 0 _ z0 (qFr_up (qFr_up qFr.refl (by unfold qLm; omega)) (by unfold qLm; omega)) (by dsimp only; rw [qup_s])⟩
theorem d_conds (ht : qTp L B) (hE : ∀ i, qbn (E i)) : ∀ n : Nat, qD1 b0 b1 b2 g L B E n 5 130 q01 (fun dJ μ Q => bGo xs dJ aM_X12_unit 0 [vr 120, vn, vn] [] μ Q) ∧ qD1 b0 b1 b2 g L B E n 6 131 q01 (fun dJ μ Q => bGo xs dJ aM_X12_part 0 [vr 120, vi 0, vi 0, vn, vn] [] μ Q) ∧ qD2 b0 b1 b2 g L B E n 7 131 q01 q01 (fun dJ a μ Q => bGo xs dJ aM_X12_part 18 [vr 120, vn, vn, vi a, vn] [] μ Q) ∧ qD1 b0 b1 b2 g L B E n 8 132 q01 (fun dJ μ Q => bGo xs dJ aM_X12_condition 0 [vr 120, vi 0, vi 0, vn, vn] [] μ Q) ∧ qD2 b0 b1 b2 g L B E n 9 132 q01 q01 (fun dJ a μ Q => bGo xs dJ aM_X12_condition 7 [vr 120, vn, vn, vi a, vn] [] μ Q) := by
  intro n
  induction n with
  | zero => exact ⟨fun _ _ _ _ _ _ _ _ _ h => absurd rfl h, fun _ _ _ _ _ _ _ _ _ h => absurd rfl h, fun _ _ _ _ _ _ _ _ _ _ _ h => absurd rfl h, fun _ _ _ _ _ _ _ _ _ h => absurd rfl h, fun _ _ _ _ _ _ _ _ _ _ _ h => absurd rfl h⟩
  | succ n ih =>
    obtain ⟨i5, i6, i7, i8, i9⟩ := ih
    refine ⟨d_unit ht hE n i5 i8, ?_, d_partL ht hE n i5 i7, ?_, d_condL ht hE n i6 i9⟩
    · intro dJ dp p M Q hJ d0 d6 hp hne hk
      have hp0 := hp
      obtain ⟨hx, h11, h12, hl, p0, p1⟩ := hp
      change ¬ (qEs (qE B L n 5 dp p) (qE B L n 7 dp)).1 = -2 at hne
      change qKm b0 b1 b2 M (qEs (qE B L n 5 dp p) (qE B L n 7 dp)) (qva E (qEs (qE B L n 5 dp p) (qE B L n 7 dp)).2.1 []) q01 Q at hk
      unfold qEs at hk hne
      have hne1 : ¬ (qE B L n 5 dp p).1 = -2 := by
        intro h
        rw [if_neg (by omega)] at hne
        exact hne h
      have hrl := qr_L ht p0 p1 hne1
      refine r_X12_part_0 (by omega) ⟨by omega, fun _ => (i5 (dJ - 1) dp p M _ (by omega) d0 d6 hp0 hne1 ⟨fun ok => ?_, fun nok w m' hw fm e11 => ?_⟩), fun h => absurd rfl h⟩
      · obtain ⟨a, ha, sa⟩ : ∃ v, q01 v ∧ qSem E (qG 5 dp) (qE B L n 5 dp p).2.1 v := qE_sem ht hE n 5 dp p d6 p0 p1 ok
        have ea := qva_s sa (by have := qG_le (tag := 5) d0; omega)
        have hrp := qr_p ht p0 p1 ok
        rw [if_pos ok] at hk hne
        have hne2 : ¬ (qE B L n 7 dp (qE B L n 5 dp p).2.2).1 = -2 := by
          intro h
          rw [if_neg (by omega)] at hne
          exact hne h
        rw [ea]
        refine ⟨rfl, i7 dJ dp _ a M Q hJ d0 d6 ha ⟨hx, h11, h12, hl, by omega, hrp.2⟩ hne2 ⟨fun ok2 => ?_, fun nok2 => ?_⟩⟩
        · rw [if_pos ok2] at hk
          obtain ⟨v, hv, sv⟩ : ∃ v, q01 v ∧ qSeL E (qG 7 dp) (qE B L n 7 dp (qE B L n 5 dp p).2.2).2.1 a v := qE_sem ht hE n 7 dp _ d6 (by omega) hrp.2 ok2 _ ha
          have := hk.1 rfl
          dsimp only at this
          rw [qva_sq sa sv (by have := qG_le (tag := 5) d0; omega) (by have := qG_le (tag := 7) d0; omega), ea] at this
          exact this
        · rw [if_neg nok2] at hk
          exact hk.2 nok2
      · rw [if_neg nok] at hk
        refine ⟨rfl, r_X12_part_18 (by omega) ?_⟩
        dsimp only
        rw [e11]
        exact ⟨by omega, fun _ => ⟨hw, hk.2 nok w m' hw fm e11⟩, fun h => absurd h nok⟩
    · intro dJ dp p M Q hJ d0 d6 hp hne hk
      have hp0 := hp
      obtain ⟨hx, h11, h12, hl, p0, p1⟩ := hp
      change ¬ (qEs (qE B L n 6 dp p) (qE B L n 9 dp)).1 = -2 at hne
      change qKm b0 b1 b2 M (qEs (qE B L n 6 dp p) (qE B L n 9 dp)) (qva E (qEs (qE B L n 6 dp p) (qE B L n 9 dp)).2.1 []) q01 Q at hk
      unfold qEs at hk hne
      have hne1 : ¬ (qE B L n 6 dp p).1 = -2 := by
        intro h
        rw [if_neg (by omega)] at hne
        exact hne h
      have hrl := qr_L ht p0 p1 hne1
      refine r_X12_condition_0 (by omega) (i6 (dJ - 1) dp p M _ (by omega) d0 d6 hp0 hne1 ⟨fun ok => ?_, fun nok w m' hw fm e11 => ?_⟩)
      · obtain ⟨a, ha, sa⟩ : ∃ v, q01 v ∧ qSem E (qG 6 dp) (qE B L n 6 dp p).2.1 v := qE_sem ht hE n 6 dp p d6 p0 p1 ok
        have ea := qva_s sa (by have := qG_le (tag := 6) d0; omega)
        have hrp := qr_p ht p0 p1 ok
        rw [if_pos ok] at hk hne
        have hne2 : ¬ (qE B L n 9 dp (qE B L n 6 dp p).2.2).1 = -2 := by
          intro h
          rw [if_neg (by omega)] at hne
          exact hne h
        rw [ea]
        refine ⟨rfl, i9 dJ dp _ a M Q hJ d0 d6 ha ⟨hx, h11, h12, hl, by omega, hrp.2⟩ hne2 ⟨fun ok2 => ?_, fun nok2 => ?_⟩⟩
        · rw [if_pos ok2] at hk
          obtain ⟨v, hv, sv⟩ : ∃ v, q01 v ∧ qSeL E (qG 9 dp) (qE B L n 9 dp (qE B L n 6 dp p).2.2).2.1 a v := qE_sem ht hE n 9 dp _ d6 (by omega) hrp.2 ok2 _ ha
          have := hk.1 rfl
          dsimp only at this
          rw [qva_sq sa sv (by have := qG_le (tag := 6) d0; omega) (by have := qG_le (tag := 9) d0; omega), ea] at this
          exact this
        · rw [if_neg nok2] at hk
          exact hk.2 nok2
      · rw [if_neg nok] at hk
        refine ⟨rfl, r_X12_condition_7 (by omega) ?_⟩
        dsimp only
        rw [e11]
        exact ⟨by omega, fun _ => ⟨hw, hk.2 nok w m' hw fm e11⟩, fun h => absurd h nok⟩
end MCE
