/-! B: the class reads laws -/
abbrev qCz : Type := Option (List Int) × List Int
def qz0 : qCz := (none, [])
/-- behind a condition -/
def qCq (B : Int → Int) (L : Int) (f : Nat) (rc : qLr) : Int × qCz × Int :=
  if ¬ rc.1 = -1 then (rc.1, qz0, 0) else if ¬ qpk B L rc.2.2 = 63 then (qsk B L rc.2.2, qz0, 0)
  else if (qE B L f 3 0 (qsk B L rc.2.2 + 1)).1 = -1 then (-1, (some rc.2.1, (qE B L f 3 0 (qsk B L rc.2.2 + 1)).2.1), (qE B L f 3 0 (qsk B L rc.2.2 + 1)).2.2) else ((qE B L f 3 0 (qsk B L rc.2.2 + 1)).1, qz0, 0)
def qCc2 (B : Int → Int) (L : Int) (f : Nat) (q : Int) : Int × qCz × Int :=
  if qpk B L q = 33 ∨ qpk B L q = 40 then qCq B L f (qE B L f 8 0 q)
  else if ¬ (qE B L f 3 0 q).1 = -1 then ((qE B L f 3 0 q).1, qz0, 0)
  else if qcmp (qpk B L (qE B L f 3 0 q).2.2) = -1 then (-1, (none, (qE B L f 3 0 q).2.1), qsk B L (qE B L f 3 0 q).2.2)
  else qCq B L f (qEs (qE B L f 3 0 q) (qCB B L f))
def qCc (B : Int → Int) (L : Int) (f : Nat) (p : Int) : Int × qCz × Int :=
  if ¬ qpk B L p = 121 then (qsk B L p, qz0, 0) else if ¬ qpk B L (qsk B L p + 1) = 58 then (qsk B L (qsk B L p + 1), qz0, 0) else qCc2 B L f (qsk B L (qsk B L p + 1) + 1)
def qlay (o : Int) (z : qCz) : List Int := match z.1 with
  | none => z.2 ++ [-20]
  | some c => c ++ ((-100 - (o + c.length + 1 + z.2.length + 1)) :: (z.2 ++ [-20]))
def qlayL : Int → List qCz → List Int
  | _, [] => []
  | o, z :: l => qlay o z ++ qlayL (o + (qlay o z).length) l
def qLw (B : Int → Int) (L : Int) (f : Nat) : Nat → Int → Int × List qCz
  | 0, _ => (-2, [])
  | k + 1, p => if ¬ (qCc B L f p).1 = -1 then ((qCc B L f p).1, [])
    else if qpk B L (qCc B L f p).2.2 = -1 then (-1, [(qCc B L f p).2.1])
    else if qpk B L (qCc B L f p).2.2 = 59 then ((qLw B L f k (qsk B L (qCc B L f p).2.2 + 1)).1, (qCc B L f p).2.1 :: (qLw B L f k (qsk B L (qCc B L f p).2.2 + 1)).2)
    else (qsk B L (qCc B L f p).2.2, [])
/-- where a clause's reading stands -/
def qCk2 (L p : Int) (r : Int × qCz × Int) : Prop := (0 ≤ r.1 ∧ r.1 ≤ L) ∨ (r.1 = -1 ∧ p + 1 ≤ r.2.2 ∧ r.2.2 ≤ L ∧ ∀ o, ((qlay o r.2.1).length : Int) + p ≤ r.2.2)
section CLZ
variable {xs : List Int32} {d : Nat} {Q : bPo} {b b0 b1 b2 : Bool} {m : Nat → Int → Int} {nT nH : Int} {T P E U N : Int → Int} {t s h k : Int}
variable {M : Nat → Int → Int} {B : Int → Int} {L p q n : Int} {f : Nat}
theorem qlay_n (o : Int) {z : qCz} (h : z.1 = none) : ((qlay o z).length : Int) = (z.2.length : Int) + 1 := by
  unfold qlay
  rw [h]
  simp only [List.length_append, List.length_cons, List.length_nil]
  omega
theorem qlay_s (o : Int) {z : qCz} {c : List Int} (h : z.1 = some c) : ((qlay o z).length : Int) = (c.length : Int) + 1 + z.2.length + 1 := by
  unfold qlay
  rw [h]
  simp only [List.length_append, List.length_cons, List.length_nil]
  omega
theorem qCq_ok (ht : qTp L B) (hf : 2440 ≤ f) {rc : qLr} (q0 : 1 ≤ q) (h : qEok L 1 q rc) (hne : ¬ rc.1 = -2) : qCk2 L (q - 1) (qCq B L f rc) := by
  have hb := ht.1
  unfold qCq
  split
  · left
    unfold qEok at h
    dsimp only
    omega
  · rename_i ok
    have ok : rc.1 = -1 := by omega
    have h1 : q + 1 ≤ rc.2.2 ∧ rc.2.2 ≤ L ∧ (rc.2.1.length : Int) + q ≤ rc.2.2 := by unfold qEok at h; omega
    have k1 := qsk_bd (B := B) rc.2.2 h1.2.1
    have kc := qpk_c ht (show 0 ≤ rc.2.2 by omega) h1.2.1
    split
    · left; dsimp only; omega
    · have hs := qE_ok ht f 3 0 (qsk B L rc.2.2 + 1) (by omega) (by omega)
      have hn := qE_f ht f 3 0 (qsk B L rc.2.2 + 1) (by omega) (by omega) (by omega) (by have : qrk 3 = 3 := rfl; omega)
      have e : qlw 3 = 1 := rfl
      rw [e] at hs
      unfold qEok at hs
      split
      · right
        refine ⟨rfl, by dsimp only; omega, by dsimp only; omega, fun o => ?_⟩
        rw [qlay_s o (c := rc.2.1) rfl]
        dsimp only
        omega
      · left; dsimp only; omega
theorem qCB_f (ht : qTp L B) (hf : 2440 ≤ f) (p0 : 0 ≤ p) (p1 : p ≤ L) : ¬ (qCB B L f p).1 = -2 := by
  have hb := ht.1
  have hr : qrk 10 = 1 ∧ qrk 7 = 1 ∧ qrk 9 = 1 := ⟨rfl, rfl, rfl⟩
  have h1 : qEok L 1 p (qE B L f 10 0 p) := qE_ok ht f 10 0 p p0 p1
  have g1 := qE_f ht f 10 0 p (by omega) p0 p1 (by omega)
  have h2 : qEok L 1 p (qEs (qE B L f 10 0 p) (qE B L f 7 0)) := by
    refine qEs_ok h1 (fun h => ?_) (by omega)
    have hb2 : p + 1 ≤ (qE B L f 10 0 p).2.2 ∧ (qE B L f 10 0 p).2.2 ≤ L := by unfold qEok at h1; omega
    exact qE_ok ht f 7 0 _ (by omega) hb2.2
  refine qEs_f (qEs_f g1 (fun h => ?_)) (fun h => ?_)
  · have hb2 : p + 1 ≤ (qE B L f 10 0 p).2.2 ∧ (qE B L f 10 0 p).2.2 ≤ L := by unfold qEok at h1; omega
    exact qE_f ht f 7 0 _ (by omega) (by omega) hb2.2 (by omega)
  · have hb2 : p + 1 ≤ (qEs (qE B L f 10 0 p) (qE B L f 7 0)).2.2 ∧ (qEs (qE B L f 10 0 p) (qE B L f 7 0)).2.2 ≤ L := by unfold qEok at h2; omega
    exact qE_f ht f 9 0 _ (by omega) (by omega) hb2.2 (by omega)
theorem qCB1_ok (ht : qTp L B) (p0 : 0 ≤ p) (p1 : p ≤ L) : qEok L 1 p (qEs (qE B L f 3 0 p) (qCB B L f)) := by
  have h1 : qEok L 1 p (qE B L f 3 0 p) := qE_ok ht f 3 0 p p0 p1
  refine qEs_ok h1 (fun h => ?_) (by omega)
  have hb2 : p + 1 ≤ (qE B L f 3 0 p).2.2 ∧ (qE B L f 3 0 p).2.2 ≤ L := by unfold qEok at h1; omega
  exact qEok_sh (qCB_ok ht (by omega) hb2.2 f) (Int.le_refl _) (by omega)
theorem qCB1_f (ht : qTp L B) (hf : 2440 ≤ f) (p0 : 0 ≤ p) (p1 : p ≤ L) : ¬ (qEs (qE B L f 3 0 p) (qCB B L f)).1 = -2 := by
  have hb := ht.1
  have hr : qrk 3 = 3 := rfl
  have h1 : qEok L 1 p (qE B L f 3 0 p) := qE_ok ht f 3 0 p p0 p1
  refine qEs_f (qE_f ht f 3 0 p (by omega) p0 p1 (by omega)) (fun h => ?_)
  have hb2 : p + 1 ≤ (qE B L f 3 0 p).2.2 ∧ (qE B L f 3 0 p).2.2 ≤ L := by unfold qEok at h1; omega
  exact qCB_f ht hf (by omega) hb2.2
theorem qCc2_ok (ht : qTp L B) (hf : 2440 ≤ f) (q0 : 1 ≤ q) (q1 : q ≤ L) : qCk2 L (q - 1) (qCc2 B L f q) := by
  have hb := ht.1
  have hr : qrk 3 = 3 ∧ qrk 8 = 6 := ⟨rfl, rfl⟩
  unfold qCc2
  split
  · exact qCq_ok ht hf q0 (qE_ok ht f 8 0 q (by omega) q1) (qE_f ht f 8 0 q (by omega) (by omega) q1 (by omega))
  · have h1 : qEok L 1 q (qE B L f 3 0 q) := qE_ok ht f 3 0 q (by omega) q1
    have g1 := qE_f ht f 3 0 q (by omega) (by omega) q1 (by omega)
    split
    · left; unfold qEok at h1; dsimp only; omega
    · rename_i ok
      have h2 : q + 1 ≤ (qE B L f 3 0 q).2.2 ∧ (qE B L f 3 0 q).2.2 ≤ L ∧ ((qE B L f 3 0 q).2.1.length : Int) + q ≤ (qE B L f 3 0 q).2.2 := by unfold qEok at h1; omega
      have k1 := qsk_bd (B := B) (qE B L f 3 0 q).2.2 h2.2.1
      split
      · right
        refine ⟨rfl, by dsimp only; omega, by dsimp only; omega, fun o => ?_⟩
        rw [qlay_n o rfl]
        dsimp only
        omega
      · exact qCq_ok ht hf q0 (qCB1_ok ht (by omega) q1) (qCB1_f ht hf (by omega) q1)
theorem qCc_ok (ht : qTp L B) (hf : 2440 ≤ f) (p0 : 0 ≤ p) (p1 : p ≤ L) : qCk2 L p (qCc B L f p) := by
  have k1 := qsk_bd (B := B) p p1
  have kc := qpk_c ht p0 p1
  unfold qCc
  split
  · left; dsimp only; omega
  · have k2 := qsk_bd (B := B) (L := L) (qsk B L p + 1) (by omega)
    have kc2 := qpk_c (p := qsk B L p + 1) ht (by omega) (by omega)
    split
    · left; dsimp only; omega
    · have := qCc2_ok (q := qsk B L (qsk B L p + 1) + 1) ht hf (by omega) (by omega)
      unfold qCk2 at this ⊢
      rcases this with h | ⟨h, h2, h3, h4⟩
      · exact Or.inl h
      · refine Or.inr ⟨h, by omega, h3, fun o => ?_⟩
        have := h4 o
        omega
theorem qLw_f (ht : qTp L B) (hf : 2440 ≤ f) : ∀ (k : Nat) (p : Int), 480 ≤ p + 2 * k → 0 ≤ p → p ≤ L → ¬ (qLw B L f k p).1 = -2 := by
  intro k
  have hb := ht.1
  induction k with
  | zero => intro p h; omega
  | succ k ih =>
    intro p h p0 p1
    have hc := qCc_ok ht hf p0 p1
    unfold qCk2 at hc
    rw [qLw]
    split
    · dsimp only; omega
    · split
      · show ¬ (-1 : Int) = -2
        decide
      · have hr : p + 1 ≤ (qCc B L f p).2.2 ∧ (qCc B L f p).2.2 ≤ L := by omega
        have k1 := qsk_bd (B := B) (qCc B L f p).2.2 hr.2
        have kc := qpk_c ht (show 0 ≤ (qCc B L f p).2.2 by omega) hr.2
        split
        · exact ih _ (by omega) (by omega) (by omega)
        · dsimp only; omega
theorem qSeg_set {C : Int → Int} {l1 l2 : List Int} {x y : Int} (h : qSeg C n (l1 ++ (y :: l2))) : qSeg (qset C (n + l1.length) x) n (l1 ++ (x :: l2)) := by
  rw [qSeg_app] at h ⊢
  refine ⟨qSeg_fr l1 n (fun k a b => qset_o (by omega)) h.1, qset_s, qSeg_fr l2 _ (fun k a b => qset_o (by omega)) h.2.2⟩
/-- the clause's end: ANSWER, the jump's aim -/
theorem c_clauseE {dJ : Nat} {z : qCz} (hJ : 243 ≤ dJ) (ht : qTp L B) {M1 : Nat → Int → Int} {c0 : List Int} {x3 : Int} (n0 : 0 ≤ n) (hf1 : qFr qLf M M1) (hlen : n + (qlay n z).length ≤ 240) (hcd : (z.1 = none ∧ x3 = -1 ∧ qCd M M1 n z.2) ∨ (z.1 = some c0 ∧ x3 = n + c0.length ∧ qCd M M1 n (c0 ++ (-100 :: z.2)))) (hy : ∀ M', qFr qLf M M' → qCd M M' n (qlay n z) → Q 1 ((b0, b1, b2), up M' 1 2 p)) : bGo xs dJ aM_X6_readClause 130 [vr 4, vn, vn, vi x3] [] ((b0, b1, b2), up M1 1 2 p) Q := by
  refine r_X6_readClause_130 hJ ?_
  rcases hcd with ⟨hz, hx, hc⟩ | ⟨hz, hx, hc⟩
  · rw [qlay_n n hz] at hlen
    refine c_emit hc.1 (by omega) (by omega) ?_
    intro M2 f2 c2
    refine ⟨rfl, by omega, fun _ => ?_, fun h => by omega⟩
    refine hy M2 (hf1.trans f2) ?_
    have e : qlay n z = z.2 ++ [-20] := by unfold qlay; rw [hz]
    rw [e]
    exact qCd_app hc c2
  · rw [qlay_s n hz] at hlen
    have hl : ((c0 ++ (-100 :: z.2)).length : Int) = c0.length + 1 + z.2.length := by
      simp only [List.length_append, List.length_cons]
      omega
    refine c_emit hc.1 (by omega) (by omega) ?_
    intro M2 f2 c2
    have ca := qCd_app hc c2
    have e42 : M2 4 2 = n + (c0.length + 1 + z.2.length) + 1 := by
      have := c2.1
      rw [this, hl]
      rfl
    simp (disch := omega) only [qup_n, e42]
    rw [qup_c (by omega)]
    refine ⟨trivial, by omega, fun h => by omega, fun _ => ⟨by omega, fun h => by omega, fun _ => ⟨by omega, ?_⟩⟩⟩
    refine hy _ ((hf1.trans f2).trans (qFr_up qFr.refl (by unfold qLf; omega))) ⟨?_, ?_, ?_⟩
    · rw [qup_n (by omega), e42, qlay_s n hz]
      omega
    · intro k hk
      rw [qup_o (by omega)]
      exact ca.2.1 k hk
    · have e : qlay n z = c0 ++ ((-100 - (n + c0.length + 1 + z.2.length + 1)) :: (z.2 ++ [-20])) := by unfold qlay; rw [hz]
      rw [e, qup_f, hx, show n + (c0.length + 1 + (z.2.length : Int)) + 1 = n + c0.length + 1 + z.2.length + 1 by omega]
      have h3 := ca.2.2
      rw [List.append_assoc, List.cons_append] at h3
      exact qSeg_set h3
theorem c_lawClause (ht : qTp L B) (hf : 2440 ≤ f) (hp : qPre M B L p n) (hy : (qCc B L f p).1 = -1 → ∀ M', qFr qLf M M' → qCd M M' n (qlay n (qCc B L f p).2.1) → Q 1 ((b0, b1, b2), up M' 1 2 (qCc B L f p).2.2)) (hk : ¬ (qCc B L f p).1 = -1 → ∀ m', qFr qLg M m' → m' 1 3 = (qCc B L f p).1 → Q 0 ((b0, b1, b2), m')) : bC xs 243 84 [vr 4] ((b0, b1, b2), up M 1 2 p) Q := by
  refine qC rfl fun dJ hd => r_X6_readClause_0 hd ?_
  have hok := qCc_ok ht hf hp.2.2.2.1 hp.2.2.2.2
  obtain ⟨hc, hn, n0, p0, p1⟩ := hp
  have hb := ht.1
  have hrk : qrk 3 = 3 ∧ qrk 8 = 6 := ⟨rfl, rfl⟩
  have k1 := qsk_bd (B := B) p p1
  have kc := qpk_c ht p0 p1
  unfold qCc at hy hk hok
  refine c_must ht hc p0 p1 (by omega) (fun hY => ?_) (fun hY => ?_)
  · rw [if_neg (by omega)] at hy hk hok
    have k2 := qsk_bd (B := B) (L := L) (qsk B L p + 1) (by omega)
    have kc2 := qpk_c (p := qsk B L p + 1) ht (by omega) (by omega)
    refine ⟨rfl, by omega, fun h => by omega, fun _ => c_must ht hc (by omega) (by omega) (by omega) (fun hC => ?_) (fun hC => ?_)⟩
    · rw [if_neg (by omega)] at hy hk hok
      generalize hq : qsk B L (qsk B L p + 1) + 1 = q at *
      have hqb : p + 2 ≤ q ∧ q ≤ L := by omega
      have k3 := qsk_bd (B := B) (L := L) q (by omega)
      have kc3 := qpk_c (p := q) ht (by omega) (by omega)
      unfold qCc2 at hy hk hok
      -- behind a condition
      have hQ2 : ∀ (rc : qLr), qEok L 1 q rc → ¬ rc.1 = -2 → ((if qpk B L q = 33 ∨ qpk B L q = 40 then qCq B L f (qE B L f 8 0 q) else if ¬ (qE B L f 3 0 q).1 = -1 then ((qE B L f 3 0 q).1, qz0, 0) else if qcmp (qpk B L (qE B L f 3 0 q).2.2) = -1 then (-1, (none, (qE B L f 3 0 q).2.1), qsk B L (qE B L f 3 0 q).2.2) else qCq B L f (qEs (qE B L f 3 0 q) (qCB B L f))) = qCq B L f rc) → rc.1 = -1 → ∀ M1, qFr qLf M M1 → qCd M M1 n rc.2.1 → bC xs 2 115 [vr 1, vi 63] ((b0, b1, b2), up M1 1 2 rc.2.2) (fun z9 μ10 => (μ10.1 = (b0, b1, b2)) ∧ (inR z9 ∧ ((¬ z9 = 0 → (bC xs 1 83 [vr 4, vi (-100)] ((b0, b1, b2), μ10.2) (fun z11 μ12 => (μ12.1 = (b0, b1, b2)) ∧ (bC xs 122 89 [vr 4, vi 0] ((b0, b1, b2), μ12.2) (fun z13 μ14 => (μ14.1 = (b0, b1, b2)) ∧ (inR z13 ∧ ((¬ z13 = 0 → (bGo xs dJ aM_X6_readClause 130 [vr 4, vn, vn, vi (μ10.2 4 2)] [] ((b0, b1, b2), μ14.2) Q)) ∧ (z13 = 0 → (Q 0 ((b0, b1, b2), μ14.2)))))))))) ∧ (z9 = 0 → (Q 0 ((b0, b1, b2), μ10.2)))))) := by
        intro rc hrc hne2 he ok M1 f1 c1
        rw [he] at hy hk hok
        have hr : q + 1 ≤ rc.2.2 ∧ rc.2.2 ≤ L ∧ (rc.2.1.length : Int) + q ≤ rc.2.2 := by unfold qEok at hrc; omega
        have k4 := qsk_bd (B := B) rc.2.2 hr.2.1
        have kc4 := qpk_c ht (show 0 ≤ rc.2.2 by omega) hr.2.1
        have hc1 := qTc_lf f1 hc
        unfold qCq at hy hk hok
        rw [if_neg (by omega)] at hy hk hok
        refine c_must ht hc1 (by omega) hr.2.1 (by omega) (fun h63 => ?_) (fun h63 => ?_)
        · rw [if_neg (by omega)] at hy hk hok
          have e42 : (up M1 1 2 (qsk B L rc.2.2 + 1)) 4 2 = n + rc.2.1.length := by rw [qup_n (by omega)]; exact c1.1
          refine ⟨rfl, by omega, fun _ => c_emit c1.1 (by omega) (by omega) ?_, fun h => by omega⟩
          intro M2 f2 c2
          have hs := qE_ok ht f 3 0 (qsk B L rc.2.2 + 1) (by omega) (by omega)
          have hnf := qE_f ht f 3 0 (qsk B L rc.2.2 + 1) (by omega) (by omega) (by omega) (by omega)
          have c12 := qCd_app c1 c2
          have h42 : M2 4 2 = n + rc.2.1.length + 1 := c2.1
          refine ⟨rfl, c_readSum (n := n + rc.2.1.length + 1) ht (by omega) (by omega) ⟨qTc_lf f2 hc1, h42, by omega, by omega, by omega⟩ hnf ⟨?_, ?_⟩⟩
          · intro ok2 M3 f3 c3
            rw [if_pos ok2] at hy hok
            generalize qE B L f 3 0 (qsk B L rc.2.2 + 1) = r2 at *
            refine ⟨rfl, by omega, fun _ => ?_, fun h => by omega⟩
            dsimp only
            rw [e42]
            have hr2 : r2.2.2 ≤ L ∧ (r2.2.1.length : Int) + (qsk B L rc.2.2 + 1) ≤ r2.2.2 := by unfold qEok at hs; omega
            refine c_clauseE (z := (some rc.2.1, r2.2.1)) (c0 := rc.2.1) hd ht n0.1 ((f1.trans f2).trans f3) ?_ (Or.inr ⟨rfl, rfl, ?_⟩) (fun M4 f4 c4 => hy rfl M4 f4 c4)
            · rw [qlay_s n (c := rc.2.1) rfl]
              dsimp only
              omega
            · have := qCd_app c1 (qCd_app c2 c3)
              exact this
          · intro nok2 m3 f3 e3
            rw [if_neg nok2] at hk
            exact ⟨rfl, by omega, fun h => by omega, fun _ => hk nok2 m3 (((qLf_g f1).trans (qLf_g f2)).trans f3) e3⟩
        · rw [if_pos h63] at hk
          exact ⟨rfl, by omega, fun h => by omega, fun _ => hk (by dsimp only; omega) _ (qFr_up (qFr_up (qLf_g f1) (by unfold qLg; omega)) (by unfold qLg; omega)) (by dsimp only; rw [qup_s])⟩
      have hQ3 : ∀ (rc : qLr), ((if qpk B L q = 33 ∨ qpk B L q = 40 then qCq B L f (qE B L f 8 0 q) else if ¬ (qE B L f 3 0 q).1 = -1 then ((qE B L f 3 0 q).1, qz0, 0) else if qcmp (qpk B L (qE B L f 3 0 q).2.2) = -1 then (-1, (none, (qE B L f 3 0 q).2.1), qsk B L (qE B L f 3 0 q).2.2) else qCq B L f (qEs (qE B L f 3 0 q) (qCB B L f))) = qCq B L f rc) → ¬ rc.1 = -1 → ∀ m', qFr qLg M m' → m' 1 3 = rc.1 → Q 0 ((b0, b1, b2), m') := by
        intro rc he nok m1 f1 e1
        rw [he] at hk
        unfold qCq at hk
        rw [if_pos nok] at hk
        exact hk nok m1 f1 e1
      refine ⟨rfl, by omega, fun _ => c_peek ht hc (by omega) hqb.2 ?_, fun h => by omega⟩
      have esk8 := qE_sk (B := B) (p := q) (L := L) (by omega) f 8 0
      have esk3 := qE_sk (B := B) (p := q) (L := L) (by omega) f 3 0
      have g8 := qE_f ht f 8 0 q (by omega) (by omega) (by omega) (by omega)
      have o8 := qE_ok ht f 8 0 q (by omega) (by omega)
      have cnd : qpk B L q = 33 ∨ qpk B L q = 40 → bC xs 242 85 [vr 4, vi 0, vi 0] ((b0, b1, b2), up M 1 2 (qsk B L q)) (fun z7 μ8 => (μ8.1 = (b0, b1, b2)) ∧ (inR z7 ∧ ((z7 = 0 → (Q 0 ((b0, b1, b2), μ8.2))) ∧ (¬ z7 = 0 → (bC xs 2 115 [vr 1, vi 63] ((b0, b1, b2), μ8.2) (fun z9 μ10 => (μ10.1 = (b0, b1, b2)) ∧ (inR z9 ∧ ((¬ z9 = 0 → (bC xs 1 83 [vr 4, vi (-100)] ((b0, b1, b2), μ10.2) (fun z11 μ12 => (μ12.1 = (b0, b1, b2)) ∧ (bC xs 122 89 [vr 4, vi 0] ((b0, b1, b2), μ12.2) (fun z13 μ14 => (μ14.1 = (b0, b1, b2)) ∧ (inR z13 ∧ ((¬ z13 = 0 → (bGo xs dJ aM_X6_readClause 130 [vr 4, vn, vn, vi (μ10.2 4 2)] [] ((b0, b1, b2), μ14.2) Q)) ∧ (z13 = 0 → (Q 0 ((b0, b1, b2), μ14.2)))))))))) ∧ (z9 = 0 → (Q 0 ((b0, b1, b2), μ10.2))))))))))) := by
        intro hcs
        refine c_readCond0 (n := n) (f := f) ht ⟨hc, hn, by omega, by omega, by omega⟩ (by rw [esk8]; exact g8) ?_
        rw [esk8]
        refine ⟨fun ok M1 f1 c1 => ⟨rfl, by omega, fun h => by omega, fun _ => hQ2 (qE B L f 8 0 q) o8 g8 (if_pos hcs) ok M1 f1 c1⟩, fun nok m1 f1 e1 => ⟨rfl, by omega, fun _ => hQ3 (qE B L f 8 0 q) (if_pos hcs) nok m1 f1 e1, fun h => by omega⟩⟩
      refine ⟨rfl, by omega, fun h33 => cnd (Or.inl h33), fun h33 => ⟨by omega, fun h40 => cnd (Or.inr h40), fun h40 => ?_⟩⟩
      have hncs : ¬ (qpk B L q = 33 ∨ qpk B L q = 40) := by omega
      have g3 := qE_f ht f 3 0 q (by omega) (by omega) (by omega) (by omega)
      have o3 : qEok L 1 q (qE B L f 3 0 q) := qE_ok ht f 3 0 q (by omega) (by omega)
      refine c_readSum (n := n) ht (by omega) (by omega) ⟨hc, hn, by omega, by omega, by omega⟩ (by rw [esk3]; exact g3) ?_
      rw [esk3]
      refine ⟨?_, ?_⟩
      · intro ok M1 f1 c1
        have hr : q + 1 ≤ (qE B L f 3 0 q).2.2 ∧ (qE B L f 3 0 q).2.2 ≤ L ∧ ((qE B L f 3 0 q).2.1.length : Int) + q ≤ (qE B L f 3 0 q).2.2 := by unfold qEok at o3; omega
        have k4 := qsk_bd (B := B) (qE B L f 3 0 q).2.2 hr.2.1
        have kc4 := qpk_c ht (show 0 ≤ (qE B L f 3 0 q).2.2 by omega) hr.2.1
        have hv := qcmp_v (qpk B L (qE B L f 3 0 q).2.2)
        have hc1 := qTc_lf f1 hc
        refine ⟨rfl, by omega, fun _ => c_peek ht hc1 (by omega) hr.2.1 ⟨rfl, c_comparison (by omega) ⟨rfl, by omega, fun hno => ?_, fun hyes => ?_⟩⟩, fun h => by omega⟩
        · rw [if_neg hncs, if_neg (by omega), if_pos hno] at hy
          refine c_clauseE (z := (none, (qE B L f 3 0 q).2.1)) (c0 := []) hd ht n0.1 f1 ?_ (Or.inl ⟨rfl, rfl, c1⟩) (fun M4 f4 c4 => hy rfl M4 f4 c4)
          rw [qlay_n n rfl]
          dsimp only
          omega
        · have eqs : (if qpk B L q = 33 ∨ qpk B L q = 40 then qCq B L f (qE B L f 8 0 q) else if ¬ (qE B L f 3 0 q).1 = -1 then ((qE B L f 3 0 q).1, qz0, 0) else if qcmp (qpk B L (qE B L f 3 0 q).2.2) = -1 then (-1, (none, (qE B L f 3 0 q).2.1), qsk B L (qE B L f 3 0 q).2.2) else qCq B L f (qEs (qE B L f 3 0 q) (qCB B L f))) = qCq B L f (qEs (qE B L f 3 0 q) (qCB B L f)) := by
            rw [if_neg hncs, if_neg (by omega), if_neg hyes]
          have hq2 := hQ2 _ (qCB1_ok ht (by omega) (by omega)) (qCB1_f ht hf (by omega) (by omega)) eqs
          have hq3 := hQ3 _ eqs
          unfold qEs at hq2 hq3
          rw [if_pos ok] at hq2 hq3
          have ecb : qCB B L f (qsk B L (qE B L f 3 0 q).2.2) = qCB B L f (qE B L f 3 0 q).2.2 := by
            unfold qCB
            rw [qE_sk hr.2.1]
          have gcb := qCB_f ht hf (show 0 ≤ (qE B L f 3 0 q).2.2 by omega) hr.2.1
          refine c_readCond1 (n := n + (qE B L f 3 0 q).2.1.length) (f := f) ht ⟨hc1, c1.1, by omega, by omega, by omega⟩ (by rw [ecb]; exact gcb) ?_
          rw [ecb]
          refine ⟨fun ok2 M2 f2 c2 => ?_, fun nok2 m2 f2 e2 => ?_⟩
          · rw [if_pos ok2] at hq2
            exact ⟨rfl, by omega, fun h => by omega, fun _ => hq2 rfl M2 (f1.trans f2) (qCd_app c1 c2)⟩
          · rw [if_neg nok2] at hq3
            exact ⟨rfl, by omega, fun _ => hq3 nok2 m2 ((qLf_g f1).trans f2) e2, fun h => by omega⟩
      · intro nok m1 f1 e1
        rw [if_neg hncs, if_pos nok] at hk
        exact ⟨rfl, by omega, fun h => by omega, fun _ => hk nok m1 f1 e1⟩
    · rw [if_pos hC] at hk
      exact ⟨rfl, by omega, fun h => by omega, fun _ => hk (by dsimp only; omega) _ (qFr_up (qFr_up qFr.refl (by unfold qLg; omega)) (by unfold qLg; omega)) (by dsimp only; rw [qup_s])⟩
  · rw [if_pos hY] at hk
    exact ⟨rfl, by omega, fun _ => hk (by dsimp only; omega) _ (qFr_up (qFr_up qFr.refl (by unfold qLg; omega)) (by unfold qLg; omega)) (by dsimp only; rw [qup_s]), fun h => by omega⟩
theorem c_readLaw (ht : qTp L B) (hc : qTc m L B) (hQ : ∀ m', qFr qLg m m' → ((qLw B L 2440 240 0).1 = -1 → m' 4 2 = (qlayL 0 (qLw B L 2440 240 0).2).length ∧ qSeg (m' 5) 0 (qlayL 0 (qLw B L 2440 240 0).2)) → Q (qLw B L 2440 240 0).1 ((b0, b1, b2), m')) : bC xs 244 82 [vr 4] ((b0, b1, b2), m) Q := by
  refine qC rfl fun d hd => r_X6_read_0 hd ?_
  have hb := ht.1
  have hsw : up (up (up m 1 2 0) 1 3 (-1)) 4 2 0 = up (up (up m 1 3 (-1)) 4 2 0) 1 2 0 := by
    rw [show up (up m 1 2 0) 1 3 (-1) = up (up m 1 3 (-1)) 1 2 0 from by
      funext a j
      by_cases h1 : a = 1
      · subst h1
        rw [qup_f, qup_f, qup_f, qup_f]
        simp only [qset]
        split <;> split <;> first | rfl | omega
      · rw [qup_n h1, qup_n h1, qup_n h1, qup_n h1]]
    exact qup_c (by omega)
  rw [hsw]
  obtain ⟨R, hR⟩ : ∃ R, R = qLw B L 2440 240 0 := ⟨_, rfl⟩
  rw [← hR] at hQ
  suffices H : ∀ (k : Nat) (x n q : Int) (M1 : Nat → Int → Int) (l0 : List qCz), x + k = 240 → 0 ≤ x → 480 ≤ q + 2 * k → qPre M1 B L q n → qFr qLg m M1 → n = (qlayL 0 l0).length → qSeg (M1 5) 0 (qlayL 0 l0) → R.1 = (qLw B L 2440 k q).1 → (R.1 = -1 → R.2 = l0 ++ (qLw B L 2440 k q).2) → bGo xs d aM_X6_read 14 [vr 4, vi x] [] ((b0, b1, b2), up M1 1 2 q) Q by
    refine H 240 0 0 0 _ [] (by omega) (by omega) (by omega) ⟨⟨?_, ?_⟩, qup_s, by omega, by omega, by omega⟩ (qFr_up (qFr_up qFr.refl (by unfold qLg; omega)) (by unfold qLg; omega)) rfl trivial (by rw [hR]) (fun _ => by rw [hR]; rfl)
    · rw [qup_n (by omega), qup_o (by omega)]; exact hc.1
    · rw [qup_n (by omega), qup_n (by omega)]; exact hc.2
  have layA : ∀ (l1 l2 : List qCz) (o : Int), qlayL o (l1 ++ l2) = qlayL o l1 ++ qlayL (o + (qlayL o l1).length) l2 := by
    intro l1
    induction l1 with
    | nil => intro l2 o; simp [qlayL]
    | cons z l ih =>
      intro l2 o
      rw [List.cons_append, qlayL, qlayL, ih, List.length_append, List.append_assoc]
      congr 3
      omega
  intro k
  induction k with
  | zero => intro x n q M1 l0 hx x0 hq hp; have := hp.2.2.2; omega
  | succ k ih =>
    intro x n q M1 l0 hx x0 hq hp hf1 hn hs hR1 hR2
    have hp0 := hp
    obtain ⟨hc1, h42, n0, q0, q1⟩ := hp
    have hok := qCc_ok (f := 2440) ht (by omega) q0 q1
    rw [qLw] at hR1 hR2
    refine r_X6_read_14 hd ⟨by omega, fun h => by omega, fun _ => c_lawClause (n := n) (f := 2440) ht (by omega) hp0 ?_ ?_⟩
    · intro ok M2 f2 c2
      rw [if_neg (by omega)] at hR1 hR2
      generalize qCc B L 2440 q = r at *
      have hr : q + 1 ≤ r.2.2 ∧ r.2.2 ≤ L ∧ ((qlay n r.2.1).length : Int) + q ≤ r.2.2 := by
        unfold qCk2 at hok
        rcases hok with h | ⟨_, h2, h3, h4⟩
        · omega
        · exact ⟨h2, h3, h4 n⟩
      have k1 := qsk_bd (B := B) r.2.2 hr.2.1
      have kc := qpk_c ht (show 0 ≤ r.2.2 by omega) hr.2.1
      have hc2 := qTc_lf f2 hc1
      have hf2 : qFr qLg m M2 := hf1.trans (qLf_g f2)
      have hlen : n + ((qlay n r.2.1).length : Int) = (qlayL 0 (l0 ++ [r.2.1])).length := by
        rw [layA, List.length_append, ← hn]
        simp only [qlayL, List.append_nil]
        rw [Int.zero_add]
        omega
      have hseg : qSeg (M2 5) 0 (qlayL 0 (l0 ++ [r.2.1])) := by
        rw [layA, qSeg_app]
        refine ⟨qSeg_fr _ _ (fun k a b => c2.2.1 k (by omega)) hs, ?_⟩
        rw [Int.zero_add, ← hn]
        simp only [qlayL, List.append_nil]
        exact c2.2.2
      refine ⟨rfl, by omega, fun _ => c_peek ht hc2 (by omega) hr.2.1 ⟨rfl, by omega, fun hne => ?_, fun heq => ?_⟩, fun h => by omega⟩
      · rw [if_neg hne] at hR1 hR2
        refine c_must ht hc2 (by omega) (by omega) (by omega) ?_ ?_
        · rw [qpk_sk hr.2.1, qsk_sk hr.2.1]
          intro h59
          rw [if_pos h59] at hR1 hR2
          refine ⟨rfl, by omega, fun _ => ?_, fun h => by omega⟩
          refine ih (x + 1) (n + (qlay n r.2.1).length) (qsk B L r.2.2 + 1) M2 (l0 ++ [r.2.1]) (by omega) (by omega) (by omega) ⟨hc2, c2.1, by omega, by omega, by omega⟩ hf2 hlen hseg hR1 ?_
          intro h
          rw [hR2 h]
          simp
        · rw [qpk_sk hr.2.1, qsk_sk hr.2.1]
          intro h59
          rw [if_neg h59] at hR1
          refine ⟨rfl, by omega, fun h => by omega, fun _ => ?_⟩
          simp only [qup_s]
          have := hQ (up (up M2 1 2 (qsk B L r.2.2)) 1 3 (qsk B L r.2.2)) (qFr_up (qFr_up hf2 (by unfold qLg; omega)) (by unfold qLg; omega)) (fun h => by omega)
          rw [hR1] at this
          exact this
      · rw [if_pos heq] at hR1 hR2
        have := hQ (up M2 1 2 (qsk B L r.2.2)) (qFr_up hf2 (by unfold qLg; omega)) (fun h => ?_)
        · rw [hR1] at this
          exact this
        · rw [hR2 h]
          dsimp only
          refine ⟨?_, ?_⟩
          · rw [qup_n (by omega), c2.1]; exact hlen
          · rw [qup_n (by omega)]; exact hseg
    · intro nok m2 f2 e2
      rw [if_pos nok] at hR1
      refine ⟨rfl, by omega, fun h => by omega, fun _ => ?_⟩
      dsimp only
      rw [e2]
      have := hQ m2 (hf1.trans f2) (fun h => by rw [hR1] at h; exact absurd h nok)
      rw [hR1] at this
      exact this
end CLZ
