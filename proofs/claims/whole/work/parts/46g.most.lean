/-! B: the most that is begun, within ranges (class) -/
section MSB
variable {xs : List Int32} {d : Nat} {Q : bPo} {b b0 b1 b2 : Bool} {m : Nat → Int → Int} {nT nH : Int} {T P E U N : Int → Int} {t s h k : Int}
variable {pl lo hi : Int → Int} {n x y c w M : Int} {m' : Nat → Int → Int} {hs : Int → Prop}
theorem qSb_pb (hW : qWF nT nH T P E U N) (hL : qLs m T N pl n nT) (hr : qRg2 T N lo hi nT) (h0 : 0 ≤ h) (h1 : h < nH) (hF : qFp m T P N lo hi pl nT y h (bShl 1 n)) (hh : ¬ hs h) (hb : ∀ x, hs x → 0 ≤ x ∧ x < nH) (s0 : 0 ≤ s) (s1 : s < bShl 1 n) (hz : ∀ q, 0 ≤ q → q ≤ s → ∀ c, 0 ≤ c → c ≤ y → qPb T P N lo hi nT c hs (qX N pl q) (m 93 (q * 13 + c))) (c0 : 0 ≤ c) (c1 : c ≤ y) (hU : qSbU m s c 0 M) (hA : qSbA m s c M) : qPb T P N lo hi nT c (fun x => hs x ∨ x = h) (qX N pl s) M := by
  have wn := qw_n hW
  have hn := qLs_n hW hL
  have pb := qpw (n := n) hn.1 hn.2
  have xl : ∀ q, 0 ≤ q → qSu q s → 0 ≤ bXor s q ∧ bXor s q ≤ s := fun q q0 hq => by
    by_cases e : q = 0
    · have ql := qSu_le s0 hq
      obtain ⟨a, c, e2⟩ := qxo s0 (by omega) q0 (by omega) hq
      exact ⟨a, qSu_le s0 (qSu_of a c (fun k _ _ hb => by rw [e2 k, Bool.and_eq_true] at hb; exact hb.1))⟩
    · have := qxo_lt s0 (by omega) (show 0 < q by omega) hq
      omega
  refine qPb_step (n := y) (zf := fun q c => m 93 (bXor s q * 13 + c)) (pr := fun q => m 92 q) (I := fun q => 0 ≤ q ∧ qSu q s) (Y := fun q => qX N pl q) hW (by omega) hh hb h0 h1 c1 (qRg_X hr) (fun p => qX_mk hL hn s0 s1 p) (fun q hq _ c' a b' => ?_) (hz s s0 (Int.le_refl _) c c0 c1) (fun q hq => (hF q hq.1 (by have := qSu_le s0 hq.2; omega)).2) hU.1 (fun q hq _ hne q1 q2 q3 => ?_) ?_
  · have x1 := xl q hq.1 hq.2
    exact qPb_cg wn.1.1 (fun u _ _ => (qX_df s0 (by omega) hq.1 hq.2).symm) (hz _ x1.1 x1.2 c' a b')
  · have ql := qSu_le s0 hq.2
    have qp : 0 < q := by
      by_cases e : q = 0
      · obtain ⟨t, _, _, ht⟩ := hne
        rw [e, qX_0] at ht
        exact absurd ht (by simp)
      · omega
    have := hU.2 q qp hq.2 q1 q2 q3
    rw [(hL.2 q hq.1 (by omega)).1] at this
    exact this
  · rcases hA with e | ⟨q, qp, hq, q1, q2, q3, e⟩
    · exact Or.inl e
    · have ql := qSu_le s0 hq
      refine Or.inr ⟨q, ⟨by omega, hq⟩, fun t _ _ ht => qX_sub hq ht, q1, q2, q3, ?_⟩
      rw [(hL.2 q (by omega) (by omega)).1] at e
      exact e
theorem c_mostBegun (hW : qWF nT nH T P E U N) (hE : qER m (bW b) nT nH T P E U N) (hH : 0 < nH) (hL : qLs m T N pl n nT) (hR : qRm m T P N lo hi n) (hr : qRg2 T N lo hi nT) (y0 : 0 ≤ y) (y1 : y ≤ 12) (hQ : ∀ m' z, qFr (fun a _ => 90 ≤ a ∧ a ≤ 93) m m' → qPb T P N lo hi nT y (fun x => 0 ≤ x ∧ x < nH) (qOpn N) z → (-1 ≤ z ∧ z ≤ 594) → Q z ((b0, b1, b2), m')) : bC xs 4 24 [vr 85, vr (bW b), vi y] ((b0, b1, b2), m) Q := by
  have wn := qw_n hW
  have hn := qLs_n hW hL
  have pb := qpw (n := n) hn.1 hn.2
  refine qC rfl fun d hd => r_X2_mostBegun_0 hd (c_dealNothing2 hW hL hR hr y0 y1 ?_)
  intro m1 f1 hG
  refine ⟨rfl, ?_⟩
  dsimp only
  rw [hL.1.1.1]
  have f1' : qFr (fun a _ => 90 ≤ a ∧ a ≤ 93) m m1 := f1.mono (fun a k h => by omega)
  suffices H : ∀ h, h ≤ nH → 0 ≤ h → ∀ m1, qFr (fun a _ => 90 ≤ a ∧ a ≤ 93) m m1 → (h < nH → qGn m1 T P N lo hi pl nT y (fun x => 0 ≤ x ∧ x < h) (bShl 1 n)) → (h = nH → qPb T P N lo hi nT y (fun x => 0 ≤ x ∧ x < nH) (qX N pl (bShl 1 n - 1)) (m1 93 ((bShl 1 n - 1) * 13 + y))) → bGo xs d aM_X2_mostBegun 16 [vr 85, vr (bW b), vi y, vi (bShl 1 n - 1), vi h, vn, vn] [] ((b0, b1, b2), m1) Q from H 0 (by omega) (by omega) m1 f1' (fun _ s a c' c2 c3 c4 => qPb_hs (fun x => ⟨fun h => h.elim, fun h => by omega⟩) (hG s a c' c2 c3 c4)) (fun e => by omega)
  refine qUpto ?_
  intro h hh ih h0 m1 f1 hG1 hG2
  have hE1 := hE.fl (f1.mono (fun a k h => by omega))
  have en := qe_n hE1
  refine r_X2_mostBegun_16 hd ?_
  rw [en.2]
  refine ⟨by omega, by omega, fun h2 => ⟨by omega, ?_⟩, fun h1 => ?_⟩
  · have hp := hG2 (by omega)
    exact hQ m1 _ f1 (qPb_cg wn.1.1 (fun u u0 u1 => qX_full hL hn u0 u1) hp) (qPb_bd hW hp)
  · have hG := hG1 h1
    have hL1 : qLs m1 T N pl n nT := hL.fr (f1 79 5 (by omega)) (qFr_at f1 80 (fun k => by omega)) (qFr_at f1 81 (fun k => by omega)) (qFr_at f1 82 (fun k => by omega))
    have hR1 : qRm m1 T P N lo hi n := hR.fr (qFr_at f1 80 (fun k => by omega)) (qFr_at f1 86 (fun k => by omega)) (qFr_at f1 87 (fun k => by omega)) (qFr_at f1 88 (fun k => by omega)) (qFr_at f1 89 (fun k => by omega))
    refine c_findDays hW hE1 hL1 hR1 hr h0 h1 ?_
    intro m2 f2 hD
    have hE2 := hE1.fl (f2.mono (fun a k h => by omega))
    have hL2 : qLs m2 T N pl n nT := hL1.fr (f2 79 5 (by omega)) (qFr_at f2 80 (fun k => by omega)) (qFr_at f2 81 (fun k => by omega)) (qFr_at f2 82 (fun k => by omega))
    have e80 : m2 80 = m1 80 := qFr_at f2 80 (fun k => by omega)
    have hR2 : qRm m2 T P N lo hi n := hR1.fr e80 (qFr_at f2 86 (fun k => by omega)) (qFr_at f2 87 (fun k => by omega)) (qFr_at f2 88 (fun k => by omega)) (qFr_at f2 89 (fun k => by omega))
    refine ⟨rfl, ?_⟩
    dsimp only
    refine c_findPrices hW hE2 hL2 hR2 hr h0 h1 (fun p a c' k c2 c3 => by rw [e80] at c2 c3 ⊢; exact hD p a c' k c2 c3) y0 y1 ?_
    intro m3 f3 hF
    have f3' : qFr (fun a _ => 90 ≤ a ∧ a ≤ 93) m m3 := (f1.trans (f2.mono (fun a k h => by omega))).trans (f3.mono (fun a k h => by omega))
    have hE3 := hE.fl (f3'.mono (fun a k h => by omega))
    have en3 := qe_n hE3
    have hL3 : qLs m3 T N pl n nT := hL.fr (f3' 79 5 (by omega)) (qFr_at f3' 80 (fun k => by omega)) (qFr_at f3' 81 (fun k => by omega)) (qFr_at f3' 82 (fun k => by omega))
    have hG3 : qGn m3 T P N lo hi pl nT y (fun x => 0 ≤ x ∧ x < h) (bShl 1 n) := fun s a c' c2 c3 c4 => by
      rw [f3 93 _ (by omega), f2 93 _ (by omega)]
      exact hG s a c' c2 c3 c4
    dsimp only
    rw [en3.2]
    -- sets, from great ones to small ones
    have L3 : ∀ x5, (x5 = 1 ∧ h + 1 < nH) ∨ (x5 = bShl 1 n - 1 ∧ h + 1 = nH) → bGo xs d aM_X2_mostBegun 59 [vr 85, vr (bW b), vi y, vi (bShl 1 n - 1), vi h, vi x5, vi (bShl 1 n - 1)] [] ((b0, b1, b2), m3) Q := by
      intro x5 hx5
      suffices H : ∀ s, -1 ≤ s → s < bShl 1 n → ∀ m4, qFr (fun a _ => a = 93) m3 m4 → (∀ q, 0 ≤ q → q ≤ s → ∀ c, 0 ≤ c → c ≤ y → m4 93 (q * 13 + c) = m3 93 (q * 13 + c)) → (∀ q, s < q → q < bShl 1 n → ∀ c, 0 ≤ c → c ≤ y → qPb T P N lo hi nT c (fun x => (0 ≤ x ∧ x < h) ∨ x = h) (qX N pl q) (m4 93 (q * 13 + c))) → (s < x5 → s + 1 = x5 ∨ (bShl 1 n - 1 = 0 ∧ x5 = 1)) → bGo xs d aM_X2_mostBegun 59 [vr 85, vr (bW b), vi y, vi (bShl 1 n - 1), vi h, vi x5, vi s] [] ((b0, b1, b2), m4) Q from H (bShl 1 n - 1) (by omega) (by omega) m3 qFr.refl (fun _ _ _ _ _ _ => rfl) (fun q a c' => by omega) (fun e => by omega)
      refine qDown ?_
      intro s s0 ihs s1 m4 f4 hlo hhi hs5
      have f4' : qFr (fun a _ => 90 ≤ a ∧ a ≤ 93) m m4 := f3'.trans (f4.mono (fun a k h => by omega))
      have hL4 : qLs m4 T N pl n nT := hL3.fr (f4 79 5 (by omega)) (qFr_at f4 80 (fun k => by omega)) (qFr_at f4 81 (fun k => by omega)) (qFr_at f4 82 (fun k => by omega))
      have hF4 : qFp m4 T P N lo hi pl nT y h (bShl 1 n) := fun s a c' => by
        have := hF s a c'
        refine ⟨fun c c0 c1 => by rw [f4 91 _ (by omega)]; exact this.1 c c0 c1, by rw [f4 92 _ (by omega)]; exact this.2⟩
      have hz4 : ∀ q, 0 ≤ q → q ≤ s → ∀ c, 0 ≤ c → c ≤ y → qPb T P N lo hi nT c (fun x => 0 ≤ x ∧ x < h) (qX N pl q) (m4 93 (q * 13 + c)) := fun q a c' c c0 c1 => by
        rw [hlo q a c' c c0 c1]
        exact hG3 q a (by omega) c c0 c1
      refine r_X2_mostBegun_59 hd ⟨by omega, by omega, fun h3 => ?_, fun h3 => ?_⟩
      · refine ih h1 (by omega) m4 f4' (fun h4 q q0 q1 c c0 c1 => ?_) (fun h4 => ?_)
        · refine qPb_hs (fun x => ?_) (show qPb T P N lo hi nT c (fun x => (0 ≤ x ∧ x < h) ∨ x = h) (qX N pl q) (m4 93 (q * 13 + c)) from ?_)
          · constructor
            · intro hx; omega
            · intro hx; omega
          · by_cases e : s < q
            · exact hhi q e q1 c c0 c1
            · have q00 : q = 0 := by have := hs5 h3; omega
              refine qSb_pb hW hL4 hr h0 h1 hF4 (by omega) (fun x hx => by omega) q0 q1 (fun q' a c' => hz4 q' a (by omega)) c0 c1 ⟨Int.le_refl _, fun q' a c' => ?_⟩ (Or.inl rfl)
              have := qSu_le q0 c'
              omega
        · refine qPb_hs (fun x => ?_) (hhi (bShl 1 n - 1) (by have := hs5 h3; omega) (by omega) y y0 (Int.le_refl _))
          constructor
          · intro hx; omega
          · intro hx; omega
      · have s00 : 0 ≤ s := by omega
        refine c_shareOut (n := n) (fun q q0 q1 => ⟨?_, ?_, fun c c0 c1 => ?_⟩) hn y0 y1 s00 s1 ?_
        · rw [(hL4.2 q q0 q1).1]; exact qVa_sum hW
        · rcases (hF4 q q0 q1).2 with ⟨e, _⟩ | ⟨e, _⟩ <;> omega
        · by_cases e : q ≤ s
          · exact qPb_bd hW (hz4 q q0 e c c0 c1)
          · exact qPb_bd hW (hhi q (by omega) q1 c c0 c1)
        · intro m5 f5 hS
          refine ⟨rfl, ihs (by omega) (by omega) m5 (f4.trans (f5.mono (fun a k h => h.1))) (fun q a c' c c0 c1 => ?_) (fun q a c' c c0 c1 => ?_) (fun e => by omega)⟩
          · rw [f5 93 _ (by omega)]; exact hlo q a (by omega) c c0 c1
          · by_cases e : q = s
            · rw [e]
              exact qSb_pb hW hL4 hr h0 h1 hF4 (by omega) (fun x hx => by omega) s00 s1 hz4 c0 c1 (hS c c0 c1).1 (hS c c0 c1).2
            · rw [f5 93 _ (by omega)]
              exact hhi q (by omega) c' c c0 c1
    exact ⟨rfl, by omega, by omega, fun e => L3 1 (Or.inl ⟨rfl, by omega⟩), fun e => L3 _ (Or.inr ⟨rfl, by omega⟩)⟩
end MSB
