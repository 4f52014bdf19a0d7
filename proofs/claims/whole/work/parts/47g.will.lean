/-! A WILL IS TAKEN -/
section CSW
variable {xs : List Int32} {d : Nat} {Q : bPo} {b b0 b1 b2 : Bool} {m : Nat → Int → Int} {nT nH : Int} {T P E U N : Int → Int} {t s h k : Int}
variable {D : qD} {m1 m2 : Nat → Int → Int} {x L : Int} {B : Int → Int} {σ : qSt} {w : Nat}
theorem qWL_wh (ht : qTp L B) : ∀ (n : Nat) (σ : qSt) (p : Int), 0 ≤ p → p ≤ L → (qWL B L n σ p).1 = -1 → qwf L (qWL B L n σ p).2 = -1 := by
  intro n
  induction n with
  | zero => intro σ p p0 p1 h; exact h
  | succ n ih =>
    intro σ p p0 p1 h
    have hbd := qCL_bd (σ := σ) ht p0 p1
    rw [qWL] at h ⊢
    by_cases ok : (qCL B L σ p).1 = -1
    · rw [if_neg (fun h => h ok)] at h ⊢
      have hb2 : p < (qCL B L σ p).2.2 ∧ (qCL B L σ p).2.2 ≤ L := by omega
      have k1 := qsk_bd (B := B) (qCL B L σ p).2.2 hb2.2
      have kc := qpk_c ht (show 0 ≤ (qCL B L σ p).2.2 by omega) hb2.2
      by_cases he : qpk B L (qCL B L σ p).2.2 = -1
      · rw [if_pos he] at h ⊢
        exact h
      · rw [if_neg he] at h ⊢
        by_cases h59 : qpk B L (qCL B L σ p).2.2 = 59
        · rw [if_pos h59] at h ⊢
          exact ih _ _ (by omega) (by omega) h
        · rw [if_neg h59] at h
          dsimp only at h
          omega
    · rw [if_pos ok] at h
      exact absurd h ok
theorem qwh_all (hh : qwh σ = 1) : ∀ t, 0 ≤ t → t < σ 0 9 → σ 9 (0 + t) ≤ σ 3 t := by
  suffices H : ∀ k, k ≤ σ 0 9 → 0 ≤ k → qfold (fun t (a : Int) => if σ 9 (0 + t) ≤ σ 3 t then a else 0) (σ 0 9) k (1 : Int) = 1 → ∀ t, k ≤ t → t < σ 0 9 → σ 9 (0 + t) ≤ σ 3 t by
    intro t t0 t1
    exact H 0 (by omega) (by omega) hh t t0 t1
  refine qUpto ?_
  intro k hk ih k0 he t t0 t1
  have hlt : k < σ 0 9 := by omega
  rw [qfold_lt hlt] at he
  by_cases h : σ 9 (0 + k) ≤ σ 3 k
  · rw [if_pos h] at he
    by_cases e : t = k
    · rw [e]
      exact h
    · exact ih hlt (by omega) he t (by omega) t1
  · rw [if_neg h, qwh_z _ (by omega)] at he
    omega
theorem qWF_will (hr : qRl σ) (hw : qwf L σ = -1) (L0 : 0 ≤ L) (hk : qWkm m σ) : qWF (σ 0 9) (σ 0 10) (m 125) (m 127) (m 129) (m 131) (m 135) := by
  obtain ⟨k1, k2, k3, k4, k5, k6, k7, k8, k9⟩ := hk
  have hA := hr.1.1
  unfold qwf at hw
  have hh : qwh σ = 1 ∧ 0 < σ 0 9 ∧ 0 < σ 0 10 := by
    by_cases h : qwh σ = 1 ∧ 0 < σ 0 9 ∧ 0 < σ 0 10
    · exact h
    · rw [if_neg h] at hw
      omega
  have hal := qwh_all hh.1
  refine ⟨⟨hA.1, hA.2.1, by omega⟩, fun t t0 t1 => ?_, fun t s t0 t1 s0 s1 => ?_, fun h h0 h1 => ?_, fun k k0 k1 => ?_, fun t t0 t1 => ?_, fun h k h0 h1 i0 i1 => ?_, by omega⟩
  · obtain ⟨q0, q1, _⟩ := hr.2.1 t t0 t1
    unfold qT0 at q0
    unfold qF1 at q1
    rw [k1 _ (by omega) (by omega), k1 _ (by omega) (by omega), k1 _ (by omega) (by omega)]
    omega
  · obtain ⟨q0, q1, q2⟩ := hr.2.1 t t0 t1
    unfold qF1 at q1
    rw [k1 _ (by omega) (by omega)] at s1
    have q3 := q2 s s0 s1
    rw [k2 _ (by omega) (by omega), k2 _ (by omega) (by omega)]
    omega
  · have q := (hr.2.2.1 h h0 h1).1
    rw [k3 _ (by omega) (by omega)]
    omega
  · have q := hr.2.2.2.1 k k0 k1
    rw [k4 _ (by omega) (by omega)]
    omega
  · obtain ⟨q0, q1, _⟩ := hr.2.1 t t0 t1
    have ha := hal t t0 t1
    unfold qT0 at q0
    unfold qF1 at q1
    obtain ⟨n1, n2, n3, n4, n5, n6⟩ := k6 t t0 t1
    rw [n1, n2, n3, n4, n5, n6]
    rw [k1 (4 * t + 2) (by omega) (by omega), k1 (4 * t + 3) (by omega) (by omega)]
    split
    · omega
    · omega
  · have q := (hr.2.2.1 h h0 h1).2 k i0 i1
    rw [k7 h k h0 h1 i0 i1]
    omega
theorem qER_will (hr : qRl σ) (hw : qwf L σ = -1) (L0 : 0 ≤ L) (hk : qWkm m σ) (hs : qCs m1 w σ) : qER m1 w (σ 0 9) (σ 0 10) (m 125) (m 127) (m 129) (m 131) (m 135) := by
  obtain ⟨k1, k2, k3, k4, k5, k6, k7, k8, k9⟩ := hk
  have hA := hr.1.1
  have hZ := hr.1.2.2
  unfold qwf at hw
  have hh : qwh σ = 1 ∧ 0 < σ 0 9 ∧ 0 < σ 0 10 := by
    by_cases h : qwh σ = 1 ∧ 0 < σ 0 9 ∧ 0 < σ 0 10
    · exact h
    · rw [if_neg h] at hw
      omega
  have hal := qwh_all hh.1
  have e0 : m1 w = σ 0 := hs 0 (by omega)
  refine ⟨⟨⟨by rw [e0], by rw [e0]⟩, fun t t0 t1 => ?_, fun t s t0 t1 s0 s1 => ?_, fun h h0 h1 => ?_, fun k k0 k1 => ?_⟩, fun t t0 t1 => ?_, fun h k h0 h1 i0 i1 => ?_, ?_⟩
  · obtain ⟨q0, q1, _⟩ := hr.2.1 t t0 t1
    unfold qT0 at q0
    unfold qF1 at q1
    rw [hs 1 (by omega), hs 2 (by omega), hs 3 (by omega), k1 _ (by omega) (by omega), k1 _ (by omega) (by omega), k1 _ (by omega) (by omega)]
    omega
  · obtain ⟨q0, q1, q2⟩ := hr.2.1 t t0 t1
    unfold qF1 at q1
    rw [k1 _ (by omega) (by omega)] at s1
    have q3 := q2 s s0 s1
    rw [hs 4 (by omega), hs 5 (by omega), k2 _ (by omega) (by omega), k2 _ (by omega) (by omega)]
    exact q3.1
  · have q := (hr.2.2.1 h h0 h1).1
    rw [hs 6 (by omega), k3 _ (by omega) (by omega)]
    exact q.1
  · have q := hr.2.2.2.1 k k0 k1
    rw [hs 7 (by omega), k4 _ (by omega) (by omega)]
    exact q.1
  · obtain ⟨q0, q1, _⟩ := hr.2.1 t t0 t1
    have ha := hal t t0 t1
    unfold qT0 at q0
    unfold qF1 at q1
    obtain ⟨n1, n2, n3, n4, n5, n6⟩ := k6 t t0 t1
    rw [n1, n2, n3, n4, n5, n6, hs 9 (by omega)]
    rw [k1 (4 * t + 2) (by omega) (by omega), k1 (4 * t + 3) (by omega) (by omega)]
    split
    · omega
    · omega
  · have q := (hr.2.2.1 h h0 h1).2 k i0 i1
    rw [k7 h k h0 h1 i0 i1, hs 9 (by omega)]
    exact q.1
  · rw [hs 9 (by omega), k8]
    exact hZ
end CSW
