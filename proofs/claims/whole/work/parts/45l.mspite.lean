/-! B: spite of the model -/
section MSP
variable {xs : List Int32} {d : Nat} {Q : bPo} {b b0 b1 b2 : Bool} {m : Nat → Int → Int} {nT nH : Int} {T P E U N : Int → Int} {t s h k : Int}
variable {w : Int} {m' : Nat → Int → Int}
theorem d_aloneA (hW : qWF nT nH T P E U N) (hM : qMR m nT nH T P E U N) (h0 : 0 ≤ h) (h1 : h < nH) (t0 : 0 ≤ t) (t1 : t < nT) (hQ : Q (qAd T P N h t) ((b0, b1, b2), m)) : bC xs 4 224 [vr 120, vi h, vi t] ((b0, b1, b2), m) Q := d_aloneOf hW hM h0 h1 t0 t1 hQ
theorem d_spited (hW : qWF nT nH T P E U N) (hM : qMR m nT nH T P E U N) (hm : ∀ t, 0 ≤ t → t < nT → m 138 t = N (6 * t)) (h0 : 0 ≤ h) (h1 : h < nH) (t0 : 0 ≤ t) (t1 : t < nT) (hQ : 0 ≤ qspv T P N nT h t ∧ qspv T P N nT h t ≤ 693 → Q (qspv T P N nT h t) ((b0, b1, b2), m)) : bC xs 6 254 [vr 120, vi h, vi t] ((b0, b1, b2), m) Q := by
  have wn := qw_n hW
  have wd := qw_day hW
  have wb := qpw (n := nT) wn.1.1 wn.1.2
  have wt := qw_t hW t0 t1
  have bd := qAd_bd hW h0 h1 t0 t1
  refine qC rfl fun d hd => r_X12_spited_0 hd (d_aloneA hW hM h0 h1 t0 t1 ?_)
  have tail : ∀ (c : Int), ¬ qAd T P N h t = -1 → c = (if qit T N t (qAd T P N h t) then T (4 * t) else 0) → bC xs 3 249 [vr 120] ((b0, b1, b2), m) (fun z3 μ4 => (μ4.1 = (b0, b1, b2)) ∧ (bC xs 5 248 [vr 120, vi h, vi (bAnd z3 (bXor (bShl 1 t) (-1))), vi ((μ4.2 135 66) + qAd T P N h t)] ((b0, b1, b2), μ4.2) (fun z5 μ6 => (μ6.1 = (b0, b1, b2)) ∧ (Q (c + z5) ((b0, b1, b2), μ6.2))))) := by
    intro c hne hc
    refine d_toDo hW hM ?_
    intro z z0 z1 hz
    obtain ⟨⟨r0, r1, _⟩, r3⟩ := qrm z0 (show z < 64 by omega) t0 (show t < 6 by omega)
    refine ⟨rfl, ?_⟩
    dsimp only
    rw [hM.2.2.2.2.2.2]
    refine d_bestOf (G := fun t => N (6 * t)) hW hM (qGok_N hW) hm h0 h1 r0 (by omega) (by omega) (by omega) ?_
    intro M hM2 _
    have hM3 : qBo (qAd T P N h) (qRo T) (qVa T) nT (N 66 + qAd T P N h t) (fun u => decide (N (6 * u + 2) = 0) && !decide (u = t)) M := qBo_cg (fun u u0 u1 => by rw [r3 u u0 (by omega), hz u u0 u1]) hM2
    have := hQ (qspv_bd hW t0 t1 (fun _ => hM3))
    unfold qspv at this
    rw [if_neg hne, qBoz_e hM3, ← hc] at this
    exact ⟨rfl, this⟩
  refine ⟨rfl, by omega, fun e => ⟨by omega, fun e2 => absurd e2 e, fun _ => ⟨by omega, ?_⟩⟩, fun e => ?_⟩
  · dsimp only
    rw [hM.2.2.2.2.2.2, hM.2.2.1]
    refine ⟨by omega, by omega, fun e2 => ?_, fun e2 => ⟨by omega, ?_⟩⟩
    · have := tail 0 e (by rw [if_neg (by omega)])
      exact this
    · have := tail (T (4 * t)) e (by rw [if_pos (by omega)])
      exact this
  · have e3 : qspv T P N nT h t = 0 := by unfold qspv; rw [if_pos e]
    have := hQ (by omega)
    rw [e3] at this
    exact this
theorem qspf_no (h : ∀ t, 0 ≤ t → t < nT → ¬ N (6 * t + 2) = 0) (hn : 0 ≤ nT) : qspf T P N nT s = (-1, -1) := by
  unfold qspf
  refine qfold_inv (I := fun _ x => x = (-1, -1)) ?_ hn rfl
  intro i a i0 i1 e
  unfold qsp1
  rw [if_neg (h i i0 i1), e]
theorem d_spite (hW : qWF nT nH T P E U N) (hM : qMR m nT nH T P E U N) (x1 : inR h) (x2 : inR w) (hQ : ∀ m', qFr (fun a k => a = 138 ∨ (a = 120 ∧ k = 0)) m m' → Q (qPsp T P N nT nH h w) ((b0, b1, b2), m')) : bC xs 7 255 [vr 120, vi h, vi w] ((b0, b1, b2), m) Q := by
  have wn := qw_n hW
  have wb := qpw (n := nT) wn.1.1 wn.1.2
  refine qC rfl fun d hd => r_X12_spite_0 hd ?_
  rw [hM.2.1]
  have f0 : qFr (fun a k => a = 138 ∨ (a = 120 ∧ k = 0)) m (up m 120 0 0) := qFr_up qFr.refl (Or.inr ⟨rfl, rfl⟩)
  unfold qPsp at hQ
  have hno : ¬ ((0 ≤ h ∧ h < nH) ∧ 0 ≤ w ∧ w ≤ 1) → Q (-1) ((b0, b1, b2), up m 120 0 0) := fun hn => by
    have := hQ _ f0
    rw [if_neg hn] at this
    exact this
  refine ⟨x1, fun e => hno (by omega), fun h0 => ⟨x1, by omega, fun e => hno (by omega), fun h1 => d_toDo hW hM.thrown ?_⟩⟩
  intro z z0 z1 hz
  refine ⟨rfl, by omega, fun e => ?_, fun e => ⟨x2, by omega, fun e2 => hno (by omega), fun w0 => ⟨by omega, fun e2 => hno (by omega), fun w1 => ?_⟩⟩⟩
  · by_cases hc : 0 ≤ w ∧ w ≤ 1
    · have := hQ _ f0
      rw [if_pos ⟨⟨h0, h1⟩, hc⟩, qspf_no (fun t t0 t1 e2 => ?_) wn.1.1] at this
      · dsimp only at this
        rw [ite_self] at this
        exact this
      · have := hz t t0 t1
        rw [e, qB_0, decide_eq_true e2] at this
        exact absurd this (by simp)
    · exact hno (by omega)
  · rw [if_pos ⟨⟨h0, h1⟩, w0, w1⟩] at hQ
    refine d_askAsItIs hW hM.thrown ?_
    intro m1 f1 he
    have hM1 := hM.thrown.as (f1.mono (fun a k h => by omega))
    refine ⟨rfl, ?_⟩
    dsimp only
    have f01 : qFr (fun a k => a = 138 ∨ (a = 120 ∧ k = 0)) m m1 := f0.trans (f1.mono (fun a k h => Or.inl h))
    -- what the class's fold starts with doesn't matter
    suffices H : ∀ t, t ≤ nT → 0 ≤ t → ∀ st : Int × Int, (0 ≤ st.1 ∧ st.1 ≤ 693) → (-1 ≤ st.2 ∧ st.2 ≤ 6) → (∀ u, st.2 = -1 → 0 ≤ u → u < t → ¬ N (6 * u + 2) = 0) → qspf T P N nT h = qfold (qsp1 T P N nT h) nT t (if st.2 = -1 then (-1, -1) else st) → bGo xs d aM_X12_spite 44 [vr 120, vi h, vi w, vi st.2, vi st.1, vi t, vn] [] ((b0, b1, b2), m1) Q from H 0 wn.1.1 (by omega) (0, -1) (by dsimp only; omega) (by dsimp only; omega) (fun u _ a c => by omega) rfl
    refine qUpto ?_
    intro t ht ih t0 st s1 s2 s3 hf
    refine r_X12_spite_44 hd ?_
    rw [hM1.1, hM1.2.2.2.2.2.2]
    refine ⟨by omega, by omega, fun h2 => ?_, fun t1 => ⟨by omega, fun h => by omega, fun _ => ⟨by omega, by omega, fun h => by omega, fun _ => ⟨by omega, ?_⟩⟩⟩⟩
    · rw [qfold_ge (by omega)] at hf
      have hne : ¬ st.2 = -1 := fun e2 => e (qB_ext z0 (by omega) (by omega) (by omega) (fun k k0 k1 => by
        rw [qB_0]
        by_cases ek : k < nT
        · rw [hz k k0 ek, decide_eq_false (s3 k e2 k0 (by omega))]
        · exact qB_lt z0 wn.1.1 wn.1.2 z1 k (by omega)))
      rw [if_neg hne] at hf
      rw [hf] at hQ
      refine ⟨x2, fun e2 => ?_, fun e2 => ?_⟩
      · rw [if_neg e2] at hQ
        exact hQ m1 f01
      · rw [if_pos e2] at hQ
        exact hQ m1 f01
    · have ws := qw_st hW t0 t1
      rw [qfold_lt t1] at hf
      refine ⟨by omega, fun e2 => ih t1 (by omega) st s1 s2 (fun u e3 u0 u1 => ?_) ?_, fun e2 => d_spited hW hM1 he h0 h1 t0 t1 ?_⟩
      · by_cases eu : u = t
        · rw [eu]; exact e2
        · exact s3 u e3 u0 (by omega)
      · rw [hf]
        congr 1
        unfold qsp1
        rw [if_neg e2]
      · intro bv
        have upd : (st.2 = -1 ∨ qspv T P N nT h t < st.1) → bGo xs d aM_X12_spite 44 [vr 120, vi h, vi w, vi t, vi (qspv T P N nT h t), vi (t + 1), vn] [] ((b0, b1, b2), m1) Q := by
          intro hc
          refine ih t1 (by omega) (qspv T P N nT h t, t) bv (by dsimp only; omega) (fun u e3 => by dsimp only at e3; omega) ?_
          rw [if_neg (by dsimp only; omega), hf]
          congr 1
          unfold qsp1
          rw [if_pos e2]
          by_cases e3 : st.2 = -1
          · rw [if_pos e3, if_pos (Or.inl rfl)]
          · rw [if_neg e3, if_pos hc]
        refine ⟨rfl, by omega, fun e3 => upd (Or.inl e3), fun e3 => ⟨by omega, by omega, fun e4 => upd (Or.inr e4), fun e4 => ih t1 (by omega) st s1 s2 (fun u e5 => absurd e5 e3) ?_⟩⟩
        rw [hf]
        congr 1
        rw [if_neg e3]
        unfold qsp1
        rw [if_pos e2, if_neg (by omega)]
end MSP
