/-! B: the model's games -/
section GMS
variable {R Ws : Int → Int → Int} {g : Int → Int} {nT nH h t : Int} {N : Int → Int}
theorem qld_set (hR : qRk R nT nH N) (h0 : 0 ≤ h) (h1 : h < nH) (t0 : 0 ≤ t) (t1 : t < nT) (ho : N (6 * t + 2) = 0) (hne : ¬ g h = t) : R h t = qld R (qset g h t) nH t ↔ R h t ≤ qld R g nH t := by
  have I1 := qld_I (R := R) (g := qset g h t) (t := t) (show 0 ≤ nH by omega)
  have I2 := qld_I (R := R) (g := g) (t := t) (show 0 ≤ nH by omega)
  have hr := hR h t h0 h1 t0 t1 ho
  generalize qld R (qset g h t) nH t = a at *
  generalize qld R g nH t = b at *
  obtain ⟨a1, a2, a3⟩ := I1
  obtain ⟨b1, b2, b3⟩ := I2
  constructor
  · intro e
    rcases b3 with b3 | ⟨j, j0, j1, j2, j3, j4⟩
    · omega
    · have hj : ¬ j = h := fun e2 => hne (by rw [← e2]; exact j3)
      have := a2 j j0 j1 (by rw [qset_o hj]; exact j3)
      omega
  · intro hle
    have := a2 h h0 h1 qset_s
    rcases a3 with a3 | ⟨j, j0, j1, j2, j3, j4⟩
    · omega
    · by_cases hj : j = h
      · rw [hj] at j4; exact j4
      · rw [qset_o hj] at j3
        have := b2 j j0 j1 j3
        omega
theorem qld_ne (hR : qRk R nT nH N) (h0 : 0 ≤ h) (h1 : h < nH) (t0 : 0 ≤ t) (t1 : t < nT) (ho : N (6 * t + 2) = 0) (h4 : nH ≤ 4) (hne : ¬ g h = t) (hn : ¬ R h t = 1000000) : ¬ R h t = qld R g nH t := by
  have I2 := qld_I (R := R) (g := g) (t := t) (show 0 ≤ nH by omega)
  have hr := hR h t h0 h1 t0 t1 ho
  intro e
  rcases I2.2.2 with b3 | ⟨j, j0, j1, j2, j3, j4⟩
  · omega
  · have hj : ¬ j = h := fun e2 => hne (by rw [← e2]; exact j3)
    have := hR j t j0 j2 t0 t1 ho
    omega
theorem qcont (hR : qRk R nT nH N) (h4 : nH ≤ 4) (h0 : 0 ≤ h) (h1 : h < nH) (h6 : nT ≤ 6) : (0 ≤ qga R Ws g nH h ∧ ∀ t, 0 ≤ t → t < nT → N (6 * t + 2) = 0 → ¬ t = g h → ¬ (R h t < qld R g nH t ∧ qga R Ws g nH h < Ws h t)) ↔ ∀ t, qcho N nT t → qga R Ws (qset g h t) nH h ≤ qga R Ws g nH h := by
  constructor
  · intro ⟨hge, H⟩ t ht
    by_cases e9 : t = 9
    · have : qga R Ws (qset g h t) nH h = 0 := by
        unfold qga
        rw [qset_s, if_pos e9]
      rw [this]; exact hge
    · by_cases e : t = g h
      · rw [qga_cg (g := g) (g' := qset g h t) (fun k _ _ => by
          by_cases ek : k = h
          · rw [ek, qset_s, e]
          · rw [qset_o ek]) h0 h1]
        exact Int.le_refl _
      · obtain ⟨t0, t1, ho⟩ : 0 ≤ t ∧ t < nT ∧ N (6 * t + 2) = 0 := by unfold qcho at ht; omega
        have hs := qld_set hR h0 h1 t0 t1 ho (fun e2 => e e2.symm)
        have hx := H t t0 t1 ho e
        generalize hz : qga R Ws g nH h = z at *
        unfold qga
        rw [qset_s, if_neg e9]
        split
        · rename_i hw
          have := hs.mp hw.2
          have := qld_ne hR h0 h1 t0 t1 ho h4 (fun e2 => e e2.symm) hw.1
          omega
        · exact hge
  · intro H
    have hge : 0 ≤ qga R Ws g nH h := by
      have := H 9 (Or.inl rfl)
      have e0 : qga R Ws (qset g h 9) nH h = 0 := by
        unfold qga
        rw [qset_s, if_pos rfl]
      omega
    refine ⟨hge, fun t t0 t1 ho e hx => ?_⟩
    have := H t (Or.inr ⟨t0, t1, ho⟩)
    have hs := qld_set hR h0 h1 t0 t1 ho (fun e2 => e e2.symm)
    have hI := (qld_I (R := R) (g := g) (t := t) (show 0 ≤ nH by omega)).1
    have e0 : qga R Ws (qset g h t) nH h = Ws h t := by
      unfold qga
      rw [qset_s, if_neg (by omega), if_pos ⟨by omega, hs.mpr (by omega)⟩]
    omega
end GMS
def qHf (a : Nat) (k : Int) : Prop := qYm a k ∨ a = 145
section GMD
variable {xs : List Int32} {d : Nat} {Q : bPo} {b b0 b1 b2 : Bool} {m : Nat → Int → Int} {nT nH : Int} {T P E U N : Int → Int} {t s h k : Int}
variable {nL hold i row : Int} {lB : Int → Int → Int} {lN : Int → Int} {m' : Nat → Int → Int} {g : Int → Int}
theorem qMR.hf (hM : qMR m nT nH T P E U N) (f : qFr qHf m m') : qMR m' nT nH T P E U N := hM.fr ⟨f 120 26 (by unfold qHf qYm; omega), f 120 27 (by unfold qHf qYm; omega)⟩ (qFr_at f 125 (fun k => by unfold qHf qYm; omega)) (qFr_at f 127 (fun k => by unfold qHf qYm; omega)) (qFr_at f 129 (fun k => by unfold qHf qYm; omega)) (qFr_at f 131 (fun k => by unfold qHf qYm; omega)) (qFr_at f 135 (fun k => by unfold qHf qYm; omega))
theorem qVm.hf (hc : qVm m nL lB lN) (f : qFr qHf m m') : qVm m' nL lB lN := hc.fr (f 120 7 (by unfold qHf qYm; omega)) (qFr_at f 123 (fun k => by unfold qHf qYm; omega)) (qFr_at f 122 (fun k => by unfold qHf qYm; omega))
theorem d_gainOf (hW : qWF nT nH T P E U N) (hM : qMR m nT nH T P E U N) (hV : qVs nL lB lN) (hc : qVm m nL lB lN) (hl : ∀ k, qbn (m 124 k)) (hh : m 120 36 = hold) (hb : -1 ≤ hold ∧ hold < nL) (h4 : nH ≤ 4) (hg : ∀ k, 0 ≤ k → k < nH → m 145 k = g k) (hp : qPk g nT nH N) (h0 : 0 ≤ h) (h1 : h < nH) (hQ : ∀ b2' m', qFr qYm m m' → (∀ k, qbn (m' 124 k)) → Q (qga (qrnk T P N) (qwsh T P E N lB lN hold) g nH h) ((b0, b1, b2'), m')) : bC xs 252 259 [vr 120, vi h] ((b0, b1, b2), m) Q := by
  have wn := qw_n hW
  have wd := qw_day hW
  refine qC rfl fun d hd => r_X12_gainOf_0 hd ?_
  rw [hg h h0 h1]
  have hpk := hp h h0 h1
  unfold qga at hQ
  refine ⟨by omega, by omega, fun h9 => ?_, fun h9 => ?_⟩
  · rw [if_neg h9] at hQ
    obtain ⟨t0, t1, ho⟩ : 0 ≤ g h ∧ g h < nT ∧ N (6 * g h + 2) = 0 := by omega
    have wt := qw_t hW t0 t1
    have hR := qrnk_R hW h4
    suffices H : ∀ k, k ≤ nH → 0 ≤ k → ∀ best lead, ((best = -1 ∧ lead = 1000000) ∨ (0 ≤ best ∧ best < k ∧ g best = g h ∧ qit T N (g h) (qal T P N best (g h) (N (6 * g h))) ∧ lead = qrnk T P N best (g h))) → qld (qrnk T P N) g nH (g h) = qfold (fun k a => if g k = g h then min a (qrnk T P N k (g h)) else a) nH k lead → bGo xs d aM_X12_gainOf 20 [vr 120, vi h, vi (g h), vi best, vi k] [] ((b0, b1, b2), m) Q from H 0 (by omega) (by omega) (-1) 1000000 (Or.inl ⟨rfl, rfl⟩) rfl
    refine qUpto ?_
    intro k hk ih k0 best lead hbl he
    refine r_X12_gainOf_20 hd ?_
    have hM0 := hM
    rw [hM.2.1]
    refine ⟨by omega, by omega, fun h2 => ⟨by omega, by omega, fun h3 => ?_, fun h3 => ?_⟩, fun h2 => ?_⟩
    · rw [qfold_ge (by omega)] at he
      have := hQ b2 m qFr.refl hl
      rw [if_neg (fun hx => ?_)] at this
      · exact this
      · have r1 := hR h (g h) h0 h1 t0 t1 ho
        rcases hbl with e | ⟨e1, e2, e3, e4, e5⟩
        · omega
        · have r2 := hR best (g h) e1 (by omega) t0 t1 ho
          omega
    · rw [qfold_ge (by omega)] at he
      rcases hbl with e | ⟨e1, e2, e3, e4, e5⟩
      · omega
      · have r3 : ¬ qrnk T P N h (g h) = 1000000 := by
          rw [h3] at e4
          unfold qrnk
          rw [if_pos e4]
          have := qal_dn hW h0 h1 t0 t1
          omega
        rw [if_pos ⟨r3, by rw [he, e5, h3]⟩] at hQ
        exact d_wishOf hW hM hV hc hl hh hb h0 h1 t0 t1 fun b2' m' f' hl' => ⟨⟨rfl, rfl⟩, hQ b2' m' f' hl'⟩
    · rw [qfold_lt h2] at he
      rw [hg k k0 h2]
      have hpk2 := hp k k0 h2
      refine ⟨by omega, by omega, by omega, fun h3 => ?_, fun h3 => ?_⟩
      · rw [if_neg h3] at he
        exact ih h2 (by omega) best lead (by omega) he
      · rw [if_pos h3] at he
        have bd := qal_dn hW k0 h2 t0 t1
        have stay : ¬ qit T N (g h) (qal T P N k (g h) (N (6 * g h))) → bGo xs d aM_X12_gainOf 20 [vr 120, vi h, vi (g h), vi best, vi (k + 1)] [] ((b0, b1, b2), m) Q := by
          intro hno
          have e6 : qrnk T P N k (g h) = 1000000 := by unfold qrnk; rw [if_neg hno]
          have : min lead (qrnk T P N k (g h)) = lead := by
            rcases hbl with e | ⟨e1, e2, e3, e4, e5⟩
            · omega
            · have := hR best (g h) e1 (by omega) t0 t1 ho
              omega
          rw [this] at he
          exact ih h2 (by omega) best lead (by omega) he
        refine d_aloneOf hW hM k0 h2 t0 t1 ⟨rfl, by omega, fun e => stay (by omega), fun e => ⟨by omega, ?_⟩⟩
        dsimp only
        rw [hM0.2.2.2.2.2.2, hM0.2.2.1]
        refine ⟨by omega, by omega, fun e2 => stay (by omega), fun e2 => ⟨by omega, fun e3 => ?_, fun e3 => ?_⟩⟩
        · have e6 : qrnk T P N k (g h) = qal T P N k (g h) (N (6 * g h)) * 4 + k := by unfold qrnk; rw [if_pos (by omega)]
          have : min lead (qrnk T P N k (g h)) = qrnk T P N k (g h) := by omega
          rw [this] at he
          exact ih h2 (by omega) k _ (Or.inr ⟨k0, by omega, h3, by omega, rfl⟩) he
        · rcases hbl with ⟨e4, _⟩ | ⟨f1, f2, f3, f4, f5⟩
          · exact absurd e4 e3
          · have bd2 := qal_dn hW f1 (show best < nH by omega) t0 t1
            have e6 : qrnk T P N k (g h) = qal T P N k (g h) (N (6 * g h)) * 4 + k := by unfold qrnk; rw [if_pos (by omega)]
            have e7 : qrnk T P N best (g h) = qal T P N best (g h) (N (6 * g h)) * 4 + best := by unfold qrnk; rw [if_pos f4]
            refine d_aloneOf hW hM k0 h2 t0 t1 ⟨rfl, d_aloneOf hW hM f1 (by omega) t0 t1 ⟨rfl, by omega, by omega, fun e8 => ?_, fun e8 => ?_⟩⟩
            · have : min lead (qrnk T P N k (g h)) = lead := by omega
              rw [this] at he
              exact ih h2 (by omega) best lead (Or.inr ⟨f1, by omega, f3, f4, f5⟩) he
            · have : min lead (qrnk T P N k (g h)) = qrnk T P N k (g h) := by omega
              rw [this] at he
              exact ih h2 (by omega) k _ (Or.inr ⟨k0, by omega, h3, by omega, rfl⟩) he
  · rw [if_pos h9] at hQ
    exact hQ b2 m qFr.refl hl
theorem d_isRest (hW : qWF nT nH T P E U N) (hM : qMR m nT nH T P E U N) (hV : qVs nL lB lN) (hc : qVm m nL lB lN) (hl : ∀ k, qbn (m 124 k)) (hh : m 120 36 = hold) (hb : -1 ≤ hold ∧ hold < nL) (h4 : nH ≤ 4) (hg : ∀ k, 0 ≤ k → k < nH → m 145 k = g k) (hp : qPk g nT nH N) (hQ : ∀ b2' m', qFr qHf m m' → (∀ k, qbn (m' 124 k)) → (∀ k, 0 ≤ k → k < nH → m' 145 k = g k) → Q (qrz (qrnk T P N) (qwsh T P E N lB lN hold) g nT nH N) ((b0, b1, b2'), m')) : bC xs 253 262 [vr 120] ((b0, b1, b2), m) Q := by
  have wn := qw_n hW
  have hR := qrnk_R hW h4
  have hw := qGw_w hW hV hb h4
  refine qC rfl fun d hd => r_X12_isRest_0 hd ?_
  suffices H : ∀ h, h ≤ nH → 0 ≤ h → (∀ h', 0 ≤ h' → h' < h → ∀ t, qcho N nT t → qga (qrnk T P N) (qwsh T P E N lB lN hold) (qset g h' t) nH h' ≤ qga (qrnk T P N) (qwsh T P E N lB lN hold) g nH h') → ∀ b2 m1, qFr qHf m m1 → (∀ k, qbn (m1 124 k)) → (∀ k, 0 ≤ k → k < nH → m1 145 k = g k) → bGo xs d aM_X12_isRest 2 [vr 120, vi h, vn, vn, vn, vn] [] ((b0, b1, b2), m1) Q from H 0 (by omega) (by omega) (fun h' a b => by omega) b2 m qFr.refl hl hg
  refine qUpto ?_
  intro h hH ih h0 hcond b2 m1 f1 hl1 hg1
  refine r_X12_isRest_2 hd ?_
  have hM1 := hM.hf f1
  rw [hM1.2.1]
  refine ⟨by omega, by omega, fun h2 => ?_, fun h1 => ⟨by omega, ?_⟩⟩
  · rw [qrz_y (fun h' a b => (qcont hR h4 a b wn.1.2).mpr (hcond h' a (by omega)))] at hQ
    exact hQ b2 m1 f1 hl1 hg1
  · refine d_gainOf hW hM1 hV (hc.hf f1) hl1 (by rw [f1 120 36 (by unfold qHf qYm; omega)]; exact hh) hb h4 hg1 hp h0 h1 ?_
    intro b2' m2 f2 hl2
    refine ⟨⟨rfl, rfl⟩, ?_⟩
    dsimp only
    rw [hg1 h h0 h1]
    have ob := qga_bn (R := qrnk T P N) hw.2.2.2 hp h0 h1
    generalize hown : qga (qrnk T P N) (qwsh T P E N lB lN hold) g nH h = own at *
    unfold qbn at ob
    have f12 : qFr qHf m m2 := f1.trans (f2.mono (fun a k h => Or.inl h))
    have hg2 : ∀ k, 0 ≤ k → k < nH → ¬ k = h → m2 145 k = g k := fun k a b _ => by rw [f2 145 k (by unfold qYm; omega)]; exact hg1 k a b
    suffices H : ∀ t, t ≤ 10 → 0 ≤ t → ∀ mo, ((mo = 0 ∧ ∀ t', t' < t → qcho N nT t' → qga (qrnk T P N) (qwsh T P E N lB lN hold) (qset g h t') nH h ≤ own) ∨ (mo = 1 ∧ ∃ t', qcho N nT t' ∧ own < qga (qrnk T P N) (qwsh T P E N lB lN hold) (qset g h t') nH h)) → ∀ b2 m2, qFr qHf m m2 → (∀ k, qbn (m2 124 k)) → (∀ k, 0 ≤ k → k < nH → ¬ k = h → m2 145 k = g k) → bGo xs d aM_X12_isRest 29 [vr 120, vi h, vi (g h), vi own, vi mo, vi t] [] ((b0, b1, b2), m2) Q from H 0 (by omega) (by omega) 0 (Or.inl ⟨rfl, fun t' a b => by unfold qcho at b; omega⟩) b2' m2 f12 hl2 hg2
    refine qUpto ?_
    intro t ht iht t0 mo hmo b2 m2 f2 hl2 hg2
    have hM2 := hM.hf f2
    have hback : ∀ k, 0 ≤ k → k < nH → up m2 145 h (g h) 145 k = g k := fun k a b => by
      rw [qup_if]
      by_cases e : k = h
      · rw [if_pos e, e]
      · rw [if_neg e]; exact hg2 k a b e
    have hset : ∀ u k, 0 ≤ k → k < nH → up m2 145 h u 145 k = qset g h u k := fun u k a b => by
      rw [qup_if]
      by_cases e : k = h
      · rw [if_pos e, e, qset_s]
      · rw [if_neg e, qset_o e]; exact hg2 k a b e
    have skip : ¬ qcho N nT t → t < 10 → bGo xs d aM_X12_isRest 29 [vr 120, vi h, vi (g h), vi own, vi mo, vi (t + 1)] [] ((b0, b1, b2), m2) Q := by
      intro hno h10
      refine iht h10 (by omega) mo ?_ b2 m2 f2 hl2 hg2
      rcases hmo with ⟨e, hx⟩ | hx
      · refine Or.inl ⟨e, fun t' a b => ?_⟩
        by_cases e2 : t' = t
        · rw [e2] at b; exact absurd b hno
        · exact hx t' (by omega) b
      · exact Or.inr hx
    have stay1 : qcho N nT t → t < 10 → ¬ mo = 0 → bGo xs d aM_X12_isRest 29 [vr 120, vi h, vi (g h), vi own, vi 1, vi (t + 1)] [] ((b0, b1, b2), up m2 145 h t) Q := by
      intro hy h10 hm
      refine iht h10 (by omega) 1 ?_ b2 _ (qFr_up f2 (Or.inr rfl)) (fun k => by rw [qup_n (by omega)]; exact hl2 k) (fun k a b e => by rw [qup_o e]; exact hg2 k a b e)
      rcases hmo with ⟨e, hx⟩ | hx
      · exact absurd e hm
      · exact Or.inr ⟨rfl, hx.2⟩
    have try1 : qcho N nT t → t < 10 → mo = 0 → bC xs 252 259 [vr 120, vi h] ((b0, b1, b2), up m2 145 h t) (fun z3 μ4 => (μ4.1.1 = b0 ∧ μ4.1.2.1 = b1) ∧ (inR z3 ∧ (inR own ∧ ((z3 ≤ own → (bGo xs d aM_X12_isRest 29 [vr 120, vi h, vi (g h), vi own, vi 0, vi (t + 1)] [] ((b0, b1, μ4.1.2.2), μ4.2) Q)) ∧ (own < z3 → (bGo xs d aM_X12_isRest 29 [vr 120, vi h, vi (g h), vi own, vi 1, vi (t + 1)] [] ((b0, b1, μ4.1.2.2), μ4.2) Q)))))) := by
      intro hy h10 hm
      have f3 : qFr qHf m (up m2 145 h t) := qFr_up f2 (Or.inr rfl)
      have hp3 : qPk (qset g h t) nT nH N := fun k a b => by
        by_cases e : k = h
        · rw [e, qset_s]; exact hy
        · rw [qset_o e]; exact hp k a b
      refine d_gainOf hW (hM.hf f3) hV (hc.hf f3) (fun k => by rw [qup_n (by omega)]; exact hl2 k) (by rw [f3 120 36 (by unfold qHf qYm; omega)]; exact hh) hb h4 (hset t) hp3 h0 h1 ?_
      intro b2' m4 f4 hl4
      have zb := qga_bn (R := qrnk T P N) hw.2.2.2 hp3 h0 h1
      unfold qbn at zb
      have f34 : qFr qHf m m4 := f3.trans (f4.mono (fun a k h => Or.inl h))
      have hg4 : ∀ k, 0 ≤ k → k < nH → ¬ k = h → m4 145 k = g k := fun k a b e => by rw [f4 145 k (by unfold qYm; omega), qup_o e]; exact hg2 k a b e
      refine ⟨⟨rfl, rfl⟩, by omega, by omega, fun hz => iht h10 (by omega) 0 ?_ b2' m4 f34 hl4 hg4, fun hz => iht h10 (by omega) 1 (Or.inr ⟨rfl, t, hy, hz⟩) b2' m4 f34 hl4 hg4⟩
      rcases hmo with ⟨e, hx⟩ | hx
      · refine Or.inl ⟨rfl, fun t' a b => ?_⟩
        by_cases e2 : t' = t
        · rw [e2]; exact hz
        · exact hx t' (by omega) b
      · omega
    refine r_X12_isRest_29 hd ?_
    rw [hM2.1, hM2.2.2.2.2.2.2]
    refine ⟨by omega, fun h9 => ⟨by omega, by omega, fun hm => ?_, fun hm => ?_⟩, fun h9 => ⟨by omega, fun e9 => ⟨by omega, by omega, fun hm => stay1 (Or.inl e9) (by omega) hm, fun hm => try1 (Or.inl e9) (by omega) hm⟩, fun e9 => ⟨by omega, fun h => by omega, fun _ => ⟨by omega, by omega, fun h => skip (by unfold qcho; omega) (by omega), fun t1 => ⟨by omega, ?_⟩⟩⟩⟩⟩
    · rcases hmo with ⟨e, hx⟩ | hx
      · refine ih h1 (by omega) (fun h' a b t' hc' => ?_) b2 _ (qFr_up f2 (Or.inr rfl)) (fun k => by rw [qup_n (by omega)]; exact hl2 k) hback
        by_cases e2 : h' = h
        · rw [e2, hown]
          exact hx t' (by unfold qcho at hc'; omega) hc'
        · exact hcond h' a (by omega) t' hc'
      · omega
    · rcases hmo with ⟨e, hx⟩ | ⟨_, t', hc', hx⟩
      · exact absurd e hm
      · rw [qrz_n (fun hr => by
          have := (qcont hR h4 h0 h1 wn.1.2).mp (hr h h0 h1) t' hc'
          rw [hown] at this
          omega)] at hQ
        exact hQ b2 _ (qFr_up f2 (Or.inr rfl)) (fun k => by rw [qup_n (by omega)]; exact hl2 k) hback
    · have ws := qw_st hW t0 t1
      exact ⟨by omega, fun hs => skip (by unfold qcho; omega) (by omega), fun hs => ⟨by omega, by omega, fun hm => stay1 (Or.inr ⟨t0, t1, hs⟩) (by omega) hm, fun hm => try1 (Or.inr ⟨t0, t1, hs⟩) (by omega) hm⟩⟩
end GMD
