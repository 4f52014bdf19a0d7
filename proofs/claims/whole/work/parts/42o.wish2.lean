/-! B: wishes on both sides -/
def qwE (v k s d n : Int) : Int → Int := fun i => if i = 0 then v else if i = 1 then k else if i = 2 then s else if i = 3 then d else if i = 4 then n else 0
def qask (N : Int → Int) (h : Int) : Int := qfold (fun k a => a + N (36 + 5 * h + k)) 5 0 0
def qwd (T P N : Int → Int) (h t : Int) : Int := if N (6 * t + 2) = 0 then max 0 (qal T P N h t (N (6 * t))) else 0
def qwsh (T P E N : Int → Int) (lB : Int → Int → Int) (lN : Int → Int) (hold h t : Int) : Int := if hold = -1 then T (4 * t) else qVw lB lN hold (qwE (T (4 * t)) (E (6 * h + 5)) (qask N h) (qwd T P N h t) (T (4 * t + 3) - N (6 * t)))
def qPwish (T P E N : Int → Int) (nT nH : Int) (lB : Int → Int → Int) (lN : Int → Int) (hold h t : Int) : Int := if (0 ≤ h ∧ h < nH) ∧ 0 ≤ t ∧ t < nT then qwsh T P E N lB lN hold h t else -1000000
theorem qlet_c {c : Int} (h : ¬ qlet c = -1) : c = 118 ∨ c = 107 ∨ c = 115 ∨ c = 100 ∨ c = 110 ∨ c = 112 ∨ c = 99 ∨ c = 105 := by
  unfold qlet at h
  by_cases e1 : c = 118
  · omega
  by_cases e2 : c = 107
  · omega
  by_cases e3 : c = 115
  · omega
  by_cases e4 : c = 100
  · omega
  by_cases e5 : c = 110
  · omega
  by_cases e6 : c = 112
  · omega
  by_cases e7 : c = 99
  · omega
  by_cases e8 : c = 105
  · omega
  rw [if_neg e1, if_neg e2, if_neg e3, if_neg e4, if_neg e5, if_neg e6, if_neg e7, if_neg e8] at h
  exact absurd rfl h
section WISH
variable {xs : List Int32} {d : Nat} {Q : bPo} {b b0 b1 b2 : Bool} {m : Nat → Int → Int} {nT nH : Int} {T P E U N : Int → Int} {t s h k : Int}
variable {nL l hold : Int} {lB : Int → Int → Int} {lN : Int → Int} {m' : Nat → Int → Int}
theorem qask_bd (hW : qWF nT nH T P E U N) (h0 : 0 ≤ h) (h1 : h < nH) : 0 ≤ qask N h ∧ qask N h ≤ 45 := by
  have : 0 ≤ qask N h ∧ qask N h ≤ 9 * 5 := by
    unfold qask
    refine qfold_inv (I := fun i a => 0 ≤ a ∧ a ≤ 9 * i) ?_ (by omega) (by omega)
    intro i a i0 i1 ha
    have := qw_sk hW h0 h1 i0 i1
    try dsimp only
    omega
  omega
theorem qwd_bd (hW : qWF nT nH T P E U N) (h0 : 0 ≤ h) (h1 : h < nH) (t0 : 0 ≤ t) (t1 : t < nT) : 0 ≤ qwd T P N h t ∧ qwd T P N h t ≤ 216 := by
  have := qal_dn hW h0 h1 t0 t1
  unfold qwd
  split <;> omega
theorem qwE_bn {v k s d n : Int} (h1 : qbn v) (h2 : qbn k) (h3 : qbn s) (h4 : qbn d) (h5 : qbn n) : ∀ i, qbn (qwE v k s d n i) := by
  intro i
  unfold qwE
  by_cases e0 : i = 0
  · rw [if_pos e0]; exact h1
  rw [if_neg e0]
  by_cases e1 : i = 1
  · rw [if_pos e1]; exact h2
  rw [if_neg e1]
  by_cases e2 : i = 2
  · rw [if_pos e2]; exact h3
  rw [if_neg e2]
  by_cases e3 : i = 3
  · rw [if_pos e3]; exact h4
  rw [if_neg e3]
  by_cases e4 : i = 4
  · rw [if_pos e4]; exact h5
  rw [if_neg e4]
  unfold qbn
  omega
theorem qws_E (hW : qWF nT nH T P E U N) (h0 : 0 ≤ h) (h1 : h < nH) (t0 : 0 ≤ t) (t1 : t < nT) : ∀ i, qbn (qwE (T (4 * t)) (E (6 * h + 5)) (qask N h) (qwd T P N h t) (T (4 * t + 3) - N (6 * t)) i) := by
  have a1 := qw_t hW t0 t1
  have a2 := qw_e hW h0 h1
  have a3 := qask_bd hW h0 h1
  have a4 := qwd_bd hW h0 h1 t0 t1
  have a5 := qw_dn hW t0 t1
  exact qwE_bn (by unfold qbn; omega) (by unfold qbn; omega) (by unfold qbn; omega) (by unfold qbn; omega) (by unfold qbn; omega)
theorem qws_bn (hW : qWF nT nH T P E U N) (hV : qVs nL lB lN) (hh : -1 ≤ hold ∧ hold < nL) (h0 : 0 ≤ h) (h1 : h < nH) (t0 : 0 ≤ t) (t1 : t < nT) : qbn (qwsh T P E N lB lN hold h t) := by
  unfold qwsh
  by_cases e : hold = -1
  · rw [if_pos e]
    have a1 := qw_t hW t0 t1
    unfold qbn
    omega
  · rw [if_neg e]
    exact qVw_bn hV (by omega) hh.2 (qws_E hW h0 h1 t0 t1)
theorem c_allSkills (hW : qWF nT nH T P E U N) (hE : qER m (bW b) nT nH T P E U N) (h0 : 0 ≤ h) (h1 : h < nH) (hQ : Q (qask N h) ((b0, b1, b2), m)) : bC xs 2 49 [vr (bW b), vi h] ((b0, b1, b2), m) Q := by
  refine qC rfl fun d hd => r_X4_allSkills_0 hd ?_
  have wn := qw_n hW
  suffices H : ∀ k, k ≤ 5 → 0 ≤ k → ∀ acc, Q (qfold (fun k a => a + N (36 + 5 * h + k)) 5 k acc) ((b0, b1, b2), m) → bGo xs d aM_X4_allSkills 4 [vr (bW b), vi h, vi acc, vi k] [] ((b0, b1, b2), m) Q from H 0 (by omega) (by omega) 0 hQ
  refine qUpto ?_
  intro k hk ih k0 acc hq
  refine r_X4_allSkills_4 hd ⟨by omega, fun h => ?_, fun h => ⟨by omega, ?_⟩⟩
  · rw [qfold_ge (by omega)] at hq
    exact hq
  · rw [qe_sk hE h0 h1 k0 h]
    rw [qfold_lt h] at hq
    exact ih h (by omega) _ hq
theorem c_wishTail {v k s d n : Int} (hV : qVs nL lB lN) (hc : qVc m nL lB lN) (hh : m 0 12 = hold) (l0 : 0 ≤ hold) (l1 : hold < nL) (hE : ∀ i, qbn (qwE v k s d n i)) (hQ : ∀ m', qFr qYf m m' → Q (qVw lB lN hold (qwE v k s d n)) ((b0, b1, b2), m')) : bC xs 1 283 [vr 15, vi 0] ((b0, b1, b2), m) (fun _ μ4 => (μ4.1 = (b0, b1, b2)) ∧ (bC xs 3 99 [vr 6, vi (μ4.2 0 12)] ((b0, b1, b2), up (up (up (up (up μ4.2 15 0 v) 15 1 k) 15 2 s) 15 3 d) 15 4 n) (fun z5 μ6 => (μ6.1 = (b0, b1, b2)) ∧ (Q z5 ((b0, b1, b2), μ6.2))))) := by
  refine c_fillA fun m1 f1 e1 => ⟨rfl, ?_⟩
  dsimp only
  rw [f1 0 12 (by omega), hh]
  have f2 : qFr qYf m (up (up (up (up (up m1 15 0 v) 15 1 k) 15 2 s) 15 3 d) 15 4 n) := qFr_up (qFr_up (qFr_up (qFr_up (qFr_up (f1.mono (fun a k h => by unfold qYf; omega)) (by unfold qYf; omega)) (by unfold qYf; omega)) (by unfold qYf; omega)) (by unfold qYf; omega)) (by unfold qYf; omega)
  refine c_worthV hV (hc.yf f2) l0 l1 hE ?_ (fun m2 f3 => ⟨rfl, hQ m2 (f2.trans (f3.mono (fun a k h => by unfold qSf at h; unfold qYf; omega)))⟩)
  intro i i0 i7
  rw [qup_if, qup_if, qup_if, qup_if, qup_if, e1 i i0 (by omega)]
  unfold qwE
  have : i = 0 ∨ i = 1 ∨ i = 2 ∨ i = 3 ∨ i = 4 ∨ 5 ≤ i := by omega
  rcases this with rfl | rfl | rfl | rfl | rfl | h5
  · rfl
  · rfl
  · rfl
  · rfl
  · rfl
  · rw [if_neg (by omega), if_neg (by omega), if_neg (by omega), if_neg (by omega), if_neg (by omega), if_neg (by omega), if_neg (by omega), if_neg (by omega), if_neg (by omega), if_neg (by omega)]
theorem c_wishOf (hW : qWF nT nH T P E U N) (hE : qER m (bW b0) nT nH T P E U N) (hV : qVs nL lB lN) (hc : qVc m nL lB lN) (hh : m 0 12 = hold) (hb : -1 ≤ hold ∧ hold < nL) (h0 : 0 ≤ h) (h1 : h < nH) (t0 : 0 ≤ t) (t1 : t < nT) (hQ : ∀ m', qFr qYf m m' → Q (qwsh T P E N lB lN hold h t) ((b0, b1, b2), m')) : bC xs 4 156 [vr 0, vi h, vi t] ((b0, b1, b2), m) Q := by
  refine qC rfl fun d hd => r_X11_wishOf_0 hd ?_
  have wn := qw_n hW
  have en := qe_n hE
  have et := qe_t hE t0 t1
  have el := qe_l hE t0 t1
  have ee := qe_e hE h0 h1
  have ws := qw_st hW t0 t1
  have h6 := hV.1
  rw [hh, hc.1, en.1, et.1, el.2.2.2.1, et.2.2, el.1, ee]
  unfold qwsh at hQ
  refine ⟨by omega, fun hq1 => ⟨by omega, ?_⟩, fun hq1 => ⟨by omega, by omega, fun hq2 => by omega, fun _ => ⟨by omega, fun hq2 => by omega, fun _ => ⟨by omega, by omega, fun hq2 => by omega, fun _ => ⟨by omega, by omega, fun hs => ?_, fun hs => ?_⟩⟩⟩⟩⟩
  · have := hQ m qFr.refl
    rw [if_pos (by omega)] at this
    exact this
  · rw [if_neg (by omega)] at hQ
    have ew : qwd T P N h t = 0 := by unfold qwd; rw [if_neg hs]
    refine ⟨by omega, by omega, by omega, by omega, c_allSkills hW hE h0 h1 ⟨rfl, ?_⟩⟩
    dsimp only
    rw [show max (0 : Int) 0 = 0 by omega]
    have := qws_E hW h0 h1 t0 t1
    rw [ew] at this hQ
    exact c_wishTail hV hc hh (by omega) hb.2 this hQ
  · rw [if_neg (by omega)] at hQ
    have bd := qal_dn hW h0 h1 t0 t1
    have ew : max (qal T P N h t (N (6 * t))) 0 = qwd T P N h t := by unfold qwd; rw [if_pos hs]; omega
    refine c_aloneDays hW hE h0 h1 t0 t1 ⟨rfl, by omega, by omega, by omega, by omega, c_allSkills hW hE h0 h1 ⟨rfl, by omega, ?_⟩⟩
    dsimp only
    rw [et.1, ee, et.2.2, el.1, ew]
    exact c_wishTail hV hc hh (by omega) hb.2 (qws_E hW h0 h1 t0 t1) hQ
theorem c_wish (hW : qWF nT nH T P E U N) (hE : qER m (bW b0) nT nH T P E U N) (hV : qVs nL lB lN) (hc : qVc m nL lB lN) (hh : m 0 12 = hold) (hb : -1 ≤ hold ∧ hold < nL) (x1 : inR h) (x2 : inR t) (hQ : ∀ m', qFr qYf m m' → Q (qPwish T P E N nT nH lB lN hold h t) ((b0, b1, b2), m')) : bC xs 5 155 [vr 0, vi h, vi t] ((b0, b1, b2), m) Q := by
  refine qC rfl fun d hd => r_X11_wish_0 hd ?_
  have wn := qw_n hW
  have en := qe_n hE
  rw [en.1, en.2]
  unfold qPwish at hQ
  have hno : ¬ ((0 ≤ h ∧ h < nH) ∧ 0 ≤ t ∧ t < nT) → Q (-1000000) ((b0, b1, b2), m) := fun hn => by
    have := hQ m qFr.refl
    rw [if_neg hn] at this
    exact this
  refine ⟨x1, fun _ => hno (by omega), fun _ => ⟨x1, by omega, fun _ => hno (by omega), fun _ => ⟨x2, fun _ => hno (by omega), fun _ => ⟨x2, by omega, fun _ => hno (by omega), fun _ => ?_⟩⟩⟩⟩
  rw [if_pos (by omega)] at hQ
  exact c_wishOf hW hE hV hc hh hb (by omega) (by omega) (by omega) (by omega) fun m' f => ⟨rfl, hQ m' f⟩
/-! the model's -/
theorem d_wishTail {v k s d n : Int} (hV : qVs nL lB lN) (hc : qVm m nL lB lN) (l0 : 0 ≤ l) (l1 : l < nL) (hl : ∀ k, qbn (m 124 k)) (h118 : m 124 118 = v) (h107 : m 124 107 = k) (h115 : m 124 115 = s) (hE : ∀ i, qbn (qwE v k s d n i)) (hQ : ∀ m', qFr qYm m m' → (∀ k, qbn (m' 124 k)) → Q (qVw lB lN l (qwE v k s d n)) ((b0, b1, true), m')) : bC xs 250 256 [vr 120, vi l] ((b0, b1, b2), up (up (up (up (up m 124 100 d) 124 110 n) 124 112 0) 124 99 0) 124 105 0) Q := by
  have f2 : qFr qYm m (up (up (up (up (up m 124 100 d) 124 110 n) 124 112 0) 124 99 0) 124 105 0) := qFr_up (qFr_up (qFr_up (qFr_up (qFr_up qFr.refl (by unfold qYm; omega)) (by unfold qYm; omega)) (by unfold qYm; omega)) (by unfold qYm; omega)) (by unfold qYm; omega)
  have hd : qbn d := hE 3
  have hn : qbn n := hE 4
  have h0 : qbn 0 := by unfold qbn; omega
  have hl2 : ∀ k, qbn (up (up (up (up (up m 124 100 d) 124 110 n) 124 112 0) 124 99 0) 124 105 0 124 k) := by
    intro k
    rw [qup_if, qup_if, qup_if, qup_if, qup_if]
    split
    · exact h0
    split
    · exact h0
    split
    · exact h0
    split
    · exact hn
    split
    · exact hd
    · exact hl k
  refine d_worthV hV (hc.ym f2) l0 l1 hE ?_ ?_
  · intro c hcl
    rcases qlet_c hcl with rfl | rfl | rfl | rfl | rfl | rfl | rfl | rfl
    · rw [qup_o (by omega), qup_o (by omega), qup_o (by omega), qup_o (by omega), qup_o (by omega), h118]; rfl
    · rw [qup_o (by omega), qup_o (by omega), qup_o (by omega), qup_o (by omega), qup_o (by omega), h107]; rfl
    · rw [qup_o (by omega), qup_o (by omega), qup_o (by omega), qup_o (by omega), qup_o (by omega), h115]; rfl
    · rw [qup_o (by omega), qup_o (by omega), qup_o (by omega), qup_o (by omega), qup_s]; rfl
    · rw [qup_o (by omega), qup_o (by omega), qup_o (by omega), qup_s]; rfl
    · rw [qup_o (by omega), qup_o (by omega), qup_s]; rfl
    · rw [qup_o (by omega), qup_s]; rfl
    · rw [qup_s]; rfl
  · intro m2 f3
    refine hQ m2 (f2.trans (f3.mono (fun a k h => by unfold qLn at h; unfold qYm; omega))) ?_
    intro k
    rw [f3 124 k (by unfold qLn; omega)]
    exact hl2 k
theorem d_wishOf (hW : qWF nT nH T P E U N) (hM : qMR m nT nH T P E U N) (hV : qVs nL lB lN) (hc : qVm m nL lB lN) (hl : ∀ k, qbn (m 124 k)) (hh : m 120 36 = hold) (hb : -1 ≤ hold ∧ hold < nL) (h0 : 0 ≤ h) (h1 : h < nH) (t0 : 0 ≤ t) (t1 : t < nT) (hQ : ∀ b2' m', qFr qYm m m' → (∀ k, qbn (m' 124 k)) → Q (qwsh T P E N lB lN hold h t) ((b0, b1, b2'), m')) : bC xs 251 257 [vr 120, vi h, vi t] ((b0, b1, b2), m) Q := by
  refine qC rfl fun d hd => r_X12_wishOf_0 hd ?_
  have wn := qw_n hW
  have h6 := hV.1
  rw [hh, hM.2.2.1]
  refine ⟨by omega, fun hn => ?_, fun hn => ⟨by omega, ?_⟩⟩
  · unfold qwsh at hQ
    rw [if_neg hn] at hQ
    suffices H : ∀ k, k ≤ 5 → 0 ≤ k → ∀ acc, qask N h = qfold (fun k a => a + N (36 + 5 * h + k)) 5 k acc → bGo xs d aM_X12_wishOf 22 [vr 120, vi h, vi t, vi acc, vi k] [] ((b0, b1, b2), m) Q from H 0 (by omega) (by omega) 0 rfl
    refine qUpto ?_
    intro k hk ih k0 acc hq
    refine r_X12_wishOf_22 hd ?_
    have hM0 := hM
    rw [hh]
    simp only [hM.1, hM.2.1, hM.2.2.1, hM.2.2.2.1, hM.2.2.2.2.1, hM.2.2.2.2.2.1, hM.2.2.2.2.2.2]
    refine ⟨by omega, fun h5 => ?_, fun h5 => ⟨by omega, ?_⟩⟩
    · rw [qfold_ge (by omega)] at hq
      have ws := qw_st hW t0 t1
      have hwE := qws_E hW h0 h1 t0 t1
      have bn1 : qbn (T (4 * t)) := hwE 0
      have bn2 : qbn (E (6 * h + 5)) := hwE 1
      have bn3 : qbn (qask N h) := hwE 2
      rw [← hq]
      have f1 : qFr qYm m (up (up (up m 124 118 (T (4 * t))) 124 107 (E (6 * h + 5))) 124 115 (qask N h)) := qFr_up (qFr_up (qFr_up qFr.refl (by unfold qYm; omega)) (by unfold qYm; omega)) (by unfold qYm; omega)
      have hl1 : ∀ k, qbn (up (up (up m 124 118 (T (4 * t))) 124 107 (E (6 * h + 5))) 124 115 (qask N h) 124 k) := by
        intro k
        rw [qup_if, qup_if, qup_if]
        split
        · exact bn3
        split
        · exact bn2
        split
        · exact bn1
        · exact hl k
      have e118 : up (up (up m 124 118 (T (4 * t))) 124 107 (E (6 * h + 5))) 124 115 (qask N h) 124 118 = T (4 * t) := by rw [qup_o (by omega), qup_o (by omega), qup_s]
      have e107 : up (up (up m 124 118 (T (4 * t))) 124 107 (E (6 * h + 5))) 124 115 (qask N h) 124 107 = E (6 * h + 5) := by rw [qup_o (by omega), qup_s]
      have e115 : up (up (up m 124 118 (T (4 * t))) 124 107 (E (6 * h + 5))) 124 115 (qask N h) 124 115 = qask N h := qup_s
      have e36 : up (up (up m 124 118 (T (4 * t))) 124 107 (E (6 * h + 5))) 124 115 (qask N h) 120 36 = hold := by rw [f1 120 36 (by unfold qYm; omega)]; exact hh
      have hM1 : qMR (up (up (up m 124 118 (T (4 * t))) 124 107 (E (6 * h + 5))) 124 115 (qask N h)) nT nH T P E U N := hM0.fr ⟨f1 120 26 (by unfold qYm; omega), f1 120 27 (by unfold qYm; omega)⟩ (qFr_at f1 125 (fun k => by unfold qYm; omega)) (qFr_at f1 127 (fun k => by unfold qYm; omega)) (qFr_at f1 129 (fun k => by unfold qYm; omega)) (qFr_at f1 131 (fun k => by unfold qYm; omega)) (qFr_at f1 135 (fun k => by unfold qYm; omega))
      generalize up (up (up m 124 118 (T (4 * t))) 124 107 (E (6 * h + 5))) 124 115 (qask N h) = m1 at *
      have hc1 := hc.ym f1
      refine ⟨by omega, by omega, by omega, fun h => by omega, fun _ => ⟨by omega, by omega, fun h => by omega, fun _ => ⟨by omega, by omega, fun hs => ⟨by omega, by omega, ?_⟩, fun hs => ?_⟩⟩⟩
      · have ew : qwd T P N h t = 0 := by unfold qwd; rw [if_neg hs]
        rw [ew] at hwE hQ
        exact d_wishTail hV hc1 (by omega) hb.2 hl1 e118 e107 e115 hwE (fun m' f' hl' => ⟨⟨rfl, rfl⟩, hQ _ m' (f1.trans f') hl'⟩)
      · have bd := qal_dn hW h0 h1 t0 t1
        have ew : max 0 (qal T P N h t (N (6 * t))) = qwd T P N h t := by unfold qwd; rw [if_pos hs]
        refine d_aloneOf hW hM1 h0 h1 t0 t1 ⟨rfl, by omega, by omega, by omega, ?_⟩
        dsimp only
        rw [e36, hM1.2.2.1, hM1.2.2.2.2.2.2, ew]
        exact d_wishTail hV hc1 (by omega) hb.2 hl1 e118 e107 e115 hwE (fun m' f' hl' => ⟨⟨rfl, rfl⟩, hQ _ m' (f1.trans f') hl'⟩)
    · rw [qfold_lt h5] at hq
      exact ih h5 (by omega) _ hq
  · have := hQ b2 m qFr.refl hl
    unfold qwsh at this
    rw [if_pos hn] at this
    exact this
theorem d_wish (hW : qWF nT nH T P E U N) (hM : qMR m nT nH T P E U N) (hV : qVs nL lB lN) (hc : qVm m nL lB lN) (hl : ∀ k, qbn (m 124 k)) (hh : m 120 36 = hold) (hb : -1 ≤ hold ∧ hold < nL) (x1 : inR h) (x2 : inR t) (hQ : ∀ b2' m', qFr (fun a k => qYm a k ∨ (a = 120 ∧ k = 0)) m m' → (∀ k, qbn (m' 124 k)) → Q (qPwish T P E N nT nH lB lN hold h t) ((b0, b1, b2'), m')) : bC xs 252 258 [vr 120, vi h, vi t] ((b0, b1, b2), m) Q := by
  refine qC rfl fun d hd => r_X12_wish_0 hd ?_
  have wn := qw_n hW
  rw [hM.1, hM.2.1]
  have f0 : qFr (fun a k => qYm a k ∨ (a = 120 ∧ k = 0)) m (up m 120 0 0) := qFr_up qFr.refl (Or.inr ⟨rfl, rfl⟩)
  have hl0 : ∀ k, qbn (up m 120 0 0 124 k) := fun k => by rw [qup_n (by omega)]; exact hl k
  unfold qPwish at hQ
  have hno : ¬ ((0 ≤ h ∧ h < nH) ∧ 0 ≤ t ∧ t < nT) → Q (-1000000) ((b0, b1, b2), up m 120 0 0) := fun hn => by
    have := hQ b2 _ f0 hl0
    rw [if_neg hn] at this
    exact this
  refine ⟨x1, fun _ => hno (by omega), fun _ => ⟨x1, by omega, fun _ => hno (by omega), fun _ => ⟨x2, fun _ => hno (by omega), fun _ => ⟨x2, by omega, fun _ => hno (by omega), fun _ => ?_⟩⟩⟩⟩
  rw [if_pos (by omega)] at hQ
  exact d_wishOf hW hM.thrown hV (hc.fr (qup_o (by omega)) (qup_n (by omega)) (qup_n (by omega))) hl0 (by rw [qup_o (by omega)]; exact hh) hb (by omega) (by omega) (by omega) (by omega) fun b2' m' f hl' => ⟨⟨rfl, rfl⟩, hQ b2' m' (f0.trans (f.mono (fun a k h => Or.inl h))) hl'⟩
end WISH
