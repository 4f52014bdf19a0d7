/-! B: the class lays a game out -/
def qGf (a : Nat) (k : Int) : Prop := qYf a k ∨ a = 95 ∨ a = 97 ∨ a = 98 ∨ (a = 94 ∧ (k = 5 ∨ k = 6))
section GLA
variable {xs : List Int32} {d : Nat} {Q : bPo} {b b0 b1 b2 : Bool} {m : Nat → Int → Int} {nT nH : Int} {T P E U N : Int → Int} {t s h k : Int}
variable {nL hold : Int} {lB : Int → Int → Int} {lN : Int → Int} {m' : Nat → Int → Int}
theorem qrnk_R (hW : qWF nT nH T P E U N) (h4 : nH ≤ 4) : qRk (qrnk T P N) nT nH N := by
  intro h t h0 h1 t0 t1 _
  have := qal_dn hW h0 h1 t0 t1
  unfold qrnk
  split
  · right; omega
  · left; rfl
theorem qGw_w (hW : qWF nT nH T P E U N) (hV : qVs nL lB lN) (hb : -1 ≤ hold ∧ hold < nL) (h4 : nH ≤ 4) : qGw (qrnk T P N) (qwsh T P E N lB lN hold) nT nH N := by
  have wn := qw_n hW
  exact ⟨wn.1, ⟨wn.2.1.1, h4⟩, qrnk_R hW h4, fun h t h0 h1 t0 t1 => qws_bn hW hV hb h0 h1 t0 t1⟩
theorem qER_gf (hE : qER m (bW b) nT nH T P E U N) (f : qFr qGf m m') : qER m' (bW b) nT nH T P E U N := by
  have hb := qW b
  exact hE.fr ⟨f _ _ (by unfold qGf qYf; omega), f _ _ (by unfold qGf qYf; omega)⟩ (qFr_at f _ (fun k => by unfold qGf qYf; omega)) (qFr_at f _ (fun k => by unfold qGf qYf; omega)) (qFr_at f _ (fun k => by unfold qGf qYf; omega)) (qFr_at f _ (fun k => by unfold qGf qYf; omega)) (qFr_at f _ (fun k => by unfold qGf qYf; omega)) (qFr_at f _ (fun k => by unfold qGf qYf; omega)) (qFr_at f _ (fun k => by unfold qGf qYf; omega)) (qFr_at f _ (fun k => by unfold qGf qYf; omega))
theorem qVc_gf (hc : qVc m nL lB lN) (f : qFr qGf m m') : qVc m' nL lB lN := hc.fr (f 6 6 (by unfold qGf qYf; omega)) (qFr_at f 14 (fun k => by unfold qGf qYf; omega)) (qFr_at f 7 (fun k => by unfold qGf qYf; omega)) (qFr_at f 17 (fun k => by unfold qGf qYf; omega))
theorem c_tellOf {x v : Int} (h0 : 0 ≤ h) (h1 : h < 4) (t0 : 0 ≤ t) (t1 : t < 6) (x0 : -1 ≤ x) (x1 : x ≤ 216) (hQ : Q 0 ((b0, b1, b2), up (up m 97 (h * 6 + t) (if x = -1 then 1000000 else x * 4 + h)) 98 (h * 6 + t) v)) : bC xs 1 73 [vr 94, vi h, vi t, vi x, vi v] ((b0, b1, b2), m) Q := by
  refine qC rfl fun d hd => r_X5_tellOf_0 hd ⟨by omega, fun e => ⟨by omega, by omega, ?_⟩, fun e => ⟨by omega, by omega, ?_⟩⟩
  · rw [if_neg e] at hQ; exact hQ
  · rw [if_pos e] at hQ; exact hQ
def qGl (m : Nat → Int → Int) (R Ws : Int → Int → Int) (nT nH : Int) (N : Int → Int) (h t : Int) : Prop := m 94 5 = nH ∧ m 94 6 = qno N nT ∧ (∀ c, 0 ≤ c → c ≤ qno N nT → m 95 c = qch N nT c) ∧ ∀ h' t', 0 ≤ h' → h' < nH → 0 ≤ t' → t' < nT → N (6 * t' + 2) = 0 → (h' < h ∨ (h' = h ∧ t' < t)) → m 97 (h' * 6 + t') = R h' t' ∧ m 98 (h' * 6 + t') = Ws h' t'
theorem c_layOutGame (hW : qWF nT nH T P E U N) (hE : qER m (bW b0) nT nH T P E U N) (hV : qVs nL lB lN) (hc : qVc m nL lB lN) (hh : m 0 12 = hold) (hb : -1 ≤ hold ∧ hold < nL) (h4 : nH ≤ 4) (hQ : ∀ m', qFr qGf m m' → qGm m' (qrnk T P N) (qwsh T P E N lB lN hold) nT nH N → Q 0 ((b0, b1, b2), m')) : bC xs 5 159 [vr 0] ((b0, b1, b2), m) Q := by
  have wn := qw_n hW
  have en := qe_n hE
  have hw := qW b0
  refine qC rfl fun d hd => r_X11_layOutGame_0 hd ?_
  rw [en.2]
  refine ⟨by omega, ?_⟩
  rw [show min nH 4 = nH by omega]
  -- the second pair of loops
  have L2 : ∀ h, h ≤ nH → 0 ≤ h → ∀ m1, qFr qGf m m1 → qGl m1 (qrnk T P N) (qwsh T P E N lB lN hold) nT nH N h 0 → bGo xs d aM_X11_layOutGame 54 [vr 0, vi h, vn] [] ((b0, b1, b2), m1) Q := by
    refine qUpto ?_
    intro h hh1 ih h0 m1 f1 hg
    have hE1 := qER_gf hE f1
    have en1 := qe_n hE1
    refine r_X11_layOutGame_54 hd ?_
    rw [en1.2]
    refine ⟨by omega, by omega, fun h2 => hQ m1 f1 ⟨hg.1, hg.2.1, hg.2.2.1, fun h' t' a b c d e => hg.2.2.2 h' t' a b c d e (Or.inl (by omega))⟩, fun h2 => ⟨by omega, fun h3 => by omega, fun _ => ?_⟩⟩
    suffices H : ∀ t, t ≤ nT → 0 ≤ t → ∀ m1, qFr qGf m m1 → qGl m1 (qrnk T P N) (qwsh T P E N lB lN hold) nT nH N h t → bGo xs d aM_X11_layOutGame 72 [vr 0, vi h, vi t] [] ((b0, b1, b2), m1) Q from H 0 (by omega) (by omega) m1 f1 hg
    refine qUpto ?_
    intro t ht iht t0 m1 f1 hg
    have hE1 := qER_gf hE f1
    have en1 := qe_n hE1
    have ed1 := qe_day hE1
    have wd := qw_day hW
    refine r_X11_layOutGame_72 hd ?_
    rw [en1.1]
    refine ⟨by omega, by omega, fun h3 => ih h2 (by omega) m1 f1 ⟨hg.1, hg.2.1, hg.2.2.1, fun h' t' a b c d e f => hg.2.2.2 h' t' a b c d e (by omega)⟩, fun t1 => ⟨by omega, fun h => by omega, fun _ => ⟨by omega, by omega, fun h => by omega, fun _ => ⟨by omega, ?_⟩⟩⟩⟩
    have el1 := qe_l hE1 t0 t1
    have ws := qw_st hW t0 t1
    rw [el1.2.2.2.1]
    refine ⟨by omega, fun hs => iht t1 (by omega) m1 f1 ⟨hg.1, hg.2.1, hg.2.2.1, fun h' t' a b c d e f => ?_⟩, fun hs => ?_⟩
    · by_cases e2 : t' = t
      · rw [e2] at e; exact absurd e hs
      · exact hg.2.2.2 h' t' a b c d e (by omega)
    · have bd := qal_dn hW h0 h2 t0 t1
      have et1 := qe_t hE1 t0 t1
      have wt := qw_t hW t0 t1
      have nx : ∀ x, (-1 ≤ x ∧ x ≤ 216) → (if x = -1 then 1000000 else x * 4 + h) = qrnk T P N h t → bC xs 4 156 [vr 0, vi h, vi t] ((b0, b1, b2), m1) (fun z3 μ4 => (μ4.1 = (b0, b1, b2)) ∧ (bC xs 1 73 [vr 94, vi h, vi t, vi x, vi z3] ((b0, b1, b2), μ4.2) (fun z5 μ6 => (μ6.1 = (b0, b1, b2)) ∧ (bGo xs d aM_X11_layOutGame 72 [vr 0, vi h, vi (t + 1)] [] ((b0, b1, b2), μ6.2) Q)))) := by
        intro x hx ex
        refine c_wishOf hW hE1 hV (qVc_gf hc f1) (by rw [f1 0 12 (by unfold qGf qYf; omega)]; exact hh) hb h0 h2 t0 t1 ?_
        intro m2 f2
        have f12 : qFr qGf m m2 := f1.trans (f2.mono (fun a k h => Or.inl h))
        refine ⟨rfl, c_tellOf h0 (by omega) t0 (by omega) hx.1 hx.2 ⟨rfl, ?_⟩⟩
        dsimp only
        rw [ex]
        refine iht t1 (by omega) _ (qFr_up (qFr_up f12 (by unfold qGf; omega)) (by unfold qGf; omega)) ⟨?_, ?_, ?_, ?_⟩
        · rw [qup_n (by omega), qup_n (by omega), f2 94 5 (by unfold qYf; omega)]; exact hg.1
        · rw [qup_n (by omega), qup_n (by omega), f2 94 6 (by unfold qYf; omega)]; exact hg.2.1
        · intro c c0 c1
          rw [qup_n (by omega), qup_n (by omega), f2 95 c (by unfold qYf; omega)]; exact hg.2.2.1 c c0 c1
        · intro h' t' a1 a2 a3 a4 a5 a6
          rw [qup_n (a := 98) (b := 97) (by omega), qup_if, qup_if, qup_n (a := 97) (b := 98) (by omega), f2 97 _ (by unfold qYf; omega), f2 98 _ (by unfold qYf; omega)]
          by_cases e : h' * 6 + t' = h * 6 + t
          · rw [if_pos e, if_pos e]
            have e1 : h' = h := by omega
            have e2 : t' = t := by omega
            rw [e1, e2]
            exact ⟨rfl, rfl⟩
          · rw [if_neg e, if_neg e]
            exact hg.2.2.2 h' t' a1 a2 a3 a4 a5 (by omega)
      refine c_aloneDays hW hE1 h0 h2 t0 t1 ⟨rfl, by omega, fun e => nx (-1) (by omega) ?_, fun e => ⟨by omega, ?_⟩⟩
      · unfold qrnk
        rw [if_pos rfl, if_neg (by omega)]
      · dsimp only
        rw [ed1, et1.2.1]
        refine ⟨by omega, by omega, fun e2 => nx (-1) (by omega) ?_, fun e2 => nx _ bd ?_⟩
        · unfold qrnk
          rw [if_pos rfl, if_neg (by omega)]
        · unfold qrnk
          rw [if_neg e, if_pos (by omega)]
  -- the first loop
  suffices H : ∀ t, t ≤ nT → 0 ≤ t → ∀ m1, qFr qGf m m1 → m1 94 5 = nH → m1 94 6 = qno N t → (∀ u, 0 ≤ u → u < t → N (6 * u + 2) = 0 → m1 95 (qno N u) = u) → m1 95 (qno N t) = 9 → bGo xs d aM_X11_layOutGame 16 [vr 0, vi t, vn] [] ((b0, b1, b2), m1) Q by
    refine H 0 (by omega) (by omega) _ (qFr_up (qFr_up (qFr_up qFr.refl (by unfold qGf; omega)) (by unfold qGf; omega)) (by unfold qGf; omega)) ?_ ?_ (fun u a b => by omega) ?_
    · rw [qup_n (by omega), qup_o (by omega), qup_s]
    · rw [qup_n (by omega), qup_s, qno_0]
    · rw [qno_0, qup_s]
  refine qUpto ?_
  intro t ht ih t0 m1 f1 e5 e6 hch h9
  have hE1 := qER_gf hE f1
  have en1 := qe_n hE1
  have nb := qno_bd (N := N) t0
  refine r_X11_layOutGame_16 hd ?_
  rw [en1.1]
  refine ⟨by omega, by omega, fun h2 => ?_, fun t1 => ⟨by omega, fun h => by omega, fun _ => ⟨by omega, by omega, fun h => by omega, fun _ => ⟨by omega, ?_⟩⟩⟩⟩
  · have e : t = nT := by omega
    subst e
    refine L2 0 (by omega) (by omega) m1 f1 ⟨e5, e6, fun c c0 c1 => ?_, fun h' t' a b c d e f => by omega⟩
    by_cases hc9 : c = qno N t
    · rw [hc9, h9, qch_9]
    · obtain ⟨i0, i1, i2, i3⟩ := qch_i (N := N) (nT := t) (c := c) t0 c0 (by omega)
      have := hch _ i0 i1 i2
      rw [i3] at this
      exact this
  · have el1 := qe_l hE1 t0 t1
    have ws := qw_st hW t0 t1
    have ns := qno_s (N := N) t0
    rw [el1.2.2.2.1, e6]
    refine ⟨by omega, fun hs => ?_, fun hs => ⟨by omega, by omega, ?_⟩⟩
    · rw [if_neg hs] at ns
      refine ih t1 (by omega) m1 f1 e5 (by rw [ns]; exact e6) (fun u a b c => ?_) (by rw [ns]; exact h9)
      by_cases e : u = t
      · rw [e] at c; exact absurd c hs
      · exact hch u a (by omega) c
    · rw [if_pos hs] at ns
      refine ih t1 (by omega) _ (qFr_up (qFr_up (qFr_up f1 (by unfold qGf; omega)) (by unfold qGf; omega)) (by unfold qGf; omega)) ?_ ?_ ?_ ?_
      · rw [qup_n (by omega), qup_o (by omega), qup_n (by omega)]; exact e5
      · rw [qup_n (by omega), qup_s, ns]
      · intro u a b c
        have hu := qno_m (N := N) a t (by omega)
        rw [qup_o (by omega), qup_n (by omega), qup_if]
        by_cases e : u = t
        · rw [e, if_pos rfl]
        · have := qno_lt (t := t) a (by omega) c
          rw [if_neg (by omega)]
          exact hch u a (by omega) c
      · rw [ns, qup_s]
end GLA
