/-! B: endings, beginnings' signs, count, the law that holds -/
def qEn (nT nH e : Int) (eT eH eD : Int → Int) : Prop := (0 ≤ e ∧ e ≤ 12) ∧ ∀ k, 0 ≤ k → k < e → (0 ≤ eT k ∧ eT k < nT) ∧ (0 ≤ eH k ∧ eH k < nH) ∧ (1 ≤ eD k ∧ eD k ≤ 99)
def qEc (m : Nat → Int → Int) (e : Int) (eT eH eD : Int → Int) : Prop := m 32 3 = e ∧ ∀ k, 0 ≤ k → k < e → m 33 k = eT k ∧ m 34 k = eH k ∧ m 35 k = eD k
def qEm (m : Nat → Int → Int) (e : Int) (eT eH eD : Int → Int) : Prop := m 120 57 = e ∧ m 146 = eT ∧ m 147 = eH ∧ m 148 = eD
def qso1 (T P N eT eH eD : Int → Int) (t dn k a : Int) : Int := if a = 0 then 0 else if eT k = t ∧ ¬ qal T P N (eH k) t dn = eD k then 0 else 1
def qso (T P N eT eH eD : Int → Int) (e t dn : Int) : Int := qfold (qso1 T P N eT eH eD t dn) e 0 1
def qstd (T P N eT eH eD : Int → Int) (e t : Int) : Int := qfold (fun dn a => if qso T P N eT eH eD e t dn = 0 then a else bOrr a (bShl 1 dn)) (T (4 * t + 3) + 1) 0 0
def qPstood (T P N eT eH eD : Int → Int) (nT e t : Int) : Int := if 0 ≤ t ∧ t < nT then qstd T P N eT eH eD e t else -1
def qed (nT nH e t h n : Int) : Prop := (0 ≤ t ∧ t < nT) ∧ (0 ≤ h ∧ h < nH) ∧ (1 ≤ n ∧ n ≤ 99) ∧ e < 12
section EN
variable {xs : List Int32} {d : Nat} {Q : bPo} {b b0 b1 b2 : Bool} {m : Nat → Int → Int} {nT nH : Int} {T P E U N : Int → Int} {t s h k : Int}
variable {e n : Int} {eT eH eD : Int → Int}
theorem qso1_z {k : Int} : qso1 T P N eT eH eD t s k 0 = 0 := rfl
theorem qso_z : ∀ k, k ≤ e → qfold (qso1 T P N eT eH eD t s) e k 0 = 0 := by
  refine qUpto ?_
  intro k hk ih
  by_cases h : k < e
  · rw [qfold_lt h, qso1_z]
    exact ih h
  · exact qfold_ge (by omega)
theorem qso_01 (h0 : 0 ≤ e) : qso T P N eT eH eD e t s = 0 ∨ qso T P N eT eH eD e t s = 1 := by
  unfold qso
  refine qfold_inv (I := fun (_ : Int) (a : Int) => a = 0 ∨ a = 1) ?_ h0 (Or.inr rfl)
  intro i a _ _ _
  unfold qso1
  split
  · exact Or.inl rfl
  · split
    · exact Or.inl rfl
    · exact Or.inr rfl
theorem c_isSo (hW : qWF nT nH T P E U N) (hE : qER m (bW b) nT nH T P E U N) (hn : qEn nT nH e eT eH eD) (hc : qEc m e eT eH eD) (t0 : 0 ≤ t) (t1 : t < nT) (s0 : 0 ≤ s) (s1 : s ≤ T (4 * t + 3)) (hQ : Q (qso T P N eT eH eD e t s) ((b0, b1, b2), m)) : bC xs 3 33 [vr 32, vr (bW b), vi t, vi s] ((b0, b1, b2), m) Q := by
  refine qC rfl fun d hd => r_X3_isSo_0 hd ?_
  have wn := qw_n hW
  have ne := hn.1
  suffices H : ∀ k, k ≤ e → 0 ≤ k → Q (qfold (qso1 T P N eT eH eD t s) e k 1) ((b0, b1, b2), m) → bGo xs d aM_X3_isSo 3 [vr 32, vr (bW b), vi t, vi s, vi k] [] ((b0, b1, b2), m) Q from H 0 (by omega) (by omega) hQ
  refine qUpto ?_
  intro k hk ih k0 hq
  refine r_X3_isSo_3 hd ?_
  rw [hc.1]
  by_cases hlt : k < e
  · have ec := hc.2 k k0 hlt
    have en := hn.2 k k0 hlt
    rw [qfold_lt hlt] at hq
    rw [ec.1, ec.2.1]
    have bd := qal_bd hW en.2.1.1 en.2.1.2 t0 t1 s0 s1
    refine ⟨by omega, by omega, fun h => by omega, fun _ => ⟨by omega, by omega, by omega, fun h => ?_, fun h => ⟨by omega, c_daysFrom hW hE en.2.1.1 en.2.1.2 t0 t1 s0 s1 ?_⟩⟩⟩
    · unfold qso1 at hq
      rw [if_neg (by omega), if_neg (by omega)] at hq
      exact ih hlt (by omega) hq
    · try dsimp only
      rw [ec.2.2]
      unfold qso1 at hq
      rw [if_neg (by omega)] at hq
      refine ⟨rfl, by omega, by omega, by omega, fun h2 => ?_, fun h2 => ?_⟩
      · rw [if_neg (by omega)] at hq
        exact ih hlt (by omega) hq
      · rw [if_pos (by omega)] at hq
        exact qQ hq (qso_z (k + 1) (by omega)).symm
  · rw [qfold_ge (by omega)] at hq
    (with_reducible repeat' (first | exact True.intro | apply And.intro | intro _))
    all_goals first | omega | exact hq
theorem c_doneOf (hW : qWF nT nH T P E U N) (hE : qER m (bW b) nT nH T P E U N) (hn : qEn nT nH e eT eH eD) (hc : qEc m e eT eH eD) (t0 : 0 ≤ t) (t1 : t < nT) (hQ : Q (qstd T P N eT eH eD e t) ((b0, b1, b2), m)) : bC xs 4 32 [vr 32, vr (bW b), vi t] ((b0, b1, b2), m) Q := by
  refine qC rfl fun d hd => r_X3_doneOf_0 hd ?_
  have wn := qw_n hW
  have wt := qw_t hW t0 t1
  have et := qe_t hE t0 t1
  suffices H : ∀ s, s ≤ T (4 * t + 3) + 1 → 0 ≤ s → ∀ acc, Q (qfold (fun dn a => if qso T P N eT eH eD e t dn = 0 then a else bOrr a (bShl 1 dn)) (T (4 * t + 3) + 1) s acc) ((b0, b1, b2), m) → bGo xs d aM_X3_doneOf 5 [vr 32, vr (bW b), vi t, vi acc, vi s] [] ((b0, b1, b2), m) Q from H 0 (by omega) (by omega) 0 hQ
  refine qUpto ?_
  intro s hs ih s0 acc hq
  refine r_X3_doneOf_5 hd ?_
  rw [et.2.2]
  by_cases hlt : s < T (4 * t + 3) + 1
  · rw [qfold_lt hlt] at hq
    have b01 := qso_01 (T := T) (P := P) (N := N) (eT := eT) (eH := eH) (eD := eD) (t := t) (s := s) hn.1.1
    refine ⟨by omega, by omega, by omega, fun h => by omega, fun _ => c_isSo hW hE hn hc t0 t1 s0 (by omega) ⟨rfl, by omega, fun h => ?_, fun h => ?_⟩⟩
    · rw [if_pos h] at hq
      exact ih hlt (by omega) _ hq
    · rw [if_neg h] at hq
      exact ih hlt (by omega) _ hq
  · rw [qfold_ge (by omega)] at hq
    (with_reducible repeat' (first | exact True.intro | apply And.intro | intro _))
    all_goals first | omega | exact hq
theorem c_stood (hW : qWF nT nH T P E U N) (hE : qER m (bW b0) nT nH T P E U N) (hn : qEn nT nH e eT eH eD) (hc : qEc m e eT eH eD) (x1 : inR t) (hQ : Q (qPstood T P N eT eH eD nT e t) ((b0, b1, b2), m)) : bC xs 5 169 [vr 0, vi t] ((b0, b1, b2), m) Q := by
  refine qC rfl fun d hd => r_X11_stood_0 hd ?_
  have wn := qw_n hW
  have en := qe_n hE
  rw [en.1]
  unfold qPstood at hQ
  (with_reducible repeat' (first | exact True.intro | apply And.intro | intro _))
  all_goals first | omega | exact qQ hQ (by rw [if_neg (by omega)]) | exact c_doneOf hW hE hn hc (by omega) (by omega) ⟨rfl, qQ hQ (by rw [if_pos (by omega)])⟩
theorem d_stood (hW : qWF nT nH T P E U N) (hM : qMR m nT nH T P E U N) (hn : qEn nT nH e eT eH eD) (hc : qEm m e eT eH eD) (x1 : inR t) (hQ : Q (qPstood T P N eT eH eD nT e t) ((b0, b1, b2), up m 120 0 0)) : bC xs 4 276 [vr 120, vi t] ((b0, b1, b2), m) Q := by
  refine qC rfl fun d hd => r_X12_stood_0 hd ?_
  have wn := qw_n hW
  have ne := hn.1
  have hM0 := hM
  simp only [hM.1, hM.2.1, hM.2.2.1, hM.2.2.2.1, hM.2.2.2.2.1, hM.2.2.2.2.2.1, hM.2.2.2.2.2.2]
  unfold qPstood at hQ
  have hl : 0 ≤ t ∧ t < nT → bGo xs d aM_X12_stood 19 [vr 120, vi t, vi 0, vi 0, vn, vn] [] ((b0, b1, b2), up m 120 0 0) Q := by
    intro ht
    have t0 := ht.1
    have t1 := ht.2
    rw [if_pos ht] at hQ
    have hM := hM0.thrown (z := 0)
    have hc' : qEm (up m 120 0 0) e eT eH eD := by
      unfold qEm
      rw [qup_o (by omega), qup_n (by omega), qup_n (by omega), qup_n (by omega)]
      exact hc
    have wt := qw_t hW t0 t1
    suffices H : ∀ s, s ≤ T (4 * t + 3) + 1 → 0 ≤ s → ∀ acc, inR acc → Q (qfold (fun dn a => if qso T P N eT eH eD e t dn = 0 then a else bOrr a (bShl 1 dn)) (T (4 * t + 3) + 1) s acc) ((b0, b1, b2), up m 120 0 0) → bGo xs d aM_X12_stood 19 [vr 120, vi t, vi acc, vi s, vn, vn] [] ((b0, b1, b2), up m 120 0 0) Q from H 0 (by omega) (by omega) 0 (by omega) hQ
    refine qUpto ?_
    intro s hs ih s0 acc ha hq
    refine r_X12_stood_19 hd ?_
    simp only [hM.1, hM.2.1, hM.2.2.1, hM.2.2.2.1, hM.2.2.2.2.1, hM.2.2.2.2.2.1, hM.2.2.2.2.2.2]
    by_cases hlt : s < T (4 * t + 3) + 1
    · rw [qfold_lt hlt] at hq
      refine ⟨by omega, by omega, by omega, fun h => by omega, fun _ => ?_⟩
      suffices H2 : ∀ k, k ≤ e → 0 ≤ k → ∀ a, a = 0 ∨ a = 1 → qso T P N eT eH eD e t s = qfold (qso1 T P N eT eH eD t s) e k a → bGo xs d aM_X12_stood 34 [vr 120, vi t, vi acc, vi s, vi a, vi k] [] ((b0, b1, b2), up m 120 0 0) Q from H2 0 (by omega) (by omega) 1 (by omega) rfl
      refine qUpto ?_
      intro k hk ih2 k0 a ha2 hqs
      refine r_X12_stood_34 hd ?_
      rw [hc'.1, hc'.2.1, hc'.2.2.1, qOrr_zero ha]
      have bo := qOrr_inR acc (bShl 1 s)
      by_cases hlt2 : k < e
      · have en := hn.2 k k0 hlt2
        have bd := qal_bd hW en.2.1.1 en.2.1.2 t0 t1 s0 (show s ≤ T (4 * t + 3) by omega)
        rw [qfold_lt hlt2] at hqs
        unfold qso1 at hqs
        refine ⟨by omega, by omega, fun h => by omega, fun _ => ⟨by omega, fun h => ?_, fun h => ⟨by omega, by omega, by omega, fun h2 => ?_, fun h2 => ⟨by omega, d_aloneFrom hW hM en.2.1.1 en.2.1.2 t0 t1 s0 (by omega) ?_⟩⟩⟩⟩
        · rw [if_pos h] at hqs
          exact ih2 hlt2 (by omega) 0 (by omega) hqs
        · rw [if_neg h, if_neg (by omega)] at hqs
          exact ih2 hlt2 (by omega) 1 (by omega) hqs
        · try dsimp only
          rw [hc'.2.2.2]
          rw [if_neg h] at hqs
          refine ⟨rfl, by omega, by omega, by omega, fun h3 => ?_, fun h3 => ?_⟩
          · rw [if_pos (by omega)] at hqs
            exact ih2 hlt2 (by omega) 0 (by omega) hqs
          · rw [if_neg (by omega)] at hqs
            exact ih2 hlt2 (by omega) 1 (by omega) hqs
      · rw [qfold_ge (by omega)] at hqs
        rw [hqs] at hq
        refine ⟨by omega, by omega, fun _ => ⟨by omega, fun h => ?_, fun h => ?_⟩, fun h => by omega⟩
        · rw [if_pos h] at hq
          exact ih hlt (by omega) _ ha hq
        · rw [if_neg h] at hq
          exact ih hlt (by omega) _ bo hq
    · rw [qfold_ge (by omega)] at hq
      (with_reducible repeat' (first | exact True.intro | apply And.intro | intro _))
      all_goals first | omega | exact hq
  (with_reducible repeat' (first | exact True.intro | apply And.intro | intro _))
  all_goals first | omega | exact qQ hQ (by rw [if_neg (by omega)]) | exact hl (by omega)
theorem c_ended (hW : qWF nT nH T P E U N) (hE : qER m (bW b0) nT nH T P E U N) (hn : qEn nT nH e eT eH eD) (hc : qEc m e eT eH eD) (x1 : inR t) (x2 : inR h) (x3 : inR n) (hno : ¬ qed nT nH e t h n → Q (-1) ((b0, b1, b2), m)) (hy : qed nT nH e t h n → ∀ m', qFr (fun a k => a = 33 ∨ a = 34 ∨ a = 35 ∨ (a = 32 ∧ k = 3)) m m' → qEc m' (e + 1) (qset eT e t) (qset eH e h) (qset eD e n) → Q (e + 1) ((b0, b1, b2), m')) : bC xs 2 168 [vr 0, vi t, vi h, vi n] ((b0, b1, b2), m) Q := by
  refine qC rfl fun d hd => r_X11_ended_0 hd ?_
  have wn := qw_n hW
  have en := qe_n hE
  have ne := hn.1
  rw [en.1, en.2]
  unfold qed at hno hy
  have hl : (0 ≤ t ∧ t < nT) ∧ (0 ≤ h ∧ h < nH) ∧ (1 ≤ n ∧ n ≤ 99) → bC xs 1 31 [vr 32, vi t, vi h, vi n] ((b0, b1, b2), m) (fun z1 μ2 => (μ2.1 = (b0, b1, b2)) ∧ (Q z1 ((b0, b1, b2), μ2.2))) := by
    intro hcond
    refine qC rfl fun d hd => r_X3_add_0 hd ?_
    rw [hc.1]
    refine ⟨by omega, fun h1 => ⟨by omega, by omega, by omega, rfl, ?_⟩, fun h1 => ⟨rfl, hno (by omega)⟩⟩
    dsimp only
    refine hy (by omega) _ (qFr_up (qFr_up (qFr_up (qFr_up qFr.refl (by omega)) (by omega)) (by omega)) (by omega)) ⟨qup_s, ?_⟩
    intro k k0 k1
    rw [qup_n (by omega), qup_n (by omega), qup_n (by omega), qup_f, qup_n (by omega), qup_n (by omega), qup_f, qup_n (by omega), qup_n (by omega), qup_f, qup_n (by omega), qup_n (by omega)]
    by_cases hk : k = e
    · subst hk
      simp only [qset_s, and_self]
    · rw [qset_o hk, qset_o hk, qset_o hk, qset_o hk, qset_o hk, qset_o hk]
      exact hc.2 k k0 (by omega)
  (with_reducible repeat' (first | exact True.intro | apply And.intro | intro _))
  all_goals first | omega | exact hno (by omega) | exact hl (by omega)
theorem d_ended (hW : qWF nT nH T P E U N) (hM : qMR m nT nH T P E U N) (hn : qEn nT nH e eT eH eD) (hc : qEm m e eT eH eD) (x1 : inR t) (x2 : inR h) (x3 : inR n) (hno : ¬ qed nT nH e t h n → Q (-1) ((b0, b1, b2), up m 120 0 0)) (hy : qed nT nH e t h n → ∀ m', qFr (fun a k => a = 146 ∨ a = 147 ∨ a = 148 ∨ (a = 120 ∧ (k = 57 ∨ k = 0))) m m' → qEm m' (e + 1) (qset eT e t) (qset eH e h) (qset eD e n) → Q (e + 1) ((b0, b1, b2), m')) : bC xs 2 275 [vr 120, vi t, vi h, vi n] ((b0, b1, b2), m) Q := by
  refine qC rfl fun d hd => r_X12_ended_0 hd ?_
  have wn := qw_n hW
  have ne := hn.1
  simp only [hM.1, hM.2.1, hM.2.2.1, hM.2.2.2.1, hM.2.2.2.2.1, hM.2.2.2.2.2.1, hM.2.2.2.2.2.2]
  unfold qed at hno hy
  rw [hc.1]
  have hl : (0 ≤ t ∧ t < nT) ∧ (0 ≤ h ∧ h < nH) ∧ (1 ≤ n ∧ n ≤ 99) ∧ e < 12 → Q (e + 1) ((b0, b1, b2), up (up (up (up (up m 120 0 0) 146 e t) 147 e h) 148 e n) 120 57 (e + 1)) := by
    intro hcond
    refine hy hcond _ (qFr_up (qFr_up (qFr_up (qFr_up (qFr_up qFr.refl (by omega)) (by omega)) (by omega)) (by omega)) (by omega)) ⟨qup_s, ?_, ?_, ?_⟩
    · rw [qup_n (by omega), qup_n (by omega), qup_n (by omega), qup_f, qup_n (by omega), hc.2.1]
    · rw [qup_n (by omega), qup_n (by omega), qup_f, qup_n (by omega), qup_n (by omega), hc.2.2.1]
    · rw [qup_n (by omega), qup_f, qup_n (by omega), qup_n (by omega), qup_n (by omega), hc.2.2.2]
  (with_reducible repeat' (first | exact True.intro | apply And.intro | intro _))
  all_goals first | omega | exact hno (by omega) | exact hl (by omega)
end EN
/-! beginnings -/
def qBg (r : Int) (bl bs : Int → Int) : Prop := (0 ≤ r ∧ r ≤ 4) ∧ ∀ b, 0 ≤ b → b < r → (1 ≤ bl b ∧ bl b ≤ 12) ∧ ∀ i, 0 ≤ i → i < bl b → 0 ≤ bs (12 * b + i) ∧ bs (12 * b + i) ≤ 9
def qBc (m : Nat → Int → Int) (r : Int) (bl bs : Int → Int) : Prop := m 24 2 = r ∧ ∀ b, 0 ≤ b → b < r → m 31 b = bl b ∧ ∀ i, 0 ≤ i → i < bl b → m 25 (b * 1000 + i) = bs (12 * b + i)
def qBm (m : Nat → Int → Int) (r : Int) (bl bs : Int → Int) : Prop := m 120 34 = r ∧ ∀ b, 0 ≤ b → b < r → m 134 b = bl b ∧ ∀ i, 0 ≤ i → i < bl b → m 133 (12 * b + i) = bs (12 * b + i)
def qPsign (r : Int) (bl bs : Int → Int) (b i : Int) : Int := if (0 ≤ b ∧ b < r) ∧ -1 ≤ i ∧ i < bl b then (if i = -1 then bl b else bs (12 * b + i)) else -1
section BG
variable {xs : List Int32} {d : Nat} {Q : bPo} {b b0 b1 b2 : Bool} {m : Nat → Int → Int} {nT nH : Int} {T P E U N : Int → Int} {t s h k : Int}
variable {r i k : Int} {bl bs : Int → Int}
theorem c_sign (hg : qBg r bl bs) (hc : qBc m r bl bs) (x1 : inR k) (x2 : inR i) (hQ : Q (qPsign r bl bs k i) ((b0, b1, b2), m)) : bC xs 2 167 [vr 0, vi k, vi i] ((b0, b1, b2), m) Q := by
  refine qC rfl fun d hd => r_X11_sign_0 hd ?_
  have gr := hg.1
  rw [hc.1]
  unfold qPsign at hQ
  by_cases hk : 0 ≤ k ∧ k < r
  · have e1 := hg.2 k hk.1 hk.2
    have e2 := hc.2 k hk.1 hk.2
    have e1b := e1.1
    rw [e2.1]
    by_cases hi : 0 ≤ i ∧ i < bl k
    · rw [e2.2 i hi.1 hi.2]
      (with_reducible repeat' (first | exact True.intro | apply And.intro | intro _))
      all_goals first | omega | exact qQ hQ (by rw [if_pos (by omega), if_neg (by omega)])
    · (with_reducible repeat' (first | exact True.intro | apply And.intro | intro _))
      all_goals first | omega | exact qQ hQ (by rw [if_pos (by omega), if_pos (by omega)]) | exact qQ hQ (by rw [if_neg (by omega)])
  · (with_reducible repeat' (first | exact True.intro | apply And.intro | intro _))
    all_goals first | omega | exact qQ hQ (by rw [if_neg (by omega)])
theorem d_sign (hg : qBg r bl bs) (hc : qBm m r bl bs) (x1 : inR k) (x2 : inR i) (hQ : Q (qPsign r bl bs k i) ((b0, b1, b2), up m 120 0 0)) : bC xs 2 274 [vr 120, vi k, vi i] ((b0, b1, b2), m) Q := by
  refine qC rfl fun d hd => r_X12_sign_0 hd ?_
  have gr := hg.1
  rw [hc.1]
  unfold qPsign at hQ
  by_cases hk : 0 ≤ k ∧ k < r
  · have e1 := hg.2 k hk.1 hk.2
    have e2 := hc.2 k hk.1 hk.2
    have e1b := e1.1
    rw [e2.1]
    by_cases hi : 0 ≤ i ∧ i < bl k
    · rw [e2.2 i hi.1 hi.2]
      (with_reducible repeat' (first | exact True.intro | apply And.intro | intro _))
      all_goals first | omega | exact qQ hQ (by rw [if_pos (by omega), if_neg (by omega)])
    · (with_reducible repeat' (first | exact True.intro | apply And.intro | intro _))
      all_goals first | omega | exact qQ hQ (by rw [if_pos (by omega), if_pos (by omega)]) | exact qQ hQ (by rw [if_neg (by omega)])
  · (with_reducible repeat' (first | exact True.intro | apply And.intro | intro _))
    all_goals first | omega | exact qQ hQ (by rw [if_neg (by omega)])
end BG
/-! count -/
def qPcnt (T N : Int → Int) (nT nH nG nL r len hold e c k : Int) : Int := if k = 0 then nT else if k = 1 then nH else if k = 2 then nG else if k = 3 then nL else if k = 4 then r else if k = 5 then len else if k = 6 then N 66 else if k = 7 then hold else if k = 8 then e else if k = 9 then c else if k = 10 then qcnt N nT 1 else if k = 11 then qcnt N nT 2 else if k = 12 then qfin T N nT else -1000000
section CNT
variable {xs : List Int32} {d : Nat} {Q : bPo} {b b0 b1 b2 : Bool} {m : Nat → Int → Int} {nT nH : Int} {T P E U N : Int → Int} {t s h k : Int}
variable {nG nL r len hold e c : Int}
theorem c_count (hW : qWF nT nH T P E U N) (hE : qER m (bW b0) nT nH T P E U N) (h1 : m (bW b0) 11 = nG) (h2 : m 6 6 = nL) (h3 : m 24 2 = r) (h4 : m 1 1 = len) (h5 : m 0 12 = hold) (h6 : m 32 3 = e) (h7 : m 36 3 = c) (x1 : inR k) (hQ : Q (qPcnt T N nT nH nG nL r len hold e c k) ((b0, b1, b2), m)) : bC xs 2 170 [vr 0, vi k] ((b0, b1, b2), m) Q := by
  refine qC rfl fun d hd => r_X11_count_0 hd ?_
  have en := qe_n hE
  rw [en.1, en.2, qe_day hE, h1, h2, h3, h4, h5, h6, h7]
  unfold qPcnt at hQ
  (with_reducible repeat' (first | exact True.intro | apply And.intro | intro _))
  all_goals first | omega | skip
  all_goals repeat (first | rw [if_pos (by omega)] at hQ | rw [if_neg (by omega)] at hQ)
  all_goals first | exact hQ | exact c_countOf hW hE (by omega) ⟨rfl, hQ⟩ | exact c_finishedValues hW hE ⟨rfl, hQ⟩
theorem d_count (hW : qWF nT nH T P E U N) (hM : qMR m nT nH T P E U N) (h1 : m 120 28 = nG) (h2 : m 120 7 = nL) (h3 : m 120 34 = r) (h4 : m 120 6 = len) (h5 : m 120 36 = hold) (h6 : m 120 57 = e) (h7 : m 120 38 = c) (x1 : inR k) (hQ : Q (qPcnt T N nT nH nG nL r len hold e c k) ((b0, b1, b2), up m 120 0 0)) : bC xs 2 281 [vr 120, vi k] ((b0, b1, b2), m) Q := by
  refine qC rfl fun d hd => r_X12_count_0 hd ?_
  have hM0 := hM
  simp only [hM.1, hM.2.1, hM.2.2.1, hM.2.2.2.1, hM.2.2.2.2.1, hM.2.2.2.2.2.1, hM.2.2.2.2.2.2]
  simp only [h1, h2, h3, h4, h5, h6, h7]
  unfold qPcnt at hQ
  (with_reducible repeat' (first | exact True.intro | apply And.intro | intro _))
  all_goals first | omega | skip
  all_goals repeat (first | rw [if_pos (by omega)] at hQ | rw [if_neg (by omega)] at hQ)
  all_goals first | exact hQ | exact d_thatAre hW hM0.thrown (by omega) (by omega) ⟨rfl, hQ⟩
theorem c_law (hW : qWF nT nH T P E U N) (hE : qER m (bW b0) nT nH T P E U N) (h2 : m 6 6 = nL) (hb : 0 ≤ nL ∧ nL ≤ 6) (x1 : inR k) (hn : ¬ (0 < nT ∧ (k = -1 ∨ (0 ≤ k ∧ k < nL))) → Q 0 ((b0, b1, b2), m)) (hy : (0 < nT ∧ (k = -1 ∨ (0 ≤ k ∧ k < nL))) → Q 1 ((b0, b1, b2), up m 0 12 k)) : bC xs 2 135 [vr 0, vi k] ((b0, b1, b2), m) Q := by
  refine qC rfl fun d hd => r_X11_law_0 hd ?_
  have en := qe_n hE
  have wn := qw_n hW
  rw [en.1, h2]
  (with_reducible repeat' (first | exact True.intro | apply And.intro | intro _))
  all_goals first | omega | exact hn (by omega) | exact hy (by omega)
theorem d_law (hW : qWF nT nH T P E U N) (hM : qMR m nT nH T P E U N) (h2 : m 120 7 = nL) (hb : 0 ≤ nL ∧ nL ≤ 6) (x1 : inR k) (hn : ¬ (0 < nT ∧ (k = -1 ∨ (0 ≤ k ∧ k < nL))) → Q 0 ((b0, b1, b2), up m 120 0 0)) (hy : (0 < nT ∧ (k = -1 ∨ (0 ≤ k ∧ k < nL))) → Q 1 ((b0, b1, b2), up (up m 120 0 0) 120 36 k)) : bC xs 2 220 [vr 120, vi k] ((b0, b1, b2), m) Q := by
  refine qC rfl fun d hd => r_X12_law_0 hd ?_
  have wn := qw_n hW
  simp only [hM.1, hM.2.1, hM.2.2.1, hM.2.2.2.1, hM.2.2.2.2.1, hM.2.2.2.2.2.1, hM.2.2.2.2.2.2]
  rw [h2]
  (with_reducible repeat' (first | exact True.intro | apply And.intro | intro _))
  all_goals first | omega | exact hn (by omega) | exact hy (by omega)
end CNT
