/-! B: ends, the shortest, the dearest -/
/-- a row of signs of one length: the i-th that fits (-1: none yet), how many so far; by tens j -/
def qinN (F : Int → Int → Int) (i s : Int) : Nat → Int → Int → Int × Int
  | 0, _, f => (-1, f)
  | n + 1, j, f => if F s (10 * j) = 0 then qinN F i s n (j + 1) f else if f = i then (qt10 s + 10 * j, f) else qinN F i s n (j + 1) (f + 1)
def qin (F : Int → Int → Int) (i s j f : Int) : Int × Int := qinN F i s (qt10 (s - 1) - j).toNat j f
theorem qin_lt {F : Int → Int → Int} {i s j f : Int} (h : j < qt10 (s - 1)) : qin F i s j f = if F s (10 * j) = 0 then qin F i s (j + 1) f else if f = i then (qt10 s + 10 * j, f) else qin F i s (j + 1) (f + 1) := by
  unfold qin
  rw [show (qt10 (s - 1) - j).toNat = (qt10 (s - 1) - (j + 1)).toNat + 1 by omega, qinN]
theorem qin_ge {F : Int → Int → Int} {i s j f : Int} (h : qt10 (s - 1) ≤ j) : qin F i s j f = (-1, f) := by
  unfold qin
  rw [show (qt10 (s - 1) - j).toNat = 0 by omega, qinN]
def qouN (F : Int → Int → Int) (i : Int) : Nat → Int → Int → Int
  | 0, _, f => if i = -1 then f else -1
  | n + 1, s, f => if (qin F i s 0 f).1 = -1 then qouN F i n (s + 1) (qin F i s 0 f).2 else (qin F i s 0 f).1
def qou (F : Int → Int → Int) (i n s f : Int) : Int := qouN F i (n + 1 - s).toNat s f
theorem qou_le {F : Int → Int → Int} {i n s f : Int} (h : s ≤ n) : qou F i n s f = if (qin F i s 0 f).1 = -1 then qou F i n (s + 1) (qin F i s 0 f).2 else (qin F i s 0 f).1 := by
  unfold qou
  rw [show (n + 1 - s).toNat = (n + 1 - (s + 1)).toNat + 1 by omega, qouN]
theorem qou_gt {F : Int → Int → Int} {i n s f : Int} (h : n < s) : qou F i n s f = if i = -1 then f else -1 := by
  unfold qou
  rw [show (n + 1 - s).toNat = 0 by omega, qouN]
theorem qin_neg {F : Int → Int → Int} {i s : Int} (hi : i < 0) : ∀ (n : Nat) (j f : Int), 0 ≤ f → (qinN F i s n j f).1 = -1 ∧ 0 ≤ (qinN F i s n j f).2
  | 0, j, f, hf => ⟨rfl, hf⟩
  | n + 1, j, f, hf => by
    rw [qinN]
    split
    · exact qin_neg hi n _ _ hf
    · rw [if_neg (by omega)]
      exact qin_neg hi n _ _ (by omega)
theorem qou_neg {F : Int → Int → Int} {i : Int} (hi : i < -1) : ∀ (n : Nat) (s f : Int), 0 ≤ f → qouN F i n s f = -1
  | 0, s, f, _ => by rw [qouN, if_neg (by omega)]
  | n + 1, s, f, hf => by
    have : (qin F i s 0 f).1 = -1 ∧ 0 ≤ (qin F i s 0 f).2 := qin_neg (F := F) (s := s) (show i < 0 by omega) (qt10 (s - 1) - 0).toNat 0 f hf
    rw [qouN, if_pos this.1]
    exact qou_neg hi n _ _ this.2
theorem qin_0 {F : Int → Int → Int} {s : Int} (s0 : 1 ≤ s) (s1 : s ≤ 4) : ∀ j, j ≤ qt10 (s - 1) → 0 ≤ j → ((qin F 0 s j 0).1 = -1 ∨ (qt10 s ≤ (qin F 0 s j 0).1 ∧ (qin F 0 s j 0).1 < 2 * qt10 s)) ∧ (qin F 0 s j 0).2 = 0 := by
  have ht := qt10_4 s0 s1
  refine qUpto ?_
  intro j hj ih j0
  by_cases h : j < qt10 (s - 1)
  · rw [qin_lt h]
    split
    · exact ih h (by omega)
    · rw [if_pos rfl]
      exact ⟨Or.inr (by dsimp only; omega), rfl⟩
  · rw [qin_ge (by omega)]
    exact ⟨Or.inl rfl, rfl⟩
/-- the shortest length -/
def qshN (F : Int → Int → Int) : Nat → Int → Int
  | 0, _ => -1
  | n + 1, s => if (qin F 0 s 0 0).1 = -1 then qshN F n (s + 1) else s
def qsh (F : Int → Int → Int) (n s : Int) : Int := qshN F (n + 1 - s).toNat s
theorem qsh_le {F : Int → Int → Int} {n s : Int} (h : s ≤ n) : qsh F n s = if (qin F 0 s 0 0).1 = -1 then qsh F n (s + 1) else s := by
  unfold qsh
  rw [show (n + 1 - s).toNat = (n + 1 - (s + 1)).toNat + 1 by omega, qshN]
theorem qsh_gt {F : Int → Int → Int} {n s : Int} (h : n < s) : qsh F n s = -1 := by
  unfold qsh
  rw [show (n + 1 - s).toNat = 0 by omega, qshN]
theorem qou_sh {F : Int → Int → Int} {n : Int} (n4 : n ≤ 4) : ∀ s, s ≤ n + 1 → 1 ≤ s → (qou F 0 n s 0 = -1 ∧ qsh F n s = -1) ∨ (s ≤ qsh F n s ∧ qsh F n s ≤ n ∧ qt10 (qsh F n s) ≤ qou F 0 n s 0 ∧ qou F 0 n s 0 < 2 * qt10 (qsh F n s)) := by
  refine qUpto ?_
  intro s hs ih s0
  by_cases h : s ≤ n
  · have h0 := qin_0 (F := F) s0 (show s ≤ 4 by omega) 0 (by have := qt10_4 s0 (show s ≤ 4 by omega); omega) (by omega)
    rw [qou_le h, qsh_le h]
    by_cases e : (qin F 0 s 0 0).1 = -1
    · rw [if_pos e, if_pos e, h0.2]
      rcases ih (by omega) (by omega) with g | g
      · exact Or.inl g
      · exact Or.inr ⟨by omega, g.2⟩
    · rw [if_neg e, if_neg e]
      exact Or.inr ⟨by omega, h, by omega, by omega⟩
  · rw [qou_gt (by omega), qsh_gt (by omega)]
    exact Or.inl ⟨rfl, rfl⟩
def qPend (lB : Int → Int → Int) (lN bl bs : Int → Int) (nL r b l n i : Int) : Int := if (0 ≤ b ∧ b < r) ∧ (0 ≤ l ∧ l < nL) ∧ (1 ≤ n ∧ n ≤ 4) then qou (qfit lB lN bl bs b l) i n 1 0 else -1
def qPsho (lB : Int → Int → Int) (lN bl bs : Int → Int) (nL r b l n : Int) : Int := if (0 ≤ b ∧ b < r) ∧ (0 ≤ l ∧ l < nL) ∧ (1 ≤ n ∧ n ≤ 4) then qsh (qfit lB lN bl bs b l) n 1 else -1
section ENDS
variable {xs : List Int32} {d : Nat} {Q : bPo} {b b0 b1 b2 : Bool} {m : Nat → Int → Int} {nT nH : Int} {T P E U N : Int → Int} {t s h k : Int}
variable {nL l n r k i : Int} {lB : Int → Int → Int} {lN bl bs : Int → Int} {m' : Nat → Int → Int}
theorem c_ends (hV : qVs nL lB lN) (hc : qVc m nL lB lN) (hg : qBg r bl bs) (hB : qBc m r bl bs) (y1 : inR k) (y2 : inR l) (y3 : inR n) (y4 : inR i) (hQ : ∀ m', qFr qYk m m' → qVc m' nL lB lN → Q (qPend lB lN bl bs nL r k l n i) ((b0, b1, b2), m')) : bC xs 7 160 [vr 0, vi k, vi l, vi n, vi i] ((b0, b1, b2), m) Q := by
  refine qC rfl fun d hd => r_X11_ends_0 hd ?_
  have gr := hg.1
  have h6 := hV.1
  rw [hB.1, hc.1]
  unfold qPend at hQ
  have hno : ¬ ((0 ≤ k ∧ k < r) ∧ (0 ≤ l ∧ l < nL) ∧ (1 ≤ n ∧ n ≤ 4)) → Q (-1) ((b0, b1, b2), m) := fun hn => by
    have := hQ m qFr.refl hc
    rw [if_neg hn] at this
    exact this
  refine ⟨y1, fun h => hno (by omega), fun k0 => ⟨y1, by omega, fun h => hno (by omega), fun k1 => ⟨y2, fun h => hno (by omega), fun l0 => ⟨y2, by omega, fun h => hno (by omega), fun l1 => ⟨y3, fun h => hno (by omega), fun n0 => ⟨y3, fun h => hno (by omega), fun n4 => ?_⟩⟩⟩⟩⟩⟩
  rw [if_pos (by omega)] at hQ
  suffices H : ∀ s, s ≤ n + 1 → 1 ≤ s → ∀ f, 0 ≤ f → f ≤ 1000 * (s - 1) → ∀ m1, qFr qYk m m1 → qVc m1 nL lB lN → (∀ m', qFr qYk m m' → qVc m' nL lB lN → Q (qou (qfit lB lN bl bs k l) i n s f) ((b0, b1, b2), m')) → bGo xs d aM_X11_ends 37 [vr 0, vi k, vi l, vi n, vi i, vi f, vi s, vn] [] ((b0, b1, b2), m1) Q from H 1 (by omega) (by omega) 0 (by omega) (by omega) m qFr.refl hc hQ
  refine qUpto ?_
  intro s hs ih s0 f f0 f1 m1 fr1 hc1 hq
  refine r_X11_ends_37 hd ⟨by omega, by omega, fun h => ⟨by omega, fun h2 => ?_, fun h2 => ?_⟩, fun h => ?_⟩
  · rw [qou_gt h, if_neg h2] at hq
    exact hq m1 fr1 hc1
  · rw [qou_gt h, if_pos h2] at hq
    exact hq m1 fr1 hc1
  · rw [qou_le h] at hq
    have ht := qt10_4 s0 (show s ≤ 4 by omega)
    have hb := qt10_bd (n := s) (by omega) (by omega)
    suffices H : ∀ j, j ≤ qt10 (s - 1) → 0 ≤ j → ∀ g, 0 ≤ g → g ≤ f + j → qin (qfit lB lN bl bs k l) i s 0 f = qin (qfit lB lN bl bs k l) i s j g → ∀ m1, qFr qYk m m1 → qVc m1 nL lB lN → bGo xs d aM_X11_ends 46 [vr 0, vi k, vi l, vi n, vi i, vi g, vi s, vi (10 * j)] [] ((b0, b1, b2), m1) Q from H 0 (by omega) (by omega) f f0 (by omega) rfl m1 fr1 hc1
    refine qUpto ?_
    intro j hj ihj j0 g g0 g1 he m1 fr1 hc1
    refine r_X11_ends_46 hd ⟨by omega, by omega, ?_⟩
    rw [qt10_x (by omega) (by omega)]
    refine ⟨by omega, fun h3 => ?_, fun h3 => ?_⟩
    · rw [he, qin_ge (by omega), if_pos rfl] at hq
      exact ih (by omega) (by omega) g g0 (by omega) m1 fr1 hc1 hq
    · have hj2 : j < qt10 (s - 1) := by omega
      have h01 := qfit_01 (lB := lB) (lN := lN) (bl := bl) (bs := bs) (b := k) (l := l) (S := s) (x := 10 * j)
      refine c_fits hV hc1 hg (hB.yk fr1) k0 k1 l0 l1 s0 (by omega) (by omega) (by omega) ?_
      intro m2 fr2 hc2
      rw [qin_lt hj2] at he
      refine ⟨rfl, by omega, fun h0 => ?_, fun h0 => ⟨by omega, y4, fun h5 => ?_, fun h5 => ⟨by omega, ?_⟩⟩⟩
      · rw [if_pos h0] at he
        rw [show 10 * j + 10 = 10 * (j + 1) by omega]
        exact ihj hj2 (by omega) g g0 (by omega) he m2 (fr1.trans fr2) hc2
      · rw [if_neg h0, if_neg h5] at he
        rw [show 10 * j + 10 = 10 * (j + 1) by omega]
        exact ihj hj2 (by omega) (g + 1) (by omega) (by omega) he m2 (fr1.trans fr2) hc2
      · rw [if_neg h0, if_pos h5] at he
        rw [he, if_neg (by dsimp only; omega)] at hq
        exact hq m2 (fr1.trans fr2) hc2
theorem c_shortest (hV : qVs nL lB lN) (hc : qVc m nL lB lN) (hg : qBg r bl bs) (hB : qBc m r bl bs) (y1 : inR k) (y2 : inR l) (y3 : inR n) (hQ : ∀ m', qFr qYk m m' → qVc m' nL lB lN → Q (qPsho lB lN bl bs nL r k l n) ((b0, b1, b2), m')) : bC xs 8 161 [vr 0, vi k, vi l, vi n] ((b0, b1, b2), m) Q := by
  refine qC rfl fun d hd => r_X11_shortest_0 hd (c_ends hV hc hg hB y1 y2 y3 (by omega) ?_)
  intro m1 f1 hc1
  refine ⟨rfl, ?_⟩
  dsimp only
  have hq := hQ m1 f1 hc1
  unfold qPsho at hq
  unfold qPend
  have v := qt10_v
  have L : ∀ z w : Int, ((z = -1 ∧ w = -1) ∨ (1 ≤ w ∧ w ≤ 4 ∧ qt10 w ≤ z ∧ z < 2 * qt10 w)) → Q w ((b0, b1, b2), m1) → bGo xs d aM_X11_shortest 13 [vn, vn, vn, vn, vi z, vi 1] [] ((b0, b1, b2), m1) Q := by
    intro z w hzw hw
    have zin : inR z := by
      rcases hzw with h | h
      · omega
      · have := qt10_bd (n := w) (by omega) (by omega)
        omega
    suffices H : ∀ s, s ≤ 5 → 1 ≤ s → (w = -1 ∨ s ≤ w) → bGo xs d aM_X11_shortest 13 [vn, vn, vn, vn, vi z, vi s] [] ((b0, b1, b2), m1) Q from H 1 (by omega) (by omega) (by omega)
    refine qUpto ?_
    intro s hs ih s0 hsw
    refine r_X11_shortest_13 hd ⟨by omega, fun h => ?_, fun h => ⟨by omega, zin, ?_⟩⟩
    · have : w = -1 := by omega
      subst this
      exact hw
    · rw [qt10_x (by omega) (by omega)]
      have e1 := qt10_bd (n := s) (by omega) (by omega)
      have e2 := qt10_s (n := s) (by omega) (by omega)
      refine ⟨by omega, fun h2 => ih (by omega) (by omega) ?_, fun h2 => ⟨by omega, zin, ?_⟩⟩
      · by_cases e : s = w
        · subst e; omega
        · omega
      · rw [qt10_x (by omega) (by omega)]
        refine ⟨by omega, fun h3 => ih (by omega) (by omega) ?_, fun h3 => ?_⟩
        · by_cases e : s = w
          · subst e; omega
          · omega
        · have : s = w := by
            have hwv : w = 1 ∨ w = 2 ∨ w = 3 ∨ w = 4 ∨ w = -1 := by omega
            have hsv : s = 1 ∨ s = 2 ∨ s = 3 ∨ s = 4 := by omega
            rcases hwv with rfl | rfl | rfl | rfl | rfl <;> rcases hsv with rfl | rfl | rfl | rfl <;> omega
          subst this
          exact hw
  by_cases hcond : (0 ≤ k ∧ k < r) ∧ (0 ≤ l ∧ l < nL) ∧ (1 ≤ n ∧ n ≤ 4)
  · rw [if_pos hcond] at hq ⊢
    refine L _ _ ?_ hq
    rcases qou_sh (F := qfit lB lN bl bs k l) (n := n) (by omega) 1 (by omega) (by omega) with g | g
    · exact Or.inl g
    · exact Or.inr ⟨g.1, by omega, g.2.2⟩
  · rw [if_neg hcond] at hq ⊢
    exact L _ _ (Or.inl ⟨rfl, rfl⟩) hq
/-! the model's -/
theorem d_ends (hV : qVs nL lB lN) (hc : qVm m nL lB lN) (hg : qBg r bl bs) (hB : qBm m r bl bs) (hl : ∀ k, qbn (m 124 k)) (y1 : inR k) (y2 : inR l) (y3 : inR n) (y4 : inR i) (hQ : ∀ b2' m', qFr (fun a k => qYm a k ∨ (a = 120 ∧ k = 0)) m m' → (∀ k, qbn (m' 124 k)) → Q (qPend lB lN bl bs nL r k l n i) ((b0, b1, b2'), m')) : bC xs 252 269 [vr 120, vi k, vi l, vi n, vi i] ((b0, b1, b2), m) Q := by
  refine qC rfl fun d hd => r_X12_ends_0 hd ?_
  have gr := hg.1
  have h6 := hV.1
  have f0 : qFr qYm (up m 120 0 0) (up m 120 0 0) := qFr.refl
  have hl0 : ∀ k, qbn (up m 120 0 0 124 k) := fun k => by rw [qup_n (by omega)]; exact hl k
  have hc0 : qVm (up m 120 0 0) nL lB lN := hc.fr (qup_o (by omega)) (qup_n (by omega)) (qup_n (by omega))
  have hB0 : qBm (up m 120 0 0) r bl bs := hB.fr (qup_o (by omega)) (qup_n (by omega)) (qup_n (by omega))
  rw [hB.1, hc.1]
  unfold qPend at hQ
  have hno : ¬ ((0 ≤ k ∧ k < r) ∧ (0 ≤ l ∧ l < nL) ∧ (1 ≤ n ∧ n ≤ 4)) → Q (-1) ((b0, b1, b2), up m 120 0 0) := fun hn => by
    have := hQ b2 _ (qYm_t f0) hl0
    rw [if_neg hn] at this
    exact this
  refine ⟨y1, fun h => hno (by omega), fun k0 => ⟨y1, by omega, fun h => hno (by omega), fun k1 => ⟨y2, fun h => hno (by omega), fun l0 => ⟨y2, by omega, fun h => hno (by omega), fun l1 => ⟨y3, by omega, fun h => hno (by omega), fun n0 => ⟨by omega, fun h => hno (by omega), fun n4 => ⟨y4, fun hi => ?_, fun hi => ?_⟩⟩⟩⟩⟩⟩⟩
  · rw [if_pos (by omega)] at hQ
    have hQ0 : ∀ b2' m', qFr qYm (up m 120 0 0) m' → (∀ k, qbn (m' 124 k)) → Q (qou (qfit lB lN bl bs k l) i n 1 0) ((b0, b1, b2'), m') := fun b2' m' f hl' => hQ b2' m' (qYm_t f) hl'
    generalize up m 120 0 0 = m0 at *
    suffices H : ∀ s, s ≤ n + 1 → 1 ≤ s → ∀ f, 0 ≤ f → f ≤ 1000 * (s - 1) → ∀ b2 m1, qFr qYm m0 m1 → (∀ k, qbn (m1 124 k)) → (∀ b2' m', qFr qYm m0 m' → (∀ k, qbn (m' 124 k)) → Q (qou (qfit lB lN bl bs k l) i n s f) ((b0, b1, b2'), m')) → bGo xs d aM_X12_ends 47 [vr 120, vi k, vi l, vi n, vi i, vi f, vi s, vn] [] ((b0, b1, b2), m1) Q from H 1 (by omega) (by omega) 0 (by omega) (by omega) b2 m0 qFr.refl hl0 hQ0
    refine qUpto ?_
    intro s hs ih s0 f f0 f1 b2 m1 fr1 hl1 hq
    refine r_X12_ends_47 hd ⟨by omega, by omega, fun h => ⟨by omega, fun h2 => ?_, fun h2 => ?_⟩, fun h => ?_⟩
    · rw [qou_gt h, if_neg h2] at hq
      exact hq b2 m1 fr1 hl1
    · rw [qou_gt h, if_pos h2] at hq
      exact hq b2 m1 fr1 hl1
    · rw [qou_le h] at hq
      have ht := qt10_4 s0 (show s ≤ 4 by omega)
      have hb := qt10_bd (n := s) (by omega) (by omega)
      suffices H : ∀ j, j ≤ qt10 (s - 1) → 0 ≤ j → ∀ g, 0 ≤ g → g ≤ f + j → qin (qfit lB lN bl bs k l) i s 0 f = qin (qfit lB lN bl bs k l) i s j g → ∀ b2 m1, qFr qYm m0 m1 → (∀ k, qbn (m1 124 k)) → bGo xs d aM_X12_ends 56 [vr 120, vi k, vi l, vi n, vi i, vi g, vi s, vi (10 * j)] [] ((b0, b1, b2), m1) Q from H 0 (by omega) (by omega) f f0 (by omega) rfl b2 m1 fr1 hl1
      refine qUpto ?_
      intro j hj ihj j0 g g0 g1 he b2 m1 fr1 hl1
      refine r_X12_ends_56 hd (d_tens (by omega) (by omega) ⟨rfl, by omega, by omega, fun h3 => ?_, fun h3 => ?_⟩)
      · rw [he, qin_ge (by omega), if_pos rfl] at hq
        exact ih (by omega) (by omega) g g0 (by omega) b2 m1 fr1 hl1 hq
      · have hj2 : j < qt10 (s - 1) := by omega
        have h01 := qfit_01 (lB := lB) (lN := lN) (bl := bl) (bs := bs) (b := k) (l := l) (S := s) (x := 10 * j)
        refine d_isFit hV (hc0.ym fr1) hg (hB0.ym fr1) hl1 k0 k1 l0 l1 s0 (by omega) (by omega) (by omega) ?_
        intro b2' m2 fr2 hl2
        rw [qin_lt hj2] at he
        refine ⟨⟨rfl, rfl⟩, by omega, fun h0 => ⟨by omega, y4, fun h5 => ?_, fun h5 => d_tens (by omega) (by omega) ⟨rfl, ?_⟩⟩, fun h0 => ?_⟩
        · rw [if_neg h0, if_neg h5] at he
          rw [show 10 * j + 10 = 10 * (j + 1) by omega]
          exact ihj hj2 (by omega) (g + 1) (by omega) (by omega) he b2' m2 (fr1.trans fr2) hl2
        · rw [if_neg h0, if_pos h5] at he
          rw [he, if_neg (by dsimp only; omega)] at hq
          exact hq b2' m2 (fr1.trans fr2) hl2
        · rw [if_pos h0] at he
          rw [show 10 * j + 10 = 10 * (j + 1) by omega]
          exact ihj hj2 (by omega) g g0 (by omega) he b2' m2 (fr1.trans fr2) hl2
  · have := hQ b2 _ (qYm_t f0) hl0
    rw [if_pos (by omega)] at this
    unfold qou at this
    rw [qou_neg (by omega) _ _ _ (by omega)] at this
    exact this
theorem d_shortest (hV : qVs nL lB lN) (hc : qVm m nL lB lN) (hg : qBg r bl bs) (hB : qBm m r bl bs) (hl : ∀ k, qbn (m 124 k)) (y1 : inR k) (y2 : inR l) (y3 : inR n) (hQ : ∀ b2' m', qFr (fun a k => qYm a k ∨ (a = 120 ∧ k = 0)) m m' → (∀ k, qbn (m' 124 k)) → Q (qPsho lB lN bl bs nL r k l n) ((b0, b1, b2'), m')) : bC xs 252 270 [vr 120, vi k, vi l, vi n] ((b0, b1, b2), m) Q := by
  refine qC rfl fun d hd => r_X12_shortest_0 hd ?_
  have gr := hg.1
  have h6 := hV.1
  have f0 : qFr qYm (up m 120 0 0) (up m 120 0 0) := qFr.refl
  have hl0 : ∀ k, qbn (up m 120 0 0 124 k) := fun k => by rw [qup_n (by omega)]; exact hl k
  have hc0 : qVm (up m 120 0 0) nL lB lN := hc.fr (qup_o (by omega)) (qup_n (by omega)) (qup_n (by omega))
  have hB0 : qBm (up m 120 0 0) r bl bs := hB.fr (qup_o (by omega)) (qup_n (by omega)) (qup_n (by omega))
  rw [hB.1, hc.1]
  unfold qPsho at hQ
  have hno : ¬ ((0 ≤ k ∧ k < r) ∧ (0 ≤ l ∧ l < nL) ∧ (1 ≤ n ∧ n ≤ 4)) → Q (-1) ((b0, b1, b2), up m 120 0 0) := fun hn => by
    have := hQ b2 _ (qYm_t f0) hl0
    rw [if_neg hn] at this
    exact this
  refine ⟨y1, fun h => hno (by omega), fun k0 => ⟨y1, by omega, fun h => hno (by omega), fun k1 => ⟨y2, fun h => hno (by omega), fun l0 => ⟨y2, by omega, fun h => hno (by omega), fun l1 => ⟨y3, by omega, fun h => hno (by omega), fun n0 => ⟨by omega, fun h => hno (by omega), fun n4 => ?_⟩⟩⟩⟩⟩⟩
  rw [if_pos (by omega)] at hQ
  have hQ0 : ∀ b2' m', qFr qYm (up m 120 0 0) m' → (∀ k, qbn (m' 124 k)) → Q (qsh (qfit lB lN bl bs k l) n 1) ((b0, b1, b2'), m') := fun b2' m' f hl' => hQ b2' m' (qYm_t f) hl'
  generalize up m 120 0 0 = m0 at *
  suffices H : ∀ s, s ≤ n + 1 → 1 ≤ s → ∀ b2 m1, qFr qYm m0 m1 → (∀ k, qbn (m1 124 k)) → (∀ b2' m', qFr qYm m0 m' → (∀ k, qbn (m' 124 k)) → Q (qsh (qfit lB lN bl bs k l) n s) ((b0, b1, b2'), m')) → bGo xs d aM_X12_shortest 38 [vr 120, vi k, vi l, vi n, vi s, vn] [] ((b0, b1, b2), m1) Q from H 1 (by omega) (by omega) b2 m0 qFr.refl hl0 hQ0
  refine qUpto ?_
  intro s hs ih s0 b2 m1 fr1 hl1 hq
  refine r_X12_shortest_38 hd ⟨by omega, by omega, fun h => ?_, fun h => ?_⟩
  · rw [qsh_gt h] at hq
    exact hq b2 m1 fr1 hl1
  · rw [qsh_le h] at hq
    have ht := qt10_4 s0 (show s ≤ 4 by omega)
    have hb := qt10_bd (n := s) (by omega) (by omega)
    suffices H : ∀ j, j ≤ qt10 (s - 1) → 0 ≤ j → qin (qfit lB lN bl bs k l) 0 s 0 0 = qin (qfit lB lN bl bs k l) 0 s j 0 → ∀ b2 m1, qFr qYm m0 m1 → (∀ k, qbn (m1 124 k)) → bGo xs d aM_X12_shortest 47 [vr 120, vi k, vi l, vi n, vi s, vi (10 * j)] [] ((b0, b1, b2), m1) Q from H 0 (by omega) (by omega) rfl b2 m1 fr1 hl1
    refine qUpto ?_
    intro j hj ihj j0 he b2 m1 fr1 hl1
    refine r_X12_shortest_47 hd (d_tens (by omega) (by omega) ⟨rfl, by omega, by omega, fun h3 => ?_, fun h3 => ?_⟩)
    · rw [he, qin_ge (by omega), if_pos rfl] at hq
      exact ih (by omega) (by omega) b2 m1 fr1 hl1 hq
    · have hj2 : j < qt10 (s - 1) := by omega
      have h01 := qfit_01 (lB := lB) (lN := lN) (bl := bl) (bs := bs) (b := k) (l := l) (S := s) (x := 10 * j)
      refine d_isFit hV (hc0.ym fr1) hg (hB0.ym fr1) hl1 k0 k1 l0 l1 s0 (by omega) (by omega) (by omega) ?_
      intro b2' m2 fr2 hl2
      rw [qin_lt hj2] at he
      refine ⟨⟨rfl, rfl⟩, by omega, fun h0 => ?_, fun h0 => ?_⟩
      · rw [if_pos h0] at he
        rw [show 10 * j + 10 = 10 * (j + 1) by omega]
        exact ihj hj2 (by omega) he b2' m2 (fr1.trans fr2) hl2
      · rw [if_neg h0, if_pos rfl] at he
        rw [he, if_neg (by dsimp only; omega)] at hq
        exact hq b2' m2 (fr1.trans fr2) hl2
end ENDS
/-! the dearest -/
def qde (J : Int → Int → Int) (s : Int) (st : Int × Int) : Int × Int := qfold (fun j st => if st.1 < qbc (J s (10 * j)) then (qbc (J s (10 * j)), qt10 s + 10 * j) else st) (qt10 (s - 1)) 0 st
def qdea (J : Int → Int → Int) (n : Int) : Int × Int := qfold (fun s st => qde J s st) (n + 1) 1 (0, -1)
def qPdea (lB : Int → Int → Int) (lN bl bs : Int → Int) (nL r b n w : Int) : Int := if (0 ≤ b ∧ b < r) ∧ (1 ≤ n ∧ n ≤ 4) ∧ (0 ≤ w ∧ w ≤ 1) then (if w = 0 ∨ (qdea (qjd lB lN bl bs nL b) n).2 = -1 then (qdea (qjd lB lN bl bs nL b) n).2 else (qdea (qjd lB lN bl bs nL b) n).1) else -1
section DEAR
variable {xs : List Int32} {d : Nat} {Q : bPo} {b b0 b1 b2 : Bool} {m : Nat → Int → Int} {nT nH : Int} {T P E U N : Int → Int} {t s h k : Int}
variable {nL n r k w : Int} {lB : Int → Int → Int} {lN bl bs : Int → Int} {m' : Nat → Int → Int}
theorem c_dearest (hV : qVs nL lB lN) (hc : qVc m nL lB lN) (hg : qBg r bl bs) (hB : qBc m r bl bs) (y1 : inR k) (y2 : inR n) (y3 : inR w) (hQ : ∀ m', qFr qYk m m' → qVc m' nL lB lN → Q (qPdea lB lN bl bs nL r k n w) ((b0, b1, b2), m')) : bC xs 8 163 [vr 0, vi k, vi n, vi w] ((b0, b1, b2), m) Q := by
  refine qC rfl fun d hd => r_X11_dearest_0 hd ?_
  have gr := hg.1
  have h6 := hV.1
  rw [hB.1]
  unfold qPdea at hQ
  have hno : ¬ ((0 ≤ k ∧ k < r) ∧ (1 ≤ n ∧ n ≤ 4) ∧ (0 ≤ w ∧ w ≤ 1)) → Q (-1) ((b0, b1, b2), m) := fun hn => by
    have := hQ m qFr.refl hc
    rw [if_neg hn] at this
    exact this
  refine ⟨y1, fun h => hno (by omega), fun k0 => ⟨y1, by omega, fun h => hno (by omega), fun k1 => ⟨y2, fun h => hno (by omega), fun n0 => ⟨y2, fun h => hno (by omega), fun n4 => ⟨y3, fun h => hno (by omega), fun w0 => ⟨y3, fun w1 => ?_, fun h => hno (by omega)⟩⟩⟩⟩⟩⟩
  rw [if_pos (by omega)] at hQ
  suffices H : ∀ s, s ≤ n + 1 → 1 ≤ s → ∀ st : Int × Int, inR st.1 → inR st.2 → qdea (qjd lB lN bl bs nL k) n = qfold (fun s st => qde (qjd lB lN bl bs nL k) s st) (n + 1) s st → ∀ m1, qFr qYk m m1 → qVc m1 nL lB lN → bGo xs d aM_X11_dearest 38 [vr 0, vi k, vi n, vi w, vi st.1, vi st.2, vi s, vn, vn] [] ((b0, b1, b2), m1) Q from H 1 (by omega) (by omega) (0, -1) (by dsimp only; omega) (by dsimp only; omega) rfl m qFr.refl hc
  refine qUpto ?_
  intro s hs ih s0 st st1 st2 he m1 fr1 hc1
  refine r_X11_dearest_38 hd ⟨by omega, by omega, fun h => ⟨by omega, fun h2 => ?_, fun h2 => ⟨st2, fun h3 => ?_, fun h3 => ?_⟩⟩, fun h => ?_⟩
  · rw [qfold_ge (by omega)] at he
    rw [he, if_pos (Or.inl h2)] at hQ
    exact hQ m1 fr1 hc1
  · rw [qfold_ge (by omega)] at he
    rw [he, if_neg (by omega)] at hQ
    exact hQ m1 fr1 hc1
  · rw [qfold_ge (by omega)] at he
    rw [he, if_pos (Or.inr h3)] at hQ
    exact hQ m1 fr1 hc1
  · rw [qfold_lt (by omega)] at he
    have ht := qt10_4 s0 (show s ≤ 4 by omega)
    have hb := qt10_bd (n := s) (by omega) (by omega)
    suffices H : ∀ j, j ≤ qt10 (s - 1) → 0 ≤ j → ∀ st1 : Int × Int, inR st1.1 → inR st1.2 → qde (qjd lB lN bl bs nL k) s st = qfold (fun j st => if st.1 < qbc (qjd lB lN bl bs nL k s (10 * j)) then (qbc (qjd lB lN bl bs nL k s (10 * j)), qt10 s + 10 * j) else st) (qt10 (s - 1)) j st1 → ∀ m1, qFr qYk m m1 → qVc m1 nL lB lN → bGo xs d aM_X11_dearest 47 [vr 0, vi k, vi n, vi w, vi st1.1, vi st1.2, vi s, vi (10 * j), vn] [] ((b0, b1, b2), m1) Q from H 0 (by omega) (by omega) st st1 st2 rfl m1 fr1 hc1
    refine qUpto ?_
    intro j hj ihj j0 su su1 su2 he2 m1 fr1 hc1
    refine r_X11_dearest_47 hd ⟨by omega, by omega, ?_⟩
    rw [qt10_x (by omega) (by omega)]
    refine ⟨by omega, fun h3 => ?_, fun h3 => ?_⟩
    · rw [qfold_ge (by omega)] at he2
      rw [he2] at he
      exact ih (by omega) (by omega) su su1 su2 he m1 fr1 hc1
    · have hj2 : j < qt10 (s - 1) := by omega
      refine c_fitting hV hc1 hg (hB.yk fr1) k0 k1 s0 (by omega) (by omega) (by omega) ?_
      intro m2 fr2 hc2
      have hbc := qbc_inR (qjd lB lN bl bs nL k s (10 * j))
      rw [qfold_lt hj2] at he2
      refine ⟨rfl, c_bitCount ⟨rfl, hbc, su1, fun h4 => ?_, fun h4 => ⟨by omega, ?_⟩⟩⟩
      · rw [if_neg (by omega)] at he2
        dsimp only
        rw [show 10 * j + 10 = 10 * (j + 1) by omega]
        exact ihj hj2 (by omega) su su1 su2 he2 m2 (fr1.trans fr2) hc2
      · rw [if_pos h4] at he2
        dsimp only
        rw [show 10 * j + 10 = 10 * (j + 1) by omega]
        exact ihj hj2 (by omega) (qbc (qjd lB lN bl bs nL k s (10 * j)), qt10 s + 10 * j) hbc (by dsimp only; omega) he2 m2 (fr1.trans fr2) hc2
theorem d_dearest (hV : qVs nL lB lN) (hc : qVm m nL lB lN) (hg : qBg r bl bs) (hB : qBm m r bl bs) (hl : ∀ k, qbn (m 124 k)) (y1 : inR k) (y2 : inR n) (y3 : inR w) (hQ : ∀ b2' m', qFr (fun a k => qYm a k ∨ (a = 120 ∧ k = 0)) m m' → (∀ k, qbn (m' 124 k)) → Q (qPdea lB lN bl bs nL r k n w) ((b0, b1, b2'), m')) : bC xs 253 273 [vr 120, vi k, vi n, vi w] ((b0, b1, b2), m) Q := by
  refine qC rfl fun d hd => r_X12_dearest_0 hd ?_
  have gr := hg.1
  have h6 := hV.1
  have f0 : qFr qYm (up m 120 0 0) (up m 120 0 0) := qFr.refl
  have hl0 : ∀ k, qbn (up m 120 0 0 124 k) := fun k => by rw [qup_n (by omega)]; exact hl k
  have hc0 : qVm (up m 120 0 0) nL lB lN := hc.fr (qup_o (by omega)) (qup_n (by omega)) (qup_n (by omega))
  have hB0 : qBm (up m 120 0 0) r bl bs := hB.fr (qup_o (by omega)) (qup_n (by omega)) (qup_n (by omega))
  rw [hB.1]
  unfold qPdea at hQ
  have hno : ¬ ((0 ≤ k ∧ k < r) ∧ (1 ≤ n ∧ n ≤ 4) ∧ (0 ≤ w ∧ w ≤ 1)) → Q (-1) ((b0, b1, b2), up m 120 0 0) := fun hn => by
    have := hQ b2 _ (qYm_t f0) hl0
    rw [if_neg hn] at this
    exact this
  refine ⟨y1, fun h => hno (by omega), fun k0 => ⟨y1, by omega, fun h => hno (by omega), fun k1 => ⟨y2, by omega, fun h => hno (by omega), fun n0 => ⟨by omega, fun h => hno (by omega), fun n4 => ⟨y3, by omega, fun h => hno (by omega), fun w0 => ⟨by omega, fun h => hno (by omega), fun w1 => ?_⟩⟩⟩⟩⟩⟩
  rw [if_pos (by omega)] at hQ
  have hQ0 : ∀ b2' m', qFr qYm (up m 120 0 0) m' → (∀ k, qbn (m' 124 k)) → Q (if w = 0 ∨ (qdea (qjd lB lN bl bs nL k) n).2 = -1 then (qdea (qjd lB lN bl bs nL k) n).2 else (qdea (qjd lB lN bl bs nL k) n).1) ((b0, b1, b2'), m') := fun b2' m' f hl' => hQ b2' m' (qYm_t f) hl'
  generalize up m 120 0 0 = m0 at *
  suffices H : ∀ s, s ≤ n + 1 → 1 ≤ s → ∀ st : Int × Int, inR st.1 → inR st.2 → qdea (qjd lB lN bl bs nL k) n = qfold (fun s st => qde (qjd lB lN bl bs nL k) s st) (n + 1) s st → ∀ b2 m1, qFr qYm m0 m1 → (∀ k, qbn (m1 124 k)) → bGo xs d aM_X12_dearest 46 [vr 120, vi k, vi n, vi w, vi st.2, vi st.1, vi s, vn, vn] [] ((b0, b1, b2), m1) Q from H 1 (by omega) (by omega) (0, -1) (by dsimp only; omega) (by dsimp only; omega) rfl b2 m0 qFr.refl hl0
  refine qUpto ?_
  intro s hs ih s0 st st1 st2 he b2 m1 fr1 hl1
  refine r_X12_dearest_46 hd ⟨by omega, by omega, fun h => ⟨st2, fun h2 => ?_, fun h2 => ⟨by omega, fun h3 => ?_, fun h3 => ?_⟩⟩, fun h => ?_⟩
  · rw [qfold_ge (by omega)] at he
    rw [he, if_pos (Or.inr h2)] at hQ0
    exact hQ0 b2 m1 fr1 hl1
  · rw [qfold_ge (by omega)] at he
    rw [he, if_neg (by omega)] at hQ0
    exact hQ0 b2 m1 fr1 hl1
  · rw [qfold_ge (by omega)] at he
    rw [he, if_pos (Or.inl h3)] at hQ0
    exact hQ0 b2 m1 fr1 hl1
  · rw [qfold_lt (by omega)] at he
    have ht := qt10_4 s0 (show s ≤ 4 by omega)
    have hb := qt10_bd (n := s) (by omega) (by omega)
    suffices H : ∀ j, j ≤ qt10 (s - 1) → 0 ≤ j → ∀ st1 : Int × Int, inR st1.1 → inR st1.2 → qde (qjd lB lN bl bs nL k) s st = qfold (fun j st => if st.1 < qbc (qjd lB lN bl bs nL k s (10 * j)) then (qbc (qjd lB lN bl bs nL k s (10 * j)), qt10 s + 10 * j) else st) (qt10 (s - 1)) j st1 → ∀ b2 m1, qFr qYm m0 m1 → (∀ k, qbn (m1 124 k)) → bGo xs d aM_X12_dearest 55 [vr 120, vi k, vi n, vi w, vi st1.2, vi st1.1, vi s, vi (10 * j), vn] [] ((b0, b1, b2), m1) Q from H 0 (by omega) (by omega) st st1 st2 rfl b2 m1 fr1 hl1
    refine qUpto ?_
    intro j hj ihj j0 su su1 su2 he2 b2 m1 fr1 hl1
    refine r_X12_dearest_55 hd (d_tens (by omega) (by omega) ⟨rfl, by omega, by omega, fun h3 => ?_, fun h3 => ?_⟩)
    · rw [qfold_ge (by omega)] at he2
      rw [he2] at he
      exact ih (by omega) (by omega) su su1 su2 he b2 m1 fr1 hl1
    · have hj2 : j < qt10 (s - 1) := by omega
      refine d_judgedOf hV (hc0.ym fr1) hg (hB0.ym fr1) hl1 k0 k1 s0 (by omega) (by omega) (by omega) ?_
      intro b2' m2 fr2 hl2
      have hbc := qbc_inR (qjd lB lN bl bs nL k s (10 * j))
      rw [qfold_lt hj2] at he2
      refine ⟨⟨rfl, rfl⟩, c_bitCount ⟨rfl, hbc, su1, fun h4 => d_tens (by omega) (by omega) ⟨rfl, ?_⟩, fun h4 => ?_⟩⟩
      · rw [if_pos h4] at he2
        dsimp only
        rw [show 10 * j + 10 = 10 * (j + 1) by omega]
        exact ihj hj2 (by omega) (qbc (qjd lB lN bl bs nL k s (10 * j)), qt10 s + 10 * j) hbc (by dsimp only; omega) he2 b2' m2 (fr1.trans fr2) hl2
      · rw [if_neg (by omega)] at he2
        dsimp only
        rw [show 10 * j + 10 = 10 * (j + 1) by omega]
        exact ihj hj2 (by omega) su su1 su2 he2 b2' m2 (fr1.trans fr2) hl2
end DEAR
