/-! B: the laws that stand, what they are worth on both sides; wishes -/
def qVs (nL : Int) (lB : Int → Int → Int) (lN : Int → Int) : Prop := (0 ≤ nL ∧ nL ≤ 6) ∧ ∀ l, 0 ≤ l → l < nL → qTp (lN l) (lB l) ∧ (qLw (lB l) (lN l) 2440 240 0).1 = -1
def qVz (lB : Int → Int → Int) (lN : Int → Int) (l : Int) : List qCz := (qLw (lB l) (lN l) 2440 240 0).2
def qVw (lB : Int → Int → Int) (lN : Int → Int) (l : Int) (E : Int → Int) : Int := qwz E (qVz lB lN l)
/-- letters of a place, the sign ahead, the sign -/
def qlE (p a c : Int) : Int → Int := fun i => if i = 5 then a else if i = 6 then c else if i = 7 then p else 0
def qlk (lB : Int → Int → Int) (lN : Int → Int) (l p a : Int) : Int := qfold (fun c acc => if 0 < qVw lB lN l (qlE p a c) then bOrr acc (bShl 1 c) else acc) 10 0 0
def qVc (m : Nat → Int → Int) (nL : Int) (lB : Int → Int → Int) (lN : Int → Int) : Prop := m 6 6 = nL ∧ ∀ l, 0 ≤ l → l < nL → m 14 l = (qlayL 0 (qVz lB lN l)).length ∧ qSeg (fun k => m 7 (l * 1000 + k)) 0 (qlayL 0 (qVz lB lN l)) ∧ ∀ p a, 0 ≤ p → p < 16 → 0 ≤ a → a ≤ 9 → m 17 (l * 1000 + (p * 10 + a)) = -1 ∨ m 17 (l * 1000 + (p * 10 + a)) = qlk lB lN l p a
def qVm (m : Nat → Int → Int) (nL : Int) (lB : Int → Int → Int) (lN : Int → Int) : Prop := m 120 7 = nL ∧ ∀ l, 0 ≤ l → l < nL → m 123 l = lN l ∧ ∀ k, 0 ≤ k → k < lN l → m 122 (240 * l + k) = qsb (lB l k)
def qYf (a : Nat) (k : Int) : Prop := a = 15 ∨ a = 16 ∨ (a = 6 ∧ k = 5)
def qYk (a : Nat) (k : Int) : Prop := qYf a k ∨ a = 17
def qYm (a : Nat) (k : Int) : Prop := a = 124 ∨ (a = 120 ∧ 8 ≤ k ∧ k ≤ 17)
section LAWV
variable {xs : List Int32} {d : Nat} {Q : bPo} {b b0 b1 b2 : Bool} {m : Nat → Int → Int} {nT nH : Int} {T P E U N : Int → Int} {t s h k : Int}
variable {nL l : Int} {lB : Int → Int → Int} {lN : Int → Int} {m' : Nat → Int → Int}
theorem qVc.fr (hc : qVc m nL lB lN) (h6 : m' 6 6 = m 6 6) (h14 : m' 14 = m 14) (h7 : m' 7 = m 7) (h17 : m' 17 = m 17) : qVc m' nL lB lN := by
  unfold qVc at *
  rw [h6, h14, h7, h17]
  exact hc
theorem qVm.fr (hc : qVm m nL lB lN) (h7 : m' 120 7 = m 120 7) (h123 : m' 123 = m 123) (h122 : m' 122 = m 122) : qVm m' nL lB lN := by
  unfold qVm at *
  rw [h7, h123, h122]
  exact hc
theorem qVc.yf (hc : qVc m nL lB lN) (f : qFr qYf m m') : qVc m' nL lB lN := hc.fr (f 6 6 (by unfold qYf; omega)) (qFr_at f 14 (fun k => by unfold qYf; omega)) (qFr_at f 7 (fun k => by unfold qYf; omega)) (qFr_at f 17 (fun k => by unfold qYf; omega))
theorem qVm.ym (hc : qVm m nL lB lN) (f : qFr qYm m m') : qVm m' nL lB lN := hc.fr (f 120 7 (by unfold qYm; omega)) (qFr_at f 123 (fun k => by unfold qYm; omega)) (qFr_at f 122 (fun k => by unfold qYm; omega))
theorem qVs_z (hV : qVs nL lB lN) (l0 : 0 ≤ l) (l1 : l < nL) {E : Int → Int} (hE : ∀ i, qbn (E i)) : (∀ z, z ∈ qVz lB lN l → qGz E z) ∧ (qlayL 0 (qVz lB lN l)).length ≤ 240 := by
  obtain ⟨ht, ok⟩ := hV.2 l l0 l1
  have hb := ht.1
  obtain ⟨g1, g2⟩ := qLw_good (f := 2440) ht hE (by omega) 240 0 (by omega) (by omega) ok
  refine ⟨g1, ?_⟩
  have := g2 0
  unfold qVz
  omega
theorem qwz_bn {E : Int → Int} : ∀ (zs : List qCz), (∀ z, z ∈ zs → qGz E z) → qbn (qwz E zs)
  | [], _ => by unfold qwz qbn; omega
  | z :: zs, h => by
    obtain ⟨h1, v, hv, sv⟩ := h z (List.mem_cons_self ..)
    have e := qva_s sv (by omega)
    have ih := qwz_bn zs (fun z' hz' => h z' (List.mem_cons_of_mem _ hz'))
    obtain ⟨zc, zl⟩ := z
    cases zc with
    | none =>
      show qbn (qva E zl [])
      rw [e]; exact hv
    | some c =>
      show qbn (if qva E c [] = 0 then qwz E zs else qva E zl [])
      split
      · exact ih
      · rw [e]; exact hv
theorem qVw_bn (hV : qVs nL lB lN) (l0 : 0 ≤ l) (l1 : l < nL) {E : Int → Int} (hE : ∀ i, qbn (E i)) : qbn (qVw lB lN l E) := qwz_bn _ (qVs_z hV l0 l1 hE).1
theorem c_worthV {E : Int → Int} (hV : qVs nL lB lN) (hc : qVc m nL lB lN) (l0 : 0 ≤ l) (l1 : l < nL) (hE : ∀ i, qbn (E i)) (hm : ∀ i, 0 ≤ i → i ≤ 7 → m 15 i = E i) (hQ : ∀ m', qFr qSf m m' → Q (qVw lB lN l E) ((b0, b1, b2), m')) : bC xs 3 99 [vr 6, vi l] ((b0, b1, b2), m) Q := by
  have hz := qVs_z hV l0 l1 hE
  have hl := hc.2 l l0 l1
  have h6 := hV.1
  exact c_worth (C := fun k => m 7 (l * 1000 + k)) (zs := qVz lB lN l) l0 (by rw [hc.1]; exact l1) (by rw [hc.1]; omega) hl.1 hz.2 hE hm (fun _ => rfl) hl.2.1 hz.1 hQ
theorem d_worthV {E : Int → Int} (hV : qVs nL lB lN) (hc : qVm m nL lB lN) (l0 : 0 ≤ l) (l1 : l < nL) (hE : ∀ i, qbn (E i)) (hm : ∀ c, ¬ qlet c = -1 → m 124 c = E (qlet c)) (hQ : ∀ m', qFr qLn m m' → Q (qVw lB lN l E) ((b0, b1, true), m')) : bC xs 250 256 [vr 120, vi l] ((b0, b1, b2), m) Q := by
  obtain ⟨ht, ok⟩ := hV.2 l l0 l1
  have hl := hc.2 l l0 l1
  have h6 := hV.1
  exact d_worthBy ht hE l0 (by omega) hl.1 hl.2 hm ok hQ
end LAWV
/-! bits of signs -/
theorem qbl_f : ∀ i : Fin 10, ∀ a : Fin 1024, a.val < 2 ^ i.val → (0 ≤ bOrr (a.val : Int) (bShl 1 (i.val : Int)) ∧ bOrr (a.val : Int) (bShl 1 (i.val : Int)) < 2 ^ (i.val + 1)) ∧ ∀ j : Fin 10, (bAnd (bShr (bOrr (a.val : Int) (bShl 1 (i.val : Int))) (j.val : Int)) 1 = 1 ↔ (j.val = i.val ∨ bAnd (bShr (a.val : Int) (j.val : Int)) 1 = 1)) := by decide +kernel
theorem qbl_0 : ∀ j : Fin 10, ¬ bAnd (bShr 0 (j.val : Int)) 1 = 1 := by decide +kernel
def qbI (f : Int → Prop) (i acc : Int) : Prop := (0 ≤ i ∧ i ≤ 10) ∧ (0 ≤ acc ∧ acc < 2 ^ i.toNat) ∧ ∀ j, 0 ≤ j → j ≤ 9 → (bAnd (bShr acc j) 1 = 1 ↔ (j < i ∧ f j))
theorem qbI_0 {f : Int → Prop} : qbI f 0 0 := by
  refine ⟨by omega, ⟨by omega, by decide⟩, fun j j0 j1 => ?_⟩
  obtain ⟨n, rfl⟩ := Int.eq_ofNat_of_zero_le j0
  have := qbl_0 ⟨n, by omega⟩
  constructor
  · intro h; exact absurd h this
  · intro h; omega
theorem qp2 {i : Nat} (h : i ≤ 10) : (2 : Int) ^ i ≤ 1024 := by
  have H : ∀ i : Fin 11, (2 : Int) ^ i.val ≤ 1024 := by decide
  exact H ⟨i, by omega⟩
theorem qbI_y {f : Int → Prop} {i acc : Int} (h : qbI f i acc) (h9 : i ≤ 9) (hf : f i) : qbI f (i + 1) (bOrr acc (bShl 1 i)) := by
  obtain ⟨⟨i0, i1⟩, ⟨a0, a1⟩, hb⟩ := h
  obtain ⟨n, rfl⟩ := Int.eq_ofNat_of_zero_le i0
  obtain ⟨a, rfl⟩ := Int.eq_ofNat_of_zero_le a0
  rw [Int.toNat_natCast] at a1
  have p2 := qp2 (i := n) (by omega)
  have a1' : a < 2 ^ n := by
    have : ((2 ^ n : Nat) : Int) = (2 : Int) ^ n := by rw [Int.natCast_pow]; rfl
    omega
  obtain ⟨g1, g2⟩ := qbl_f ⟨n, by omega⟩ ⟨a, by omega⟩ a1'
  refine ⟨by omega, ⟨g1.1, ?_⟩, fun j j0 j1 => ?_⟩
  · rw [show ((n : Int) + 1).toNat = n + 1 by omega]; exact g1.2
  · obtain ⟨k, rfl⟩ := Int.eq_ofNat_of_zero_le j0
    have := g2 ⟨k, by omega⟩
    have hk := hb (k : Int) (by omega) j1
    refine this.trans ?_
    constructor
    · rintro (h | h)
      · have h : k = n := h
        exact ⟨by omega, by rw [h]; exact hf⟩
      · have := hk.mp h
        exact ⟨by omega, this.2⟩
    · intro h
      by_cases e : k = n
      · exact Or.inl e
      · exact Or.inr (hk.mpr ⟨by omega, h.2⟩)
theorem qbI_n {f : Int → Prop} {i acc : Int} (h : qbI f i acc) (h9 : i ≤ 9) (hf : ¬ f i) : qbI f (i + 1) acc := by
  obtain ⟨⟨i0, i1⟩, ⟨a0, a1⟩, hb⟩ := h
  obtain ⟨n, rfl⟩ := Int.eq_ofNat_of_zero_le i0
  rw [Int.toNat_natCast] at a1
  refine ⟨by omega, ⟨a0, ?_⟩, fun j j0 j1 => ?_⟩
  · rw [show ((n : Int) + 1).toNat = n + 1 by omega, Int.pow_succ]; omega
  · rw [hb j j0 j1]
    constructor
    · intro h; exact ⟨by omega, h.2⟩
    · intro h
      refine ⟨?_, h.2⟩
      by_cases e : j = n
      · rw [e] at h; exact absurd h.2 hf
      · omega
section LIKES
variable {xs : List Int32} {d : Nat} {Q : bPo} {b b0 b1 b2 : Bool} {m : Nat → Int → Int} {nT nH : Int} {T P E U N : Int → Int} {t s h k : Int}
variable {nL l p a c : Int} {lB : Int → Int → Int} {lN : Int → Int}
theorem qlk_b : qbI (fun c => 0 < qVw lB lN l (qlE p a c)) 10 (qlk lB lN l p a) := by
  unfold qlk
  refine qfold_inv (I := fun i acc => qbI (fun c => 0 < qVw lB lN l (qlE p a c)) i acc) ?_ (by omega) qbI_0
  intro i acc i0 i1 h
  try dsimp only
  split
  · exact qbI_y h (by omega) (by assumption)
  · exact qbI_n h (by omega) (by assumption)
theorem qlk_bd : 0 ≤ qlk lB lN l p a ∧ qlk lB lN l p a < 1024 := by
  have := (qlk_b (lB := lB) (lN := lN) (l := l) (p := p) (a := a)).2.1
  exact this
theorem qlk_c (c0 : 0 ≤ c) (c1 : c ≤ 9) : bAnd (bShr (qlk lB lN l p a) c) 1 = 1 ↔ 0 < qVw lB lN l (qlE p a c) := by
  rw [qlk_b.2.2 c c0 c1]
  constructor
  · intro h; exact h.2
  · intro h; exact ⟨by omega, h⟩
theorem qlE_bn (p0 : 0 ≤ p) (p1 : p < 16) (a0 : 0 ≤ a) (a1 : a ≤ 9) (c0 : 0 ≤ c) (c1 : c ≤ 9) : ∀ i, qbn (qlE p a c i) := by
  intro i
  unfold qlE qbn
  split
  · omega
  · split
    · omega
    · split <;> omega
theorem c_signsLiked (hV : qVs nL lB lN) (hc : qVc m nL lB lN) (l0 : 0 ≤ l) (l1 : l < nL) (p0 : 0 ≤ p) (p1 : p < 16) (a0 : 0 ≤ a) (a1 : a ≤ 9) (hQ : ∀ m', qFr qYf m m' → Q (qlk lB lN l p a) ((b0, b1, b2), m')) : bC xs 4 98 [vr 6, vi l, vi p, vi a] ((b0, b1, b2), m) Q := by
  refine qC rfl fun d hd => r_X7_signsLiked_0 hd (c_fillA fun m1 f1 e1 => ⟨rfl, ?_⟩)
  dsimp only
  unfold qlk at hQ
  suffices H : ∀ c, c ≤ 10 → 0 ≤ c → ∀ acc, inR acc → ∀ m', qFr qYf m m' → (∀ i, 0 ≤ i → i ≤ 7 → ¬ i = 6 → m' 15 i = qlE p a 0 i) → (∀ m2, qFr qYf m m2 → Q (qfold (fun c acc => if 0 < qVw lB lN l (qlE p a c) then bOrr acc (bShl 1 c) else acc) 10 c acc) ((b0, b1, b2), m2)) → bGo xs d aM_X7_signsLiked 29 [vr 6, vi l, vn, vn, vi acc, vi c] [] ((b0, b1, b2), m') Q by
    refine H 0 (by omega) (by omega) 0 (by omega) _ (qFr_up (qFr_up (f1.mono (fun a k h => by unfold qYf; omega)) (by unfold qYf; omega)) (by unfold qYf; omega)) ?_ hQ
    intro i i0 i7 i6
    rw [qup_if, qup_if, e1 i i0 (by omega)]
    unfold qlE
    by_cases h5 : i = 5
    · rw [if_neg (by omega), if_pos h5, if_pos h5]
    · by_cases h7 : i = 7
      · rw [if_pos h7, if_neg h5, if_neg i6, if_pos h7]
      · rw [if_neg h7, if_neg h5, if_neg h5, if_neg i6, if_neg h7]
  refine qUpto ?_
  intro c hs ih c0 acc ha m' fm he hq
  refine r_X7_signsLiked_29 hd ⟨by omega, fun h => ?_, fun h => ?_⟩
  · rw [qfold_ge (by omega)] at hq
    exact hq m' fm
  · have hE := qlE_bn (c := c) p0 p1 a0 a1 c0 h
    have f2 : qFr qYf m (up m' 15 6 c) := qFr_up fm (by unfold qYf; omega)
    have hw := qVw_bn hV l0 l1 hE
    refine c_worthV hV (hc.yf f2) l0 l1 hE ?_ ?_
    · intro i i0 i7
      rw [qup_if]
      by_cases h6 : i = 6
      · rw [if_pos h6]
        subst h6
        rfl
      · rw [if_neg h6, he i i0 i7 h6]
        unfold qlE
        rw [if_neg (c := i = 6) h6, if_neg (c := i = 6) h6]
    · intro m2 f3
      have f4 : qFr qYf m m2 := f2.trans (f3.mono (fun a k h => by unfold qSf at h; unfold qYf; omega))
      have e15 : m2 15 = up m' 15 6 c 15 := qFr_at f3 15 (fun k => by unfold qSf; omega)
      have he2 : ∀ i, 0 ≤ i → i ≤ 7 → ¬ i = 6 → m2 15 i = qlE p a 0 i := fun i i0 i7 i6 => by
        rw [e15, qup_o i6]; exact he i i0 i7 i6
      unfold qbn at hw
      rw [qfold_lt (by omega)] at hq
      refine ⟨rfl, by omega, fun h0 => ?_, fun h0 => ?_⟩
      · rw [if_neg (by omega)] at hq
        exact ih (by omega) (by omega) acc ha m2 f4 he2 hq
      · rw [if_pos h0] at hq
        exact ih (by omega) (by omega) _ (qOrr_inR _ _) m2 f4 he2 hq
theorem c_likes (hV : qVs nL lB lN) (hc : qVc m nL lB lN) (l0 : 0 ≤ l) (l1 : l < nL) (p0 : 0 ≤ p) (p1 : p < 16) (a0 : 0 ≤ a) (a1 : a ≤ 9) (c0 : 0 ≤ c) (c1 : c ≤ 9) (hQ : ∀ m', qFr qYk m m' → qVc m' nL lB lN → Q (if 0 < qVw lB lN l (qlE p a c) then 1 else 0) ((b0, b1, b2), m')) : bC xs 5 97 [vr 6, vi l, vi p, vi a, vi c] ((b0, b1, b2), m) Q := by
  have h6 := hV.1
  have hl := (hc.2 l l0 l1).2.2 p a p0 p1 a0 a1
  have hk := qlk_bd (lB := lB) (lN := lN) (l := l) (p := p) (a := a)
  have hb := qlk_c (lB := lB) (lN := lN) (l := l) (p := p) (a := a) c0 c1
  refine qC rfl fun d hd => r_X7_likes_0 hd ?_
  rw [hc.1]
  refine ⟨by omega, fun h => by omega, fun _ => ⟨by omega, by omega, fun h => by omega, fun _ => ⟨by omega, fun h => by omega, fun _ => ⟨by omega, fun h => by omega, fun _ => ⟨by omega, fun h => by omega, fun _ => ⟨by omega, fun _ => ⟨by omega, by omega, by omega, by omega, fun h => ?_, fun h => ⟨by omega, ?_⟩⟩, fun h => by omega⟩⟩⟩⟩⟩⟩
  · have e : m 17 (l * 1000 + (p * 10 + a)) = qlk lB lN l p a := by omega
    rw [e]
    refine ⟨by omega, by omega, by omega, qAnd_inR _ _, fun h2 => ?_, fun h2 => ?_⟩
    · have := hQ m qFr.refl hc
      rw [if_neg (fun h => h2 (hb.mpr h))] at this
      exact this
    · have := hQ m qFr.refl hc
      rw [if_pos (hb.mp h2)] at this
      exact this
  · refine c_signsLiked hV hc l0 l1 p0 p1 a0 a1 ?_
    intro m1 f1
    rw [qup_s]
    have hc1 := hc.yf f1
    have f2 : qFr qYk m (up m1 17 (l * 1000 + (p * 10 + a)) (qlk lB lN l p a)) := qFr_up (f1.mono (fun a k h => Or.inl h)) (Or.inr rfl)
    have hc2 : qVc (up m1 17 (l * 1000 + (p * 10 + a)) (qlk lB lN l p a)) nL lB lN := by
      refine ⟨by rw [qup_n (by omega)]; exact hc1.1, fun l' l0' l1' => ?_⟩
      obtain ⟨g1, g2, g3⟩ := hc1.2 l' l0' l1'
      refine ⟨by rw [qup_n (by omega)]; exact g1, by rw [qup_n (by omega)]; exact g2, fun p' a' p0' p1' a0' a1' => ?_⟩
      by_cases e : l' * 1000 + (p' * 10 + a') = l * 1000 + (p * 10 + a)
      · have e1 : l' = l := by omega
        have e2 : p' = p := by omega
        have e3 : a' = a := by omega
        subst e1 e2 e3
        rw [qup_s]
        exact Or.inr rfl
      · rw [qup_o e]
        exact g3 p' a' p0' p1' a0' a1'
    refine ⟨rfl, by omega, by omega, by omega, by omega, by omega, qAnd_inR _ _, fun h2 => ?_, fun h2 => ?_⟩
    · have := hQ _ f2 hc2
      rw [if_neg (fun h => h2 (hb.mpr h))] at this
      exact this
    · have := hQ _ f2 hc2
      rw [if_pos (hb.mp h2)] at this
      exact this
end LIKES
