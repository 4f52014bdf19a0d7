/-! THE RULES' SOUNDNESS, 2: a run doesn't see holes; the store -/
theorem aLe_put1 {lv lv' : List Value} (h : aLe lv lv') {pc i : Nat} {v : Value} {st : List Value} {σ : aSt} {z : aC} (e : aPut1 pc lv i v st σ = some (.inl z)) : aPut1 pc lv' i v st σ = some (.inl (z.1, lv'.set i v, z.2.2)) ∧ aLe z.2.1 (lv'.set i v) := by
  obtain ⟨h1, h2, rfl⟩ := aPut1_inv e
  refine ⟨?_, h.set i v⟩
  unfold aPut1
  have hb : (Nat.blt i lv'.length && aNoL lv' i) = true := by
    rw [Bool.and_eq_true]
    exact ⟨Nat.ble_eq_true_of_le (by rw [← h.1]; exact h1), h.noL i h2⟩
  rw [hb]
  rfl
theorem aLe_put2 {lv lv' : List Value} (h : aLe lv lv') {pc i : Nat} {v : Value} {st : List Value} {σ : aSt} {z : aC} (e : aPut2 pc lv i v st σ = some (.inl z)) : aPut2 pc lv' i v st σ = some (.inl (z.1, (lv'.set i v).set (i + 1) .null, z.2.2)) ∧ aLe z.2.1 ((lv'.set i v).set (i + 1) .null) := by
  obtain ⟨h1, h2, rfl⟩ := aPut2_inv e
  refine ⟨?_, (h.set i v).set (i + 1) .null⟩
  unfold aPut2
  have hb : (Nat.blt (i + 1) lv'.length && aNoL lv' i) = true := by
    rw [Bool.and_eq_true]
    exact ⟨Nat.ble_eq_true_of_le (by rw [← h.1]; exact h1), h.noL i h2⟩
  rw [hb]
  rfl
def aRl (r r' : aR) : Prop := ∃ lv', r' = aWl lv' r ∧ match r with
  | .inl (_, lv, _, _) => aLe lv lv'
  | .inr (.inl _) => True
  | .inr (.inr (_, _, (_, lv, _, _))) => aLe lv lv'
theorem aIns_loc {ins : Instr} (hl : aLoc ins = true) {X : aXt} {S : List aSh} {M : aM} {pc : Nat} {lv st : List Value} {σ : aSt} {r : aR} (h : aIns X S M pc ins lv st σ = some r) : ∃ z, r = .inl z := by
  cases ins <;> first | (cases hl; done) | skip
  all_goals
    simp only [aIns, aLdI, aLdL, aLdR, aStI, aStL, aStR, aPut1, aPut2, aGo] at h
    repeat' (split at h)
    all_goals first | (cases h; done) | (cases h; exact ⟨_, rfl⟩)
theorem aIns_le {ins : Instr} {X : aXt} {S : List aSh} {M : aM} {pc : Nat} {lv lv' st : List Value} {σ : aSt} {r : aR} (hle : aLe lv lv') (h : aIns X S M pc ins lv st σ = some r) : ∃ r', aIns X S M pc ins lv' st σ = some r' ∧ aRl r r' := by
  cases hl : aLoc ins with
  | false =>
    have e := aIns_wl hl X S M pc lv lv' st σ
    have e0 := aIns_wl hl X S M pc lv lv st σ
    rw [h] at e e0
    refine ⟨aWl lv' r, e, lv', rfl, ?_⟩
    have e0 : r = aWl lv r := Option.some.inj e0
    match r, e0 with
    | .inl (pc1, l1, s1, σ1), e0 =>
      have : l1 = lv := by cases e0; rfl
      subst this
      exact hle
    | .inr (.inl x), _ => trivial
    | .inr (.inr (K, as, (pc1, l1, s1, σ1))), e0 =>
      have : l1 = lv := by cases e0; rfl
      subst this
      exact hle
  | true =>
    obtain ⟨z, rfl⟩ := aIns_loc hl h
    cases ins <;> first | (cases hl; done) | skip
    case iload_n k =>
      obtain ⟨x, e1, rfl⟩ := aLdI_inv h
      exact ⟨.inl (pc + 1, lv', .int x :: st, σ), by simp only [aIns, aLdI, hle.at e1 (by intro h; cases h)]; rfl, lv', rfl, hle⟩
    case iload k =>
      obtain ⟨x, e1, rfl⟩ := aLdI_inv h
      exact ⟨.inl (pc + 2, lv', .int x :: st, σ), by simp only [aIns, aLdI, hle.at e1 (by intro h; cases h)]; rfl, lv', rfl, hle⟩
    case lload_n k =>
      obtain ⟨x, e1, rfl⟩ := aLdL_inv h
      exact ⟨.inl (pc + 1, lv', .long x :: st, σ), by simp only [aIns, aLdL, hle.at e1 (by intro h; cases h)]; rfl, lv', rfl, hle⟩
    case lload k =>
      obtain ⟨x, e1, rfl⟩ := aLdL_inv h
      exact ⟨.inl (pc + 2, lv', .long x :: st, σ), by simp only [aIns, aLdL, hle.at e1 (by intro h; cases h)]; rfl, lv', rfl, hle⟩
    case aload_n k =>
      obtain ⟨x, e1, rfl⟩ := aLdR_inv h
      exact ⟨.inl (pc + 1, lv', .ref x :: st, σ), by simp only [aIns, aLdR, hle.at e1 (by intro h; cases h)]; rfl, lv', rfl, hle⟩
    case aload k =>
      obtain ⟨x, e1, rfl⟩ := aLdR_inv h
      exact ⟨.inl (pc + 2, lv', .ref x :: st, σ), by simp only [aIns, aLdR, hle.at e1 (by intro h; cases h)]; rfl, lv', rfl, hle⟩
    case istore_n k =>
      simp only [aIns, aStI] at h ⊢
      split at h
      · obtain ⟨q1, q2⟩ := aLe_put1 hle h
        exact ⟨_, q1, _, rfl, q2⟩
      · cases h
    case istore k =>
      simp only [aIns, aStI] at h ⊢
      split at h
      · obtain ⟨q1, q2⟩ := aLe_put1 hle h
        exact ⟨_, q1, _, rfl, q2⟩
      · cases h
    case astore_n k =>
      simp only [aIns, aStR] at h ⊢
      split at h
      · obtain ⟨q1, q2⟩ := aLe_put1 hle h
        exact ⟨_, q1, _, rfl, q2⟩
      · cases h
    case astore k =>
      simp only [aIns, aStR] at h ⊢
      split at h
      · obtain ⟨q1, q2⟩ := aLe_put1 hle h
        exact ⟨_, q1, _, rfl, q2⟩
      · cases h
    case lstore_n k =>
      simp only [aIns, aStL] at h ⊢
      split at h
      · obtain ⟨q1, q2⟩ := aLe_put2 hle h
        exact ⟨_, q1, _, rfl, q2⟩
      · cases h
    case lstore k =>
      simp only [aIns, aStL] at h ⊢
      split at h
      · obtain ⟨q1, q2⟩ := aLe_put2 hle h
        exact ⟨_, q1, _, rfl, q2⟩
      · cases h
    case iinc i n =>
      simp only [aIns] at h ⊢
      split at h
      · rename_i x e1
        obtain ⟨q1, q2⟩ := aLe_put1 hle h
        rw [hle.at e1 (by intro h; cases h)]
        exact ⟨_, q1, _, rfl, q2⟩
      · cases h
theorem oExec_le {X : aXt} {S : List aSh} {P : List aM} : ∀ (f d : Nat) (M : aM) (pc : Nat) (lv lv' st : List Value) (σ : aSt) (r : Option Value × aSt), aLe lv lv' → oExec X S P f d M pc lv st σ = some r → oExec X S P f d M pc lv' st σ = some r := by
  intro f
  induction f with
  | zero => intro d M pc lv lv' st σ r _ h; cases h
  | succ f ih =>
    intro d M pc lv lv' st σ r hle h
    rw [oExec] at h ⊢
    cases hs : aStep X S M pc lv st σ with
    | none => rw [hs] at h; cases h
    | some q =>
      rw [hs] at h
      have hs' : ∃ r', aStep X S M pc lv' st σ = some r' ∧ aRl q r' := by
        unfold aStep at hs ⊢
        split at hs
        · exact aIns_le hle hs
        · cases hs
      obtain ⟨r', e1, lv2, rfl, hle2⟩ := hs'
      rw [e1]
      match q, h, hle2 with
      | .inl (pc1, l1, s1, σ1), h, hle2 => exact ih d M pc1 l1 lv2 s1 σ1 r hle2 h
      | .inr (.inl x), h, _ => exact h
      | .inr (.inr (K, as, (pc1, l1, s1, σ1))), h, hle2 =>
        simp only [aWl] at h ⊢
        match d, h with
        | 0, h => cases h
        | d' + 1, h =>
          simp only at h ⊢
          cases ho : oOr K as with
          | some v =>
            rw [ho] at h
            simp only at h ⊢
            split at h
            · exact ih (d' + 1) M pc1 l1 lv2 (v :: s1) σ1 r hle2 h
            · cases h
          | none =>
            rw [ho] at h
            simp only at h ⊢
            cases hP : P[K]? with
            | none => rw [hP] at h; cases h
            | some M' =>
              rw [hP] at h
              simp only at h ⊢
              cases hb : Nat.ble (aArg as).length (aML M') with
              | false => rw [hb] at h; cases h
              | true =>
                rw [hb] at h
                simp only at h ⊢
                cases he : oExec X S P f d' M' 0 (aEnt M' as) [] σ1 with
                | none => rw [he] at h; cases h
                | some q2 =>
                  rw [he] at h
                  match q2, h with
                  | (v, σ2), h => exact ih (d' + 1) M pc1 l1 lv2 (v.toList ++ s1) σ2 r hle2 h
theorem bMk_le : ∀ (ks : List Bool) (lv : List bV), aLe ((bMk ks lv).map bVal) (lv.map bVal)
  | [], lv => aLe.rf _
  | _ :: _, [] => aLe.rf _
  | k :: ks, v :: lv => by
    have ih := bMk_le ks lv
    have hc : ∀ (u : bV), (bVal u = bVal v ∨ (bVal u = .null ∧ (bVal v).category = 1)) → aLe ((u :: bMk ks lv).map bVal) ((v :: lv).map bVal) := fun u hu => by
      refine ⟨by simp only [List.map_cons, List.length_cons]; rw [ih.1], fun i w hw => ?_⟩
      cases i with
      | zero =>
        simp only [List.map_cons, List.getElem?_cons_zero, Option.some.injEq] at hw ⊢
        subst hw
        rcases hu with h | ⟨h1, h2⟩
        · exact Or.inl h.symm
        · exact Or.inr ⟨h1, _, rfl, h2⟩
      | succ i =>
        simp only [List.map_cons, List.getElem?_cons_succ] at hw ⊢
        exact ih.2 i w hw
    show aLe ((match k || !(bCt v) with
      | true => v :: bMk ks lv
      | false => vn :: bMk ks lv).map bVal) _
    cases hk : (k || !(bCt v)) with
    | true => exact hc v (Or.inl rfl)
    | false =>
      refine hc vn (Or.inr ⟨rfl, bCt_cat ?_⟩)
      cases hb : bCt v with
      | true => rfl
      | false => rw [hb] at hk; simp at hk
/-! the store -/
theorem bσ_obj {μ : bMm} {a k cj : Nat} (h : aS[a]? = some (.inl cj)) : bσ μ a k = bVo μ a k (bF a k) := by
  show bVs μ a k aS[a]? = _
  rw [h]
  rfl
theorem bσ_arr {μ : bMm} {a k t n : Nat} (h : aS[a]? = some (.inr (t, n))) (hk : k < n) : bσ μ a k = bVa μ a k t := by
  show bVs μ a k aS[a]? = _
  rw [h]
  have : Nat.blt k n = true := Nat.ble_eq_true_of_le hk
  show (match Nat.blt k n with
    | true => bVa μ a k t
    | false => .null) = _
  rw [this]
theorem bσ_arr' {μ : bMm} {a k t n : Nat} (h : aS[a]? = some (.inr (t, n))) (hk : ¬ k < n) : bσ μ a k = .null := by
  show bVs μ a k aS[a]? = _
  rw [h]
  have : Nat.blt k n = false := by
    cases hb : Nat.blt k n with
    | false => rfl
    | true => exact absurd (Nat.le_of_ble_eq_true hb) hk
  show (match Nat.blt k n with
    | true => bVa μ a k t
    | false => .null) = _
  rw [this]
theorem bσ_none {μ : bMm} {a k : Nat} (h : aS[a]? = none) : bσ μ a k = .null := by
  show bVs μ a k aS[a]? = _
  rw [h]
  rfl
theorem bAd_plain {a : Nat} (h : bRow a = false) : bAd a = (a, 0) := by
  unfold bAd
  rw [h]
theorem bMe_plain {μ : bMm} {a : Nat} (h : bRow a = false) (k : Int) : bMe μ a k = μ.2 a k := by
  unfold bMe
  rw [bAd_plain h]
  simp
/-- where rows lie -/
theorem bAd_row {a : Nat} (h : bRow a = true) : (bAd a).1 < a ∧ bOut (bAd a).1 = true ∧ (bAd a).2 = ((a - (bAd a).1 - 1 : Nat) : Int) * 1000 := by
  unfold bAd
  rw [h]
  simp only
  simp only [bRow, Bool.or_eq_true, Bool.and_eq_true, Nat.ble_eq] at h
  cases h1 : Nat.ble a 13 with
  | true =>
    have h1 := Nat.le_of_ble_eq_true h1
    refine ⟨by show 7 < a; omega, rfl, ?_⟩
    show ((a - 8 : Nat) : Int) * 1000 = ((a - 7 - 1 : Nat) : Int) * 1000
    rfl
  | false =>
    have h1 : ¬ a ≤ 13 := fun q => by rw [Nat.ble_eq_true_of_le q] at h1; cases h1
    cases h2 : Nat.ble a 23 with
    | true =>
      have h2 := Nat.le_of_ble_eq_true h2
      exact ⟨by show 17 < a; omega, rfl, rfl⟩
    | false =>
      have h2 : ¬ a ≤ 23 := fun q => by rw [Nat.ble_eq_true_of_le q] at h2; cases h2
      cases h3 : Nat.ble a 30 with
      | true =>
        have h3 := Nat.le_of_ble_eq_true h3
        exact ⟨by show 25 < a; omega, rfl, rfl⟩
      | false =>
        have h3 : ¬ a ≤ 30 := fun q => by rw [Nat.ble_eq_true_of_le q] at h3; cases h3
        exact ⟨by show 37 < a; omega, rfl, rfl⟩
theorem bVo_cg {μ ν : bMm} {a k : Nat} (h1 : ν.1 = μ.1) (h2 : ν.2 a k = μ.2 a k) (v : Value) : bVo ν a k v = bVo μ a k v := by
  cases v with
  | int x => show Value.int _ = Value.int _; rw [h2]
  | long x => show Value.long _ = Value.long _; rw [h2]
  | ref r => show Value.ref _ = Value.ref _; rw [h1]
  | _ => rfl
theorem bVa_cg {μ ν : bMm} {a k t : Nat} (h2 : ν.2 a k = μ.2 a k) (h3 : bMe ν a k = bMe μ a k) : bVa ν a k t = bVa μ a k t := by
  unfold bVa
  split
  · rfl
  · rw [h2]
  · rw [h3]
theorem bVs_cg {μ ν : bMm} {a k : Nat} {sh : Option aSh} (h1 : ν.1 = μ.1) (h2 : ν.2 a k = μ.2 a k) (h3 : bMe ν a k = bMe μ a k) : bVs ν a k sh = bVs μ a k sh := by
  unfold bVs
  split
  · rfl
  · split
    · exact bVa_cg h2 h3
    · rfl
  · exact bVo_cg h1 h2 _
/-- another cell isn't touched: no row's place is another's -/
theorem bMe_up {μ : bMm} {a b : Nat} {k z : Int} (ho : bOut a = false) (e : b ≠ a) (j : Int) : bMe (bUp μ a k z) b j = bMe μ b j := by
  show up μ.2 a k z (bAd b).1 _ = μ.2 (bAd b).1 _
  unfold up
  have : (bAd b).1 ≠ a := by
    cases hb : bRow b with
    | false => rw [bAd_plain hb]; exact e
    | true =>
      intro q
      have := (bAd_row hb).2.1
      rw [q, ho] at this
      cases this
  rw [if_neg this]
theorem up_ne {m : Nat → Int → Int} {a b : Nat} {k z j : Int} (e : b ≠ a) : up m a k z b j = m b j := by
  unfold up
  rw [if_neg e]
theorem up_nk {m : Nat → Int → Int} {a b : Nat} {k z j : Int} (e : j ≠ k) : up m a k z b j = m b j := by
  unfold up
  by_cases h : b = a
  · rw [if_pos h, if_neg e]
  · rw [if_neg h]
theorem up_eq {m : Nat → Int → Int} {a : Nat} {k z : Int} : up m a k z a k = z := by
  unfold up
  rw [if_pos rfl, if_pos rfl]
theorem aUp_at (σ : aSt) (a k : Nat) (v : Value) (b j : Nat) : aUp σ a k v b j = if b = a then (if j = k then v else σ b j) else σ b j := rfl
/-- an object's int or long -/
theorem bUp_obj {μ : bMm} {a k cj : Nat} {z : Int} (h : aS[a]? = some (.inl cj)) (hr : bRow a = false) (ho : bOut a = false) : aUp (bσ μ) a k (bVo (bUp μ a k z) a k (bF a k)) = bσ (bUp μ a k z) := by
  funext b j
  rw [aUp_at]
  by_cases e : b = a
  · subst e
    rw [if_pos rfl, bσ_obj h, bσ_obj h]
    by_cases e2 : j = k
    · subst e2
      rw [if_pos rfl]
    · rw [if_neg e2]
      have hne : (j : Int) ≠ (k : Int) := by omega
      exact (bVo_cg (μ := μ) (ν := bUp μ b k z) rfl (up_nk hne) _).symm
  · rw [if_neg e]
    exact (bVs_cg (μ := μ) (ν := bUp μ a k z) rfl (up_ne e) (bMe_up ho e _)).symm
/-- a plain row's place -/
theorem bUp_arr {μ : bMm} {a k t n : Nat} {z : Int} (h : aS[a]? = some (.inr (t, n))) (hk : k < n) (ht : t ≠ 4) (hr : bRow a = false) (ho : bOut a = false) : aUp (bσ μ) a k (bVa (bUp μ a k z) a k t) = bσ (bUp μ a k z) := by
  funext b j
  rw [aUp_at]
  by_cases e : b = a
  · subst e
    rw [if_pos rfl]
    by_cases hj : j < n
    · rw [bσ_arr h hj, bσ_arr h hj]
      by_cases e2 : j = k
      · subst e2
        rw [if_pos rfl]
      · rw [if_neg e2]
        have hne : (j : Int) ≠ (k : Int) := by omega
        refine (bVa_cg (μ := μ) (ν := bUp μ b k z) (up_nk hne) ?_).symm
        rw [bMe_plain hr, bMe_plain hr]
        exact up_nk hne
    · rw [if_neg (by omega), bσ_arr' h hj, bσ_arr' h hj]
  · rw [if_neg e]
    exact (bVs_cg (μ := μ) (ν := bUp μ a k z) rfl (up_ne e) (bMe_up ho e _)).symm
/-- the outer rows -/
theorem bOut_cases {a : Nat} (h : bOut a = true) : a = 7 ∨ a = 17 ∨ a = 25 ∨ a = 37 := by
  simp only [bOut, Bool.or_eq_true] at h
  rcases h with h | h | h | h
  · exact Or.inl (Nat.eq_of_beq_eq_true h)
  · exact Or.inr (Or.inl (Nat.eq_of_beq_eq_true h))
  · exact Or.inr (Or.inr (Or.inl (Nat.eq_of_beq_eq_true h)))
  · exact Or.inr (Or.inr (Or.inr (Nat.eq_of_beq_eq_true h)))
/-- what is known of an outer row: it is one of references, its rows follow it, all of one length below 1000 -/
def bRowsC (a : Nat) : Bool := match aS[a]? with
  | some (.inr (t, n)) => match aS[a + 1]? with
    | some (.inr (u, w)) => Nat.beq t 4 && (Nat.beq u 0 && (Nat.blt w 1000 && (List.range n).all (fun r => decide (aS[a + 1 + r]? = some (.inr (0, w))) && (bRow (a + 1 + r) && (Nat.beq (bAd (a + 1 + r)).1 a && decide (aI0 a r = .ref (a + 1 + r)))))))
    | _ => false
  | _ => false
theorem bRows_ok : (bRowsC 7 && (bRowsC 17 && (bRowsC 25 && bRowsC 37))) = true := by decide +kernel
theorem bRows {a t n u w : Nat} (h : bOut a = true) (h1 : aS[a]? = some (.inr (t, n))) (h2 : aS[a + 1]? = some (.inr (u, w))) : t = 4 ∧ u = 0 ∧ w < 1000 ∧ ∀ r, r < n → aS[a + 1 + r]? = some (.inr (0, w)) ∧ bRow (a + 1 + r) = true ∧ (bAd (a + 1 + r)).1 = a ∧ aI0 a r = .ref (a + 1 + r) := by
  have hc : bRowsC a = true := by
    have := bRows_ok
    simp only [Bool.and_eq_true] at this
    obtain ⟨q1, q2, q3, q4⟩ := this
    rcases bOut_cases h with rfl | rfl | rfl | rfl
    · exact q1
    · exact q2
    · exact q3
    · exact q4
  unfold bRowsC at hc
  rw [h1] at hc
  simp only [h2, Bool.and_eq_true] at hc
  obtain ⟨c1, c2, c3, c4⟩ := hc
  refine ⟨Nat.eq_of_beq_eq_true c1, Nat.eq_of_beq_eq_true c2, Nat.le_of_ble_eq_true c3, fun r hr => ?_⟩
  have := List.all_eq_true.mp c4 r (List.mem_range.mpr hr)
  simp only [Bool.and_eq_true, decide_eq_true_eq] at this
  exact ⟨this.1, this.2.1, Nat.eq_of_beq_eq_true this.2.2.1, this.2.2.2⟩
theorem bMe_row {μ : bMm} {a r : Nat} (h : bRow (a + 1 + r) = true) (h1 : (bAd (a + 1 + r)).1 = a) (k : Int) : bMe μ (a + 1 + r) k = μ.2 a ((r : Int) * 1000 + k) := by
  unfold bMe
  rw [(bAd_row h).2.2, h1, show a + 1 + r - a - 1 = r by omega]
def bLen9 (sh : Option aSh) : Bool := match sh with
  | some (.inr (_, n)) => Nat.blt n 1000
  | _ => false
theorem bRowLenC : (List.range 80).all (fun b => !(bRow b) || bLen9 aS[b]?) = true := by decide +kernel
theorem bRowLen (b : Nat) (h : bRow b = true) : bLen9 aS[b]? = true := by
  have hb : b < 80 := by
    simp only [bRow, Bool.or_eq_true, Bool.and_eq_true, Nat.ble_eq] at h
    omega
  have := List.all_eq_true.mp bRowLenC b (List.mem_range.mpr hb)
  rw [h] at this
  simpa using this
/-- a place in a row of rows -/
theorem bUp_row {μ : bMm} {a k r n u w t : Nat} {z : Int} (h : bOut a = true) (h1 : aS[a]? = some (.inr (t, n))) (h2 : aS[a + 1]? = some (.inr (u, w))) (hr : r < n) (hk : k < w) : aUp (bσ μ) (a + 1 + r) k (.int (Int32.ofInt z)) = bσ (bUp μ a ((r : Int) * 1000 + k) z) := by
  obtain ⟨rfl, rfl, hw, hR⟩ := bRows h h1 h2
  obtain ⟨e1, e2, e3, -⟩ := hR r hr
  have hob : ∀ b, bOut b = true → ∃ t n, aS[b]? = some (.inr (t, n)) ∧ t = 4 := fun b hb => by
    rcases bOut_cases hb with rfl | rfl | rfl | rfl
    · exact ⟨4, 6, rfl, rfl⟩
    · exact ⟨4, 6, rfl, rfl⟩
    · exact ⟨4, 5, rfl, rfl⟩
    · exact ⟨4, 40, rfl, rfl⟩
  funext b j
  rw [aUp_at]
  by_cases e : b = a + 1 + r
  · subst e
    rw [if_pos rfl]
    by_cases hj : j < w
    · rw [bσ_arr e1 hj, bσ_arr e1 hj]
      show _ = Value.int (Int32.ofInt (bMe _ _ _))
      rw [bMe_row e2 e3]
      by_cases q : j = k
      · subst q
        rw [if_pos rfl]
        show _ = Value.int (Int32.ofInt (up μ.2 _ _ _ _ _))
        rw [up_eq]
      · rw [if_neg q]
        show Value.int (Int32.ofInt (bMe μ _ _)) = Value.int (Int32.ofInt (up μ.2 _ _ _ _ _))
        rw [bMe_row e2 e3, up_nk (by omega)]
    · rw [if_neg (by omega), bσ_arr' e1 hj, bσ_arr' e1 hj]
  · rw [if_neg e]
    show bVs μ b j aS[b]? = bVs _ b j aS[b]?
    cases hs : aS[b]? with
    | none => rfl
    | some sh =>
      match sh, hs with
      | .inl c, hs =>
        refine (bVo_cg (μ := μ) (ν := bUp μ a ((r : Int) * 1000 + k) z) rfl (up_ne ?_) _).symm
        intro q
        subst q
        rw [h1] at hs
        cases hs
      | .inr (t, n2), hs =>
        show (match Nat.blt j n2 with
          | true => bVa μ b j t
          | false => .null) = (match Nat.blt j n2 with
          | true => bVa (bUp μ a _ z) b j t
          | false => .null)
        cases hb : Nat.blt j n2 with
        | false => rfl
        | true =>
          have hb := Nat.le_of_ble_eq_true hb
          have hb : j < n2 := hb
          show bVa μ b j t = bVa _ b j t
          by_cases hba : b = a
          · subst hba
            rw [h1] at hs
            cases hs
            rfl
          · refine (bVa_cg (μ := μ) (ν := bUp μ a ((r : Int) * 1000 + k) z) (up_ne hba) ?_).symm
            cases hbr : bRow b with
            | false =>
              rw [bMe_plain hbr, bMe_plain hbr]
              exact up_ne hba
            | true =>
              show up μ.2 a _ z (bAd b).1 _ = μ.2 (bAd b).1 _
              by_cases q : (bAd b).1 = a
              · have g1 := (bAd_row hbr).1
                have g2 := (bAd_row hbr).2.2
                rw [q] at g1 g2
                rw [q, g2]
                refine up_nk ?_
                have hlen : ∃ r2, b - a - 1 = r2 ∧ r2 ≠ r := ⟨b - a - 1, rfl, by omega⟩
                obtain ⟨r2, hb2, hne⟩ := hlen
                rw [hb2]
                have hn2 : n2 < 1000 := by
                  have := bRowLen b hbr
                  rw [hs] at this
                  exact Nat.le_of_ble_eq_true this
                omega
              · exact up_ne q
