/-! THE RULES' SOUNDNESS, 5: an instruction -/
section WS
variable {xs : List Int32} {M : aM} {pc : Nat} {lv st : List bV} {μ : bMm} {G nx : Nat → List bV → List bV → bMm → Prop} {ins : Instr} {ln : Nat}
/-- what a step behind holds of, holds here -/
def gSt (xs : List Int32) (M : aM) (G : Nat → List bV → List bV → bMm → Prop) : Prop := ∀ (pc : Nat) (lv st : List bV) (μ : bMm) (pc' : Nat) (lv' st' : List bV) (μ' : bMm), aStep (bX xs) aS M pc (lv.map bVal) (st.map bVal) (bσ μ) = some (.inl (pc', lv'.map bVal, st'.map bVal, bσ μ')) → G pc' lv' st' μ' → G pc lv st μ
/-- on to the next place -/
theorem wN {pc' : Nat} {lv' st' : List bV} {μ' : bMm} (hG : gSt xs M G) (hco : aFd (aCo M) pc = some (ins, ln)) (hnx : ∀ pc' lv' st' μ', nx pc' lv' st' μ' → G pc' lv' st' μ')
    (h : aIns (bX xs) aS M pc ins (lv.map bVal) (st.map bVal) (bσ μ) = some (.inl (pc', lv'.map bVal, st'.map bVal, bσ μ'))) (k : nx pc' lv' st' μ') : G pc lv st μ :=
  hG _ _ _ _ _ _ _ _ ((aStep_of hco ..).trans h) (hnx _ _ _ _ k)
theorem wSwT_inv {nx' : Nat → Prop} {x : Int} : ∀ (offs : List Int) (k : Int), wSwT nx' pc x k offs → ∀ (i : Nat) (off : Int), offs[i]? = some off → x = k + i → ∃ t : Nat, (pc : Int) + off = .ofNat t ∧ nx' t
  | [], k, _, i, off, hi, _ => by simp at hi
  | o :: r, k, h, 0, off, hi, hx => by
    simp only [List.getElem?_cons_zero, Option.some.injEq] at hi
    subst hi
    exact wJ_inv (h.1 (by simpa using hx))
  | o :: r, k, h, i + 1, off, hi, hx => by
    simp only [List.getElem?_cons_succ] at hi
    exact wSwT_inv r (k + 1) h.2 i off hi (by rw [hx]; simp; omega)
theorem wSwL_inv {nx' : Nat → Prop} {x dflt : Int} : ∀ (ps : List (Int × Int)), wSwL nx' pc x dflt ps → ∃ t : Nat, (pc : Int) + Op.lookupswitch.offset ps dflt x = .ofNat t ∧ nx' t := by
  intro ps
  induction ps with
  | nil => intro h; exact wJ_inv h
  | cons q r ih =>
    intro h
    by_cases e : x = q.1
    · have := wJ_inv (h.1 e)
      have e2 : Op.lookupswitch.offset (q :: r) dflt x = q.2 := by
        simp [Op.lookupswitch.offset, e]
      rw [e2]
      exact this
    · have := ih (h.2 e)
      have e2 : Op.lookupswitch.offset (q :: r) dflt x = Op.lookupswitch.offset r dflt x := by
        have e' : ¬ q.1 = x := fun n => e n.symm
        simp [Op.lookupswitch.offset, e, e']
      rw [e2]
      exact this
theorem wLd_inv {ty : Nat → Bool} {v iv : bV} {i : Int} {κ : Int → Prop} (h : wLd xs μ ty v iv i κ) : ∃ (a : Nat) (z : Int), bVal v = .ref a ∧ κ z ∧
    ((∃ t n, aS[a]? = some (.inr (t, n)) ∧ ty t = true ∧ (0 ≤ i ∧ i < (n : Int)) ∧ (bIp t = true → bσ μ a i.toNat = .int (Int32.ofInt z)) ∧ (t = 3 → bσ μ a i.toNat = .long (Int64.ofInt z))) ∨
     (aS[a]? = none ∧ ty 0 = true ∧ ∃ k f, bX xs a = some (k, f) ∧ (0 ≤ i ∧ i < (k : Int)) ∧ f i.toNat = Int32.ofInt z)) := by
  unfold wLd at h
  split at h
  · rename_i a
    split at h
    · cases h
    · rename_i hr
      split at h
      · rename_i t n hs
        split at h
        · rename_i ht
          obtain ⟨hi, hk⟩ := wIx_inv h
          exact ⟨a, μ.2 a i, rfl, hk, Or.inl ⟨t, n, hs, ht, hi, fun hp => bσ_ldi hs hp hr hi.1 hi.2, fun e => by subst e; exact bσ_ldl hs hi.1 hi.2⟩⟩
        · cases h
      · cases h
      · rename_i hs
        split at h
        · rename_i ht
          split at h
          · rename_i n hn
            obtain ⟨hi, hk⟩ := wIx_inv h
            obtain ⟨f, k, e1, rfl, e3⟩ := bXn_some hn
            exact ⟨a, _, rfl, hk, Or.inr ⟨hs, ht, k, f, e1, hi, e3 i⟩⟩
          · cases h
        · cases h
  · rename_i a r
    split at h
    · rename_i hb
      rw [Bool.and_eq_true] at hb
      split at h
      · rename_i t n hs
        split at h
        · rename_i u w hs2
          obtain ⟨hr, h⟩ := h
          obtain ⟨hi, hk⟩ := wIx_inv h
          obtain ⟨e1, e2⟩ := bσ_ldr (μ := μ) hb.2 hs hs2 hr.1 hr.2 hi.1 hi.2
          exact ⟨_, _, rfl, hk, Or.inl ⟨0, w, e1, hb.1, hi, fun _ => e2, fun e => by cases e⟩⟩
        · cases h
      · cases h
    · cases h
  · cases h
theorem wSt_inv {ty : Nat → Bool} {v iv : bV} {i : Int} {z : Nat → Int} {κ : bMm → Prop} (h0 : ∀ t, ty t = true → t ≠ 4) (h : wSt μ ty v iv i z κ) : ∃ (a t n : Nat) (μ' : bMm), bVal v = .ref a ∧ κ μ' ∧ aS[a]? = some (.inr (t, n)) ∧ ty t = true ∧ (0 ≤ i ∧ i < (n : Int)) ∧ (bIp t = true → aUp (bσ μ) a i.toNat (.int (Int32.ofInt (z t))) = bσ μ') ∧ (t = 3 → aUp (bσ μ) a i.toNat (.long (Int64.ofInt (z t))) = bσ μ') := by
  unfold wSt at h
  split at h
  · rename_i a
    split at h
    · cases h
    · rename_i hr
      split at h
      · rename_i t n hs
        split at h
        · rename_i ht
          obtain ⟨hi, hk⟩ := wIx_inv h
          have ho : bOut a = false := by
            cases hb : bOut a with
            | false => rfl
            | true => exact absurd ((aS_arr hs).1.mpr hb) (h0 t ht)
          have hu := bUp_arr (μ := μ) (k := i.toNat) (z := z t) hs (by omega) (h0 t ht) hr ho
          rw [nat_cast hi.1] at hu
          refine ⟨a, t, n, _, rfl, hk, hs, ht, hi, fun hp => ?_, fun e => ?_⟩
          · rw [← hu, bVa_int hp, bMe_plain hr, nat_cast hi.1]
            show _ = aUp (bσ μ) a i.toNat (.int (Int32.ofInt (up μ.2 a i (z t) a i)))
            rw [up_eq]
          · subst e
            rw [← hu]
            show _ = aUp (bσ μ) a i.toNat (.long (Int64.ofInt (up μ.2 a i (z 3) a ((i.toNat : Nat) : Int))))
            rw [nat_cast hi.1, up_eq]
        · cases h
      · cases h
  · rename_i a r
    split at h
    · rename_i hb
      rw [Bool.and_eq_true] at hb
      split at h
      · rename_i t n hs
        split at h
        · rename_i u w hs2
          obtain ⟨hr, h⟩ := h
          obtain ⟨hi, hk⟩ := wIx_inv h
          obtain ⟨e1, -⟩ := bσ_ldr (μ := μ) hb.2 hs hs2 hr.1 hr.2 hi.1 hi.2
          have hu := bUp_row (μ := μ) (z := z 0) hb.2 hs hs2 (r := r.toNat) (k := i.toNat) (by omega) (by omega)
          rw [nat_cast hr.1, nat_cast hi.1] at hu
          exact ⟨_, 0, w, _, rfl, hk, e1, hb.1, hi, fun _ => hu, fun e => by cases e⟩
        · cases h
      · cases h
    · cases h
  · cases h
end WS
