/-! THE RULES' SOUNDNESS, 6: an instruction -/
section WT
variable {xs : List Int32} {M : aM} {pc : Nat} {lv st : List bV} {μ : bMm} {G nx : Nat → List bV → List bV → bMm → Prop} {ins : Instr} {ln : Nat}
theorem wN_II {f : Int32 → Int32 → Value} {g : Int → Int → Int} (hG : gSt xs M G) (hco : aFd (aCo M) pc = some (ins, ln)) (hnx : ∀ pc' lv' st' μ', nx pc' lv' st' μ' → G pc' lv' st' μ')
    (hins : ∀ lv st σ, aIns (bX xs) aS M pc ins lv st σ = aII f pc lv st σ) (hfg : ∀ x y, f (Int32.ofInt x) (Int32.ofInt y) = .int (Int32.ofInt (g x y))) (h : wII (fun _ _ x y r => nx (pc + 1) lv (.inl (g x y) :: r) μ) st) : G pc lv st μ := by
  obtain ⟨u, v, x, y, r, rfl, hy, hx, hk⟩ := wII_inv h
  refine wN hG hco hnx (lv' := lv) (st' := .inl (g x y) :: r) (μ' := μ) ?_ hk
  rw [hins]
  simp only [List.map_cons, bZ_val hy, bZ_val hx]
  show some (Sum.inl (pc + 1, _, f (Int32.ofInt x) (Int32.ofInt y) :: _, _)) = _
  rw [hfg]
  rfl
theorem wN_LL {f : Int64 → Int64 → Value} {g : Int → Int → Int} (hG : gSt xs M G) (hco : aFd (aCo M) pc = some (ins, ln)) (hnx : ∀ pc' lv' st' μ', nx pc' lv' st' μ' → G pc' lv' st' μ')
    (hins : ∀ lv st σ, aIns (bX xs) aS M pc ins lv st σ = aLL f pc lv st σ) (hfg : ∀ x y, f (Int64.ofInt x) (Int64.ofInt y) = .long (Int64.ofInt (g x y))) (h : wLL (fun _ _ x y r => nx (pc + 1) lv (.inr (.inr (.inl (g x y))) :: r) μ) st) : G pc lv st μ := by
  obtain ⟨u, v, x, y, r, rfl, hy, hx, hk⟩ := wLL_inv h
  refine wN hG hco hnx (lv' := lv) (st' := .inr (.inr (.inl (g x y))) :: r) (μ' := μ) ?_ hk
  rw [hins]
  simp only [List.map_cons, bL_val hy, bL_val hx]
  show some (Sum.inl (pc + 1, _, f (Int64.ofInt x) (Int64.ofInt y) :: _, _)) = _
  rw [hfg]
  rfl
theorem wN_LI {f : Int64 → Int32 → Value} {g : Int → Int → Int} (hG : gSt xs M G) (hco : aFd (aCo M) pc = some (ins, ln)) (hnx : ∀ pc' lv' st' μ', nx pc' lv' st' μ' → G pc' lv' st' μ')
    (hins : ∀ lv st σ, aIns (bX xs) aS M pc ins lv st σ = aLI f pc lv st σ) (hfg : ∀ x y, f (Int64.ofInt x) (Int32.ofInt y) = .long (Int64.ofInt (g x y))) (h : wLI (fun x y r => nx (pc + 1) lv (.inr (.inr (.inl (g x y))) :: r) μ) st) : G pc lv st μ := by
  obtain ⟨u, v, x, y, r, rfl, hy, hx, hk⟩ := wLI_inv h
  refine wN hG hco hnx (lv' := lv) (st' := .inr (.inr (.inl (g x y))) :: r) (μ' := μ) ?_ hk
  rw [hins]
  simp only [List.map_cons, bZ_val hy, bL_val hx]
  show some (Sum.inl (pc + 1, _, f (Int64.ofInt x) (Int32.ofInt y) :: _, _)) = _
  rw [hfg]
  rfl
theorem wN_ldi {q k : Nat} (hG : gSt xs M G) (hco : aFd (aCo M) pc = some (ins, ln)) (hnx : ∀ pc' lv' st' μ', nx pc' lv' st' μ' → G pc' lv' st' μ')
    (hins : ∀ lv st σ, aIns (bX xs) aS M pc ins lv st σ = aLdI q lv k st σ) (h : wLi (fun v => nx q lv (v :: st) μ) lv k) : G pc lv st μ := by
  obtain ⟨v, z, hv, hz, hk⟩ := wLi_inv h
  refine wN hG hco hnx (lv' := lv) (st' := v :: st) (μ' := μ) ?_ hk
  rw [hins]
  unfold aLdI
  rw [bAt, hv]
  simp only [Option.map_some, List.map_cons, bZ_val hz]
  rfl
theorem wN_ldl {q k : Nat} (hG : gSt xs M G) (hco : aFd (aCo M) pc = some (ins, ln)) (hnx : ∀ pc' lv' st' μ', nx pc' lv' st' μ' → G pc' lv' st' μ')
    (hins : ∀ lv st σ, aIns (bX xs) aS M pc ins lv st σ = aLdL q lv k st σ) (h : wLl (fun v => nx q lv (v :: st) μ) lv k) : G pc lv st μ := by
  obtain ⟨v, z, hv, hz, hk⟩ := wLl_inv h
  refine wN hG hco hnx (lv' := lv) (st' := v :: st) (μ' := μ) ?_ hk
  rw [hins]
  unfold aLdL
  rw [bAt, hv]
  simp only [Option.map_some, List.map_cons, bL_val hz]
  rfl
theorem wN_ldr {q k : Nat} (hG : gSt xs M G) (hco : aFd (aCo M) pc = some (ins, ln)) (hnx : ∀ pc' lv' st' μ', nx pc' lv' st' μ' → G pc' lv' st' μ')
    (hins : ∀ lv st σ, aIns (bX xs) aS M pc ins lv st σ = aLdR q lv k st σ) (h : wLr (fun v => nx q lv (v :: st) μ) lv k) : G pc lv st μ := by
  obtain ⟨v, z, hv, hz, hk⟩ := wLr_inv h
  refine wN hG hco hnx (lv' := lv) (st' := v :: st) (μ' := μ) ?_ hk
  rw [hins]
  unfold aLdR
  rw [bAt, hv]
  simp only [Option.map_some, List.map_cons, hz]
  rfl
theorem wN_sti {q k : Nat} (hG : gSt xs M G) (hco : aFd (aCo M) pc = some (ins, ln)) (hnx : ∀ pc' lv' st' μ', nx pc' lv' st' μ' → G pc' lv' st' μ')
    (hins : ∀ lv st σ, aIns (bX xs) aS M pc ins lv st σ = aStI q lv k st σ) (h : wI1 (fun v _ r => wP1 (fun lv' => nx q lv' r μ) lv k v) st) : G pc lv st μ := by
  obtain ⟨v, z, r, rfl, hz, hk⟩ := wI1_inv h
  obtain ⟨hb, hk⟩ := wP1_inv hk
  refine wN hG hco hnx (lv' := lv.set k v) (st' := r) (μ' := μ) ?_ hk
  rw [hins, ← bPut1 hb]
  unfold aStI
  rw [List.map_cons, bZ_val hz]
theorem wN_str {q k : Nat} {v : bV} {r : List bV} (hG : gSt xs M G) (hco : aFd (aCo M) pc = some (ins, ln)) (hnx : ∀ pc' lv' st' μ', nx pc' lv' st' μ' → G pc' lv' st' μ')
    (hins : ∀ lv st σ, aIns (bX xs) aS M pc ins lv st σ = aStR q lv k st σ) (hr : bRe v = true) (h : wP1 (fun lv' => nx q lv' r μ) lv k v) : G pc lv (v :: r) μ := by
  obtain ⟨hb, hk⟩ := wP1_inv h
  obtain ⟨a, ha⟩ := bRe_val hr
  refine wN hG hco hnx (lv' := lv.set k v) (st' := r) (μ' := μ) ?_ hk
  rw [hins, ← bPut1 hb]
  unfold aStR
  rw [List.map_cons, ha]
theorem wN_stl {q k : Nat} {v : bV} {z : Int} {r : List bV} (hG : gSt xs M G) (hco : aFd (aCo M) pc = some (ins, ln)) (hnx : ∀ pc' lv' st' μ', nx pc' lv' st' μ' → G pc' lv' st' μ')
    (hins : ∀ lv st σ, aIns (bX xs) aS M pc ins lv st σ = aStL q lv k st σ) (hr : bL v = some z) (h : wP2 (fun lv' => nx q lv' r μ) lv k (.inr (.inr (.inl z)))) : G pc lv (v :: r) μ := by
  obtain ⟨hb, hk⟩ := wP2_inv h
  refine wN hG hco hnx (lv' := (lv.set k (.inr (.inr (.inl z)))).set (k + 1) vn) (st' := r) (μ' := μ) ?_ hk
  rw [hins, ← bPut2 hb]
  unfold aStL
  rw [List.map_cons, bL_val hr]
  rfl
theorem aIld_of {a : Nat} {i z : Int} (h : (∃ t n, aS[a]? = some (.inr (t, n)) ∧ Nat.beq t 0 = true ∧ (0 ≤ i ∧ i < (n : Int)) ∧ (bIp t = true → bσ μ a i.toNat = .int (Int32.ofInt z)) ∧ (t = 3 → bσ μ a i.toNat = .long (Int64.ofInt z))) ∨
     (aS[a]? = none ∧ Nat.beq 0 0 = true ∧ ∃ k f, bX xs a = some (k, f) ∧ (0 ≤ i ∧ i < (k : Int)) ∧ f i.toNat = Int32.ofInt z)) : aIld (bX xs) aS (bσ μ) a (Int32.ofInt i) = some (.int (Int32.ofInt z)) := by
  unfold aIld
  rcases h with ⟨t, n, hs, ht, hi, hv, -⟩ | ⟨hs, -, k, f, hX, hi, hv⟩
  · have ht := Nat.eq_of_beq_eq_true ht
    subst ht
    rw [hs]
    simp only
    rw [if_pos (i32_ix hi.1 hi.2 (aS_len hs)), (i32_nat hi.1 hi.2 (aS_len hs)).1, hv rfl]
    rfl
  · rw [hs]
    simp only
    rw [hX]
    simp only
    have hk : k < 2147483648 := by
      unfold bX at hX
      split at hX <;> first | (cases hX; first | (rw [List.length_take]; omega) | decide) | cases hX
    rw [if_pos (i32_ix hi.1 hi.2 hk), (i32_nat hi.1 hi.2 hk).1, hv]
theorem wAr_inv {v : bV} {κ : Nat → Int → Int → Prop} (h : wAr v κ) : ∃ (a A : Nat) (b : Int) (n : Nat), bVal v = .ref a ∧ aS[a]? = some (.inr (0, n)) ∧ κ A b n ∧ (bAd a = (A, b)) := by
  unfold wAr at h
  split at h
  · rename_i a
    split at h
    · cases h
    · rename_i hr
      split at h
      · rename_i n hs
        exact ⟨a, a, 0, n, rfl, hs, h, bAd_plain hr⟩
      · cases h
  · rename_i a r
    split at h
    · rename_i hb
      split at h
      · rename_i t n hs
        split at h
        · rename_i u w hs2
          obtain ⟨hr, hk⟩ := h
          obtain ⟨rfl, rfl, hw, hR⟩ := bRows hb hs hs2
          obtain ⟨e1, e2, e3, -⟩ := hR r.toNat (by omega)
          refine ⟨a + 1 + r.toNat, a, r * 1000, w, rfl, e1, hk, ?_⟩
          have := (bAd_row e2).2.2
          rw [e3, show a + 1 + r.toNat - a - 1 = r.toNat by omega, nat_cast hr.1] at this
          exact Prod.ext e3 this
        · cases h
      · cases h
    · cases h
  · cases h
end WT
