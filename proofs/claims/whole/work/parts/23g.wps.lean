/-! THE RULES' SOUNDNESS, 7: a copy between rows -/
theorem bAd_inj {a b j k ta na tb nb : Nat} (ha : aS[a]? = some (.inr (ta, na))) (hb : aS[b]? = some (.inr (tb, nb))) (h4 : ta ≠ 4) (h5 : tb ≠ 4) (hj : j < nb) (hk : k < na) (hab : b ≠ a) (h1 : (bAd b).1 = (bAd a).1) (h2 : (bAd b).2 + (j : Int) = (bAd a).2 + (k : Int)) : False := by
  cases hra : bRow a with
  | false =>
    rw [bAd_plain hra] at h1
    cases hrb : bRow b with
    | false =>
      rw [bAd_plain hrb] at h1
      exact hab h1
    | true =>
      have := (bAd_row hrb).2.1
      rw [h1] at this
      exact h4 ((aS_arr ha).1.mpr this)
  | true =>
    cases hrb : bRow b with
    | false =>
      rw [bAd_plain hrb] at h1
      have := (bAd_row hra).2.1
      rw [← h1] at this
      exact h5 ((aS_arr hb).1.mpr this)
    | true =>
      have g1 := bAd_row hra
      have g2 := bAd_row hrb
      have l1 := bRowLen a hra
      have l2 := bRowLen b hrb
      rw [ha] at l1
      rw [hb] at l2
      have l1 : na < 1000 := Nat.le_of_ble_eq_true l1
      have l2 : nb < 1000 := Nat.le_of_ble_eq_true l2
      rw [h1] at g2
      rw [g1.2.2, g2.2.2] at h2
      omega
theorem bCp_ok {μ : bMm} {a0 a1 A0 A1 n0 n1 sp dp n : Nat} {b0 b1 : Int} (h0 : aS[a0]? = some (.inr (0, n0))) (h1 : aS[a1]? = some (.inr (0, n1))) (e0 : bAd a0 = (A0, b0)) (e1 : bAd a1 = (A1, b1)) (hs : sp + n ≤ n0) (hd : dp + n ≤ n1) :
    (fun b j => if b = a1 then (if dp ≤ j ∧ j < dp + n then bσ μ a0 (sp + (j - dp)) else bσ μ b j) else bσ μ b j) = bσ (bCp μ A1 (b1 + (dp : Int)) A0 (b0 + (sp : Int)) (n : Int)) := by
  have m0 : ∀ k : Int, bMe μ a0 k = μ.2 A0 (b0 + k) := fun k => by unfold bMe; rw [e0]
  have m1 : ∀ (ν : bMm) (k : Int), bMe ν a1 k = ν.2 A1 (b1 + k) := fun ν k => by unfold bMe; rw [e1]
  funext b j
  by_cases e : b = a1
  · subst e
    rw [if_pos rfl]
    by_cases hj : j < n1
    · rw [bσ_arr (μ := bCp μ A1 (b1 + (dp : Int)) A0 (b0 + (sp : Int)) (n : Int)) h1 hj]
      show _ = Value.int (Int32.ofInt (bMe _ b j))
      rw [m1]
      show _ = Value.int (Int32.ofInt (cp μ.2 A1 (b1 + dp) A0 (b0 + sp) n A1 (b1 + j)))
      unfold cp
      rw [if_pos rfl]
      by_cases hr : dp ≤ j ∧ j < dp + n
      · rw [if_pos hr, if_pos (by omega), bσ_arr h0 (by omega)]
        show Value.int (Int32.ofInt (bMe μ a0 _)) = _
        rw [m0, show b0 + ((sp + (j - dp) : Nat) : Int) = b0 + (sp : Int) + (b1 + (j : Int) - (b1 + (dp : Int))) by omega]
      · rw [if_neg hr, if_neg (by omega), bσ_arr h1 hj]
        show Value.int (Int32.ofInt (bMe μ b _)) = _
        rw [m1]
    · rw [if_neg (by omega), bσ_arr' h1 hj, bσ_arr' h1 hj]
  · rw [if_neg e]
    have hA1 : A1 = (bAd a1).1 := by rw [e1]
    have hb1 : b1 = (bAd a1).2 := by rw [e1]
    have hout : ∀ c : Nat, aS[b]? = some (.inl c) → b ≠ A1 := fun c hc q => by
      cases hra : bRow a1 with
      | false => rw [bAd_plain hra] at hA1; exact e (q.trans hA1)
      | true =>
        have := (bAd_row hra).2.1
        rw [← hA1, ← q, (aS_obj hc).2] at this
        cases this
    have hmem : ∀ t n2 : Nat, aS[b]? = some (.inr (t, n2)) → t ≠ 4 → j < n2 → bMe (bCp μ A1 (b1 + dp) A0 (b0 + sp) n) b j = bMe μ b j := fun t n2 hb ht hj => by
      show cp μ.2 A1 (b1 + dp) A0 (b0 + sp) n (bAd b).1 ((bAd b).2 + j) = μ.2 (bAd b).1 ((bAd b).2 + j)
      unfold cp
      by_cases q : (bAd b).1 = A1
      · rw [if_pos q, if_neg]
        rintro ⟨q1, q2⟩
        have hk : ∃ k : Nat, (bAd b).2 + (j : Int) = b1 + (k : Int) ∧ k < n1 := ⟨((bAd b).2 + j - b1).toNat, by omega, by omega⟩
        obtain ⟨k, hk1, hk2⟩ := hk
        exact bAd_inj h1 hb (by decide) ht hj hk2 e (by rw [← hA1]; exact q) (by rw [← hb1]; exact hk1)
      · rw [if_neg q]
    show bVs μ b j aS[b]? = bVs _ b j aS[b]?
    cases hs2 : aS[b]? with
    | none => rfl
    | some sh =>
      match sh, hs2 with
      | .inl c, hs2 =>
        refine (bVo_cg (μ := μ) (ν := bCp μ A1 (b1 + dp) A0 (b0 + sp) n) rfl ?_ _).symm
        show cp μ.2 A1 (b1 + dp) A0 (b0 + sp) n b j = μ.2 b j
        unfold cp
        rw [if_neg (hout c hs2)]
      | .inr (t, n2), hs2 =>
        show (match Nat.blt j n2 with
          | true => bVa μ b j t
          | false => .null) = (match Nat.blt j n2 with
          | true => bVa (bCp μ A1 (b1 + dp) A0 (b0 + sp) n) b j t
          | false => .null)
        cases hb : Nat.blt j n2 with
        | false => rfl
        | true =>
          have hj : j < n2 := Nat.le_of_ble_eq_true hb
          show bVa μ b j t = bVa _ b j t
          by_cases ht : t = 4
          · subst ht
            rfl
          · have hm := hmem t n2 hs2 ht hj
            by_cases h3 : t = 3
            · subst h3
              have hrb : bRow b = false := by
                cases hrb : bRow b with
                | false => rfl
                | true => exact absurd ((aS_arr hs2).2 hrb) (by decide)
              rw [bMe_plain hrb, bMe_plain hrb] at hm
              show Value.long _ = Value.long _
              rw [hm]
            · unfold bVa
              split
              · exact absurd rfl ht
              · exact absurd rfl h3
              · rw [hm]
theorem i32_clamp {z : Int} (h0 : 0 ≤ z) (h1 : z ≤ 2147483647) : (Int32.ofInt z).toNatClampNeg = z.toNat ∧ ¬ Int32.ofInt z < 0 := by
  have hr : inR z := by omega
  refine ⟨?_, ?_⟩
  · show (Int32.ofInt z).toInt.toNat = _
    rw [i32_of hr]
  · rw [← i32_zero, i32_lt hr (by decide)]
    omega
section WU
variable {xs : List Int32} {M : aM} {pc : Nat} {lv st : List bV} {μ : bMm} {G : Nat → List bV → List bV → bMm → Prop} {nx : List bV → bMm → Prop} {ins : Instr} {ln : Nat}
theorem wPr_sound {K : Nat} (hG : gSt xs M G) (hnx : ∀ st' μ', nx st' μ' → G (pc + 3) lv st' μ') (hins : aStep (bX xs) aS M pc (lv.map bVal) (st.map bVal) (bσ μ) = aPrim aS K pc (lv.map bVal) (st.map bVal) (bσ μ)) (h : wPr nx K st μ) : G pc lv st μ := by
  have go : ∀ (st' : List bV) (μ' : bMm), aPrim aS K pc (lv.map bVal) (st.map bVal) (bσ μ) = some (.inl (pc + 3, lv.map bVal, st'.map bVal, bσ μ')) → nx st' μ' → G pc lv st μ := fun st' μ' e k => hG _ _ _ _ _ _ _ _ (hins.trans e) (hnx _ _ k)
  match K, h, go with
  | 0, h, go =>
    obtain ⟨u, v, x, y, r, rfl, hy, hx, h⟩ := wII_inv h
    split at h
    · rename_i hc
      obtain ⟨rx, h⟩ := wR_inv h
      obtain ⟨ry, h⟩ := wR_inv h
      refine go _ _ ?_ h
      simp only [aPrim, List.map_cons, bZ_val hy, bZ_val hx, aGd, bCat_val, hc]
      show some (Sum.inl (pc + 3, _, Value.int _ :: _, _)) = some (Sum.inl (pc + 3, _, Value.int (Int32.ofInt (max x y)) :: _, _))
      have : (if Int32.ofInt x < Int32.ofInt y then Int32.ofInt y else Int32.ofInt x) = Int32.ofInt (max x y) := by
        by_cases q : x < y
        · rw [if_pos ((i32_lt rx ry).mpr q), show max x y = y by omega]
        · rw [if_neg (fun n => q ((i32_lt rx ry).mp n)), show max x y = x by omega]
      rw [this]
    · cases h
  | 1, h, go =>
    obtain ⟨u, v, x, y, r, rfl, hy, hx, h⟩ := wII_inv h
    split at h
    · rename_i hc
      obtain ⟨rx, h⟩ := wR_inv h
      obtain ⟨ry, h⟩ := wR_inv h
      refine go _ _ ?_ h
      simp only [aPrim, List.map_cons, bZ_val hy, bZ_val hx, aGd, bCat_val, hc]
      show some (Sum.inl (pc + 3, _, Value.int _ :: _, _)) = some (Sum.inl (pc + 3, _, Value.int (Int32.ofInt (min x y)) :: _, _))
      have : (if Int32.ofInt y < Int32.ofInt x then Int32.ofInt y else Int32.ofInt x) = Int32.ofInt (min x y) := by
        by_cases q : y < x
        · rw [if_pos ((i32_lt ry rx).mpr q), show min x y = y by omega]
        · rw [if_neg (fun n => q ((i32_lt ry rx).mp n)), show min x y = x by omega]
      rw [this]
    · cases h
  | 2, h, go =>
    obtain ⟨u, v, x, y, r, rfl, hy, hx, h⟩ := wLL_inv h
    split at h
    · rename_i hc
      obtain ⟨rx, h⟩ := wRL_inv h
      obtain ⟨ry, h⟩ := wRL_inv h
      refine go _ _ ?_ h
      simp only [aPrim, List.map_cons, bL_val hy, bL_val hx, aGd, bCat_val, hc]
      show some (Sum.inl (pc + 3, _, Value.long _ :: _, _)) = some (Sum.inl (pc + 3, _, Value.long (Int64.ofInt (max x y)) :: _, _))
      have : (if Int64.ofInt y < Int64.ofInt x then Int64.ofInt x else Int64.ofInt y) = Int64.ofInt (max x y) := by
        by_cases q : y < x
        · rw [if_pos ((i64_lt ry rx).mpr q), show max x y = x by omega]
        · rw [if_neg (fun n => q ((i64_lt ry rx).mp n)), show max x y = y by omega]
      rw [this]
    · cases h
  | 3, h, go =>
    obtain ⟨u, v, x, y, r, rfl, hy, hx, h⟩ := wLL_inv h
    split at h
    · rename_i hc
      obtain ⟨rx, h⟩ := wRL_inv h
      obtain ⟨ry, h⟩ := wRL_inv h
      refine go _ _ ?_ h
      simp only [aPrim, List.map_cons, bL_val hy, bL_val hx, aGd, bCat_val, hc]
      show some (Sum.inl (pc + 3, _, Value.long _ :: _, _)) = some (Sum.inl (pc + 3, _, Value.long (Int64.ofInt (min x y)) :: _, _))
      have : (if Int64.ofInt y < Int64.ofInt x then Int64.ofInt y else Int64.ofInt x) = Int64.ofInt (min x y) := by
        by_cases q : y < x
        · rw [if_pos ((i64_lt ry rx).mpr q), show min x y = y by omega]
        · rw [if_neg (fun n => q ((i64_lt ry rx).mp n)), show min x y = x by omega]
      rw [this]
    · cases h
  | 4, h, go =>
    unfold wPr at h
    simp only at h
    split at h
    · rename_i nv dv v1 sv v0 r
      split at h
      · rename_i hc
        split at h
        · rename_i n hn
          split at h
          · rename_i dp hdp
            split at h
            · rename_i sp hsp
              obtain ⟨a0, A0, b0, n0, ea0, hs0, h, e0⟩ := wAr_inv h
              obtain ⟨a1, A1, b1, n1, ea1, hs1, h, e1⟩ := wAr_inv h
              obtain ⟨⟨⟨q1, q2, q3⟩, q4, q5⟩, h⟩ := h
              have l0 := aS_len hs0
              have l1 := aS_len hs1
              refine go _ _ ?_ h
              simp only [aPrim, List.map_cons, bZ_val hn, bZ_val hdp, bZ_val hsp, ea0, ea1, hs0, hs1]
              obtain ⟨c1, c2⟩ := i32_clamp q1 (by omega)
              obtain ⟨c3, c4⟩ := i32_clamp q2 (by omega)
              obtain ⟨c5, c6⟩ := i32_clamp q3 (by omega)
              have hcp := bCp_ok (μ := μ) (sp := sp.toNat) (dp := dp.toNat) (n := n.toNat) hs0 hs1 e0 e1 (by omega) (by omega)
              rw [nat_cast q1, nat_cast q2, nat_cast q3] at hcp
              rw [c1, c3, c5, if_pos ⟨⟨c2, c4, c6⟩, by omega, by omega⟩]
              simp only [aGd, bCat_val, hc]
              rw [hcp]
              rfl
            · cases h
          · cases h
        · cases h
      · cases h
    · cases h
  | K + 5, h, _ => cases h
end WU
