/-! THE RULES' SOUNDNESS, 9: a whole stretch -/
theorem bOr_inv {K : Nat} {as : List bV} {κ : bV → Prop} {P : Prop} (h : bOr K as κ = some P) (hp : P) : ∃ v, oOr K (as.map bVal) = some (bVal v) ∧ κ v ∧ (∃ z, bZ v = some z) ∧ (K = 13 ∨ K = 175 ∨ K = 198) := by
  unfold bOr at h
  split at h
  · split at h
    · rename_i s
      cases h
      obtain ⟨hr, hk⟩ := hp
      refine ⟨.inl ((s + 999999) / 1000000), ?_, hk, ⟨_, rfl⟩, Or.inl rfl⟩
      show some (Value.int (Int32.ofInt ((Int32.ofInt s + 999999).toInt / 1000000))) = some (Value.int (Int32.ofInt ((s + 999999) / 1000000)))
      rw [show (999999 : Int32) = Int32.ofInt 999999 from rfl, ← Int32.ofInt_add, i32_of hr]
    · cases h
      cases hp
  · split at h
    · rename_i r c
      split at h
      · rename_i hb
        cases h
        obtain ⟨hr, hk⟩ := hp
        refine ⟨.inl (bAm (oTx r) c), ?_, hk, ⟨_, rfl⟩, Or.inr (Or.inl rfl)⟩
        show (match Nat.ble 2000 r && Nat.ble r 2004 with
          | true => some (Value.int (Int32.ofInt (bAm (oTx r) (Int32.ofInt c).toInt)))
          | false => none) = some (Value.int (Int32.ofInt (bAm (oTx r) c)))
        rw [hb, i32_of hr]
      · cases h
        cases hp
    · cases h
      cases hp
  · split at h
    · rename_i r c
      split at h
      · rename_i hb
        cases h
        obtain ⟨hr, hk⟩ := hp
        refine ⟨.inl (bPl (oTx r) c 0), ?_, hk, ⟨_, rfl⟩, Or.inr (Or.inr rfl)⟩
        show (match Nat.ble 2000 r && Nat.ble r 2004 with
          | true => some (Value.int (Int32.ofInt (bPl (oTx r) (Int32.ofInt c).toInt 0)))
          | false => none) = some (Value.int (Int32.ofInt (bPl (oTx r) c 0)))
        rw [hb, i32_of hr]
      · cases h
        cases hp
    · cases h
      cases hp
  · cases h
theorem bOr_none {K : Nat} {as : List bV} {κ : bV → Prop} (h : bOr K as κ = none) (bs : List Value) : oOr K bs = none := by
  unfold bOr at h
  split at h
  · split at h <;> cases h
  · split at h
    · split at h <;> cases h
    · cases h
  · split at h
    · split at h <;> cases h
    · cases h
  · rename_i h1 h2 h3
    unfold oOr
    split
    · exact absurd rfl h1
    · exact absurd rfl h2
    · exact absurd rfl h3
    · rfl
theorem aRt_orc {K : Nat} {M : aM} (hK : aProg[K]? = some M) (h : K = 13 ∨ K = 175 ∨ K = 198) : ∃ t, aRt M = some t := by
  rcases h with rfl | rfl | rfl
  · cases hK; exact ⟨_, rfl⟩
  · cases hK; exact ⟨_, rfl⟩
  · cases hK; exact ⟨_, rfl⟩
theorem bPush_val {K : Nat} {v : bV} {z : Int} (hz : bZ v = some z) (r : List bV) : (bPush K v r).map bVal = (bPush K (.inl z) r).map bVal := by
  unfold bPush
  split
  · split
    · rfl
    · rw [List.map_cons, List.map_cons, bZ_val hz]
      rfl
  · rfl
theorem bArg_nm (as : List bV) : (bArg (as.map bNm)).length = (bArg as).length := by
  have h1 := bArg_val (as.map bNm)
  have h2 := bArg_val as
  rw [bNm_map, h2] at h1
  have := congrArg List.length h1
  rw [List.length_map, List.length_map] at this
  exact this.symm
theorem bEnt_nm (M : aM) (as : List bV) : (bEnt M (as.map bNm)).map bVal = (bEnt M as).map bVal := by
  rw [← bEnt_val, ← bEnt_val, bNm_map]
theorem wBk_inv {mo : Nat} {bt : Bool × Bool × Bool} {κ : bV → bMm → Prop} {z : Int} {μ : bMm} (h : wBk mo bt κ z μ) : κ (.inl z) μ := by
  unfold wBk at h
  split at h
  · obtain ⟨rfl, h⟩ := h
    exact h
  · obtain ⟨⟨e1, e2⟩, h⟩ := h
    obtain ⟨⟨a, b, c⟩, m⟩ := μ
    simp only at e1 e2
    subst e1
    subst e2
    exact h
  · exact h
theorem bGo_post {xs : List Int32} {d : Nat} {M : aM} {pc : Nat} {lv st : List bV} {μ : bMm} {Q Q' : bPo} (h : bGo xs d M pc lv st μ Q) (hq : ∀ z μ', Q z μ' → Q' z μ') : bGo xs d M pc lv st μ Q' := by
  obtain ⟨f, v, z, μ2, e, hr, hk⟩ := h
  exact ⟨f, v, z, μ2, e, hr, hq _ _ hk⟩
theorem bC_post {xs : List Int32} {rk K : Nat} {as : List bV} {μ : bMm} {Q Q' : bPo} (h : bC xs rk K as μ Q) (hq : ∀ z μ', Q z μ' → Q' z μ') : bC xs rk K as μ Q' := fun M hM d hd => bGo_post (h M hM d hd) hq
theorem wX_go {xs : List Int32} {rk mo : Nat → Nat} {stops : List (Nat × List Bool)} {inl : List Nat} {d r0 : Nat} {Q : bPo} (hd : r0 ≤ d) : ∀ (f : Nat) (M : aM) (j pc : Nat) (lv st : List bV) (μ : bMm) (κ : bV → bMm → Prop) (Qc : bPo), (∀ v z μ', bZ v = some z → κ v μ' → Qc z μ') → (j = 0 → Qc = Q) → j ≤ r0 → wX xs rk mo stops inl d r0 Q f M j pc lv st μ κ → bGo xs (d - j) M pc lv st μ Qc := by
  intro f
  induction f with
  | zero => intro M j pc lv st μ κ Qc _ _ _ h; cases h
  | succ f ih =>
    intro M j pc lv st μ κ Qc hκ hj hjr h
    unfold wX at h
    split at h
    · cases h
    · rename_i q hco
      have hnx : ∀ pc' lv' st' μ', (match j with
        | 0 => match aFd stops pc' with
          | some ks => bGo xs d M pc' ((bMk ks lv').map bNm) (st'.map bNm) μ' Q
          | none => wX xs rk mo stops inl d r0 Q f M 0 pc' lv' st' μ' κ
        | j' + 1 => wX xs rk mo stops inl d r0 Q f M (j' + 1) pc' lv' st' μ' κ) → bGo xs (d - j) M pc' lv' st' μ' Qc := by
        intro pc' lv' st' μ' hn
        cases j with
        | zero =>
          simp only at hn
          split at hn
          · rw [hj rfl]
            exact bGo_hole hn
          · exact ih M 0 pc' lv' st' μ' κ Qc hκ hj hjr hn
        | succ j' => exact ih M (j' + 1) pc' lv' st' μ' κ Qc hκ hj hjr hn
      refine wI_sound hco rfl hnx ?_ (fun v z hz hr => hκ v z μ hz hr) h
      intro K as r hstep hc
      simp only at hc
      have hpush : ∀ (v : bV) (z : Int) (μ'' : bMm), bZ v = some z → bGo xs (d - j) M (pc + 3) lv (bPush K v r) μ'' Qc → bGo xs (d - j) M (pc + 3) lv (bPush K (.inl z) r) μ'' Qc := fun v z μ'' hz hg => bGo_same rfl (bPush_val hz r) hg
      split at hc
      · rename_i P hP
        split at hc
        · rename_i hb
          have hb := Nat.le_of_ble_eq_true hb
          obtain ⟨v, ho, hk, ⟨z, hz⟩, hK3⟩ := bOr_inv hP hc
          rw [bNm_map] at ho
          have hg := hnx _ _ _ _ hk
          obtain ⟨d', hd'⟩ : ∃ d', d - j = d' + 1 := ⟨d - j - 1, by omega⟩
          rw [hd'] at hg ⊢
          refine bGo_orc hstep (Nat.ble_eq_true_of_le (by omega)) ho ?_
          have hps : bPush K v r = v :: r := by
            unfold bPush
            split
            · rename_i M' hK
              obtain ⟨t, ht⟩ := aRt_orc hK hK3
              rw [ht]
            · rename_i hK
              rcases hK3 with rfl | rfl | rfl <;> cases hK
          rw [hps] at hg
          exact hg
        · cases hc
      · rename_i hP
        have ho : oOr K (as.map bVal) = none := bOr_none hP _
        split at hc
        · cases hc
        · rename_i M' hK
          split at hc
          · cases hc
          · rename_i hb
            rw [Bool.and_eq_true] at hb
            have hb1 := Nat.le_of_ble_eq_true hb.1
            have hb2 := Nat.le_of_ble_eq_true hb.2
            obtain ⟨d', hd'⟩ : ∃ d', d - j = d' + 1 := ⟨d - j - 1, by omega⟩
            have hdj : d - (j + 1) = d' := by omega
            rw [hd'] at hnx hpush ⊢
            refine bGo_call hstep ho hK hb1 ?_
            split at hc
            · have hg := ih M' (j + 1) 0 (bEnt M' as) [] μ _ (fun z μ' => bGo xs (d' + 1) M (pc + 3) lv (bPush K (.inl z) r) μ' Qc) (fun v z μ' hz hk => hpush v z μ' hz (hnx _ _ _ _ hk)) (fun e => by cases e) hb2 hc
              rw [hdj] at hg
              exact hg
            · split at hc
              · rename_i hr
                have hr := Nat.le_of_ble_eq_true hr
                have hg := hc M' hK d' (by omega)
                exact bGo_post (bGo_same (bEnt_nm M' as) rfl hg) (fun z μ' hk => hnx _ _ _ _ (wBk_inv hk))
              · rw [hdj] at hc
                exact bGo_post (bGo_same (bEnt_nm M' as) rfl hc) (fun z μ' hk => hnx _ _ _ _ (wBk_inv hk))
/-- the rules' soundness -/
theorem wX_sound {xs : List Int32} {rk mo : Nat → Nat} {stops : List (Nat × List Bool)} {inl : List Nat} {d r0 : Nat} {Q : bPo} {f : Nat} {M : aM} {pc : Nat} {lv st : List bV} {μ : bMm} (hd : r0 ≤ d) (h : wX xs rk mo stops inl d r0 Q f M 0 pc lv st μ (bTop Q)) : bGo xs d M pc lv st μ Q := by
  have := wX_go hd f M 0 pc lv st μ (bTop Q) Q (fun v z μ' hz hk => by unfold bTop at hk; rw [hz] at hk; exact hk) (fun _ => rfl) (Nat.zero_le _) h
  exact this
