/-! THE RULES' SOUNDNESS, 9: a whole stretch -/
theorem bOr_inv {K : Nat} {as : List bV} {κ : bV → Prop} {P : Prop} (h : bOr K as κ = some P) (hp : P) : ∃ v, oOr K (as.map bVal) = some (bVal v) ∧ κ v ∧ (∃ z, bZ v = some z) ∧ (K = 13 ∨ K = 175 ∨ K = 198) := by
  unfold bOr at h
  split at h
  · split at h
    · rename_i s
      cases h
      obtain ⟨hr, hk⟩ := hp
      refine ⟨.inl ((s + 999999) / 1000000), ?_, hk, ⟨_, rfl⟩, Or.inl rfl⟩
      show some (Value.int (Int32.ofInt ((Int32.ofInt s + 999999).toInt / 1000000))) = some (Value.int (Int32.ofInt ((s + 999999) / 1000000)))
      rw [show (999999 : Int32) = Int32.ofInt 999999 from rfl, ← Int32.ofInt_add, i32_of hr]
    · cases h
      cases hp
  · split at h
    · rename_i r c
      split at h
      · rename_i hb
        cases h
        obtain ⟨hr, hk⟩ := hp
        refine ⟨.inl (bAm (oTx r) c), ?_, hk, ⟨_, rfl⟩, Or.inr (Or.inl rfl)⟩
        show (match Nat.ble 2000 r && Nat.ble r 2004 with
          | true => some (Value.int (Int32.ofInt (bAm (oTx r) (Int32.ofInt c).toInt)))
          | false => none) = some (Value.int (Int32.ofInt (bAm (oTx r) c)))
        rw [hb, i32_of hr]
      · cases h
        cases hp
    · cases h
      cases hp
  · split at h
    · rename_i r c
      split at h
      · rename_i hb
        cases h
        obtain ⟨hr, hk⟩ := hp
        refine ⟨.inl (bPl (oTx r) c 0), ?_, hk, ⟨_, rfl⟩, Or.inr (Or.inr rfl)⟩
        show (match Nat.ble 2000 r && Nat.ble r 2004 with
          | true => some (Value.int (Int32.ofInt (bPl (oTx r) (Int32.ofInt c).toInt 0)))
          | false => none) = some (Value.int (Int32.ofInt (bPl (oTx r) c 0)))
        rw [hb, i32_of hr]
      · cases h
        cases hp
    · cases h
      cases hp
  · cases h
theorem bOr_none {K : Nat} {as : List bV} {κ : bV → Prop} (h : bOr K as κ = none) (bs : List Value) : oOr K bs = none := by
  unfold bOr at h
  split at h
  · split at h <;> cases h
  · split at h
    · split at h <;> cases h
    · cases h
  · split at h
    · split at h <;> cases h
    · cases h
  · rename_i h1 h2 h3
    unfold oOr
    split
    · exact absurd rfl h1
    · exact absurd rfl h2
    · exact absurd rfl h3
    · rfl
theorem aRt_orc {K : Nat} {M : aM} (hK : aProg[K]? = some M) (h : K = 13 ∨ K = 175 ∨ K = 198) : ∃ t, aRt M = some t := by
  rcases h with rfl | rfl | rfl
  · cases hK; exact ⟨_, rfl⟩
  · cases hK; exact ⟨_, rfl⟩
  · cases hK; exact ⟨_, rfl⟩
theorem bPush_val {K : Nat} {v : bV} {z : Int} (hz : bZ v = some z) (r : List bV) : (bPush K v r).map bVal = (bPush K (.inl z) r).map bVal := by
  unfold bPush
  split
  · split
    · rfl
    · rw [List.map_cons, List.map_cons, bZ_val hz]
      rfl
  · rfl
theorem bArg_nm (as : List bV) : (bArg (as.map bNm)).length = (bArg as).length := by
  have h1 := bArg_val (as.map bNm)
  have h2 := bArg_val as
  rw [bNm_map, h2] at h1
  have := congrArg List.length h1
  rw [List.length_map, List.length_map] at this
  exact this.symm
theorem bEnt_nm (M : aM) (as : List bV) : (bEnt M (as.map bNm)).map bVal = (bEnt M as).map bVal := by
  rw [← bEnt_val, ← bEnt_val, bNm_map]
theorem wBk_inv {mo : Nat} {bt : Bool × Bool × Bool} {κ : bV → bMm → Prop} {z : Int} {μ : bMm} (h : wBk mo bt κ z μ) : κ (.inl z) μ := by
  unfold wBk at h
  split at h
  · obtain ⟨rfl, h⟩ := h
    exact h
  · obtain ⟨⟨e1, e2⟩, h⟩ := h
    obtain ⟨⟨a, b, c⟩, m⟩ := μ
    simp only at e1 e2
    subst e1
    subst e2
    exact h
  · exact h
theorem bGo_post {xs : List Int32} {d : Nat} {M : aM} {pc : Nat} {lv st : List bV} {μ : bMm} {Q Q' : bPo} (h : bGo xs d M pc lv st μ Q) (hq : ∀ z μ', Q z μ' → Q' z μ') : bGo xs d M pc lv st μ Q' := by
  obtain ⟨f, v, z, μ2, e, hr, hk⟩ := h
  exact ⟨f, v, z, μ2, e, hr, hq _ _ hk⟩
theorem bC_post {xs : List Int32} {rk K : Nat} {as : List bV} {μ : bMm} {Q Q' : bPo} (h : bC xs rk K as μ Q) (hq : ∀ z μ', Q z μ' → Q' z μ') : bC xs rk K as μ Q' := fun M hM d hd => bGo_post (h M hM d hd) hq
/-- what a predicate of a method's places must bear, so that stretches of code may be gone through by it: steps, ends, calls -/
def gRe (xs : List Int32) (M : aM) (G : Nat → List bV → List bV → bMm → Prop) (Q : bPo) : Prop := ∀ (pc : Nat) (lv st : List bV) (μ : bMm) (v : Option Value) (z : Int), aStep (bX xs) aS M pc (lv.map bVal) (st.map bVal) (bσ μ) = some (.inr (.inl (v, bσ μ))) → bRes M v z → Q z μ → G pc lv st μ
def gOr (xs : List Int32) (d : Nat) (M : aM) (G : Nat → List bV → List bV → bMm → Prop) : Prop := ∀ (pc : Nat) (lv st : List bV) (μ : bMm) (K : Nat) (as r : List bV) (v : bV), aStep (bX xs) aS M pc (lv.map bVal) (st.map bVal) (bσ μ) = some (.inr (.inr (K, as.map bVal, (pc + 3, lv.map bVal, r.map bVal, bσ μ)))) → 6 ≤ d → oOr K (as.map bVal) = some (bVal v) → G (pc + 3) lv (v :: r) μ → G pc lv st μ
def gCa (xs : List Int32) (d : Nat) (M : aM) (G : Nat → List bV → List bV → bMm → Prop) : Prop := ∀ (pc : Nat) (lv st : List bV) (μ : bMm) (K : Nat) (as r : List bV) (M' : aM), aStep (bX xs) aS M pc (lv.map bVal) (st.map bVal) (bσ μ) = some (.inr (.inr (K, as.map bVal, (pc + 3, lv.map bVal, r.map bVal, bσ μ)))) → oOr K (as.map bVal) = none → aProg[K]? = some M' → (bArg as).length ≤ aML M' → 1 ≤ d → bGo xs (d - 1) M' 0 (bEnt M' as) [] μ (fun z μ' => G (pc + 3) lv (bPush K (.inl z) r) μ') → G pc lv st μ
def gSm (G : Nat → List bV → List bV → bMm → Prop) : Prop := ∀ (pc : Nat) (lv st st' : List bV) (μ : bMm), st'.map bVal = st.map bVal → G pc lv st' μ → G pc lv st μ
/-- all of it -/
def gAl (xs : List Int32) (d : Nat) (M : aM) (G : Nat → List bV → List bV → bMm → Prop) (Q : bPo) : Prop := gSt xs M G ∧ gRe xs M G Q ∧ gOr xs d M G ∧ gCa xs d M G ∧ gSm G
theorem gAl_bGo (xs : List Int32) (d : Nat) (M : aM) (Q : bPo) : gAl xs d M (fun pc lv st μ => bGo xs d M pc lv st μ Q) Q := by
  refine ⟨fun pc lv st μ pc' lv' st' μ' h k => bGo_step h k, fun pc lv st μ v z h hr hq => bGo_ret h hr hq, fun pc lv st μ K as r v h hd ho k => ?_, fun pc lv st μ K as r M' h ho hK hb hd k => ?_, fun pc lv st st' μ e k => bGo_same rfl e k⟩
  · obtain ⟨d', rfl⟩ : ∃ d', d = d' + 1 := ⟨d - 1, by omega⟩
    exact bGo_orc h (Nat.ble_eq_true_of_le (by omega)) ho k
  · obtain ⟨d', rfl⟩ : ∃ d', d = d' + 1 := ⟨d - 1, by omega⟩
    exact bGo_call h ho hK hb k
theorem wX_go {xs : List Int32} {rk mo : Nat → Nat} {stops : List (Nat × List Bool)} {inl : List Nat} {d r0 : Nat} {Z : Nat → List bV → List bV → bMm → Prop} (hd : r0 ≤ d) : ∀ (f : Nat) (M : aM) (j pc : Nat) (lv st : List bV) (μ : bMm) (κ : bV → bMm → Prop) (Qc : bPo) (G : Nat → List bV → List bV → bMm → Prop), gAl xs (d - j) M G Qc → (∀ v z μ', bZ v = some z → κ v μ' → Qc z μ') → (j = 0 → ∀ pc' lv' st' μ' ks, Z pc' ((bMk ks lv').map bNm) (st'.map bNm) μ' → G pc' lv' st' μ') → j ≤ r0 → wX xs rk mo stops inl d r0 Z f M j pc lv st μ κ → G pc lv st μ := by
  intro f
  induction f with
  | zero => intro M j pc lv st μ κ Qc G _ _ _ _ h; cases h
  | succ f ih =>
    intro M j pc lv st μ κ Qc G hG hκ hj hjr h
    obtain ⟨hG1, hG2, hG3, hG4, hG5⟩ := hG
    unfold wX at h
    split at h
    · cases h
    · rename_i q hco
      have hnx : ∀ pc' lv' st' μ', (match j with
        | 0 => match aFd stops pc' with
          | some ks => Z pc' ((bMk ks lv').map bNm) (st'.map bNm) μ'
          | none => wX xs rk mo stops inl d r0 Z f M 0 pc' lv' st' μ' κ
        | j' + 1 => wX xs rk mo stops inl d r0 Z f M (j' + 1) pc' lv' st' μ' κ) → G pc' lv' st' μ' := by
        intro pc' lv' st' μ' hn
        cases j with
        | zero =>
          simp only at hn
          split at hn
          · rename_i ks hks
            exact hj rfl pc' lv' st' μ' ks hn
          · exact ih M 0 pc' lv' st' μ' κ Qc G ⟨hG1, hG2, hG3, hG4, hG5⟩ hκ hj hjr hn
        | succ j' => exact ih M (j' + 1) pc' lv' st' μ' κ Qc G ⟨hG1, hG2, hG3, hG4, hG5⟩ hκ hj hjr hn
      refine wI_sound hG1 hco rfl hnx ?_ (fun v z hz hr => hκ v z μ hz hr) (fun v z h hr hq => hG2 _ _ _ _ v z h hr hq) h
      intro K as r hstep hc
      simp only at hc
      have hpush : ∀ (v : bV) (z : Int) (μ'' : bMm), bZ v = some z → G (pc + 3) lv (bPush K v r) μ'' → G (pc + 3) lv (bPush K (.inl z) r) μ'' := fun v z μ'' hz hg => hG5 _ _ _ _ _ (bPush_val hz r) hg
      split at hc
      · rename_i P hP
        split at hc
        · rename_i hb
          have hb := Nat.le_of_ble_eq_true hb
          obtain ⟨v, ho, hk, ⟨z, hz⟩, hK3⟩ := bOr_inv hP hc
          rw [bNm_map] at ho
          have hg := hnx _ _ _ _ hk
          have hps : bPush K v r = v :: r := by
            unfold bPush
            split
            · rename_i M' hK
              obtain ⟨t, ht⟩ := aRt_orc hK hK3
              rw [ht]
            · rename_i hK
              rcases hK3 with rfl | rfl | rfl <;> cases hK
          rw [hps] at hg
          exact hG3 _ _ _ _ K as r v hstep (by omega) ho hg
        · cases hc
      · rename_i hP
        have ho : oOr K (as.map bVal) = none := bOr_none hP _
        split at hc
        · cases hc
        · rename_i M' hK
          split at hc
          · cases hc
          · rename_i hb
            rw [Bool.and_eq_true] at hb
            have hb1 := Nat.le_of_ble_eq_true hb.1
            have hb2 := Nat.le_of_ble_eq_true hb.2
            have hdj : d - (j + 1) = d - j - 1 := by omega
            refine hG4 _ _ _ _ K as r M' hstep ho hK hb1 (by omega) ?_
            split at hc
            · have hg := ih M' (j + 1) 0 (bEnt M' as) [] μ _ (fun z μ' => G (pc + 3) lv (bPush K (.inl z) r) μ') (fun pc1 lv1 st1 μ1 => bGo xs (d - (j + 1)) M' pc1 lv1 st1 μ1 (fun z μ' => G (pc + 3) lv (bPush K (.inl z) r) μ')) (gAl_bGo _ _ _ _) (fun v z μ' hz hk => hpush v z μ' hz (hnx _ _ _ _ hk)) (fun e => by cases e) hb2 hc
              rw [hdj] at hg
              exact hg
            · split at hc
              · rename_i hr
                have hr := Nat.le_of_ble_eq_true hr
                have hg := hc M' hK (d - j - 1) (by omega)
                exact bGo_post (bGo_same (bEnt_nm M' as) rfl hg) (fun z μ' hk => hnx _ _ _ _ (wBk_inv hk))
              · rw [hdj] at hc
                exact bGo_post (bGo_same (bEnt_nm M' as) rfl hc) (fun z μ' hk => hnx _ _ _ _ (wBk_inv hk))
/-- the rules' soundness -/
theorem wX_sound {xs : List Int32} {rk mo : Nat → Nat} {stops : List (Nat × List Bool)} {inl : List Nat} {d r0 : Nat} {Q : bPo} {f : Nat} {M : aM} {pc : Nat} {lv st : List bV} {μ : bMm} (hd : r0 ≤ d) (h : wX xs rk mo stops inl d r0 (fun pc lv st μ => bGo xs d M pc lv st μ Q) f M 0 pc lv st μ (bTop Q)) : bGo xs d M pc lv st μ Q :=
  wX_go hd f M 0 pc lv st μ (bTop Q) Q (fun pc lv st μ => bGo xs d M pc lv st μ Q) (gAl_bGo xs d M Q) (fun v z μ' hz hk => by unfold bTop at hk; rw [hz] at hk; exact hk) (fun _ pc' lv' st' μ' ks hz => bGo_hole hz) (Nat.zero_le _) h
