/-! THE RULES' SOUNDNESS, 8: every instruction, and a whole stretch -/
theorem i8_of {n : Int} (h : -128 ≤ n ∧ n ≤ 127) : (Int8.ofInt n).toInt32 = Int32.ofInt n := Int8.toInt32_ofInt h.1 h.2
theorem i16_of {n : Int} (h : -32768 ≤ n ∧ n ≤ 32767) : (Int16.ofInt n).toInt32 = Int32.ofInt n := Int16.toInt32_ofInt h.1 h.2
theorem wLn_inv {xs : List Int32} {v : bV} {κ : Int → Prop} (h : wLn xs v κ) : ∃ (a : Nat) (z : Int), bVal v = .ref a ∧ κ z ∧ aLen (bX xs) aS a = some (.int (Int32.ofInt z)) := by
  unfold wLn at h
  split at h
  · rename_i a
    split at h
    · rename_i t n hs
      refine ⟨a, n, rfl, h, ?_⟩
      unfold aLen
      rw [hs, Int32.ofInt_eq_ofNat]
    · cases h
    · rename_i hs
      split at h
      · rename_i n hn
        obtain ⟨f, k, e1, rfl, -⟩ := bXn_some hn
        refine ⟨a, _, rfl, h, ?_⟩
        unfold aLen
        rw [hs]
        simp only
        rw [e1, Int32.ofInt_eq_ofNat]
      · cases h
  · rename_i a r
    split at h
    · rename_i hb
      split at h
      · rename_i t n hs
        split at h
        · rename_i u w hs2
          obtain ⟨hr, hk⟩ := h
          obtain ⟨rfl, rfl, hw, hR⟩ := bRows hb hs hs2
          obtain ⟨e1, e2, e3, -⟩ := hR r.toNat (by omega)
          refine ⟨_, w, rfl, hk, ?_⟩
          unfold aLen
          rw [e1, Int32.ofInt_eq_ofNat]
        · cases h
      · cases h
    · cases h
  · cases h
theorem bFl_inv {μ : bMm} {a k : Nat} {κ : bV → Prop} (h : bFl μ a k κ) : ∃ v, bVo μ a k (bF a k) = bVal v ∧ κ v := by
  unfold bFl at h
  split at h
  · rename_i x e
    exact ⟨_, by rw [e]; rfl, h⟩
  · rename_i x e
    exact ⟨_, by rw [e]; rfl, h⟩
  · rename_i x e
    exact ⟨_, by rw [e]; rfl, h⟩
  · cases h
theorem bRf_cg {bt bs : Bool × Bool × Bool} (b j r : Nat) (h0 : b = 0 → j = 10 → bt.1 = bs.1) (h1 : b = 0 → j = 11 → bt.2.1 = bs.2.1) (h2 : b = 120 → j = 5 → bt.2.2 = bs.2.2) : bRf bt b j r = bRf bs b j r := by
  unfold bRf
  split
  · split
    · rw [h0 rfl rfl]
    · rw [h1 rfl rfl]
    · rfl
  · split
    · rw [h2 rfl rfl]
    · rfl
  · rfl
theorem bRs_ok {μ : bMm} {a k b cj : Nat} {bt : Bool × Bool × Bool} (h : aS[a]? = some (.inl cj)) (e : bRs μ.1 a k b = some bt) : aUp (bσ μ) a k (.ref b) = bσ (bt, μ.2) := by
  have key : ∀ b' j : Nat, (b' = a ∧ j = k → bVs (bt, μ.2) b' j aS[b']? = .ref b) ∧ (¬ (b' = a ∧ j = k) → bVs (bt, μ.2) b' j aS[b']? = bVs μ b' j aS[b']?) := by
    intro b' j
    refine ⟨fun q => ?_, fun q => ?_⟩
    · obtain ⟨rfl, rfl⟩ := q
      rw [h]
      show bVo (bt, μ.2) b' j (bF b' j) = _
      unfold bRs at e
      repeat' (split at e)
      all_goals first | (cases e; done) | (cases e; rfl)
    · have hm : ∀ (t : Nat), bVa (bt, μ.2) b' j t = bVa μ b' j t := fun t => rfl
      unfold bVs
      split
      · rfl
      · split
        · exact hm _
        · rfl
      · have : ∀ r, bRf bt b' j r = bRf μ.1 b' j r := fun r => by
          unfold bRs at e
          repeat' (split at e)
          all_goals first | (cases e; done) | skip
          all_goals
            cases e
            refine bRf_cg _ _ _ (fun e1 e2 => ?_) (fun e1 e2 => ?_) (fun e1 e2 => ?_) <;> first | rfl | exact absurd ⟨e1, e2⟩ q
        cases hF : bF b' j with
        | int x => rfl
        | long x => rfl
        | ref r => show Value.ref _ = Value.ref _; rw [this]
        | _ => rfl
  funext b' j
  rw [aUp_at]
  show _ = bVs (bt, μ.2) b' j aS[b']?
  by_cases q1 : b' = a
  · rw [if_pos q1]
    by_cases q2 : j = k
    · rw [if_pos q2, (key b' j).1 ⟨q1, q2⟩]
    · rw [if_neg q2, (key b' j).2 (fun n => q2 n.2)]
      rfl
  · rw [if_neg q1, (key b' j).2 (fun n => q1 n.1)]
    rfl
theorem bPf_inv {μ : bMm} {a k kd cj : Nat} {v : bV} {κ : bMm → Prop} (hs : aS[a]? = some (.inl cj)) (h : bPf μ a k kd v κ) : ∃ μ', aOk kd (bVal v) = true ∧ aUp (bσ μ) a k (bVal v) = bσ μ' ∧ κ μ' := by
  have hi : ∀ z x, bZ v = some z → bF a k = .int x → aUp (bσ μ) a k (bVal v) = bσ (bUp μ a k z) := fun z x hz hf => by
    have hu := bUp_obj (μ := μ) (k := k) (z := z) hs (aS_obj hs).1 (aS_obj hs).2
    rw [hf] at hu
    have e : bVo (bUp μ a k z) a k (.int x) = bVal v := by
      rw [bZ_val hz]
      show Value.int (Int32.ofInt (up μ.2 a k z a k)) = _
      rw [up_eq]
    rw [e] at hu
    exact hu
  unfold bPf at h
  split at h
  · split at h
    · rename_i z hz
      split at h
      · rename_i x hf
        exact ⟨_, by rw [bZ_val hz]; rfl, hi z x hz hf, h⟩
      · cases h
    · cases h
  · split at h
    · rename_i z hz
      split at h
      · rename_i x hf
        have hz2 : (z = 0 ∨ z = 1) ∧ κ (bUp μ a k z) := by
          split at h
          · split at h
            · rename_i e
              exact ⟨of_decide_eq_true e, h⟩
            · cases h
          · exact h
        refine ⟨_, ?_, hi z x hz hf, hz2.2⟩
        rw [bZ_val hz]
        rcases hz2.1 with rfl | rfl <;> rfl
      · cases h
    · cases h
  · split at h
    · rename_i z hz
      split at h
      · rename_i x hf
        have hu := bUp_obj (μ := μ) (k := k) (z := z) hs (aS_obj hs).1 (aS_obj hs).2
        rw [hf] at hu
        have e : bVo (bUp μ a k z) a k (.long x) = bVal v := by
          rw [bL_val hz]
          show Value.long (Int64.ofInt (up μ.2 a k z a k)) = _
          rw [up_eq]
        rw [e] at hu
        exact ⟨_, by rw [bL_val hz]; rfl, hu, h⟩
      · cases h
    · cases h
  · split at h
    · rename_i b
      split at h
      · rename_i bt e
        exact ⟨_, rfl, bRs_ok hs e, h⟩
      · cases h
    · cases h
  · cases h
section WV
variable {xs : List Int32} {M : aM} {pc : Nat} {lv st : List bV} {μ : bMm} {Q : bPo} {G nx : Nat → List bV → List bV → bMm → Prop} {ins : Instr} {ln : Nat} {cl : Nat → List bV → bMm → (bV → bMm → Prop) → Prop} {rt : bV → bMm → Prop} {nin : Option (Instr × Nat)}
set_option maxHeartbeats 4000000 in
theorem wI_sound (hG : gSt xs M G) (hco : aFd (aCo M) pc = some (ins, ln)) (hnin : nin = aFd (aCo M) (pc + 1)) (hnx : ∀ pc' lv' st' μ', nx pc' lv' st' μ' → G pc' lv' st' μ')
    (hcl : ∀ K as r, aStep (bX xs) aS M pc (lv.map bVal) (st.map bVal) (bσ μ) = some (.inr (.inr (K, as.map bVal, (pc + 3, lv.map bVal, r.map bVal, bσ μ)))) → cl K as μ (fun v μ'' => nx (pc + 3) lv (bPush K v r) μ'') → G pc lv st μ)
    (hrt : ∀ v z, bZ v = some z → rt v μ → Q z μ) (hre : ∀ v z, aStep (bX xs) aS M pc (lv.map bVal) (st.map bVal) (bσ μ) = some (.inr (.inl (v, bσ μ))) → bRes M v z → Q z μ → G pc lv st μ) (h : wI xs M nx cl rt pc ins nin lv st μ) : G pc lv st μ := by
  have stp : ∀ (z : aC), aIns (bX xs) aS M pc ins (lv.map bVal) (st.map bVal) (bσ μ) = some (.inl z) → aStep (bX xs) aS M pc (lv.map bVal) (st.map bVal) (bσ μ) = some (.inl z) := fun z e => (aStep_of hco ..).trans e
  cases ins
  case iconst n => exact wN hG hco hnx (lv' := lv) (st' := vc n :: st) (μ' := μ) rfl h
  case bipush n =>
    simp only [wI] at h
    split at h
    · rename_i e
      refine wN hG hco hnx (lv' := lv) (st' := vc n :: st) (μ' := μ) ?_ h
      show some (Sum.inl (pc + 2, _, Value.int (Int8.ofInt n).toInt32 :: _, _)) = _
      rw [i8_of (of_decide_eq_true e)]
      rfl
    · cases h
  case sipush n =>
    simp only [wI] at h
    split at h
    · rename_i e
      refine wN hG hco hnx (lv' := lv) (st' := vc n :: st) (μ' := μ) ?_ h
      show some (Sum.inl (pc + 3, _, Value.int (Int16.ofInt n).toInt32 :: _, _)) = _
      rw [i16_of (of_decide_eq_true e)]
      rfl
    · cases h
  case lconst n =>
    refine wN hG hco hnx (lv' := lv) (st' := vk ((n : Nat) : Int) :: st) (μ' := μ) ?_ h
    show some (Sum.inl (pc + 1, _, Value.long (Int64.ofNat (n : Nat)) :: _, _)) = some (Sum.inl (pc + 1, _, Value.long (Int64.ofInt ((n : Nat) : Int)) :: _, _))
    rw [Int64.ofInt_eq_ofNat]
  case ldc i =>
    simp only [wI] at h
    split at h
    · rename_i v w e
      refine wN hG hco hnx (lv' := lv) (st' := vc v.toInt :: st) (μ' := μ) ?_ h
      simp only [aIns, e]
      show some (Sum.inl (pc + 2, _, Value.int v :: _, _)) = some (Sum.inl (pc + 2, _, Value.int (Int32.ofInt v.toInt) :: _, _))
      rw [Int32.ofInt_toInt]
    · rename_i v w e
      split at h
      · rename_i e2
        refine wN hG hco hnx (lv' := lv) (st' := .inr (.inl v) :: st) (μ' := μ) ?_ h
        simp only [aIns, e, aGd, e2]
        rfl
      · cases h
    · cases h
  case ldc_w i =>
    simp only [wI] at h
    split at h
    · rename_i v w e
      refine wN hG hco hnx (lv' := lv) (st' := vc v.toInt :: st) (μ' := μ) ?_ h
      simp only [aIns, e]
      show some (Sum.inl (pc + 3, _, Value.int v :: _, _)) = some (Sum.inl (pc + 3, _, Value.int (Int32.ofInt v.toInt) :: _, _))
      rw [Int32.ofInt_toInt]
    · rename_i v w e
      split at h
      · rename_i e2
        refine wN hG hco hnx (lv' := lv) (st' := .inr (.inl v) :: st) (μ' := μ) ?_ h
        simp only [aIns, e, aGd, e2]
        rfl
      · cases h
    · cases h
  case ldc2_w i =>
    simp only [wI] at h
    split at h
    · rename_i v w e
      refine wN hG hco hnx (lv' := lv) (st' := vk v.toInt :: st) (μ' := μ) ?_ h
      simp only [aIns, e]
      show some (Sum.inl (pc + 3, _, Value.long v :: _, _)) = some (Sum.inl (pc + 3, _, Value.long (Int64.ofInt v.toInt) :: _, _))
      rw [Int64.ofInt_toInt]
    · cases h
  case getstatic i =>
    simp only [wI] at h
    split at h
    · rename_i v w e
      split at h
      · rename_i e2
        refine wN hG hco hnx (lv' := lv) (st' := .inr (.inl v) :: st) (μ' := μ) ?_ h
        simp only [aIns, e, aGd, e2]
        rfl
      · cases h
    · cases h
  case iload_n k => exact wN_ldi hG hco hnx (fun _ _ _ => rfl) h
  case iload k => exact wN_ldi hG hco hnx (fun _ _ _ => rfl) h
  case lload_n k => exact wN_ldl hG hco hnx (fun _ _ _ => rfl) h
  case lload k => exact wN_ldl hG hco hnx (fun _ _ _ => rfl) h
  case aload_n k => exact wN_ldr hG hco hnx (fun _ _ _ => rfl) h
  case aload k => exact wN_ldr hG hco hnx (fun _ _ _ => rfl) h
  case istore_n k => exact wN_sti hG hco hnx (fun _ _ _ => rfl) h
  case istore k => exact wN_sti hG hco hnx (fun _ _ _ => rfl) h
  case lstore_n k =>
    simp only [wI] at h
    split at h
    · split at h
      · rename_i z hz
        exact wN_stl hG hco hnx (fun _ _ _ => rfl) hz h
      · cases h
    · cases h
  case lstore k =>
    simp only [wI] at h
    split at h
    · split at h
      · rename_i z hz
        exact wN_stl hG hco hnx (fun _ _ _ => rfl) hz h
      · cases h
    · cases h
  case astore_n k =>
    simp only [wI] at h
    split at h
    · split at h
      · rename_i hz
        exact wN_str hG hco hnx (fun _ _ _ => rfl) hz h
      · cases h
    · cases h
  case astore k =>
    simp only [wI] at h
    split at h
    · split at h
      · rename_i hz
        exact wN_str hG hco hnx (fun _ _ _ => rfl) hz h
      · cases h
    · cases h
  case iinc i n =>
    simp only [wI] at h
    split at h
    · rename_i v hv
      split at h
      · rename_i x hz
        obtain ⟨hb, hk⟩ := wP1_inv h
        refine wN hG hco hnx (lv' := lv.set i (.inl (x + n))) (st' := st) (μ' := μ) ?_ hk
        rw [← bPut1 hb]
        simp only [aIns, bAt, hv, Option.map_some, bZ_val hz]
        show aPut1 _ _ _ (.int (Int32.ofInt x + Int32.ofInt n)) _ _ = aPut1 _ _ _ (.int (Int32.ofInt (x + n))) _ _
        rw [Int32.ofInt_add]
      · cases h
    · cases h
  case iadd => exact wN_II hG hco hnx (fun _ _ _ => rfl) (fun x y => by rw [Int32.ofInt_add]) h
  case isub => exact wN_II hG hco hnx (fun _ _ _ => rfl) (fun x y => by rw [Int32.ofInt_sub]) h
  case imul => exact wN_II hG hco hnx (fun _ _ _ => rfl) (fun x y => by rw [Int32.ofInt_mul]) h
  case iand => exact wN_II hG hco hnx (fun _ _ _ => rfl) (fun x y => by rw [bAnd, Int32.ofInt_toInt]) h
  case ior => exact wN_II hG hco hnx (fun _ _ _ => rfl) (fun x y => by rw [bOrr, Int32.ofInt_toInt]) h
  case ixor => exact wN_II hG hco hnx (fun _ _ _ => rfl) (fun x y => by rw [bXor, Int32.ofInt_toInt]) h
  case ishl => exact wN_II hG hco hnx (fun _ _ _ => rfl) (fun x y => by rw [bShl, Int32.ofInt_toInt]) h
  case ishr => exact wN_II hG hco hnx (fun _ _ _ => rfl) (fun x y => by rw [bShr, Int32.ofInt_toInt]) h
  case iushr => exact wN_II hG hco hnx (fun _ _ _ => rfl) (fun x y => by rw [bUsh, Int32.ofInt_toInt]) h
  case idiv =>
    obtain ⟨u, v, x, y, r, rfl, hy, hx, h⟩ := wII_inv h
    obtain ⟨rx, h⟩ := wR_inv h
    obtain ⟨⟨ry, y0⟩, h⟩ := wDv_inv h
    refine wN hG hco hnx (lv' := lv) (st' := .inl (x.tdiv y) :: r) (μ' := μ) ?_ h
    simp only [aIns, aIID, List.map_cons, bZ_val hy, bZ_val hx]
    rw [if_neg (i32_ne0 ry y0), ← Int32.ofInt_tdiv rx.1 rx.2 ry.1 ry.2]
    rfl
  case irem =>
    obtain ⟨u, v, x, y, r, rfl, hy, hx, h⟩ := wII_inv h
    obtain ⟨rx, h⟩ := wR_inv h
    obtain ⟨⟨ry, y0⟩, h⟩ := wDv_inv h
    refine wN hG hco hnx (lv' := lv) (st' := .inl (x.tmod y) :: r) (μ' := μ) ?_ h
    simp only [aIns, aIID, List.map_cons, bZ_val hy, bZ_val hx]
    rw [if_neg (i32_ne0 ry y0), ← tmod_32 rx ry]
    rfl
  case ladd => exact wN_LL hG hco hnx (fun _ _ _ => rfl) (fun x y => by rw [Int64.ofInt_add]) h
  case lsub => exact wN_LL hG hco hnx (fun _ _ _ => rfl) (fun x y => by rw [Int64.ofInt_sub]) h
  case lmul => exact wN_LL hG hco hnx (fun _ _ _ => rfl) (fun x y => by rw [Int64.ofInt_mul]) h
  case land => exact wN_LL hG hco hnx (fun _ _ _ => rfl) (fun x y => by rw [lAnd, Int64.ofInt_toInt]) h
  case lor => exact wN_LL hG hco hnx (fun _ _ _ => rfl) (fun x y => by rw [lOrr, Int64.ofInt_toInt]) h
  case ldiv =>
    obtain ⟨u, v, x, y, r, rfl, hy, hx, h⟩ := wLL_inv h
    obtain ⟨rx, h⟩ := wRL_inv h
    obtain ⟨⟨ry, y0⟩, h⟩ := wDvL_inv h
    refine wN hG hco hnx (lv' := lv) (st' := .inr (.inr (.inl (x.tdiv y))) :: r) (μ' := μ) ?_ h
    simp only [aIns, aLLD, List.map_cons, bL_val hy, bL_val hx]
    rw [if_neg (i64_ne0 ry y0), ← Int64.ofInt_tdiv rx.1 rx.2 ry.1 ry.2]
    rfl
  case lrem =>
    obtain ⟨u, v, x, y, r, rfl, hy, hx, h⟩ := wLL_inv h
    obtain ⟨rx, h⟩ := wRL_inv h
    obtain ⟨⟨ry, y0⟩, h⟩ := wDvL_inv h
    refine wN hG hco hnx (lv' := lv) (st' := .inr (.inr (.inl (x.tmod y))) :: r) (μ' := μ) ?_ h
    simp only [aIns, aLLD, List.map_cons, bL_val hy, bL_val hx]
    rw [if_neg (i64_ne0 ry y0), ← tmod_64 rx ry]
    rfl
  case lshl => exact wN_LI hG hco hnx (fun _ _ _ => rfl) (fun x y => by rw [lShl, Int64.ofInt_toInt]) h
  case lushr => exact wN_LI hG hco hnx (fun _ _ _ => rfl) (fun x y => by rw [lUsh, Int64.ofInt_toInt]) h
  case lcmp =>
    obtain ⟨u, v, x, y, r, rfl, hy, hx, h⟩ := wLL_inv h
    split at h
    · rename_i c off l2 hn
      obtain ⟨t, et, h⟩ := wJ_inv h
      obtain ⟨rx, h⟩ := wRL_inv h
      obtain ⟨ry, h⟩ := wRL_inv h
      obtain ⟨hA, hB⟩ := wCm_inv h
      have hco2 : aFd (aCo M) (pc + 1) = some (.ifCond c off, l2) := hnin.symm
      have rz : inR (if x > y then 1 else if x = y then 0 else -1) := by
        split
        · decide
        · split <;> decide
      refine hG pc lv _ μ (pc + 1) lv (.inl (if x > y then 1 else if x = y then 0 else -1) :: r) μ (stp _ ?_) ?_
      · simp only [aIns, aLL, List.map_cons, bL_val hy, bL_val hx]
        rw [lg_cmp_of rx ry]
        rfl
      · obtain ⟨i1, i2⟩ := aIfc (c := c) (X := bX xs) (S := aS) (M := M) (lv := lv.map bVal) (r := r.map bVal) (σ := bσ μ) rz et
        rw [cP_cmp] at i1 i2
        by_cases q : cP c x y
        · exact hG (pc + 1) lv _ μ t lv r μ ((aStep_of hco2 ..).trans (i1 q)) (hnx _ _ _ _ (hA q))
        · exact hG (pc + 1) lv _ μ (pc + 4) lv r μ ((aStep_of hco2 ..).trans (i2 q)) (hnx _ _ _ _ (hB q))
    · cases h
  case i2l =>
    obtain ⟨v, x, r, rfl, hz, h⟩ := wI1_inv h
    split at h
    · split at h
      · rename_i e
        have rx := of_decide_eq_true e
        refine wN hG hco hnx (lv' := lv) (st' := vk x :: r) (μ' := μ) ?_ h
        simp only [aIns, aI1, List.map_cons, bZ_val hz]
        rw [Int32.toInt64_ofInt rx.1 rx.2]
        rfl
      · cases h
    · obtain ⟨rx, h⟩ := h
      refine wN hG hco hnx (lv' := lv) (st' := .inr (.inr (.inl x)) :: r) (μ' := μ) ?_ h
      simp only [aIns, aI1, List.map_cons, bZ_val hz]
      rw [Int32.toInt64_ofInt rx.1 rx.2]
      rfl
  case i2b =>
    obtain ⟨v, x, r, rfl, hz, h⟩ := wI1_inv h
    refine wN hG hco hnx (lv' := lv) (st' := .inl (bByt x) :: r) (μ' := μ) ?_ h
    simp only [aIns, aI1, List.map_cons, bZ_val hz]
    show _ = some (Sum.inl (pc + 1, _, Value.int (Int32.ofInt (bByt x)) :: _, _))
    rw [bByt, Int32.ofInt_toInt]
    rfl
  case l2i =>
    simp only [wI] at h
    split at h
    · rename_i v r
      split at h
      · rename_i x hz
        refine wN hG hco hnx (lv' := lv) (st' := .inl x :: r) (μ' := μ) ?_ h
        simp only [aIns, aL1, List.map_cons, bL_val hz]
        rw [Int64.toInt32_ofInt]
        rfl
      · cases h
    · cases h
  case pop =>
    simp only [wI] at h
    split at h
    · rename_i v r
      split at h
      · rename_i hc
        refine wN hG hco hnx (lv' := lv) (st' := r) (μ' := μ) ?_ h
        simp only [aIns, List.map_cons, bCt_val, hc]
        rfl
      · cases h
    · cases h
  case dup =>
    simp only [wI] at h
    split at h
    · rename_i v r
      split at h
      · rename_i hc
        refine wN hG hco hnx (lv' := lv) (st' := v :: v :: r) (μ' := μ) ?_ h
        simp only [aIns, List.map_cons, bCt_val, hc]
        rfl
      · cases h
    · cases h
  case dup2 =>
    simp only [wI] at h
    split at h
    · rename_i v u r
      split at h
      · rename_i hc
        refine wN hG hco hnx (lv' := lv) (st' := v :: u :: v :: u :: r) (μ' := μ) ?_ h
        simp only [aIns, List.map_cons, bCt_val, hc]
        rfl
      · cases h
    · cases h
  case ifCond c off =>
    obtain ⟨v, x, r, rfl, hz, h⟩ := wI1_inv h
    obtain ⟨t, et, h⟩ := wJ_inv h
    obtain ⟨rx, h⟩ := wR_inv h
    obtain ⟨hA, hB⟩ := wIf_inv h
    obtain ⟨i1, i2⟩ := aIfc (c := c) (X := bX xs) (S := aS) (M := M) (lv := lv.map bVal) (r := r.map bVal) (σ := bσ μ) rx et
    by_cases q : cP c x 0
    · refine wN hG hco hnx (lv' := lv) (st' := r) (μ' := μ) ?_ (hA q)
      rw [List.map_cons, bZ_val hz]
      exact i1 q
    · refine wN hG hco hnx (lv' := lv) (st' := r) (μ' := μ) ?_ (hB q)
      rw [List.map_cons, bZ_val hz]
      exact i2 q
  case if_icmp c off =>
    obtain ⟨u, v, x, y, r, rfl, hy, hx, h⟩ := wII_inv h
    obtain ⟨t, et, h⟩ := wJ_inv h
    obtain ⟨rx, h⟩ := wR_inv h
    obtain ⟨ry, h⟩ := wR_inv h
    obtain ⟨hA, hB⟩ := wCm_inv h
    obtain ⟨i1, i2⟩ := aIcc (c := c) (X := bX xs) (S := aS) (M := M) (lv := lv.map bVal) (r := r.map bVal) (σ := bσ μ) rx ry et
    by_cases q : cP c x y
    · refine wN hG hco hnx (lv' := lv) (st' := r) (μ' := μ) ?_ (hA q)
      rw [List.map_cons, List.map_cons, bZ_val hy, bZ_val hx]
      exact i1 q
    · refine wN hG hco hnx (lv' := lv) (st' := r) (μ' := μ) ?_ (hB q)
      rw [List.map_cons, List.map_cons, bZ_val hy, bZ_val hx]
      exact i2 q
  case goto off =>
    obtain ⟨t, et, h⟩ := wJ_inv h
    refine wN hG hco hnx (lv' := lv) (st' := st) (μ' := μ) ?_ h
    exact aJp_of et ..
  case tableswitch dflt lo hi offs =>
    obtain ⟨v, x, r, rfl, hz, h⟩ := wI1_inv h
    split at h
    case h_2 => cases h
    rename_i hsz
    have hsz := of_decide_eq_true hsz
    obtain ⟨rx, hD, hT⟩ := h
    by_cases q : x < lo ∨ hi < x
    · obtain ⟨t, et, h⟩ := wJ_inv (hD q)
      refine wN hG hco hnx (lv' := lv) (st' := r) (μ' := μ) ?_ h
      simp only [aIns, List.map_cons, bZ_val hz]
      rw [i32_of rx, if_pos q]
      exact aJp_of et ..
    · have q1 : ¬ x < lo := fun n => q (Or.inl n)
      cases ho : offs[(x - lo).toNat]? with
      | some off =>
        obtain ⟨t, et, h⟩ := wSwT_inv offs.toList lo hT (x - lo).toNat off (by rw [Array.getElem?_toList]; exact ho) (by omega)
        refine wN hG hco hnx (lv' := lv) (st' := r) (μ' := μ) ?_ h
        simp only [aIns, List.map_cons, bZ_val hz]
        rw [i32_of rx, if_neg q, ho]
        exact aJp_of et ..
      | none =>
        rw [Array.getElem?_eq_none_iff] at ho
        omega
  case lookupswitch dflt ps =>
    obtain ⟨v, x, r, rfl, hz, h⟩ := wI1_inv h
    split at h
    · rename_i e
      obtain ⟨rx, h⟩ := h
      obtain ⟨t, et, h⟩ := wSwL_inv ps.toList h
      refine wN hG hco hnx (lv' := lv) (st' := r) (μ' := μ) ?_ h
      simp only [aIns, List.map_cons, bZ_val hz]
      rw [i32_of rx, if_pos e]
      exact aJp_of et ..
    · cases h
  case iaload =>
    obtain ⟨iv, i, r0, rfl, hz, h⟩ := wI1_inv h
    split at h
    · rename_i v r _
      obtain ⟨a, z, ea, hk, hl⟩ := wLd_inv h
      refine wN hG hco hnx (lv' := lv) (st' := .inl z :: r) (μ' := μ) ?_ hk
      simp only [aIns, List.map_cons, bZ_val hz, ea]
      rw [aIld_of hl]
      rfl
    · cases h
  case baload =>
    obtain ⟨iv, i, r0, rfl, hz, h⟩ := wI1_inv h
    split at h
    · rename_i a r _
      obtain ⟨a', z, ea, hk, hl⟩ := wLd_inv h
      cases ea
      rcases hl with ⟨t, n, hs, ht, hi, hv, -⟩ | ⟨-, ht, -⟩
      · refine wN hG hco hnx (lv' := lv) (st' := .inl z :: r) (μ' := μ) ?_ hk
        have ht2 : t = 1 ∨ t = 2 := by
          rw [Bool.or_eq_true] at ht
          exact ht.imp Nat.eq_of_beq_eq_true Nat.eq_of_beq_eq_true
        have hp : bIp t = true := by rcases ht2 with rfl | rfl <;> rfl
        simp only [aIns, List.map_cons, bZ_val hz]
        show (match aS[a]? with
          | some (.inr (t, n)) => if (t = 1 ∨ t = 2) ∧ ¬ (Int32.ofInt i < 0 ∨ n ≤ (Int32.ofInt i).toNatClampNeg) then aGo (pc + 1) (lv.map bVal) (Value.int (aI (bσ μ a (Int32.ofInt i).toNatClampNeg)) :: r.map bVal) (bσ μ) else none
          | _ => none) = _
        rw [hs]
        simp only
        rw [if_pos ⟨ht2, i32_ix hi.1 hi.2 (aS_len hs)⟩, (i32_nat hi.1 hi.2 (aS_len hs)).1, hv hp]
        rfl
      · cases ht
    · cases h
  case laload =>
    obtain ⟨iv, i, r0, rfl, hz, h⟩ := wI1_inv h
    split at h
    · rename_i a r _
      obtain ⟨a', z, ea, hk, hl⟩ := wLd_inv h
      cases ea
      rcases hl with ⟨t, n, hs, ht, hi, -, hv⟩ | ⟨-, ht, -⟩
      · refine wN hG hco hnx (lv' := lv) (st' := .inr (.inr (.inl z)) :: r) (μ' := μ) ?_ hk
        have ht2 : t = 3 := Nat.eq_of_beq_eq_true ht
        simp only [aIns, List.map_cons, bZ_val hz]
        show (match aS[a]? with
          | some (.inr (t, n)) => if t = 3 ∧ ¬ (Int32.ofInt i < 0 ∨ n ≤ (Int32.ofInt i).toNatClampNeg) then aGo (pc + 1) (lv.map bVal) (Value.long (aJ (bσ μ a (Int32.ofInt i).toNatClampNeg)) :: r.map bVal) (bσ μ) else none
          | _ => none) = _
        rw [hs]
        simp only
        rw [if_pos ⟨ht2, i32_ix hi.1 hi.2 (aS_len hs)⟩, (i32_nat hi.1 hi.2 (aS_len hs)).1, hv ht2]
        rfl
      · cases ht
    · cases h
  case aaload =>
    obtain ⟨iv, i, r0, rfl, hz, h⟩ := wI1_inv h
    split at h
    · rename_i a r _
      split at h
      · rename_i hb
        split at h
        · rename_i t n hs
          obtain ⟨hi, h⟩ := wIx_inv h
          refine wN hG hco hnx (lv' := lv) (st' := vw a i :: r) (μ' := μ) ?_ h
          obtain ⟨u, w, hs2⟩ : ∃ u w, aS[a + 1]? = some (.inr (u, w)) := by
            rcases bOut_cases hb with rfl | rfl | rfl | rfl
            · exact ⟨0, 240, rfl⟩
            · exact ⟨0, 160, rfl⟩
            · exact ⟨0, 12, rfl⟩
            · exact ⟨0, 67, rfl⟩
          obtain ⟨rfl, rfl, hw, hR⟩ := bRows hb hs hs2
          obtain ⟨e1, e2, e3, e4⟩ := hR i.toNat (by omega)
          simp only [aIns, List.map_cons, bZ_val hz]
          show (match aS[a]? with
            | some (.inr (t, n)) => if t = 4 ∧ ¬ (Int32.ofInt i < 0 ∨ n ≤ (Int32.ofInt i).toNatClampNeg) then (match bσ μ a (Int32.ofInt i).toNatClampNeg with
              | .ref b => aGo (pc + 1) (lv.map bVal) (Value.ref b :: r.map bVal) (bσ μ)
              | _ => none) else none
            | _ => none) = _
          rw [hs]
          simp only
          rw [if_pos ⟨trivial, i32_ix hi.1 hi.2 (aS_len hs)⟩, (i32_nat hi.1 hi.2 (aS_len hs)).1, bσ_arr hs (by omega)]
          show (match aI0 a i.toNat with
              | .ref b => aGo (pc + 1) (lv.map bVal) (Value.ref b :: r.map bVal) (bσ μ)
              | _ => none) = _
          rw [e4]
          rfl
        · cases h
      · cases h
    · cases h
  case iastore =>
    simp only [wI] at h
    split at h
    · rename_i xv iv v r
      split at h
      · rename_i x hx
        split at h
        · rename_i i hi
          obtain ⟨a, t, n, μ', ea, hk, hs, ht, hix, hu, -⟩ := wSt_inv (fun t ht => by intro e; subst e; cases ht) h
          have ht := Nat.eq_of_beq_eq_true ht
          subst ht
          refine wN hG hco hnx (lv' := lv) (st' := r) (μ' := μ') ?_ hk
          simp only [aIns, List.map_cons, bZ_val hx, bZ_val hi, ea, hs]
          rw [if_pos ⟨trivial, i32_ix hix.1 hix.2 (aS_len hs)⟩, (i32_nat hix.1 hix.2 (aS_len hs)).1, hu rfl]
          rfl
        · cases h
      · cases h
    · cases h
  case bastore =>
    simp only [wI] at h
    split at h
    · rename_i xv iv a r
      split at h
      · rename_i x hx
        split at h
        · rename_i i hi
          obtain ⟨a', t, n, μ', ea, hk, hs, ht, hix, hu, -⟩ := wSt_inv (fun t ht => by intro e; subst e; cases ht) h
          cases ea
          have ht2 : t = 1 ∨ t = 2 := by
            rw [Bool.or_eq_true] at ht
            exact ht.imp Nat.eq_of_beq_eq_true Nat.eq_of_beq_eq_true
          have hp : bIp t = true := by rcases ht2 with rfl | rfl <;> rfl
          refine wN hG hco hnx (lv' := lv) (st' := r) (μ' := μ') ?_ hk
          have hu := hu hp
          rw [bNar, Int32.ofInt_toInt] at hu
          simp only [aIns, List.map_cons, bZ_val hx, bZ_val hi]
          show (match aS[a]? with
            | some (.inr (t, n)) => if (t = 1 ∨ t = 2) ∧ ¬ (Int32.ofInt i < 0 ∨ n ≤ (Int32.ofInt i).toNatClampNeg) then aGo (pc + 1) (lv.map bVal) (r.map bVal) (aUp (bσ μ) a (Int32.ofInt i).toNatClampNeg (.int (vp_nar (if t = 1 then .byte else .boolean) (Int32.ofInt x)))) else none
            | _ => none) = _
          rw [hs]
          simp only
          rw [if_pos ⟨ht2, i32_ix hix.1 hix.2 (aS_len hs)⟩, (i32_nat hix.1 hix.2 (aS_len hs)).1, hu]
          rfl
        · cases h
      · cases h
    · cases h
  case lastore =>
    simp only [wI] at h
    split at h
    · rename_i xv iv a r
      split at h
      · rename_i x hx
        split at h
        · rename_i i hi
          obtain ⟨a', t, n, μ', ea, hk, hs, ht, hix, -, hu⟩ := wSt_inv (fun t ht => by intro e; subst e; cases ht) h
          cases ea
          have ht2 : t = 3 := Nat.eq_of_beq_eq_true ht
          refine wN hG hco hnx (lv' := lv) (st' := r) (μ' := μ') ?_ hk
          simp only [aIns, List.map_cons, bL_val hx, bZ_val hi]
          show (match aS[a]? with
            | some (.inr (t, n)) => if t = 3 ∧ ¬ (Int32.ofInt i < 0 ∨ n ≤ (Int32.ofInt i).toNatClampNeg) then aGo (pc + 1) (lv.map bVal) (r.map bVal) (aUp (bσ μ) a (Int32.ofInt i).toNatClampNeg (.long (Int64.ofInt x))) else none
            | _ => none) = _
          rw [hs]
          simp only
          rw [if_pos ⟨ht2, i32_ix hix.1 hix.2 (aS_len hs)⟩, (i32_nat hix.1 hix.2 (aS_len hs)).1, hu ht2]
          rfl
        · cases h
      · cases h
    · cases h
  case arraylength =>
    simp only [wI] at h
    split at h
    · rename_i v r
      obtain ⟨a, z, ea, hk, hl⟩ := wLn_inv h
      refine wN hG hco hnx (lv' := lv) (st' := .inl z :: r) (μ' := μ) ?_ hk
      simp only [aIns, List.map_cons, ea, hl]
      rfl
    · cases h
  case getfield i =>
    simp only [wI] at h
    split at h
    · rename_i a r
      split at h
      · rename_i ci k kd w hf
        split at h
        · rename_i cj hs
          split at h
          · rename_i hb
            obtain ⟨v, hv, hk⟩ := bFl_inv h
            refine wN hG hco hnx (lv' := lv) (st' := v :: r) (μ' := μ) ?_ hk
            simp only [aIns, List.map_cons, hf]
            show (match aS[a]? with
              | some (.inl cj) => (match Nat.beq ci cj with
                | true => aGo (pc + 3) (lv.map bVal) (bσ μ a k :: r.map bVal) (bσ μ)
                | false => none)
              | _ => none) = _
            rw [hs]
            simp only
            rw [hb, bσ_obj hs, hv]
            rfl
          · cases h
        · cases h
      · cases h
    · cases h
  case putfield i =>
    simp only [wI] at h
    split at h
    · rename_i v a r
      split at h
      · rename_i ci k kd w hf
        split at h
        · rename_i cj hs
          split at h
          · rename_i hb
            obtain ⟨μ', ho, hu, hk⟩ := bPf_inv hs h
            refine wN hG hco hnx (lv' := lv) (st' := r) (μ' := μ') ?_ hk
            simp only [aIns, List.map_cons, hf]
            show (match aS[a]? with
              | some (.inl cj) => (match Nat.beq ci cj && aOk kd (bVal v) with
                | true => aGo (pc + 3) (lv.map bVal) (r.map bVal) (aUp (bσ μ) a k (bVal v))
                | false => none)
              | _ => none) = _
            rw [hs]
            simp only
            rw [hb, ho, hu]
            rfl
          · cases h
        · cases h
      · cases h
    · cases h
  case invokestatic i =>
    simp only [wI] at h
    split at h
    · rename_i kd K n w hf
      split at h
      · rename_i hb
        refine wPr_sound (pc := pc) (lv := lv) hG (fun st' μ' k => hnx _ _ _ _ k) ?_ h
        rw [aStep_of hco]
        simp only [aIns, hf, hb]
      · rename_i hb
        split at h
        · rename_i as r htk
          split at h
          · rename_i hc
            refine hcl K as r ?_ h
            rw [aStep_of hco]
            have ht := bTk_val n [] st as r htk
            simp only [aIns, hf, hb]
            rw [show ([] : List Value) = ([] : List bV).map bVal from rfl, ht]
            simp only [bCat_val, hc]
          · cases h
        · cases h
    · cases h
  case invokevirtual i =>
    simp only [wI] at h
    split at h
    · rename_i kd K n w hf
      split at h
      · rename_i as a r htk
        split at h
        · rename_i ci hs
          split at h
          · rename_i hc
            refine hcl K (.inr (.inl a) :: as) r ?_ h
            rw [aStep_of hco]
            have ht := bTk_val n [] st as _ htk
            simp only [aIns, hf]
            rw [show ([] : List Value) = ([] : List bV).map bVal from rfl, ht]
            simp only [List.map_cons]
            show (match aS[a]? with
              | some (.inl ci) => (match Nat.beq kd (ci + 2) && Nat.ble (aCat (r.map bVal)) 8 with
                | true => some (Sum.inr (Sum.inr (K, Value.ref a :: as.map bVal, (pc + 3, lv.map bVal, r.map bVal, bσ μ))))
                | false => none)
              | _ => none) = _
            rw [hs]
            simp only [bCat_val, hc]
            rfl
          · cases h
        · cases h
      · cases h
    · cases h
  case ireturn =>
    simp only [wI] at h
    split at h
    · rename_i v
      split at h
      · rename_i x hz
        have hR : ∀ t, aRt M = some t → bRes M (some (.int (Int32.ofInt x))) x := fun t e => by unfold bRes; rw [e]
        split at h
        · rename_i ht
          refine hre (some (.int (Int32.ofInt x))) x ?_ (hR _ ht) (hrt v x hz h)
          rw [aStep_of hco]
          simp only [aIns, List.map_cons, List.map_nil, bZ_val hz, ht]
        · rename_i ht
          have hx : (x = 0 ∨ x = 1) ∧ rt v μ := by
            split at h
            · split at h
              · rename_i e
                exact ⟨of_decide_eq_true e, h⟩
              · cases h
            · exact h
          refine hre (some (.int (Int32.ofInt x))) x ?_ (hR _ ht) (hrt v x hz hx.2)
          rw [aStep_of hco]
          simp only [aIns, List.map_cons, List.map_nil, bZ_val hz, ht]
          rw [if_pos (by rcases hx.1 with rfl | rfl <;> first | exact Or.inl rfl | exact Or.inr rfl)]
        · cases h
      · cases h
    · cases h
  case return_ =>
    simp only [wI] at h
    split at h
    · split at h
      · rename_i ht
        refine hre none 0 ?_ (by unfold bRes; rw [ht]) (hrt (vc 0) 0 rfl h)
        rw [aStep_of hco]
        simp only [aIns, List.map_nil, ht]
      · cases h
    · cases h
  all_goals exact False.elim h
end WV
