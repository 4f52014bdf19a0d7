/-! SOUNDNESS: a step of the abstract machine is a step of the JVM -/
theorem aNul_i {x : Int32} : Value.int x ≠ .null := by intro h; cases h
theorem aNul_l {x : Int64} : Value.long x ≠ .null := by intro h; cases h
theorem aNul_r {x : Nat} : Value.ref x ≠ .null := by intro h; cases h
theorem aCo_dec0 {M : aM} {pc : Nat} {q : Instr × Nat} (hM : aCoC M = true) (h : aFd (aCo M) pc = some q) : aQ (aBy M) (pc, q) = true := List.all_eq_true.mp hM _ (aFd_mem h)
theorem aCo_dec {M : aM} {pc : Nat} {q : Instr × Nat} (hM : aCoC M = true) (h : aFd (aCo M) pc = some q) : decode (aBy M) pc = .ok (q.1, q.2) ∧ q.2 = aLn q.1 q.2 := by
  have h1 := aCo_dec0 hM h
  simp only [aQ, Bool.and_eq_true, decide_eq_true_eq] at h1
  exact h1
theorem aGd_inv {b : Bool} {o : Option aR} {r : aR} (h : aGd b o = some r) : b = true ∧ o = some r := by
  cases b
  · cases h
  · exact ⟨rfl, h⟩
section AS
variable {p : Program} {l : Launch} {e : Env} {R : Room} {s : State} {m : MethodId} {args : Array Value} {below : List Frame} {meth : Method} {c : Code} {H : Heap} {locs : List Loc} {cells slots : Nat} {Q : State → Prop}
variable {X : aXt} {S : List aSh} {P : List aM} {M : aM} {ad : Nat → Nat} {cA : Nat → ClassId} {D : va_G} {tys : List (ClassId × FieldType)} {pc : Nat} {lv st : List Value} {σ : aSt} {ls : Array Slot} {z : aC}
theorem aS_ldcwS {cc : ByteArray} {rest : List Value} (hexec : p.tables.exec = Jvm.exec) (hb : c.code = cc) {own tx : String} {index q : Nat} (hown : s.vm.findClass own = some m.cls) (hZ : vk_R own index tx q s) (hdg : decode cc pc = .ok (.ldc_w index, 3))
    (k : W p l e R s m args below meth c H locs cells slots Q (F0 m (pc + 3) ls (.ref q :: rest))) : W p l e R s m args below meth c H locs cells slots Q (F0 m pc ls rest) := by
  intro T hT X
  obtain ⟨t, a1, b1⟩ := k T hT X
  exact ⟨t, X.ldcStringW hexec hown (text := tx) (a := q) hZ.1 hZ.2 (g := F0 m pc ls rest) rfl (by rw [hb]; exact hdg) t a1, b1⟩
/-- what goes on behind a step -/
def aKK (p : Program) (l : Launch) (e : Env) (R : Room) (s : State) (m : MethodId) (args : Array Value) (below : List Frame) (meth : Method) (c : Code) (cells slots : Nat) (Q : State → Prop) (S : List aSh) (M : aM) (ad : Nat → Nat) (cA : Nat → ClassId) (D : va_G) (z : aC) : Prop :=
  ∀ (H1 : Heap) (locs1 : List Loc) (ls1 : Array Slot), aWo S ad cA D s z.2.2.2 H1 locs1 → aLs ad ls1 (aML M) z.2.1 → W p l e R s m args below meth c H1 locs1 cells slots Q (F0 m z.1 ls1 (z.2.2.1.map (aV ad)))
theorem aS_ldI {k : Nat} (hl : aLs ad ls (aML M) lv) {x : Int32} (h : lv[k]? = some (.int x)) : ls[k]? = some (.val (.int x)) := hl.2.2.2 k _ h aNul_i
theorem aS_ldL {k : Nat} (hl : aLs ad ls (aML M) lv) {x : Int64} (h : lv[k]? = some (.long x)) : ls[k]? = some (.val (.long x)) := hl.2.2.2 k _ h aNul_l
theorem aS_ldR {k : Nat} (hl : aLs ad ls (aML M) lv) {x : Nat} (h : lv[k]? = some (.ref x)) : ls[k]? = some (.val (.ref (ad x))) := hl.2.2.2 k _ h aNul_r
set_option maxHeartbeats 4000000 in
/-- arithmetic, constants, locals, branches -/
theorem aS_go1 {ins : Instr} {len : Nat} (hF : aFx M p s m c args) (hcl : aClC P (aCs M) = true) (hso : aStrOK (aCs M) = true) (hR : aStrS ad s) (hd : decode (aBy M) pc = .ok (ins, len)) (hn : len = aLn ins len) (hW : aWo S ad cA D s σ H locs) (hl : aLs ad ls (aML M) lv)
    (hq : match ins with
      | .iaload => False
      | .baload => False
      | .laload => False
      | .aaload => False
      | .iastore => False
      | .bastore => False
      | .lastore => False
      | .arraylength => False
      | .getfield _ => False
      | .getstatic _ => False
      | .invokestatic _ => False
      | .putfield _ => False
      | _ => True)
    (h : aIns X S M pc ins lv st σ = some (.inl z)) (kk : aKK p l e R s m args below meth c cells slots Q S M ad cA D z) : W p l e R s m args below meth c H locs cells slots Q (F0 m pc ls (st.map (aV ad))) := by
  obtain ⟨hx, hb, hml, hown, hts⟩ := hF
  have hcon : ∀ (i : Nat) (r : Value × Nat), aFd (aCs M).2.2.2 i = some r → aKC (aOwn M) (i, r) = true := fun i r hr => by
    simp only [aClC, Bool.and_eq_true] at hcl
    exact List.all_eq_true.mp hcl.2.2 _ (aFd_mem hr)
  cases ins with
  | iconst n =>
    have e1 := aGo_inv h
    subst e1; rw [hn] at hd
    exact lv_iconst hx hb hd rfl (kk H locs ls hW hl)
  | bipush n =>
    have e1 := aGo_inv h
    subst e1; rw [hn] at hd
    exact lv_bipush hx hb hd rfl (kk H locs ls hW hl)
  | sipush n =>
    have e1 := aGo_inv h
    subst e1; rw [hn] at hd
    exact lv_sipush hx hb hd rfl (kk H locs ls hW hl)
  | lconst n =>
    have e1 := aGo_inv h
    subst e1; rw [hn] at hd
    exact lv_lconst hx hb hd rfl (kk H locs ls hW hl)
  | ldc i =>
    simp only [aIns] at h
    split at h
    · rename_i v w hv
      have e1 := aGo_inv h
      subst e1; rw [hn] at hd
      exact lv_ldc hx hb hown (hts _ (aWd_mem (hcon _ _ hv))) hd (kk H locs ls hW hl)
    · rename_i v w hv
      obtain ⟨hg, h⟩ := aGd_inv h
      have e1 := aGo_inv h
      subst e1; rw [hn] at hd
      obtain ⟨tx, hZ⟩ := aStr_in hso hv hg hR
      exact va_ldcS hx hb hown hZ hd (kk H locs ls hW hl)
    · cases h
  | ldc_w i =>
    simp only [aIns] at h
    split at h
    · rename_i v w hv
      have e1 := aGo_inv h
      subst e1; rw [hn] at hd
      exact lv_ldcw hx hb hown (hts _ (aWd_mem (hcon _ _ hv))) hd (kk H locs ls hW hl)
    · rename_i v w hv
      obtain ⟨hg, h⟩ := aGd_inv h
      have e1 := aGo_inv h
      subst e1; rw [hn] at hd
      obtain ⟨tx, hZ⟩ := aStr_in hso hv hg hR
      exact aS_ldcwS hx hb hown hZ hd (kk H locs ls hW hl)
    · cases h
  | ldc2_w i =>
    simp only [aIns] at h
    split at h
    · rename_i v w hv
      have e1 := aGo_inv h
      subst e1; rw [hn] at hd
      exact lv_ldc2 hx hb hown (hts _ (aWd_mem (hcon _ _ hv))) hd (kk H locs ls hW hl)
    · cases h
  | iload_n k =>
    obtain ⟨x, h1, rfl⟩ := aLdI_inv h
    rw [hn] at hd
    exact lv_iload_n hx hb hd rfl (aS_ldI hl h1) (kk H locs ls hW hl)
  | iload k =>
    obtain ⟨x, h1, rfl⟩ := aLdI_inv h
    rw [hn] at hd
    exact lv_iload hx hb hd (aS_ldI hl h1) (kk H locs ls hW hl)
  | lload_n k =>
    obtain ⟨x, h1, rfl⟩ := aLdL_inv h
    rw [hn] at hd
    exact lv_lload_n hx hb hd rfl (aS_ldL hl h1) (kk H locs ls hW hl)
  | lload k =>
    obtain ⟨x, h1, rfl⟩ := aLdL_inv h
    rw [hn] at hd
    exact lv_lload hx hb hd (aS_ldL hl h1) (kk H locs ls hW hl)
  | aload_n k =>
    obtain ⟨x, h1, rfl⟩ := aLdR_inv h
    rw [hn] at hd
    exact lv_aload_n hx hb hd rfl (aS_ldR hl h1) (kk H locs ls hW hl)
  | aload k =>
    obtain ⟨x, h1, rfl⟩ := aLdR_inv h
    rw [hn] at hd
    exact lv_aload hx hb hd (aS_ldR hl h1) (kk H locs ls hW hl)
  | istore_n k =>
    obtain ⟨x, r, rfl, h1, h2, rfl⟩ := aStI_inv h
    rw [hn] at hd
    exact lv_istore_n hx hb hd rfl (aLs_has hl) (hl.2.2.1 ▸ h1) rfl (fun ls1 hl1 => kk H locs ls1 hW (aLs_set1 (v := .int x) hl.2.2.1 h2 hl1))
  | istore k =>
    obtain ⟨x, r, rfl, h1, h2, rfl⟩ := aStI_inv h
    rw [hn] at hd
    exact lv_istore hx hb hd (aLs_has hl) (hl.2.2.1 ▸ h1) rfl (fun ls1 hl1 => kk H locs ls1 hW (aLs_set1 (v := .int x) hl.2.2.1 h2 hl1))
  | lstore_n k =>
    obtain ⟨x, r, rfl, h1, h2, rfl⟩ := aStL_inv h
    rw [hn] at hd
    exact lv_lstore_n hx hb hd rfl (aLs_has hl) (hl.2.2.1 ▸ h1) rfl (fun ls1 hl1 => kk H locs ls1 hW (aLs_set2 (v := .long x) hl.2.2.1 h2 hl1))
  | lstore k =>
    obtain ⟨x, r, rfl, h1, h2, rfl⟩ := aStL_inv h
    rw [hn] at hd
    exact lv_lstore hx hb hd (aLs_has hl) (hl.2.2.1 ▸ h1) rfl (fun ls1 hl1 => kk H locs ls1 hW (aLs_set2 (v := .long x) hl.2.2.1 h2 hl1))
  | astore_n k =>
    obtain ⟨x, r, rfl, h1, h2, rfl⟩ := aStR_inv h
    rw [hn] at hd
    exact lv_astore_n hx hb hd rfl (aLs_has hl) (hl.2.2.1 ▸ h1) rfl (fun ls1 hl1 => kk H locs ls1 hW (aLs_set1 (v := .ref x) hl.2.2.1 h2 hl1))
  | astore k =>
    obtain ⟨x, r, rfl, h1, h2, rfl⟩ := aStR_inv h
    rw [hn] at hd
    exact lv_astore hx hb hd (aLs_has hl) (hl.2.2.1 ▸ h1) rfl (fun ls1 hl1 => kk H locs ls1 hW (aLs_set1 (v := .ref x) hl.2.2.1 h2 hl1))
  | iinc i n =>
    simp only [aIns] at h
    split at h
    · rename_i x hi
      obtain ⟨h1, h2, rfl⟩ := aPut1_inv h
      rw [hn] at hd
      obtain ⟨k, hk⟩ := List.getElem?_of_mem (aLl_mem.mpr ⟨_, hi, aNul_i, rfl⟩ : (i, aV ad (.int x)) ∈ aLl ad lv)
      exact lv_iinc hx hb hd (aLs_has hl) (k := k) (x := x) hk rfl (hl.2.2.1 ▸ h1) rfl (fun ls1 hl1 => kk H locs ls1 hW (aLs_set1 (v := .int (x + Int32.ofInt n)) hl.2.2.1 h2 hl1))
    · cases h
  | iadd =>
    obtain ⟨x, y, r, rfl, rfl⟩ := aII_inv h
    rw [hn] at hd
    exact lv_iadd hx hb hd (kk H locs ls hW hl)
  | isub =>
    obtain ⟨x, y, r, rfl, rfl⟩ := aII_inv h
    rw [hn] at hd
    exact lv_isub hx hb hd (kk H locs ls hW hl)
  | imul =>
    obtain ⟨x, y, r, rfl, rfl⟩ := aII_inv h
    rw [hn] at hd
    exact lv_imul hx hb hd (kk H locs ls hW hl)
  | iand =>
    obtain ⟨x, y, r, rfl, rfl⟩ := aII_inv h
    rw [hn] at hd
    exact lv_iand hx hb hd (kk H locs ls hW hl)
  | ior =>
    obtain ⟨x, y, r, rfl, rfl⟩ := aII_inv h
    rw [hn] at hd
    exact lv_ior hx hb hd (kk H locs ls hW hl)
  | ixor =>
    obtain ⟨x, y, r, rfl, rfl⟩ := aII_inv h
    rw [hn] at hd
    exact lv_ixor hx hb hd (kk H locs ls hW hl)
  | ishl =>
    obtain ⟨x, y, r, rfl, rfl⟩ := aII_inv h
    rw [hn] at hd
    exact lv_ishl hx hb hd (kk H locs ls hW hl)
  | ishr =>
    obtain ⟨x, y, r, rfl, rfl⟩ := aII_inv h
    rw [hn] at hd
    exact lv_ishr hx hb hd (kk H locs ls hW hl)
  | iushr =>
    obtain ⟨x, y, r, rfl, rfl⟩ := aII_inv h
    rw [hn] at hd
    exact lv_iushr hx hb hd rfl (kk H locs ls hW hl)
  | idiv =>
    obtain ⟨x, y, r, rfl, h0, rfl⟩ := aIID_inv h
    rw [hn] at hd
    exact lv_idiv hx hb hd h0 (kk H locs ls hW hl)
  | irem =>
    obtain ⟨x, y, r, rfl, h0, rfl⟩ := aIID_inv h
    rw [hn] at hd
    exact lv_irem hx hb hd h0 (kk H locs ls hW hl)
  | ladd =>
    obtain ⟨x, y, r, rfl, rfl⟩ := aLL_inv h
    rw [hn] at hd
    exact lv_ladd hx hb hd (kk H locs ls hW hl)
  | lsub =>
    obtain ⟨x, y, r, rfl, rfl⟩ := aLL_inv h
    rw [hn] at hd
    exact lv_lsub hx hb hd (kk H locs ls hW hl)
  | lmul =>
    obtain ⟨x, y, r, rfl, rfl⟩ := aLL_inv h
    rw [hn] at hd
    exact lv_lmul hx hb hd (kk H locs ls hW hl)
  | land =>
    obtain ⟨x, y, r, rfl, rfl⟩ := aLL_inv h
    rw [hn] at hd
    exact lv_land hx hb hd (kk H locs ls hW hl)
  | lor =>
    obtain ⟨x, y, r, rfl, rfl⟩ := aLL_inv h
    rw [hn] at hd
    exact lv_lor hx hb hd (kk H locs ls hW hl)
  | ldiv =>
    obtain ⟨x, y, r, rfl, h0, rfl⟩ := aLLD_inv h
    rw [hn] at hd
    exact lv_ldiv hx hb hd h0 (kk H locs ls hW hl)
  | lrem =>
    obtain ⟨x, y, r, rfl, h0, rfl⟩ := aLLD_inv h
    rw [hn] at hd
    exact lv_lrem hx hb hd h0 (kk H locs ls hW hl)
  | lshl =>
    obtain ⟨x, y, r, rfl, rfl⟩ := aLI_inv h
    rw [hn] at hd
    exact lv_lshl hx hb hd rfl (kk H locs ls hW hl)
  | lushr =>
    obtain ⟨x, y, r, rfl, rfl⟩ := aLI_inv h
    rw [hn] at hd
    exact lv_lushr hx hb hd rfl (kk H locs ls hW hl)
  | lcmp =>
    obtain ⟨x, y, r, rfl, rfl⟩ := aLL_inv h
    rw [hn] at hd
    exact W.lcmp hx hb hd (kk H locs ls hW hl)
  | i2l =>
    obtain ⟨x, r, rfl, rfl⟩ := aI1_inv h
    rw [hn] at hd
    exact lv_i2l hx hb hd rfl (kk H locs ls hW hl)
  | i2b =>
    obtain ⟨x, r, rfl, rfl⟩ := aI1_inv h
    rw [hn] at hd
    exact lv_i2b hx hb hd rfl (kk H locs ls hW hl)
  | l2i =>
    obtain ⟨x, r, rfl, rfl⟩ := aL1_inv h
    rw [hn] at hd
    exact lv_l2i hx hb hd rfl (kk H locs ls hW hl)
  | pop =>
    simp only [aIns] at h
    split at h
    · rename_i v r
      split at h
      · rename_i hv
        have e1 := aGo_inv h
        subst e1; rw [hn] at hd
        exact lv_pop (va := aV ad v) hx hb hd (by rw [aV_cat]; simpa using hv) (kk H locs ls hW hl)
      · cases h
    · cases h
  | dup =>
    simp only [aIns] at h
    split at h
    · rename_i v r
      split at h
      · rename_i hv
        have e1 := aGo_inv h
        subst e1; rw [hn] at hd
        exact lv_dup (va := aV ad v) hx hb hd (by rw [aV_cat]; simpa using hv) (kk H locs ls hW hl)
      · cases h
    · cases h
  | dup2 =>
    simp only [aIns] at h
    split at h
    · rename_i v u r
      split at h
      · rename_i hv
        have e1 := aGo_inv h
        subst e1; rw [hn] at hd
        rw [Bool.and_eq_true] at hv
        exact lv_dup2_11 (va := aV ad v) (vb := aV ad u) hx hb hd (by rw [aV_cat]; simpa using hv.1) (by rw [aV_cat]; simpa using hv.2) (kk H locs ls hW hl)
      · cases h
    · cases h
  | ifCond cd off =>
    rw [hn] at hd
    cases cd with
    | eq =>
      obtain ⟨x, r, t, rfl, ht, hz⟩ := aIf_inv h
      exact lv_if_eq hx hb hd ht (fun q => by rcases hz with ⟨_, rfl⟩ | ⟨q2, _⟩; exact kk H locs ls hW hl; exact absurd q q2) (fun q => by rcases hz with ⟨q2, _⟩ | ⟨_, rfl⟩; exact absurd q2 q; exact kk H locs ls hW hl)
    | ne =>
      obtain ⟨x, r, t, rfl, ht, hz⟩ := aIf_inv h
      exact lv_if_ne hx hb hd ht (fun q => by rcases hz with ⟨_, rfl⟩ | ⟨q2, _⟩; exact kk H locs ls hW hl; exact absurd q q2) (fun q => by rcases hz with ⟨q2, _⟩ | ⟨_, rfl⟩; exact absurd q q2; exact kk H locs ls hW hl)
    | lt =>
      obtain ⟨x, r, t, rfl, ht, hz⟩ := aIf_inv h
      exact lv_if_lt hx hb hd ht (fun q => by rcases hz with ⟨_, rfl⟩ | ⟨q2, _⟩; exact kk H locs ls hW hl; exact absurd q q2) (fun q => by rcases hz with ⟨q2, _⟩ | ⟨_, rfl⟩; exact absurd q2 q; exact kk H locs ls hW hl)
    | ge =>
      obtain ⟨x, r, t, rfl, ht, hz⟩ := aIf_inv h
      exact lv_if_ge hx hb hd ht (fun q => by rcases hz with ⟨_, rfl⟩ | ⟨q2, _⟩; exact kk H locs ls hW hl; exact absurd q q2) (fun q => by rcases hz with ⟨q2, _⟩ | ⟨_, rfl⟩; exact absurd q2 q; exact kk H locs ls hW hl)
    | gt =>
      obtain ⟨x, r, t, rfl, ht, hz⟩ := aIf_inv h
      exact lv_if_gt hx hb hd ht (fun q => by rcases hz with ⟨_, rfl⟩ | ⟨q2, _⟩; exact kk H locs ls hW hl; exact absurd q q2) (fun q => by rcases hz with ⟨q2, _⟩ | ⟨_, rfl⟩; exact absurd q2 q; exact kk H locs ls hW hl)
    | le =>
      obtain ⟨x, r, t, rfl, ht, hz⟩ := aIf_inv h
      exact lv_if_le hx hb hd ht (fun q => by rcases hz with ⟨_, rfl⟩ | ⟨q2, _⟩; exact kk H locs ls hW hl; exact absurd q q2) (fun q => by rcases hz with ⟨q2, _⟩ | ⟨_, rfl⟩; exact absurd q2 q; exact kk H locs ls hW hl)
  | if_icmp cd off =>
    rw [hn] at hd
    cases cd with
    | eq =>
      obtain ⟨x, y, r, t, rfl, ht, hz⟩ := aIc_inv h
      exact lv_icmp_eq hx hb hd ht (fun q => by rcases hz with ⟨_, rfl⟩ | ⟨q2, _⟩; exact kk H locs ls hW hl; exact absurd q q2) (fun q => by rcases hz with ⟨q2, _⟩ | ⟨_, rfl⟩; exact absurd q2 q; exact kk H locs ls hW hl)
    | ne =>
      obtain ⟨x, y, r, t, rfl, ht, hz⟩ := aIc_inv h
      exact lv_icmp_ne hx hb hd ht (fun q => by rcases hz with ⟨_, rfl⟩ | ⟨q2, _⟩; exact kk H locs ls hW hl; exact absurd q q2) (fun q => by rcases hz with ⟨q2, _⟩ | ⟨_, rfl⟩; exact absurd q q2; exact kk H locs ls hW hl)
    | lt =>
      obtain ⟨x, y, r, t, rfl, ht, hz⟩ := aIc_inv h
      exact lv_icmp_lt hx hb hd ht (fun q => by rcases hz with ⟨_, rfl⟩ | ⟨q2, _⟩; exact kk H locs ls hW hl; exact absurd q q2) (fun q => by rcases hz with ⟨q2, _⟩ | ⟨_, rfl⟩; exact absurd q2 q; exact kk H locs ls hW hl)
    | ge =>
      obtain ⟨x, y, r, t, rfl, ht, hz⟩ := aIc_inv h
      exact lv_icmp_ge hx hb hd ht (fun q => by rcases hz with ⟨_, rfl⟩ | ⟨q2, _⟩; exact kk H locs ls hW hl; exact absurd q q2) (fun q => by rcases hz with ⟨q2, _⟩ | ⟨_, rfl⟩; exact absurd q2 q; exact kk H locs ls hW hl)
    | gt =>
      obtain ⟨x, y, r, t, rfl, ht, hz⟩ := aIc_inv h
      exact lv_icmp_gt hx hb hd ht (fun q => by rcases hz with ⟨_, rfl⟩ | ⟨q2, _⟩; exact kk H locs ls hW hl; exact absurd q q2) (fun q => by rcases hz with ⟨q2, _⟩ | ⟨_, rfl⟩; exact absurd q2 q; exact kk H locs ls hW hl)
    | le =>
      obtain ⟨x, y, r, t, rfl, ht, hz⟩ := aIc_inv h
      exact lv_icmp_le hx hb hd ht (fun q => by rcases hz with ⟨_, rfl⟩ | ⟨q2, _⟩; exact kk H locs ls hW hl; exact absurd q q2) (fun q => by rcases hz with ⟨q2, _⟩ | ⟨_, rfl⟩; exact absurd q2 q; exact kk H locs ls hW hl)
  | goto off =>
    obtain ⟨t, ht, rfl⟩ := aJp_inv h
    rw [hn] at hd
    exact lv_goto hx hb hd ht (kk H locs ls hW hl)
  | tableswitch dflt lo hi offs =>
    simp only [aIns] at h
    split at h
    · rename_i x r
      split at h
      · rename_i ho
        obtain ⟨t, ht, rfl⟩ := aJp_inv h
        exact lv_tableOut hx hb hd ho ht (kk H locs ls hW hl)
      · rename_i ho
        split at h
        · rename_i off hoff
          obtain ⟨t, ht, rfl⟩ := aJp_inv h
          exact lv_tableIn hx hb hd (fun q => ho (Or.inl q)) (fun q => ho (Or.inr q)) hoff ht (kk H locs ls hW hl)
        · cases h
    · cases h
  | lookupswitch dflt ps =>
    simp only [aIns] at h
    split at h
    · rename_i x r
      split at h
      · rename_i ho
        obtain ⟨t, ht, rfl⟩ := aJp_inv h
        exact lv_lookup hx hb hd ho rfl ht (kk H locs ls hW hl)
      · cases h
    · cases h
  | iaload => exact hq.elim
  | baload => exact hq.elim
  | laload => exact hq.elim
  | aaload => exact hq.elim
  | iastore => exact hq.elim
  | bastore => exact hq.elim
  | lastore => exact hq.elim
  | arraylength => exact hq.elim
  | getfield _ => exact hq.elim
  | getstatic _ => exact hq.elim
  | putfield _ => exact hq.elim
  | invokestatic _ => exact hq.elim
  | invokevirtual i =>
    simp only [aIns] at h
    repeat (split at h <;> try cases h)
  | ireturn =>
    simp only [aIns] at h
    repeat (split at h <;> try cases h)
  | lreturn =>
    simp only [aIns] at h
    repeat (split at h <;> try cases h)
  | return_ =>
    simp only [aIns] at h
    repeat (split at h <;> try cases h)
  | _ => simp [aIns] at h
end AS
