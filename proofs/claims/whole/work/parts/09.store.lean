/-! SOUNDNESS of the steps that read and write cells -/
def va_E_i (c : ClassId) (n : Nat) (f : Nat → Int32) : va_E := .inl (c, n, .inl f)
def va_E_l (c : ClassId) (n : Nat) (f : Nat → Int64) : va_E := .inl (c, n, .inr (.inl f))
theorem aCat_sum (ad : Nat → Nat) (r : List Value) : (((r.map (aV ad)).map fun v => v.category).sum) = aCat r := by
  induction r with
  | nil => rfl
  | cons v r ih =>
    simp only [List.map_cons, List.sum_cons, aV_cat, aCat]
    rw [ih]
theorem aStr_no {a : Nat} (h : a < 2000) : aFd aStr a = none := by
  cases e : aFd aStr a with
  | none => rfl
  | some t =>
    have := aFd_mem e
    simp [aStr] at this
    omega
theorem aNfw : nativeFrameWords "java/lang/System" "arraycopy" 5 + 11 ≤ 40 := by decide
theorem aW_upF {ad : Nat → Nat} {cA : Nat → ClassId} {S : List aSh} {σ : aSt} {a : Nat} {g : Nat → Value} {sh : aSh} {e : va_E} (h : S[a]? = some sh) (he : aE ad (cA a) g sh = e) : (aW ad cA S σ).set a (ad a, e) = aW ad cA S (fun b j => if b = a then g j else σ b j) := by
  apply List.ext_getElem?
  intro i
  rw [List.getElem?_set]
  by_cases hi : a = i
  · subst hi
    have hl : a < (aW ad cA S σ).length := by
      rw [aW, List.length_mapIdx]
      exact (List.getElem?_eq_some_iff.mp h).1
    have e1 : (fun (j : Nat) => if a = a then g j else σ a j) = g := by
      funext j
      simp
    rw [if_pos rfl, if_pos hl, aW_at h, e1, he]
  · rw [if_neg hi]
    simp only [aW, List.getElem?_mapIdx]
    have e1 : (fun (j : Nat) => if i = a then g j else σ i j) = σ i := by
      funext j
      rw [if_neg (fun q => hi q.symm)]
    rw [e1]
section AS
variable {p : Program} {l : Launch} {e : Env} {R : Room} {s : State} {m : MethodId} {args : Array Value} {below : List Frame} {meth : Method} {c : Code} {H : Heap} {locs : List Loc} {cells slots : Nat} {Q : State → Prop}
variable {X : aXt} {S : List aSh} {P : List aM} {M : aM} {ad : Nat → Nat} {cA : Nat → ClassId} {D : va_G} {tys : List (ClassId × FieldType)} {pc : Nat} {lv st : List Value} {σ : aSt} {ls : Array Slot} {z : aC}
/-- an array of arrays: what is read -/
theorem aS_aald {cc : ByteArray} {A : Nat → Prop} {ws : va_W} {a : Nat} {rest : List Value} (hexec : p.tables.exec = Jvm.exec) (hb : c.code = cc) (hK : va_K D vwCl tys s) (hP : va_P D vwCl ws H) (q0 t0 : Nat) {cB : ClassId} {n : Nat} {f : Nat → Option Nat} (ha : ws[q0]? = some (a, .inl (cB, n, .inr (.inr (.inr (.inr f)))))) (ht : tys[t0]? = some (cB, .array .int)) {i : Int32} (hin : vp_in i n) (hdg : decode cc pc = .ok (.aaload, 1))
    (kk : W p l e R s m args below meth c H locs cells slots Q (F0 m (pc + 1) ls (va_rf (f i.toNatClampNeg) :: rest))) : W p l e R s m args below meth c H locs cells slots Q (F0 m pc ls (.int i :: .ref a :: rest)) := by
  have hlt : i.toNatClampNeg < n := Nat.not_le.mp fun q => hin (Or.inr q)
  exact W.aald (v := va_rf (f i.toNatClampNeg)) (ty := .array .int) hexec hb (hP q0 _ ha) ((hK.2 t0 _ ht).1 n (fun j => va_rf (f j))) rfl (fun q => by cases q) (by show ¬ (i < 0 ∨ (arrV _ _ _).slots.size ≤ _); rw [arrV_size]; exact hin) (by show (arrV _ _ _).slots[_]? = _; exact arrV_read _ _ hlt) rfl rfl hdg kk
set_option maxHeartbeats 4000000 in
theorem aS_go2 {ins : Instr} {len : Nat} (hF : aFx M p s m c args) (hcl : aClC P (aCs M) = true) (hC : aCx X S ad cA D tys s.heap.size s) (hrm : 1 ≤ R.frames ∧ 60 ≤ R.locals ∧ cells ≤ R.cells ∧ slots ≤ R.slots) (hd : decode (aBy M) pc = .ok (ins, len)) (hn : len = aLn ins len) (hW : aWo S ad cA D s σ H locs) (hl : aLs ad ls (aML M) lv)
    (hq : match ins with
      | .iaload => True
      | .baload => True
      | .laload => True
      | .aaload => True
      | .iastore => True
      | .bastore => True
      | .lastore => True
      | .arraylength => True
      | .getfield _ => True
      | .getstatic _ => True
      | .invokestatic _ => True
      | .putfield _ => True
      | _ => False)
    (h : aIns X S M pc ins lv st σ = some (.inl z)) (kk : aKK p l e R s m args below meth c cells slots Q S M ad cA D z) : W p l e R s m args below meth c H locs cells slots Q (F0 m pc ls (st.map (aV ad))) := by
  obtain ⟨hx, hb, hml, hown, hts⟩ := hF
  obtain ⟨-, hK, hT, hI, hE, hZ, hN, -⟩ := hC
  obtain ⟨hP, hS⟩ := hW
  have hD : va_D (aA ad S s.heap.size) (aW ad cA S σ) := aW_D hI
  cases ins with
  | iaload =>
    rw [hn] at hd
    simp only [aIns] at h
    split at h
    · rename_i i a r
      split at h
      · rename_i v hv
        have e1 := aGo_inv h
        subst e1
        unfold aIld at hv
        split at hv
        · rename_i n hs
          split at hv
          · rename_i hin
            cases hv
            obtain ⟨t0, ht⟩ := hT a 0 n hs
            exact va_iald hx hb hK hP a t0 (aW_at hs) ht hin hd (kk H locs ls ⟨hP, hS⟩ hl)
          · cases hv
        · cases hv
        · rename_i hs
          split at hv
          · rename_i n f hX
            split at hv
            · rename_i hin
              cases hv
              exact va_ti hx hb (hE a n f hs hX) hS hin rfl hd (kk H locs ls ⟨hP, hS⟩ hl)
            · cases hv
          · cases hv
      · cases h
    · cases h
  | arraylength =>
    rw [hn] at hd
    simp only [aIns] at h
    split at h
    · rename_i a r
      split at h
      · rename_i v hv
        have e1 := aGo_inv h
        subst e1
        unfold aLen at hv
        split at hv
        · rename_i t n hs
          cases hv
          obtain ⟨t0, ht⟩ := hT a t n hs
          exact va_alen hx hb hK hP a t0 (aW_at hs) ht rfl hd (kk H locs ls ⟨hP, hS⟩ hl)
        · cases hv
        · rename_i hs
          split at hv
          · rename_i n f hX
            cases hv
            exact va_tlen hx hb (hE a n f hs hX) hS rfl hd (kk H locs ls ⟨hP, hS⟩ hl)
          · cases hv
      · cases h
    · cases h
  | baload =>
    rw [hn] at hd
    simp only [aIns] at h
    split at h
    · rename_i i a r
      split at h
      · rename_i t n hs
        split at h
        · rename_i hin
          have e1 := aGo_inv h
          subst e1
          obtain ⟨ht1, hin⟩ := hin
          obtain ⟨t0, ht⟩ := hT a t n hs
          rcases ht1 with rfl | rfl
          · exact va_bald hx hb hK hP a t0 (aW_at hs) ht hin hd (kk H locs ls ⟨hP, hS⟩ hl)
          · exact va_zald hx hb hK hP a t0 (aW_at hs) ht hin hd (kk H locs ls ⟨hP, hS⟩ hl)
        · cases h
      · cases h
    · cases h
  | laload =>
    rw [hn] at hd
    simp only [aIns] at h
    split at h
    · rename_i i a r
      split at h
      · rename_i t n hs
        split at h
        · rename_i hin
          have e1 := aGo_inv h
          subst e1
          obtain ⟨rfl, hin⟩ := hin
          obtain ⟨t0, ht⟩ := hT a 3 n hs
          exact va_lald hx hb hK hP a t0 (aW_at hs) ht hin hd (kk H locs ls ⟨hP, hS⟩ hl)
        · cases h
      · cases h
    · cases h
  | aaload =>
    rw [hn] at hd
    simp only [aIns] at h
    split at h
    · rename_i i a r
      split at h
      · rename_i t n hs
        split at h
        · rename_i hin
          obtain ⟨rfl, hin⟩ := hin
          split at h
          · rename_i b hb2
            have e1 := aGo_inv h
            subst e1
            obtain ⟨t0, ht⟩ := hT a 4 n hs
            refine aS_aald (A := aA ad S s.heap.size) hx hb hK hP a t0 (aW_at hs) ht hin hd ?_
            have := kk H locs ls ⟨hP, hS⟩ hl
            simp only [aRf, hb2]
            exact this
          · cases h
        · cases h
      · cases h
    · cases h
  | iastore =>
    rw [hn] at hd
    simp only [aIns] at h
    split at h
    · rename_i x i a r
      split at h
      · rename_i t n hs
        split at h
        · rename_i hin
          have e1 := aGo_inv h
          subst e1
          obtain ⟨rfl, hin⟩ := hin
          obtain ⟨t0, ht⟩ := hT a 0 n hs
          refine va_iast hx hb hK hP hD hS a t0 (aW_at hs) ht hin hd (fun H1 locs1 hP1 hD1 hS1 => kk H1 locs1 ls ⟨?_, hS1⟩ hl)
          have e2 := aW_up (ad := ad) (cA := cA) (σ := σ) (k := i.toNatClampNeg) (v := .int x) (e := .inl (cA a, n, .inl (upd (fun j => aI (σ a j)) i.toNatClampNeg x))) hs (by
            show va_E_i (cA a) n _ = _
            unfold va_E_i
            congr 4
            funext j
            by_cases ej : j = i.toNatClampNeg
            · simp [upd, ej, aI]
            · simp [upd, ej])
          exact e2 ▸ hP1
        · cases h
      · cases h
    · cases h
  | bastore =>
    rw [hn] at hd
    simp only [aIns] at h
    split at h
    · rename_i x i a r
      split at h
      · rename_i t n hs
        split at h
        · rename_i hin
          have e1 := aGo_inv h
          subst e1
          obtain ⟨ht1, hin⟩ := hin
          obtain ⟨t0, ht⟩ := hT a t n hs
          rcases ht1 with rfl | rfl
          · refine va_bast hx hb hK hP hD hS a t0 (aW_at hs) ht hin hd (fun H1 locs1 hP1 hD1 hS1 => kk H1 locs1 ls ⟨?_, hS1⟩ hl)
            have e2 := aW_up (ad := ad) (cA := cA) (σ := σ) (k := i.toNatClampNeg) (v := .int (vp_nar .byte x)) (e := .inl (cA a, n, .inl (upd (fun j => aI (σ a j)) i.toNatClampNeg (vp_nar .byte x)))) hs (by
              show va_E_i (cA a) n _ = _
              unfold va_E_i
              congr 4
              funext j
              by_cases ej : j = i.toNatClampNeg
              · simp [upd, ej, aI]
              · simp [upd, ej])
            exact e2 ▸ hP1
          · refine va_zast hx hb hK hP hD hS a t0 (aW_at hs) ht hin hd (fun H1 locs1 hP1 hD1 hS1 => kk H1 locs1 ls ⟨?_, hS1⟩ hl)
            have e2 := aW_up (ad := ad) (cA := cA) (σ := σ) (k := i.toNatClampNeg) (v := .int (vp_nar .boolean x)) (e := .inl (cA a, n, .inl (upd (fun j => aI (σ a j)) i.toNatClampNeg (vp_nar .boolean x)))) hs (by
              show va_E_i (cA a) n _ = _
              unfold va_E_i
              congr 4
              funext j
              by_cases ej : j = i.toNatClampNeg
              · simp [upd, ej, aI]
              · simp [upd, ej])
            exact e2 ▸ hP1
        · cases h
      · cases h
    · cases h
  | lastore =>
    rw [hn] at hd
    simp only [aIns] at h
    split at h
    · rename_i x i a r
      split at h
      · rename_i t n hs
        split at h
        · rename_i hin
          have e1 := aGo_inv h
          subst e1
          obtain ⟨rfl, hin⟩ := hin
          obtain ⟨t0, ht⟩ := hT a 3 n hs
          refine va_last hx hb hK hP hD hS a t0 (aW_at hs) ht hin hd (fun H1 locs1 hP1 hD1 hS1 => kk H1 locs1 ls ⟨?_, hS1⟩ hl)
          have e2 := aW_up (ad := ad) (cA := cA) (σ := σ) (k := i.toNatClampNeg) (v := .long x) (e := .inl (cA a, n, .inr (.inl (vp_updL (fun j => aJ (σ a j)) i.toNatClampNeg x)))) hs (by
            show va_E_l (cA a) n _ = _
            unfold va_E_l
            congr 5
            funext j
            by_cases ej : j = i.toNatClampNeg
            · simp [vp_updL, ej, aJ]
            · simp [vp_updL, ej])
          exact e2 ▸ hP1
        · cases h
      · cases h
    · cases h
  | getstatic i =>
    rw [hn] at hd
    simp only [aIns] at h
    split at h
    · rename_i a w hv
      obtain ⟨hlt, h⟩ := aGd_inv h
      have e1 := aGo_inv h
      subst e1
      have hk : aKC (aOwn M) (i, .ref a, w) = true := by
        simp only [aClC, Bool.and_eq_true] at hcl
        exact List.all_eq_true.mp hcl.2.2 _ (aFd_mem hv)
      simp only [aKC] at hk
      rw [aStr_no (Nat.blt_eq.mp hlt)] at hk
      simp only at hk
      split at hk
      · rename_i C n d hst
        have hz := hZ _ (aFd_mem hst)
        rw [Bool.or_eq_true, decide_eq_true_eq] at hk
        rcases hk with hk | hk
        · exact va_gets hx hb hz hS hown (hts _ (aWd_mem hk)) (fun _ q => q) hd (kk H locs ls ⟨hP, hS⟩ hl)
        · exact va_getsN hx hb hz hS hown (va_tabs rfl rfl (hN _ hk)) (fun _ q => q) hd (kk H locs ls ⟨hP, hS⟩ hl)
      · cases hk
    · cases h
  | getfield i =>
    rw [hn] at hd
    simp only [aIns] at h
    split at h
    · rename_i a r
      split at h
      · rename_i ci k kd w hf
        split at h
        · rename_i cj hs
          split at h
          · rename_i hcj
            have hcj := Nat.eq_of_beq_eq_true hcj
            subst hcj
            have e1 := aGo_inv h
            subst e1
            obtain ⟨C, T, N, hc, hk, hlink, -⟩ := aFC_inv (aCl_fld hcl hf)
            exact va_get hx hb hts (aUws_in hc) hown hK hP a (aW_at hs) hc k hk (hts _ hlink) (fun _ q => q) (by rw [aNf_of hc]; exact aFs_get hk) hd (kk H locs ls ⟨hP, hS⟩ hl)
          · cases h
        · cases h
      · cases h
    · cases h
  | putfield i =>
    rw [hn] at hd
    simp only [aIns] at h
    split at h
    · rename_i v a r
      split at h
      · rename_i ci k kd w hf
        split at h
        · rename_i cj hs
          split at h
          · rename_i hcj
            rw [Bool.and_eq_true] at hcj
            obtain ⟨hcj, hok⟩ := hcj
            have hcj := Nat.eq_of_beq_eq_true hcj
            subst hcj
            have e1 := aGo_inv h
            subst e1
            obtain ⟨C, T, N, hc, hk, hlink, hkd⟩ := aFC_inv (aCl_fld hcl hf)
            obtain ⟨ty0, hty, hnm⟩ := aNmX hc
            obtain ⟨hfin, ty, hpd, hnar, hfit⟩ := aOk_narrow (ad := ad) hkd hok
            refine va_put hx hb hts (aUws_in hc) ty0 hty hnm hown hK hP hD hS a (aW_at hs) hc k hk (hts _ hlink) (fun _ q => q) hfin hpd hnar hfit (by rw [aNf_of hc, List.length_map, List.length_range]; exact hk) hd (fun H1 locs1 hP1 hD1 hS1 => kk H1 locs1 ls ⟨?_, hS1⟩ hl)
            have e2 := aW_up (ad := ad) (cA := cA) (σ := σ) (k := k) (v := v) (e := .inr (ci, ((List.range (aNf ci)).map (fun k => aV ad (σ a k))).set k (aV ad v))) hs (by
              rw [aE_obj, aFs_set])
            exact e2 ▸ hP1
          · cases h
        · cases h
      · cases h
    · cases h
  | invokestatic i =>
    rw [hn] at hd
    simp only [aIns] at h
    split at h
    · rename_i kd K n w hf
      split at h
      · rename_i hk
        have hk := Nat.eq_of_beq_eq_true hk
        subst hk
        have hcc : aPC (aOwn M) (i, 0, K, n, w) = true := by
          simp only [aClC, Bool.and_eq_true] at hcl
          exact List.all_eq_true.mp hcl.2.1 _ (aFd_mem hf)
        have hsz : c.maxLocals = ls.size := by rw [hml]; exact hl.1.symm
        unfold aPrim at h
        split at h
        · split at h
          · rename_i y x r
            obtain ⟨hr, h⟩ := aGd_inv h
            have e1 := aGo_inv h
            subst e1
            simp only [aPC, Bool.and_eq_true] at hcc
            exact va_mmax hx hb hsz hown (hts _ (aWd_mem hcc.1.1)) (hts _ (aWd_mem hcc.1.2)) (hts _ (aWd_mem hcc.2.2)) (hts _ (aWd_mem hcc.2.1)) hrm.1 (by rw [aCat_sum]; have := Nat.le_of_ble_eq_true hr; omega) hrm.2.2.1 hrm.2.2.2 hd (kk H locs ls ⟨hP, hS⟩ hl)
          · cases h
        · split at h
          · rename_i y x r
            obtain ⟨hr, h⟩ := aGd_inv h
            have e1 := aGo_inv h
            subst e1
            simp only [aPC, Bool.and_eq_true] at hcc
            exact va_mmin hx hb hsz hown (hts _ (aWd_mem hcc.1.1)) (hts _ (aWd_mem hcc.1.2)) (hts _ (aWd_mem hcc.2.2)) (hts _ (aWd_mem hcc.2.1)) hrm.1 (by rw [aCat_sum]; have := Nat.le_of_ble_eq_true hr; omega) hrm.2.2.1 hrm.2.2.2 hd (kk H locs ls ⟨hP, hS⟩ hl)
          · cases h
        · split at h
          · rename_i y x r
            obtain ⟨hr, h⟩ := aGd_inv h
            have e1 := aGo_inv h
            subst e1
            simp only [aPC, Bool.and_eq_true] at hcc
            exact va_mmax_long hx hb hsz hown (hts _ (aWd_mem hcc.1.1)) (hts _ (aWd_mem hcc.1.2)) (hts _ (aWd_mem hcc.2.2)) (hts _ (aWd_mem hcc.2.1)) hrm.1 (by rw [aCat_sum]; have := Nat.le_of_ble_eq_true hr; omega) hrm.2.2.1 hrm.2.2.2 hd (kk H locs ls ⟨hP, hS⟩ hl)
          · cases h
        · split at h
          · rename_i y x r
            obtain ⟨hr, h⟩ := aGd_inv h
            have e1 := aGo_inv h
            subst e1
            simp only [aPC, Bool.and_eq_true] at hcc
            exact va_mmin_long hx hb hsz hown (hts _ (aWd_mem hcc.1.1)) (hts _ (aWd_mem hcc.1.2)) (hts _ (aWd_mem hcc.2.2)) (hts _ (aWd_mem hcc.2.1)) hrm.1 (by rw [aCat_sum]; have := Nat.le_of_ble_eq_true hr; omega) hrm.2.2.1 hrm.2.2.2 hd (kk H locs ls ⟨hP, hS⟩ hl)
          · cases h
        · split at h
          · rename_i n dp a1 sp a0 r
            split at h
            · rename_i n0 n1 hs0 hs1
              split at h
              · rename_i hin
                obtain ⟨hr, h⟩ := aGd_inv h
                have e1 := aGo_inv h
                subst e1
                simp only [aPC, Bool.and_eq_true] at hcc
                obtain ⟨t0, ht0⟩ := hT a0 0 n0 hs0
                obtain ⟨t1, ht1⟩ := hT a1 0 n1 hs1
                refine va_copyi hx hb hsz hown (hts _ (aWd_mem hcc.1.1)) (hts _ (aWd_mem hcc.2.1)) (hts _ (aWd_mem hcc.1.2)) (hts _ (aWd_mem hcc.2.2)) hK hP hD hS a0 a1 t0 t1 (aW_at hs0) (aW_at hs1) ht0 ht1 rfl hin.1.1 hin.1.2.1 hin.1.2.2 hin.2.1 hin.2.2 (fun _ _ => rfl) hrm.1 (by rw [aCat_sum]; have := aNfw; have := Nat.le_of_ble_eq_true hr; omega) hd (fun H1 locs1 hP1 hD1 hS1 => kk H1 locs1 ls ⟨?_, hS1⟩ hl)
                have e2 := aW_upF (ad := ad) (cA := cA) (σ := σ) (a := a1) (g := fun j => if dp.toNatClampNeg ≤ j ∧ j < dp.toNatClampNeg + n.toNatClampNeg then σ a0 (sp.toNatClampNeg + (j - dp.toNatClampNeg)) else σ a1 j) (e := .inl (cA a1, n1, .inl (va_cpy (fun j => aI (σ a0 j)) (fun j => aI (σ a1 j)) sp.toNatClampNeg dp.toNatClampNeg n.toNatClampNeg))) hs1 (by
                  show va_E_i (cA a1) n1 _ = _
                  unfold va_E_i
                  congr 4
                  funext j
                  by_cases ej : dp.toNatClampNeg ≤ j ∧ j < dp.toNatClampNeg + n.toNatClampNeg
                  · simp [va_cpy, ej]
                  · simp only [va_cpy, if_neg ej])
                have e3 : (fun b j => if b = a1 then (if dp.toNatClampNeg ≤ j ∧ j < dp.toNatClampNeg + n.toNatClampNeg then σ a0 (sp.toNatClampNeg + (j - dp.toNatClampNeg)) else σ b j) else σ b j) = (fun b j => if b = a1 then (if dp.toNatClampNeg ≤ j ∧ j < dp.toNatClampNeg + n.toNatClampNeg then σ a0 (sp.toNatClampNeg + (j - dp.toNatClampNeg)) else σ a1 j) else σ b j) := by
                  funext b j
                  by_cases eb : b = a1
                  · simp [eb]
                  · simp [eb]
                show va_P D vwCl (aW ad cA S (fun b j => if b = a1 then (if dp.toNatClampNeg ≤ j ∧ j < dp.toNatClampNeg + n.toNatClampNeg then σ a0 (sp.toNatClampNeg + (j - dp.toNatClampNeg)) else σ b j) else σ b j)) H1
                rw [e3]
                exact e2 ▸ hP1
              · cases h
            · cases h
          · cases h
        · cases h
      · split at h
        · split at h
          · cases h
          · cases h
        · cases h
    · cases h
  | _ => exact hq.elim
end AS
