/-! SOUNDNESS of the steps that read and write cells -/
def va_E_i (c : ClassId) (n : Nat) (f : Nat → Int32) : va_E := .inl (c, n, .inl f)
def va_E_l (c : ClassId) (n : Nat) (f : Nat → Int64) : va_E := .inl (c, n, .inr (.inl f))
section AS
variable {p : Program} {l : Launch} {e : Env} {R : Room} {s : State} {m : MethodId} {args : Array Value} {below : List Frame} {meth : Method} {c : Code} {H : Heap} {locs : List Loc} {cells slots : Nat} {Q : State → Prop}
variable {X : aXt} {S : List aSh} {P : List aM} {M : aM} {ad : Nat → Nat} {cA : Nat → ClassId} {D : va_G} {tys : List (ClassId × FieldType)} {pc : Nat} {lv st : List Value} {σ : aSt} {ls : Array Slot} {z : aC}
/-- an array of arrays: what is read -/
theorem aS_aald {cc : ByteArray} {A : Nat → Prop} {ws : va_W} {a : Nat} {rest : List Value} (hexec : p.tables.exec = Jvm.exec) (hb : c.code = cc) (hK : va_K D vwCl tys s) (hP : va_P D vwCl ws H) (q0 t0 : Nat) {cB : ClassId} {n : Nat} {f : Nat → Option Nat} (ha : ws[q0]? = some (a, .inl (cB, n, .inr (.inr (.inr (.inr f)))))) (ht : tys[t0]? = some (cB, .array .int)) {i : Int32} (hin : vp_in i n) (hdg : decode cc pc = .ok (.aaload, 1))
    (kk : W p l e R s m args below meth c H locs cells slots Q (F0 m (pc + 1) ls (va_rf (f i.toNatClampNeg) :: rest))) : W p l e R s m args below meth c H locs cells slots Q (F0 m pc ls (.int i :: .ref a :: rest)) := by
  have hlt : i.toNatClampNeg < n := Nat.not_le.mp fun q => hin (Or.inr q)
  exact W.aald (v := va_rf (f i.toNatClampNeg)) (ty := .array .int) hexec hb (hP q0 _ ha) ((hK.2 t0 _ ht).1 n (fun j => va_rf (f j))) rfl (fun q => by cases q) (by show ¬ (i < 0 ∨ (arrV _ _ _).slots.size ≤ _); rw [arrV_size]; exact hin) (by show (arrV _ _ _).slots[_]? = _; exact arrV_read _ _ hlt) rfl rfl hdg kk
set_option maxHeartbeats 4000000 in
theorem aS_go2 {ins : Instr} {len : Nat} (hF : aFx M p s m c args) (hcl : aClC P (aCs M) = true) (hC : aCx X S ad cA D tys s.heap.size s) (hd : decode (aBy M) pc = .ok (ins, len)) (hn : len = aLn ins len) (hW : aWo S ad cA D s σ H locs) (hl : aLs ad ls (aML M) lv)
    (hq : match ins with
      | .iaload => True
      | .baload => True
      | .laload => True
      | .aaload => True
      | .iastore => True
      | .bastore => True
      | .lastore => True
      | .arraylength => True
      | .getfield _ => True
      | .putfield _ => True
      | _ => False)
    (h : aIns X S M pc ins lv st σ = some (.inl z)) (kk : aKK p l e R s m args below meth c cells slots Q S M ad cA D z) : W p l e R s m args below meth c H locs cells slots Q (F0 m pc ls (st.map (aV ad))) := by
  obtain ⟨hx, hb, hml, hown, hts⟩ := hF
  obtain ⟨-, hK, hT, hI, hE⟩ := hC
  obtain ⟨hP, hS⟩ := hW
  have hD : va_D (aA ad S s.heap.size) (aW ad cA S σ) := aW_D hI
  cases ins with
  | iaload =>
    rw [hn] at hd
    simp only [aIns] at h
    split at h
    · rename_i i a r
      split at h
      · rename_i v hv
        have e1 := aGo_inv h
        subst e1
        unfold aIld at hv
        split at hv
        · rename_i n hs
          split at hv
          · rename_i hin
            cases hv
            obtain ⟨t0, ht⟩ := hT a 0 n hs
            exact va_iald hx hb hK hP a t0 (aW_at hs) ht hin hd (kk H locs ls ⟨hP, hS⟩ hl)
          · cases hv
        · cases hv
        · rename_i hs
          split at hv
          · rename_i n f hX
            split at hv
            · rename_i hin
              cases hv
              obtain ⟨h1, h2, h3⟩ := hE a n f hs hX
              exact va_sld hx hb h1 h2 h3 hS hin hd (kk H locs ls ⟨hP, hS⟩ hl)
            · cases hv
          · cases hv
      · cases h
    · cases h
  | arraylength =>
    rw [hn] at hd
    simp only [aIns] at h
    split at h
    · rename_i a r
      split at h
      · rename_i v hv
        have e1 := aGo_inv h
        subst e1
        unfold aLen at hv
        split at hv
        · rename_i t n hs
          cases hv
          obtain ⟨t0, ht⟩ := hT a t n hs
          exact va_alen hx hb hK hP a t0 (aW_at hs) ht rfl hd (kk H locs ls ⟨hP, hS⟩ hl)
        · cases hv
        · rename_i hs
          split at hv
          · rename_i n f hX
            cases hv
            obtain ⟨h1, h2, h3⟩ := hE a n f hs hX
            exact va_slen hx hb h1 h2 h3 hS hd (kk H locs ls ⟨hP, hS⟩ hl)
          · cases hv
      · cases h
    · cases h
  | baload =>
    rw [hn] at hd
    simp only [aIns] at h
    split at h
    · rename_i i a r
      split at h
      · rename_i t n hs
        split at h
        · rename_i hin
          have e1 := aGo_inv h
          subst e1
          obtain ⟨ht1, hin⟩ := hin
          obtain ⟨t0, ht⟩ := hT a t n hs
          rcases ht1 with rfl | rfl
          · exact va_bald hx hb hK hP a t0 (aW_at hs) ht hin hd (kk H locs ls ⟨hP, hS⟩ hl)
          · exact va_zald hx hb hK hP a t0 (aW_at hs) ht hin hd (kk H locs ls ⟨hP, hS⟩ hl)
        · cases h
      · cases h
    · cases h
  | laload =>
    rw [hn] at hd
    simp only [aIns] at h
    split at h
    · rename_i i a r
      split at h
      · rename_i t n hs
        split at h
        · rename_i hin
          have e1 := aGo_inv h
          subst e1
          obtain ⟨rfl, hin⟩ := hin
          obtain ⟨t0, ht⟩ := hT a 3 n hs
          exact va_lald hx hb hK hP a t0 (aW_at hs) ht hin hd (kk H locs ls ⟨hP, hS⟩ hl)
        · cases h
      · cases h
    · cases h
  | aaload =>
    rw [hn] at hd
    simp only [aIns] at h
    split at h
    · rename_i i a r
      split at h
      · rename_i t n hs
        split at h
        · rename_i hin
          obtain ⟨rfl, hin⟩ := hin
          split at h
          · rename_i b hb2
            have e1 := aGo_inv h
            subst e1
            obtain ⟨t0, ht⟩ := hT a 4 n hs
            refine aS_aald (A := aA ad S s.heap.size) hx hb hK hP a t0 (aW_at hs) ht hin hd ?_
            have := kk H locs ls ⟨hP, hS⟩ hl
            simp only [aRf, hb2]
            exact this
          · cases h
        · cases h
      · cases h
    · cases h
  | iastore =>
    rw [hn] at hd
    simp only [aIns] at h
    split at h
    · rename_i x i a r
      split at h
      · rename_i t n hs
        split at h
        · rename_i hin
          have e1 := aGo_inv h
          subst e1
          obtain ⟨rfl, hin⟩ := hin
          obtain ⟨t0, ht⟩ := hT a 0 n hs
          refine va_iast hx hb hK hP hD hS a t0 (aW_at hs) ht hin hd (fun H1 locs1 hP1 hD1 hS1 => kk H1 locs1 ls ⟨?_, hS1⟩ hl)
          have e2 := aW_up (ad := ad) (cA := cA) (σ := σ) (k := i.toNatClampNeg) (v := .int x) (e := .inl (cA a, n, .inl (upd (fun j => aI (σ a j)) i.toNatClampNeg x))) hs (by
            show va_E_i (cA a) n _ = _
            unfold va_E_i
            congr 4
            funext j
            by_cases ej : j = i.toNatClampNeg
            · simp [upd, ej, aI]
            · simp [upd, ej])
          exact e2 ▸ hP1
        · cases h
      · cases h
    · cases h
  | bastore =>
    rw [hn] at hd
    simp only [aIns] at h
    split at h
    · rename_i x i a r
      split at h
      · rename_i t n hs
        split at h
        · rename_i hin
          have e1 := aGo_inv h
          subst e1
          obtain ⟨ht1, hin⟩ := hin
          obtain ⟨t0, ht⟩ := hT a t n hs
          rcases ht1 with rfl | rfl
          · refine va_bast hx hb hK hP hD hS a t0 (aW_at hs) ht hin hd (fun H1 locs1 hP1 hD1 hS1 => kk H1 locs1 ls ⟨?_, hS1⟩ hl)
            have e2 := aW_up (ad := ad) (cA := cA) (σ := σ) (k := i.toNatClampNeg) (v := .int (vp_nar .byte x)) (e := .inl (cA a, n, .inl (upd (fun j => aI (σ a j)) i.toNatClampNeg (vp_nar .byte x)))) hs (by
              show va_E_i (cA a) n _ = _
              unfold va_E_i
              congr 4
              funext j
              by_cases ej : j = i.toNatClampNeg
              · simp [upd, ej, aI]
              · simp [upd, ej])
            exact e2 ▸ hP1
          · refine va_zast hx hb hK hP hD hS a t0 (aW_at hs) ht hin hd (fun H1 locs1 hP1 hD1 hS1 => kk H1 locs1 ls ⟨?_, hS1⟩ hl)
            have e2 := aW_up (ad := ad) (cA := cA) (σ := σ) (k := i.toNatClampNeg) (v := .int (vp_nar .boolean x)) (e := .inl (cA a, n, .inl (upd (fun j => aI (σ a j)) i.toNatClampNeg (vp_nar .boolean x)))) hs (by
              show va_E_i (cA a) n _ = _
              unfold va_E_i
              congr 4
              funext j
              by_cases ej : j = i.toNatClampNeg
              · simp [upd, ej, aI]
              · simp [upd, ej])
            exact e2 ▸ hP1
        · cases h
      · cases h
    · cases h
  | lastore =>
    rw [hn] at hd
    simp only [aIns] at h
    split at h
    · rename_i x i a r
      split at h
      · rename_i t n hs
        split at h
        · rename_i hin
          have e1 := aGo_inv h
          subst e1
          obtain ⟨rfl, hin⟩ := hin
          obtain ⟨t0, ht⟩ := hT a 3 n hs
          refine va_last hx hb hK hP hD hS a t0 (aW_at hs) ht hin hd (fun H1 locs1 hP1 hD1 hS1 => kk H1 locs1 ls ⟨?_, hS1⟩ hl)
          have e2 := aW_up (ad := ad) (cA := cA) (σ := σ) (k := i.toNatClampNeg) (v := .long x) (e := .inl (cA a, n, .inr (.inl (vp_updL (fun j => aJ (σ a j)) i.toNatClampNeg x)))) hs (by
            show va_E_l (cA a) n _ = _
            unfold va_E_l
            congr 5
            funext j
            by_cases ej : j = i.toNatClampNeg
            · simp [vp_updL, ej, aJ]
            · simp [vp_updL, ej])
          exact e2 ▸ hP1
        · cases h
      · cases h
    · cases h
  | getfield i =>
    rw [hn] at hd
    simp only [aIns] at h
    split at h
    · rename_i a r
      split at h
      · rename_i ci k kd w hf
        split at h
        · rename_i cj hs
          split at h
          · rename_i hcj
            have hcj := Nat.eq_of_beq_eq_true hcj
            subst hcj
            have e1 := aGo_inv h
            subst e1
            obtain ⟨C, T, N, hc, hk, hlink, -⟩ := aFC_inv (aCl_fld hcl hf)
            exact va_get hx hb hts (aUws_in hc) hown hK hP a (aW_at hs) hc k hk (hts _ hlink) (fun _ q => q) (by rw [aNf_of hc]; exact aFs_get hk) hd (kk H locs ls ⟨hP, hS⟩ hl)
          · cases h
        · cases h
      · cases h
    · cases h
  | putfield i =>
    rw [hn] at hd
    simp only [aIns] at h
    split at h
    · rename_i v a r
      split at h
      · rename_i ci k kd w hf
        split at h
        · rename_i cj hs
          split at h
          · rename_i hcj
            rw [Bool.and_eq_true] at hcj
            obtain ⟨hcj, hok⟩ := hcj
            have hcj := Nat.eq_of_beq_eq_true hcj
            subst hcj
            have e1 := aGo_inv h
            subst e1
            obtain ⟨C, T, N, hc, hk, hlink, hkd⟩ := aFC_inv (aCl_fld hcl hf)
            obtain ⟨ty0, hty, hnm⟩ := aNmX hc
            obtain ⟨hfin, ty, hpd, hnar, hfit⟩ := aOk_narrow (ad := ad) hkd hok
            refine va_put hx hb hts (aUws_in hc) ty0 hty hnm hown hK hP hD hS a (aW_at hs) hc k hk (hts _ hlink) (fun _ q => q) hfin hpd hnar hfit (by rw [aNf_of hc, List.length_map, List.length_range]; exact hk) hd (fun H1 locs1 hP1 hD1 hS1 => kk H1 locs1 ls ⟨?_, hS1⟩ hl)
            have e2 := aW_up (ad := ad) (cA := cA) (σ := σ) (k := k) (v := v) (e := .inr (ci, ((List.range (aNf ci)).map (fun k => aV ad (σ a k))).set k (aV ad v))) hs (by
              rw [aE_obj, aFs_set])
            exact e2 ▸ hP1
          · cases h
        · cases h
      · cases h
    · cases h
  | _ => exact hq.elim
end AS
