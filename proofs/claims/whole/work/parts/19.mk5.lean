/-! SOUNDNESS of the making machine: whole runs -/
set_option maxHeartbeats 4000000 in
theorem aMkE_mono {X : aXt} {C : List aMk} : ∀ (f d : Nat) (M : aMk) (pc : Nat) (lv st : List Value) (σ : aSt) (S : List aSh) (k : Nat) (σ' : aSt) (S' : List aSh) (k' : Nat), aMkE X C f d M pc lv st σ S k = some (σ', S', k') → S.length ≤ S'.length ∧ k ≤ k' := by
  intro f
  induction f with
  | zero => intro d M pc lv st σ S k σ' S' k' h; cases h
  | succ f ih =>
    intro d M pc lv st σ S k σ' S' k' h
    rw [aMkE.eq_def] at h
    dsimp only at h
    split at h
    · cases h
    · split at h
      · split at h
        · cases h
          exact ⟨Nat.le_refl _, Nat.le_refl _⟩
        · cases h
      · split at h
        · cases h
        · split at h
          · cases h
          · obtain ⟨h1, h2⟩ := ih _ _ _ _ _ _ _ _ _ _ _ h
            rw [List.length_append] at h1
            exact ⟨by omega, by omega⟩
      · split at h
        · cases h
        · split at h
          · split at h
            · cases h
            · split at h
              · obtain ⟨h1, h2⟩ := ih _ _ _ _ _ _ _ _ _ _ _ h
                rw [List.length_append] at h1
                exact ⟨by omega, by omega⟩
              · cases h
          · cases h
      · split at h
        · cases h
        · split at h
          · split at h
            · cases h
            · split at h
              · obtain ⟨h1, h2⟩ := ih _ _ _ _ _ _ _ _ _ _ _ h
                rw [List.length_append] at h1
                exact ⟨by omega, by omega⟩
              · cases h
          · cases h
      · split at h
        · cases h
        · split at h
          · split at h
            · split at h
              · exact ih _ _ _ _ _ _ _ _ _ _ _ h
              · cases h
            · cases h
          · split at h
            · cases h
            · split at h
              · split at h
                · cases h
                · split at h
                  · cases h
                  · split at h
                    · cases h
                    · split at h
                      · cases h
                      · split at h
                        · cases h
                        · rename_i σ2 S2 k2 hex
                          split at h
                          · cases h
                          · obtain ⟨h1, h2⟩ := ih _ _ _ _ _ _ _ _ _ _ _ h
                            obtain ⟨h3, h4⟩ := ih _ _ _ _ _ _ _ _ _ _ _ hex
                            exact ⟨by omega, by omega⟩
              · cases h
      · split at h
        · split at h
          · cases h
          · split at h
            · split at h
              · split at h
                · exact ih _ _ _ _ _ _ _ _ _ _ _ h
                · cases h
              · split at h
                · exact ih _ _ _ _ _ _ _ _ _ _ _ h
                · cases h
            · cases h
        · cases h
      · split at h
        · exact ih _ _ _ _ _ _ _ _ _ _ _ h
        · cases h
theorem aPFC_in {M : aMk} (h : M ∈ aCt) : aPFC M.1 = true := List.all_eq_true.mp aPFC_all M h
theorem aMet_name {p : Program} {l : Launch} {y : MethodName} {sp : Spec} {cc : ByteArray} {maxL : Nat} {ret : Option FieldType} {e : Env} {s : State} {m : MethodId} {args : Array Value} {below : List Frame} {meth : Method} {c : Code} {s₁ : State} (B : BodyLoose p l y sp cc maxL ret e s m args below meth c s₁) : meth.name = y.name := (name_of_methodNamed B.named B.method).1
set_option maxHeartbeats 8000000 in
theorem aMkSound (l : Launch) (hMna : aMna l) : ∀ (f d : Nat) (M : aMk) (pc : Nat) (lv st : List Value) (σ : aSt) (S : List aSh) (k : Nat) (σ' : aSt) (S' : List aSh) (k' : Nat), aMkE aX0 aCt f d M pc lv st σ S k = some (σ', S', k') → M ∈ aCt →
    ∀ {p : Program} {e : Env} {R : Room} {s : State} {m : MethodId} {args : Array Value} {below : List Frame} {meth : Method} {c : Code} {H : Heap} {locs : List Loc} {ad : Nat → Nat} {cA : Nat → ClassId} {D : va_G} {tys : List (ClassId × FieldType)} {ls : Array Slot} {L0 : Nat} {A0 : Nat → Prop} {Qc : Array Value → State → Outcome → State → Prop},
      aFx M.1 p s m c args → meth.sig.returnType = none → meth.locks = false → meth.name = "<init>" → (∀ w ∈ aNestM, va_Nw w s) → aAO s → aCx aX0 S ad cA D tys s.heap.size s → (d + 6 ≤ R.frames ∧ 41 * (d + 6) ≤ R.locals ∧ S'.length - L0 ≤ R.cells ∧ k' ≤ R.slots) → L0 ≤ S.length → (∀ q, aA ad S s.heap.size q ↔ A0 q) → aWo S ad cA D s σ H locs → aLs ad ls (aML M.1) lv →
      (∀ (ad' : Nat → Nat) (cA' : Nat → ClassId) (tys' : List (ClassId × FieldType)) (t : State), (∀ a, a < S.length ∨ 1000 ≤ a → ad' a = ad a) → aCx aX0 S' ad' cA' D tys' s.heap.size s → (∀ q, aA ad' S' s.heap.size q ↔ A0 q) → va_P D vwCl (aW ad' cA' S' σ') t.heap → va_F A0 s t → s.WarmedH t.vm → Qc args s (.returned none) t) →
      W p l e R s m args below meth c H locs (S.length - L0) k (MQ below Qc args s (S'.length - L0) k' A0) (F0 m pc ls (st.map (aV ad))) := by
  intro f
  induction f with
  | zero => intro d M pc lv st σ S k σ' S' k' h; cases h
  | succ f ih =>
    intro d M pc lv st σ S k σ' S' k' h hMin p e R s m args below meth c H locs ad cA D tys ls L0 A0 Qc hF hr hlocks hname hNest hAO hC hroom hL0 hA hW hl hq
    have hmono := aMkE_mono _ _ _ _ _ _ _ _ _ _ _ _ h
    obtain ⟨hMk, hCt, hcl⟩ := aCt_ok M hMin
    simp only [aMkC, Bool.and_eq_true] at hMk
    obtain ⟨⟨hnew, hspec, hmul⟩, hMo, hso⟩ := hMk
    have hX : ∀ a q, aX0 a = some q → 1000 ≤ a := fun a q h => absurd h (by simp [aX0])
    rw [aMkE.eq_def] at h
    dsimp only at h
    split at h
    · cases h
    · rename_i q hq0
      obtain ⟨hd, hn⟩ := aCo_dec hMo hq0
      split at h
      · rename_i hqi
        rw [hqi] at hd hn
        rw [hn] at hd
        split at h
        · cases h
          refine W.vret hF.1 hF.2.1 hr (fun t ht hWm => ?_) (fun q hq => (hA _).mp (hW.2.2.2 q hq)) hd hlocks
          refine hq ad cA tys t (fun _ _ => rfl) hC hA (by rw [ht]; exact hW.1) ?_ hWm
          exact (va_S_iff hA hW.2).F ht
        · cases h
      · rename_i i hqi
        rw [hqi] at hd hn
        rw [hn] at hd
        split at h
        · cases h
        · rename_i hfr
          split at h
          · cases h
          · rename_i ci w hf
            have hm2 := aMkE_mono _ _ _ _ _ _ _ _ _ _ _ _ h
            rw [List.length_append, List.length_singleton] at hm2
            refine aK_new hF hnew hX hC hfr hf (by omega) (by omega) hd hW hl ?_
            intro ad' cA' tys' H1 locs1 ls1 ha1 hC1 hA1 hW1 hl1
            have h9 := ih d M _ _ _ _ _ _ _ _ _ h hMin (e := e) (below := below) (L0 := L0) hF hr hlocks hname hNest hAO hC1 hroom (by rw [List.length_append]; omega) (fun q => (hA1 q).trans (hA q)) hW1 hl1 (fun ad2 cA2 tys2 t2 ha2 => hq ad2 cA2 tys2 t2 (fun a h => (ha2 a (h.imp (fun z => by rw [List.length_append]; omega) id)).trans (ha1 a h)))
            rw [List.length_append, List.length_singleton, show S.length + 1 - L0 = S.length - L0 + 1 by omega] at h9
            exact h9
      · rename_i t hqi
        rw [hqi] at hd hn
        rw [hn] at hd
        split at h
        · cases h
        · rename_i hfr
          split at h
          · rename_i n r
            split at h
            · cases h
            · rename_i tc htc
              split at h
              · rename_i hnn
                have hm2 := aMkE_mono _ _ _ _ _ _ _ _ _ _ _ _ h
                rw [List.length_append, List.length_singleton] at hm2
                refine aK_newa hF hX hC hfr htc hnn.1 hnn.2 (by omega) (by omega) hd hW hl ?_
                intro ad' cA' tys' H1 locs1 ls1 ha1 hC1 hA1 hW1 hl1
                have h9 := ih d M _ _ _ _ _ _ _ _ _ h hMin (e := e) (below := below) (L0 := L0) hF hr hlocks hname hNest hAO hC1 hroom (by rw [List.length_append]; omega) (fun q => (hA1 q).trans (hA q)) hW1 hl1 (fun ad2 cA2 tys2 t2 ha2 => hq ad2 cA2 tys2 t2 (fun a h => (ha2 a (h.imp (fun z => by rw [List.length_append]; omega) id)).trans (ha1 a h)))
                rw [List.length_append, List.length_singleton, show S.length + 1 - L0 = S.length - L0 + 1 by omega] at h9
                exact h9
              · cases h
          · cases h
      · rename_i i dm hqi
        rw [hqi] at hd hn
        rw [hn] at hd
        split at h
        · cases h
        · rename_i hfr
          split at h
          · rename_i n2 n1 r
            split at h
            · cases h
            · rename_i w hf
              split at h
              · rename_i hnn
                obtain ⟨⟨⟨hn1, hn2⟩, hdm⟩, ⟨hb1, hb2⟩, -⟩ := hnn
                subst hdm
                have hm2 := aMkE_mono _ _ _ _ _ _ _ _ _ _ _ _ h
                rw [List.length_append, List.length_cons, List.length_replicate] at hm2
                refine aK_multi hMna hAO hF hmul hX hC hfr hf hn1 hn2 hb1 hb2 (by omega) (by omega) hd hW hl ?_
                intro ad' cA' tys' H1 locs1 ls1 ha1 hC1 hA1 hW1 hl1
                have h9 := ih d M _ _ _ _ _ _ _ _ _ h hMin (e := e) (below := below) (L0 := L0) hF hr hlocks hname hNest hAO hC1 hroom (by rw [List.length_append]; omega) (fun q => (hA1 q).trans (hA q)) hW1 hl1 (fun ad2 cA2 tys2 t2 ha2 => hq ad2 cA2 tys2 t2 (fun a h => (ha2 a (h.imp (fun z => by rw [List.length_append]; omega) id)).trans (ha1 a h)))
                rw [List.length_append, List.length_cons, List.length_replicate, show S.length + (n1.toNatClampNeg + 1) - L0 = S.length - L0 + 1 + n1.toNatClampNeg by omega] at h9
                exact h9
              · cases h
          · cases h
      · rename_i i hqi
        rw [hqi] at hd hn
        rw [hn] at hd
        split at h
        · cases h
        · rename_i kd K n w hf
          have hsc := List.all_eq_true.mp hspec _ (aFd_mem hf)
          split at h
          · rename_i hkd
            have hkd := Nat.eq_of_beq_eq_true hkd
            subst hkd
            split at h
            · rename_i a r
              split at h
              · rename_i hcat
                exact aK_obj hF hsc ⟨by omega, by omega⟩ (Nat.le_of_ble_eq_true hcat) hd hl (ih d M _ _ _ _ _ _ _ _ _ h hMin hF hr hlocks hname hNest hAO hC hroom hL0 hA hW hl hq)
              · cases h
            · cases h
          · rename_i hkd
            obtain ⟨kd', rfl⟩ : ∃ kd', kd = kd' + 1 := by
              cases kd with
              | zero => exact absurd hkd (by decide)
              | succ j => exact ⟨j, rfl⟩
            split at h
            · cases h
            · rename_i hfr
              split at h
              · rename_i as a r htk
                split at h
                · cases h
                · rename_i hcat
                  split at h
                  · cases h
                  · rename_i d'
                    split at h
                    · cases h
                    · rename_i M' hK
                      split at h
                      · cases h
                      · rename_i hble
                        split at h
                        · cases h
                        · rename_i σ2 S2 k2 hex
                          split at h
                          · cases h
                          · have hm3 := aMkE_mono _ _ _ _ _ _ _ _ _ _ _ _ hex
                            have hm4 := aMkE_mono _ _ _ _ _ _ _ _ _ _ _ _ h
                            have hble := Nat.le_of_ble_eq_true hble
                            have hMin' := List.mem_of_getElem? hK
                            have hMet : aMetM l d' M' (.ref a :: as) σ S σ2 S2 k2 := by
                              intro D ad cA tys sz
                              obtain ⟨-, hCt', -⟩ := aCt_ok M' hMin'
                              simp only [aCtC, aMC, Bool.and_eq_true, decide_eq_true_eq] at hCt'
                              obtain ⟨⟨⟨hcode, hplain, hownM⟩, hml22⟩, hinit, hret⟩ := hCt'
                              refine Met.ofW (cc := aBy M'.1) (maxL := aML M'.1) (ret := aRt M'.1) hplain rfl ?_
                              intro p e s m args below meth c s₁ B hml hv
                              obtain ⟨rfl, hP, hC, hNest, hAO⟩ := hv
                              have hts := atoms_spec (ws := aWs M'.1) B.pre
                              have hown : s.vm.findClass (aOwn M'.1) = some m.cls := by
                                rw [← hownM]
                                exact findClass_of_methodNamed B.named
                              have hsz := hC.1
                              subst hsz
                              have hent := lv_entry ((Value.ref a :: as).map (aV ad)) (n := aML M'.1) (by rw [aArg_len]; exact hble)
                              rw [lg_entry_eq]
                              have h9 := ih d' M' 0 (aEnt M'.1 (.ref a :: as)) [] σ S 0 σ2 S2 k2 hex hMin' (e := e) (below := below) (R := (headSpec (aWs M'.1) (aRmM d' (S2.length - S.length) k2)).room) (L0 := S.length) (A0 := aA ad S s.heap.size) (Qc := aQm S ad D S2 σ2 (aA ad S s.heap.size)) ⟨B.exec, B.bytes, hml, hown, fun w hw => hts w (List.mem_cons_of_mem _ hw)⟩ (by rw [B.returns, hret]) B.notSynchronized (by rw [aMet_name B, hinit]) hNest hAO hC ⟨Nat.le_refl _, Nat.le_refl _, Nat.le_refl _, Nat.le_refl _⟩ (Nat.le_refl _) (fun _ => Iff.rfl) ⟨hP, va_S.rf⟩ (aLs_ent hble hent) (fun ad' cA' tys' t ha hC' hA' hP' hF' hWm => ⟨rfl, ad', cA', tys', ha, hP', va_K.moved hWm.alike hC'.2.1, hC'.2.2.1, hC'.2.2.2.1, fun i h1 h2 => by
                                  rcases (hA' (ad' i)).mp (Or.inl ⟨i, h2, rfl⟩) with ⟨j, hj, e⟩ | h
                                  · have := hC'.2.2.2.1 j i (by omega) h2 (by rw [ha j (Or.inl hj)]; exact e)
                                    omega
                                  · exact h, hF'⟩)
                              rw [Nat.sub_self] at h9
                              exact h9
                            refine aK_call (d' := d') hF hsc hK hNest hAO hX hC ⟨by omega, by omega, by omega, by omega⟩ hd hW hl hfr htk (Nat.le_of_ble_eq_true hcat) hMet hm3.1 ?_
                            intro ad' cA' tys' H1 locs1 ls1 ha1 hC1 hA1 hW1 hl1
                            have h9 := ih (d' + 1) M _ _ _ _ _ _ _ _ _ h hMin (e := e) (below := below) (L0 := L0) hF hr hlocks hname hNest hAO hC1 hroom (by omega) (fun q => (hA1 q).trans (hA q)) hW1 hl1 (fun ad2 cA2 tys2 t2 ha2 => hq ad2 cA2 tys2 t2 (fun a h => (ha2 a (h.imp (fun z => by omega) id)).trans (ha1 a h)))
                            rw [show S2.length - L0 = S.length - L0 + (S2.length - S.length) by omega] at h9
                            exact h9
              · cases h
      · rename_i i hqi
        rw [hqi] at hd hn
        rw [hn] at hd
        split at h
        · rename_i v a r
          split at h
          · cases h
          · rename_i ci j kd w hf
            split at h
            · rename_i cj hs
              split at h
              · rename_i hb9
                rw [Bool.and_eq_true] at hb9
                have e1 := Nat.eq_of_beq_eq_true hb9.1
                have e2 := Nat.eq_of_beq_eq_true hb9.2
                subst e1
                subst e2
                split at h
                · rename_i b
                  exact aK_putF hF hcl (aPFC_in hMin) hname hC hq0 hqi hf hs hd hW hl (fun H1 locs1 ls1 hW1 hl1 => ih d M _ _ _ _ _ _ _ _ _ h hMin hF hr hlocks hname hNest hAO hC hroom hL0 hA hW1 hl1 hq)
                · cases h
              · split at h
                · rename_i hok
                  rw [Bool.and_eq_true] at hok
                  have e1 := Nat.eq_of_beq_eq_true hok.1
                  refine aS_go (z := (pc + 3, lv, r, aUp σ a j v)) hF hcl hso hC ⟨by omega, by omega, by omega, by omega⟩ hd rfl hW hl ?_ (fun H1 locs1 ls1 hW1 hl1 => ih d M _ _ _ _ _ _ _ _ _ h hMin hF hr hlocks hname hNest hAO hC hroom hL0 hA hW1 hl1 hq)
                  simp only [aIns, hf, hs, hok.1, hok.2, Bool.and_self]
                  rfl
                · cases h
            · cases h
        · cases h
      · split at h
        · rename_i z hz
          exact aS_go hF hcl hso hC ⟨by omega, by omega, by omega, by omega⟩ hd hn hW hl hz (fun H1 locs1 ls1 hW1 hl1 => ih d M _ _ _ _ _ _ _ _ _ h hMin hF hr hlocks hname hNest hAO hC hroom hL0 hA hW1 hl1 hq)
        · cases h
