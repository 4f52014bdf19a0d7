/-! THE LAW'S POINTS: what holds where a point stands -/
section GW
variable {p : Program} {l : Launch} {e : Env} {R : Room} {s : State} {m : MethodId} {args : Array Value} {below : List Frame} {meth : Method} {c : Code} {cells slots : Nat} {Q : State → Prop}
variable {ad : Nat → Nat} {cA : Nat → ClassId} {D : va_G} {tys : List (ClassId × FieldType)} {xs : List Int32}
def Gw (p : Program) (l : Launch) (e : Env) (R : Room) (s : State) (m : MethodId) (args : Array Value) (below : List Frame) (meth : Method) (c : Code) (cells slots : Nat) (Q : State → Prop) (ad : Nat → Nat) (cA : Nat → ClassId) (D : va_G) : Nat → List bV → List bV → bMm → Prop := fun pc lv st μ =>
  ∀ (H : Heap) (locs : List Loc) (ls : Array Slot), aWo aS ad cA D s (bσ μ) H locs → aLs ad ls (aML aM_law) (lv.map bVal) → W p l e R s m args below meth c H locs cells slots Q (F0 m pc ls ((st.map bVal).map (aV ad)))
theorem aLs_le {ls : Array Slot} {n : Nat} {lv lv' : List Value} (h : aLe lv lv') (hl : aLs ad ls n lv') : aLs ad ls n lv :=
  ⟨hl.1, hl.2.1, h.1.trans hl.2.2.1, fun i v hi hv => hl.2.2.2 i v (h.at hi hv) hv⟩
theorem Gw_ho : gHo (Gw p l e R s m args below meth c cells slots Q ad cA D) := by
  intro pc lv st μ ks h H locs ls hW hl
  have := h H locs ls hW (by rw [bNm_map]; exact aLs_le (bMk_le ks lv) hl)
  rw [bNm_map] at this
  exact this
theorem Gw_sm : gSm (Gw p l e R s m args below meth c cells slots Q ad cA D) := by
  intro pc lv st st' μ hm h H locs ls hW hl
  have := h H locs ls hW hl
  rw [hm] at this
  exact this
theorem aLawS : aStrOK (aCs aM_law) = true := (Bool.and_eq_true_iff.mp aLawK).1
theorem Gw_st (hF : aFx aM_law p s m c args) (hC : aCx (bX xs) aS ad cA D tys s.heap.size s) (hrm : 1 ≤ R.frames ∧ 60 ≤ R.locals ∧ cells ≤ R.cells ∧ slots ≤ R.slots) : gSt xs aM_law (Gw p l e R s m args below meth c cells slots Q ad cA D) := by
  intro pc lv st μ pc' lv' st' μ' h hG H locs ls hW hl
  unfold aStep at h
  split at h
  · rename_i q hq
    obtain ⟨hd, hn⟩ := aCo_dec aOK_law hq
    exact aS_go hF aOC_RL aLawS hC hrm hd hn hW hl h (fun H1 locs1 ls1 hW1 hl1 => hG H1 locs1 ls1 hW1 hl1)
  · cases h
theorem Gw_or {d : Nat} (hF : aFx aM_law p s m c args) (hC : aCx (bX xs) aS ad cA D tys s.heap.size s) (hrm : d + 7 ≤ R.frames ∧ 41 * (d + 7) ≤ R.locals ∧ cells ≤ R.cells ∧ slots ≤ R.slots) : gOr xs d aM_law (Gw p l e R s m args below meth c cells slots Q ad cA D) := by
  intro pc lv st μ K as r v h h6 ho hG H locs ls hW hl
  unfold aStep at h
  split at h
  · rename_i q hq
    obtain ⟨hd, hn⟩ := aCo_dec aOK_law hq
    obtain ⟨M', hK, hMet⟩ := (oOk_all (X := bX xs) (S := aS) (l := l)) K _ _ ho
    exact aS_call (d' := d) hF aG2 aOC_RL hC hrm hd hn hW hl h hK (hMet d (by omega) (bσ μ)) (fun H1 locs1 ls1 hW1 hl1 => hG H1 locs1 ls1 hW1 hl1)
  · cases h
theorem Gw_ca {d : Nat} (hF : aFx aM_law p s m c args) (hC : aCx (bX xs) aS ad cA D tys s.heap.size s) (hrm : d + 7 ≤ R.frames ∧ 41 * (d + 7) ≤ R.locals ∧ cells ≤ R.cells ∧ slots ≤ R.slots) : gCa xs d aM_law (Gw p l e R s m args below meth c cells slots Q ad cA D) := by
  intro pc lv st μ K as r M' h ho hK hb h1 hG H locs ls hW hl
  unfold aStep at h
  split at h
  · rename_i q hq
    obtain ⟨hd, hn⟩ := aCo_dec aOK_law hq
    obtain ⟨w, z, μ', hMet, hr, hG⟩ := bMet (l := l) (aG2 M' (List.mem_of_getElem? hK)) hb hG
    have hp : (bPush K (.inl z) r).map bVal = w.toList ++ r.map bVal := by
      unfold bPush
      rw [hK]
      unfold bRes at hr
      cases hrt : aRt M' with
      | none =>
        rw [hrt] at hr
        have hr : w = none := hr
        subst hr
        simp only [hrt]
        rfl
      | some t =>
        rw [hrt] at hr
        have hr : w = some (.int (Int32.ofInt z)) := hr
        subst hr
        simp only [hrt]
        rfl
    refine aS_call (d' := d - 1) hF aG2 aOC_RL hC ⟨by omega, by omega, hrm.2.2.1, hrm.2.2.2⟩ hd hn hW hl h hK hMet (fun H1 locs1 ls1 hW1 hl1 => ?_)
    have := hG H1 locs1 ls1 hW1 hl1
    rw [hp] at this
    exact this
  · cases h
end GW
theorem Gw_re {xs : List Int32} {p : Program} {l : Launch} {e : Env} {s : State} {m : MethodId} {b : Nat} {below : List Frame} {meth : Method} {c : Code} {cells slots : Nat} {ad : Nat → Nat} {cA : Nat → ClassId} {D : va_G} (hF : aFx aM_law p s m c #[Value.ref b]) (hr : meth.sig.returnType = ret) (hlocks : meth.locks = false) (hc : cells ≤ 601024) (hs : slots ≤ 7293034) (hA : ∀ q, aA ad aS s.heap.size q → s.heap.size ≤ q) : gRe xs aM_law (Gw p l e room_1 s m #[Value.ref b] below meth c cells slots (lw_Z below #[Value.ref b] s) ad cA D) (fun z _ => z = 1) := by
  intro pc lv st μ v z h hb hz H locs ls hW hl
  subst hz
  have hv : v = some (.int 1) := hb
  subst hv
  unfold aStep at h
  split at h
  · rename_i q hq
    obtain ⟨hd, hn⟩ := aCo_dec aOK_law hq
    refine va_forget (fun q hq => hA _ (hW.2.2.2 q hq)) (W.widen hc hs ?_)
    have h0 := h
    rcases aIns_kind h with e | e | e | ⟨i, e⟩ | ⟨i, e⟩
    · rw [e] at h hn hd
      simp only [aIns] at h
      split at h
      · rename_i x hx
        have : x = 1 := by
          split at h
          · cases h; rfl
          · split at h
            · cases h; rfl
            · cases h
          · cases h
        subst this
        rw [hx]
        rw [hn] at hd
        exact lw_ret hF.1 hF.2.1 hr hlocks hd
      · cases h
    · rw [e] at h
      simp only [aIns] at h
      repeat' (split at h)
      all_goals cases h
    · rw [e] at h
      simp only [aIns] at h
      repeat' (split at h)
      all_goals cases h
    · rw [e] at h
      simp only [aIns, aPrim, aGd, aGo] at h
      repeat' (split at h)
      all_goals cases h
    · rw [e] at h
      simp only [aIns] at h
      repeat' (split at h)
      all_goals cases h
  · cases h
