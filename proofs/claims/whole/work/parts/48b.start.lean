/-! THE START: what the Statement gives, as the proof asks for it -/
def sF : List Cond := flatC (Jvm.Cond.and given_1 narrow_1)
theorem sW {w : Cond} (i : Nat) (h : lw_tbl[i]? = some w) : w ∈ lw_tbl := List.mem_of_getElem? h
def sIx : List Nat := [26, 32, 259, 254, 277]
def sTm (i : Nat) : Term := .string "HalfDoneModel" (sIx.getD i 0)
theorem sf_t : Cond.arrayOf (.static "HalfDone" "TENS" "[I") .int ∈ sF := by decide +kernel
theorem sf_tl : Cond.eq (.length (.static "HalfDone" "TENS" "[I")) (.int (Int32.ofNat 7)) ∈ sF := by decide +kernel
theorem sf_te : ∀ j, j < 7 → Cond.eq (.elem (.static "HalfDone" "TENS" "[I") (.int (Int32.ofNat j))) (.int ((bStL 1001).getD j 0)) ∈ sF := by decide +kernel
theorem sf_a : Cond.arrayOf (.static "HalfDone$WillReader" "LEAST" "[I") .int ∈ sF := by decide +kernel
theorem sf_al : Cond.eq (.length (.static "HalfDone$WillReader" "LEAST" "[I")) (.int (Int32.ofNat 3)) ∈ sF := by decide +kernel
theorem sf_ae : ∀ j, j < 3 → Cond.eq (.elem (.static "HalfDone$WillReader" "LEAST" "[I") (.int (Int32.ofNat j))) (.int ((bStL 1002).getD j 0)) ∈ sF := by decide +kernel
theorem sf_m : Cond.arrayOf (.static "HalfDone$WillReader" "MOST" "[I") .int ∈ sF := by decide +kernel
theorem sf_ml : Cond.eq (.length (.static "HalfDone$WillReader" "MOST" "[I")) (.int (Int32.ofNat 3)) ∈ sF := by decide +kernel
theorem sf_me : ∀ j, j < 3 → Cond.eq (.elem (.static "HalfDone$WillReader" "MOST" "[I") (.int (Int32.ofNat j))) (.int ((bStL 1003).getD j 0)) ∈ sF := by decide +kernel
theorem sf_x : ∀ i, i < 5 → Cond.exactly (sTm i) "java/lang/String" ∈ sF := by decide +kernel
theorem sf_c : ∀ i, i < 5 → Cond.eq (.field (sTm i) "java/lang/String" "coder" "B") (.int 0) ∈ sF := by decide +kernel
theorem sf_v : ∀ i, i < 5 → Cond.arrayOf (.field (sTm i) "java/lang/String" "value" "[B") .byte ∈ sF := by decide +kernel
theorem sf_vl : ∀ i, i < 5 → Cond.eq (.length (.field (sTm i) "java/lang/String" "value" "[B")) (.int (Int32.ofNat (aSL.getD i 0))) ∈ sF := by decide +kernel
theorem sf_ve : ∀ i, i < 5 → ∀ j, j < aSL.getD i 0 → Cond.eq (.elem (.field (sTm i) "java/lang/String" "value" "[B") (.int (Int32.ofNat j))) (.int ((aSB.getD i []).getD j 0)) ∈ sF := by decide +kernel
theorem sf_n : ∀ i, i < 5 → ∀ j, j < 5 → i ≠ j → (Cond.not (Cond.eq (sTm i) (sTm j)) ∈ sF ∨ Cond.not (Cond.eq (sTm j) (sTm i)) ∈ sF) := by decide +kernel
theorem sf_u : Cond.isRef (.static Bundle.tN "UNASSIGNED_STACK" Bundle.steD) ∈ sF := by decide +kernel
theorem sf_p : Cond.isRef (.static Bundle.tN "SUPPRESSED_SENTINEL" Bundle.listD) ∈ sF := by decide +kernel
theorem sf_s : Cond.eq (.static "java/lang/String" "COMPACT_STRINGS" "Z") (.int 1) ∈ sF := by decide +kernel
theorem sf_f : Cond.isRef (.static "jdk/internal/util/Preconditions" "SIOOBE_FORMATTER" "Ljava/util/function/BiFunction;") ∈ sF := by decide +kernel
theorem sf_y : Cond.exactly (.string RX11 148) "java/lang/String" ∈ sF := by decide +kernel
theorem sf_z : Cond.exactly (.string RX11 165) "java/lang/String" ∈ sF := by decide +kernel
theorem s_in : ∀ w ∈ vwCl.map (fun q => Cond.instantiable q.1 q.2.2), w ∈ aTB := aWs_mem [235, 299, 327, 255, 389, 361, 186, 204, 275, 149, 176, 141, 1344] (by decide +kernel) (by decide)
theorem s_nm : ∀ w ∈ aNestM, w ∈ lw_tbl := fun w hw => by
  obtain ⟨i, hi⟩ := List.getElem?_of_mem hw
  have hz : ∀ i, i < 8 → lw_tbl[[150, 205, 236, 256, 276, 300, 362, 390].getD i 0]? = aNestM[i]? := by decide +kernel
  have hlt : i < 8 := (List.getElem?_eq_some_iff.mp hi).1
  exact List.mem_of_getElem? ((hz i hlt).trans hi)
theorem s_nmt : ∀ w ∈ aNestM, w.onTables = true := by decide +kernel
theorem s_ns : Cond.fieldLinkNest RX1 44 "HalfDone" "TENS" "[I" "HalfDone" ∈ lw_tbl ∧ Cond.fieldLinkNest RX5 41 "HalfDone" "TENS" "[I" "HalfDone" ∈ lw_tbl := ⟨sW 944 (by decide +kernel), sW 1157 (by decide +kernel)⟩
theorem s_nb : ∀ w ∈ nseB, w ∈ lw_tbl := fun w hw => by
  obtain ⟨i, hi⟩ := List.getElem?_of_mem hw
  have hz : ∀ i, i < 4 → lw_tbl[[1280, 1282, 1284, 1278].getD i 0]? = nseB[i]? := by decide +kernel
  have hlt : i < 4 := (List.getElem?_eq_some_iff.mp hi).1
  exact List.mem_of_getElem? ((hz i hlt).trans hi)
theorem s_nbt : ∀ w ∈ nseB, w.onTables = true := by decide +kernel
/-- the addresses of what lies outside the world -/
def sAd (b t1 t2 t3 f : Nat) (aK aV : Nat → Nat) (q : Nat) : Nat :=
  if q = 1000 then b else if q = 1001 then t1 else if q = 1002 then t2 else if q = 1003 then t3 else if q = 3005 then f else if 3000 ≤ q then aV (q - 3000) else aK (q - 2000)
theorem sAd_0 (b t1 t2 t3 f : Nat) (aK aV : Nat → Nat) : sAd b t1 t2 t3 f aK aV 1000 = b := by simp [sAd]
theorem sAd_1 (b t1 t2 t3 f : Nat) (aK aV : Nat → Nat) : sAd b t1 t2 t3 f aK aV 1001 = t1 := by simp [sAd]
theorem sAd_2 (b t1 t2 t3 f : Nat) (aK aV : Nat → Nat) : sAd b t1 t2 t3 f aK aV 1002 = t2 := by simp [sAd]
theorem sAd_3 (b t1 t2 t3 f : Nat) (aK aV : Nat → Nat) : sAd b t1 t2 t3 f aK aV 1003 = t3 := by simp [sAd]
theorem sAd_f (b t1 t2 t3 f : Nat) (aK aV : Nat → Nat) : sAd b t1 t2 t3 f aK aV 3005 = f := by simp [sAd]
theorem sAd_V (b t1 t2 t3 f : Nat) (aK aV : Nat → Nat) (i : Nat) (h : i < 5) : sAd b t1 t2 t3 f aK aV (3000 + i) = aV i := by
  unfold sAd
  rw [if_neg (by omega), if_neg (by omega), if_neg (by omega), if_neg (by omega), if_neg (by omega), if_pos (by omega)]
  rw [show 3000 + i - 3000 = i by omega]
theorem sAd_K (b t1 t2 t3 f : Nat) (aK aV : Nat → Nat) (i : Nat) (h : i < 5) : sAd b t1 t2 t3 f aK aV (2000 + i) = aK i := by
  unfold sAd
  rw [if_neg (by omega), if_neg (by omega), if_neg (by omega), if_neg (by omega), if_neg (by omega), if_neg (by omega)]
  rw [show 2000 + i - 2000 = i by omega]
theorem s_aA (ad : Nat → Nat) (sz : Nat) : aA ad [] sz = fun q : Nat => sz ≤ q := by
  funext q
  refine propext ⟨fun h => ?_, fun h => Or.inr h⟩
  rcases h with ⟨i, hi, _⟩ | h
  · exact absurd hi (Nat.not_lt_zero i)
  · exact h
theorem s_K {s : State} {args : Array Value} (hts : ∀ w ∈ aTB, w.before args s = true) : ∃ D : va_G, va_K D vwCl [] s := by
  have h0 : ∀ ci : Nat, ∃ r : ClassId × (Nat → Nat), ∀ q : vw_C, vwCl[ci]? = some q → u_Kn s q.1 q.2.1 q.2.2 r.1 r.2 := by
    intro ci
    cases hq : vwCl[ci]? with
    | none => exact ⟨(0, fun _ => 0), fun q h => by cases h⟩
    | some q =>
      obtain ⟨C, T, N⟩ := q
      have hm : (C, T, N) ∈ vwCl := List.mem_of_getElem? hq
      have hi := hts _ (s_in (Cond.instantiable C N) (List.mem_map.mpr ⟨(C, T, N), hm, rfl⟩))
      obtain ⟨cC, iS, hK⟩ := u_known hts (aUws_in hq) hi
      exact ⟨(cC, iS), fun q h => by cases h; exact hK⟩
  obtain ⟨g, hg⟩ := Classical.axiomOfChoice h0
  exact ⟨(fun k => (g k).1, fun k => (g k).2), fun ci q hq => hg ci q hq, fun k q h => by simp at h⟩
theorem s_X {s : State} {b L : Nat} {xs : Nat → Int32} {A : Nat → Prop} (hL : L ≤ 3072) (hX : va_X b L xs s s.heap) (hA : ¬ A b) : va_T .int b ((((List.range L).map xs).take 3072).length) (fun j => .int ((((List.range L).map xs).take 3072).getD j 0)) A s s.heap := by
  have hlen : ((List.range L).map xs).length = L := by rw [List.length_map, List.length_range]
  have htk : ((List.range L).map xs).take 3072 = (List.range L).map xs := List.take_of_length_le (by rw [hlen]; exact hL)
  rw [htk, hlen]
  obtain ⟨scr, x1, x2, x3, x4, x5⟩ := hX
  refine ⟨scr, x1, x2, x3, Nat.le_of_eq x4.symm, congrArg Nat.toInt32 x4, fun j hj => ?_, hA⟩
  rw [x5 j hj]
  have e : ((List.range L).map xs).getD j 0 = xs j := by
    rw [List.getD_eq_getElem?_getD, List.getElem?_map, List.getElem?_range hj]
    rfl
  exact congrArg (fun z => some (Value.int z)) e.symm
