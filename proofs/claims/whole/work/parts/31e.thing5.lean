/-! HalfDoneLaw.thing, where HalfDone.thing returns -/
theorem c_Lth_returns {xs : List Int32} {l : Launch} {d : Nat} (hd : 1 ≤ d) {μ : bMm} {x1 x2 z : Int} (hz : inR z) (hM : aMet (bX xs) aS l (d - 1) aM_X11_thing [.ref 0, .int (Int32.ofInt x1), .int (Int32.ofInt x2)] (bσ μ) (some (.int (Int32.ofInt z))) (bσ μ)) : ltMet (bX xs) aS l d [.ref 0, .int (Int32.ofInt x1), .int (Int32.ofInt x2), .ref 150] (bσ μ) (some (.int 0)) (bσ (bUp μ 150 0 z)) := by
  obtain ⟨d', rfl⟩ : ∃ d', d = d' + 1 := ⟨d - 1, by omega⟩
  intro D ad cA tys sz
  refine Met_ofWH (cc := cL_thing) (maxL := 5) (ret := some .int) (hh := hhT) (by decide +kernel) rfl ?_
  intro p e s m args below meth c s₁ B hml htab hv
  obtain ⟨rfl, hP, hC, hE⟩ := hv
  have hts := atoms_spec (ws := wsT) B.pre
  have hown : s.vm.findClass R_law = some m.cls := findClass_of_methodNamed B.named
  have hsz := hC.1
  subst hsz
  have hF : aFx aM_Lth p s m c (([.ref 0, .int (Int32.ofInt x1), .int (Int32.ofInt x2), .ref 150] : List Value).map (aV ad)).toArray := ⟨B.exec, B.bytes, hml, hown, fun w hw => hts w (List.mem_cons_of_mem _ hw)⟩
  have hr := B.returns
  have hlocks := B.notSynchronized
  have hent := lv_entry (([.ref 0, .int (Int32.ofInt x1), .int (Int32.ofInt x2), .ref 150] : List Value).map (aV ad)) (n := 5) (by rw [aArg_len]; show 4 ≤ 5; omega)
  rw [lg_entry_eq]
  have hl := aLs_ent (ad := ad) (M := aM_Lth) (as := [.ref 0, .int (Int32.ofInt x1), .int (Int32.ofInt x2), .ref 150]) (by show 4 ≤ 5; omega) hent
  refine W.widen (Nat.zero_le 1) (Nat.zero_le 6) ?_
  have hrm : 1 ≤ (rm1 (d' + 1)).frames ∧ 60 ≤ (rm1 (d' + 1)).locals ∧ 1 ≤ (rm1 (d' + 1)).cells ∧ 6 ≤ (rm1 (d' + 1)).slots := ⟨by show 1 ≤ d' + 1 + 6; omega, by show 60 ≤ 41 * (d' + 1 + 6); omega, Nat.le_refl _, Nat.le_refl _⟩
  have hW : aWo aS ad cA D s (bσ μ) s.heap [] := ⟨hP, va_S.rf⟩
  refine jN aLth_ok hF hC hrm 5 (0, [.ref 0, .int (Int32.ofInt x1), .int (Int32.ofInt x2), .ref 150, .null], [], bσ μ) (5, [.ref 0, .int (Int32.ofInt x1), .int (Int32.ofInt x2), .ref 150, .null], [.int (Int32.ofInt x2), .int (Int32.ofInt x1), .ref 0, .int 0, .ref 150], bσ μ) rfl hW hl (fun H1 locs1 ls1 hW hl => ?_)
  have hGI : GoodIn aTB (aWs aM_X11_thing) := aGoodIn aM_X11_thing jT6
  have hcw : CallW (rm1 (d' + 1)) s (([.ref 0, .int (Int32.ofInt x1), .int (Int32.ofInt x2), .ref 150] : List Value).map (aV ad)).toArray R_law RX11 7 yX11_thing cX11_thing 3 (some .int) (aWs aM_X11_thing) (aRm d') 0 0 2 := ⟨callB_of 2 hF.2.2.2.2 hGI rfl rfl rfl (hF.2.2.2.2 _ jT4) (hF.2.2.2.2 _ jT1) (by decide +kernel) ⟨by show d' + 6 + 1 ≤ d' + 1 + 6; omega, by show 8 + (3 + 11) + 41 * (d' + 6) ≤ 41 * (d' + 1 + 6); omega⟩, hF.2.2.2.2 _ jT2, hF.2.2.2.2 _ jT3⟩
  obtain ⟨rr, hrr, hrn⟩ : ∃ rr : vw_C, vwCl[11]? = some rr ∧ rr.1 = RX11 := ⟨_, rfl, rfl⟩
  have hrec := va_recv hC.2.1 hW.1 hrr (aW_at (a := 0) (sh := .inl 11) rfl)
  rw [hrn] at hrec
  have hCm : ∀ U : State, U.heap = H1 → s.WarmedH U.vm → aCx (bX xs) aS ad cA D tys H1.size U := fun U hU hWm => by
    have := hC.moved (U := U) (locs := locs1) (by rw [hU]; exact hW.2) hWm
    rw [hU] at this
    exact this
  show W p l e (rm1 (d' + 1)) s m _ below meth c H1 locs1 1 6 _ (F0 m 5 ls1 [.int (Int32.ofInt x2), .int (Int32.ofInt x1), .ref (ad 0), .int 0, .ref (ad 150)])
  refine aW_run (M := aM_Lth) (pc := 5) (lv := [.ref 0, .int (Int32.ofInt x1), .int (Int32.ofInt x2), .ref 150, .null]) (r := [.int 0, .ref 150]) (v := some (.int (Int32.ofInt z))) (σ2 := bσ μ) hC hW.2 hl (va_runV (b := ad 0) (As := [.int (Int32.ofInt x1), .int (Int32.ofInt x2)]) (rest := [.int 0, .ref (ad 150)]) hF (hM D ad cA tys H1.size) hcw ⟨aPre_blind, hrec, fun U hU hWm => ⟨rfl, by rw [hU]; exact hW.1, hCm U hU hWm⟩⟩ rfl rfl hl.1 rfl (by show 2 * 0 + (1 + (1 + 0)) ≤ 8; omega) (show decode cL_thing 5 = _ by decide +kernel) ⟨Nat.le_refl _, Nat.le_refl _⟩) (fun H1 locs1 ls1 hW hl => ?_)
  have e1 : (Int32.ofInt z).toInt64 = Int64.ofInt z := Int32.toInt64_ofInt hz.1 hz.2
  refine jN aLth_ok hF hC hrm 1 (8, [.ref 0, .int (Int32.ofInt x1), .int (Int32.ofInt x2), .ref 150, .null], [.int (Int32.ofInt z), .int 0, .ref 150], bσ μ) (9, [.ref 0, .int (Int32.ofInt x1), .int (Int32.ofInt x2), .ref 150, .null], [.long (Int64.ofInt z), .int 0, .ref 150], bσ μ) (by rw [← e1]; rfl) hW hl (fun H1 locs1 ls1 hW hl => ?_)
  have hu := bUp_arr (μ := μ) (a := 150) (k := 0) (z := z) (t := 3) (n := 1) rfl (by omega) (by decide) rfl rfl
  have hv : bVa (bUp μ 150 ((0 : Nat) : Int) z) 150 0 3 = .long (Int64.ofInt z) := by
    show Value.long (Int64.ofInt (up μ.2 150 0 z 150 0)) = _
    rw [up_eq]
  rw [hv] at hu
  refine jS1 (pc := 9) aLth_ok hF hC hrm (ins := .lastore) (len := 1) (lv := [.ref 0, .int (Int32.ofInt x1), .int (Int32.ofInt x2), .ref 150, .null]) (st := [.long (Int64.ofInt z), .int 0, .ref 150]) (σ := bσ μ) (z := (10, [.ref 0, .int (Int32.ofInt x1), .int (Int32.ofInt x2), .ref 150, .null], [], bσ (bUp μ 150 0 z))) rfl ?_ hW hl (fun H1 locs1 ls1 hW hl => ?_)
  · show some (Sum.inl (10, _, ([] : List Value), aUp (bσ μ) 150 0 (.long (Int64.ofInt z)))) = _
    rw [hu]
    rfl
  refine jN aLth_ok hF hC hrm 2 (10, [.ref 0, .int (Int32.ofInt x1), .int (Int32.ofInt x2), .ref 150, .null], [], bσ (bUp μ 150 0 z)) (18, [.ref 0, .int (Int32.ofInt x1), .int (Int32.ofInt x2), .ref 150, .null], [.int 0], bσ (bUp μ 150 0 z)) rfl hW hl (fun H1 locs1 ls1 hW hl => ?_)
  exact jRet (X := bX xs) (lv := [.ref 0, .int (Int32.ofInt x1), .int (Int32.ofInt x2), .ref 150, .null]) (st := [.int 0]) (σ := bσ (bUp μ 150 0 z)) aLth_ok hF hr hlocks (ins := .ireturn) (len := 1) rfl rfl hW
