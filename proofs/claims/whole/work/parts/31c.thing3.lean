/-! HalfDone.thing throws; HalfDoneLaw.thing -/
theorem bMap (as : List bV) : as.map bVal = as.map bVal := rfl
/-- hasThing, by its rule -/
theorem m_hasThing {xs : List Int32} {l : Launch} {d : Nat} (hd : 1 ≤ d) {b b0 b1 b2 : Bool} {m : Nat → Int → Int} {x1 : Int} (hx : inR x1) (hm : inR (m (bW b) 9)) : aMet (bX xs) aS l d aM_X4_hasThing [.ref (bW b), .int (Int32.ofInt x1)] (bσ ((b0, b1, b2), m)) (some (.int (if 0 ≤ x1 ∧ x1 < m (bW b) 9 then 1 else 0))) (bσ ((b0, b1, b2), m)) := by
  have h := aG2 aM_X4_hasThing (List.mem_of_getElem? (i := 42) rfl)
  obtain ⟨v, z, μ', hM, hr, hz, rfl⟩ := bMet (l := l) (as := [vr (bW b), vi x1]) (Q := fun z μ => z = (if 0 ≤ x1 ∧ x1 < m (bW b) 9 then 1 else 0) ∧ μ = ((b0, b1, b2), m)) h (Nat.le_refl _) (r_X4_hasThing_0 (xs := xs) hd (b := b) (b0 := b0) (b1 := b1) (b2 := b2) (m := m) (x1 := x1) ⟨hx, fun h1 => ⟨by rw [if_neg (by omega)], rfl⟩, fun h1 => ⟨hx, hm, fun h2 => ⟨by rw [if_neg (by omega)], rfl⟩, fun h2 => ⟨by rw [if_pos ⟨h1, h2⟩], rfl⟩⟩⟩)
  have hr : v = some (.int (Int32.ofInt z)) := hr
  subst hr
  rw [hz] at hM
  have e : (Value.int (Int32.ofInt (if 0 ≤ x1 ∧ x1 < m (bW b) 9 then 1 else 0))) = .int (if 0 ≤ x1 ∧ x1 < m (bW b) 9 then 1 else 0) := by
    split <;> rfl
  rw [e] at hM
  exact hM
theorem c_thing_throws {xs : List Int32} {l : Launch} (hl0 : l.stackTraces = false) {d : Nat} (hd : 2 ≤ d) {b0 b1 b2 : Bool} {m9 : Nat → Int → Int} {x1 x2 : Int} (hx1 : inR x1) (hx2 : inR x2) (hm : inR (m9 (bW b0) 9)) (hno : ¬ ((0 ≤ x1 ∧ x1 < m9 (bW b0) 9) ∧ 0 ≤ x2 ∧ x2 ≤ 8)) : thMet (bX xs) aS l d [.ref 0, .int (Int32.ofInt x1), .int (Int32.ofInt x2)] (bσ ((b0, b1, b2), m9)) := by
  obtain ⟨d', rfl⟩ : ∃ d', d = d' + 1 := ⟨d - 1, by omega⟩
  intro D ad cA tys sz
  refine vx_ofW (cc := cX11_thing) (maxL := 3) (ret := some .int) (by decide) rfl ?_
  intro p e s m args below meth c s₁ B hml htab hv
  obtain ⟨rfl, hP, hC, hE⟩ := hv
  have hts := atoms_spec (ws := aWs aM_X11_thing) B.pre
  have hown : s.vm.findClass RX11 = some m.cls := findClass_of_methodNamed B.named
  have hsz := hC.1
  subst hsz
  have hF : aFx aM_X11_thing p s m c (([.ref 0, .int (Int32.ofInt x1), .int (Int32.ofInt x2)] : List Value).map (aV ad)).toArray := ⟨B.exec, B.bytes, hml, hown, fun w hw => hts w (List.mem_cons_of_mem _ hw)⟩
  have hr := B.returns
  have hlocks := B.notSynchronized
  have hent := lv_entry (([.ref 0, .int (Int32.ofInt x1), .int (Int32.ofInt x2)] : List Value).map (aV ad)) (n := 3) (by rw [aArg_len]; exact Nat.le_refl _)
  rw [lg_entry_eq]
  have hl := aLs_ent (ad := ad) (M := aM_X11_thing) (as := [.ref 0, .int (Int32.ofInt x1), .int (Int32.ofInt x2)]) (Nat.le_refl _) hent
  have hrm : 1 ≤ (rm1 (d' + 1)).frames ∧ 60 ≤ (rm1 (d' + 1)).locals ∧ 0 ≤ (rm1 (d' + 1)).cells ∧ 0 ≤ (rm1 (d' + 1)).slots := ⟨by show 1 ≤ d' + 1 + 6; omega, by show 60 ≤ 41 * (d' + 1 + 6); omega, Nat.zero_le _, Nat.zero_le _⟩
  have hW : aWo aS ad cA D s (bσ ((b0, b1, b2), m9)) s.heap [] := ⟨hP, va_S.rf⟩
  refine jN aT_ok.2 hF hC hrm 3 (0, [.ref 0, .int (Int32.ofInt x1), .int (Int32.ofInt x2)], [], bσ ((b0, b1, b2), m9)) (5, [.ref 0, .int (Int32.ofInt x1), .int (Int32.ofInt x2)], [.int (Int32.ofInt x1), .ref (bW b0)], bσ ((b0, b1, b2), m9)) (by cases b0 <;> rfl) hW hl (fun H1 locs1 ls1 hW hl => ?_)
  have hco : aFd (aCo aM_X11_thing) 5 = some (.invokevirtual 142, 3) := rfl
  obtain ⟨hdd, hnn⟩ := aCo_dec aT_ok.2.1 hco
  refine aS_call (d' := d') (M' := aM_X4_hasThing) (K := 42) (as := [.ref (bW b0), .int (Int32.ofInt x1)]) (z := (8, [.ref 0, .int (Int32.ofInt x1), .int (Int32.ofInt x2)], [], bσ ((b0, b1, b2), m9))) (lv := [.ref 0, .int (Int32.ofInt x1), .int (Int32.ofInt x2)]) (st := [.int (Int32.ofInt x1), .ref (bW b0)]) hF aG2 aT_ok.2.2.1 hC ⟨by show d' + 7 ≤ d' + 1 + 6; omega, by show 41 * (d' + 7) ≤ 41 * (d' + 1 + 6); omega, Nat.zero_le _, Nat.zero_le _⟩ hdd hnn hW hl (by cases b0 <;> rfl) rfl (m_hasThing (by omega) hx1 hm) (fun H1 locs1 ls1 hW hl => ?_)
  by_cases hh : 0 ≤ x1 ∧ x1 < m9 (bW b0) 9
  · rw [if_pos hh]
    refine jS1 (pc := 8) aT_ok.2 hF hC hrm (ins := .ifCond .ne 13) (len := 3) (lv := [.ref 0, .int (Int32.ofInt x1), .int (Int32.ofInt x2)]) (st := [.int 1]) (σ := bσ ((b0, b1, b2), m9)) (z := (21, [.ref 0, .int (Int32.ofInt x1), .int (Int32.ofInt x2)], [], bσ ((b0, b1, b2), m9))) rfl ((aIf_of (P := fun x : Int32 => ¬ x = 0) (pc := 8) (off := 13) (t := 21) rfl _ 1 [] _).trans (if_pos (by decide))) hW hl (fun H1 locs1 ls1 hW hl => ?_)
    refine jN aT_ok.2 hF hC hrm 1 (21, [.ref 0, .int (Int32.ofInt x1), .int (Int32.ofInt x2)], [], bσ ((b0, b1, b2), m9)) (22, [.ref 0, .int (Int32.ofInt x1), .int (Int32.ofInt x2)], [.int (Int32.ofInt x2)], bσ ((b0, b1, b2), m9)) rfl hW hl (fun H1 locs1 ls1 hW hl => ?_)
    refine jS1 (pc := 22) aT_ok.2 hF hC hrm (ins := .tableswitch 157 0 8 #[50, 60, 70, 82, 92, 105, 118, 131, 144]) (len := 50) (lv := [.ref 0, .int (Int32.ofInt x1), .int (Int32.ofInt x2)]) (st := [.int (Int32.ofInt x2)]) (σ := bσ ((b0, b1, b2), m9)) (z := (179, [.ref 0, .int (Int32.ofInt x1), .int (Int32.ofInt x2)], [], bσ ((b0, b1, b2), m9))) rfl ?_ hW hl (fun H1 locs1 ls1 hW hl => ?_)
    · simp only [aIns]
      rw [i32_of hx2, if_pos (by omega)]
      rfl
    · exact th_throw (pc := 179) (is := 165) (text := "no such what") hl0 hF hlocks htab hC hE hE.2.2.2.2 (by show 6 ≤ d' + 1 + 6; omega) (by show 100 ≤ 41 * (d' + 1 + 6); omega) (Nat.le_refl _) (Nat.le_refl _) hW hl.1 (by decide +kernel) (by decide +kernel) (by decide +kernel) (by decide +kernel) (by decide +kernel)
  · rw [if_neg hh]
    refine jS1 (pc := 8) aT_ok.2 hF hC hrm (ins := .ifCond .ne 13) (len := 3) (lv := [.ref 0, .int (Int32.ofInt x1), .int (Int32.ofInt x2)]) (st := [.int 0]) (σ := bσ ((b0, b1, b2), m9)) (z := (11, [.ref 0, .int (Int32.ofInt x1), .int (Int32.ofInt x2)], [], bσ ((b0, b1, b2), m9))) rfl ((aIf_of (P := fun x : Int32 => ¬ x = 0) (pc := 8) (off := 13) (t := 21) rfl _ 0 [] _).trans (if_neg (by decide))) hW hl (fun H1 locs1 ls1 hW hl => ?_)
    exact th_throw (pc := 11) (is := 148) (text := "no such thing") hl0 hF hlocks htab hC hE hE.2.2.2.1 (by show 6 ≤ d' + 1 + 6; omega) (by show 100 ≤ 41 * (d' + 1 + 6); omega) (Nat.le_refl _) (Nat.le_refl _) hW hl.1 (by decide +kernel) (by decide +kernel) (by decide +kernel) (by decide +kernel) (by decide +kernel)
