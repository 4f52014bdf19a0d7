/-! SOUNDNESS, the steps that touch the store -/
theorem aInS {n : Nat} {i : Int32} (h : ¬ (i < 0 ∨ n ≤ i.toNatClampNeg)) : vp_in i n := h
theorem aCl_fld {P : List aM} {cl : aCl} {i : Nat} {r : Nat × Nat × Nat × Nat} (hcl : aClC P cl = true) (h : aFd cl.2.1 i = some r) : aFC cl.1 (i, r) = true := by
  simp only [aClC, Bool.and_eq_true] at hcl
  exact List.all_eq_true.mp hcl.1 _ (aFd_mem h)
theorem aFC_inv {own : String} {i ci k kd w : Nat} (h : aFC own (i, ci, k, kd, w) = true) : ∃ (C : String) (T : u_T) (N : Nat), vwCl[ci]? = some (C, T, N) ∧ k < N ∧ Cond.fieldLink own i (T k).1 (T k).2.1 (T k).2.2.1 ∈ aTB ∧ aKdC kd (T k) = true := by
  unfold aFC at h
  split at h
  · rename_i C T N hc
    simp only [Bool.and_eq_true] at h
    exact ⟨C, T, N, hc, Nat.blt_eq.mp h.1.1, aWd_mem h.1.2, h.2⟩
  · cases h
theorem aNf_of {ci : Nat} {C : String} {T : u_T} {N : Nat} (h : vwCl[ci]? = some (C, T, N)) : aNf ci = N := by
  simp only [aNf, h]
theorem aE_obj {ad : Nat → Nat} {c : ClassId} {f : Nat → Value} {ci : Nat} : aE ad c f (.inl ci) = .inr (ci, (List.range (aNf ci)).map (fun k => aV ad (f k))) := rfl
theorem aFs_get {ad : Nat → Nat} {f : Nat → Value} {N k : Nat} (h : k < N) : ((List.range N).map (fun k => aV ad (f k)))[k]? = some (aV ad (f k)) := by
  simp [h]
theorem aFs_set {ad : Nat → Nat} {f : Nat → Value} {N k : Nat} {v : Value} : ((List.range N).map (fun j => aV ad (if j = k then v else f j))) = ((List.range N).map (fun k => aV ad (f k))).set k (aV ad v) := by
  apply List.ext_getElem?
  intro i
  rw [List.getElem?_set]
  by_cases e : k = i
  · subst e
    by_cases hi : k < N
    · simp [hi]
    · simp [hi]
  · have e' : ¬ i = k := fun q => e q.symm
    rw [if_neg e]
    by_cases hi : i < N
    · simp [hi, e']
    · simp [hi]
theorem aOk_narrow {kd : Nat} {t : String × String × String × Bool} {v : Value} {ad : Nat → Nat} (h : aKdC kd t = true) (hv : aOk kd v = true) : t.2.2.2 = false ∧ ∃ ty, parseFieldDescriptor t.2.2.1 = some ty ∧ narrow ty (aV ad v) = aV ad v ∧ fits ty (aV ad v) = true := by
  unfold aOk at hv
  split at hv
  · simp only [aKdC, Bool.and_eq_true, Bool.not_eq_true', decide_eq_true_eq] at h
    exact ⟨h.1, _, h.2, rfl, rfl⟩
  · rename_i x
    simp only [aKdC, Bool.and_eq_true, Bool.not_eq_true', decide_eq_true_eq] at h
    refine ⟨h.1, _, h.2, ?_⟩
    simp only [Bool.or_eq_true, beq_iff_eq] at hv
    rcases hv with rfl | rfl
    · exact ⟨show narrow .boolean (.int 0) = .int 0 by decide, show fits .boolean (.int 0) = true by decide⟩
    · exact ⟨show narrow .boolean (.int 1) = .int 1 by decide, show fits .boolean (.int 1) = true by decide⟩
  · simp only [aKdC, Bool.and_eq_true, Bool.not_eq_true', decide_eq_true_eq] at h
    exact ⟨h.1, _, h.2, rfl, rfl⟩
  · simp only [aKdC, Bool.and_eq_true, Bool.not_eq_true'] at h
    obtain ⟨h1, h2⟩ := h
    split at h2
    · rename_i ty hty
      refine ⟨h1, ty, hty, ?_⟩
      cases ty with
      | object C => exact ⟨rfl, rfl⟩
      | array t => exact ⟨rfl, rfl⟩
      | _ => cases h2
    · cases h2
  · cases hv
theorem aNmX {ci : Nat} {C : String} {T : u_T} {N : Nat} (h : vwCl[ci]? = some (C, T, N)) : ∃ ty0 : Nat → FieldType, (∀ k, k < N → parseFieldDescriptor (T k).2.2.1 = some (ty0 k)) ∧ (∀ a, a < N → ∀ b, b < N → a ≠ b → (T a).2.1 ≠ (T b).2.1) := by
  match ci, h with
  | 0, h => cases h; exact ⟨tyX0, tyX0_ok, nmX0⟩
  | 1, h => cases h; exact ⟨tyX1, tyX1_ok, nmX1⟩
  | 2, h => cases h; exact ⟨tyX2, tyX2_ok, nmX2⟩
  | 3, h => cases h; exact ⟨tyX3, tyX3_ok, nmX3⟩
  | 4, h => cases h; exact ⟨tyX4, tyX4_ok, nmX4⟩
  | 5, h => cases h; exact ⟨tyX5, tyX5_ok, nmX5⟩
  | 6, h => cases h; exact ⟨tyX6, tyX6_ok, nmX6⟩
  | 7, h => cases h; exact ⟨tyX7, tyX7_ok, nmX7⟩
  | 8, h => cases h; exact ⟨tyX8, tyX8_ok, nmX8⟩
  | 9, h => cases h; exact ⟨tyX9, tyX9_ok, nmX9⟩
  | 10, h => cases h; exact ⟨tyX10, tyX10_ok, nmX10⟩
  | 11, h => cases h; exact ⟨tyX11, tyX11_ok, nmX11⟩
  | 12, h => cases h; exact ⟨tyX12, tyX12_ok, nmX12⟩
  | n + 13, h => simp [vwCl] at h
theorem aWs_mem {ws : List Cond} (ps : List Nat) (h : (ps.zip ws).all (fun q => aWd q.1 q.2) = true) (hl : ps.length = ws.length) : ∀ w ∈ ws, w ∈ aTB := by
  intro w hw
  obtain ⟨i, hi⟩ := List.getElem?_of_mem hw
  have hlt : i < ws.length := (List.getElem?_eq_some_iff.mp hi).1
  have hp : ps[i]? = some (ps[i]'(by omega)) := List.getElem?_eq_getElem (by omega)
  have hz : (ps[i]'(by omega), w) ∈ ps.zip ws := List.mem_of_getElem? (i := i) (by rw [List.getElem?_zip_eq_some]; exact ⟨hp, hi⟩)
  exact aWd_mem (List.all_eq_true.mp h _ hz)
theorem aUw0 : ∀ w ∈ u_ws RX0 TX0 3, w ∈ aTB := aWs_mem [247, 249, 251] (by decide +kernel) (by decide)
theorem aUw1 : ∀ w ∈ u_ws RX1 TX1 6, w ∈ aTB := aWs_mem [313, 315, 317, 319, 321, 323] (by decide +kernel) (by decide)
theorem aUw2 : ∀ w ∈ u_ws RX2 TX2 9, w ∈ aTB := aWs_mem [341, 343, 345, 347, 349, 351, 353, 355, 357] (by decide +kernel) (by decide)
theorem aUw3 : ∀ w ∈ u_ws RX3 TX3 4, w ∈ aTB := aWs_mem [265, 267, 269, 271] (by decide +kernel) (by decide)
theorem aUw4 : ∀ w ∈ u_ws RX4 TX4 12, w ∈ aTB := aWs_mem [434, 436, 438, 440, 442, 444, 446, 448, 450, 452, 454, 456] (by decide +kernel) (by decide)
theorem aUw5 : ∀ w ∈ u_ws RX5 TX5 7, w ∈ aTB := aWs_mem [373, 375, 377, 379, 381, 383, 385] (by decide +kernel) (by decide)
theorem aUw6 : ∀ w ∈ u_ws RX6 TX6 3, w ∈ aTB := aWs_mem [196, 198, 200] (by decide +kernel) (by decide)
theorem aUw7 : ∀ w ∈ u_ws RX7 TX7 7, w ∈ aTB := aWs_mem [219, 221, 223, 225, 227, 229, 231] (by decide +kernel) (by decide)
theorem aUw8 : ∀ w ∈ u_ws RX8 TX8 5, w ∈ aTB := aWs_mem [287, 289, 291, 293, 295] (by decide +kernel) (by decide)
theorem aUw9 : ∀ w ∈ u_ws RX9 TX9 4, w ∈ aTB := aWs_mem [165, 167, 169, 171] (by decide +kernel) (by decide)
theorem aUw10 : ∀ w ∈ u_ws RX10 TX10 1, w ∈ aTB := aWs_mem [182] (by decide +kernel) (by decide)
theorem aUw11 : ∀ w ∈ u_ws RX11 TX11 13, w ∈ aTB := aWs_mem [472, 474, 476, 478, 480, 482, 484, 486, 488, 490, 492, 494, 496] (by decide +kernel) (by decide)
theorem aUw12 : ∀ w ∈ u_ws RX12 TX12 60, w ∈ aTB := aWs_mem [1411, 1413, 1415, 1417, 1419, 1421, 1423, 1425, 1427, 1429, 1431, 1433, 1435, 1437, 1439, 1441, 1443, 1445, 1447, 1449, 1451, 1453, 1455, 1457, 1459, 1461, 1463, 1465, 1467, 1469, 1471, 1473, 1475, 1477, 1479, 1481, 1483, 1485, 1487, 1489, 1491, 1493, 1495, 1497, 1499, 1501, 1503, 1505, 1507, 1509, 1511, 1513, 1515, 1517, 1519, 1521, 1523, 1525, 1527, 1529] (by decide +kernel) (by decide)
def aUws (ci : Nat) : List Cond := match vwCl[ci]? with
  | some q => u_ws q.1 q.2.1 q.2.2
  | none => []
theorem aUws_all : ∀ ci, ci < 13 → ∀ w ∈ aUws ci, w ∈ aTB := by
  intro ci h
  match ci, h with
  | 0, _ => exact aUw0
  | 1, _ => exact aUw1
  | 2, _ => exact aUw2
  | 3, _ => exact aUw3
  | 4, _ => exact aUw4
  | 5, _ => exact aUw5
  | 6, _ => exact aUw6
  | 7, _ => exact aUw7
  | 8, _ => exact aUw8
  | 9, _ => exact aUw9
  | 10, _ => exact aUw10
  | 11, _ => exact aUw11
  | 12, _ => exact aUw12
theorem aUws_in {ci : Nat} {C : String} {T : u_T} {N : Nat} (h : vwCl[ci]? = some (C, T, N)) : ∀ w ∈ u_ws C T N, w ∈ aTB := by
  have hl : ci < 13 := (List.getElem?_eq_some_iff.mp h).1
  have := aUws_all ci hl
  simp only [aUws, h] at this
  exact this
