/-! THE START'S STORE; constructors as contracts -/
set_option maxRecDepth 100000 in
theorem aStrs : aProg.all (fun M => aStrOK (aCs M)) = true := by decide +kernel
theorem aG2 : ∀ M ∈ aProg, aMC M = true ∧ aCoC M = true ∧ (aClC aProg (aCs M) = true ∧ aStrOK (aCs M) = true) := fun M h => ⟨(aG M h).1, (aG M h).2.1, (aG M h).2.2, List.all_eq_true.mp aStrs M h⟩
set_option maxRecDepth 100000 in
theorem aLawK : (aStrOK (aCs aM_law) && (aK_law.2.1.all (aNC (aOwn aM_law)) && aK_law.2.2.1.all (aSC aCt (aOwn aM_law)))) = true := by decide +kernel
theorem aMkMet {l : Launch} (hMna : aMna l) {f d' : Nat} {M' : aMk} {as : List Value} {σ : aSt} {S : List aSh} {σ2 : aSt} {S2 : List aSh} {k2 : Nat} (hMin' : M' ∈ aCt) (hble : (aArg as).length ≤ aML M'.1) (hex : aMkE aX0 aCt f d' M' 0 (aEnt M'.1 as) [] σ S 0 = some (σ2, S2, k2)) : aMetM l d' M' as σ S σ2 S2 k2 := by
  have hm3 := aMkE_mono _ _ _ _ _ _ _ _ _ _ _ _ hex
  intro D ad cA tys sz
  obtain ⟨-, hCt', -⟩ := aCt_ok M' hMin'
  simp only [aCtC, aMC, Bool.and_eq_true, decide_eq_true_eq] at hCt'
  obtain ⟨⟨⟨hcode, hplain, hownM⟩, hml22⟩, hinit, hret⟩ := hCt'
  refine Met.ofW (cc := aBy M'.1) (maxL := aML M'.1) (ret := aRt M'.1) hplain rfl ?_
  intro p e s m args below meth c s₁ B hml hv
  obtain ⟨rfl, hP, hC, hNest, hAO⟩ := hv
  have hts := atoms_spec (ws := aWs M'.1) B.pre
  have hown : s.vm.findClass (aOwn M'.1) = some m.cls := by
    rw [← hownM]
    exact findClass_of_methodNamed B.named
  have hsz := hC.1
  subst hsz
  have hent := lv_entry (as.map (aV ad)) (n := aML M'.1) (by rw [aArg_len]; exact hble)
  rw [lg_entry_eq]
  have h9 := aMkSound l hMna f d' M' 0 (aEnt M'.1 as) [] σ S 0 σ2 S2 k2 hex hMin' (e := e) (below := below) (R := (headSpec (aWs M'.1) (aRmM d' (S2.length - S.length) k2)).room) (L0 := S.length) (A0 := aA ad S s.heap.size) (Qc := aQm S ad D S2 σ2 (aA ad S s.heap.size)) ⟨B.exec, B.bytes, hml, hown, fun w hw => hts w (List.mem_cons_of_mem _ hw)⟩ (by rw [B.returns, hret]) B.notSynchronized (by rw [aMet_name B, hinit]) hNest hAO hC ⟨Nat.le_refl _, Nat.le_refl _, Nat.le_refl _, Nat.le_refl _⟩ (Nat.le_refl _) (fun _ => Iff.rfl) ⟨hP, va_S.rf⟩ (aLs_ent hble hent) (fun ad' cA' tys' t ha hC' hA' hP' hF' hWm => ⟨rfl, ad', cA', tys', ha, hP', va_K.moved hWm.alike hC'.2.1, hC'.2.2.1, hC'.2.2.2.1, fun i h1 h2 => by
      rcases (hA' (ad' i)).mp (Or.inl ⟨i, h2, rfl⟩) with ⟨j, hj, e⟩ | h
      · have := hC'.2.2.2.1 j i (by omega) h2 (by rw [ha j (Or.inl hj)]; exact e)
        omega
      · exact h, hF'⟩)
  rw [Nat.sub_self] at h9
  exact h9
/-- what the constructors leave -/
def aF0 : List (List Value) := [[.ref 1, .ref 3, .ref 4, .ref 6, .ref 24, .ref 32, .ref 36, .ref 79, .ref 85, .ref 94, .ref 100, .ref 110, .int (-1)], [.ref 2, .int 0, .int 0, .int 0], [], [.ref 1], [.ref 1, .ref 5, .int 0], [], [.ref 7, .ref 14, .ref 15, .ref 16, .ref 17, .int 0, .int 0], [.ref 8, .ref 9, .ref 10, .ref 11, .ref 12, .ref 13], [], [], [], [], [], [], [], [], [], [.ref 18, .ref 19, .ref 20, .ref 21, .ref 22, .ref 23], [], [], [], [], [], [], [.ref 25, .ref 31, .int 0], [.ref 26, .ref 27, .ref 28, .ref 29, .ref 30], [], [], [], [], [], [], [.ref 33, .ref 34, .ref 35, .int 0], [], [], [], [.ref 37, .ref 78, .int 0, .int 0, .int 0], [.ref 38, .ref 39, .ref 40, .ref 41, .ref 42, .ref 43, .ref 44, .ref 45, .ref 46, .ref 47, .ref 48, .ref 49, .ref 50, .ref 51, .ref 52, .ref 53, .ref 54, .ref 55, .ref 56, .ref 57, .ref 58, .ref 59, .ref 60, .ref 61, .ref 62, .ref 63, .ref 64, .ref 65, .ref 66, .ref 67, .ref 68, .ref 69, .ref 70, .ref 71, .ref 72, .ref 73, .ref 74, .ref 75, .ref 76, .ref 77], [], [], [], [], [], [], [], [], [], [], [], [], [], [], [], [], [], [], [], [], [], [], [], [], [], [], [], [], [], [], [], [], [], [], [], [], [], [], [], [], [], [.ref 80, .ref 81, .ref 82, .ref 83, .ref 84, .int 0], [], [], [], [], [], [.ref 79, .ref 86, .ref 87, .ref 88, .ref 89, .ref 90, .ref 91, .ref 92, .ref 93], [], [], [], [], [], [], [], [], [.ref 95, .ref 96, .ref 97, .ref 98, .ref 99, .int 0, .int 0], [], [], [], [], [], [.ref 101, .ref 102, .ref 103, .ref 104, .ref 105, .ref 106, .ref 107, .ref 108, .ref 109, .int 0, .int 0, .int 0], [], [], [], [], [], [], [], [], [], [.ref 111, .ref 112, .ref 113, .ref 114, .ref 115, .ref 116, .ref 117, .ref 118, .ref 119, .int 0, .int 0, .int 0], [], [], [], [], [], [], [], [], [], [.int 0, .ref 121, .ref 122, .ref 123, .ref 124, .ref 121, .int 0, .int 0, .int 0, .int 0, .int 0, .int 0, .int 0, .int 0, .int 0, .ref 2000, .ref 2001, .int 0, .ref 125, .ref 126, .ref 127, .ref 128, .ref 129, .ref 130, .ref 131, .ref 132, .int 0, .int 0, .int 0, .int 0, .int 0, .int 0, .ref 133, .ref 134, .int 0, .ref 135, .int (-1), .ref 136, .int 0, .ref 137, .long 0, .ref 138, .ref 139, .ref 140, .ref 141, .int 0, .ref 142, .ref 143, .ref 144, .int 0, .ref 145, .int 0, .int 0, .int 0, .ref 146, .ref 147, .ref 148, .int 0, .ref 149, .int 0], [], [], [], [], [], [], [], [], [], [], [], [], [], [], [], [], [], [], [], [], [], [], [], [], [], [], [], [], [], []]
def aI0 : aSt := fun a k => match aS[a]? with
  | some (.inl _) => (aF0.getD a []).getD k .null
  | some (.inr (t, _)) => match t with
    | 4 => (aF0.getD a []).getD k .null
    | 3 => .long 0
    | _ => .int 0
  | none => .null
def aEqC (f g : Nat → Value) (sh : aSh) : Bool := match sh with
  | .inl ci => (List.range (aNf ci)).all (fun k => decide (f k = g k))
  | .inr (_, n) => (List.range n).all (fun k => decide (f k = g k))
def aEqS (σ τ : aSt) : Nat → List aSh → Bool
  | _, [] => true
  | i, sh :: r => aEqC (σ i) (τ i) sh && aEqS σ τ (i + 1) r
theorem aEqS_at {σ τ : aSt} : ∀ (S : List aSh) (i : Nat), aEqS σ τ i S = true → ∀ j sh, S[j]? = some sh → aEqC (σ (i + j)) (τ (i + j)) sh = true := by
  intro S
  induction S with
  | nil => intro i _ j sh h; simp at h
  | cons s0 r ih =>
    intro i h j sh hj
    simp only [aEqS, Bool.and_eq_true] at h
    cases j with
    | zero => simp at hj; subst hj; exact h.1
    | succ j =>
      have := ih (i + 1) h.2 j sh (by simpa using hj)
      rw [show i + (j + 1) = i + 1 + j by omega]
      exact this
theorem aE_arr {ad : Nat → Nat} {c : ClassId} {f : Nat → Value} {t n : Nat} (h3 : t ≠ 3) (h4 : t ≠ 4) : aE ad c f (.inr (t, n)) = .inl (c, n, .inl (fun j => aI (f j))) := by
  match t, h3, h4 with
  | 0, _, _ => rfl
  | 1, _, _ => rfl
  | 2, _, _ => rfl
  | 3, h, _ => exact absurd rfl h
  | 4, _, h => exact absurd rfl h
  | t + 5, _, _ => rfl
theorem aAt_congr {D : va_G} {ad : Nat → Nat} {x : Nat} {c : ClassId} {f g : Nat → Value} {sh : aSh} {H : Heap} (h : aEqC f g sh = true) (hat : va_at D vwCl (x, aE ad c f sh) H) : va_at D vwCl (x, aE ad c g sh) H := by
  match sh, h, hat with
  | .inl ci, h, hat =>
    have e : (List.range (aNf ci)).map (fun k => aV ad (g k)) = (List.range (aNf ci)).map (fun k => aV ad (f k)) :=
      List.map_congr_left (fun k hm => by
        have := List.all_eq_true.mp h k hm
        rw [decide_eq_true_eq] at this
        rw [this])
    simp only [aE, e]
    exact hat
  | .inr (t, n), h, hat =>
    have hfg : ∀ j, j < n → f j = g j := fun j hj => by
      have h2 : (List.range n).all (fun k => decide (f k = g k)) = true := h
      have := List.all_eq_true.mp h2 j (List.mem_range.mpr hj)
      rw [decide_eq_true_eq] at this
      exact this
    by_cases h3 : t = 3
    · subst h3
      have hat : H[x]? = some (arrV c n (fun j => .long (aJ (f j)))) := hat
      show H[x]? = some (arrV c n (fun j => .long (aJ (g j))))
      rw [hat]
      exact congrArg some (arrV_congr (fun j hj => by rw [hfg j hj]))
    · by_cases h4 : t = 4
      · subst h4
        have e : vp_cell c (n, .inr (.inr (.inr (.inr (fun j => aRf ad (f j)))))) = vp_cell c (n, .inr (.inr (.inr (.inr (fun j => aRf ad (g j)))))) := by
          rw [vp_cell_q, vp_cell_q]
          exact arrV_congr (fun j hj => by rw [hfg j hj])
        have hat : H[x]? = some (vp_cell c (n, .inr (.inr (.inr (.inr (fun j => aRf ad (f j))))))) := hat
        show H[x]? = some (vp_cell c (n, .inr (.inr (.inr (.inr (fun j => aRf ad (g j)))))))
        rw [← e]
        exact hat
      · rw [aE_arr h3 h4] at hat ⊢
        have hat : H[x]? = some (arrV c n (fun j => .int (aI (f j)))) := hat
        show H[x]? = some (arrV c n (fun j => .int (aI (g j))))
        rw [hat]
        exact congrArg some (arrV_congr (fun j hj => by rw [hfg j hj]))
theorem aP_congr {D : va_G} {ad : Nat → Nat} {cA : Nat → ClassId} {S : List aSh} {σ τ : aSt} {H : Heap} (h : aEqS σ τ 0 S = true) (hP : va_P D vwCl (aW ad cA S σ) H) : va_P D vwCl (aW ad cA S τ) H := by
  intro i q hq
  have hi := (aW_of hq).1
  obtain ⟨sh, hsh⟩ : ∃ sh, S[i]? = some sh := ⟨_, List.getElem?_eq_getElem hi⟩
  rw [aW_at hsh] at hq
  cases hq
  have h1 := hP i _ (aW_at hsh)
  have h2 := aEqS_at S 0 h i sh hsh
  rw [Nat.zero_add] at h2
  exact aAt_congr h2 h1
def aH1 : Option (aSt × List aSh × Nat) := aMkE aX0 aCt 4000 3 aK_X11_init 0 (aEnt aM_X11_init [.ref 0]) [] (aNw (fun _ _ => .null) 0 (aDf 11)) [.inl 11] 0
def aH2 : Option (aSt × List aSh × Nat) := aMkE aX0 aCt 4000 3 aK_X12_init 0 (aEnt aM_X12_init [.ref 120]) [] (aNw aI0 120 (aDf 12)) (aS.take 120 ++ [.inl 12]) 0
def aHok (h : Option (aSt × List aSh × Nat)) (n k : Nat) : Bool := match h with
  | some (σ, S, j) => decide (S = aS.take n) && (Nat.beq j k && aEqS σ aI0 0 S)
  | none => false
theorem aHok_inv {h : Option (aSt × List aSh × Nat)} {n k : Nat} (e : aHok h n k = true) : ∃ σ, h = some (σ, aS.take n, k) ∧ aEqS σ aI0 0 (aS.take n) = true := by
  unfold aHok at e
  split at e
  · rename_i σ S j
    simp only [Bool.and_eq_true, decide_eq_true_eq] at e
    obtain ⟨e1, e2, e3⟩ := e
    have e2 := Nat.eq_of_beq_eq_true e2
    subst e1
    subst e2
    exact ⟨σ, rfl, e3⟩
  · cases e
set_option maxRecDepth 100000 in
theorem aH1_ok : aHok aH1 120 8511 = true := by decide +kernel
set_option maxRecDepth 100000 in
theorem aH2_ok : aHok aH2 150 5482 = true := by decide +kernel
