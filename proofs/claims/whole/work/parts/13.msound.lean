/-! SOUNDNESS of the making machine -/
theorem aV_move {ad ad' : Nat → Nat} {lo : Nat} {v : Value} (h : ∀ a, a < lo ∨ 1000 ≤ a → ad' a = ad a) (hv : aFr lo v = true) : aV ad' v = aV ad v := by
  cases v with
  | ref a =>
    simp only [aFr, Bool.or_eq_true] at hv
    have : ad' a = ad a := h a (hv.imp (fun q => Nat.blt_eq.mp q) (fun q => Nat.le_of_ble_eq_true q))
    simp only [aV, this]
  | _ => rfl
theorem aRf_move {ad ad' : Nat → Nat} {lo : Nat} {v : Value} (h : ∀ a, a < lo ∨ 1000 ≤ a → ad' a = ad a) (hv : aFr lo v = true) : aRf ad' v = aRf ad v := by
  cases v with
  | ref a =>
    simp only [aFr, Bool.or_eq_true] at hv
    have : ad' a = ad a := h a (hv.imp (fun q => Nat.blt_eq.mp q) (fun q => Nat.le_of_ble_eq_true q))
    simp only [aRf, this]
  | _ => rfl
theorem aMap_move {ad ad' : Nat → Nat} {lo : Nat} {l : List Value} (h : ∀ a, a < lo ∨ 1000 ≤ a → ad' a = ad a) (hv : l.all (aFr lo) = true) : l.map (aV ad') = l.map (aV ad) :=
  List.map_congr_left (fun v hm => aV_move h (List.all_eq_true.mp hv v hm))
theorem aLs_move {ad ad' : Nat → Nat} {lo n : Nat} {ls : Array Slot} {l : List Value} (h : ∀ a, a < lo ∨ 1000 ≤ a → ad' a = ad a) (hv : l.all (aFr lo) = true) (hl : aLs ad ls n l) : aLs ad' ls n l := by
  refine ⟨hl.1, hl.2.1, hl.2.2.1, fun i v hi hn => ?_⟩
  rw [aV_move h (List.all_eq_true.mp hv v (List.mem_of_getElem? hi))]
  exact hl.2.2.2 i v hi hn
theorem arrV_congr {c : ClassId} {n : Nat} {f g : Nat → Value} (h : ∀ j, j < n → f j = g j) : arrV c n f = arrV c n g := by
  have h1 : (arrV c n f).slots = (arrV c n g).slots := by
    apply Array.ext_getElem?
    intro j
    by_cases hj : j < n
    · rw [arrV_read _ _ hj, arrV_read _ _ hj, h j hj]
    · rw [Array.getElem?_eq_none (by rw [arrV_size]; omega), Array.getElem?_eq_none (by rw [arrV_size]; omega)]
  exact congrArg (fun z : Array Value => ({ arrV c n f with slots := z } : Cell)) h1
theorem aAt_move {D : va_G} {ad ad' : Nat → Nat} {lo x : Nat} {c : ClassId} {f : Nat → Value} {sh : aSh} {H : Heap} (h : ∀ a, a < lo ∨ 1000 ≤ a → ad' a = ad a) (hf : aFrC lo f sh = true) (hat : va_at D vwCl (x, aE ad c f sh) H) : va_at D vwCl (x, aE ad' c f sh) H := by
  match sh, hf, hat with
  | .inl ci, hf, hat =>
    have e : (List.range (aNf ci)).map (fun k => aV ad' (f k)) = (List.range (aNf ci)).map (fun k => aV ad (f k)) :=
      List.map_congr_left (fun k hm => aV_move h (List.all_eq_true.mp hf k hm))
    simp only [aE, e]
    exact hat
  | .inr (t, n), hf, hat =>
    by_cases ht : t = 4
    · subst ht
      have hf : (List.range n).all (fun j => aFr lo (f j)) = true := hf
      have e : vp_cell c (n, .inr (.inr (.inr (.inr (fun j => aRf ad' (f j)))))) = vp_cell c (n, .inr (.inr (.inr (.inr (fun j => aRf ad (f j)))))) := by
        rw [vp_cell_q, vp_cell_q]
        exact arrV_congr (fun j hj => by rw [aRf_move h (List.all_eq_true.mp hf j (List.mem_range.mpr hj))])
      have hat : H[x]? = some (vp_cell c (n, .inr (.inr (.inr (.inr (fun j => aRf ad (f j))))))) := hat
      show H[x]? = some (vp_cell c (n, .inr (.inr (.inr (.inr (fun j => aRf ad' (f j)))))))
      rw [e]
      exact hat
    · have e : aE ad' c f (.inr (t, n)) = aE ad c f (.inr (t, n)) := by
        unfold aE
        simp only
        split
        · rfl
        · exact absurd rfl ht
        · rfl
      rw [e]
      exact hat
theorem aFrS_at {lo : Nat} {σ : aSt} : ∀ (S : List aSh) (i : Nat), aFrS lo σ i S = true → ∀ j sh, S[j]? = some sh → aFrC lo (σ (i + j)) sh = true := by
  intro S
  induction S with
  | nil => intro i _ j sh h; simp at h
  | cons s0 r ih =>
    intro i h j sh hj
    simp only [aFrS, Bool.and_eq_true] at h
    cases j with
    | zero => simp at hj; subst hj; exact h.1
    | succ j =>
      have := ih (i + 1) h.2 j sh (by simpa using hj)
      rw [show i + (j + 1) = i + 1 + j by omega]
      exact this
theorem aA_grow {ad ad' : Nat → Nat} {S S' : List aSh} {sz : Nat} (hle : S.length ≤ S'.length) (h1 : ∀ i, i < S.length → ad' i = ad i) (h2 : ∀ i, S.length ≤ i → i < S'.length → sz ≤ ad' i) : ∀ q, aA ad' S' sz q ↔ aA ad S sz q := by
  intro q
  constructor
  · rintro (⟨i, hi, rfl⟩ | h)
    · by_cases hlt : i < S.length
      · exact Or.inl ⟨i, hlt, (h1 i hlt).symm⟩
      · exact Or.inr (h2 i (by omega) hi)
    · exact Or.inr h
  · rintro (⟨i, hi, rfl⟩ | h)
    · exact Or.inl ⟨i, by omega, h1 i hi⟩
    · exact Or.inr h
theorem va_S_iff {A B : Nat → Prop} {H0 H : Heap} {locs : List Loc} (h : ∀ q, A q ↔ B q) (hS : va_S A H0 H locs) : va_S B H0 H locs := ⟨hS.1, fun q h1 h2 => hS.2.1 q h1 (fun z => h2 ((h q).mp z)), fun l hl => (h _).mp (hS.2.2 l hl)⟩
/-- new cells behind the old ones -/
theorem aW_grow {D : va_G} {ad ad' : Nat → Nat} {cA cA' : Nat → ClassId} {S N : List aSh} {σ σ' : aSt} {A : Nat → Prop} {H : Heap} {new : va_W} (hfr : aFrS S.length σ 0 S = true) (hlen : new.length = N.length)
    (ha : ∀ a, a < S.length ∨ 1000 ≤ a → ad' a = ad a) (hc : ∀ i, i < S.length → cA' i = cA i) (hs : ∀ i, i < S.length → σ' i = σ i)
    (hnew : ∀ (j : Nat) (sh : aSh), N[j]? = some sh → new[j]? = some (ad' (S.length + j), aE ad' (cA' (S.length + j)) (σ' (S.length + j)) sh))
    (hP : va_P D vwCl (aW ad cA S σ ++ new) H) (hD : va_D A (aW ad cA S σ ++ new)) : va_P D vwCl (aW ad' cA' (S ++ N) σ') H ∧ aInj ad' (S ++ N) ∧ ∀ i, S.length ≤ i → i < (S ++ N).length → A (ad' i) := by
  have hl0 : (aW ad cA S σ).length = S.length := by rw [aW, List.length_mapIdx]
  have hadr : ∀ i, i < (S ++ N).length → ∃ e, (aW ad cA S σ ++ new)[i]? = some (ad' i, e) := by
    intro i hi
    rw [List.length_append] at hi
    by_cases hlt : i < S.length
    · obtain ⟨sh, hsh⟩ : ∃ sh, S[i]? = some sh := ⟨_, List.getElem?_eq_getElem hlt⟩
      exact ⟨_, by rw [List.getElem?_append_left (by omega), aW_at hsh, ha i (Or.inl hlt)]⟩
    · obtain ⟨sh, hsh⟩ : ∃ sh, N[i - S.length]? = some sh := ⟨_, List.getElem?_eq_getElem (by omega)⟩
      have := hnew (i - S.length) sh hsh
      rw [show S.length + (i - S.length) = i by omega] at this
      exact ⟨_, by rw [List.getElem?_append_right (by omega), hl0]; exact this⟩
  refine ⟨?_, ?_, ?_⟩
  · intro i q hq
    have hi := (aW_of hq).1
    rw [List.length_append] at hi
    by_cases hlt : i < S.length
    · obtain ⟨sh, hsh⟩ : ∃ sh, S[i]? = some sh := ⟨_, List.getElem?_eq_getElem hlt⟩
      have hsh2 : (S ++ N)[i]? = some sh := by rw [List.getElem?_append_left hlt]; exact hsh
      rw [aW_at hsh2] at hq
      cases hq
      have h1 := hP i _ (by rw [List.getElem?_append_left (by omega)]; exact aW_at hsh)
      have h2 := aFrS_at S 0 hfr i sh hsh
      rw [Nat.zero_add] at h2
      rw [ha i (Or.inl hlt), hc i hlt, hs i hlt]
      exact aAt_move ha h2 h1
    · obtain ⟨sh, hsh⟩ : ∃ sh, N[i - S.length]? = some sh := ⟨_, List.getElem?_eq_getElem (by omega)⟩
      have hsh2 : (S ++ N)[i]? = some sh := by rw [List.getElem?_append_right (by omega)]; exact hsh
      rw [aW_at hsh2] at hq
      cases hq
      have h0 := hnew (i - S.length) sh hsh
      rw [show S.length + (i - S.length) = i by omega] at h0
      exact hP i _ (by rw [List.getElem?_append_right (by omega), hl0]; exact h0)
  · intro i j hi hj he
    obtain ⟨e1, h1⟩ := hadr i hi
    obtain ⟨e2, h2⟩ := hadr j hj
    exact hD.1 i j _ _ h1 h2 he
  · intro i _ hi
    obtain ⟨e1, h1⟩ := hadr i hi
    exact hD.2 i _ h1
theorem aCx_grow {X : aXt} {S S' : List aSh} {ad ad' : Nat → Nat} {cA cA' : Nat → ClassId} {D : va_G} {tys tys' : List (ClassId × FieldType)} {sz : Nat} {U : State} (hX : ∀ a q, X a = some q → 1000 ≤ a) (hle : S.length ≤ S'.length) (hC : aCx X S ad cA D tys sz U) (ha : ∀ a, a < S.length ∨ 1000 ≤ a → ad' a = ad a) (hA : ∀ q, aA ad' S' sz q ↔ aA ad S sz q) (hK : va_K D vwCl tys' U) (hT : ∀ i t n : Nat, S'[i]? = some (.inr (t, n)) → ∃ t0 : Nat, tys'[t0]? = some (cA' i, aFt t)) (hI : aInj ad' S') : aCx X S' ad' cA' D tys' sz U := by
  obtain ⟨hsz, -, -, -, hE, hZ, hN, hR, hXX⟩ := hC
  refine ⟨hsz, hK, hT, hI, fun a n f hs h => ?_, fun q hq => ?_, hN, fun q hq => ?_, ?_⟩
  · have hs0 : S[a]? = none := by
      rw [List.getElem?_eq_none_iff] at hs ⊢
      omega
    obtain ⟨cell, e1, e2, e3, e4, e5, e6, e7⟩ := hE a n f hs0 h
    rw [ha a (Or.inr (hX a _ h))]
    exact ⟨cell, e1, e2, e3, e4, e5, e6, fun z => e7 ((hA _).mp z)⟩
  · have h1 := (hZ q hq).narrow (B := aA ad' S' sz) (fun x hx => (hA x).mp hx)
    have e : ad' q.1 = ad q.1 := by
      apply ha
      right
      simp only [aStat, List.mem_cons, List.not_mem_nil, or_false] at hq
      rcases hq with rfl | rfl | rfl <;> decide
    rw [e]
    exact h1
  · have h1 := hR q hq
    have e : ad' q.2.2.2 = ad q.2.2.2 := by
      apply ha
      right
      simp only [aStrK, List.mem_cons, List.not_mem_nil, or_false] at hq
      rcases hq with rfl | rfl | rfl | rfl | rfl <;> decide
    rw [e]
    exact h1
  · obtain ⟨h1, h2, h3⟩ := hXX
    have e : (fun i => ad' (2000 + i)) = fun i => ad (2000 + i) := funext fun i => ha _ (Or.inr (by omega))
    have e3 : (fun i => ad' (3000 + i)) = fun i => ad (3000 + i) := funext fun i => ha _ (Or.inr (by omega))
    have e5 : ad' 3005 = ad 3005 := ha _ (Or.inr (by decide))
    refine ⟨?_, h2.narrow (fun x hx => (hA x).mp hx), ?_⟩
    · rw [e, e3]
      exact h1.narrow (fun x hx => (hA x).mp hx)
    · rw [e5]
      exact h3.imp (fun h => h.narrow (fun x hx => (hA x).mp hx)) (fun h => h.narrow (fun x hx => (hA x).mp hx))
