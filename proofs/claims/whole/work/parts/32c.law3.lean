/-! THE LAW'S LOOP, out of what is owed of each call -/
def lv9 (i : Int) : List bV := [vr 1000, vr 0, vr 120, vr 150, vi i, vn, vn]
theorem toInt_inR (x : Int32) : inR x.toInt := ⟨Int32.le_toInt x, by have := Int32.toInt_lt x; omega⟩
theorem bXv_inR (xs : List Int32) (i : Int) : inR (bXv xs 1000 i) := toInt_inR _
/-- the pcs of the law's cases, thing's apart -/
def casePcs : List Nat := [212, 285, 310, 335, 428, 477, 514, 539, 564, 613, 650, 675, 700, 737, 762, 799, 836, 861, 918, 931, 956, 993, 1018, 1055, 1092, 1129, 1154, 1191, 1252, 1301, 1350, 1399, 1448, 1473, 1486, 1523, 1536, 1549]
/-- owed of a case -/
def CaseOK (INV : bMm → Prop) (xs : List Int32) (pc : Nat) : Prop := ∀ (d : Nat) (G : Nat → List bV → List bV → bMm → Prop), 420 ≤ d → gAl xs d aM_law G (fun z _ => z = 1) → gHo G → ∀ (i : Int) (μ : bMm), 0 ≤ i → i + 6 ≤ ((xs.take 3072).length : Int) → INV μ → (∀ μ', INV μ' → G 1574 (lv9 i) [] μ') → G pc (lv9 i) [] μ
/-- owed of thing -/
def ThOK (INV : bMm → Prop) (xs : List Int32) : Prop := ∀ (i : Int) (μ : bMm), 0 ≤ i → i + 6 ≤ ((xs.take 3072).length : Int) → INV μ → ∃ k z : Int,
  ((k = 1 ∧ inR (μ.2 (bW μ.1.1) 9) ∧ ¬ ((0 ≤ bXv xs 1000 (i + 1) ∧ bXv xs 1000 (i + 1) < μ.2 (bW μ.1.1) 9) ∧ 0 ≤ bXv xs 1000 (i + 2) ∧ bXv xs 1000 (i + 2) ≤ 8)) ∨ (k = 0 ∧ inR z ∧ bGo xs 499 aM_X11_thing 0 (bEnt aM_X11_thing [vr 0, vi (bXv xs 1000 (i + 1)), vi (bXv xs 1000 (i + 2))]) [] μ (fun z' μ' => z' = z ∧ μ' = μ))) ∧
  ∀ (d : Nat) (G : Nat → List bV → List bV → bMm → Prop), 420 ≤ d → gAl xs d aM_law G (fun z _ => z = 1) → gHo G → (∀ μ', INV μ' → G 1574 (lv9 i) [] μ') → G 377 (lv9 i) [vi k] (if k = 1 then μ else bUp μ 150 0 z)
section LL
variable {p : Program} {l : Launch} {e : Env} {s : State} {m : MethodId} {b : Nat} {below : List Frame} {meth : Method} {c : Code}
variable {ad : Nat → Nat} {cA : Nat → ClassId} {D : va_G} {tys : List (ClassId × FieldType)} {xs : List Int32} {INV : bMm → Prop}
theorem Gw_al {cells slots : Nat} (hF : aFx aM_law p s m c #[Value.ref b]) (hr : meth.sig.returnType = ret) (hlocks : meth.locks = false) (hC : aCx (bX xs) aS ad cA D tys s.heap.size s) (hA : ∀ q, aA ad aS s.heap.size q → s.heap.size ≤ q) (hc : cells ≤ 601024) (hs : slots ≤ 7293034) : gAl xs 500 aM_law (Gw p l e room_1 s m #[Value.ref b] below meth c cells slots (lw_Z below #[Value.ref b] s) ad cA D) (fun z _ => z = 1) := by
  have h0 : 500 + 7 ≤ room_1.frames ∧ 41 * (500 + 7) ≤ room_1.locals ∧ cells ≤ room_1.cells ∧ slots ≤ room_1.slots := ⟨by decide, by decide, hc, hs⟩
  exact ⟨Gw_st hF hC ⟨by decide, by decide, hc, hs⟩, Gw_re hF hr hlocks hc hs hA, Gw_or hF hC h0, Gw_ca hF hC h0, Gw_sm⟩
theorem law_thing (hl0 : l.stackTraces = false) {i : Int} {μ : bMm} {k z : Int} (h : ((k = 1 ∧ inR (μ.2 (bW μ.1.1) 9) ∧ ¬ ((0 ≤ bXv xs 1000 (i + 1) ∧ bXv xs 1000 (i + 1) < μ.2 (bW μ.1.1) 9) ∧ 0 ≤ bXv xs 1000 (i + 2) ∧ bXv xs 1000 (i + 2) ≤ 8)) ∨ (k = 0 ∧ inR z ∧ bGo xs 499 aM_X11_thing 0 (bEnt aM_X11_thing [vr 0, vi (bXv xs 1000 (i + 1)), vi (bXv xs 1000 (i + 2))]) [] μ (fun z' μ' => z' = z ∧ μ' = μ)))) :
    ltMet (bX xs) aS l 500 [.ref 0, .int (Int32.ofInt (bXv xs 1000 (i + 1))), .int (Int32.ofInt (bXv xs 1000 (i + 2))), .ref 150] (bσ μ) (some (.int (Int32.ofInt k))) (bσ (if k = 1 then μ else bUp μ 150 0 z)) := by
  rcases h with ⟨rfl, hm, hno⟩ | ⟨rfl, hz, hgo⟩
  · obtain ⟨⟨b0, b1, b2⟩, m9⟩ := μ
    rw [if_pos rfl]
    exact c_Lth_throws hl0 (by decide) (bXv_inR xs _) (bXv_inR xs _) hm hno
  · rw [if_neg (by decide)]
    obtain ⟨v, z', μ', hMet, hr, rfl, rfl⟩ := bMet (l := l) aT_ok (by show 3 ≤ 3; omega) hgo
    have hr : v = some (.int (Int32.ofInt z')) := hr
    subst hr
    exact c_Lth_returns (by decide) hz hMet
theorem law_loop (hl0 : l.stackTraces = false) (hF : aFx aM_law p s m c #[Value.ref b]) (hr : meth.sig.returnType = ret) (hlocks : meth.locks = false) (hC : aCx (bX xs) aS ad cA D tys s.heap.size s) (hE : exS (aA ad aS s.heap.size) s) (hA : ∀ q, aA ad aS s.heap.size q → s.heap.size ≤ q) (hcase : ∀ pc ∈ casePcs, CaseOK INV xs pc) (hth : ThOK INV xs) :
    ∀ (n : Nat) (i : Int) (μ : bMm) (cells slots : Nat), 0 ≤ i → i ≤ 4000 → ((xs.take 3072).length : Int) - i ≤ (n : Int) + 5 → INV μ → cells + n ≤ 601024 → slots + 6 * n ≤ 7293034 → Gw p l e room_1 s m #[Value.ref b] below meth c cells slots (lw_Z below #[Value.ref b] s) ad cA D 23 (lv9 i) [] μ := by
  have hlen : ((xs.take 3072).length : Int) ≤ 3072 := by
    rw [List.length_take]
    omega
  intro n
  induction n with
  | zero =>
    intro i μ cells slots hi hi2 hn hI hc hs
    obtain ⟨⟨b0, b1, b2⟩, m9⟩ := μ
    refine rl_23 (d := 500) (by decide) (Gw_al hF hr hlocks hC hA (by omega) (by omega)) Gw_ho ⟨by omega, by omega, fun _ => rfl, fun h => ?_⟩
    omega
  | succ n ih =>
    intro i μ cells slots hi hi2 hn hI hc hs
    have hG := Gw_al (l := l) (e := e) (below := below) (cells := cells) (slots := slots) hF hr hlocks hC hA (by omega) (by omega)
    have hG1 := Gw_al (l := l) (e := e) (below := below) (cells := cells + 1) (slots := slots + 6) hF hr hlocks hC hA (by omega) (by omega)
    by_cases h6 : i + 6 ≤ ((xs.take 3072).length : Int)
    · have k0 : ∀ μ', INV μ' → Gw p l e room_1 s m #[Value.ref b] below meth c cells slots (lw_Z below #[Value.ref b] s) ad cA D 1574 (lv9 i) [] μ' := fun μ' hI' => by
        obtain ⟨⟨b0, b1, b2⟩, m9⟩ := μ'
        exact rl_1574 (d := 500) (by decide) hG Gw_ho (ih (i + 6) _ cells slots (by omega) (by omega) (by omega) hI' (by omega) (by omega))
      have k1 : ∀ μ', INV μ' → Gw p l e room_1 s m #[Value.ref b] below meth c (cells + 1) (slots + 6) (lw_Z below #[Value.ref b] s) ad cA D 1574 (lv9 i) [] μ' := fun μ' hI' => by
        obtain ⟨⟨b0, b1, b2⟩, m9⟩ := μ'
        exact rl_1574 (d := 500) (by decide) hG1 Gw_ho (ih (i + 6) _ (cells + 1) (slots + 6) (by omega) (by omega) (by omega) hI' (by omega) (by omega))
      have kc : ∀ pc ∈ casePcs, Gw p l e room_1 s m #[Value.ref b] below meth c cells slots (lw_Z below #[Value.ref b] s) ad cA D pc (lv9 i) [] μ := fun pc hp => hcase pc hp 500 _ (by decide) hG Gw_ho i μ hi h6 hI k0
      have k360 : Gw p l e room_1 s m #[Value.ref b] below meth c cells slots (lw_Z below #[Value.ref b] s) ad cA D 360 (lv9 i) [] μ := by
        obtain ⟨k, z, h1, h2⟩ := hth i μ hi h6 hI
        have h3 := Gw_thing (p := p) (l := l) (e := e) (R := room_1) (m := m) (below := below) (meth := meth) (c := c) (cells := cells) (slots := slots) (Q := lw_Z below #[Value.ref b] s) (lv := lv9 i) hF hC hE (d := 500) ⟨by decide, by decide, by show cells + 1 ≤ 601024; omega, by show slots + 6 ≤ 7293034; omega⟩ (law_thing hl0 h1) (h2 500 _ (by decide) hG1 Gw_ho k1)
        obtain ⟨⟨b0, b1, b2⟩, m9⟩ := μ
        exact rl_360 (d := 500) (by decide) hG Gw_ho ⟨⟨by omega, by omega⟩, ⟨by omega, by omega⟩, h3⟩
      have k9 := k0 μ hI
      obtain ⟨⟨b0, b1, b2⟩, m9⟩ := μ
      refine rl_23 (d := 500) (by decide) hG Gw_ho ⟨by omega, by omega, fun h => ?_, fun _ => ⟨⟨hi, by omega⟩, toInt_inR _, fun _ => k9, ?_⟩⟩
      · omega
      · repeat' (first | exact trivial | refine And.intro (fun _ => ?_) ?_)
        all_goals first | exact k360 | exact kc _ (by decide)
    · obtain ⟨⟨b0, b1, b2⟩, m9⟩ := μ
      refine rl_23 (d := 500) (by decide) hG Gw_ho ⟨by omega, by omega, fun _ => rfl, fun h => ?_⟩
      omega
end LL
