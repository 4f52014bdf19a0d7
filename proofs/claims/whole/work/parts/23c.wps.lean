/-! THE RULES' SOUNDNESS, 3: inversions; a step -/
theorem i32_of {z : Int} (h : inR z) : (Int32.ofInt z).toInt = z := Int32.toInt_ofInt_of_le (by omega) (by omega)
theorem i64_of {z : Int} (h : inL z) : (Int64.ofInt z).toInt = z := Int64.toInt_ofInt_of_le (by omega) (by omega)
theorem i32_lt {x y : Int} (hx : inR x) (hy : inR y) : Int32.ofInt x < Int32.ofInt y ↔ x < y := by rw [Int32.lt_iff_toInt_lt, i32_of hx, i32_of hy]
theorem i32_le {x y : Int} (hx : inR x) (hy : inR y) : Int32.ofInt x ≤ Int32.ofInt y ↔ x ≤ y := by rw [Int32.le_iff_toInt_le, i32_of hx, i32_of hy]
theorem i32_eq {x y : Int} (hx : inR x) (hy : inR y) : Int32.ofInt x = Int32.ofInt y ↔ x = y := by rw [← Int32.toInt_inj, i32_of hx, i32_of hy]
theorem i64_lt {x y : Int} (hx : inL x) (hy : inL y) : Int64.ofInt x < Int64.ofInt y ↔ x < y := by rw [Int64.lt_iff_toInt_lt, i64_of hx, i64_of hy]
theorem i64_eq {x y : Int} (hx : inL x) (hy : inL y) : Int64.ofInt x = Int64.ofInt y ↔ x = y := by rw [← Int64.toInt_inj, i64_of hx, i64_of hy]
theorem i32_zero : Int32.ofInt 0 = 0 := rfl
theorem i32_nat {z : Int} {n : Nat} (h0 : 0 ≤ z) (h1 : z < n) (hn : n < 2147483648) : (Int32.ofInt z).toNatClampNeg = z.toNat ∧ ¬ Int32.ofInt z < 0 := by
  have hr : inR z := by omega
  refine ⟨?_, ?_⟩
  · show (Int32.ofInt z).toInt.toNat = _
    rw [i32_of hr]
  · rw [← i32_zero, i32_lt hr (by decide)]
    omega
theorem i32_ix {z : Int} {n : Nat} (h0 : 0 ≤ z) (h1 : z < n) (hn : n < 2147483648) : ¬ (Int32.ofInt z < 0 ∨ n ≤ (Int32.ofInt z).toNatClampNeg) := by
  obtain ⟨e1, e2⟩ := i32_nat h0 h1 hn
  rw [e1]
  rintro (h | h)
  · exact e2 h
  · omega
theorem wII_inv {f : bV → bV → Int → Int → List bV → Prop} {st : List bV} (h : wII f st) : ∃ u v x y r, st = v :: u :: r ∧ bZ v = some y ∧ bZ u = some x ∧ f u v x y r := by
  unfold wII at h
  split at h
  · rename_i v u r
    split at h
    · rename_i y hy
      split at h
      · rename_i x hx
        exact ⟨u, v, x, y, r, rfl, hy, hx, h⟩
      · cases h
    · cases h
  · cases h
theorem wLL_inv {f : bV → bV → Int → Int → List bV → Prop} {st : List bV} (h : wLL f st) : ∃ u v x y r, st = v :: u :: r ∧ bL v = some y ∧ bL u = some x ∧ f u v x y r := by
  unfold wLL at h
  split at h
  · rename_i v u r
    split at h
    · rename_i y hy
      split at h
      · rename_i x hx
        exact ⟨u, v, x, y, r, rfl, hy, hx, h⟩
      · cases h
    · cases h
  · cases h
theorem wLI_inv {f : Int → Int → List bV → Prop} {st : List bV} (h : wLI f st) : ∃ u v x y r, st = v :: u :: r ∧ bZ v = some y ∧ bL u = some x ∧ f x y r := by
  unfold wLI at h
  split at h
  · rename_i v u r
    split at h
    · rename_i y hy
      split at h
      · rename_i x hx
        exact ⟨u, v, x, y, r, rfl, hy, hx, h⟩
      · cases h
    · cases h
  · cases h
theorem wI1_inv {f : bV → Int → List bV → Prop} {st : List bV} (h : wI1 f st) : ∃ v z r, st = v :: r ∧ bZ v = some z ∧ f v z r := by
  unfold wI1 at h
  split at h
  · rename_i v r
    split at h
    · rename_i z hz
      exact ⟨v, z, r, rfl, hz, h⟩
    · cases h
  · cases h
theorem wP1_inv {nx : List bV → Prop} {lv : List bV} {i : Nat} {v : bV} (h : wP1 nx lv i v) : (Nat.blt i lv.length && bNoL lv i) = true ∧ nx (lv.set i v) := by
  unfold wP1 at h
  split at h
  · rename_i e; exact ⟨e, h⟩
  · cases h
theorem wP2_inv {nx : List bV → Prop} {lv : List bV} {i : Nat} {v : bV} (h : wP2 nx lv i v) : (Nat.blt (i + 1) lv.length && bNoL lv i) = true ∧ nx ((lv.set i v).set (i + 1) vn) := by
  unfold wP2 at h
  split at h
  · rename_i e; exact ⟨e, h⟩
  · cases h
theorem wLi_inv {nx : bV → Prop} {lv : List bV} {i : Nat} (h : wLi nx lv i) : ∃ v z, lv[i]? = some v ∧ bZ v = some z ∧ nx v := by
  unfold wLi at h
  split at h
  · rename_i v hv
    split at h
    · rename_i z hz
      exact ⟨v, z, hv, hz, h⟩
    · cases h
  · cases h
theorem wLl_inv {nx : bV → Prop} {lv : List bV} {i : Nat} (h : wLl nx lv i) : ∃ v z, lv[i]? = some v ∧ bL v = some z ∧ nx v := by
  unfold wLl at h
  split at h
  · rename_i v hv
    split at h
    · rename_i z hz
      exact ⟨v, z, hv, hz, h⟩
    · cases h
  · cases h
theorem wLr_inv {nx : bV → Prop} {lv : List bV} {i : Nat} (h : wLr nx lv i) : ∃ v a, lv[i]? = some v ∧ bVal v = .ref a ∧ nx v := by
  unfold wLr at h
  split at h
  · rename_i v hv
    split at h
    · rename_i hz
      obtain ⟨a, ha⟩ := bRe_val hz
      exact ⟨v, a, hv, ha, h⟩
    · cases h
  · cases h
theorem wR_inv {v : bV} {z : Int} {P : Prop} (h : wR v z P) : inR z ∧ P := by
  unfold wR at h
  split at h
  · split at h
    · rename_i e
      exact ⟨of_decide_eq_true e, h⟩
    · cases h
  · exact h
theorem wRL_inv {v : bV} {z : Int} {P : Prop} (h : wRL v z P) : inL z ∧ P := by
  unfold wRL at h
  split at h
  · split at h
    · rename_i e
      exact ⟨of_decide_eq_true e, h⟩
    · cases h
  · exact h
theorem wIx_inv {v : bV} {z n : Int} {P : Prop} (h : wIx v z n P) : (0 ≤ z ∧ z < n) ∧ P := by
  unfold wIx at h
  split at h
  · split at h
    · rename_i e
      exact ⟨of_decide_eq_true e, h⟩
    · cases h
  · exact h
theorem wDv_inv {v : bV} {y : Int} {P : Prop} (h : wDv v y P) : (inR y ∧ ¬ y = 0) ∧ P := by
  unfold wDv at h
  split at h
  · split at h
    · rename_i e
      exact ⟨of_decide_eq_true e, h⟩
    · cases h
  · exact h
theorem wDvL_inv {v : bV} {y : Int} {P : Prop} (h : wDvL v y P) : (inL y ∧ ¬ y = 0) ∧ P := by
  unfold wDvL at h
  split at h
  · split at h
    · rename_i e
      exact ⟨of_decide_eq_true e, h⟩
    · cases h
  · exact h
theorem wBr_inv {g : Bool} {p q A B : Prop} [hp : Decidable p] (hq : ¬ p → q) (h : wBr g (decide p) p q A B) : (p → A) ∧ (¬ p → B) := by
  unfold wBr at h
  split at h
  · by_cases e : p
    · rw [decide_eq_true e] at h
      exact ⟨fun _ => h, fun n => absurd e n⟩
    · rw [decide_eq_false e] at h
      exact ⟨fun n => absurd n e, fun _ => h⟩
  · exact ⟨h.1, fun n => h.2 (hq n)⟩
/-- a question between two ints, as the machine asks it and as it is meant -/
def cP (c : Jvm.ClassFile.Cond) (x y : Int) : Prop := match c with
  | .eq => x = y
  | .ne => ¬ x = y
  | .lt => x < y
  | .ge => y ≤ x
  | .gt => y < x
  | .le => x ≤ y
theorem wCm_inv {g : Bool} {x y : Int} {c : Jvm.ClassFile.Cond} {A B : Prop} (h : wCm g x y c A B) : (cP c x y → A) ∧ (¬ cP c x y → B) := by
  cases c
  · exact wBr_inv (p := x = y) (fun n => n) h
  · exact wBr_inv (p := ¬ x = y) (fun n => by omega) h
  · exact wBr_inv (p := x < y) (fun n => by omega) h
  · exact wBr_inv (p := y ≤ x) (fun n => by omega) h
  · exact wBr_inv (p := y < x) (fun n => by omega) h
  · exact wBr_inv (p := x ≤ y) (fun n => by omega) h
theorem wIf_inv {v : bV} {x : Int} {c : Jvm.ClassFile.Cond} {A B : Prop} (h : wIf v x c A B) : (cP c x 0 → A) ∧ (¬ cP c x 0 → B) := by
  cases c
  · exact wBr_inv (p := x = 0) (fun n => n) h
  · exact wBr_inv (p := ¬ x = 0) (fun n => by omega) h
  · exact wBr_inv (p := x < 0) (fun n => by omega) h
  · exact wBr_inv (p := 0 ≤ x) (fun n => by omega) h
  · exact wBr_inv (p := 0 < x) (fun n => by omega) h
  · exact wBr_inv (p := x ≤ 0) (fun n => by omega) h
theorem wJ_inv {nx : Nat → Prop} {pc : Nat} {off : Int} (h : wJ nx pc off) : ∃ t : Nat, (pc : Int) + off = .ofNat t ∧ nx t := by
  unfold wJ at h
  split at h
  · rename_i t e
    exact ⟨t, e, h⟩
  · cases h
theorem aJp_of {pc : Nat} {off : Int} {t : Nat} (e : (pc : Int) + off = .ofNat t) (lv st : List Value) (σ : aSt) : aJp pc off lv st σ = aGo t lv st σ := by
  unfold aJp
  rw [e]
theorem aIf_of {P : Int32 → Prop} {dec : ∀ x, Decidable (P x)} {pc : Nat} {off : Int} {t : Nat} (e : (pc : Int) + off = .ofNat t) (lv : List Value) (x : Int32) (r : List Value) (σ : aSt) : aIf P dec pc off lv (.int x :: r) σ = @ite _ (P x) (dec x) (aGo t lv r σ) (aGo (pc + 3) lv r σ) := by
  unfold aIf
  simp only
  rw [e]
theorem aIc_of {P : Int32 → Int32 → Prop} {dec : ∀ x y, Decidable (P x y)} {pc : Nat} {off : Int} {t : Nat} (e : (pc : Int) + off = .ofNat t) (lv : List Value) (x y : Int32) (r : List Value) (σ : aSt) : aIc P dec pc off lv (.int y :: .int x :: r) σ = @ite _ (P x y) (dec x y) (aGo t lv r σ) (aGo (pc + 3) lv r σ) := by
  unfold aIc
  simp only
  rw [e]
/-! a step of a run -/
theorem aStep_of {X : aXt} {S : List aSh} {M : aM} {pc ln : Nat} {ins : Instr} (h : aFd (aCo M) pc = some (ins, ln)) (lv st : List Value) (σ : aSt) : aStep X S M pc lv st σ = aIns X S M pc ins lv st σ := by
  unfold aStep
  rw [h]
section RS
variable {xs : List Int32} {d : Nat} {M : aM} {pc : Nat} {lv st : List bV} {μ : bMm} {Q : bPo}
theorem bGo_step {pc' : Nat} {lv' st' : List bV} {μ' : bMm} (h : aStep (bX xs) aS M pc (lv.map bVal) (st.map bVal) (bσ μ) = some (.inl (pc', lv'.map bVal, st'.map bVal, bσ μ'))) (k : bGo xs d M pc' lv' st' μ' Q) : bGo xs d M pc lv st μ Q := by
  obtain ⟨f, v, z, μ2, e, hr, hq⟩ := k
  refine ⟨f + 1, v, z, μ2, ?_, hr, hq⟩
  rw [oExec, h]
  exact e
theorem bGo_same {lv' st' : List bV} (h1 : lv'.map bVal = lv.map bVal) (h2 : st'.map bVal = st.map bVal) (k : bGo xs d M pc lv' st' μ Q) : bGo xs d M pc lv st μ Q := by
  obtain ⟨f, v, z, μ2, e, hr, hq⟩ := k
  exact ⟨f, v, z, μ2, by rw [← h1, ← h2]; exact e, hr, hq⟩
theorem bGo_hole {ks : List Bool} (k : bGo xs d M pc ((bMk ks lv).map bNm) (st.map bNm) μ Q) : bGo xs d M pc lv st μ Q := by
  obtain ⟨f, v, z, μ2, e, hr, hq⟩ := k
  rw [bNm_map, bNm_map] at e
  exact ⟨f, v, z, μ2, oExec_le f d M pc _ _ _ _ _ (bMk_le ks lv) e, hr, hq⟩
theorem bGo_ret {v : Option Value} {z : Int} (h : aStep (bX xs) aS M pc (lv.map bVal) (st.map bVal) (bσ μ) = some (.inr (.inl (v, bσ μ)))) (hr : bRes M v z) (hq : Q z μ) : bGo xs d M pc lv st μ Q := by
  refine ⟨1, v, z, μ, ?_, hr, hq⟩
  rw [oExec, h]
theorem bGo_orc {K : Nat} {as r : List bV} {v : bV} (h : aStep (bX xs) aS M pc (lv.map bVal) (st.map bVal) (bσ μ) = some (.inr (.inr (K, as.map bVal, (pc + 3, lv.map bVal, r.map bVal, bσ μ))))) (hd : Nat.ble 5 d = true) (ho : oOr K (as.map bVal) = some (bVal v)) (k : bGo xs (d + 1) M (pc + 3) lv (v :: r) μ Q) : bGo xs (d + 1) M pc lv st μ Q := by
  obtain ⟨f, w, z, μ2, e, hr, hq⟩ := k
  refine ⟨f + 1, w, z, μ2, ?_, hr, hq⟩
  rw [oExec, h]
  simp only
  rw [ho]
  simp only
  rw [hd]
  exact e
theorem bGo_call {K : Nat} {as r : List bV} {M' : aM} (h : aStep (bX xs) aS M pc (lv.map bVal) (st.map bVal) (bσ μ) = some (.inr (.inr (K, as.map bVal, (pc + 3, lv.map bVal, r.map bVal, bσ μ))))) (ho : oOr K (as.map bVal) = none) (hK : aProg[K]? = some M') (hb : (bArg as).length ≤ aML M')
    (k : bGo xs d M' 0 (bEnt M' as) [] μ (fun z μ' => bGo xs (d + 1) M (pc + 3) lv (bPush K (.inl z) r) μ' Q)) : bGo xs (d + 1) M pc lv st μ Q := by
  obtain ⟨f, w, z, μ2, e, hr, f2, w2, z2, μ3, e2, hr2, hq⟩ := k
  refine ⟨max f f2 + 1, w2, z2, μ3, ?_, hr2, hq⟩
  rw [oExec, h]
  simp only
  rw [ho]
  simp only
  rw [hK]
  simp only
  have hble : Nat.ble (aArg (as.map bVal)).length (aML M') = true := by
    rw [bArg_val, List.length_map]
    exact Nat.ble_eq_true_of_le hb
  rw [hble]
  simp only
  have e' := oExec_mono f (max f f2) d M' 0 _ _ _ _ (Nat.le_max_left ..) e
  rw [← bEnt_val] at e'
  rw [show (List.map bVal ([] : List bV)) = [] from rfl] at e'
  rw [e']
  simp only
  have e2' := oExec_mono f2 (max f f2) (d + 1) M _ _ _ _ _ (Nat.le_max_right ..) e2
  have hp : (bPush K (.inl z) r).map bVal = w.toList ++ r.map bVal := by
    unfold bPush
    rw [hK]
    unfold bRes at hr
    cases hrt : aRt M' with
    | none =>
      rw [hrt] at hr
      have hr : w = none := hr
      subst hr
      simp only [hrt]
      rfl
    | some t =>
      rw [hrt] at hr
      have hr : w = some (.int (Int32.ofInt z)) := hr
      subst hr
      simp only [hrt]
      rfl
  rw [hp] at e2'
  exact e2'
end RS
