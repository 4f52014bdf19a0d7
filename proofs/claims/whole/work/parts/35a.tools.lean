/-! B: TOOLS of the pure part -/
theorem qUpto {G : Int → Prop} {n : Int} (h : ∀ i, i ≤ n → (i < n → G (i + 1)) → G i) : ∀ i, i ≤ n → G i := by
  intro i hi
  generalize hk : (n - i).toNat = k
  induction k generalizing i with
  | zero => exact h i hi (fun h' => by omega)
  | succ k ih => exact h i hi (fun h' => ih (i + 1) (by omega) (by omega))
theorem qDown {G : Int → Prop} {n : Int} (h : ∀ i, n ≤ i → (n < i → G (i + (-1))) → G i) : ∀ i, n ≤ i → G i := by
  intro i hi
  generalize hk : (i - n).toNat = k
  induction k generalizing i with
  | zero => exact h i hi (fun h' => by omega)
  | succ k ih => exact h i hi (fun h' => ih (i + (-1)) (by omega) (by omega))
/-! memory -/
section MEM
variable {m m' m'' : Nat → Int → Int} {a b : Nat} {k j z : Int}
theorem qup_s : up m a k z a k = z := by simp [up]
theorem qup_o (h : ¬ j = k) : up m a k z a j = m a j := by simp [up, h]
theorem qup_n (h : ¬ b = a) : up m a k z b = m b := by funext j; simp [up, h]
theorem qup_if : up m a k z a j = if j = k then z else m a j := by simp [up]
/-- nothing but P has changed -/
def qFr (P : Nat → Int → Prop) (m m' : Nat → Int → Int) : Prop := ∀ a k, ¬ P a k → m' a k = m a k
theorem qFr.refl {P : Nat → Int → Prop} : qFr P m m := fun _ _ _ => rfl
theorem qFr.trans {P : Nat → Int → Prop} (h : qFr P m m') (h' : qFr P m' m'') : qFr P m m'' := fun a k hp => (h' a k hp).trans (h a k hp)
theorem qFr.mono {P P' : Nat → Int → Prop} (hp : ∀ a k, P a k → P' a k) (h : qFr P m m') : qFr P' m m' := fun a k h' => h a k (fun h2 => h' (hp a k h2))
theorem qFr_up {P : Nat → Int → Prop} (h : qFr P m m') (hp : P a k) : qFr P m (up m' a k z) := by
  intro b j hb
  by_cases e : b = a
  · subst e
    by_cases e2 : j = k
    · subst e2
      exact absurd hp hb
    · rw [qup_o e2]
      exact h b j hb
  · rw [qup_n e]
    exact h b j hb
theorem qFr_at {P : Nat → Int → Prop} (h : qFr P m m') (a : Nat) (hp : ∀ k, ¬ P a k) : m' a = m a := funext fun k => h a k (hp k)
theorem qFr_cp {P : Nat → Int → Prop} {a0 : Nat} {o1 o0 n : Int} (h : qFr P m m') (hp : ∀ j, o1 ≤ j → j < o1 + n → P a j) : qFr P m (cp m' a o1 a0 o0 n) := by
  intro b j hb
  unfold cp
  split
  · rename_i e
    subst e
    split
    · rename_i e2
      exact absurd (hp j e2.1 e2.2) hb
    · exact h b j hb
  · exact h b j hb
theorem qcp_n {a0 : Nat} {o1 o0 n : Int} (h : ¬ b = a) : cp m a o1 a0 o0 n b = m b := by funext j; simp [cp, h]
theorem qcp_i {a0 : Nat} {o1 o0 n : Int} (h1 : o1 ≤ j) (h2 : j < o1 + n) : cp m a o1 a0 o0 n a j = m a0 (o0 + (j - o1)) := by simp [cp, h1, h2]
theorem qcp_o {a0 : Nat} {o1 o0 n : Int} (h : ¬ (o1 ≤ j ∧ j < o1 + n)) : cp m a o1 a0 o0 n a j = m a j := by
  unfold cp
  rw [if_pos rfl, if_neg h]
end MEM
theorem qW (b : Bool) : bW b = 100 ∨ bW b = 110 := by cases b <;> simp [bW]
theorem qWn (b : Bool) : bW (!b) = 210 - bW b := by cases b <;> rfl
/-! calls -/
theorem qC {xs : List Int32} {rk K : Nat} {as : List bV} {μ : bMm} {Q : bPo} {M : aM} (hK : aProg[K]? = some M) (h : ∀ d, rk ≤ d → bGo xs d M 0 (bEnt M as) [] μ Q) : bC xs rk K as μ Q := by
  intro M' hM' d hd
  have : M' = M := by rw [hK] at hM'; exact (Option.some.inj hM').symm
  subst this
  exact h d hd
/-! bounds of the operators -/
theorem qI_inR (x : Int32) : inR x.toInt := toInt_inR x
theorem qAnd_inR (x y : Int) : inR (bAnd x y) := qI_inR _
theorem qOrr_inR (x y : Int) : inR (bOrr x y) := qI_inR _
theorem qXor_inR (x y : Int) : inR (bXor x y) := qI_inR _
theorem qShl_inR (x y : Int) : inR (bShl x y) := qI_inR _
theorem qShr_inR (x y : Int) : inR (bShr x y) := qI_inR _
theorem qUsh_inR (x y : Int) : inR (bUsh x y) := qI_inR _
theorem qXv_inR (xs : List Int32) (i : Int) : inR (bXv xs 1000 i) := bXv_inR xs i
theorem qOrr_zero {x : Int} (h : inR x) : bOrr x 0 = x := by
  unfold bOrr
  have e : Int32.ofInt 0 = 0 := rfl
  rw [e, Int32.or_zero]
  exact Int32.toInt_ofInt_of_le h.1 (by have := h.2; omega)
/-! loops told as folds -/
def qlp {α : Type} (f : Int → α → α) : Nat → Int → α → α
  | 0, _, a => a
  | n + 1, i, a => qlp f n (i + 1) (f i a)
/-- from s to S -/
def qfold {α : Type} (f : Int → α → α) (S s : Int) (a : α) : α := qlp f (S - s).toNat s a
theorem qfold_lt {α : Type} {f : Int → α → α} {S s : Int} {a : α} (h : s < S) : qfold f S s a = qfold f S (s + 1) (f s a) := by
  unfold qfold
  rw [show (S - s).toNat = (S - (s + 1)).toNat + 1 by omega, qlp]
theorem qfold_ge {α : Type} {f : Int → α → α} {S s : Int} {a : α} (h : S ≤ s) : qfold f S s a = a := by
  unfold qfold
  rw [show (S - s).toNat = 0 by omega, qlp]
/-- one more at the end -/
theorem qfold_end {α : Type} {f : Int → α → α} {S s : Int} {a : α} (h : s ≤ S) : qfold f (S + 1) s a = f S (qfold f S s a) := by
  suffices H : ∀ s, s ≤ S → ∀ a, qfold f (S + 1) s a = f S (qfold f S s a) from H s h a
  refine qUpto ?_
  intro s hs ih a
  by_cases e : s < S
  · rw [qfold_lt (by omega), ih e, qfold_lt e]
  · have : s = S := by omega
    subst this
    rw [qfold_lt (by omega), qfold_ge (by omega), qfold_ge (by omega)]
theorem qfold_congr {α : Type} {f g : Int → α → α} {S s : Int} (hf : ∀ i a, s ≤ i → i < S → f i a = g i a) {a : α} : qfold f S s a = qfold g S s a := by
  by_cases h : s ≤ S
  · suffices H : ∀ i, i ≤ S → s ≤ i → ∀ a, qfold f S i a = qfold g S i a from H s h (by omega) a
    refine qUpto ?_
    intro i hi ih h0 a
    by_cases e : i < S
    · rw [qfold_lt e, qfold_lt e, ih e (by omega), hf i a h0 e]
    · rw [qfold_ge (by omega), qfold_ge (by omega)]
  · rw [qfold_ge (by omega), qfold_ge (by omega)]
theorem qfold_inv {α : Type} {f : Int → α → α} {S s : Int} {I : Int → α → Prop} (hf : ∀ i a, s ≤ i → i < S → I i a → I (i + 1) (f i a)) (hs : s ≤ S) {a : α} (h0 : I s a) : I S (qfold f S s a) := by
  suffices H : ∀ i, i ≤ S → s ≤ i → ∀ a, I i a → I S (qfold f S i a) from H s hs (by omega) a h0
  refine qUpto ?_
  intro i hi ih h0 a ha
  by_cases e : i < S
  · rw [qfold_lt e]
    exact ih e (by omega) _ (hf i a h0 e ha)
  · rw [qfold_ge (by omega)]
    have : i = S := by omega
    rw [← this]
    exact ha
/-- sums that end at the first -1 -/
def qsm (f : Int → Int) : Nat → Int → Int → Int
  | 0, _, a => a
  | n + 1, s, a => if f s = -1 then -1 else qsm f n (s + 1) (a + f s)
def qsum (f : Int → Int) (S s a : Int) : Int := qsm f (S - s).toNat s a
theorem qsum_lt {f : Int → Int} {S s a : Int} (h : s < S) : qsum f S s a = if f s = -1 then -1 else qsum f S (s + 1) (a + f s) := by
  unfold qsum
  rw [show (S - s).toNat = (S - (s + 1)).toNat + 1 by omega, qsm]
theorem qsum_ge {f : Int → Int} {S s a : Int} (h : S ≤ s) : qsum f S s a = a := by
  unfold qsum
  rw [show (S - s).toNat = 0 by omega, qsm]
theorem qsum_bd {f : Int → Int} {S c : Int} (hc : 0 ≤ c) : ∀ s, s ≤ S → (∀ i, s ≤ i → i < S → -1 ≤ f i ∧ f i ≤ c) → ∀ a, 0 ≤ a → qsum f S s a = -1 ∨ (a ≤ qsum f S s a ∧ qsum f S s a ≤ a + c * (S - s)) := by
  refine qUpto ?_
  intro s hs ih hf a ha
  by_cases e : s < S
  · rw [qsum_lt e]
    split
    · exact Or.inl rfl
    · have h1 := hf s (by omega) e
      rcases ih e (fun i h1 h2 => hf i (by omega) h2) (a + f s) (by omega) with h | h
      · exact Or.inl h
      · refine Or.inr ⟨by omega, ?_⟩
        have e2 : c * (S - s) = c * (S - (s + 1)) + c := by
          rw [show S - s = (S - (s + 1)) + 1 by omega, Int.mul_add, Int.mul_one]
        omega
  · rw [qsum_ge (by omega)]
    have : S = s := by omega
    subst this
    right
    simp
theorem qsum_congr {f g : Int → Int} {S : Int} : ∀ s, s ≤ S → (∀ i, s ≤ i → i < S → f i = g i) → ∀ a, qsum f S s a = qsum g S s a := by
  refine qUpto ?_
  intro s hs ih hf a
  by_cases e : s < S
  · rw [qsum_lt e, qsum_lt e, hf s (by omega) e, ih e (fun i h1 h2 => hf i (by omega) h2)]
  · rw [qsum_ge (by omega), qsum_ge (by omega)]
