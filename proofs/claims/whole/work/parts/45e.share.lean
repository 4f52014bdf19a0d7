/-! B: shares, dealings of the class -/
theorem qSu_le {q s : Int} (s0 : 0 ≤ s) (h : qSu q s) : q ≤ s := by
  unfold qSu at h
  have h1 : q.toNat &&& s.toNat ≤ s.toNat := Nat.and_le_right
  omega
def qShA (m : Nat → Int → Int) (h s M : Int) : Prop := M = m 84 s ∨ ∃ q, 0 < q ∧ qSu q s ∧ ¬ m 83 q = -1 ∧ M = (m 81 q * 1000000 - h * m 82 q) + m 84 (bXor s q)
/-- the best share -/
def qShr (m : Nat → Int → Int) (h s M : Int) : Prop := m 84 s ≤ M ∧ (∀ q, 0 < q → qSu q s → ¬ m 83 q = -1 → (m 81 q * 1000000 - h * m 82 q) + m 84 (bXor s q) ≤ M) ∧ qShA m h s M
/-- bounds of rows -/
def qRb (m : Nat → Int → Int) (n : Int) : Prop := ∀ q, 0 ≤ q → q < bShl 1 n → (0 ≤ m 81 q ∧ m 81 q ≤ 594) ∧ (0 ≤ m 82 q ∧ m 82 q ≤ 111111) ∧ (-1 ≤ m 83 q ∧ m 83 q ≤ 2000) ∧ (-999999 ≤ m 84 q ∧ m 84 q ≤ 594000000)
section SHR
variable {xs : List Int32} {d : Nat} {Q : bPo} {b b0 b1 b2 : Bool} {m : Nat → Int → Int} {nT nH : Int} {T P E U N : Int → Int} {t s h k : Int}
variable {pl : Int → Int} {n : Int} {m' : Nat → Int → Int} {hs : Int → Prop}
theorem qxo_lt {q : Int} (s0 : 0 ≤ s) (s1 : s < 64) (q0 : 0 < q) (hq : qSu q s) : 0 ≤ bXor s q ∧ bXor s q < s := by
  have ql := qSu_le s0 hq
  obtain ⟨a, c, e⟩ := qxo s0 s1 (by omega) (by omega) hq
  refine ⟨a, ?_⟩
  have hsu : qSu (bXor s q) s := qSu_of a c (fun k _ _ hb => by rw [e k, Bool.and_eq_true] at hb; exact hb.1)
  have le := qSu_le s0 hsu
  by_cases e2 : bXor s q = s
  · exfalso
    have : q = 0 := by
      refine qB_ext (by omega) (by omega) (by omega) (by omega) (fun k k0 k1 => ?_)
      rw [qB_0]
      cases eb : qB q k with
      | false => rfl
      | true =>
        have h1 := e k
        rw [e2, eb, qSu_B hq eb] at h1
        exact absurd h1 (by simp)
    omega
  · omega
theorem c_shareOf (hb : qRb m n) (hn : 0 ≤ n ∧ n ≤ 6) (h0 : 0 ≤ h) (h1 : h < 6) (s0 : 0 ≤ s) (s1 : s < bShl 1 n) (hQ : ∀ M, qShr m h s M → (-999999 ≤ M ∧ M ≤ 1188000000) → Q M ((b0, b1, b2), m)) : bC xs 1 9 [vr 79, vi h, vi s] ((b0, b1, b2), m) Q := by
  have pb := qpw (n := n) hn.1 hn.2
  refine qC rfl fun d hd => r_X1_shareOf_0 hd ⟨by omega, ?_⟩
  have hbs := hb s s0 s1
  suffices H : ∀ x, 0 ≤ x → x ≤ s → qSu x s → ∀ M, (-999999 ≤ M ∧ M ≤ 1188000000) → m 84 s ≤ M → (∀ q, x < q → qSu q s → ¬ m 83 q = -1 → (m 81 q * 1000000 - h * m 82 q) + m 84 (bXor s q) ≤ M) → qShA m h s M → bGo xs d aM_X1_shareOf 10 [vr 79, vi h, vi s, vi M, vi x, vn] [] ((b0, b1, b2), m) Q by
    refine H s s0 (by omega) ?_ _ (by omega) (by omega) (fun q a c => by have := qSu_le s0 c; omega) (Or.inl rfl)
    unfold qSu
    exact Nat.and_self _
  intro x
  generalize hk : x.toNat = k
  induction k using Nat.strongRecOn generalizing x with
  | _ k ih =>
    intro x0 x1 hx M hM m1 m2 m3
    refine r_X1_shareOf_10 hd ⟨by omega, fun h2 => hQ M ⟨m1, fun q a c e => m2 q (by omega) c e, m3⟩ hM, fun h2 => ?_⟩
    obtain ⟨y0, y1, y2, y3⟩ := qnxp s0 (by omega) h2 (by omega) hx
    have hbx := hb x x0 (by omega)
    have nx : ∀ M', (-999999 ≤ M' ∧ M' ≤ 1188000000) → M ≤ M' → (¬ m 83 x = -1 → (m 81 x * 1000000 - h * m 82 x) + m 84 (bXor s x) ≤ M') → (M' = M ∨ (¬ m 83 x = -1 ∧ M' = (m 81 x * 1000000 - h * m 82 x) + m 84 (bXor s x))) → bGo xs d aM_X1_shareOf 10 [vr 79, vi h, vi s, vi M', vi (bAnd (x - 1) s), vn] [] ((b0, b1, b2), m) Q := by
      intro M' b1' b2' b3 b4
      refine ih (bAnd (x - 1) s).toNat (by omega) _ rfl y0 (by omega) y2 M' b1' (by omega) (fun q a c e => ?_) ?_
      · by_cases e2 : q = x
        · rw [e2] at e ⊢; exact b3 e
        · by_cases e3 : x < q
          · have := m2 q e3 c e
            omega
          · have := y3 q (by omega) c (by omega)
            omega
      · rcases b4 with e | ⟨e1, e2⟩
        · rw [e]; exact m3
        · exact (Or.inr ⟨x, h2, hx, e1, e2⟩ : qShA m h s M')
    refine ⟨by omega, by omega, fun e => nx M hM (by omega) (fun h => absurd e h) (Or.inl rfl), fun e => ?_⟩
    obtain ⟨z0, z1⟩ := qxo_lt s0 (by omega) h2 hx
    have hbz := hb (bXor s x) z0 (by omega)
    have hm : 0 ≤ h * m 82 x ∧ h * m 82 x ≤ 5 * 111111 := ⟨Int.mul_nonneg h0 (by omega), Int.mul_le_mul (by omega) (by omega) (by omega) (by omega)⟩
    generalize h * m 82 x = hw at *
    refine ⟨by omega, by omega, by omega, by omega, by omega, nx _ (by omega) (by omega) (fun _ => by omega) ?_⟩
    by_cases e2 : (m 81 x * 1000000 - hw) + m 84 (bXor s x) ≤ M
    · exact Or.inl (by omega)
    · exact Or.inr ⟨e, by omega⟩
end SHR
