/-! B: LAWS: how their texts are read, as codes -/
abbrev qLr : Type := Int × List Int × Int
def qlet (c : Int) : Int := if c = 118 then 0 else if c = 107 then 1 else if c = 115 then 2 else if c = 100 then 3 else if c = 110 then 4 else if c = 112 then 5 else if c = 99 then 6 else if c = 105 then 7 else -1
def qcmp (c : Int) : Int := if c = 61 then -14 else if c = 60 then -15 else if c = 62 then -16 else -1
theorem qlet_v (c : Int) : -1 ≤ qlet c ∧ qlet c ≤ 7 ∧ (¬ qlet c = -1 → 99 ≤ c ∧ c ≤ 118) := by
  unfold qlet
  repeat' split
  all_goals omega
theorem qcmp_v (c : Int) : (c = 61 ∧ qcmp c = -14) ∨ (c = 60 ∧ qcmp c = -15) ∨ (c = 62 ∧ qcmp c = -16) ∨ (¬ c = 61 ∧ ¬ c = 60 ∧ ¬ c = 62 ∧ qcmp c = -1) := by
  unfold qcmp
  repeat' split
  all_goals omega
/-- one behind another; with a sign; with a sign at the end; a bracket's end -/
def qEs (r : qLr) (k : Int → qLr) : qLr := if r.1 = -1 then (if (k r.2.2).1 = -1 then (-1, r.2.1 ++ (k r.2.2).2.1, (k r.2.2).2.2) else k r.2.2) else r
def qEo (r : qLr) (op : Int) (k : Int → qLr) : qLr := if r.1 = -1 then (if (k r.2.2).1 = -1 then (-1, r.2.1 ++ (op :: (k r.2.2).2.1), (k r.2.2).2.2) else k r.2.2) else r
def qEa (r : qLr) (op : Int) : qLr := if r.1 = -1 then (-1, r.2.1 ++ [op], r.2.2) else r
def qEb (B : Int → Int) (L c : Int) (r : qLr) : qLr := if r.1 = -1 then (if qpk B L r.2.2 = c then (-1, r.2.1, qsk B L r.2.2 + 1) else (qsk B L r.2.2, [], 0)) else r
def qEat (B : Int → Int) (L : Int) (f : Nat → Int → Int → qLr) (d p : Int) : qLr :=
  if qpk B L p = 91 then (if 6 ≤ d then (qsk B L p, [], 0) else qEb B L 93 (f 3 (d + 1) (qsk B L p + 1)))
  else if 48 ≤ qpk B L p ∧ qpk B L p ≤ 57 then (if (qnum B L 4 p 0 9999).1 = -1 then (-1, [(qnum B L 4 p 0 9999).2.1], (qnum B L 4 p 0 9999).2.2) else ((qnum B L 4 p 0 9999).1, [], 0))
  else if qlet (qpk B L p) = -1 then (qsk B L p, [], 0) else (-1, [-2 - qlet (qpk B L p)], qsk B L p + 1)
def qEun (B : Int → Int) (L : Int) (f : Nat → Int → Int → qLr) (d p : Int) : qLr :=
  if qpk B L p = 33 then (if 6 ≤ d then (qsk B L p, [], 0) else qEa (f 5 (d + 1) (qsk B L p + 1)) (-19))
  else if qpk B L p = 40 then (if 6 ≤ d then (qsk B L p, [], 0) else qEb B L 41 (f 8 (d + 1) (qsk B L p + 1)))
  else qEs (f 3 d p) (f 10 d)
def qEB (B : Int → Int) (L : Int) (f : Nat → Int → Int → qLr) (tag : Nat) (d p : Int) : qLr := match tag with
  | 0 => qEat B L f d p
  | 1 => qEs (f 0 d p) (f 2 d)
  | 2 => if qpk B L p = 42 ∨ qpk B L p = 47 then qEo (f 0 d (qsk B L p + 1)) (if qpk B L p = 42 then -12 else -13) (f 2 d) else (-1, [], qsk B L p)
  | 3 => qEs (f 1 d p) (f 4 d)
  | 4 => if qpk B L p = 43 ∨ qpk B L p = 45 then qEo (f 1 d (qsk B L p + 1)) (if qpk B L p = 43 then -10 else -11) (f 4 d) else (-1, [], qsk B L p)
  | 5 => qEun B L f d p
  | 6 => qEs (f 5 d p) (f 7 d)
  | 7 => if qpk B L p = 38 then qEo (f 5 d (qsk B L p + 1)) (-17) (f 7 d) else (-1, [], qsk B L p)
  | 8 => qEs (f 6 d p) (f 9 d)
  | 9 => if qpk B L p = 124 then qEo (f 6 d (qsk B L p + 1)) (-18) (f 9 d) else (-1, [], qsk B L p)
  | 10 => if qcmp (qpk B L p) = -1 then (qsk B L p, [], 0) else qEa (f 3 d (qsk B L p + 1)) (qcmp (qpk B L p))
  | _ => (-2, [], 0)
def qE (B : Int → Int) (L : Int) : Nat → Nat → Int → Int → qLr
  | 0, _, _, _ => (-2, [], 0)
  | n + 1, tag, d, p => qEB B L (qE B L n) tag d p
/-- where reading stands: a fault, or behind -/
def qEok (L lo p : Int) (r : qLr) : Prop := (0 ≤ r.1 ∧ r.1 ≤ L) ∨ r.1 = -2 ∨ (r.1 = -1 ∧ p + lo ≤ r.2.2 ∧ r.2.2 ≤ L ∧ (r.2.1.length : Int) + p ≤ r.2.2)
section EB
variable {B : Int → Int} {L d p q lo lo2 c : Int} {r : qLr} {k : Int → qLr} {op : Int}
theorem qEs_ok (h1 : qEok L lo p r) (h2 : r.1 = -1 → qEok L 0 r.2.2 (k r.2.2)) (hlo : 0 ≤ lo) : qEok L lo p (qEs r k) := by
  unfold qEs
  split
  · rename_i h
    have h2 := h2 h
    split
    · rename_i h3
      unfold qEok at *
      dsimp only
      rw [List.length_append]
      omega
    · unfold qEok at *
      omega
  · exact h1
theorem qEo_ok (h1 : qEok L 1 (p + 1) r) (h2 : r.1 = -1 → qEok L 0 r.2.2 (k r.2.2)) : qEok L 0 p (qEo r op k) := by
  unfold qEo
  split
  · rename_i h
    have h2 := h2 h
    split
    · rename_i h3
      unfold qEok at *
      dsimp only
      rw [List.length_append, List.length_cons]
      omega
    · unfold qEok at *
      omega
  · unfold qEok at *
    omega
theorem qEa_ok (h1 : qEok L 1 (p + 1) r) : qEok L 1 p (qEa r op) := by
  unfold qEa
  split
  · rename_i h
    unfold qEok at *
    dsimp only
    rw [List.length_append, List.length_cons, List.length_nil]
    omega
  · unfold qEok at *
    omega
theorem qEb_ok (ht : qTp L B) (p0 : 0 ≤ p) (hc : ¬ c = -1) (h1 : qEok L 1 (p + 1) r) : qEok L 1 p (qEb B L c r) := by
  unfold qEb
  split
  · rename_i h
    have h3 : p + 1 + 1 ≤ r.2.2 ∧ r.2.2 ≤ L := by unfold qEok at h1; omega
    have k1 := qsk_bd (B := B) r.2.2 h3.2
    have kc := qpk_c ht (show 0 ≤ r.2.2 by omega) h3.2
    split
    · unfold qEok at *
      dsimp only
      omega
    · unfold qEok at *
      dsimp only
      omega
  · unfold qEok at *
    omega
/-- the item tags go on by one at least -/
def qlw (tag : Nat) : Int := if tag = 2 ∨ tag = 4 ∨ tag = 7 ∨ tag = 9 then 0 else 1
theorem qEok_sh {a : Int} (h : qEok L lo a r) (ha : q ≤ a) (hl : lo2 ≤ lo) : qEok L lo2 q r := by
  unfold qEok at *
  omega
theorem qE_ok (ht : qTp L B) : ∀ (n : Nat) (tag : Nat) (d p : Int), 0 ≤ p → p ≤ L → qEok L (qlw tag) p (qE B L n tag d p) := by
  intro n
  induction n with
  | zero => intro tag d p p0 p1; exact Or.inr (Or.inl rfl)
  | succ n ih =>
    intro tag d p p0 p1
    have k1 := qsk_bd (B := B) p p1
    have kc := qpk_c ht p0 p1
    have fl : ∀ lo, qEok L lo p (qsk B L p, [], 0) := fun lo => Or.inl (by dsimp only; omega)
    have nx : ∀ (t : Nat) (d' : Int), qsk B L p < L → qEok L (qlw t) (p + 1) (qE B L n t d' (qsk B L p + 1)) := fun t d' h => qEok_sh (ih t d' (qsk B L p + 1) (by omega) (by omega)) (by omega) (Int.le_refl _)
    have seq : ∀ (t t2 : Nat) (d' : Int), qlw t = 1 → qlw t2 = 0 → qEok L 1 p (qEs (qE B L n t d' p) (qE B L n t2 d')) := fun t t2 d' e1 e2 => by
      have h1 := ih t d' p p0 p1
      rw [e1] at h1
      refine qEs_ok h1 (fun h => ?_) (by omega)
      have hb : p + 1 ≤ (qE B L n t d' p).2.2 ∧ (qE B L n t d' p).2.2 ≤ L := by unfold qEok at h1; omega
      have := ih t2 d' (qE B L n t d' p).2.2 (by omega) hb.2
      rw [e2] at this
      exact this
    have lop : ∀ (t t2 : Nat) (d' op : Int), qsk B L p < L → qlw t = 1 → qlw t2 = 0 → qEok L 0 p (qEo (qE B L n t d' (qsk B L p + 1)) op (qE B L n t2 d')) := fun t t2 d' op hl e1 e2 => by
      have h1 := nx t d' hl
      rw [e1] at h1
      refine qEo_ok h1 (fun h => ?_)
      have hb : p + 1 + 1 ≤ (qE B L n t d' (qsk B L p + 1)).2.2 ∧ (qE B L n t d' (qsk B L p + 1)).2.2 ≤ L := by unfold qEok at h1; omega
      have := ih t2 d' (qE B L n t d' (qsk B L p + 1)).2.2 (by omega) hb.2
      rw [e2] at this
      exact this
    have dn : qEok L 0 p (-1, [], qsk B L p) := Or.inr (Or.inr ⟨rfl, by dsimp only; omega, by dsimp only; omega, by simp only [List.length_nil]; omega⟩)
    show qEok L (qlw tag) p (qEB B L (qE B L n) tag d p)
    unfold qEB
    split
    · show qEok L 1 p _
      unfold qEat
      split
      · split
        · exact fl 1
        · exact qEb_ok ht p0 (by omega) (nx 3 (d + 1) (by omega))
      · split
        · have hn := qnum_ok (B := B) (L := L) (n := 4) (p := p) (lo := 0) (hi := 9999) p1 p0
          split
          · right; right
            refine ⟨rfl, by dsimp only; omega, by dsimp only; omega, ?_⟩
            simp only [List.length_cons, List.length_nil]
            omega
          · left; dsimp only; omega
        · split
          · exact fl 1
          · have := qlet_v (qpk B L p)
            right; right
            refine ⟨rfl, by dsimp only; omega, by dsimp only; omega, ?_⟩
            simp only [List.length_cons, List.length_nil]
            omega
    · exact seq 0 2 d rfl rfl
    · show qEok L 0 p _
      split
      · exact lop 0 2 d _ (by omega) rfl rfl
      · exact dn
    · exact seq 1 4 d rfl rfl
    · show qEok L 0 p _
      split
      · exact lop 1 4 d _ (by omega) rfl rfl
      · exact dn
    · show qEok L 1 p _
      unfold qEun
      split
      · split
        · exact fl 1
        · exact qEa_ok (nx 5 (d + 1) (by omega))
      · split
        · split
          · exact fl 1
          · exact qEb_ok ht p0 (by omega) (nx 8 (d + 1) (by omega))
        · have h1 := ih 3 d p p0 p1
          refine qEs_ok h1 (fun h => ?_) (by omega)
          have hb : p + 1 ≤ (qE B L n 3 d p).2.2 ∧ (qE B L n 3 d p).2.2 ≤ L := by
            have e : qlw 3 = 1 := rfl
            rw [e] at h1
            unfold qEok at h1; omega
          exact qEok_sh (ih 10 d (qE B L n 3 d p).2.2 (by omega) hb.2) (by omega) (by decide)
    · exact seq 5 7 d rfl rfl
    · show qEok L 0 p _
      split
      · exact lop 5 7 d _ (by omega) rfl rfl
      · exact dn
    · exact seq 6 9 d rfl rfl
    · show qEok L 0 p _
      split
      · exact lop 6 9 d _ (by omega) rfl rfl
      · exact dn
    · show qEok L 1 p _
      have := qcmp_v (qpk B L p)
      split
      · exact fl 1
      · exact qEa_ok (nx 3 d (by omega))
    · exact Or.inr (Or.inl rfl)
/-! enough turns -/
def qrk (tag : Nat) : Int := match tag with
  | 1 => 2
  | 3 => 3
  | 5 => 4
  | 6 => 5
  | 8 => 6
  | _ => 1
theorem qrk_pos (tag : Nat) : 1 ≤ qrk tag := by
  unfold qrk
  split <;> decide
theorem qEs_f (h1 : ¬ r.1 = -2) (h2 : r.1 = -1 → ¬ (k r.2.2).1 = -2) : ¬ (qEs r k).1 = -2 := by
  unfold qEs
  split
  · rename_i h
    split
    · show ¬ (-1 : Int) = -2
      decide
    · exact h2 h
  · exact h1
theorem qEo_f (h1 : ¬ r.1 = -2) (h2 : r.1 = -1 → ¬ (k r.2.2).1 = -2) : ¬ (qEo r op k).1 = -2 := by
  unfold qEo
  split
  · rename_i h
    split
    · show ¬ (-1 : Int) = -2
      decide
    · exact h2 h
  · exact h1
theorem qEa_f (h1 : ¬ r.1 = -2) : ¬ (qEa r op).1 = -2 := by
  unfold qEa
  split
  · show ¬ (-1 : Int) = -2
    decide
  · exact h1
theorem qE_f (ht : qTp L B) : ∀ (n : Nat) (tag : Nat) (d p : Int), tag ≤ 10 → 0 ≤ p → p ≤ L → 10 * (L - p) + qrk tag < n → ¬ (qE B L n tag d p).1 = -2 := by
  intro n
  induction n with
  | zero =>
    intro tag d p _ p0 p1 h
    have : 1 ≤ qrk tag := by unfold qrk; split <;> decide
    omega
  | succ n ih =>
    intro tag d p htg p0 p1 hm
    have k1 := qsk_bd (B := B) p p1
    have kc := qpk_c ht p0 p1
    have fl : ¬ ((qsk B L p, ([] : List Int), (0 : Int)) : qLr).1 = -2 := by dsimp only; omega
    have nx : ∀ (t : Nat) (d' : Int), t ≤ 10 → qrk t ≤ 6 → 1 ≤ qrk tag → qsk B L p < L → ¬ (qE B L n t d' (qsk B L p + 1)).1 = -2 := fun t d' h1 h2 h3 h => ih t d' (qsk B L p + 1) h1 (by omega) (by omega) (by omega)
    have seq : ∀ (t t2 : Nat) (d' : Int), t ≤ 10 → t2 ≤ 10 → qlw t = 1 → qrk t < qrk tag → qrk t2 = 1 → ¬ (qEs (qE B L n t d' p) (qE B L n t2 d')).1 = -2 := fun t t2 d' ht1 ht2 e1 e2 e3 => by
      refine qEs_f (ih t d' p ht1 p0 p1 (by omega)) (fun h => ?_)
      have h1 := qE_ok ht n t d' p p0 p1
      rw [e1] at h1
      have hb : p + 1 ≤ (qE B L n t d' p).2.2 ∧ (qE B L n t d' p).2.2 ≤ L := by unfold qEok at h1; omega
      have := qrk_pos t
      exact ih t2 d' _ ht2 (by omega) hb.2 (by omega)
    have lop : ∀ (t t2 : Nat) (d' op : Int), t ≤ 10 → t2 ≤ 10 → qsk B L p < L → qlw t = 1 → qrk t ≤ 6 → qrk t2 = 1 → 1 ≤ qrk tag → ¬ (qEo (qE B L n t d' (qsk B L p + 1)) op (qE B L n t2 d')).1 = -2 := fun t t2 d' op ht1 ht2 hl e1 e2 e3 e4 => by
      refine qEo_f (nx t d' ht1 e2 e4 hl) (fun h => ?_)
      have h1 := qE_ok ht n t d' (qsk B L p + 1) (by omega) (by omega)
      rw [e1] at h1
      have hb : qsk B L p + 1 + 1 ≤ (qE B L n t d' (qsk B L p + 1)).2.2 ∧ (qE B L n t d' (qsk B L p + 1)).2.2 ≤ L := by unfold qEok at h1; omega
      exact ih t2 d' _ ht2 (by omega) hb.2 (by omega)
    have brk : ∀ (t : Nat) (d' c : Int), t ≤ 10 → qrk t ≤ 6 → 1 ≤ qrk tag → qlw t = 1 → qsk B L p < L → ¬ (qEb B L c (qE B L n t d' (qsk B L p + 1))).1 = -2 := fun t d' c h1 h2 h3 h4 hl => by
      unfold qEb
      split
      · rename_i h
        have g1 := qE_ok ht n t d' (qsk B L p + 1) (by omega) (by omega)
        rw [h4] at g1
        have hb : qsk B L p + 1 + 1 ≤ (qE B L n t d' (qsk B L p + 1)).2.2 ∧ (qE B L n t d' (qsk B L p + 1)).2.2 ≤ L := by unfold qEok at g1; omega
        have g2 := qsk_bd (B := B) (qE B L n t d' (qsk B L p + 1)).2.2 hb.2
        split
        · show ¬ (-1 : Int) = -2
          decide
        · dsimp only; omega
      · exact nx t d' h1 h2 h3 hl
    show ¬ (qEB B L (qE B L n) tag d p).1 = -2
    unfold qEB
    split
    · unfold qEat
      split
      · split
        · exact fl
        · exact brk 3 (d + 1) 93 (by omega) (by decide) (by decide) rfl (by omega)
      · split
        · have hn := qnum_ok (B := B) (L := L) (n := 4) (p := p) (lo := 0) (hi := 9999) p1 p0
          split
          · show ¬ (-1 : Int) = -2
            decide
          · dsimp only; omega
        · split
          · exact fl
          · show ¬ (-1 : Int) = -2
            decide
    · exact seq 0 2 d (by omega) (by omega) rfl (by decide) rfl
    · split
      · exact lop 0 2 d _ (by omega) (by omega) (by omega) rfl (by decide) rfl (by decide)
      · show ¬ (-1 : Int) = -2
        decide
    · exact seq 1 4 d (by omega) (by omega) rfl (by decide) rfl
    · split
      · exact lop 1 4 d _ (by omega) (by omega) (by omega) rfl (by decide) rfl (by decide)
      · show ¬ (-1 : Int) = -2
        decide
    · unfold qEun
      split
      · split
        · exact fl
        · exact qEa_f (nx 5 (d + 1) (by omega) (by decide) (by decide) (by omega))
      · split
        · split
          · exact fl
          · exact brk 8 (d + 1) 41 (by omega) (by decide) (by decide) rfl (by omega)
        · exact seq 3 10 d (by omega) (by omega) rfl (by decide) rfl
    · exact seq 5 7 d (by omega) (by omega) rfl (by decide) rfl
    · split
      · exact lop 5 7 d _ (by omega) (by omega) (by omega) rfl (by decide) rfl (by decide)
      · show ¬ (-1 : Int) = -2
        decide
    · exact seq 6 9 d (by omega) (by omega) rfl (by decide) rfl
    · split
      · exact lop 6 9 d _ (by omega) (by omega) (by omega) rfl (by decide) rfl (by decide)
      · show ¬ (-1 : Int) = -2
        decide
    · have := qcmp_v (qpk B L p)
      split
      · exact fl
      · exact qEa_f (nx 3 d (by omega) (by decide) (by decide) (by omega))
    · exfalso
      have hh : tag = 0 ∨ tag = 1 ∨ tag = 2 ∨ tag = 3 ∨ tag = 4 ∨ tag = 5 ∨ tag = 6 ∨ tag = 7 ∨ tag = 8 ∨ tag = 9 ∨ tag = 10 := by omega
      rcases hh with h | h | h | h | h | h | h | h | h | h | h <;> contradiction
end EB
