/-! B: sets of things, sums over them, what one can do in time -/
theorem qAsc {G : Int → Prop} (h0 : G 0) (hs : ∀ n, 0 ≤ n → G n → G (n + 1)) : ∀ n, 0 ≤ n → G n := by
  refine qDown ?_
  intro i hi ih
  by_cases e : 0 < i
  · have := hs (i + -1) (by omega) (ih e)
    rw [show i + -1 + 1 = i by omega] at this
    exact this
  · rw [show i = 0 by omega]; exact h0
def qsB (χ : Int → Bool) (f : Int → Int) (n : Int) : Int := qfold (fun u a => if χ u = true then a + f u else a) n 0 0
section SB
variable {χ χ' p : Int → Bool} {f g : Int → Int} {n b c : Int}
theorem qsB_0 : qsB χ f 0 = 0 := by unfold qsB; rw [qfold_ge (by omega)]
theorem qsB_s (h : 0 ≤ n) : qsB χ f (n + 1) = if χ n = true then qsB χ f n + f n else qsB χ f n := by unfold qsB; rw [qfold_end h]
theorem qsB_cg (h : ∀ u, 0 ≤ u → u < n → χ u = χ' u) (h2 : ∀ u, 0 ≤ u → u < n → χ u = true → f u = g u) : qsB χ f n = qsB χ' g n := by
  unfold qsB
  refine qfold_congr (fun i a i0 i1 => ?_)
  try dsimp only
  rw [← h i i0 i1]
  by_cases e : χ i = true
  · rw [if_pos e, if_pos e, h2 i i0 i1 e]
  · rw [if_neg e, if_neg e]
theorem qsB_e : ∀ n, 0 ≤ n → (∀ u, 0 ≤ u → u < n → χ u = false) → qsB χ f n = 0 := by
  refine qAsc (fun _ => qsB_0) ?_
  intro n hn ih h
  rw [qsB_s hn, h n hn (by omega), if_neg (by simp)]
  exact ih (fun u a c => h u a (by omega))
theorem qsB_one (b0 : 0 ≤ b) (hb : χ b = false) (hb' : χ' b = true) : ∀ n, 0 ≤ n → (∀ u, 0 ≤ u → u < n → ¬ u = b → χ' u = χ u) → qsB χ' f n = qsB χ f n + if b < n then f b else 0 := by
  refine qAsc (fun _ => by rw [qsB_0, qsB_0, if_neg (by omega)]; omega) ?_
  intro n hn ih h
  have i := ih (fun u a c => h u a (by omega))
  rw [qsB_s hn, qsB_s hn]
  by_cases e : n = b
  · rw [e, hb, hb', if_pos rfl, if_neg (by simp), if_pos (by omega)]
    rw [e, if_neg (by omega)] at i
    omega
  · rw [h n hn (by omega) e]
    have e2 : (if b < n + 1 then f b else 0) = (if b < n then f b else 0) := by
      by_cases e3 : b < n
      · rw [if_pos e3, if_pos (by omega)]
      · rw [if_neg e3, if_neg (by omega)]
    rw [e2]
    by_cases e3 : χ n = true
    · rw [if_pos e3, if_pos e3]; omega
    · rw [if_neg e3, if_neg e3]; exact i
theorem qsB_sp : ∀ n, 0 ≤ n → qsB χ f n = qsB (fun u => χ u && p u) f n + qsB (fun u => χ u && !p u) f n := by
  refine qAsc (by rw [qsB_0, qsB_0, qsB_0]; omega) ?_
  intro n hn ih
  rw [qsB_s hn, qsB_s hn, qsB_s hn, ih]
  cases χ n <;> cases p n <;> simp <;> omega
theorem qsB_nn : ∀ n, 0 ≤ n → (∀ u, 0 ≤ u → u < n → χ u = true → 0 ≤ f u) → 0 ≤ qsB χ f n := by
  refine qAsc (fun _ => by rw [qsB_0]; omega) ?_
  intro n hn ih h
  have i := ih (fun u a c => h u a (by omega))
  rw [qsB_s hn]
  split
  · have := h n hn (by omega) (by assumption)
    omega
  · exact i
theorem qsB_mo : ∀ n, 0 ≤ n → (∀ u, 0 ≤ u → u < n → χ u = true → χ' u = true) → (∀ u, 0 ≤ u → u < n → χ' u = true → 0 ≤ f u) → qsB χ f n ≤ qsB χ' f n := by
  refine qAsc (fun _ _ => by rw [qsB_0, qsB_0]; omega) ?_
  intro n hn ih h h2
  have i := ih (fun u a c => h u a (by omega)) (fun u a c => h2 u a (by omega))
  have h1 := h n hn (by omega)
  have h3 := h2 n hn (by omega)
  rw [qsB_s hn, qsB_s hn]
  by_cases e : χ n = true
  · rw [if_pos e, if_pos (h1 e)]; omega
  · rw [if_neg e]
    by_cases e2 : χ' n = true
    · rw [if_pos e2]
      have := h3 e2
      omega
    · rw [if_neg e2]; exact i
theorem qsB_ub (c0 : 0 ≤ c) : ∀ n, 0 ≤ n → (∀ u, 0 ≤ u → u < n → χ u = true → f u ≤ c) → qsB χ f n ≤ c * n := by
  refine qAsc (fun _ => by rw [qsB_0]; omega) ?_
  intro n hn ih h
  have i := ih (fun u a c => h u a (by omega))
  rw [qsB_s hn, Int.mul_add, Int.mul_one]
  split
  · have := h n hn (by omega) (by assumption)
    omega
  · omega
theorem qsB_lb : ∀ n, 0 ≤ n → (∀ u, 0 ≤ u → u < n → χ u = true → g u ≤ f u) → qsB χ g n ≤ qsB χ f n := by
  refine qAsc (fun _ => by rw [qsB_0, qsB_0]; omega) ?_
  intro n hn ih h
  have i := ih (fun u a c => h u a (by omega))
  rw [qsB_s hn, qsB_s hn]
  split
  · have := h n hn (by omega) (by assumption)
    omega
  · omega
theorem qsB_sub : ∀ n, 0 ≤ n → qsB χ (fun u => f u - g u) n = qsB χ f n - qsB χ g n := by
  refine qAsc (by rw [qsB_0, qsB_0, qsB_0]; omega) ?_
  intro n hn ih
  rw [qsB_s hn, qsB_s hn, qsB_s hn, ih]
  split <;> omega
theorem qsB_mul : ∀ n, 0 ≤ n → qsB χ (fun u => c * f u) n = c * qsB χ f n := by
  refine qAsc (by rw [qsB_0, qsB_0]; omega) ?_
  intro n hn ih
  rw [qsB_s hn, qsB_s hn, ih]
  split
  · rw [Int.mul_add]
  · rfl
end SB
/-- who rots first -/
def qbf (r : Int → Int) (u t : Int) : Bool := decide (r u < r t ∨ (r u = r t ∧ u ≤ t))
theorem qbf_d {r : Int → Int} {u t : Int} : qbf r u t = true ↔ (r u < r t ∨ (r u = r t ∧ u ≤ t)) := by unfold qbf; rw [decide_eq_true_eq]
theorem qbf_f {r : Int → Int} {u t : Int} : qbf r u t = false ↔ ¬ (r u < r t ∨ (r u = r t ∧ u ≤ t)) := by unfold qbf; rw [decide_eq_false_iff_not]
/-- all of a set in time, one behind the other -/
def qFe (A r : Int → Int) (n b : Int) (χ : Int → Bool) : Prop := ∀ t, 0 ≤ t → t < n → χ t = true → ¬ A t = -1 ∧ b + qsB (fun u => χ u && qbf r u t) A n ≤ r t
section FE
variable {A r : Int → Int} {χ χ' : Int → Bool} {n b x : Int}
theorem qFe_cg (hn : 0 ≤ n) (h : ∀ u, 0 ≤ u → u < n → χ u = χ' u) (hf : qFe A r n b χ) : qFe A r n b χ' := by
  intro t t0 t1 ht
  rw [← h t t0 t1] at ht
  have := hf t t0 t1 ht
  rw [qsB_cg (χ' := fun u => χ' u && qbf r u t) (g := A) (fun u a c => by rw [h u a c]) (fun _ _ _ _ => rfl)] at this
  exact this
theorem qFe_e (h : ∀ u, 0 ≤ u → u < n → χ u = false) : qFe A r n b χ := by
  intro t t0 t1 ht
  rw [h t t0 t1] at ht
  exact absurd ht (by simp)
theorem qFe_mo (hn : 0 ≤ n) (hA : ∀ u, 0 ≤ u → u < n → -1 ≤ A u) (h : ∀ u, 0 ≤ u → u < n → χ u = true → χ' u = true) (hf : qFe A r n b χ') : qFe A r n b χ := by
  intro t t0 t1 ht
  have := hf t t0 t1 (h t t0 t1 ht)
  refine ⟨this.1, ?_⟩
  have hm : qsB (fun u => χ u && qbf r u t) A n ≤ qsB (fun u => χ' u && qbf r u t) A n := by
    refine qsB_mo n hn (fun u a c hx => ?_) (fun u a c hx => ?_)
    · rw [Bool.and_eq_true] at hx ⊢
      exact ⟨h u a c hx.1, hx.2⟩
    · rw [Bool.and_eq_true] at hx
      have h1 := (hf u a c hx.1).1
      have h2 := hA u a c
      omega
  omega
/-- one that rots behind all the others -/
theorem qFe_add (hn : 0 ≤ n) (x0 : 0 ≤ x) (x1 : x < n) (hx : χ x = false) (hx' : χ' x = true) (ho : ∀ u, 0 ≤ u → u < n → ¬ u = x → χ' u = χ u) (hl : ∀ u, 0 ≤ u → u < n → χ u = true → qbf r u x = true) : qFe A r n b χ' ↔ (qFe A r n b χ ∧ ¬ A x = -1 ∧ b + qsB χ A n + A x ≤ r x) := by
  have hxx : qbf r x x = true := by rw [qbf_d]; omega
  have s1 : qsB (fun u => χ' u && qbf r u x) A n = qsB χ A n + A x := by
    rw [qsB_one (χ := fun u => χ u && qbf r u x) (b := x) x0 (by (try dsimp only); rw [hx]; rfl) (by (try dsimp only); rw [hx', hxx]; rfl) n hn (fun u a c e => by (try dsimp only); rw [ho u a c e]), if_pos x1]
    rw [qsB_cg (χ := fun u => χ u && qbf r u x) (χ' := χ) (g := A) (fun u a c => ?_) (fun _ _ _ _ => rfl)]
    try dsimp only
    cases e : χ u with
    | true => rw [hl u a c e]; rfl
    | false => rfl
  have s2 : ∀ t, 0 ≤ t → t < n → χ t = true → qsB (fun u => χ' u && qbf r u t) A n = qsB (fun u => χ u && qbf r u t) A n := by
    intro t t0 t1 ht
    have hne : ¬ t = x := fun e => by rw [e, hx] at ht; exact absurd ht (by simp)
    have h1 := hl t t0 t1 ht
    have h2 : qbf r x t = false := by
      rw [qbf_f]
      rw [qbf_d] at h1
      omega
    refine qsB_cg (fun u a c => ?_) (fun _ _ _ _ => rfl)
    by_cases e : u = x
    · rw [e, h2, Bool.and_false, Bool.and_false]
    · rw [ho u a c e]
  constructor
  · intro H
    refine ⟨fun t t0 t1 ht => ?_, ?_⟩
    · have hne : ¬ t = x := fun e => by rw [e, hx] at ht; exact absurd ht (by simp)
      have := H t t0 t1 (by rw [ho t t0 t1 hne]; exact ht)
      rw [s2 t t0 t1 ht] at this
      exact this
    · have := H x x0 x1 hx'
      rw [s1] at this
      exact ⟨this.1, by omega⟩
  · intro ⟨H, h1, h2⟩ t t0 t1 ht
    by_cases e : t = x
    · rw [e, s1]
      exact ⟨h1, by omega⟩
    · rw [ho t t0 t1 e] at ht
      rw [s2 t t0 t1 ht]
      exact H t t0 t1 ht
/-- one that rots ahead of all the others -/
theorem qFe_rem (hn : 0 ≤ n) (x0 : 0 ≤ x) (x1 : x < n) (hx : χ x = false) (hx' : χ' x = true) (ho : ∀ u, 0 ≤ u → u < n → ¬ u = x → χ' u = χ u) (hl : ∀ u, 0 ≤ u → u < n → χ u = true → qbf r x u = true) : qFe A r n b χ' ↔ ((¬ A x = -1 ∧ b + A x ≤ r x) ∧ qFe A r n (b + A x) χ) := by
  have hxx : qbf r x x = true := by rw [qbf_d]; omega
  have s1 : qsB (fun u => χ' u && qbf r u x) A n = A x := by
    rw [qsB_one (χ := fun u => χ u && qbf r u x) (b := x) x0 (by (try dsimp only); rw [hx]; rfl) (by (try dsimp only); rw [hx', hxx]; rfl) n hn (fun u a c e => by (try dsimp only); rw [ho u a c e]), if_pos x1]
    rw [qsB_e n hn (fun u a c => ?_)]
    · omega
    · try dsimp only
      cases e : χ u with
      | false => rfl
      | true =>
        have hne : ¬ u = x := fun e2 => by rw [e2, hx] at e; exact absurd e (by simp)
        have h1 := hl u a c e
        rw [qbf_d] at h1
        rw [Bool.true_and, qbf_f]
        omega
  have s2 : ∀ t, 0 ≤ t → t < n → χ t = true → qsB (fun u => χ' u && qbf r u t) A n = qsB (fun u => χ u && qbf r u t) A n + A x := by
    intro t t0 t1 ht
    have h1 := hl t t0 t1 ht
    rw [qsB_one (χ := fun u => χ u && qbf r u t) (b := x) x0 (by (try dsimp only); rw [hx]; rfl) (by (try dsimp only); rw [hx', h1]; rfl) n hn (fun u a c e => by (try dsimp only); rw [ho u a c e]), if_pos x1]
  constructor
  · intro H
    refine ⟨?_, fun t t0 t1 ht => ?_⟩
    · have := H x x0 x1 hx'
      rw [s1] at this
      exact this
    · have hne : ¬ t = x := fun e => by rw [e, hx] at ht; exact absurd ht (by simp)
      have := H t t0 t1 (by rw [ho t t0 t1 hne]; exact ht)
      rw [s2 t t0 t1 ht] at this
      exact ⟨this.1, by omega⟩
  · intro ⟨h1, H⟩ t t0 t1 ht
    by_cases e : t = x
    · rw [e, s1]; exact h1
    · rw [ho t t0 t1 e] at ht
      have := H t t0 t1 ht
      rw [s2 t t0 t1 ht]
      exact ⟨this.1, by omega⟩
end FE
/-! dealings -/
def qAs (A : Int → Int → Int) (r : Int → Int) (n b : Int) (hs : Int → Prop) (χ : Int → Bool) (a : Int → Int) : Prop := (∀ t, 0 ≤ t → t < n → χ t = true → a t = 9 ∨ hs (a t)) ∧ ∀ h, hs h → qFe (A h) r n b (fun t => χ t && decide (a t = h))
def qSc (V W : Int → Int) (n : Int) (χ : Int → Bool) (a : Int → Int) : Int := qsB χ (fun t => (if a t = 9 then 0 else V t * 1000000) - a t * W t) n
def qBt (A : Int → Int → Int) (r V W : Int → Int) (n b : Int) (hs : Int → Prop) (χ : Int → Bool) (z : Int) : Prop := (∃ a, qAs A r n b hs χ a ∧ qSc V W n χ a = z) ∧ ∀ a, qAs A r n b hs χ a → qSc V W n χ a ≤ z
section DE
variable {A : Int → Int → Int} {r V W : Int → Int} {n b z z' h : Int} {hs : Int → Prop} {χ χ' : Int → Bool} {a a' : Int → Int}
theorem qBt_u (h1 : qBt A r V W n b hs χ z) (h2 : qBt A r V W n b hs χ z') : z = z' := by
  obtain ⟨⟨a, ha, ea⟩, ua⟩ := h1
  obtain ⟨⟨c, hc, ec⟩, uc⟩ := h2
  have := ua c hc
  have := uc a ha
  omega
theorem qAs_cg (hn : 0 ≤ n) (h : ∀ u, 0 ≤ u → u < n → χ u = χ' u) (h2 : ∀ u, 0 ≤ u → u < n → χ u = true → a u = a' u) (hf : qAs A r n b hs χ a) : qAs A r n b hs χ' a' := by
  refine ⟨fun t t0 t1 ht => ?_, fun g hg => qFe_cg hn (fun u u0 u1 => ?_) (hf.2 g hg)⟩
  · rw [← h t t0 t1] at ht
    rw [← h2 t t0 t1 ht]
    exact hf.1 t t0 t1 ht
  · rw [← h u u0 u1]
    cases e : χ u with
    | false => rfl
    | true => rw [h2 u u0 u1 e]
theorem qSc_cg (h : ∀ u, 0 ≤ u → u < n → χ u = χ' u) (h2 : ∀ u, 0 ≤ u → u < n → χ u = true → a u = a' u) : qSc V W n χ a = qSc V W n χ' a' := qsB_cg h (fun u u0 u1 e => by rw [h2 u u0 u1 e])
theorem qBt_cg (hn : 0 ≤ n) (h : ∀ u, 0 ≤ u → u < n → χ u = χ' u) (hb : qBt A r V W n b hs χ z) : qBt A r V W n b hs χ' z := by
  obtain ⟨⟨a, ha, ea⟩, ua⟩ := hb
  refine ⟨⟨a, qAs_cg hn h (fun _ _ _ _ => rfl) ha, ?_⟩, fun c hc => ?_⟩
  · rw [← qSc_cg (a := a) h (fun _ _ _ _ => rfl)]; exact ea
  · rw [← qSc_cg (a := c) h (fun _ _ _ _ => rfl)]
    exact ua c (qAs_cg hn (fun u u0 u1 => (h u u0 u1).symm) (fun _ _ _ _ => rfl) hc)
theorem qBt_hs {hs' : Int → Prop} (h : ∀ x, hs x ↔ hs' x) (hb : qBt A r V W n b hs χ z) : qBt A r V W n b hs' χ z := by
  have e : hs = hs' := funext fun x => propext (h x)
  rw [← e]; exact hb
/-- other heirs' days don't matter -/
theorem qBt_A {A' : Int → Int → Int} (h : ∀ x, hs x → A x = A' x) (hb : qBt A r V W n b hs χ z) : qBt A' r V W n b hs χ z := by
  obtain ⟨⟨a, ha, ea⟩, ua⟩ := hb
  refine ⟨⟨a, ⟨ha.1, fun g hg => by rw [← h g hg]; exact ha.2 g hg⟩, ea⟩, fun c hc => ua c ⟨hc.1, fun g hg => by rw [h g hg]; exact hc.2 g hg⟩⟩
theorem qBt_0 (hn : 0 ≤ n) : qBt A r V W n b (fun _ => False) χ (-9 * qsB χ W n) := by
  have e : ∀ a, qAs A r n b (fun _ => False) χ a → qSc V W n χ a = -9 * qsB χ W n := by
    intro a ha
    rw [← qsB_mul n hn]
    refine qsB_cg (fun _ _ _ => rfl) (fun u u0 u1 hu => ?_)
    have := ha.1 u u0 u1 hu
    rcases this with h9 | hf
    · rw [if_pos h9, h9]; omega
    · exact hf.elim
  refine ⟨⟨fun _ => 9, ?_, ?_⟩, fun a ha => by rw [e a ha]; exact Int.le_refl _⟩
  · exact ⟨fun _ _ _ _ => Or.inl rfl, fun g hg => hg.elim⟩
  · exact e _ ⟨fun _ _ _ _ => Or.inl rfl, fun g hg => hg.elim⟩
/-- the rest of a set -/
def qdf (χ q : Int → Bool) : Int → Bool := fun t => χ t && !q t
theorem qSc_sp {q : Int → Bool} (hn : 0 ≤ n) (hq : ∀ t, 0 ≤ t → t < n → q t = true → χ t = true ∧ a t = h) (h9 : ¬ h = 9) : qSc V W n χ a = (qsB q V n * 1000000 - h * qsB q W n) + qSc V W n (qdf χ q) a := by
  unfold qSc
  rw [qsB_sp (p := q) n hn]
  congr 1
  rw [qsB_cg (χ' := q) (g := fun t => 1000000 * V t - h * W t) (fun u u0 u1 => ?_) (fun u u0 u1 hu => ?_)]
  · rw [qsB_sub n hn, qsB_mul n hn, qsB_mul n hn, Int.mul_comm]
  · cases e : q u with
    | false => rw [Bool.and_false]
    | true => rw [(hq u u0 u1 e).1]; rfl
  · rw [Bool.and_eq_true] at hu
    have := (hq u u0 u1 hu.2).2
    rw [this, if_neg h9, Int.mul_comm]
def qmx (q : Int → Bool) (h : Int) (a : Int → Int) : Int → Int := fun t => if q t = true then h else a t
theorem qmx_y {q : Int → Bool} {t : Int} (e : q t = true) : qmx q h a t = h := by unfold qmx; rw [if_pos e]
theorem qmx_n {q : Int → Bool} {t : Int} (e : q t = false) : qmx q h a t = a t := by unfold qmx; rw [if_neg (by rw [e]; simp)]
/-- one heir more -/
theorem qBt_step {zf : Int → Int} {M : Int} {I : Int → Prop} {Y : Int → Int → Bool} (hn : 0 ≤ n) (h9 : ¬ h = 9) (hh : ¬ hs h)
    (hI : ∀ p : Int → Bool, ∃ q, I q ∧ ∀ t, 0 ≤ t → t < n → Y q t = (χ t && p t))
    (hz : ∀ q, I q → (∀ t, 0 ≤ t → t < n → Y q t = true → χ t = true) → qBt A r V W n b hs (qdf χ (Y q)) (zf q))
    (hz0 : qBt A r V W n b hs χ z)
    (h1 : z ≤ M) (h2 : ∀ q, I q → (∀ t, 0 ≤ t → t < n → Y q t = true → χ t = true) → (∃ t, 0 ≤ t ∧ t < n ∧ Y q t = true) → qFe (A h) r n b (Y q) → (qsB (Y q) V n * 1000000 - h * qsB (Y q) W n) + zf q ≤ M)
    (h3 : M = z ∨ ∃ q, I q ∧ (∀ t, 0 ≤ t → t < n → Y q t = true → χ t = true) ∧ qFe (A h) r n b (Y q) ∧ M = (qsB (Y q) V n * 1000000 - h * qsB (Y q) W n) + zf q) : qBt A r V W n b (fun x => hs x ∨ x = h) χ M := by
  constructor
  · rcases h3 with e | ⟨q, hq, hsub, hfe, e⟩
    · obtain ⟨⟨a, ha, ea⟩, _⟩ := hz0
      refine ⟨a, ⟨fun t t0 t1 ht => (ha.1 t t0 t1 ht).imp id Or.inl, fun g hg => ?_⟩, by rw [e]; exact ea⟩
      rcases hg with hg | hg
      · exact ha.2 g hg
      · refine qFe_e (fun u u0 u1 => ?_)
        cases eu : χ u with
        | false => rfl
        | true =>
          rw [Bool.true_and, decide_eq_false_iff_not]
          intro e2
          rcases ha.1 u u0 u1 eu with e3 | e3
          · exact h9 (by omega)
          · exact hh (by rw [← hg, ← e2]; exact e3)
    · obtain ⟨⟨a, ha, ea⟩, _⟩ := hz q hq hsub
      have hdf : ∀ u, qdf χ (Y q) u = true → Y q u = false := fun u hu => by
        unfold qdf at hu
        rw [Bool.and_eq_true, Bool.not_eq_true'] at hu
        exact hu.2
      refine ⟨qmx (Y q) h a, ⟨fun t t0 t1 ht => ?_, fun g hg => ?_⟩, ?_⟩
      · by_cases e2 : Y q t = true
        · rw [qmx_y e2]; exact Or.inr (Or.inr rfl)
        · have e2 := Bool.eq_false_iff.mpr e2
          rw [qmx_n e2]
          refine (ha.1 t t0 t1 ?_).imp id Or.inl
          unfold qdf
          rw [ht, e2]; rfl
      · by_cases eg : g = h
        · rw [eg]
          refine qFe_cg hn (fun u u0 u1 => ?_) hfe
          by_cases e2 : Y q u = true
          · rw [qmx_y e2, e2, hsub u u0 u1 e2, Bool.true_and, decide_eq_true rfl]
          · have e2 := Bool.eq_false_iff.mpr e2
            rw [qmx_n e2, e2]
            cases e3 : χ u with
            | false => rfl
            | true =>
              rw [Bool.true_and]
              symm
              rw [decide_eq_false_iff_not]
              intro e4
              have := ha.1 u u0 u1 (by unfold qdf; rw [e2, e3]; rfl)
              rcases this with e5 | e5
              · exact h9 (by omega)
              · exact hh (by rw [← e4]; exact e5)
        · have hg2 : hs g := hg.elim id (fun e => absurd e eg)
          refine qFe_cg hn (fun u u0 u1 => ?_) (ha.2 g hg2)
          unfold qdf
          by_cases e2 : Y q u = true
          · rw [qmx_y e2, e2, decide_eq_false (fun e : h = g => eg e.symm), Bool.not_true, Bool.and_false, Bool.false_and]
          · have e2 := Bool.eq_false_iff.mpr e2
            rw [qmx_n e2, e2, Bool.not_false, Bool.and_true]
      · rw [qSc_sp (q := Y q) hn (fun t t0 t1 ht => ⟨hsub t t0 t1 ht, qmx_y ht⟩) h9, e]
        congr 1
        rw [← ea]
        exact qSc_cg (fun _ _ _ => rfl) (fun u u0 u1 hu => qmx_n (hdf u hu))
  · intro a ha
    obtain ⟨q, hq, eq⟩ := hI (fun t => decide (a t = h))
    have hsub : ∀ t, 0 ≤ t → t < n → Y q t = true → χ t = true := fun t t0 t1 ht => by
      rw [eq t t0 t1, Bool.and_eq_true] at ht
      exact ht.1
    have hah : ∀ t, 0 ≤ t → t < n → Y q t = true → a t = h := fun t t0 t1 ht => by
      rw [eq t t0 t1, Bool.and_eq_true, decide_eq_true_eq] at ht
      exact ht.2
    have hrest : qAs A r n b hs (qdf χ (Y q)) a := by
      refine ⟨fun t t0 t1 ht => ?_, fun g hg => qFe_cg hn (fun u u0 u1 => ?_) (ha.2 g (Or.inl hg))⟩
      · unfold qdf at ht
        rw [Bool.and_eq_true, Bool.not_eq_true'] at ht
        rcases ha.1 t t0 t1 ht.1 with e | e | e
        · exact Or.inl e
        · exact Or.inr e
        · have := eq t t0 t1
          rw [ht.1, ht.2, Bool.true_and, decide_eq_true e] at this
          exact absurd this (by simp)
      · unfold qdf
        cases e2 : Y q u with
        | false => rw [Bool.not_false, Bool.and_true]
        | true =>
          rw [hah u u0 u1 e2, decide_eq_false (fun e : h = g => hh (by rw [e]; exact hg)), Bool.and_false, Bool.and_false]
    have hzq := (hz q hq hsub).2 a hrest
    rw [qSc_sp (q := Y q) hn (fun t t0 t1 ht => ⟨hsub t t0 t1 ht, hah t t0 t1 ht⟩) h9]
    by_cases hne : ∃ t, 0 ≤ t ∧ t < n ∧ Y q t = true
    · have := h2 q hq hsub hne (qFe_cg hn (fun u u0 u1 => (eq u u0 u1).symm) (ha.2 h (Or.inr rfl)))
      omega
    · have q0 : ∀ u, 0 ≤ u → u < n → Y q u = false := fun u u0 u1 => by
        cases e : Y q u with
        | false => rfl
        | true => exact absurd ⟨u, u0, u1, e⟩ hne
      have hz2 := hz0.2 a (qAs_cg hn (fun u u0 u1 => by unfold qdf; rw [q0 u u0 u1, Bool.not_false, Bool.and_true]) (fun _ _ _ _ => rfl) hrest)
      rw [qsB_e n hn q0, qsB_e n hn q0]
      have e0 : qSc V W n (qdf χ (Y q)) a = qSc V W n χ a := qSc_cg (fun u u0 u1 => by unfold qdf; rw [q0 u u0 u1, Bool.not_false, Bool.and_true]) (fun _ _ _ _ => rfl)
      rw [e0]
      omega
end DE
