/-! B: THE WORLD that class and reference both hold: nT things, nH heirs; T, P, E, U, N as the reference's rows -/
/-- rows of what changes -/
def qNw (nT nH : Int) (T N : Int → Int) : Prop :=
  (∀ t, 0 ≤ t → t < nT → (0 ≤ N (6 * t) ∧ N (6 * t) ≤ T (4 * t + 3)) ∧ (-1 ≤ N (6 * t + 1) ∧ N (6 * t + 1) < nH) ∧ (0 ≤ N (6 * t + 2) ∧ N (6 * t + 2) ≤ 2 ∧ (N (6 * t + 2) = 0 → N (6 * t) < T (4 * t + 3))) ∧ (0 ≤ N (6 * t + 3) ∧ N (6 * t + 3) ≤ 26) ∧ (-1 ≤ N (6 * t + 4) ∧ N (6 * t + 4) ≤ 999) ∧ (-1 ≤ N (6 * t + 5) ∧ N (6 * t + 5) < nH)) ∧
  (∀ h k, 0 ≤ h → h < nH → 0 ≤ k → k < 5 → 0 ≤ N (36 + 5 * h + k) ∧ N (36 + 5 * h + k) ≤ 9) ∧ (0 ≤ N 66 ∧ N 66 ≤ 999)
def qWF (nT nH : Int) (T P E U N : Int → Int) : Prop :=
  ((0 ≤ nT ∧ nT ≤ 6) ∧ (0 ≤ nH ∧ nH ≤ 6) ∧ (nT = 0 ↔ nH = 0)) ∧
  (∀ t, 0 ≤ t → t < nT → (0 ≤ T (4 * t) ∧ T (4 * t) ≤ 99) ∧ (1 ≤ T (4 * t + 1) ∧ T (4 * t + 1) ≤ 99) ∧ (1 ≤ T (4 * t + 3) ∧ T (4 * t + 3) ≤ 8)) ∧
  (∀ t s, 0 ≤ t → t < nT → 0 ≤ s → s < T (4 * t + 3) → (0 ≤ P (2 * (8 * t + s)) ∧ P (2 * (8 * t + s)) ≤ 4) ∧ (1 ≤ P (2 * (8 * t + s) + 1) ∧ P (2 * (8 * t + s) + 1) ≤ 9)) ∧
  (∀ h, 0 ≤ h → h < nH → 0 ≤ E (6 * h + 5) ∧ E (6 * h + 5) ≤ 9) ∧ (∀ k, 0 ≤ k → k < 5 → 0 ≤ U k ∧ U k ≤ 4) ∧ qNw nT nH T N
/-- the class's row of what changes against the reference's -/
def qLv (nT nH : Int) (L N : Int → Int) : Prop :=
  (∀ t, 0 ≤ t → t < nT → L (0 + t) = N (6 * t) ∧ L (6 + t) = N (6 * t + 3) ∧ L (12 + t) = N (6 * t + 1) ∧ L (18 + t) = N (6 * t + 2) ∧ L (24 + t) = N (6 * t + 4) ∧ L (30 + t) = N (6 * t + 5)) ∧
  (∀ h k, 0 ≤ h → h < nH → 0 ≤ k → k < 5 → L (36 + h * 5 + k) = N (36 + 5 * h + k)) ∧ L 66 = N 66
/-- what is told -/
def qTo (m : Nat → Int → Int) (w : Nat) (nT nH : Int) (T P E U : Int → Int) : Prop :=
  (m w 9 = nT ∧ m w 10 = nH) ∧
  (∀ t, 0 ≤ t → t < nT → m (w + 1) t = T (4 * t) ∧ m (w + 2) t = T (4 * t + 1) ∧ m (w + 3) t = T (4 * t + 3)) ∧
  (∀ t s, 0 ≤ t → t < nT → 0 ≤ s → s < T (4 * t + 3) → m (w + 4) (t * 8 + s) = P (2 * (8 * t + s)) ∧ m (w + 5) (t * 8 + s) = P (2 * (8 * t + s) + 1)) ∧
  (∀ h, 0 ≤ h → h < nH → m (w + 6) h = E (6 * h + 5)) ∧ (∀ k, 0 ≤ k → k < 5 → m (w + 7) k = U k)
def qER (m : Nat → Int → Int) (w : Nat) (nT nH : Int) (T P E U N : Int → Int) : Prop := qTo m w nT nH T P E U ∧ qLv nT nH (m (w + 9)) N
def qMR (m : Nat → Int → Int) (nT nH : Int) (T P E U N : Int → Int) : Prop := m 120 26 = nT ∧ m 120 27 = nH ∧ m 125 = T ∧ m 127 = P ∧ m 129 = E ∧ m 131 = U ∧ m 135 = N
section WORLD
variable {nT nH : Int} {T P E U N : Int → Int} {m m' : Nat → Int → Int} {w : Nat} {t s h k : Int}
theorem qw_n (hW : qWF nT nH T P E U N) : (0 ≤ nT ∧ nT ≤ 6) ∧ (0 ≤ nH ∧ nH ≤ 6) ∧ (nT = 0 ↔ nH = 0) := hW.1
theorem qw_t (hW : qWF nT nH T P E U N) (h0 : 0 ≤ t) (h1 : t < nT) : (0 ≤ T (4 * t) ∧ T (4 * t) ≤ 99) ∧ (1 ≤ T (4 * t + 1) ∧ T (4 * t + 1) ≤ 99) ∧ (1 ≤ T (4 * t + 3) ∧ T (4 * t + 3) ≤ 8) := hW.2.1 t h0 h1
theorem qw_p (hW : qWF nT nH T P E U N) (h0 : 0 ≤ t) (h1 : t < nT) (h2 : 0 ≤ s) (h3 : s < T (4 * t + 3)) : (0 ≤ P (2 * (8 * t + s)) ∧ P (2 * (8 * t + s)) ≤ 4) ∧ (1 ≤ P (2 * (8 * t + s) + 1) ∧ P (2 * (8 * t + s) + 1) ≤ 9) := hW.2.2.1 t s h0 h1 h2 h3
theorem qw_e (hW : qWF nT nH T P E U N) (h0 : 0 ≤ h) (h1 : h < nH) : 0 ≤ E (6 * h + 5) ∧ E (6 * h + 5) ≤ 9 := hW.2.2.2.1 h h0 h1
theorem qw_u (hW : qWF nT nH T P E U N) (h0 : 0 ≤ k) (h1 : k < 5) : 0 ≤ U k ∧ U k ≤ 4 := hW.2.2.2.2.1 k h0 h1
theorem qw_nw (hW : qWF nT nH T P E U N) : qNw nT nH T N := hW.2.2.2.2.2
theorem qw_dn (hW : qWF nT nH T P E U N) (h0 : 0 ≤ t) (h1 : t < nT) : 0 ≤ N (6 * t) ∧ N (6 * t) ≤ T (4 * t + 3) := (hW.2.2.2.2.2.1 t h0 h1).1
theorem qw_ho (hW : qWF nT nH T P E U N) (h0 : 0 ≤ t) (h1 : t < nT) : -1 ≤ N (6 * t + 1) ∧ N (6 * t + 1) < nH := (hW.2.2.2.2.2.1 t h0 h1).2.1
theorem qw_st (hW : qWF nT nH T P E U N) (h0 : 0 ≤ t) (h1 : t < nT) : 0 ≤ N (6 * t + 2) ∧ N (6 * t + 2) ≤ 2 ∧ (N (6 * t + 2) = 0 → N (6 * t) < T (4 * t + 3)) := (hW.2.2.2.2.2.1 t h0 h1).2.2.1
theorem qw_go (hW : qWF nT nH T P E U N) (h0 : 0 ≤ t) (h1 : t < nT) : 0 ≤ N (6 * t + 3) ∧ N (6 * t + 3) ≤ 26 := (hW.2.2.2.2.2.1 t h0 h1).2.2.2.1
theorem qw_on (hW : qWF nT nH T P E U N) (h0 : 0 ≤ t) (h1 : t < nT) : -1 ≤ N (6 * t + 4) ∧ N (6 * t + 4) ≤ 999 := (hW.2.2.2.2.2.1 t h0 h1).2.2.2.2.1
theorem qw_by (hW : qWF nT nH T P E U N) (h0 : 0 ≤ t) (h1 : t < nT) : -1 ≤ N (6 * t + 5) ∧ N (6 * t + 5) < nH := (hW.2.2.2.2.2.1 t h0 h1).2.2.2.2.2
theorem qw_sk (hW : qWF nT nH T P E U N) (h0 : 0 ≤ h) (h1 : h < nH) (h2 : 0 ≤ k) (h3 : k < 5) : 0 ≤ N (36 + 5 * h + k) ∧ N (36 + 5 * h + k) ≤ 9 := hW.2.2.2.2.2.2.1 h k h0 h1 h2 h3
theorem qw_day (hW : qWF nT nH T P E U N) : 0 ≤ N 66 ∧ N 66 ≤ 999 := hW.2.2.2.2.2.2.2
theorem qe_n (hE : qER m w nT nH T P E U N) : m w 9 = nT ∧ m w 10 = nH := hE.1.1
theorem qe_t (hE : qER m w nT nH T P E U N) (h0 : 0 ≤ t) (h1 : t < nT) : m (w + 1) t = T (4 * t) ∧ m (w + 2) t = T (4 * t + 1) ∧ m (w + 3) t = T (4 * t + 3) := hE.1.2.1 t h0 h1
theorem qe_p (hE : qER m w nT nH T P E U N) (h0 : 0 ≤ t) (h1 : t < nT) (h2 : 0 ≤ s) (h3 : s < T (4 * t + 3)) : m (w + 4) (t * 8 + s) = P (2 * (8 * t + s)) ∧ m (w + 5) (t * 8 + s) = P (2 * (8 * t + s) + 1) := hE.1.2.2.1 t s h0 h1 h2 h3
theorem qe_e (hE : qER m w nT nH T P E U N) (h0 : 0 ≤ h) (h1 : h < nH) : m (w + 6) h = E (6 * h + 5) := hE.1.2.2.2.1 h h0 h1
theorem qe_u (hE : qER m w nT nH T P E U N) (h0 : 0 ≤ k) (h1 : k < 5) : m (w + 7) k = U k := hE.1.2.2.2.2 k h0 h1
theorem qe_l (hE : qER m w nT nH T P E U N) (h0 : 0 ≤ t) (h1 : t < nT) : m (w + 9) (0 + t) = N (6 * t) ∧ m (w + 9) (6 + t) = N (6 * t + 3) ∧ m (w + 9) (12 + t) = N (6 * t + 1) ∧ m (w + 9) (18 + t) = N (6 * t + 2) ∧ m (w + 9) (24 + t) = N (6 * t + 4) ∧ m (w + 9) (30 + t) = N (6 * t + 5) := hE.2.1 t h0 h1
theorem qe_sk (hE : qER m w nT nH T P E U N) (h0 : 0 ≤ h) (h1 : h < nH) (h2 : 0 ≤ k) (h3 : k < 5) : m (w + 9) (36 + h * 5 + k) = N (36 + 5 * h + k) := hE.2.2.1 h k h0 h1 h2 h3
theorem qe_day (hE : qER m w nT nH T P E U N) : m (w + 9) 66 = N 66 := hE.2.2.2
/-- the same rows -/
theorem qER.fr (hE : qER m w nT nH T P E U N) (h0 : m' w 9 = m w 9 ∧ m' w 10 = m w 10) (h1 : m' (w + 1) = m (w + 1)) (h2 : m' (w + 2) = m (w + 2)) (h3 : m' (w + 3) = m (w + 3)) (h4 : m' (w + 4) = m (w + 4)) (h5 : m' (w + 5) = m (w + 5)) (h6 : m' (w + 6) = m (w + 6)) (h7 : m' (w + 7) = m (w + 7)) (h9 : m' (w + 9) = m (w + 9)) : qER m' w nT nH T P E U N := by
  unfold qER qTo at *
  rw [h0.1, h0.2, h1, h2, h3, h4, h5, h6, h7, h9]
  exact hE
theorem qMR.fr (hM : qMR m nT nH T P E U N) (h0 : m' 120 26 = m 120 26 ∧ m' 120 27 = m 120 27) (h1 : m' 125 = m 125) (h2 : m' 127 = m 127) (h3 : m' 129 = m 129) (h4 : m' 131 = m 131) (h5 : m' 135 = m 135) : qMR m' nT nH T P E U N := by
  unfold qMR at *
  rw [h0.1, h0.2, h1, h2, h3, h4, h5]
  exact hM
theorem qMR.thrown {z : Int} (hM : qMR m nT nH T P E U N) : qMR (up m 120 0 z) nT nH T P E U N :=
  hM.fr ⟨by rw [qup_o (by omega)], by rw [qup_o (by omega)]⟩ (qup_n (by omega)) (qup_n (by omega)) (qup_n (by omega)) (qup_n (by omega)) (qup_n (by omega))
end WORLD
/-! days -/
def qdv (d v : Int) : Int := if v = 0 then -1 else Int.tdiv (3 * d + v - 1) v
set_option maxRecDepth 100000 in
theorem qdv_fin : ∀ d v : Fin 10, 1 ≤ d.val → 1 ≤ v.val → 1 ≤ Int.tdiv (3 * (d.val : Int) + (v.val : Int) - 1) (v.val : Int) ∧ Int.tdiv (3 * (d.val : Int) + (v.val : Int) - 1) (v.val : Int) ≤ 27 := by decide +kernel
set_option maxRecDepth 100000 in
theorem qdv_fin2 : ∀ d v u : Fin 10, 1 ≤ v.val → v.val ≤ u.val → Int.tdiv (3 * (d.val : Int) + (u.val : Int) - 1) (u.val : Int) ≤ Int.tdiv (3 * (d.val : Int) + (v.val : Int) - 1) (v.val : Int) := by decide +kernel
theorem qtd_bd {d v : Int} (h1 : 1 ≤ d) (h2 : d ≤ 9) (h3 : 1 ≤ v) (h4 : v ≤ 9) : 1 ≤ Int.tdiv (3 * d + v - 1) v ∧ Int.tdiv (3 * d + v - 1) v ≤ 27 := by
  obtain ⟨a, rfl⟩ := Int.eq_ofNat_of_zero_le (show 0 ≤ d by omega)
  obtain ⟨b, rfl⟩ := Int.eq_ofNat_of_zero_le (show 0 ≤ v by omega)
  exact qdv_fin ⟨a, by omega⟩ ⟨b, by omega⟩ (by show 1 ≤ a; omega) (by show 1 ≤ b; omega)
theorem qtd_mono {d v u : Int} (h1 : 1 ≤ d) (h2 : d ≤ 9) (h3 : 1 ≤ v) (h4 : v ≤ u) (h5 : u ≤ 9) : Int.tdiv (3 * d + u - 1) u ≤ Int.tdiv (3 * d + v - 1) v := by
  obtain ⟨a, rfl⟩ := Int.eq_ofNat_of_zero_le (show 0 ≤ d by omega)
  obtain ⟨b, rfl⟩ := Int.eq_ofNat_of_zero_le (show 0 ≤ v by omega)
  obtain ⟨c, rfl⟩ := Int.eq_ofNat_of_zero_le (show 0 ≤ u by omega)
  exact qdv_fin2 ⟨a, by omega⟩ ⟨b, by omega⟩ ⟨c, by omega⟩ (by show 1 ≤ b; omega) (by show b ≤ c; omega)
theorem qdv_bd {d v : Int} (h1 : 1 ≤ d) (h2 : d ≤ 9) (h3 : 0 ≤ v) (h4 : v ≤ 9) : -1 ≤ qdv d v ∧ qdv d v ≤ 27 ∧ (v = 0 ↔ qdv d v = -1) ∧ ¬ qdv d v = 0 := by
  unfold qdv
  split
  · omega
  · have := qtd_bd h1 h2 (show 1 ≤ v by omega) h4
    omega
def qtk (P N : Int → Int) (h t s : Int) : Int := qdv (P (2 * (8 * t + s) + 1)) (N (36 + 5 * h + P (2 * (8 * t + s))))
/-- alone, from a step on -/
def qal (T P N : Int → Int) (h t s : Int) : Int := qsum (qtk P N h t) (T (4 * t + 3)) s 0
abbrev qit (T N : Int → Int) (t z : Int) : Prop := ¬ z = -1 ∧ N 66 + z ≤ T (4 * t + 1)
section DAYS
variable {nT nH : Int} {T P E U N : Int → Int} {t s h k : Int}
theorem qtk_bd (hW : qWF nT nH T P E U N) (h0 : 0 ≤ h) (h1 : h < nH) (t0 : 0 ≤ t) (t1 : t < nT) (s0 : 0 ≤ s) (s1 : s < T (4 * t + 3)) : -1 ≤ qtk P N h t s ∧ qtk P N h t s ≤ 27 ∧ ¬ qtk P N h t s = 0 := by
  have e := qw_p hW t0 t1 s0 s1
  have e2 := qw_sk hW h0 h1 (show 0 ≤ P (2 * (8 * t + s)) by omega) (show P (2 * (8 * t + s)) < 5 by omega)
  have := qdv_bd (d := P (2 * (8 * t + s) + 1)) (v := N (36 + 5 * h + P (2 * (8 * t + s)))) (by omega) (by omega) (by omega) (by omega)
  unfold qtk
  omega
theorem qal_bd (hW : qWF nT nH T P E U N) (h0 : 0 ≤ h) (h1 : h < nH) (t0 : 0 ≤ t) (t1 : t < nT) (s0 : 0 ≤ s) (s1 : s ≤ T (4 * t + 3)) : -1 ≤ qal T P N h t s ∧ qal T P N h t s ≤ 216 := by
  have e := qw_t hW t0 t1
  have := qsum_bd (f := qtk P N h t) (S := T (4 * t + 3)) (c := 27) (by omega) s s1 (fun i hi1 hi2 => by have := qtk_bd hW h0 h1 t0 t1 (show 0 ≤ i by omega) hi2; omega) 0 (by omega)
  unfold qal
  omega
theorem qal_dn (hW : qWF nT nH T P E U N) (h0 : 0 ≤ h) (h1 : h < nH) (t0 : 0 ≤ t) (t1 : t < nT) : -1 ≤ qal T P N h t (N (6 * t)) ∧ qal T P N h t (N (6 * t)) ≤ 216 :=
  qal_bd hW h0 h1 t0 t1 (qw_dn hW t0 t1).1 (qw_dn hW t0 t1).2
end DAYS
/-- the best skill of a set -/
def qbs (N : Int → Int) (nH set k : Int) : Int := qfold (fun h a => if bAnd (bShr set h) 1 = 1 then max a (N (36 + 5 * h + k)) else a) nH 0 0
def qtm (T P N : Int → Int) (nH t set : Int) : Int := qsum (fun s => qdv (P (2 * (8 * t + s) + 1)) (qbs N nH set (P (2 * (8 * t + s))))) (T (4 * t + 3)) (N (6 * t)) 0
section TEAM
variable {nT nH : Int} {T P E U N : Int → Int} {t s h k set : Int}
theorem qbs_bd (hW : qWF nT nH T P E U N) (k0 : 0 ≤ k) (k1 : k < 5) : 0 ≤ qbs N nH set k ∧ qbs N nH set k ≤ 9 := by
  have e := qw_n hW
  unfold qbs
  refine qfold_inv (I := fun _ a => 0 ≤ a ∧ a ≤ 9) ?_ (by omega) (by omega)
  intro i a h0 h1 ha
  have := qw_sk hW h0 h1 k0 k1
  try dsimp only
  split <;> omega
theorem qtm_bd (hW : qWF nT nH T P E U N) (t0 : 0 ≤ t) (t1 : t < nT) : -1 ≤ qtm T P N nH t set ∧ qtm T P N nH t set ≤ 216 := by
  have e := qw_t hW t0 t1
  have e1 := qw_dn hW t0 t1
  have := qsum_bd (f := fun s => qdv (P (2 * (8 * t + s) + 1)) (qbs N nH set (P (2 * (8 * t + s))))) (S := T (4 * t + 3)) (c := 27) (by omega) (N (6 * t)) e1.2 (fun i hi1 hi2 => by
    have e2 := qw_p hW t0 t1 (show 0 ≤ i by omega) hi2
    have e3 := qbs_bd (set := set) hW (show 0 ≤ P (2 * (8 * t + i)) by omega) (by omega)
    have := qdv_bd (d := P (2 * (8 * t + i) + 1)) (v := qbs N nH set (P (2 * (8 * t + i)))) (by omega) (by omega) (by omega) (by omega)
    try dsimp only
    omega) 0 (by omega)
  unfold qtm
  omega
end TEAM
def qwho (T P N : Int → Int) (nH t : Int) : Int := qfold (fun h a => if qit T N t (qal T P N h t (N (6 * t))) then bOrr a (bShl 1 h) else a) nH 0 0
/-- the first of [s, S) of which p holds; -1 -/
def qfs (p : Int → Bool) : Nat → Int → Int
  | 0, _ => -1
  | n + 1, s => if p s then s else qfs p n (s + 1)
def qfst (p : Int → Bool) (S s : Int) : Int := qfs p (S - s).toNat s
theorem qfst_lt {p : Int → Bool} {S s : Int} (h : s < S) : qfst p S s = if p s then s else qfst p S (s + 1) := by
  unfold qfst
  rw [show (S - s).toNat = (S - (s + 1)).toNat + 1 by omega, qfs]
theorem qfst_ge {p : Int → Bool} {S s : Int} (h : S ≤ s) : qfst p S s = -1 := by
  unfold qfst
  rw [show (S - s).toNat = 0 by omega, qfs]
def qstk (T P N : Int → Int) (nH t : Int) : Int := qfst (fun s => decide (qbs N nH (bShl 1 nH - 1) (P (2 * (8 * t + s))) = 0)) (T (4 * t + 3)) (N (6 * t))
def qbc (x1 : Int) : Int := bAnd (((bAnd (((bAnd (x1 - (bAnd (bUsh x1 1) 1431655765)) 858993459) + (bAnd (bUsh (x1 - (bAnd (bUsh x1 1) 1431655765)) 2) 858993459)) + (bUsh ((bAnd (x1 - (bAnd (bUsh x1 1) 1431655765)) 858993459) + (bAnd (bUsh (x1 - (bAnd (bUsh x1 1) 1431655765)) 2) 858993459)) 4)) 252645135) + (bUsh (bAnd (((bAnd (x1 - (bAnd (bUsh x1 1) 1431655765)) 858993459) + (bAnd (bUsh (x1 - (bAnd (bUsh x1 1) 1431655765)) 2) 858993459)) + (bUsh ((bAnd (x1 - (bAnd (bUsh x1 1) 1431655765)) 858993459) + (bAnd (bUsh (x1 - (bAnd (bUsh x1 1) 1431655765)) 2) 858993459)) 4)) 252645135) 8)) + (bUsh ((bAnd (((bAnd (x1 - (bAnd (bUsh x1 1) 1431655765)) 858993459) + (bAnd (bUsh (x1 - (bAnd (bUsh x1 1) 1431655765)) 2) 858993459)) + (bUsh ((bAnd (x1 - (bAnd (bUsh x1 1) 1431655765)) 858993459) + (bAnd (bUsh (x1 - (bAnd (bUsh x1 1) 1431655765)) 2) 858993459)) 4)) 252645135) + (bUsh (bAnd (((bAnd (x1 - (bAnd (bUsh x1 1) 1431655765)) 858993459) + (bAnd (bUsh (x1 - (bAnd (bUsh x1 1) 1431655765)) 2) 858993459)) + (bUsh ((bAnd (x1 - (bAnd (bUsh x1 1) 1431655765)) 858993459) + (bAnd (bUsh (x1 - (bAnd (bUsh x1 1) 1431655765)) 2) 858993459)) 4)) 252645135) 8)) 16)) 63
theorem qbc_inR (x : Int) : inR (qbc x) := qAnd_inR _ _
theorem c_bitCount {xs : List Int32} {Q : bPo} {b0 b1 b2 : Bool} {m : Nat → Int → Int} {x : Int} (hQ : Q (qbc x) ((b0, b1, b2), m)) : bC xs 1 282 [vi x] ((b0, b1, b2), m) Q :=
  qC rfl fun d hd => r_J6_bitCount_0f7a4_0 hd hQ
theorem qpw {n : Int} (h0 : 0 ≤ n) (h1 : n ≤ 6) : 1 ≤ bShl 1 n ∧ bShl 1 n ≤ 64 := by
  have : n = 0 ∨ n = 1 ∨ n = 2 ∨ n = 3 ∨ n = 4 ∨ n = 5 ∨ n = 6 := by omega
  rcases this with rfl | rfl | rfl | rfl | rfl | rfl | rfl <;> decide +kernel
theorem qevery {n h : Int} (h0 : 0 ≤ n) (h1 : n ≤ 6) (h2 : 0 ≤ h) (h3 : h < n) : bAnd (bShr (bShl 1 n - 1) h) 1 = 1 := by
  obtain ⟨a, rfl⟩ := Int.eq_ofNat_of_zero_le h0
  obtain ⟨b, rfl⟩ := Int.eq_ofNat_of_zero_le h2
  have H : ∀ a b : Fin 7, b.val < a.val → bAnd (bShr (bShl 1 (a.val : Int) - 1) (b.val : Int)) 1 = 1 := by decide +kernel
  exact H ⟨a, by omega⟩ ⟨b, by omega⟩ (by show b < a; omega)
def qhlp (T P N : Int → Int) (nH t : Int) : Int := qfold (fun set a => if (a = -1 ∨ qbc set < qbc a) ∧ qit T N t (qtm T P N nH t set) then set else a) (bShl 1 nH) 1 (-1)
def qsld (T P N : Int → Int) (nT nH : Int) : Int := qfold (fun t a => if N (6 * t + 2) = 0 ∧ qwho T P N nH t = 0 ∧ qit T N t (qtm T P N nH t (bShl 1 nH - 1)) then a + T (4 * t) else a) nT 0 0
theorem qwho_inR {T P N : Int → Int} {nH t : Int} (h : 0 ≤ nH) : inR (qwho T P N nH t) := by
  unfold qwho
  refine qfold_inv (I := fun _ a => inR a) ?_ h (by omega)
  intro i a _ _ ha
  try dsimp only
  split
  · exact qOrr_inR _ _
  · exact ha
