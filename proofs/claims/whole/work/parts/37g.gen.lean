/-! B: GENERATIONS -/
def qnx (x : Int) : Int := (x * 6364136223846793005) + 1442695040888963407
def qdr (x : Int) : Int := Int.tmod (lUsh (qnx x) 33) 10
def qgz (x v : Int) : Int := if qdr x = 0 then 0 else if qdr x = 1 then min 9 (v + 1) else v
/-- what was drawn, rows, how many -/
def qgs (k : Int) (s : Int × (Int → Int) × Int) : Int × (Int → Int) × Int := (qnx s.1, qset s.2.1 (36 + k) (qgz s.1 (s.2.1 (36 + k))), if 0 < qgz s.1 (s.2.1 (36 + k)) then s.2.2 + 1 else s.2.2)
def qgf (nH x : Int) (N : Int → Int) : Int × (Int → Int) × Int := qfold qgs (5 * nH) 0 (x, N, 0)
def qgh (t : Int) (N : Int → Int) : Int → Int := qset N (6 * t + 1) (-1)
def qgen (nT nH x : Int) (N : Int → Int) : Int → Int := qfold qgh nT 0 (qgf nH x N).2.1
theorem qdr_bd (x : Int) : -10 < qdr x ∧ qdr x < 10 := ⟨Int.lt_tmod_of_pos _ (by omega), Int.tmod_lt_of_pos _ (by omega)⟩
theorem lUsh_inL (x y : Int) : inL (lUsh x y) := by
  unfold lUsh
  constructor
  · exact Int64.le_toInt _
  · have := Int64.toInt_lt (((Int64.ofInt x).toUInt64 >>> ((Int32.ofInt y).toInt64.toUInt64 &&& Int64.toUInt64 63)).toInt64)
    omega
section GEN
variable {xs : List Int32} {d : Nat} {Q : bPo} {b b0 b1 b2 : Bool} {m : Nat → Int → Int} {nT nH : Int} {T P E U N : Int → Int} {t s h k : Int}
variable {c : Int} {A : Int → Int → Int} {L : Int → Int} {z : Int}
theorem qLv_k (hv : qLv nT nH L N) (k0 : 0 ≤ k) (k1 : k < 5 * nH) : L (36 + k) = N (36 + k) := by
  have := hv.2.1 (k / 5) (k % 5) (by omega) (by omega) (by omega) (by omega)
  rw [show 36 + k / 5 * 5 + k % 5 = 36 + k by omega, show 36 + 5 * (k / 5) + k % 5 = 36 + k by omega] at this
  exact this
theorem qLv_ks (h6 : nT ≤ 6) (h7 : nH ≤ 6) (hv : qLv nT nH L N) (k0 : 0 ≤ k) (k1 : k < 5 * nH) : qLv nT nH (qset L (36 + k) z) (qset N (36 + k) z) := by
  have := qLv_sk (z := z) (h := k / 5) (k := k % 5) h6 h7 (by omega) (by omega) (by omega) (by omega) hv
  rw [show 36 + k / 5 * 5 + k % 5 = 36 + k by omega, show 36 + 5 * (k / 5) + k % 5 = 36 + k by omega] at this
  exact this
theorem qNw_k (hv : qNw nT nH T N) (k0 : 0 ≤ k) (k1 : k < 5 * nH) : 0 ≤ N (36 + k) ∧ N (36 + k) ≤ 9 := by
  have := hv.2.1 (k / 5) (k % 5) (by omega) (by omega) (by omega) (by omega)
  rw [show 36 + 5 * (k / 5) + k % 5 = 36 + k by omega] at this
  exact this
theorem qNw_ks (h6 : nT ≤ 6) (h7 : nH ≤ 6) (hz : 0 ≤ z ∧ z ≤ 9) (hv : qNw nT nH T N) (k0 : 0 ≤ k) (k1 : k < 5 * nH) : qNw nT nH T (qset N (36 + k) z) := by
  have := qNw_sk (z := z) (h := k / 5) (k := k % 5) h6 h7 (by omega) (by omega) (by omega) (by omega) hz hv
  rw [show 36 + 5 * (k / 5) + k % 5 = 36 + k by omega] at this
  exact this
theorem qgz_v (x v : Int) : (qdr x = 0 ∧ qgz x v = 0) ∨ (qdr x = 1 ∧ qgz x v = min 9 (v + 1)) ∨ (¬ qdr x = 0 ∧ ¬ qdr x = 1 ∧ qgz x v = v) := by
  unfold qgz
  split
  · exact Or.inl ⟨by assumption, rfl⟩
  · split
    · exact Or.inr (Or.inl ⟨by assumption, rfl⟩)
    · exact Or.inr (Or.inr ⟨by assumption, by assumption, rfl⟩)
theorem qgs_n (k : Int) (s : Int × (Int → Int) × Int) : (0 < qgz s.1 (s.2.1 (36 + k)) ∧ (qgs k s).2.2 = s.2.2 + 1) ∨ (qgz s.1 (s.2.1 (36 + k)) ≤ 0 ∧ (qgs k s).2.2 = s.2.2) := by
  unfold qgs
  dsimp only
  split
  · exact Or.inl ⟨by assumption, rfl⟩
  · exact Or.inr ⟨by omega, rfl⟩
theorem qgz_bd {x v : Int} (h : 0 ≤ v ∧ v ≤ 9) : 0 ≤ qgz x v ∧ qgz x v ≤ 9 := by
  unfold qgz
  split
  · omega
  · split <;> omega
def qGi (nT nH : Int) (T : Int → Int) (k : Int) (s : Int × (Int → Int) × Int) : Prop := qNw nT nH T s.2.1 ∧ 0 ≤ s.2.2 ∧ s.2.2 ≤ k
theorem qgs_ok {s : Int × (Int → Int) × Int} (h6 : nT ≤ 6) (h7 : nH ≤ 6) (k0 : 0 ≤ k) (k1 : k < 5 * nH) (hs : qGi nT nH T k s) : qGi nT nH T (k + 1) (qgs k s) := by
  have h1 := qNw_k hs.1 k0 k1
  refine ⟨qNw_ks h6 h7 (qgz_bd h1) hs.1 k0 k1, ?_⟩
  have := hs.2
  unfold qgs
  dsimp only
  split <;> omega
theorem qgf_ok {x : Int} (hW : qWF nT nH T P E U N) : qGi nT nH T (5 * nH) (qgf nH x N) := by
  have wn := qw_n hW
  unfold qgf
  exact qfold_inv (I := fun k s => qGi nT nH T k s) (fun i s h0 h1 hs => qgs_ok (by omega) (by omega) h0 h1 hs) (by omega) ⟨qw_nw hW, by dsimp only; omega⟩
theorem qgen_nw {x : Int} (hW : qWF nT nH T P E U N) : qNw nT nH T (qgen nT nH x N) := by
  have wn := qw_n hW
  unfold qgen
  exact qfold_inv (I := fun (_ : Int) (N : Int → Int) => qNw nT nH T N) (fun i s h0 h1 hs => qNw_ho (by omega) (by omega) h0 h1 (by omega) hs) (by omega) (qgf_ok hW).1
/-- the class's second loop -/
theorem c_raise2 {x y x1 n : Int} {u : bV} (hu : u = vn ∨ u = vl y) (hd : 1 ≤ d) (hW : qWF nT nH T P E U N) (hT : qTo m (bW b) nT nH T P E U) {N1 : Int → Int} (hL : qLv nT nH (m (bW b + 9)) N1) (hQ : ∀ m', qFr (fun a _ => a = bW b + 9) m m' → qLv nT nH (m' (bW b + 9)) (qfold qgh nT 0 N1) → Q n ((b0, b1, b2), m')) : bGo xs d aM_X4_raiseHeirs 111 [vr (bW b), vl x1, vn, vl x, vn, vi n, vi 0, u, vn] [] ((b0, b1, b2), m) Q := by
  have wn := qw_n hW
  suffices H : ∀ t, t ≤ nT → 0 ≤ t → ∀ m' N2, qFr (fun a _ => a = bW b + 9) m m' → qLv nT nH (m' (bW b + 9)) N2 → qfold qgh nT 0 N1 = qfold qgh nT t N2 → bGo xs d aM_X4_raiseHeirs 111 [vr (bW b), vl x1, vn, vl x, vn, vi n, vi t, u, vn] [] ((b0, b1, b2), m') Q from H 0 (by omega) (by omega) m N1 qFr.refl hL rfl
  refine qUpto ?_
  intro t ht ih t0 m' N2 hf hL2 he
  have e9 : m' (bW b) 9 = nT := by rw [hf _ _ (by omega)]; exact hT.1.1
  have key : inR t ∧ (inR (m' (bW b) 9) ∧ ((m' (bW b) 9 ≤ t → (Q n ((b0, b1, b2), m'))) ∧ (t < m' (bW b) 9 → ((0 ≤ 12 + t ∧ 12 + t < 67) ∧ (bGo xs d aM_X4_raiseHeirs 111 [vr (bW b), vl x1, vn, vl x, vn, vi n, vi (t + 1), u, vn] [] ((b0, b1, b2), up m' (bW b + 9) (12 + t) (-1)) Q))))) := by
    rw [e9]
    refine ⟨by omega, by omega, fun h => ?_, fun h => ⟨by omega, ?_⟩⟩
    · have he := he.trans (qfold_ge (by omega))
      exact hQ m' hf (by rw [he]; exact hL2)
    · have he := he.trans (qfold_lt h)
      refine ih h (by omega) _ _ (qFr_up hf rfl) ?_ he
      rw [qup_f]
      exact qLv_ho (by omega) (by omega) t0 h hL2
  rcases hu with rfl | rfl
  · exact r_X4_raiseHeirs_111 hd key
  · exact r_X4_raiseHeirs_111L hd key
theorem c_raiseHeirs {x : Int} (hW : qWF nT nH T P E U N) (hE : qER m (bW b) nT nH T P E U N) (hQ : ∀ m', qFr (fun a _ => a = bW b + 9) m m' → qLv nT nH (m' (bW b + 9)) (qgen nT nH x N) → Q (qgf nH x N).2.2 ((b0, b1, b2), m')) : bC xs 1 70 [vr (bW b), vl x] ((b0, b1, b2), m) Q := by
  refine qC rfl fun d hd => r_X4_raiseHeirs_0 hd ?_
  have wn := qw_n hW
  suffices H : ∀ k, k ≤ 5 * nH → 0 ≤ k → ∀ m' (s : Int × (Int → Int) × Int) (u : bV) (y : Int), u = vn ∨ u = vl y → qFr (fun a _ => a = bW b + 9) m m' → qGi nT nH T k s → qLv nT nH (m' (bW b + 9)) s.2.1 → qgf nH x N = qfold qgs (5 * nH) k s → bGo xs d aM_X4_raiseHeirs 9 [vr (bW b), vl x, vn, vl s.1, vn, vi s.2.2, vi (36 + k), u, vn] [] ((b0, b1, b2), m') Q from H 0 (by omega) (by omega) m (x, N, 0) vn 0 (Or.inl rfl) qFr.refl ⟨qw_nw hW, by dsimp only; omega⟩ hE.2 rfl
  refine qUpto ?_
  intro k hk ih k0 m' s u y hu hf hs hL he
  have hT : qTo m' (bW b) nT nH T P E U := qTo_fr hf hE.1 (fun a k h1 h2 => by omega)
  have key : ∀ u', (u' = vn ∨ u' = vl y) → (inR (36 + k) ∧ (inR (36 + ((m' (bW b) 10) * 5)) ∧ ((36 + ((m' (bW b) 10) * 5) ≤ (36 + k) → (bGo xs d aM_X4_raiseHeirs 111 [vr (bW b), vl x, vn, vl s.1, vn, vi s.2.2, vi 0, u', vn] [] ((b0, b1, b2), m') Q)) ∧ ((36 + k) < 36 + ((m' (bW b) 10) * 5) → (inL (lUsh ((s.1 * 6364136223846793005) + 1442695040888963407) 33) ∧ (inL (Int.tmod (lUsh ((s.1 * 6364136223846793005) + 1442695040888963407) 33) 10) ∧ ((¬ Int.tmod (lUsh ((s.1 * 6364136223846793005) + 1442695040888963407) 33) 10 = 0 → (inL (Int.tmod (lUsh ((s.1 * 6364136223846793005) + 1442695040888963407) 33) 10) ∧ ((¬ Int.tmod (lUsh ((s.1 * 6364136223846793005) + 1442695040888963407) 33) 10 = 1 → ((0 ≤ (36 + k) ∧ (36 + k) < 67) ∧ (inR (m' (bW b + 9) (36 + k)) ∧ ((m' (bW b + 9) (36 + k) ≤ 0 → (bGo xs d aM_X4_raiseHeirs 9 [vr (bW b), vl x, vn, vl ((s.1 * 6364136223846793005) + 1442695040888963407), vn, vi s.2.2, vi ((36 + k) + 1), vl (Int.tmod (lUsh ((s.1 * 6364136223846793005) + 1442695040888963407) 33) 10), vn] [] ((b0, b1, b2), m') Q)) ∧ (0 < m' (bW b + 9) (36 + k) → (bGo xs d aM_X4_raiseHeirs 9 [vr (bW b), vl x, vn, vl ((s.1 * 6364136223846793005) + 1442695040888963407), vn, vi (s.2.2 + 1), vi ((36 + k) + 1), vl (Int.tmod (lUsh ((s.1 * 6364136223846793005) + 1442695040888963407) 33) 10), vn] [] ((b0, b1, b2), m') Q)))))) ∧ (Int.tmod (lUsh ((s.1 * 6364136223846793005) + 1442695040888963407) 33) 10 = 1 → ((0 ≤ (36 + k) ∧ (36 + k) < 67) ∧ (inR ((m' (bW b + 9) (36 + k)) + 1) ∧ ((0 ≤ (36 + k) ∧ (36 + k) < 67) ∧ ((0 ≤ (36 + k) ∧ (36 + k) < 67) ∧ (inR ((up m' (bW b + 9) (36 + k) (min ((m' (bW b + 9) (36 + k)) + 1) 9)) (bW b + 9) (36 + k)) ∧ (((up m' (bW b + 9) (36 + k) (min ((m' (bW b + 9) (36 + k)) + 1) 9)) (bW b + 9) (36 + k) ≤ 0 → (bGo xs d aM_X4_raiseHeirs 9 [vr (bW b), vl x, vn, vl ((s.1 * 6364136223846793005) + 1442695040888963407), vn, vi s.2.2, vi ((36 + k) + 1), vl (Int.tmod (lUsh ((s.1 * 6364136223846793005) + 1442695040888963407) 33) 10), vn] [] ((b0, b1, b2), up m' (bW b + 9) (36 + k) (min ((m' (bW b + 9) (36 + k)) + 1) 9)) Q)) ∧ (0 < (up m' (bW b + 9) (36 + k) (min ((m' (bW b + 9) (36 + k)) + 1) 9)) (bW b + 9) (36 + k) → (bGo xs d aM_X4_raiseHeirs 9 [vr (bW b), vl x, vn, vl ((s.1 * 6364136223846793005) + 1442695040888963407), vn, vi (s.2.2 + 1), vi ((36 + k) + 1), vl (Int.tmod (lUsh ((s.1 * 6364136223846793005) + 1442695040888963407) 33) 10), vn] [] ((b0, b1, b2), up m' (bW b + 9) (36 + k) (min ((m' (bW b + 9) (36 + k)) + 1) 9)) Q)))))))))))) ∧ (Int.tmod (lUsh ((s.1 * 6364136223846793005) + 1442695040888963407) 33) 10 = 0 → ((0 ≤ (36 + k) ∧ (36 + k) < 67) ∧ ((0 ≤ (36 + k) ∧ (36 + k) < 67) ∧ (inR ((up m' (bW b + 9) (36 + k) 0) (bW b + 9) (36 + k)) ∧ (((up m' (bW b + 9) (36 + k) 0) (bW b + 9) (36 + k) ≤ 0 → (bGo xs d aM_X4_raiseHeirs 9 [vr (bW b), vl x, vn, vl ((s.1 * 6364136223846793005) + 1442695040888963407), vn, vi s.2.2, vi ((36 + k) + 1), vl (Int.tmod (lUsh ((s.1 * 6364136223846793005) + 1442695040888963407) 33) 10), vn] [] ((b0, b1, b2), up m' (bW b + 9) (36 + k) 0) Q)) ∧ (0 < (up m' (bW b + 9) (36 + k) 0) (bW b + 9) (36 + k) → (bGo xs d aM_X4_raiseHeirs 9 [vr (bW b), vl x, vn, vl ((s.1 * 6364136223846793005) + 1442695040888963407), vn, vi (s.2.2 + 1), vi ((36 + k) + 1), vl (Int.tmod (lUsh ((s.1 * 6364136223846793005) + 1442695040888963407) 33) 10), vn] [] ((b0, b1, b2), up m' (bW b + 9) (36 + k) 0) Q)))))))))))))) := by
    intro u' hu'
    rw [hT.1.2]
    by_cases hlt : k < 5 * nH
    · have ek := qLv_k hL k0 hlt
      have nk := qNw_k hs.1 k0 hlt
      have hs' := qgs_ok (by omega) (by omega) k0 hlt hs
      have gz := qgz_bd (x := s.1) nk
      rw [qfold_lt hlt] at he
      have bd := qdr_bd s.1
      have bl := lUsh_inL (qnx s.1) 33
      have e1 : Int.tmod (lUsh ((s.1 * 6364136223846793005) + 1442695040888963407) 33) 10 = qdr s.1 := rfl
      have e2 : (s.1 * 6364136223846793005) + 1442695040888963407 = qnx s.1 := rfl
      rw [e1, e2]
      simp (disch := omega) only [ek, qup_s]
      have hstay : qset s.2.1 (36 + k) (s.2.1 (36 + k)) = s.2.1 := by
        funext j
        simp only [qset]
        split
        · rename_i h
          rw [h]
        · rfl
      have gv := qgz_v s.1 (s.2.1 (36 + k))
      have gn := qgs_n k s
      have go : ∀ m2 n z, qFr (fun a _ => a = bW b + 9) m m2 → z = qgz s.1 (s.2.1 (36 + k)) → qLv nT nH (m2 (bW b + 9)) (qset s.2.1 (36 + k) z) → n = (qgs k s).2.2 → bGo xs d aM_X4_raiseHeirs 9 [vr (bW b), vl x, vn, vl (qnx s.1), vn, vi n, vi (36 + k + 1), vl (qdr s.1), vn] [] ((b0, b1, b2), m2) Q := by
        intro m2 n z hf2 hz hL2 hn
        rw [hn, show 36 + k + 1 = 36 + (k + 1) by omega]
        refine ih hlt (by omega) m2 (qgs k s) (vl (qdr s.1)) (qdr s.1) (Or.inr rfl) hf2 hs' ?_ he
        rw [hz] at hL2
        exact hL2
      (with_reducible repeat' (first | exact True.intro | apply And.intro | intro _))
      all_goals first | omega | skip
      all_goals first
        | exact go _ _ (s.2.1 (36 + k)) hf (by omega) (by rw [hstay]; exact hL) (by omega)
        | exact go _ _ 0 (qFr_up hf rfl) (by omega) (by rw [qup_f]; exact qLv_ks (by omega) (by omega) hL k0 hlt) (by omega)
        | exact go _ _ (min (s.2.1 (36 + k) + 1) 9) (qFr_up hf rfl) (by omega) (by rw [qup_f]; exact qLv_ks (by omega) (by omega) hL k0 hlt) (by omega)
    · rw [qfold_ge (by omega)] at he
      refine ⟨by omega, by omega, fun _ => ?_, fun h => by omega⟩
      refine c_raise2 hu' hd hW hT hL ?_
      intro m2 hf2 hL2
      rw [he] at hQ
      refine hQ m2 (hf.trans hf2) ?_
      unfold qgen
      rw [he]
      exact hL2
  rcases hu with rfl | rfl
  · exact r_X4_raiseHeirs_9 hd (key vn (Or.inl rfl))
  · exact r_X4_raiseHeirs_9L hd (key (vl y) (Or.inr rfl))
theorem c_generation {x : Int} (hW : qWF nT nH T P E U N) (hE : qER m (bW b0) nT nH T P E U N) (hp : qPc m nT nH T c A) (hn : ¬ 0 < nT → Q (-1) ((b0, b1, b2), m)) (hy : 0 < nT → ∀ m', qAC m m' (bW b0) nT nH T (qgen nT nH x N) (qpc c) (qpA c A N) → Q (qgf nH x N).2.2 ((b0, b1, b2), m')) : bC xs 2 146 [vr 0, vl x] ((b0, b1, b2), m) Q := by
  refine qC rfl fun d hd => r_X11_generation_0 hd ?_
  have wn := qw_n hW
  have en := qe_n hE
  have hw := qW b0
  rw [en.1]
  refine ⟨by omega, fun h => hn (by omega), fun h => c_keep hW hE hp ?_⟩
  intro m2 hf2 hp2
  refine ⟨rfl, ?_⟩
  try dsimp only
  have e9 : m2 (bW b0 + 9) = m (bW b0 + 9) := qFr_at hf2 _ (fun k => by unfold qFkeep; omega)
  have hE2 : qER m2 (bW b0) nT nH T P E U N := ⟨qTo_fr hf2 hE.1 (fun a k h1 h2 => by unfold qFkeep; omega), by rw [e9]; exact hE.2⟩
  refine c_raiseHeirs hW hE2 ?_
  intro m3 hf3 hL3
  refine ⟨rfl, ?_⟩
  try dsimp only
  refine hy h m3 ⟨(hf2.mono (fun a k h => ?_)).trans (hf3.mono (fun a k h => ?_)), hL3, qPc_fr hf3 hp2 ⟨by omega, by omega⟩ (fun k => by omega)⟩
  · unfold qFkeep at h; unfold qFact; omega
  · unfold qFact; omega
theorem d_generation {x : Int} (hW : qWF nT nH T P E U N) (hM : qMR m nT nH T P E U N) (hp : qPm m c A) (hc : 0 ≤ c ∧ c ≤ 40) (hn : ¬ 0 < nT → Q (-1) ((b0, b1, b2), up m 120 0 0)) (hy : 0 < nT → ∀ m', qAM m m' (qgen nT nH x N) (qpc c) (qpA c A N) → Q (qgf nH x N).2.2 ((b0, b1, b2), m')) : bC xs 2 240 [vr 120, vl x] ((b0, b1, b2), m) Q := by
  refine qC rfl fun d hd => r_X12_generation_0 hd ?_
  have wn := qw_n hW
  have e26 := hM.1
  have e27 := hM.2.1
  rw [e26]
  refine ⟨by omega, fun h => ?_, fun h => hn (by omega)⟩
  refine d_remember (N := N) (qPm_up hp (by omega) (by omega)) hc (by rw [qup_n (by omega)]; exact hM.2.2.2.2.2.2) ?_
  intro m1 hf1 hp1
  refine ⟨rfl, ?_⟩
  try dsimp only
  have hf01 : qFr qFam m m1 := (qFr_up qFr.refl (by unfold qFam; omega)).trans (hf1.mono (fun a k h => by unfold qFrem at h; unfold qFam; omega))
  have e135 : m1 135 = N := by rw [qFr_at hf1 135 (fun k => by unfold qFrem; omega), qup_n (by omega)]; exact hM.2.2.2.2.2.2
  suffices H : ∀ k, k ≤ 5 * nH → 0 ≤ k → ∀ m' (s : Int × (Int → Int) × Int), qFr (fun a k => a = 135 ∨ (a = 120 ∧ k = 40)) m1 m' → qGi nT nH T k s → m' 135 = s.2.1 → m' 120 40 = s.1 → qgf nH x N = qfold qgs (5 * nH) k s → bGo xs d aM_X12_generation 28 [vr 120, vl x, vn, vi s.2.2, vi k, vn, vn] [] ((b0, b1, b2), m') Q from H 0 (by omega) (by omega) _ (x, N, 0) (qFr_up qFr.refl (by omega)) ⟨qw_nw hW, by dsimp only; omega⟩ (by rw [qup_n (by omega)]; exact e135) qup_s rfl
  refine qUpto ?_
  intro k hk ih k0 m' s hf hs hL hx he
  have f26 : m' 120 26 = nT := by rw [hf 120 26 (by omega), hf01 120 26 (by unfold qFam; omega)]; exact e26
  have f27 : m' 120 27 = nH := by rw [hf 120 27 (by omega), hf01 120 27 (by unfold qFam; omega)]; exact e27
  refine r_X12_generation_28 hd ?_
  rw [f27, hx]
  by_cases hlt : k < 5 * nH
  · have nk := qNw_k hs.1 k0 hlt
    have hs' := qgs_ok (by omega) (by omega) k0 hlt hs
    have gz := qgz_bd (x := s.1) nk
    rw [qfold_lt hlt] at he
    have bd := qdr_bd s.1
    have bl := lUsh_inL (qnx s.1) 33
    have e1 : Int.tmod (lUsh ((s.1 * 6364136223846793005) + 1442695040888963407) 33) 10 = qdr s.1 := rfl
    have e2 : (s.1 * 6364136223846793005) + 1442695040888963407 = qnx s.1 := rfl
    rw [e1, e2]
    simp (disch := omega) only [hL, qup_s, Int.add_zero]
    have gv := qgz_v s.1 (s.2.1 (36 + k))
    have gn := qgs_n k s
    have go : ∀ z n, z = qgz s.1 (s.2.1 (36 + k)) → n = (qgs k s).2.2 → bGo xs d aM_X12_generation 28 [vr 120, vl x, vn, vi n, vi (k + 1), vn, vn] [] ((b0, b1, b2), up (up m' 120 40 (qnx s.1)) 135 (36 + k) z) Q := by
      intro z n hz hn
      rw [hn]
      refine ih hlt (by omega) _ (qgs k s) (qFr_up (qFr_up hf (by omega)) (by omega)) hs' ?_ ?_ he
      · rw [qup_f, qup_n (by omega), hL, hz]
        rfl
      · rw [qup_n (by omega), qup_s]
        rfl
    (with_reducible repeat' (first | exact True.intro | apply And.intro | intro _))
    all_goals first | omega | exact go _ _ (by omega) (by omega)
  · rw [qfold_ge (by omega)] at he
    refine ⟨by omega, by omega, fun _ => ?_, fun h => by omega⟩
    suffices H2 : ∀ t, t ≤ nT → 0 ≤ t → ∀ m2 N2, qFr (fun a k => a = 135 ∨ (a = 120 ∧ k = 40)) m1 m2 → m2 135 = N2 → qgen nT nH x N = qfold qgh nT t N2 → bGo xs d aM_X12_generation 128 [vr 120, vl x, vn, vi s.2.2, vi t, vn, vn] [] ((b0, b1, b2), m2) Q from H2 0 (by omega) (by omega) m' s.2.1 hf hL (by unfold qgen; rw [he])
    refine qUpto ?_
    intro t ht ih2 t0 m2 N2 hf2 hL2 he2
    have g26 : m2 120 26 = nT := by rw [hf2 120 26 (by omega), hf01 120 26 (by unfold qFam; omega)]; exact e26
    refine r_X12_generation_128 hd ?_
    rw [g26]
    refine ⟨by omega, by omega, fun h2 => ?_, fun h2 => ⟨by omega, ?_⟩⟩
    · have he2 := he2.trans (qfold_ge (by omega))
      rw [he] at hy
      refine hy (by omega) m2 ⟨hf01.trans (hf2.mono (fun a k h => by unfold qFam; omega)), by rw [he2]; exact hL2, qPm_fr hf2 hp1 (by omega) (fun k => by omega)⟩
    · rw [qfold_lt h2] at he2
      refine ih2 h2 (by omega) _ _ (qFr_up hf2 (by omega)) ?_ he2
      rw [qup_f, hL2]
      rfl
end GEN
