/-! B: gains of sets (class) -/
def qGn (m : Nat → Int → Int) (T P N lo hi pl : Int → Int) (nT y : Int) (hs : Int → Prop) (u : Int) : Prop := ∀ s, 0 ≤ s → s < u → ∀ c, 0 ≤ c → c ≤ y → qPb T P N lo hi nT c hs (qX N pl s) (m 93 (s * 13 + c))
def qSbA (m : Nat → Int → Int) (s c M : Int) : Prop := M = m 93 (s * 13 + c) ∨ ∃ q, 0 < q ∧ qSu q s ∧ ¬ m 92 q = -1 ∧ m 92 q ≤ c ∧ ¬ m 93 (bXor s q * 13 + (c - m 92 q)) = -1 ∧ M = m 93 (bXor s q * 13 + (c - m 92 q)) + m 81 q
def qSbU (m : Nat → Int → Int) (s c x M : Int) : Prop := m 93 (s * 13 + c) ≤ M ∧ ∀ q, x < q → qSu q s → ¬ m 92 q = -1 → m 92 q ≤ c → ¬ m 93 (bXor s q * 13 + (c - m 92 q)) = -1 → m 93 (bXor s q * 13 + (c - m 92 q)) + m 81 q ≤ M
section GAI
variable {xs : List Int32} {d : Nat} {Q : bPo} {b b0 b1 b2 : Bool} {m : Nat → Int → Int} {nT nH : Int} {T P E U N : Int → Int} {t s h k : Int}
variable {pl lo hi : Int → Int} {n x y c w : Int} {m' : Nat → Int → Int} {hs : Int → Prop}
theorem qX_one (hW : qWF nT nH T P E U N) (hL : qLs m T N pl n nT) {p : Int} (p0 : 0 ≤ p) (p1 : p < n) : m 81 (bShl 1 p) = T (4 * m 80 p) := by
  have wn := qw_n hW
  have hn := qLs_n hW hL
  have pb := qpw (n := p) p0 (by omega)
  have ps := qpw_s p0 (show p < 6 by omega)
  have pm := qpw_m (p := p + 1) (q := n) (by omega) (by omega) hn.2
  have l := hL.1.2.2.1 p p0 p1
  obtain ⟨a1, a2, a3⟩ := qX_add hL.1 hn.2 p0 p1 (s := 0) (by omega) (by omega)
  have sm := qsB_one (f := qVa T) l.1 a1 a2 nT wn.1.1 a3
  rw [if_pos l.2.1, qsB_e nT wn.1.1 (fun u _ _ => qX_0), Int.add_zero] at sm
  rw [(hL.2 (bShl 1 p) (by omega) (by omega)).1, sm]
  show 0 + T (4 * m 80 p) = _
  omega
theorem c_undealt {p : Int} (hW : qWF nT nH T P E U N) (hL : qLs m T N pl n nT) (hR : qRm m T P N lo hi n) (p0 : 0 ≤ p) (p1 : p < n) (k0 : 0 ≤ k) (k1 : k ≤ qlf T N (m 80 p)) (s0 : 0 ≤ s) (s1 : s < 64) (c0 : 0 ≤ c) (c1 : c ≤ 12) (hb : ∀ c', 0 ≤ c' → c' ≤ c → -1 ≤ m 93 (s * 13 + c') ∧ m 93 (s * 13 + c') ≤ 594) (hQ : (-1 ≤ qun P N (fun c => m 93 (s * 13 + c)) (qlf T N (m 80 p)) (T (4 * m 80 p)) (m 80 p) c k ∧ qun P N (fun c => m 93 (s * 13 + c)) (qlf T N (m 80 p)) (T (4 * m 80 p)) (m 80 p) c k ≤ 693) → Q (qun P N (fun c => m 93 (s * 13 + c)) (qlf T N (m 80 p)) (T (4 * m 80 p)) (m 80 p) c k) ((b0, b1, b2), m)) : bC xs 1 26 [vr 85, vi p, vi k, vi s, vi c] ((b0, b1, b2), m) Q := by
  have hn := qLs_n hW hL
  have l := hL.1.2.2.1 p p0 p1
  have R := hR p p0 p1
  have v1 := qX_one hW hL p0 p1
  have pb := qpw (n := p) p0 (by omega)
  have pb2 := qpw_m p0 (show p ≤ 5 by omega) (by omega)
  have e5 : bShl 1 5 = 32 := by decide +kernel
  have lb := qlf_bd hW l.1 l.2.1
  have wt := qw_t hW l.1 l.2.1
  have cb := qcs_nn hW l.1 l.2.1 (k := k) k0 k1
  refine qC rfl fun d hd => r_X2_undealt_0 hd ?_
  rw [R.2.2.2 k k0 k1, R.2.2.1, v1]
  unfold qun at hQ
  dsimp only at hQ
  refine ⟨by omega, by omega, fun e => ?_, fun e => ⟨by omega, ?_⟩⟩
  · rw [if_pos (Or.inl e)] at hQ
    exact hQ (by omega)
  · have b := hb (c - qcs P N (m 80 p) k) e (by omega)
    refine ⟨by omega, fun e2 => ⟨by omega, by omega, by omega, by omega, fun e3 => ?_, fun e3 => ⟨by omega, ?_⟩⟩, fun e2 => ?_⟩
    · rw [if_neg (by omega), if_neg e3] at hQ
      exact hQ (by omega)
    · rw [if_neg (by omega), if_pos e3] at hQ
      exact hQ (by omega)
    · rw [if_pos (Or.inr e2)] at hQ
      exact hQ (by omega)
theorem c_dealNothing2 (hW : qWF nT nH T P E U N) (hL : qLs m T N pl n nT) (hR : qRm m T P N lo hi n) (hr : qRg2 T N lo hi nT) (y0 : 0 ≤ y) (y1 : y ≤ 12) (hQ : ∀ m', qFr (fun a _ => a = 93) m m' → qGn m' T P N lo hi pl nT y (fun _ => False) (bShl 1 n) → Q 0 ((b0, b1, b2), m')) : bC xs 2 25 [vr 85, vi y] ((b0, b1, b2), m) Q := by
  have wn := qw_n hW
  have hn := qLs_n hW hL
  refine qC rfl fun d hd => r_X2_dealNothing_0 hd ?_
  have L2 : ∀ p, p ≤ n → 0 ≤ p → ∀ m1, qFr (fun a _ => a = 93) m m1 → qGn m1 T P N lo hi pl nT y (fun _ => False) (bShl 1 p) → bGo xs d aM_X2_dealNothing 22 [vr 85, vi y, vi p, vn, vn, vn, vn, vn] [] ((b0, b1, b2), m1) Q := by
    refine qUpto ?_
    intro p hp ih p0 m1 f1 hF
    refine r_X2_dealNothing_22 hd ?_
    rw [f1 79 5 (by omega), hL.1.1.1]
    refine ⟨by omega, by omega, fun h2 => hQ m1 f1 (by rw [show n = p by omega]; exact hF), fun h2 => ?_⟩
    have pb := qpw (n := p) p0 (by omega)
    have pb2 := qpw_m p0 (show p ≤ 5 by omega) (by omega)
    have e5 : bShl 1 5 = 32 := by decide +kernel
    have ps := qpw_s p0 (show p < 6 by omega)
    have l := hL.1.2.2.1 p p0 h2
    have lb := qlf_bd hW l.1 l.2.1
    have R := hR p p0 h2
    have rx := hr (m 80 p) l.1 l.2.1 l.2.2.1
    suffices H : ∀ j, j ≤ bShl 1 p → 0 ≤ j → ∀ m1, qFr (fun a _ => a = 93) m m1 → qGn m1 T P N lo hi pl nT y (fun _ => False) (bShl 1 p + j) → bGo xs d aM_X2_dealNothing 40 [vr 85, vi y, vi p, vi (bShl 1 p), vi j, vn, vn, vn] [] ((b0, b1, b2), m1) Q from H 0 (by omega) (by omega) m1 f1 (by rw [Int.add_zero]; exact hF)
    refine qUpto ?_
    intro j hj ihj j0 m1 f1 hF
    refine r_X2_dealNothing_40 hd ⟨by omega, by omega, fun h3 => ih h2 (by omega) m1 f1 (by rw [ps, show (2 : Int) * bShl 1 p = bShl 1 p + j by omega]; exact hF), fun h3 => ?_⟩
    obtain ⟨a1, a2, a3⟩ := qX_add hL.1 hn.2 p0 h2 j0 h3
    have hFj := hF j j0 (by omega)
    suffices H : ∀ c, c ≤ y + 1 → 0 ≤ c → ∀ m2, qFr (fun a _ => a = 93) m m2 → (∀ s c', 0 ≤ s → s < bShl 1 p + j → 0 ≤ c' → c' ≤ y → m2 93 (s * 13 + c') = m1 93 (s * 13 + c')) → (∀ c', 0 ≤ c' → c' < c → qPb T P N lo hi nT c' (fun _ => False) (qX N pl (bShl 1 p + j)) (m2 93 ((bShl 1 p + j) * 13 + c'))) → bGo xs d aM_X2_dealNothing 49 [vr 85, vi y, vi p, vi (bShl 1 p), vi j, vi c, vn, vn] [] ((b0, b1, b2), m2) Q from H 0 (by omega) (by omega) m1 f1 (fun _ _ _ _ _ _ => rfl) (fun c' a c => by omega)
    refine qUpto ?_
    intro c hc ihc c0 m2 f2 k2 hq
    refine r_X2_dealNothing_49 hd ⟨by omega, by omega, fun h4 => ?_, fun h4 => ⟨by omega, ?_⟩⟩
    · refine ihj h3 (by omega) m2 f2 (fun s s0 s1 c' a b' => ?_)
      by_cases es : s = bShl 1 p + j
      · rw [es]; exact hq c' a (by omega)
      · rw [k2 s c' s0 (by omega) a b']; exact hF s s0 (by omega) c' a b'
    · have hL2 : qLs m2 T N pl n nT := hL.fr (f2 79 5 (by omega)) (qFr_at f2 80 (fun k => by omega)) (qFr_at f2 81 (fun k => by omega)) (qFr_at f2 82 (fun k => by omega))
      have e80 : m2 80 = m 80 := qFr_at f2 80 (fun k => by omega)
      have hR2 : qRm m2 T P N lo hi n := hR.fr e80 (qFr_at f2 86 (fun k => by omega)) (qFr_at f2 87 (fun k => by omega)) (qFr_at f2 88 (fun k => by omega)) (qFr_at f2 89 (fun k => by omega))
      have hz : ∀ c', 0 ≤ c' → c' ≤ y → qPb T P N lo hi nT c' (fun _ => False) (qX N pl j) (m2 93 (j * 13 + c')) := fun c' a b' => by rw [k2 j c' j0 (by omega) a b']; exact hFj c' a b'
      have hbz : ∀ c', 0 ≤ c' → c' ≤ c → -1 ≤ m2 93 (j * 13 + c') ∧ m2 93 (j * 13 + c') ≤ 594 := fun c' a b' => qPb_bd hW (hz c' a (by omega))
      have hun := qPb_un (n := y) (c := c) (zf := fun c => m2 93 (j * 13 + c)) hW l.1 l.2.1 a1 a2 a3 rx (qRg_X hr) h4 hz
      have nx : ∀ z, qPb T P N lo hi nT c (fun _ => False) (qX N pl (bShl 1 p + j)) z → bGo xs d aM_X2_dealNothing 49 [vr 85, vi y, vi p, vi (bShl 1 p), vi j, vi (c + 1), vn, vn] [] ((b0, b1, b2), up m2 93 ((bShl 1 p + j) * 13 + c) z) Q := fun z hzz => by
        refine ihc (by omega) (by omega) _ (qFr_up f2 rfl) (fun s c' s0 s1 a b' => ?_) (fun c' a b' => ?_)
        · rw [qup_o (by omega)]; exact k2 s c' s0 s1 a b'
        · rw [qup_if]
          by_cases ec : c' = c
          · rw [if_pos (by omega), ec]; exact hzz
          · rw [if_neg (by omega)]; exact hq c' a (by omega)
      rw [f2 86 p (by omega), R.1, ← e80]
      refine c_undealt hW hL2 hR2 p0 h2 (by rw [e80]; exact rx.1) (by rw [e80]; omega) j0 (by omega) c0 (by omega) hbz (fun b1' => ⟨rfl, by omega, by omega, ?_⟩)
      dsimp only
      rw [f2 87 p (by omega), R.2.1, f2 88 p (by omega), R.2.2.1]
      rw [e80] at b1' ⊢
      refine ⟨by omega, by omega, fun e => ⟨by omega, by omega, nx _ ?_⟩, fun e => ⟨by omega, ?_⟩⟩
      · rw [if_neg e] at hun
        exact hun
      · rw [← e80]
        refine c_undealt hW hL2 hR2 p0 h2 (by rw [e80]; omega) (by rw [e80]; omega) j0 (by omega) c0 (by omega) hbz (fun b2' => ⟨rfl, by rw [e80]; omega, by omega, by omega, nx _ ?_⟩)
        rw [if_pos e] at hun
        rw [e80]
        exact hun
  suffices H : ∀ c, c ≤ y + 1 → 0 ≤ c → ∀ m1, qFr (fun a _ => a = 93) m m1 → (∀ c', 0 ≤ c' → c' < c → m1 93 c' = 0) → bGo xs d aM_X2_dealNothing 2 [vr 85, vi y, vi c, vn, vn, vn, vn, vn] [] ((b0, b1, b2), m1) Q from H 0 (by omega) (by omega) m qFr.refl (fun c' a b' => by omega)
  refine qUpto ?_
  intro c hc ih c0 m1 f1 he
  refine r_X2_dealNothing_2 hd ⟨by omega, by omega, fun h2 => ?_, fun h2 => ⟨by omega, ih (by omega) (by omega) _ (qFr_up f1 rfl) (fun c' a b' => ?_)⟩⟩
  · refine L2 0 hn.1 (by omega) m1 f1 (fun s s0 s1 c' a b' => ?_)
    have e0 : bShl 1 0 = 1 := by decide +kernel
    rw [show s = 0 by omega, show (0 : Int) * 13 + c' = c' by omega, he c' a (by omega)]
    have v0 : ∀ g a', qPv T N nT (qX N pl 0) g a' = 0 := fun g a' => qsB_e nT wn.1.1 (fun u _ _ => qX_0)
    exact ⟨Or.inr ⟨fun _ => 0, fun _ => 9, ⟨fun t _ _ ht => by rw [qX_0] at ht; exact absurd ht (by simp), by rw [qsB_e nT wn.1.1 (fun u _ _ => qX_0)]; exact a, fun _ hf => hf.elim⟩, v0 _ _⟩, fun g a' _ => by rw [v0]; omega⟩
  · rw [qup_if]
    by_cases ec : c' = c
    · rw [if_pos ec]
    · rw [if_neg ec]; exact he c' a (by omega)
theorem c_shareOut (hb : ∀ q, 0 ≤ q → q < bShl 1 n → (0 ≤ m 81 q ∧ m 81 q ≤ 594) ∧ (-1 ≤ m 92 q ∧ m 92 q ≤ y) ∧ ∀ c, 0 ≤ c → c ≤ y → -1 ≤ m 93 (q * 13 + c) ∧ m 93 (q * 13 + c) ≤ 594) (hn : 0 ≤ n ∧ n ≤ 6) (y0 : 0 ≤ y) (y1 : y ≤ 12) (s0 : 0 ≤ s) (s1 : s < bShl 1 n) (hQ : ∀ m', qFr (fun a k => a = 93 ∧ s * 13 ≤ k ∧ k ≤ s * 13 + y) m m' → (∀ c, 0 ≤ c → c ≤ y → qSbU m s c 0 (m' 93 (s * 13 + c)) ∧ qSbA m s c (m' 93 (s * 13 + c))) → Q 0 ((b0, b1, b2), m')) : bC xs 1 30 [vr 85, vi s, vi y] ((b0, b1, b2), m) Q := by
  have pb := qpw (n := n) hn.1 hn.2
  refine qC rfl fun d hd => r_X2_shareOut_0 hd ?_
  suffices H : ∀ (k : Nat) (x : Int), x.toNat = k → 0 ≤ x → x ≤ s → qSu x s → ∀ m1, qFr (fun a k => a = 93 ∧ s * 13 ≤ k ∧ k ≤ s * 13 + y) m m1 → (∀ c, 0 ≤ c → c ≤ y → (-1 ≤ m1 93 (s * 13 + c) ∧ m1 93 (s * 13 + c) ≤ 1188) ∧ qSbU m s c x (m1 93 (s * 13 + c)) ∧ qSbA m s c (m1 93 (s * 13 + c))) → bGo xs d aM_X2_shareOut 2 [vr 85, vi s, vi y, vi x, vn, vn, vn] [] ((b0, b1, b2), m1) Q by
    refine H s.toNat s rfl s0 (Int.le_refl _) (by unfold qSu; exact Nat.and_self _) m qFr.refl (fun c c0 c1 => ⟨?_, ⟨Int.le_refl _, fun q a c2 => by have := qSu_le s0 c2; omega⟩, Or.inl rfl⟩)
    have := (hb s s0 s1).2.2 c c0 c1
    omega
  intro k
  induction k using Nat.strongRecOn with
  | _ k ih =>
    intro x hk x0 x1 hx m1 f1 hc
    refine r_X2_shareOut_2 hd ⟨by omega, fun h2 => hQ m1 f1 (fun c c0 c1 => ?_), fun h2 => ?_⟩
    · have := hc c c0 c1
      rw [show x = 0 by omega] at this
      exact this.2
    obtain ⟨z0, z1, z2, z3⟩ := qnxp s0 (by omega) h2 (by omega) hx
    have hbx := hb x x0 (by omega)
    have e92 : m1 92 x = m 92 x := f1 92 x (by omega)
    have stepU : ∀ c M, qSbU m s c x M → (¬ m 92 x = -1 → m 92 x ≤ c → ¬ m 93 (bXor s x * 13 + (c - m 92 x)) = -1 → m 93 (bXor s x * 13 + (c - m 92 x)) + m 81 x ≤ M) → qSbU m s c (bAnd (x - 1) s) M := fun c M hU hX => ⟨hU.1, fun q a c2 c3 c4 c5 => by
      by_cases e2 : q = x
      · rw [e2] at c3 c4 c5 ⊢; exact hX c3 c4 c5
      · by_cases e3 : x < q
        · exact hU.2 q e3 c2 c3 c4 c5
        · have := z3 q (by omega) c2 (by omega)
          omega⟩
    rw [e92]
    refine ⟨by omega, by omega, fun e => ih (bAnd (x - 1) s).toNat (by omega) _ rfl z0 (by omega) z2 m1 f1 (fun c c0 c1 => ⟨(hc c c0 c1).1, stepU c _ (hc c c0 c1).2.1 (fun h => absurd e h), (hc c c0 c1).2.2⟩), fun e => ⟨by omega, by omega, ?_⟩⟩
    obtain ⟨w0, w1⟩ := qxo_lt s0 (by omega) h2 hx
    suffices H : ∀ c, c ≤ y + 1 → m 92 x ≤ c → ∀ m2, qFr (fun a k => a = 93 ∧ s * 13 ≤ k ∧ k ≤ s * 13 + y) m m2 → (∀ c', 0 ≤ c' → c' ≤ y → (-1 ≤ m2 93 (s * 13 + c') ∧ m2 93 (s * 13 + c') ≤ 1188) ∧ (if c' < c then qSbU m s c' (bAnd (x - 1) s) (m2 93 (s * 13 + c')) else qSbU m s c' x (m2 93 (s * 13 + c'))) ∧ qSbA m s c' (m2 93 (s * 13 + c'))) → bGo xs d aM_X2_shareOut 45 [vr 85, vi s, vi y, vi x, vi (s * 13), vi (bXor s x * 13 - m 92 x), vi c] [] ((b0, b1, b2), m2) Q by
      refine H (m 92 x) (by omega) (Int.le_refl _) m1 f1 (fun c' a b' => ⟨(hc c' a b').1, ?_, (hc c' a b').2.2⟩)
      split
      · exact stepU c' _ (hc c' a b').2.1 (fun _ h4 => by omega)
      · exact (hc c' a b').2.1
    refine qUpto ?_
    intro c hcy ihc cp m2 f2 hc2
    refine r_X2_shareOut_45 hd ⟨by omega, by omega, fun h4 => ih (bAnd (x - 1) s).toNat (by omega) _ rfl z0 (by omega) z2 m2 f2 (fun c' a b' => ?_), fun h4 => ?_⟩
    · have := hc2 c' a b'
      rw [if_pos (by omega)] at this
      exact this
    · have ei : bXor s x * 13 - m 92 x + c = bXor s x * 13 + (c - m 92 x) := by omega
      have e93 : m2 93 (bXor s x * 13 + (c - m 92 x)) = m 93 (bXor s x * 13 + (c - m 92 x)) := f2 93 _ (by omega)
      have b93 := (hb (bXor s x) w0 (by omega)).2.2 (c - m 92 x) (by omega) (by omega)
      have e81 : m2 81 x = m 81 x := f2 81 x (by omega)
      have hcc := hc2 c (by omega) h4
      rw [if_neg (by omega)] at hcc
      rw [ei, e93, e81]
      refine ⟨by omega, by omega, fun e2 => ihc (by omega) (by omega) m2 f2 (fun c' a b' => ?_), fun e2 => ⟨by omega, by omega, by omega, by omega, by omega, by omega, ihc (by omega) (by omega) _ (qFr_up f2 (by omega)) (fun c' a b' => ?_)⟩⟩
      · have h5 := hc2 c' a b'
        refine ⟨h5.1, ?_, h5.2.2⟩
        by_cases ec : c' = c
        · rw [if_pos (by omega), ec]
          exact stepU c _ hcc.2.1 (fun _ _ h => absurd e2 h)
        · have h6 := h5.2.1
          by_cases ec2 : c' < c
          · rw [if_pos ec2] at h6; rw [if_pos (by omega)]; exact h6
          · rw [if_neg ec2] at h6; rw [if_neg (by omega)]; exact h6
      · by_cases ec : c' = c
        · rw [ec, qup_s, if_pos (by omega)]
          refine ⟨by omega, stepU c _ ⟨Int.le_trans hcc.2.1.1 (Int.le_max_left _ _), fun q a1 a2 a3 a4 a5 => Int.le_trans (hcc.2.1.2 q a1 a2 a3 a4 a5) (Int.le_max_left _ _)⟩ (fun _ _ _ => Int.le_max_right _ _), ?_⟩
          by_cases e6 : m2 93 (s * 13 + c) ≤ m 93 (bXor s x * 13 + (c - m 92 x)) + m 81 x
          · rw [Int.max_eq_right e6]; exact Or.inr ⟨x, h2, hx, e, cp, e2, rfl⟩
          · rw [Int.max_eq_left (by omega)]; exact hcc.2.2
        · rw [qup_o (by omega)]
          have h5 := hc2 c' a b'
          refine ⟨h5.1, ?_, h5.2.2⟩
          have h6 := h5.2.1
          by_cases ec2 : c' < c
          · rw [if_pos ec2] at h6; rw [if_pos (by omega)]; exact h6
          · rw [if_neg ec2] at h6; rw [if_neg (by omega)]; exact h6
end GAI
