/-! B: ends that fit -/
def qt10 (n : Int) : Int := 10 ^ n.toNat
theorem qt10_v : qt10 0 = 1 ∧ qt10 1 = 10 ∧ qt10 2 = 100 ∧ qt10 3 = 1000 ∧ qt10 4 = 10000 ∧ qt10 5 = 100000 ∧ qt10 6 = 1000000 := by decide
theorem qt10_x {xs : List Int32} {n : Int} (h0 : 0 ≤ n) (h1 : n < 7) : bXv xs 1001 n = qt10 n := by
  have : n = 0 ∨ n = 1 ∨ n = 2 ∨ n = 3 ∨ n = 4 ∨ n = 5 ∨ n = 6 := by omega
  rcases this with rfl | rfl | rfl | rfl | rfl | rfl | rfl <;> rfl
theorem qt10_bd {n : Int} (h0 : 0 ≤ n) (h1 : n < 7) : 1 ≤ qt10 n ∧ qt10 n ≤ 1000000 := by
  have v := qt10_v
  have : n = 0 ∨ n = 1 ∨ n = 2 ∨ n = 3 ∨ n = 4 ∨ n = 5 ∨ n = 6 := by omega
  rcases this with rfl | rfl | rfl | rfl | rfl | rfl | rfl <;> omega
theorem qt10_s {n : Int} (h0 : 0 ≤ n) (h1 : n < 6) : qt10 (n + 1) = 10 * qt10 n := by
  have v := qt10_v
  have : n = 0 ∨ n = 1 ∨ n = 2 ∨ n = 3 ∨ n = 4 ∨ n = 5 := by omega
  rcases this with rfl | rfl | rfl | rfl | rfl | rfl
  · show qt10 1 = _; omega
  · show qt10 2 = _; omega
  · show qt10 3 = _; omega
  · show qt10 4 = _; omega
  · show qt10 5 = _; omega
  · show qt10 6 = _; omega
theorem qt10_4 {s : Int} (h0 : 1 ≤ s) (h1 : s ≤ 4) : qt10 s = 10 * qt10 (s - 1) ∧ 1 ≤ qt10 (s - 1) ∧ qt10 (s - 1) ≤ 1000 := by
  have v := qt10_v
  have : s = 1 ∨ s = 2 ∨ s = 3 ∨ s = 4 := by omega
  rcases this with rfl | rfl | rfl | rfl
  · show _ = 10 * qt10 0 ∧ 1 ≤ qt10 0 ∧ qt10 0 ≤ 1000; omega
  · show _ = 10 * qt10 1 ∧ 1 ≤ qt10 1 ∧ qt10 1 ≤ 1000; omega
  · show _ = 10 * qt10 2 ∧ 1 ≤ qt10 2 ∧ qt10 2 ≤ 1000; omega
  · show _ = 10 * qt10 3 ∧ 1 ≤ qt10 3 ∧ qt10 3 ≤ 1000; omega
/-- the k-th sign of a row of S signs -/
def qsg (S x k : Int) : Int := Int.tmod (Int.tdiv x (qt10 (S - 1 - k))) 10
theorem qsg_bd {S x k : Int} (h : 0 ≤ x) : 0 ≤ qsg S x k ∧ qsg S x k ≤ 9 := by
  unfold qsg
  have h1 : 0 ≤ Int.tdiv x (qt10 (S - 1 - k)) := Int.tdiv_nonneg h (by unfold qt10; exact Int.pow_nonneg (by omega))
  have h2 := Int.tmod_nonneg 10 h1
  have h3 := Int.tmod_lt_of_pos (Int.tdiv x (qt10 (S - 1 - k))) (show (0 : Int) < 10 by omega)
  omega
theorem qtd_in {x : Int} (S k : Int) (h : 0 ≤ x) (h2 : x ≤ 2147483647) : inR (Int.tdiv x (qt10 (S - 1 - k))) := by
  have h1 : 0 ≤ Int.tdiv x (qt10 (S - 1 - k)) := Int.tdiv_nonneg h (by unfold qt10; exact Int.pow_nonneg (by omega))
  have h3 : Int.tdiv x (qt10 (S - 1 - k)) ≤ x := Int.tdiv_le_self _ h
  omega
def qfn (W : Int → Int → Int → Int) (g : Int → Int) : Nat → Int → Int → Int
  | 0, _, _ => 1
  | n + 1, k, p => if 0 < W k p (g k) then qfn W g n (k + 1) (g k) else 0
def qfq (W : Int → Int → Int → Int) (g : Int → Int) (S k p : Int) : Int := qfn W g (S - k).toNat k p
theorem qfq_lt {W : Int → Int → Int → Int} {g : Int → Int} {S k p : Int} (h : k < S) : qfq W g S k p = if 0 < W k p (g k) then qfq W g S (k + 1) (g k) else 0 := by
  unfold qfq
  rw [show (S - k).toNat = (S - (k + 1)).toNat + 1 by omega, qfn]
theorem qfq_ge {W : Int → Int → Int → Int} {g : Int → Int} {S k p : Int} (h : S ≤ k) : qfq W g S k p = 1 := by
  unfold qfq
  rw [show (S - k).toNat = 0 by omega, qfn]
theorem qfn_01 {W : Int → Int → Int → Int} {g : Int → Int} : ∀ (n : Nat) (k p : Int), qfn W g n k p = 0 ∨ qfn W g n k p = 1
  | 0, _, _ => Or.inr rfl
  | n + 1, k, p => by
    rw [qfn]
    split
    · exact qfn_01 n _ _
    · exact Or.inl rfl
/-- whether a row fits a law -/
def qfit (lB : Int → Int → Int) (lN bl bs : Int → Int) (b l S x : Int) : Int := if Int.tmod x 10 = 0 then qfq (fun k p c => qVw lB lN l (qlE (bl b + k) p c)) (qsg S x) S 0 (bs (12 * b + (bl b - 1))) else 0
theorem qfit_01 {lB : Int → Int → Int} {lN bl bs : Int → Int} {b l S x : Int} : qfit lB lN bl bs b l S x = 0 ∨ qfit lB lN bl bs b l S x = 1 := by
  unfold qfit
  split
  · unfold qfq; exact qfn_01 _ _ _
  · exact Or.inl rfl
def qjd (lB : Int → Int → Int) (lN bl bs : Int → Int) (nL b S x : Int) : Int := qfold (fun l acc => if qfit lB lN bl bs b l S x = 0 then acc else bOrr acc (bShl 1 l)) nL 0 0
theorem qjd_inR {lB : Int → Int → Int} {lN bl bs : Int → Int} {nL b S x : Int} (h : 0 ≤ nL) : inR (qjd lB lN bl bs nL b S x) := by
  unfold qjd
  refine qfold_inv (I := fun _ a => inR a) ?_ h (by omega)
  intro i a _ _ ha
  try dsimp only
  split
  · exact ha
  · exact qOrr_inR _ _
def qPjud (lB : Int → Int → Int) (lN bl bs : Int → Int) (nL r b S x : Int) : Int := if (0 ≤ b ∧ b < r) ∧ (1 ≤ S ∧ S ≤ 4) ∧ 0 ≤ x ∧ x < qt10 S then qjd lB lN bl bs nL b S x else -1
section FITS
variable {xs : List Int32} {d : Nat} {Q : bPo} {b b0 b1 b2 : Bool} {m : Nat → Int → Int} {nT nH : Int} {T P E U N : Int → Int} {t s h k : Int}
variable {nL l S x r k i : Int} {lB : Int → Int → Int} {lN bl bs : Int → Int} {m' : Nat → Int → Int}
theorem qBc.fr (hc : qBc m r bl bs) (h1 : m' 24 2 = m 24 2) (h2 : m' 31 = m 31) (h3 : m' 25 = m 25) : qBc m' r bl bs := by
  unfold qBc at *
  rw [h1, h2, h3]
  exact hc
theorem qBm.fr (hc : qBm m r bl bs) (h1 : m' 120 34 = m 120 34) (h2 : m' 134 = m 134) (h3 : m' 133 = m 133) : qBm m' r bl bs := by
  unfold qBm at *
  rw [h1, h2, h3]
  exact hc
theorem qBc.yk (hc : qBc m r bl bs) (f : qFr qYk m m') : qBc m' r bl bs := hc.fr (f 24 2 (by unfold qYk qYf; omega)) (qFr_at f 31 (fun k => by unfold qYk qYf; omega)) (qFr_at f 25 (fun k => by unfold qYk qYf; omega))
theorem qBm.ym (hc : qBm m r bl bs) (f : qFr qYm m m') : qBm m' r bl bs := hc.fr (f 120 34 (by unfold qYm; omega)) (qFr_at f 134 (fun k => by unfold qYm; omega)) (qFr_at f 133 (fun k => by unfold qYm; omega))
theorem c_fits (hV : qVs nL lB lN) (hc : qVc m nL lB lN) (hg : qBg r bl bs) (hB : qBc m r bl bs) (k0 : 0 ≤ k) (k1 : k < r) (l0 : 0 ≤ l) (l1 : l < nL) (S0 : 1 ≤ S) (S1 : S ≤ 4) (x0 : 0 ≤ x) (x1 : x ≤ 2147483647) (hQ : ∀ m', qFr qYk m m' → qVc m' nL lB lN → Q (qfit lB lN bl bs k l S x) ((b0, b1, b2), m')) : bC xs 6 165 [vr 0, vi k, vi l, vi S, vi x] ((b0, b1, b2), m) Q := by
  have gk := hg.2 k k0 k1
  have gb := hB.2 k k0 k1
  have gr := hg.1
  have gl := gk.2 (bl k - 1) (by omega) (by omega)
  refine qC rfl fun d hd => r_X11_fits_0 hd ?_
  rw [gb.1, gb.2 (bl k - 1) (by omega) (by omega)]
  have h2 := Int.tmod_nonneg 10 x0
  have h3 := Int.tmod_lt_of_pos x (show (0 : Int) < 10 by omega)
  unfold qfit at hQ
  refine ⟨by omega, by omega, fun h => by omega, fun _ => ⟨by omega, by omega, fun h0 => ⟨by omega, by omega, by omega, ?_⟩, fun h0 => ?_⟩⟩
  · rw [if_pos h0] at hQ
    suffices H : ∀ j, j ≤ S → 0 ≤ j → ∀ p, 0 ≤ p → p ≤ 9 → ∀ m1, qFr qYk m m1 → qVc m1 nL lB lN → (∀ m', qFr qYk m m' → qVc m' nL lB lN → Q (qfq (fun k' p c => qVw lB lN l (qlE (bl k + k') p c)) (qsg S x) S j p) ((b0, b1, b2), m')) → bGo xs d aM_X11_fits 46 [vr 0, vn, vi l, vi S, vi x, vi (bl k), vi p, vi j, vn] [] ((b0, b1, b2), m1) Q from H 0 (by omega) (by omega) _ gl.1 gl.2 m qFr.refl hc hQ
    refine qUpto ?_
    intro j hj ih j0 p p0 p1 m1 f1 hc1 hq
    refine r_X11_fits_46 hd ⟨by omega, by omega, fun h => ?_, fun h => ?_⟩
    · rw [qfq_ge h] at hq
      exact hq m1 f1 hc1
    · have ht := qt10_bd (n := S - 1 - j) (by omega) (by omega)
      have hs := qsg_bd (S := S) (k := j) x0
      rw [qt10_x (by omega) (by omega)]
      refine ⟨by omega, by omega, by omega, qtd_in S j x0 x1, ?_⟩
      refine c_likes hV hc1 l0 l1 (by omega) (by omega) p0 p1 hs.1 hs.2 ?_
      intro m2 f2 hc2
      rw [qfq_lt h] at hq
      by_cases hw : 0 < qVw lB lN l (qlE (bl k + j) p (qsg S x j))
      · rw [if_pos hw] at hq
        rw [show Int.tmod (Int.tdiv x (qt10 (S - 1 - j))) 10 = qsg S x j from rfl, if_pos hw]
        exact ⟨rfl, by omega, fun _ => ih h (by omega) _ hs.1 hs.2 m2 (f1.trans f2) hc2 hq, fun h => by omega⟩
      · rw [if_neg hw] at hq
        rw [show Int.tmod (Int.tdiv x (qt10 (S - 1 - j))) 10 = qsg S x j from rfl, if_neg hw]
        exact ⟨rfl, by omega, fun h => absurd rfl h, fun _ => hq m2 (f1.trans f2) hc2⟩
  · rw [if_neg h0] at hQ
    exact hQ m qFr.refl hc
theorem c_fitting (hV : qVs nL lB lN) (hc : qVc m nL lB lN) (hg : qBg r bl bs) (hB : qBc m r bl bs) (k0 : 0 ≤ k) (k1 : k < r) (S0 : 1 ≤ S) (S1 : S ≤ 4) (x0 : 0 ≤ x) (x1 : x ≤ 2147483647) (hQ : ∀ m', qFr qYk m m' → qVc m' nL lB lN → Q (qjd lB lN bl bs nL k S x) ((b0, b1, b2), m')) : bC xs 7 164 [vr 0, vi k, vi S, vi x] ((b0, b1, b2), m) Q := by
  refine qC rfl fun d hd => r_X11_fitting_0 hd ?_
  have h6 := hV.1
  unfold qjd at hQ
  suffices H : ∀ l, l ≤ nL → 0 ≤ l → ∀ acc m1, qFr qYk m m1 → qVc m1 nL lB lN → (∀ m', qFr qYk m m' → qVc m' nL lB lN → Q (qfold (fun l acc => if qfit lB lN bl bs k l S x = 0 then acc else bOrr acc (bShl 1 l)) nL l acc) ((b0, b1, b2), m')) → bGo xs d aM_X11_fitting 6 [vr 0, vi k, vi S, vi x, vi acc, vi l] [] ((b0, b1, b2), m1) Q from H 0 (by omega) (by omega) 0 m qFr.refl hc hQ
  refine qUpto ?_
  intro l hl ih l0 acc m1 f1 hc1 hq
  refine r_X11_fitting_6 hd ?_
  rw [hc1.1]
  refine ⟨by omega, by omega, fun h => ?_, fun h => ?_⟩
  · rw [qfold_ge h] at hq
    exact hq m1 f1 hc1
  · refine c_fits hV hc1 hg (hB.yk f1) k0 k1 l0 h S0 S1 x0 x1 ?_
    intro m2 f2 hc2
    have h01 := qfit_01 (lB := lB) (lN := lN) (bl := bl) (bs := bs) (b := k) (l := l) (S := S) (x := x)
    rw [qfold_lt h] at hq
    refine ⟨rfl, by omega, fun h0 => ?_, fun h0 => ?_⟩
    · rw [if_pos h0] at hq
      exact ih h (by omega) _ m2 (f1.trans f2) hc2 hq
    · rw [if_neg h0] at hq
      exact ih h (by omega) _ m2 (f1.trans f2) hc2 hq
theorem c_judged (hV : qVs nL lB lN) (hc : qVc m nL lB lN) (hg : qBg r bl bs) (hB : qBc m r bl bs) (y1 : inR k) (y2 : inR S) (y3 : inR x) (hQ : ∀ m', qFr qYk m m' → qVc m' nL lB lN → Q (qPjud lB lN bl bs nL r k S x) ((b0, b1, b2), m')) : bC xs 8 162 [vr 0, vi k, vi S, vi x] ((b0, b1, b2), m) Q := by
  refine qC rfl fun d hd => r_X11_judged_0 hd ?_
  have gr := hg.1
  rw [hB.1]
  unfold qPjud at hQ
  have hno : ¬ ((0 ≤ k ∧ k < r) ∧ (1 ≤ S ∧ S ≤ 4) ∧ 0 ≤ x ∧ x < qt10 S) → Q (-1) ((b0, b1, b2), m) := fun hn => by
    have := hQ m qFr.refl hc
    rw [if_neg hn] at this
    exact this
  refine ⟨y1, fun h => hno (by omega), fun _ => ⟨y1, by omega, fun h => hno (by omega), fun _ => ⟨y2, fun h => hno (by omega), fun _ => ⟨y2, fun h => hno (by omega), fun _ => ⟨y3, fun h => hno (by omega), fun _ => ⟨by omega, y3, ?_⟩⟩⟩⟩⟩⟩
  have ht := qt10_bd (n := S) (by omega) (by omega)
  rw [qt10_x (by omega) (by omega)]
  refine ⟨by omega, fun h => ?_, fun h => hno (by omega)⟩
  rw [if_pos (by omega)] at hQ
  exact c_fitting hV hc hg hB (by omega) (by omega) (by omega) (by omega) (by omega) (by omega) fun m' f' hc' => ⟨rfl, hQ m' f' hc'⟩
/-! the model's -/
theorem d_tens (k0 : 0 ≤ k) (k1 : k < 7) (hQ : Q (qt10 k) ((b0, b1, b2), m)) : bC xs 1 267 [vi k] ((b0, b1, b2), m) Q := by
  refine qC rfl fun d hd => r_X12_tens_0 hd ?_
  suffices H : ∀ i, i ≤ k → 0 ≤ i → bGo xs d aM_X12_tens 4 [vi k, vi (qt10 i), vi i] [] ((b0, b1, b2), m) Q from H 0 k0 (by omega)
  refine qUpto ?_
  intro i hi ih i0
  refine r_X12_tens_4 hd ⟨by omega, by omega, fun h => ?_, fun h => ?_⟩
  · rw [show i = k by omega]; exact hQ
  · rw [show qt10 i * 10 = qt10 (i + 1) by rw [qt10_s i0 (by omega)]; omega]
    exact ih h (by omega)
theorem d_isFit (hV : qVs nL lB lN) (hc : qVm m nL lB lN) (hg : qBg r bl bs) (hB : qBm m r bl bs) (hl : ∀ k, qbn (m 124 k)) (k0 : 0 ≤ k) (k1 : k < r) (l0 : 0 ≤ l) (l1 : l < nL) (S0 : 1 ≤ S) (S1 : S ≤ 4) (x0 : 0 ≤ x) (x1 : x ≤ 2147483647) (hQ : ∀ b2' m', qFr qYm m m' → (∀ k, qbn (m' 124 k)) → Q (qfit lB lN bl bs k l S x) ((b0, b1, b2'), m')) : bC xs 251 268 [vr 120, vi k, vi l, vi S, vi x] ((b0, b1, b2), m) Q := by
  have gk := hg.2 k k0 k1
  have gb := hB.2 k k0 k1
  have gr := hg.1
  have gl := gk.2 (bl k - 1) (by omega) (by omega)
  refine qC rfl fun d hd => r_X12_isFit_0 hd ?_
  rw [gb.1, show 12 * k + bl k - 1 = 12 * k + (bl k - 1) by omega, gb.2 (bl k - 1) (by omega) (by omega)]
  have h2 := Int.tmod_nonneg 10 x0
  have h3 := Int.tmod_lt_of_pos x (show (0 : Int) < 10 by omega)
  unfold qfit at hQ
  refine ⟨by omega, by omega, fun h0 => ⟨by omega, by omega, ?_⟩, fun h0 => ?_⟩
  · rw [if_pos h0] at hQ
    suffices H : ∀ j, j ≤ S → 0 ≤ j → ∀ p, 0 ≤ p → p ≤ 9 → ∀ b2 m1, qFr qYm m m1 → (∀ k, qbn (m1 124 k)) → (∀ b2' m', qFr qYm m m' → (∀ k, qbn (m' 124 k)) → Q (qfq (fun k' p c => qVw lB lN l (qlE (bl k + k') p c)) (qsg S x) S j p) ((b0, b1, b2'), m')) → bGo xs d aM_X12_isFit 33 [vr 120, vi k, vi l, vi S, vi x, vi p, vi j, vn] [] ((b0, b1, b2), m1) Q from H 0 (by omega) (by omega) _ gl.1 gl.2 b2 m qFr.refl hl hQ
    refine qUpto ?_
    intro j hj ih j0 p p0 p1 b2 m1 f1 hl1 hq
    refine r_X12_isFit_33 hd ⟨by omega, by omega, fun h => ?_, fun h => ?_⟩
    · rw [qfq_ge h] at hq
      exact hq b2 m1 f1 hl1
    · have ht := qt10_bd (n := S - 1 - j) (by omega) (by omega)
      have hs := qsg_bd (S := S) (k := j) x0
      refine d_tens (by omega) (by omega) ⟨rfl, by omega, by omega, qtd_in S j x0 x1, by omega, ?_⟩
      dsimp only
      have gb1 := (hB.ym f1).2 k k0 k1
      rw [gb1.1, show Int.tmod (Int.tdiv x (qt10 (S - 1 - j))) 10 = qsg S x j from rfl]
      have hE := qlE_bn (p := bl k + j) (a := p) (c := qsg S x j) (by omega) (by omega) p0 p1 hs.1 hs.2
      have hw := qVw_bn hV l0 l1 hE
      have f2 : qFr qYm m (up (up (up (up (up (up (up (up m1 124 118 0) 124 107 0) 124 115 0) 124 100 0) 124 110 0) 124 112 p) 124 99 (qsg S x j)) 124 105 (bl k + j)) := qFr_up (qFr_up (qFr_up (qFr_up (qFr_up (qFr_up (qFr_up (qFr_up f1 (by unfold qYm; omega)) (by unfold qYm; omega)) (by unfold qYm; omega)) (by unfold qYm; omega)) (by unfold qYm; omega)) (by unfold qYm; omega)) (by unfold qYm; omega)) (by unfold qYm; omega)
      have z0 : qbn 0 := by unfold qbn; omega
      have zp : qbn p := by unfold qbn; omega
      have zc : qbn (qsg S x j) := by unfold qbn; omega
      have zi : qbn (bl k + j) := by unfold qbn; omega
      have hl2 : ∀ q, qbn (up (up (up (up (up (up (up (up m1 124 118 0) 124 107 0) 124 115 0) 124 100 0) 124 110 0) 124 112 p) 124 99 (qsg S x j)) 124 105 (bl k + j) 124 q) := by
        intro q
        rw [qup_if, qup_if, qup_if, qup_if, qup_if, qup_if, qup_if, qup_if]
        split
        · exact zi
        split
        · exact zc
        split
        · exact zp
        split
        · exact z0
        split
        · exact z0
        split
        · exact z0
        split
        · exact z0
        split
        · exact z0
        · exact hl1 q
      refine d_worthV hV (hc.ym f2) l0 l1 hE ?_ ?_
      · intro c hcl
        rcases qlet_c hcl with rfl | rfl | rfl | rfl | rfl | rfl | rfl | rfl
        · rw [qup_o (by omega), qup_o (by omega), qup_o (by omega), qup_o (by omega), qup_o (by omega), qup_o (by omega), qup_o (by omega), qup_s]; rfl
        · rw [qup_o (by omega), qup_o (by omega), qup_o (by omega), qup_o (by omega), qup_o (by omega), qup_o (by omega), qup_s]; rfl
        · rw [qup_o (by omega), qup_o (by omega), qup_o (by omega), qup_o (by omega), qup_o (by omega), qup_s]; rfl
        · rw [qup_o (by omega), qup_o (by omega), qup_o (by omega), qup_o (by omega), qup_s]; rfl
        · rw [qup_o (by omega), qup_o (by omega), qup_o (by omega), qup_s]; rfl
        · rw [qup_o (by omega), qup_o (by omega), qup_s]; rfl
        · rw [qup_o (by omega), qup_s]; rfl
        · rw [qup_s]; rfl
      · intro m2 f3
        have f4 : qFr qYm m m2 := f2.trans (f3.mono (fun a k h => by unfold qLn at h; unfold qYm; omega))
        have hl3 : ∀ k, qbn (m2 124 k) := fun q => by rw [f3 124 q (by unfold qLn; omega)]; exact hl2 q
        unfold qbn at hw
        rw [qfq_lt h] at hq
        refine ⟨⟨rfl, rfl⟩, by omega, fun h0 => ?_, fun h0 => ?_⟩
        · rw [if_pos h0] at hq
          exact ih h (by omega) _ hs.1 hs.2 true m2 f4 hl3 hq
        · rw [if_neg (by omega)] at hq
          exact hq true m2 f4 hl3
  · rw [if_neg h0] at hQ
    exact hQ b2 m qFr.refl hl
theorem d_judgedOf (hV : qVs nL lB lN) (hc : qVm m nL lB lN) (hg : qBg r bl bs) (hB : qBm m r bl bs) (hl : ∀ k, qbn (m 124 k)) (k0 : 0 ≤ k) (k1 : k < r) (S0 : 1 ≤ S) (S1 : S ≤ 4) (x0 : 0 ≤ x) (x1 : x ≤ 2147483647) (hQ : ∀ b2' m', qFr qYm m m' → (∀ k, qbn (m' 124 k)) → Q (qjd lB lN bl bs nL k S x) ((b0, b1, b2'), m')) : bC xs 252 271 [vr 120, vi k, vi S, vi x] ((b0, b1, b2), m) Q := by
  refine qC rfl fun d hd => r_X12_judgedOf_0 hd ?_
  have h6 := hV.1
  unfold qjd at hQ
  suffices H : ∀ l, l ≤ nL → 0 ≤ l → ∀ acc, inR acc → ∀ b2 m1, qFr qYm m m1 → (∀ k, qbn (m1 124 k)) → (∀ b2' m', qFr qYm m m' → (∀ k, qbn (m' 124 k)) → Q (qfold (fun l acc => if qfit lB lN bl bs k l S x = 0 then acc else bOrr acc (bShl 1 l)) nL l acc) ((b0, b1, b2'), m')) → bGo xs d aM_X12_judgedOf 6 [vr 120, vi k, vi S, vi x, vi acc, vi l] [] ((b0, b1, b2), m1) Q from H 0 (by omega) (by omega) 0 (by omega) b2 m qFr.refl hl hQ
  refine qUpto ?_
  intro l hL ih l0 acc ha b2 m1 f1 hl1 hq
  refine r_X12_judgedOf_6 hd ?_
  have hc1 := hc.ym f1
  rw [hc1.1, qOrr_zero ha]
  refine ⟨by omega, by omega, fun h => ?_, fun h => ?_⟩
  · rw [qfold_ge h] at hq
    exact hq b2 m1 f1 hl1
  · refine d_isFit hV hc1 hg (hB.ym f1) hl1 k0 k1 l0 h S0 S1 x0 x1 ?_
    intro b2' m2 f2 hl2
    have h01 := qfit_01 (lB := lB) (lN := lN) (bl := bl) (bs := bs) (b := k) (l := l) (S := S) (x := x)
    rw [qfold_lt h] at hq
    refine ⟨⟨rfl, rfl⟩, by omega, fun h0 => ?_, fun h0 => ?_⟩
    · rw [if_pos h0] at hq
      exact ih h (by omega) _ ha b2' m2 (f1.trans f2) hl2 hq
    · rw [if_neg h0] at hq
      exact ih h (by omega) _ (qOrr_inR _ _) b2' m2 (f1.trans f2) hl2 hq
theorem qYm_t (f : qFr qYm (up m 120 0 0) m') : qFr (fun a k => qYm a k ∨ (a = 120 ∧ k = 0)) m m' := (qFr_up qFr.refl (Or.inr ⟨rfl, rfl⟩)).trans (f.mono (fun a k h => Or.inl h))
theorem d_judged (hV : qVs nL lB lN) (hc : qVm m nL lB lN) (hg : qBg r bl bs) (hB : qBm m r bl bs) (hl : ∀ k, qbn (m 124 k)) (y1 : inR k) (y2 : inR S) (y3 : inR x) (hQ : ∀ b2' m', qFr (fun a k => qYm a k ∨ (a = 120 ∧ k = 0)) m m' → (∀ k, qbn (m' 124 k)) → Q (qPjud lB lN bl bs nL r k S x) ((b0, b1, b2'), m')) : bC xs 253 272 [vr 120, vi k, vi S, vi x] ((b0, b1, b2), m) Q := by
  refine qC rfl fun d hd => r_X12_judged_0 hd ?_
  have gr := hg.1
  rw [hB.1]
  have f0 : qFr qYm (up m 120 0 0) (up m 120 0 0) := qFr.refl
  have hl0 : ∀ k, qbn (up m 120 0 0 124 k) := fun k => by rw [qup_n (by omega)]; exact hl k
  have hc0 : qVm (up m 120 0 0) nL lB lN := hc.fr (qup_o (by omega)) (qup_n (by omega)) (qup_n (by omega))
  have hB0 : qBm (up m 120 0 0) r bl bs := hB.fr (qup_o (by omega)) (qup_n (by omega)) (qup_n (by omega))
  unfold qPjud at hQ
  have hno : ¬ ((0 ≤ k ∧ k < r) ∧ (1 ≤ S ∧ S ≤ 4) ∧ 0 ≤ x ∧ x < qt10 S) → Q (-1) ((b0, b1, b2), up m 120 0 0) := fun hn => by
    have := hQ b2 _ (qYm_t f0) hl0
    rw [if_neg hn] at this
    exact this
  refine ⟨y1, fun h => hno (by omega), fun _ => ⟨y1, by omega, fun h => hno (by omega), fun _ => ⟨y2, by omega, fun h => hno (by omega), fun _ => ⟨by omega, fun h => hno (by omega), fun _ => ⟨y3, fun h => hno (by omega), fun _ => d_tens (by omega) (by omega) ?_⟩⟩⟩⟩⟩
  have ht := qt10_bd (n := S) (by omega) (by omega)
  refine ⟨rfl, y3, by omega, fun h => hno (by omega), fun h => ?_⟩
  rw [if_pos (by omega)] at hQ
  exact d_judgedOf hV hc0 hg hB0 hl0 (by omega) (by omega) (by omega) (by omega) (by omega) (by omega) fun b2' m' f' hl' => ⟨⟨rfl, rfl⟩, hQ b2' m' (qYm_t f') hl'⟩
end FITS
