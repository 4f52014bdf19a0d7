/-! B: the model: what one can do, best, spite -/
theorem qrm_f : ∀ s : Fin 64, ∀ i : Fin 6, (0 ≤ bAnd (s.val : Int) (bXor (bShl 1 (i.val : Int)) (-1)) ∧ bAnd (s.val : Int) (bXor (bShl 1 (i.val : Int)) (-1)) ≤ (s.val : Int) ∧ (Nat.testBit s.val i.val = true → bAnd (s.val : Int) (bXor (bShl 1 (i.val : Int)) (-1)) < (s.val : Int))) ∧ ∀ k : Fin 6, Nat.testBit (bAnd (s.val : Int) (bXor (bShl 1 (i.val : Int)) (-1))).toNat k.val = (Nat.testBit s.val k.val && !decide (k.val = i.val)) := by decide +kernel
theorem qrm {s i : Int} (s0 : 0 ≤ s) (s1 : s < 64) (i0 : 0 ≤ i) (i1 : i < 6) : (0 ≤ bAnd s (bXor (bShl 1 i) (-1)) ∧ bAnd s (bXor (bShl 1 i) (-1)) ≤ s ∧ (qB s i = true → bAnd s (bXor (bShl 1 i) (-1)) < s)) ∧ ∀ k, 0 ≤ k → k < 6 → qB (bAnd s (bXor (bShl 1 i) (-1))) k = (qB s k && !decide (k = i)) := by
  obtain ⟨a, rfl⟩ := Int.eq_ofNat_of_zero_le s0
  obtain ⟨c, rfl⟩ := Int.eq_ofNat_of_zero_le i0
  obtain ⟨h1, h2⟩ := qrm_f ⟨a, by omega⟩ ⟨c, by omega⟩
  refine ⟨h1, fun k k0 k1 => ?_⟩
  obtain ⟨j, rfl⟩ := Int.eq_ofNat_of_zero_le k0
  have := h2 ⟨j, by omega⟩
  unfold qB
  rw [Int.toNat_natCast, Int.toNat_natCast]
  dsimp only at this
  rw [this]
  congr 2
  by_cases e : j = c
  · rw [decide_eq_true e, decide_eq_true (by omega)]
  · rw [decide_eq_false e, decide_eq_false (by omega)]
theorem qsu_f : ∀ q s : Fin 64, (bAnd (q.val : Int) (bXor (s.val : Int) (-1)) = 0 ↔ q.val &&& s.val = q.val) := by decide +kernel
theorem qsu_e {q s : Int} (q0 : 0 ≤ q) (q1 : q < 64) (s0 : 0 ≤ s) (s1 : s < 64) : bAnd q (bXor s (-1)) = 0 ↔ qSu q s := by
  obtain ⟨a, rfl⟩ := Int.eq_ofNat_of_zero_le q0
  obtain ⟨c, rfl⟩ := Int.eq_ofNat_of_zero_le s0
  have := qsu_f ⟨a, by omega⟩ ⟨c, by omega⟩
  unfold qSu
  rw [Int.toNat_natCast, Int.toNat_natCast]
  exact this
theorem qand_B {a c : Int} (a0 : 0 ≤ a) (a1 : a < 64) (c0 : 0 ≤ c) (c1 : c < 64) : (0 ≤ bAnd a c ∧ bAnd a c < 64) ∧ ∀ k, qB (bAnd a c) k = (qB a k && qB c k) := by
  obtain ⟨x, rfl⟩ := Int.eq_ofNat_of_zero_le a0
  obtain ⟨y, rfl⟩ := Int.eq_ofNat_of_zero_le c0
  have hl : x &&& y ≤ x := Nat.and_le_left
  rw [qAndN (by omega) (by omega)]
  refine ⟨by omega, fun k => ?_⟩
  unfold qB
  rw [Int.toNat_natCast, Int.toNat_natCast, Int.toNat_natCast, Nat.testBit_and]
/-- days alone from what is asked -/
def qAg (T P N G : Int → Int) (h : Int) : Int → Int := fun t => qal T P N h t (G t)
def qGok (T G : Int → Int) (nT : Int) : Prop := ∀ t, 0 ≤ t → t < nT → 0 ≤ G t ∧ G t ≤ T (4 * t + 3)
section MCD
variable {xs : List Int32} {d : Nat} {Q : bPo} {b b0 b1 b2 : Bool} {m : Nat → Int → Int} {nT nH : Int} {T P E U N : Int → Int} {t s h k : Int}
variable {G : Int → Int} {w x n : Int} {m' : Nat → Int → Int}
theorem qAg_bd (hW : qWF nT nH T P E U N) (hG : qGok T G nT) (h0 : 0 ≤ h) (h1 : h < nH) (t0 : 0 ≤ t) (t1 : t < nT) : -1 ≤ qAg T P N G h t ∧ qAg T P N G h t ≤ 216 := qal_bd hW h0 h1 t0 t1 (hG t t0 t1).1 (hG t t0 t1).2
theorem d_aloneG (hW : qWF nT nH T P E U N) (hM : qMR m nT nH T P E U N) (hG : qGok T G nT) (h0 : 0 ≤ h) (h1 : h < nH) (t0 : 0 ≤ t) (t1 : t < nT) (hQ : Q (qAg T P N G h t) ((b0, b1, b2), m)) : bC xs 3 223 [vr 120, vi h, vi t, vi (G t)] ((b0, b1, b2), m) Q := d_aloneFrom hW hM h0 h1 t0 t1 (hG t t0 t1).1 (hG t t0 t1).2 hQ
theorem d_canDo (hW : qWF nT nH T P E U N) (hM : qMR m nT nH T P E U N) (hG : qGok T G nT) (hm : ∀ t, 0 ≤ t → t < nT → m 138 t = G t) (h0 : 0 ≤ h) (h1 : h < nH) (w0 : 0 ≤ w) (w1 : w < bShl 1 nT) (x0 : 0 ≤ x) (x1 : x ≤ 2000) (hy : qFe (qAg T P N G h) (qRo T) nT x (fun t => qB w t) → Q 1 ((b0, b1, b2), m)) (hn : ¬ qFe (qAg T P N G h) (qRo T) nT x (fun t => qB w t) → Q 0 ((b0, b1, b2), m)) : bC xs 4 244 [vr 120, vi h, vi w, vi x] ((b0, b1, b2), m) Q := by
  have wn := qw_n hW
  have wb := qpw (n := nT) wn.1.1 wn.1.2
  refine qC rfl fun d hd => r_X12_canDo_0 hd ?_
  suffices H : ∀ (k : Nat) (w x : Int), w.toNat = k → 0 ≤ w → w < bShl 1 nT → 0 ≤ x → x ≤ 2000 → (qFe (qAg T P N G h) (qRo T) nT x (fun t => qB w t) → Q 1 ((b0, b1, b2), m)) → (¬ qFe (qAg T P N G h) (qRo T) nT x (fun t => qB w t) → Q 0 ((b0, b1, b2), m)) → bGo xs d aM_X12_canDo 6 [vr 120, vi h, vn, vn, vi x, vi w, vn, vn] [] ((b0, b1, b2), m) Q from H w.toNat w x rfl w0 w1 x0 x1 hy hn
  clear hy hn w0 w1 x0 x1
  intro k
  induction k using Nat.strongRecOn with
  | _ k ih =>
    intro w x hk w0 w1 x0 x1 hy hn
    refine r_X12_canDo_6 hd ⟨by omega, fun e => hy (qFe_e (fun u _ _ => by rw [e]; exact qB_0)), fun e => ?_⟩
    suffices H : ∀ t, t ≤ nT → 0 ≤ t → ∀ y, ((y = -1 ∧ ∀ u, 0 ≤ u → u < t → qB w u = false) ∨ (0 ≤ y ∧ y < t ∧ qB w y = true ∧ ∀ u, 0 ≤ u → u < t → qB w u = true → qbf (qRo T) y u = true)) → bGo xs d aM_X12_canDo 17 [vr 120, vi h, vn, vn, vi x, vi w, vi y, vi t] [] ((b0, b1, b2), m) Q from H 0 (by omega) (by omega) (-1) (Or.inl ⟨rfl, fun u a c => by omega⟩)
    refine qUpto ?_
    intro t ht iht t0 y hyy
    refine r_X12_canDo_17 hd ?_
    have hM0 := hM
    rw [hM.1, hM.2.2.1]
    refine ⟨by omega, by omega, fun h2 => ?_, fun t1 => ⟨qAnd_inR _ _, ?_⟩⟩
    · rcases hyy with ⟨_, hz⟩ | ⟨y0, y1, yb, yl⟩
      · exfalso
        refine e (qB_ext w0 (by omega) (by omega) (by omega) (fun u u0 u1 => ?_))
        rw [qB_0]
        by_cases eu : u < nT
        · exact hz u u0 (by omega)
        · exact qB_lt w0 wn.1.1 wn.1.2 w1 u (by omega)
      · have y2 : y < nT := by omega
        have bd := qAg_bd hW hG h0 h1 y0 y2
        have wt := qw_t hW y0 y2
        obtain ⟨⟨r0, r1, r2⟩, r3⟩ := qrm w0 (by omega) y0 (show y < 6 by omega)
        have r2 := r2 yb
        have fe := qFe_rem (A := qAg T P N G h) (r := qRo T) (b := x) (χ := fun u => qB (bAnd w (bXor (bShl 1 y) (-1))) u) (χ' := fun u => qB w u) wn.1.1 y0 y2 (by show qB _ y = false; rw [r3 y y0 (by omega), decide_eq_true rfl, Bool.not_true, Bool.and_false]) yb (fun u u0 u1 hu => by show qB w u = qB _ u; rw [r3 u u0 (by omega), decide_eq_false hu, Bool.not_false, Bool.and_true]) (fun u u0 u1 hu => by
          have hu : qB (bAnd w (bXor (bShl 1 y) (-1))) u = true := hu
          rw [r3 u u0 (by omega), Bool.and_eq_true] at hu
          exact yl u u0 (by omega) hu.1)
        rw [hm y y0 y2]
        refine ⟨by omega, d_aloneG hW hM0 hG h0 h1 y0 y2 ⟨rfl, by omega, fun e2 => hn (fun hf => (fe.mp hf).1.1 e2), fun e2 => ⟨by omega, by omega, ?_⟩⟩⟩
        dsimp only
        rw [hM0.2.2.1]
        refine ⟨by omega, fun e3 => ih (bAnd w (bXor (bShl 1 y) (-1))).toNat (by omega) _ _ rfl r0 (by omega) (by omega) (by omega) (fun hf => hy (fe.mpr ⟨⟨e2, e3⟩, hf⟩)) (fun hf => hn (fun hg => hf (fe.mp hg).2)), fun e3 => hn (fun hf => ?_)⟩
        have := (fe.mp hf).1.2
        unfold qRo at this
        omega
    · have bt := qB_t (s := w) (k := t) w0 (by omega) t0 (by omega)
      refine ⟨fun e2 => iht t1 (by omega) y ?_, fun e2 => ⟨by omega, fun e3 => iht t1 (by omega) t (Or.inr ⟨t0, by omega, bt.mp e2, fun u u0 u1 hu => ?_⟩), fun e3 => ?_⟩⟩
      · have eb : qB w t = false := by
          cases eb : qB w t with
          | false => rfl
          | true => exact absurd (bt.mpr eb) e2
        rcases hyy with ⟨a, hz⟩ | ⟨y0, y1, yb, yl⟩
        · refine Or.inl ⟨a, fun u u0 u1 => ?_⟩
          by_cases eu : u = t
          · rw [eu]; exact eb
          · exact hz u u0 (by omega)
        · refine Or.inr ⟨y0, by omega, yb, fun u u0 u1 hu => ?_⟩
          by_cases eu : u = t
          · rw [eu, eb] at hu; exact absurd hu (by simp)
          · exact yl u u0 (by omega) hu
      · rcases hyy with ⟨a, hz⟩ | ⟨y0, y1, yb, yl⟩
        · by_cases eu : u = t
          · rw [eu, qbf_d]; omega
          · rw [hz u u0 (by omega)] at hu; exact absurd hu (by simp)
        · omega
      · rcases hyy with ⟨a, _⟩ | ⟨y0, y1, yb, yl⟩
        · exact absurd a e3
        · have wt := qw_t hW t0 t1
          have wy := qw_t hW y0 (show y < nT by omega)
          refine ⟨by omega, by omega, by omega, by omega, fun e4 => iht t1 (by omega) y (Or.inr ⟨y0, by omega, yb, fun u u0 u1 hu => ?_⟩), fun e4 => iht t1 (by omega) t (Or.inr ⟨t0, by omega, bt.mp e2, fun u u0 u1 hu => ?_⟩)⟩
          · by_cases eu : u = t
            · rw [eu, qbf_d]; unfold qRo; omega
            · exact yl u u0 (by omega) hu
          · by_cases eu : u = t
            · rw [eu, qbf_d]; omega
            · have := yl u u0 (by omega) hu
              rw [qbf_d] at this ⊢
              unfold qRo at this ⊢
              omega
def qBsA (T P N G : Int → Int) (nT h w x M : Int) : Prop := M = 0 ∨ ∃ q, 0 ≤ q ∧ q < bShl 1 nT ∧ qSu q w ∧ qFe (qAg T P N G h) (qRo T) nT x (fun t => qB q t) ∧ qsB (fun t => qB q t) (qVa T) nT = M
theorem d_bestOf (hW : qWF nT nH T P E U N) (hM : qMR m nT nH T P E U N) (hG : qGok T G nT) (hm : ∀ t, 0 ≤ t → t < nT → m 138 t = G t) (h0 : 0 ≤ h) (h1 : h < nH) (w0 : 0 ≤ w) (w1 : w < 64) (x0 : 0 ≤ x) (x1 : x ≤ 2000) (hQ : ∀ M, qBo (qAg T P N G h) (qRo T) (qVa T) nT x (fun t => qB w t) M → 0 ≤ M ∧ M ≤ 594 → Q M ((b0, b1, b2), m)) : bC xs 5 248 [vr 120, vi h, vi w, vi x] ((b0, b1, b2), m) Q := by
  have wn := qw_n hW
  have wb := qpw (n := nT) wn.1.1 wn.1.2
  refine qC rfl fun d hd => r_X12_bestOf_0 hd ?_
  suffices H : ∀ s, s ≤ bShl 1 nT → 0 ≤ s → ∀ M, (0 ≤ M ∧ M ≤ 594) → (∀ q, 0 ≤ q → q < s → qSu q w → qFe (qAg T P N G h) (qRo T) nT x (fun t => qB q t) → qsB (fun t => qB q t) (qVa T) nT ≤ M) → qBsA T P N G nT h w x M → bGo xs d aM_X12_bestOf 6 [vr 120, vi h, vi w, vi x, vi M, vi s, vn, vn] [] ((b0, b1, b2), m) Q from H 0 (by omega) (by omega) 0 (by omega) (fun q a c => by omega) (Or.inl rfl)
  refine qUpto ?_
  intro s hs ih s0 M hMb m1 m2
  refine r_X12_bestOf_6 hd ?_
  rw [hM.1]
  refine ⟨by omega, by omega, fun h2 => hQ M ?_ hMb, fun h2 => ⟨qAnd_inR _ _, ?_⟩⟩
  · constructor
    · rcases m2 with e | ⟨q, q0, q1, q2, q3, q4⟩
      · exact ⟨fun _ => false, fun t _ _ ht => absurd ht (by simp), qFe_e (fun _ _ _ => rfl), by rw [e]; exact qsB_e nT wn.1.1 (fun _ _ _ => rfl)⟩
      · exact ⟨fun t => qB q t, fun t _ _ ht => qSu_B q2 ht, q3, q4⟩
    · intro q hq hf
      obtain ⟨q', a0, a1, a2⟩ := qmk q nT wn.1.1 wn.1.2
      have e2 : ∀ t, 0 ≤ t → t < nT → q t = qB q' t := fun t t0 t1 => (a2 t t0 t1).symm
      rw [qsB_cg (χ' := fun t => qB q' t) (g := qVa T) e2 (fun _ _ _ _ => rfl)]
      refine m1 q' a0 (by omega) (qSu_of a0 (by omega) (fun k k0 k1 hb => ?_)) (qFe_cg wn.1.1 e2 hf)
      by_cases ek : k < nT
      · rw [a2 k k0 ek] at hb
        exact hq k k0 ek hb
      · rw [qB_lt a0 wn.1.1 wn.1.2 a1 k (by omega)] at hb
        exact absurd hb (by simp)
  · have su := qsu_e s0 (show s < 64 by omega) w0 w1
    have skip : ¬ (qSu s w ∧ qFe (qAg T P N G h) (qRo T) nT x (fun t => qB s t)) → bGo xs d aM_X12_bestOf 6 [vr 120, vi h, vi w, vi x, vi M, vi (s + 1), vn, vn] [] ((b0, b1, b2), m) Q := by
      intro hno
      refine ih h2 (by omega) M hMb (fun q q0 q1 q2 q3 => ?_) m2
      by_cases e : q = s
      · rw [e] at q2 q3; exact absurd ⟨q2, q3⟩ hno
      · exact m1 q q0 (by omega) q2 q3
    refine ⟨fun e => skip (fun hx => e (su.mpr hx.1)), fun e => d_canDo hW hM hG hm h0 h1 s0 h2 x0 x1 (fun hf => ⟨rfl, by omega, fun _ => ?_, fun h => by omega⟩) (fun hf => ⟨rfl, by omega, fun h => absurd rfl h, fun _ => skip (fun hx => hf hx.2)⟩)⟩
    have sv := qVa_sum hW (χ := fun t => qB s t)
    suffices H : ∀ t, t ≤ nT → 0 ≤ t → bGo xs d aM_X12_bestOf 46 [vr 120, vi h, vi w, vi x, vi M, vi s, vi (qsB (fun t => qB s t) (qVa T) t), vi t] [] ((b0, b1, b2), m) Q by
      have := H 0 wn.1.1 (by omega)
      rw [qsB_0] at this
      exact this
    refine qUpto ?_
    intro t ht iht t0
    refine r_X12_bestOf_46 hd ?_
    rw [hM.1, hM.2.2.1]
    refine ⟨by omega, by omega, fun h3 => ?_, fun t1 => ⟨qAnd_inR _ _, ?_⟩⟩
    · rw [show t = nT by omega]
      refine ⟨by omega, by omega, ih h2 (by omega) _ (by omega) (fun q q0 q1 q2 q3 => ?_) ?_⟩
      · by_cases e2 : q = s
        · rw [e2]; omega
        · have := m1 q q0 (by omega) q2 q3
          omega
      · by_cases e2 : qsB (fun t => qB s t) (qVa T) nT ≤ M
        · rw [show max M (qsB (fun t => qB s t) (qVa T) nT) = M by omega]; exact m2
        · rw [show max M (qsB (fun t => qB s t) (qVa T) nT) = qsB (fun t => qB s t) (qVa T) nT by omega]
          exact Or.inr ⟨s, s0, h2, su.mp e, hf, rfl⟩
    · have bt := qB_t (s := s) (k := t) s0 (by omega) t0 (by omega)
      have ss := qsB_s (χ := fun t => qB s t) (f := qVa T) t0
      have := iht t1 (by omega)
      rw [ss] at this
      refine ⟨fun e2 => ?_, fun e2 => ⟨by omega, ?_⟩⟩
      · rw [if_neg (fun hb => e2 (bt.mpr hb))] at this
        rw [Int.add_zero]
        exact this
      · rw [if_pos (bt.mp e2)] at this
        exact this
theorem d_askAsItIs (hW : qWF nT nH T P E U N) (hM : qMR m nT nH T P E U N) (hQ : ∀ m', qFr (fun a _ => a = 138) m m' → (∀ t, 0 ≤ t → t < nT → m' 138 t = N (6 * t)) → Q 0 ((b0, b1, b2), m')) : bC xs 2 242 [vr 120] ((b0, b1, b2), m) Q := by
  have wn := qw_n hW
  refine qC rfl fun d hd => r_X12_askAsItIs_0 hd ?_
  suffices H : ∀ t, t ≤ nT → 0 ≤ t → ∀ m1, qFr (fun a _ => a = 138) m m1 → (∀ u, 0 ≤ u → u < t → m1 138 u = N (6 * u)) → bGo xs d aM_X12_askAsItIs 2 [vr 120, vi t] [] ((b0, b1, b2), m1) Q from H 0 wn.1.1 (by omega) m qFr.refl (fun u a c => by omega)
  refine qUpto ?_
  intro t ht ih t0 m1 f1 he
  refine r_X12_askAsItIs_2 hd ?_
  rw [f1 120 26 (by omega), hM.1, f1 135 _ (by omega), hM.2.2.2.2.2.2]
  refine ⟨by omega, by omega, fun h2 => hQ m1 f1 (fun u a c => he u a (by omega)), fun t1 => ⟨by omega, by omega, ih t1 (by omega) _ (qFr_up f1 rfl) (fun u a c => ?_)⟩⟩
  rw [qup_if]
  by_cases e : u = t
  · rw [if_pos e, e]
  · rw [if_neg e]; exact he u a (by omega)
theorem d_toDo (hW : qWF nT nH T P E U N) (hM : qMR m nT nH T P E U N) (hQ : ∀ z, 0 ≤ z → z < bShl 1 nT → (∀ k, 0 ≤ k → k < nT → qB z k = decide (N (6 * k + 2) = 0)) → Q z ((b0, b1, b2), m)) : bC xs 3 249 [vr 120] ((b0, b1, b2), m) Q := by
  have wn := qw_n hW
  refine qC rfl fun d hd => r_X12_toDo_0 hd ?_
  suffices H : ∀ t, t ≤ nT → 0 ≤ t → ∀ z, 0 ≤ z → z < bShl 1 t → (∀ k, 0 ≤ k → k < t → qB z k = decide (N (6 * k + 2) = 0)) → bGo xs d aM_X12_toDo 4 [vr 120, vi z, vi t] [] ((b0, b1, b2), m) Q from H 0 wn.1.1 (by omega) 0 (by omega) (by decide +kernel) (fun k a c => by omega)
  refine qUpto ?_
  intro t ht ih t0 z z0 z1 hz
  have zb := qpw (n := t) t0 (by omega)
  refine r_X12_toDo_4 hd ?_
  rw [hM.1, hM.2.2.2.2.2.2, qOrr_zero (show inR z by omega)]
  refine ⟨by omega, by omega, fun h2 => hQ z z0 (by rw [show nT = t by omega]; exact z1) (fun k a c => hz k a (by omega)), fun t1 => ⟨by omega, fun h => by omega, fun _ => ⟨by omega, by omega, fun h => by omega, fun _ => ⟨by omega, ?_⟩⟩⟩⟩
  have ws := qw_st hW t0 t1
  have ps := qpw_s t0 (show t < 6 by omega)
  refine ⟨by omega, fun e => ih t1 (by omega) z z0 (by omega) (fun k a c => ?_), fun e => ?_⟩
  · by_cases ek : k = t
    · rw [ek, qB_lt z0 t0 (by omega) z1 t (by omega), decide_eq_false e]
    · exact hz k a (by omega)
  · rw [qOr_add z0 t0 (by omega) z1]
    refine ih t1 (by omega) _ (by omega) (by omega) (fun k a c => ?_)
    rw [qB_add z0 t0 (by omega) z1 a (by omega)]
    by_cases ek : k = t
    · rw [ek, decide_eq_true rfl, Bool.or_true, decide_eq_true e]
    · rw [decide_eq_false ek, Bool.or_false]
      exact hz k a (by omega)
theorem qGok_N (hW : qWF nT nH T P E U N) : qGok T (fun t => N (6 * t)) nT := fun t t0 t1 => qw_dn hW t0 t1
theorem qMR.as (hM : qMR m nT nH T P E U N) (f : qFr (fun a _ => 138 ≤ a ∧ a ≤ 144) m m') : qMR m' nT nH T P E U N := hM.fr ⟨f 120 26 (by omega), f 120 27 (by omega)⟩ (qFr_at f 125 (fun k => by omega)) (qFr_at f 127 (fun k => by omega)) (qFr_at f 129 (fun k => by omega)) (qFr_at f 131 (fun k => by omega)) (qFr_at f 135 (fun k => by omega))
theorem d_best (hW : qWF nT nH T P E U N) (hM : qMR m nT nH T P E U N) (x1 : inR h) (x2 : inR w) (hQ : ∀ m', qFr (fun a k => a = 138 ∨ (a = 120 ∧ k = 0)) m m' → Q (qPbs T P N nT nH h w) ((b0, b1, b2), m')) : bC xs 6 250 [vr 120, vi h, vi w] ((b0, b1, b2), m) Q := by
  have wn := qw_n hW
  have wd := qw_day hW
  have wb := qpw (n := nT) wn.1.1 wn.1.2
  refine qC rfl fun d hd => r_X12_best_0 hd ?_
  rw [hM.1, hM.2.1]
  have f0 : qFr (fun a k => a = 138 ∨ (a = 120 ∧ k = 0)) m (up m 120 0 0) := qFr_up qFr.refl (Or.inr ⟨rfl, rfl⟩)
  unfold qPbs at hQ
  have hno : ¬ ((0 ≤ h ∧ h < nH) ∧ 0 ≤ w ∧ w < bShl 1 nT) → Q (-1) ((b0, b1, b2), up m 120 0 0) := fun hn => by
    have := hQ _ f0
    rw [if_neg hn] at this
    exact this
  refine ⟨x1, fun e => hno (by omega), fun h0 => ⟨x1, by omega, fun e => hno (by omega), fun h1 => ⟨x2, fun e => hno (by omega), fun w0 => ⟨x2, by omega, fun w1 => ?_, fun e => hno (by omega)⟩⟩⟩⟩
  rw [if_pos ⟨⟨h0, h1⟩, w0, w1⟩] at hQ
  refine d_askAsItIs hW hM.thrown ?_
  intro m1 f1 he
  have hM1 := hM.thrown.as (f1.mono (fun a k h => by omega))
  refine ⟨rfl, d_toDo hW hM1 ?_⟩
  intro z z0 z1 hz
  obtain ⟨⟨a0, a1⟩, a2⟩ := qand_B w0 (show w < 64 by omega) z0 (show z < 64 by omega)
  refine ⟨rfl, ?_⟩
  dsimp only
  rw [hM1.2.2.2.2.2.2]
  refine d_bestOf (G := fun t => N (6 * t)) hW hM1 (qGok_N hW) he h0 h1 a0 a1 wd.1 (by omega) ?_
  intro M hM2 _
  have := hQ m1 (f0.trans (f1.mono (fun a k h => Or.inl h)))
  have hM3 : qBo (qAd T P N h) (qRo T) (qVa T) nT (N 66) (fun t => decide (N (6 * t + 2) = 0) && qB w t) M := qBo_cg (fun t t0 t1 => by rw [a2 t, hz t t0 t1, Bool.and_comm]) hM2
  rw [qBoz_e hM3] at this
  exact ⟨rfl, this⟩
end MCD
