/-! B: the class reckons a law -/
def qSv (C : Int → Int) : List Int → Prop
  | [] => True
  | x :: st => C st.length = x ∧ qbn x ∧ qSv C st
def qStk (m : Nat → Int → Int) (st : List Int) : Prop := m 6 5 = st.length ∧ qSv (m 16) st ∧ st.length ≤ 64
def qSf (a : Nat) (k : Int) : Prop := a = 16 ∨ (a = 6 ∧ k = 5)
theorem qr1_inv {E : Int → Int} {c : Int} {st st' : List Int} (h : qr1 E c st = some st') : (0 ≤ c ∧ c ≤ 1000000 ∧ st.length < 64 ∧ st' = c :: st) ∨ (-9 ≤ c ∧ c ≤ -2 ∧ st.length < 64 ∧ st' = E (-2 - c) :: st) ∨ (c = -19 ∧ ∃ x t, st = x :: t ∧ q01 x ∧ st' = (1 - x) :: t) ∨ (-18 ≤ c ∧ c ≤ -10 ∧ ∃ x y t, st = x :: y :: t ∧ qokk c y x ∧ st' = qop c y x :: t) := by
  unfold qr1 at h
  split at h
  · rename_i h0
    split at h
    · rename_i h1
      injection h with h
      exact Or.inl ⟨h0, h1.2, h1.1, h.symm⟩
    · exact absurd h (by simp)
  · split at h
    · rename_i h1
      split at h
      · rename_i h2
        injection h with h
        exact Or.inr (Or.inl ⟨h1.1, h1.2, h2, h.symm⟩)
      · exact absurd h (by simp)
    · cases st with
      | nil => exact absurd h (by simp)
      | cons x t =>
        dsimp only at h
        split at h
        · rename_i h3
          split at h
          · rename_i h4
            injection h with h
            exact Or.inr (Or.inr (Or.inl ⟨h3, x, t, rfl, h4, h.symm⟩))
          · exact absurd h (by simp)
        · split at h
          · rename_i h5
            cases t with
            | nil => exact absurd h (by simp [qr2])
            | cons y t =>
              unfold qr2 at h
              dsimp only at h
              split at h
              · rename_i h6
                injection h with h
                exact Or.inr (Or.inr (Or.inr ⟨h5.1, h5.2, x, y, t, rfl, h6, h.symm⟩))
              · exact absurd h (by simp)
          · exact absurd h (by simp)
theorem qr1_cg {E E' : Int → Int} {c : Int} {st : List Int} (h : ∀ i, 0 ≤ i → i ≤ 7 → E i = E' i) : qr1 E c st = qr1 E' c st := by
  unfold qr1
  by_cases h0 : 0 ≤ c
  · rw [if_pos h0, if_pos h0]
  · rw [if_neg h0, if_neg h0]
    by_cases h1 : -9 ≤ c ∧ c ≤ -2
    · rw [if_pos h1, if_pos h1, h (-2 - c) (by omega) (by omega)]
    · rw [if_neg h1, if_neg h1]
theorem qSv_fr {C C' : Int → Int} : ∀ (st : List Int), (∀ k, 0 ≤ k → k < st.length → C' k = C k) → qSv C st → qSv C' st
  | [], _, _ => trivial
  | x :: st, he, h => ⟨by rw [he _ (by omega) (by rw [List.length_cons]; omega)]; exact h.1, h.2.1, qSv_fr st (fun k a b => he k a (by rw [List.length_cons]; omega)) h.2.2⟩
theorem qmul_b {x y : Int} (hx : qbn x) (hy : qbn y) : -1000000000000 ≤ x * y ∧ x * y ≤ 1000000000000 := by
  unfold qbn at hx hy
  have h1 : (x * y).natAbs ≤ 1000000 * 1000000 := by
    rw [Int.natAbs_mul]
    exact Nat.mul_le_mul (by omega) (by omega)
  omega
theorem qdiv_b {x y : Int} (hx : qbn x) : qbn (Int.tdiv x y) := by
  unfold qbn at *
  have h1 : (Int.tdiv x y).natAbs ≤ x.natAbs := by
    rw [Int.natAbs_tdiv]
    exact Nat.div_le_self _ _
  omega
theorem qop_q {c x y : Int} (h : qokk c x y) (hc : -18 ≤ c ∧ c ≤ -10) : qbn (qop c x y) := by
  by_cases h1 : -13 ≤ c
  · exact qop_b ⟨h1, hc.2⟩
  · have : q01 (qop c x y) := by
      by_cases h2 : -16 ≤ c
      · exact qop_c (by omega)
      · have h3 : (x = 0 ∨ x = 1) ∧ (y = 0 ∨ y = 1) := by unfold qokk at h; omega
        exact qop_l (by omega) h3.1 h3.2
    unfold q01 at this
    unfold qbn
    omega
section CWR
variable {xs : List Int32} {d : Nat} {Q : bPo} {b b0 b1 b2 : Bool} {m : Nat → Int → Int} {nT nH : Int} {T P E U N : Int → Int} {t s h k : Int}
variable {c x y l n o : Int} {st st' : List Int}
theorem c_push (hs : qStk m st) (hl : st.length < 64) (hc : qbn c) (hQ : ∀ m', qFr qSf m m' → qStk m' (c :: st) → Q 0 ((b0, b1, b2), m')) : bC xs 1 102 [vr 6, vi c] ((b0, b1, b2), m) Q := by
  refine qC rfl fun d hd => r_X7_push_0 hd ?_
  obtain ⟨h5, hst, h64⟩ := hs
  rw [h5]
  refine ⟨by omega, by omega, fun h => by omega, fun _ => ⟨by omega, hQ _ (qFr_up (qFr_up qFr.refl (by unfold qSf; omega)) (by unfold qSf; omega)) ⟨?_, ⟨?_, hc, ?_⟩, ?_⟩⟩⟩
  · rw [qup_s, List.length_cons]; omega
  · rw [qup_n (by omega), qup_s]
  · rw [qup_n (by omega)]
    exact qSv_fr st (fun k a b => by rw [qup_o (by omega)]) hst
  · rw [List.length_cons]; omega
theorem c_pop (hs : qStk m (x :: st)) (hQ : ∀ m', qFr qSf m m' → qStk m' st → Q x ((b0, b1, b2), m')) : bC xs 1 103 [vr 6] ((b0, b1, b2), m) Q := by
  refine qC rfl fun d hd => r_X7_pop_0 hd ?_
  obtain ⟨h5, hst, h64⟩ := hs
  rw [List.length_cons] at h5 h64
  have e : m 6 5 - 1 = st.length := by omega
  rw [e, hst.1]
  refine ⟨by omega, fun _ => ⟨by omega, hQ _ (qFr_up qFr.refl (by unfold qSf; omega)) ⟨qup_s, ?_, by omega⟩⟩, fun h => by omega⟩
  rw [qup_n (by omega)]
  exact hst.2.2
theorem c_reckoned (hc : -13 ≤ c ∧ c ≤ -10) (hx : qbn x) (hy : qbn y) (hQ : Q (qop c x y) ((b0, b1, b2), m)) : bC xs 1 101 [vi c, vl x, vl y] ((b0, b1, b2), m) Q := by
  refine qC rfl fun d hd => r_X7_reckoned_0 hd ?_
  have hm := qmul_b hx hy
  have hd := qdiv_b (y := y) hx
  unfold qbn at hx hy hd
  unfold qop qcu at hQ
  refine ⟨by omega, fun h1 => ⟨by omega, fun h2 => ⟨by omega, fun h3 => ⟨by omega, fun h4 => ⟨by omega, by omega, ?_⟩, fun h4 => ⟨by omega, ⟨by omega, h4⟩, by omega, by omega, ?_⟩⟩, fun h3 => ⟨by omega, by omega, ?_⟩⟩, fun h2 => ⟨by omega, by omega, ?_⟩⟩, fun h1 => ⟨by omega, by omega, ?_⟩⟩
  · rw [if_neg h1, if_neg h2, if_neg h3, if_pos (by omega), if_pos h4] at hQ; exact hQ
  · rw [if_neg h1, if_neg h2, if_neg h3, if_pos (by omega), if_neg h4] at hQ; exact hQ
  · rw [if_neg h1, if_neg h2, if_pos h3] at hQ; exact hQ
  · rw [if_neg h1, if_pos h2] at hQ; exact hQ
  · rw [if_pos h1] at hQ; exact hQ
theorem c_joined (hc : -18 ≤ c ∧ c ≤ -10) (hk : qokk c x y) (hQ : Q (qop c x y) ((b0, b1, b2), m)) : bC xs 2 100 [vi c, vl x, vl y] ((b0, b1, b2), m) Q := by
  refine qC rfl fun d hd => r_X7_joined_0 hd ?_
  have hb : qbn x ∧ qbn y := by unfold qokk at hk; unfold qbn; omega
  unfold qbn at hb
  refine ⟨by omega, fun h1 => c_reckoned (by omega) (by unfold qbn; omega) (by unfold qbn; omega) ⟨rfl, hQ⟩, ?_⟩
  unfold qop at hQ
  refine ⟨fun h => ?_, fun h => ?_, fun h => ⟨by omega, by omega, fun h2 => ?_, fun h2 => ?_⟩, fun h => ⟨by omega, by omega, fun h2 => ?_, fun h2 => ?_⟩, fun h => ⟨by omega, by omega, fun h2 => ?_, fun h2 => ?_⟩, trivial⟩
  · rw [if_neg (by omega), if_neg (by omega), if_neg (by omega), if_neg (by omega), if_neg (by omega), if_neg (by omega), if_neg (by omega), if_neg (by omega), if_pos h] at hQ; exact hQ
  · rw [if_neg (by omega), if_neg (by omega), if_neg (by omega), if_neg (by omega), if_neg (by omega), if_neg (by omega), if_neg (by omega), if_pos (by omega)] at hQ; exact hQ
  · rw [if_neg (by omega), if_neg (by omega), if_neg (by omega), if_neg (by omega), if_neg (by omega), if_neg (by omega), if_pos (by omega), if_neg (by omega)] at hQ; exact hQ
  · rw [if_neg (by omega), if_neg (by omega), if_neg (by omega), if_neg (by omega), if_neg (by omega), if_neg (by omega), if_pos (by omega), if_pos (by omega)] at hQ; exact hQ
  · rw [if_neg (by omega), if_neg (by omega), if_neg (by omega), if_neg (by omega), if_neg (by omega), if_pos (by omega), if_neg (by omega)] at hQ; exact hQ
  · rw [if_neg (by omega), if_neg (by omega), if_neg (by omega), if_neg (by omega), if_neg (by omega), if_pos (by omega), if_pos (by omega)] at hQ; exact hQ
  · rw [if_neg (by omega), if_neg (by omega), if_neg (by omega), if_neg (by omega), if_pos (by omega), if_neg (by omega)] at hQ; exact hQ
  · rw [if_neg (by omega), if_neg (by omega), if_neg (by omega), if_neg (by omega), if_pos (by omega), if_pos (by omega)] at hQ; exact hQ
theorem c_wcode (hd : 3 ≤ d) (l0 : 0 ≤ l) (l1 : l < 6) (hn : n ≤ 240) (o0 : 0 ≤ o) (ho : o < n) (hE : ∀ i, 0 ≤ i → i ≤ 7 → qbn (m 15 i)) (hc : m 7 (l * 1000 + o) = c) (hs : qStk m st) (h : qr1 (m 15) c st = some st') (hQ : ∀ m', qFr qSf m m' → qStk m' st' → bGo xs d aM_X7_worth 37 [vr 6, vn, vw 7 l, vi n, vi (o + 1), vn, vn] [] ((b0, b1, b2), m') Q) : bGo xs d aM_X7_worth 37 [vr 6, vn, vw 7 l, vi n, vi o, vn, vn] [] ((b0, b1, b2), m) Q := by
  refine r_X7_worth_37 hd ⟨by omega, by omega, fun h => by omega, fun _ => ⟨by omega, by omega, ?_⟩⟩
  rw [hc]
  have hi := qr1_inv h
  have hr : inR c := by
    rcases hi with h | h | h | h
    all_goals omega
  refine ⟨hr, fun h0 => ⟨hr, fun h1 => ?_, fun h1 => ⟨hr, fun h2 => ⟨hr, fun h3 => ⟨hr, fun h4 => ⟨hr, fun h5 => ?_, fun h5 => ?_⟩, fun h4 => ?_⟩, fun h3 => ?_⟩, fun h2 => ⟨by omega, ?_⟩⟩⟩, fun h0 => ?_⟩
  · exfalso; rcases hi with h | h | h | h
    all_goals omega
  · exfalso; rcases hi with h | h | h | h
    all_goals omega
  · obtain ⟨_, _, x, y, t, rfl, hk, rfl⟩ : -18 ≤ c ∧ c ≤ -10 ∧ ∃ x y t, st = x :: y :: t ∧ qokk c y x ∧ st' = qop c y x :: t := by
      rcases hi with h | h | h | h
      · omega
      · omega
      · omega
      · exact h
    refine c_pop hs fun m1 f1 s1 => ⟨rfl, c_pop s1 fun m2 f2 s2 => ⟨rfl, by unfold qokk at hk; omega, by unfold qokk at hk; omega, c_joined (by omega) hk ⟨rfl, c_push s2 (by have := hs.2.2; simp only [List.length_cons] at this; omega) (qop_q hk (by omega)) fun m3 f3 s3 => ⟨rfl, hQ m3 ((f1.trans f2).trans f3) s3⟩⟩⟩⟩
  · obtain ⟨_, x, t, rfl, hk, rfl⟩ : c = -19 ∧ ∃ x t, st = x :: t ∧ q01 x ∧ st' = (1 - x) :: t := by
      rcases hi with h | h | h | h
      · omega
      · omega
      · exact h
      · omega
    unfold q01 at hk
    refine c_pop hs fun m1 f1 s1 => ⟨rfl, c_push s1 (by have := hs.2.2; simp only [List.length_cons] at this; omega) (by unfold qbn; omega) fun m2 f2 s2 => ⟨rfl, hQ m2 (f1.trans f2) s2⟩⟩
  · exfalso; rcases hi with h | h | h | h
    all_goals omega
  · obtain ⟨_, _, hl, rfl⟩ : -9 ≤ c ∧ c ≤ -2 ∧ st.length < 64 ∧ st' = m 15 (-2 - c) :: st := by
      rcases hi with h | h | h | h
      · omega
      · exact h
      · omega
      · omega
    exact c_push hs hl (hE _ (by omega) (by omega)) fun m1 f1 s1 => ⟨rfl, hQ m1 f1 s1⟩
  · obtain ⟨_, h6, hl, rfl⟩ : 0 ≤ c ∧ c ≤ 1000000 ∧ st.length < 64 ∧ st' = c :: st := by
      rcases hi with h | h | h | h
      · exact h
      · omega
      · omega
      · omega
    exact c_push hs hl (by unfold qbn; omega) fun m1 f1 s1 => ⟨rfl, hQ m1 f1 s1⟩
theorem c_wrun {C E : Int → Int} (hd : 3 ≤ d) (l0 : 0 ≤ l) (l1 : l < 6) (hn : n ≤ 240) (hE : ∀ i, qbn (E i)) : ∀ (cs : List Int) (o : Int) (st st' : List Int) (m : Nat → Int → Int), 0 ≤ o → o + cs.length ≤ n → (∀ i, 0 ≤ i → i ≤ 7 → m 15 i = E i) → (∀ k, m 7 (l * 1000 + k) = C k) → qSeg C o cs → qStk m st → qRn E cs st = some st' → (∀ m', qFr qSf m m' → qStk m' st' → bGo xs d aM_X7_worth 37 [vr 6, vn, vw 7 l, vi n, vi (o + cs.length), vn, vn] [] ((b0, b1, b2), m') Q) → bGo xs d aM_X7_worth 37 [vr 6, vn, vw 7 l, vi n, vi o, vn, vn] [] ((b0, b1, b2), m) Q := by
  intro cs
  induction cs with
  | nil =>
    intro o st st' m o0 ho hm hC hg hs hr hQ
    injection hr with hr
    subst hr
    have := hQ m qFr.refl hs
    rw [show o + (([] : List Int).length : Int) = o by simp only [List.length_nil]; omega] at this
    exact this
  | cons c cs ih =>
    intro o st st' m o0 ho hm hC hg hs hr hQ
    rw [List.length_cons] at ho
    rw [qRn] at hr
    cases h1 : qr1 E c st with
    | none => rw [h1] at hr; exact absurd hr (by simp)
    | some s1 =>
      rw [h1] at hr
      refine c_wcode (c := c) hd l0 l1 hn o0 (by omega) (fun i a b => by rw [hm i a b]; exact hE i) (by rw [hC]; exact hg.1) hs (by rw [qr1_cg hm]; exact h1) ?_
      intro m1 f1 k1
      refine ih (o + 1) s1 st' m1 (by omega) (by omega) (fun i a b => by rw [qFr_at f1 15 (fun k => by unfold qSf; omega)]; exact hm i a b) (fun k => by rw [qFr_at f1 7 (fun k => by unfold qSf; omega)]; exact hC k) hg.2 k1 hr ?_
      intro m2 f2 k2
      have := hQ m2 (f1.trans f2) k2
      rw [show o + ((c :: cs).length : Int) = o + 1 + cs.length by rw [List.length_cons]; omega] at this
      exact this
/-- what a law's clauses are worth -/
def qwz (E : Int → Int) : List qCz → Int
  | [] => 0
  | z :: zs => match z.1 with
    | none => qva E z.2 []
    | some c => if qva E c [] = 0 then qwz E zs else qva E z.2 []
def qGz (E : Int → Int) (z : qCz) : Prop := (z.1 = none ∨ ∃ c v, z.1 = some c ∧ q01 v ∧ qSem E 18 c v) ∧ ∃ v, qbn v ∧ qSem E 18 z.2 v
theorem c_worthZ {C E : Int → Int} (hd : 3 ≤ d) (l0 : 0 ≤ l) (l1 : l < 6) (hn : n ≤ 240) (hE : ∀ i, qbn (E i)) : ∀ (zs : List qCz) (o : Int) (m : Nat → Int → Int), 0 ≤ o → o + (qlayL o zs).length = n → (∀ i, 0 ≤ i → i ≤ 7 → m 15 i = E i) → (∀ k, m 7 (l * 1000 + k) = C k) → qSeg C o (qlayL o zs) → qStk m [] → (∀ z, z ∈ zs → qGz E z) → (∀ m', qFr qSf m m' → Q (qwz E zs) ((b0, b1, b2), m')) → bGo xs d aM_X7_worth 37 [vr 6, vn, vw 7 l, vi n, vi o, vn, vn] [] ((b0, b1, b2), m) Q := by
  intro zs
  induction zs with
  | nil =>
    intro o m o0 ho hm hC hg hs hz hQ
    simp only [qlayL, List.length_nil] at ho
    refine r_X7_worth_37 hd ⟨by omega, by omega, fun _ => hQ m qFr.refl, fun h => by omega⟩
  | cons z zs ih =>
    intro o m o0 ho hm hC hg hs hz hQ
    rw [qlayL, List.length_append] at ho
    rw [qlayL, qSeg_app] at hg
    obtain ⟨hz1, v, hv, sv⟩ := hz z (List.mem_cons_self ..)
    have eva := qva_s sv (by omega)
    -- the answer's end
    have fin : ∀ (o2 : Int) (m2 : Nat → Int → Int), 0 ≤ o2 → o2 + z.2.length + 1 ≤ n → qFr qSf m m2 → qSeg C o2 (z.2 ++ [-20]) → qStk m2 [] → (∀ m', qFr qSf m m' → Q v ((b0, b1, b2), m')) → bGo xs d aM_X7_worth 37 [vr 6, vn, vw 7 l, vi n, vi o2, vn, vn] [] ((b0, b1, b2), m2) Q := by
      intro o2 m2 o20 ho2 f2 hg2 hs2 hQ2
      rw [qSeg_app] at hg2
      have e15 : ∀ i, 0 ≤ i → i ≤ 7 → m2 15 i = E i := fun i a b => by rw [qFr_at f2 15 (fun k => by unfold qSf; omega)]; exact hm i a b
      have e7 : ∀ k, m2 7 (l * 1000 + k) = C k := fun k => by rw [qFr_at f2 7 (fun k => by unfold qSf; omega)]; exact hC k
      refine c_wrun hd l0 l1 hn hE z.2 o2 [] [v] m2 o20 (by omega) e15 e7 hg2.1 hs2 (sv [] (by simp only [List.length_nil]; omega)) ?_
      intro m3 f3 k3
      have e73 : m3 7 (l * 1000 + (o2 + z.2.length)) = -20 := by rw [qFr_at f3 7 (fun k => by unfold qSf; omega), e7]; exact hg2.2.1
      refine r_X7_worth_37 hd ⟨by omega, by omega, fun h => by omega, fun _ => ⟨by omega, by omega, ?_⟩⟩
      rw [e73]
      refine ⟨by omega, fun _ => ⟨by omega, fun h => by omega, fun _ => ⟨by omega, fun _ => ⟨by omega, fun h => absurd rfl h, fun _ => c_pop k3 fun m4 f4 k4 => ⟨rfl, hQ2 m4 ((f2.trans f3).trans f4)⟩⟩, fun h => by omega⟩⟩, fun h => by omega⟩
    rcases hz1 with hn1 | ⟨c, w, hc, hw, sw⟩
    · have el := qlay_n o hn1
      have e : qlay o z = z.2 ++ [-20] := by unfold qlay; rw [hn1]
      have ew : qwz E (z :: zs) = v := by rw [qwz, hn1]; exact eva
      rw [e] at hg
      rw [ew] at hQ
      exact fin o m o0 (by omega) qFr.refl hg.1 hs hQ
    · have el := qlay_s o hc
      have e : qlay o z = c ++ ((-100 - (o + c.length + 1 + z.2.length + 1)) :: (z.2 ++ [-20])) := by unfold qlay; rw [hc]
      have ew : qwz E (z :: zs) = if w = 0 then qwz E zs else v := by
        rw [qwz, hc]
        dsimp only
        rw [eva, qva_s sw (by omega)]
      have hg1 := hg.1
      rw [e, qSeg_app] at hg1
      refine c_wrun hd l0 l1 hn hE c o [] [w] m o0 (by omega) hm hC hg1.1 hs (sw [] (by simp only [List.length_nil]; omega)) ?_
      intro m1 f1 k1
      have e71 : m1 7 (l * 1000 + (o + c.length)) = -100 - (o + c.length + 1 + z.2.length + 1) := by rw [qFr_at f1 7 (fun k => by unfold qSf; omega), hC]; exact hg1.2.1
      refine r_X7_worth_37 hd ⟨by omega, by omega, fun h => by omega, fun _ => ⟨by omega, by omega, ?_⟩⟩
      rw [e71]
      refine ⟨by omega, fun _ => ⟨by omega, fun h => by omega, fun _ => ⟨by omega, fun _ => ⟨by omega, fun _ => ⟨by omega, fun _ => ⟨by omega, fun _ => c_pop k1 fun m2 f2 k2 => ⟨rfl, by unfold q01 at hw; omega, fun hw1 => ?_, fun hw0 => ⟨by omega, by omega, ?_⟩⟩, fun h => by omega⟩, fun h => by omega⟩, fun h => by omega⟩, fun h => by omega⟩⟩, fun h => by omega⟩
      · rw [ew, if_neg hw1] at hQ
        exact fin (o + c.length + 1) m2 (by omega) (by omega) (f1.trans f2) hg1.2.2 k2 hQ
      · rw [ew, if_pos hw0] at hQ
        rw [show max (o + (c.length : Int)) (-100 - (-100 - (o + c.length + 1 + z.2.length + 1)) - 1) + 1 = o + (qlay o z).length by omega]
        have f12 := f1.trans f2
        exact ih (o + (qlay o z).length) m2 (by omega) (by omega) (fun i a b => by rw [qFr_at f12 15 (fun k => by unfold qSf; omega)]; exact hm i a b) (fun k => by rw [qFr_at f12 7 (fun k => by unfold qSf; omega)]; exact hC k) hg.2 k2 (fun z' hz' => hz z' (List.mem_cons_of_mem _ hz')) (fun m' f' => hQ m' (f12.trans f'))
theorem c_worth {C E : Int → Int} {zs : List qCz} (l0 : 0 ≤ l) (l1 : l < m 6 6) (l6 : m 6 6 ≤ 6) (hn : m 14 l = (qlayL 0 zs).length) (h240 : (qlayL 0 zs).length ≤ 240) (hE : ∀ i, qbn (E i)) (hm : ∀ i, 0 ≤ i → i ≤ 7 → m 15 i = E i) (hC : ∀ k, m 7 (l * 1000 + k) = C k) (hg : qSeg C 0 (qlayL 0 zs)) (hz : ∀ z, z ∈ zs → qGz E z) (hQ : ∀ m', qFr qSf m m' → Q (qwz E zs) ((b0, b1, b2), m')) : bC xs 3 99 [vr 6, vi l] ((b0, b1, b2), m) Q := by
  refine qC rfl fun d hd => r_X7_worth_0 hd ?_
  refine ⟨by omega, fun h => by omega, fun _ => ⟨by omega, by omega, fun h => by omega, fun _ => ⟨by omega, by omega, by omega, by omega, by omega, ?_⟩⟩⟩
  rw [show min (m 14 l) 240 = m 14 l by omega]
  refine c_worthZ (C := C) (E := E) hd l0 (by omega) (by omega) hE zs 0 _ (by omega) (by omega) (fun i a b => by rw [qup_n (by omega)]; exact hm i a b) (fun k => by rw [qup_n (by omega)]; exact hC k) hg ⟨qup_s, trivial, by simp only [List.length_nil]; omega⟩ hz (fun m' f' => hQ m' ((qFr_up qFr.refl (by unfold qSf; omega)).trans f'))
end CWR
