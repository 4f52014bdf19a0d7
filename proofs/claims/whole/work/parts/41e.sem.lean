/-! B: what codes are worth -/
def qcu (x : Int) : Int := max (-1000000) (min 1000000 x)
def qop (c x y : Int) : Int := if c = -10 then qcu (x + y) else if c = -11 then qcu (x - y) else if c = -12 then qcu (x * y)
  else if c = -13 then qcu (if y = 0 then 0 else Int.tdiv x y) else if c = -14 then (if x = y then 1 else 0) else if c = -15 then (if x < y then 1 else 0)
  else if c = -16 then (if y < x then 1 else 0) else if c = -17 then lAnd x y else if c = -18 then lOrr x y else 0
abbrev qokk (c y x : Int) : Prop := (-1000000 ≤ y ∧ y ≤ 1000000 ∧ -1000000 ≤ x ∧ x ≤ 1000000) ∧ (-16 ≤ c ∨ ((y = 0 ∨ y = 1) ∧ (x = 0 ∨ x = 1)))
def qr2 (c x : Int) : List Int → Option (List Int)
  | [] => none
  | y :: st => if qokk c y x then some (qop c y x :: st) else none
def qr1 (E : Int → Int) (c : Int) (st : List Int) : Option (List Int) :=
  if 0 ≤ c then (if st.length < 64 ∧ c ≤ 1000000 then some (c :: st) else none)
  else if -9 ≤ c ∧ c ≤ -2 then (if st.length < 64 then some (E (-2 - c) :: st) else none)
  else match st with
    | [] => none
    | x :: st => if c = -19 then (if x = 0 ∨ x = 1 then some ((1 - x) :: st) else none) else if -18 ≤ c ∧ c ≤ -10 then qr2 c x st else none
def qRn (E : Int → Int) : List Int → List Int → Option (List Int)
  | [], st => some st
  | c :: l, st => (qr1 E c st).bind (qRn E l)
def qbn (v : Int) : Prop := -1000000 ≤ v ∧ v ≤ 1000000
def q01 (v : Int) : Prop := v = 0 ∨ v = 1
def qSem (E : Int → Int) (G : Int) (l : List Int) (v : Int) : Prop := ∀ st : List Int, (st.length : Int) + G ≤ 64 → qRn E l st = some (v :: st)
def qSeL (E : Int → Int) (G : Int) (l : List Int) (a v : Int) : Prop := ∀ st : List Int, (st.length : Int) + G ≤ 64 → qRn E l (a :: st) = some (v :: st)
def qva (E : Int → Int) (l st : List Int) : Int := ((qRn E l st).getD []).headD 0
def qGb (tag : Nat) : Int := match tag with | 0 => 1 | 1 => 2 | 2 => 2 | 3 => 3 | 4 => 3 | 5 => 4 | 10 => 4 | 6 => 5 | 7 => 5 | _ => 6
def qG (tag : Nat) (d : Int) : Int := qGb tag + 2 * (6 - d)
section SM
variable {E : Int → Int} {l l1 l2 : List Int} {G G1 G2 a b v w c op : Int}
theorem qcu_b (x : Int) : qbn (qcu x) := by unfold qbn qcu; omega
theorem qRn_app (l1 l2 st : List Int) : qRn E (l1 ++ l2) st = (qRn E l1 st).bind (qRn E l2) := by
  induction l1 generalizing st with
  | nil => rfl
  | cons c l ih =>
    rw [List.cons_append, qRn, qRn]
    cases qr1 E c st with
    | none => rfl
    | some s => exact ih s
theorem qva_s (h : qSem E G l v) (hG : G ≤ 64) : qva E l [] = v := by
  unfold qva
  rw [h [] (by simp only [List.length_nil]; omega)]
  rfl
theorem qva_l (h : qSeL E G l a v) (hG : G ≤ 64) : qva E l [a] = v := by
  unfold qva
  rw [h [] (by simp only [List.length_nil]; omega)]
  rfl
theorem qr1_op (hc : -18 ≤ op ∧ op ≤ -10) (hk : qokk op a b) (st : List Int) : qr1 E op (b :: a :: st) = some (qop op a b :: st) := by
  unfold qr1
  rw [if_neg (by omega), if_neg (by omega)]
  show (if op = -19 then _ else _) = _
  rw [if_neg (by omega), if_pos hc]
  show (if qokk op a b then some (qop op a b :: st) else none) = _
  exact if_pos hk
theorem qSem_s (h1 : qSem E G1 l1 a) (h2 : qSeL E G2 l2 a v) (g1 : G1 ≤ G) (g2 : G2 ≤ G) : qSem E G (l1 ++ l2) v := by
  intro st hs
  rw [qRn_app, h1 st (by omega)]
  exact h2 st (by omega)
theorem qSeL_s (h1 : qSeL E G1 l1 a b) (h2 : qSeL E G2 l2 b v) (g1 : G1 ≤ G) (g2 : G2 ≤ G) : qSeL E G (l1 ++ l2) a v := by
  intro st hs
  rw [qRn_app, h1 st (by omega)]
  exact h2 st (by omega)
theorem qSeL_o (hc : -18 ≤ op ∧ op ≤ -10) (hk : qokk op a b) (h1 : qSem E G1 l1 b) (h2 : qSeL E G2 l2 (qop op a b) v) (g1 : G1 + 1 ≤ G) (g2 : G2 ≤ G) : qSeL E G (l1 ++ (op :: l2)) a v := by
  intro st hs
  rw [qRn_app, h1 (a :: st) (by rw [List.length_cons]; omega)]
  show (qr1 E op (b :: a :: st)).bind (qRn E l2) = _
  rw [qr1_op hc hk]
  exact h2 st (by omega)
theorem qSeL_n (st : List Int) : qRn E [] st = some st := rfl
theorem qSeL_a (hc : -18 ≤ op ∧ op ≤ -10) (hk : qokk op a b) (h1 : qSem E G1 l1 b) (g1 : G1 + 1 ≤ G) : qSeL E G (l1 ++ [op]) a (qop op a b) :=
  qSeL_o (G2 := G) hc hk h1 (fun _ _ => rfl) g1 (Int.le_refl _)
theorem qSem_n (hb : q01 b) (h1 : qSem E G1 l1 b) (g1 : G1 ≤ G) : qSem E G (l1 ++ [-19]) (1 - b) := by
  intro st hs
  rw [qRn_app, h1 st (by omega)]
  show (if b = 0 ∨ b = 1 then some ((1 - b) :: st) else none).bind (qRn E []) = _
  rw [show (if b = 0 ∨ b = 1 then some ((1 - b) :: st) else none) = some ((1 - b) :: st) from if_pos hb]
  rfl
theorem qSem_le (h1 : qSem E G1 l1 b) (g1 : G1 ≤ G) : qSem E G l1 b := fun st hs => h1 st (by omega)
theorem qSeL_le (h1 : qSeL E G1 l1 a b) (g1 : G1 ≤ G) : qSeL E G l1 a b := fun st hs => h1 st (by omega)
theorem qSem_num (hc : 0 ≤ c) (hc2 : c ≤ 1000000) (g : 1 ≤ G) : qSem E G [c] c := by
  intro st hs
  show (qr1 E c st).bind _ = _
  unfold qr1
  rw [if_pos hc, if_pos ⟨by omega, hc2⟩]
  rfl
theorem qSem_let (h0 : 0 ≤ c) (h1 : c ≤ 7) (g : 1 ≤ G) : qSem E G [-2 - c] (E c) := by
  intro st hs
  show (qr1 E (-2 - c) st).bind _ = _
  unfold qr1
  rw [if_neg (by omega), if_pos (by omega), if_pos (by omega), show -2 - (-2 - c) = c by omega]
  rfl
theorem qop_b (hc : -13 ≤ op ∧ op ≤ -10) : qbn (qop op a b) := by
  unfold qop
  repeat' split
  all_goals first | exact qcu_b _ | omega
theorem qop_c (hc : -16 ≤ op ∧ op ≤ -14) : q01 (qop op a b) := by
  unfold qop q01
  repeat' split
  all_goals omega
theorem qop_and (ha : q01 a) (hb : q01 b) : qop (-17) a b = (if a = 0 then 0 else if b = 0 then 0 else 1) := by
  unfold q01 at ha hb
  rcases ha with rfl | rfl <;> rcases hb with rfl | rfl <;> decide
theorem qop_or (ha : q01 a) (hb : q01 b) : qop (-18) a b = (if a = 0 then (if b = 0 then 0 else 1) else 1) := by
  unfold q01 at ha hb
  rcases ha with rfl | rfl <;> rcases hb with rfl | rfl <;> decide
theorem qop_l (hc : op = -17 ∨ op = -18) (ha : q01 a) (hb : q01 b) : q01 (qop op a b) := by
  rcases hc with rfl | rfl
  · rw [qop_and ha hb]; unfold q01; repeat' split
    all_goals omega
  · rw [qop_or ha hb]; unfold q01; repeat' split
    all_goals omega
/-- what reading gives can be reckoned -/
def qkd (tag : Nat) (v : Int) : Prop := if tag ≤ 4 then qbn v else q01 v
def qPse (E : Int → Int) (tag : Nat) (d : Int) (l : List Int) : Prop :=
  if tag = 2 ∨ tag = 4 then ∀ a, qbn a → ∃ v, qbn v ∧ qSeL E (qG tag d) l a v
  else if tag = 7 ∨ tag = 9 then ∀ a, q01 a → ∃ v, q01 v ∧ qSeL E (qG tag d) l a v
  else if tag = 10 then ∀ a, qbn a → ∃ v, q01 v ∧ qSeL E (qG tag d) l a v
  else ∃ v, qkd tag v ∧ qSem E (qG tag d) l v
theorem qE_sem {B : Int → Int} {L : Int} (ht : qTp L B) (hE : ∀ i, qbn (E i)) : ∀ (n tag : Nat) (d p : Int), d ≤ 6 → 0 ≤ p → p ≤ L → (qE B L n tag d p).1 = -1 → qPse E tag d (qE B L n tag d p).2.1 := by
  intro n
  induction n with
  | zero => intro tag d p hd p0 p1 h; exact absurd h (by show ¬ (-2 : Int) = -1; decide)
  | succ n ih =>
    intro tag d p hd p0 p1 h
    have k1 := qsk_bd (B := B) p p1
    have kc := qpk_c ht p0 p1
    have ih0 : ∀ d p, d ≤ 6 → 0 ≤ p → p ≤ L → (qE B L n 0 d p).1 = -1 → ∃ v, qbn v ∧ qSem E (qG 0 d) (qE B L n 0 d p).2.1 v := fun d p hd a b h => ih 0 d p hd a b h
    have ih1 : ∀ d p, d ≤ 6 → 0 ≤ p → p ≤ L → (qE B L n 1 d p).1 = -1 → ∃ v, qbn v ∧ qSem E (qG 1 d) (qE B L n 1 d p).2.1 v := fun d p hd a b h => ih 1 d p hd a b h
    have ih3 : ∀ d p, d ≤ 6 → 0 ≤ p → p ≤ L → (qE B L n 3 d p).1 = -1 → ∃ v, qbn v ∧ qSem E (qG 3 d) (qE B L n 3 d p).2.1 v := fun d p hd a b h => ih 3 d p hd a b h
    have ih5 : ∀ d p, d ≤ 6 → 0 ≤ p → p ≤ L → (qE B L n 5 d p).1 = -1 → ∃ v, q01 v ∧ qSem E (qG 5 d) (qE B L n 5 d p).2.1 v := fun d p hd a b h => ih 5 d p hd a b h
    have ih6 : ∀ d p, d ≤ 6 → 0 ≤ p → p ≤ L → (qE B L n 6 d p).1 = -1 → ∃ v, q01 v ∧ qSem E (qG 6 d) (qE B L n 6 d p).2.1 v := fun d p hd a b h => ih 6 d p hd a b h
    have ih8 : ∀ d p, d ≤ 6 → 0 ≤ p → p ≤ L → (qE B L n 8 d p).1 = -1 → ∃ v, q01 v ∧ qSem E (qG 8 d) (qE B L n 8 d p).2.1 v := fun d p hd a b h => ih 8 d p hd a b h
    have ih2 : ∀ d p, d ≤ 6 → 0 ≤ p → p ≤ L → (qE B L n 2 d p).1 = -1 → ∀ a, qbn a → ∃ v, qbn v ∧ qSeL E (qG 2 d) (qE B L n 2 d p).2.1 a v := fun d p hd a b h => ih 2 d p hd a b h
    have ih4 : ∀ d p, d ≤ 6 → 0 ≤ p → p ≤ L → (qE B L n 4 d p).1 = -1 → ∀ a, qbn a → ∃ v, qbn v ∧ qSeL E (qG 4 d) (qE B L n 4 d p).2.1 a v := fun d p hd a b h => ih 4 d p hd a b h
    have ih7 : ∀ d p, d ≤ 6 → 0 ≤ p → p ≤ L → (qE B L n 7 d p).1 = -1 → ∀ a, q01 a → ∃ v, q01 v ∧ qSeL E (qG 7 d) (qE B L n 7 d p).2.1 a v := fun d p hd a b h => ih 7 d p hd a b h
    have ih9 : ∀ d p, d ≤ 6 → 0 ≤ p → p ≤ L → (qE B L n 9 d p).1 = -1 → ∀ a, q01 a → ∃ v, q01 v ∧ qSeL E (qG 9 d) (qE B L n 9 d p).2.1 a v := fun d p hd a b h => ih 9 d p hd a b h
    have ih10 : ∀ d p, d ≤ 6 → 0 ≤ p → p ≤ L → (qE B L n 10 d p).1 = -1 → ∀ a, qbn a → ∃ v, q01 v ∧ qSeL E (qG 10 d) (qE B L n 10 d p).2.1 a v := fun d p hd a b h => ih 10 d p hd a b h
    have gs : ∀ d, qG 0 d = 1 + 2 * (6 - d) ∧ qG 1 d = 2 + 2 * (6 - d) ∧ qG 2 d = 2 + 2 * (6 - d) ∧ qG 3 d = 3 + 2 * (6 - d) ∧ qG 4 d = 3 + 2 * (6 - d) ∧ qG 5 d = 4 + 2 * (6 - d) ∧ qG 10 d = 4 + 2 * (6 - d) ∧ qG 6 d = 5 + 2 * (6 - d) ∧ qG 7 d = 5 + 2 * (6 - d) ∧ qG 8 d = 6 + 2 * (6 - d) ∧ qG 9 d = 6 + 2 * (6 - d) := fun d => ⟨rfl, rfl, rfl, rfl, rfl, rfl, rfl, rfl, rfl, rfl, rfl⟩
    have gd := gs d
    have gd1 := gs (d + 1)
    have es : ∀ (r : qLr) (k : Int → qLr), (qEs r k).1 = -1 → r.1 = -1 ∧ (k r.2.2).1 = -1 ∧ (qEs r k).2.1 = r.2.1 ++ (k r.2.2).2.1 := by
      intro r k h
      unfold qEs at h ⊢
      by_cases h1 : r.1 = -1
      · rw [if_pos h1] at h ⊢
        by_cases h2 : (k r.2.2).1 = -1
        · rw [if_pos h2]; exact ⟨h1, h2, rfl⟩
        · rw [if_neg h2] at h; exact absurd h h2
      · rw [if_neg h1] at h; exact absurd h h1
    have eo : ∀ (r : qLr) (op : Int) (k : Int → qLr), (qEo r op k).1 = -1 → r.1 = -1 ∧ (k r.2.2).1 = -1 ∧ (qEo r op k).2.1 = r.2.1 ++ (op :: (k r.2.2).2.1) := by
      intro r op k h
      unfold qEo at h ⊢
      by_cases h1 : r.1 = -1
      · rw [if_pos h1] at h ⊢
        by_cases h2 : (k r.2.2).1 = -1
        · rw [if_pos h2]; exact ⟨h1, h2, rfl⟩
        · rw [if_neg h2] at h; exact absurd h h2
      · rw [if_neg h1] at h; exact absurd h h1
    have ea : ∀ (r : qLr) (op : Int), (qEa r op).1 = -1 → r.1 = -1 ∧ (qEa r op).2.1 = r.2.1 ++ [op] := by
      intro r op h
      unfold qEa at h ⊢
      by_cases h1 : r.1 = -1
      · rw [if_pos h1]; exact ⟨h1, rfl⟩
      · rw [if_neg h1] at h; exact absurd h h1
    change (qEB B L (qE B L n) tag d p).1 = -1 at h
    show qPse E tag d (qEB B L (qE B L n) tag d p).2.1
    have hp : ¬ qsk B L p = -1 := by omega
    have bd : ∀ (t : Nat) (d' q : Int), 0 ≤ q → q ≤ L → (qE B L n t d' q).1 = -1 → 0 ≤ (qE B L n t d' q).2.2 ∧ (qE B L n t d' q).2.2 ≤ L := by
      intro t d' q q0 q1 hh
      have := qE_ok ht n t d' q q0 q1
      unfold qEok at this
      have : qlw t = 0 ∨ qlw t = 1 := by unfold qlw; split <;> simp
      omega
    have eb : ∀ (t : Nat) (d' q c : Int), 0 ≤ q → q ≤ L → (qEb B L c (qE B L n t d' q)).1 = -1 → (qE B L n t d' q).1 = -1 ∧ (qEb B L c (qE B L n t d' q)).2.1 = (qE B L n t d' q).2.1 := by
      intro t d' q c q0 q1 hh
      unfold qEb at hh ⊢
      by_cases h1 : (qE B L n t d' q).1 = -1
      · have hb := bd t d' q q0 q1 h1
        have kk := qsk_bd (B := B) (qE B L n t d' q).2.2 hb.2
        rw [if_pos h1] at hh ⊢
        by_cases h2 : qpk B L (qE B L n t d' q).2.2 = c
        · rw [if_pos h2]; exact ⟨h1, rfl⟩
        · rw [if_neg h2] at hh
          dsimp only at hh
          omega
      · rw [if_neg h1] at hh; exact absurd hh h1
    unfold qEB at h ⊢
    split at h
    · show ∃ v, qbn v ∧ qSem E (qG 0 d) _ v
      unfold qEat at h ⊢
      by_cases h91 : qpk B L p = 91
      · rw [if_pos h91] at h ⊢
        by_cases h6 : 6 ≤ d
        · rw [if_pos h6] at h; exact absurd h hp
        · rw [if_neg h6] at h ⊢
          obtain ⟨h1, e1⟩ := eb 3 (d + 1) (qsk B L p + 1) 93 (by omega) (by omega) h
          obtain ⟨v, hv, hs⟩ := ih3 (d + 1) (qsk B L p + 1) (by omega) (by omega) (by omega) h1
          rw [e1]
          exact ⟨v, hv, qSem_le hs (by omega)⟩
      · rw [if_neg h91] at h ⊢
        by_cases hdg : 48 ≤ qpk B L p ∧ qpk B L p ≤ 57
        · rw [if_pos hdg] at h ⊢
          have hn := qnum_ok (B := B) (L := L) (n := 4) (p := p) (lo := 0) (hi := 9999) p1 p0
          by_cases h1 : (qnum B L 4 p 0 9999).1 = -1
          · rw [if_pos h1]
            have : 0 ≤ (qnum B L 4 p 0 9999).2.1 ∧ (qnum B L 4 p 0 9999).2.1 ≤ 9999 := by omega
            exact ⟨(qnum B L 4 p 0 9999).2.1, by unfold qbn; omega, qSem_num this.1 (by omega) (by omega)⟩
          · rw [if_neg h1] at h; exact absurd h h1
        · rw [if_neg hdg] at h ⊢
          have hl := qlet_v (qpk B L p)
          by_cases h1 : qlet (qpk B L p) = -1
          · rw [if_pos h1] at h; exact absurd h hp
          · rw [if_neg h1]
            exact ⟨E (qlet (qpk B L p)), hE _, qSem_let (by omega) (by omega) (by omega)⟩
    · show ∃ v, qbn v ∧ qSem E (qG 1 d) _ v
      obtain ⟨h1, h2, e⟩ := es _ _ h
      obtain ⟨a, ha, sa⟩ := ih0 d p hd p0 p1 h1
      obtain ⟨v, hv, sv⟩ := ih2 d _ hd (bd 0 d p p0 p1 h1).1 (bd 0 d p p0 p1 h1).2 h2 a ha
      rw [e]
      exact ⟨v, hv, qSem_s sa sv (by omega) (by omega)⟩
    · show ∀ a, qbn a → ∃ v, qbn v ∧ qSeL E (qG 2 d) _ a v
      intro a ha
      by_cases hc : qpk B L p = 42 ∨ qpk B L p = 47
      · rw [if_pos hc] at h ⊢
        obtain ⟨h1, h2, e⟩ := eo _ _ _ h
        obtain ⟨x, hx, sx⟩ := ih0 d _ hd (by omega) (by omega) h1
        have hop : -13 ≤ (if qpk B L p = 42 then (-12 : Int) else -13) ∧ (if qpk B L p = 42 then (-12 : Int) else -13) ≤ -10 := by split <;> omega
        obtain ⟨v, hv, sv⟩ := ih2 d _ hd (bd 0 d _ (by omega) (by omega) h1).1 (bd 0 d _ (by omega) (by omega) h1).2 h2 _ (qop_b (a := a) (b := x) hop)
        rw [e]
        exact ⟨v, hv, qSeL_o (by omega) (by unfold qokk; unfold qbn at ha hx; omega) sx sv (by omega) (by omega)⟩
      · rw [if_neg hc]
        exact ⟨a, ha, fun _ _ => rfl⟩
    · show ∃ v, qbn v ∧ qSem E (qG 3 d) _ v
      obtain ⟨h1, h2, e⟩ := es _ _ h
      obtain ⟨a, ha, sa⟩ := ih1 d p hd p0 p1 h1
      obtain ⟨v, hv, sv⟩ := ih4 d _ hd (bd 1 d p p0 p1 h1).1 (bd 1 d p p0 p1 h1).2 h2 a ha
      rw [e]
      exact ⟨v, hv, qSem_s sa sv (by omega) (by omega)⟩
    · show ∀ a, qbn a → ∃ v, qbn v ∧ qSeL E (qG 4 d) _ a v
      intro a ha
      by_cases hc : qpk B L p = 43 ∨ qpk B L p = 45
      · rw [if_pos hc] at h ⊢
        obtain ⟨h1, h2, e⟩ := eo _ _ _ h
        obtain ⟨x, hx, sx⟩ := ih1 d _ hd (by omega) (by omega) h1
        have hop : -13 ≤ (if qpk B L p = 43 then (-10 : Int) else -11) ∧ (if qpk B L p = 43 then (-10 : Int) else -11) ≤ -10 := by split <;> omega
        obtain ⟨v, hv, sv⟩ := ih4 d _ hd (bd 1 d _ (by omega) (by omega) h1).1 (bd 1 d _ (by omega) (by omega) h1).2 h2 _ (qop_b (a := a) (b := x) hop)
        rw [e]
        exact ⟨v, hv, qSeL_o (by omega) (by unfold qokk; unfold qbn at ha hx; omega) sx sv (by omega) (by omega)⟩
      · rw [if_neg hc]
        exact ⟨a, ha, fun _ _ => rfl⟩
    · show ∃ v, q01 v ∧ qSem E (qG 5 d) _ v
      unfold qEun at h ⊢
      by_cases h33 : qpk B L p = 33
      · rw [if_pos h33] at h ⊢
        by_cases h6 : 6 ≤ d
        · rw [if_pos h6] at h; exact absurd h hp
        · rw [if_neg h6] at h ⊢
          obtain ⟨h1, e⟩ := ea _ _ h
          obtain ⟨v, hv, sv⟩ := ih5 (d + 1) _ (by omega) (by omega) (by omega) h1
          rw [e]
          exact ⟨1 - v, by unfold q01 at *; omega, qSem_n hv sv (by omega)⟩
      · rw [if_neg h33] at h ⊢
        by_cases h40 : qpk B L p = 40
        · rw [if_pos h40] at h ⊢
          by_cases h6 : 6 ≤ d
          · rw [if_pos h6] at h; exact absurd h hp
          · rw [if_neg h6] at h ⊢
            obtain ⟨h1, e1⟩ := eb 8 (d + 1) (qsk B L p + 1) 41 (by omega) (by omega) h
            obtain ⟨v, hv, hs⟩ := ih8 (d + 1) (qsk B L p + 1) (by omega) (by omega) (by omega) h1
            rw [e1]
            exact ⟨v, hv, qSem_le hs (by omega)⟩
        · rw [if_neg h40] at h ⊢
          obtain ⟨h1, h2, e⟩ := es _ _ h
          obtain ⟨a, ha, sa⟩ := ih3 d p hd p0 p1 h1
          obtain ⟨v, hv, sv⟩ := ih10 d _ hd (bd 3 d p p0 p1 h1).1 (bd 3 d p p0 p1 h1).2 h2 a ha
          rw [e]
          exact ⟨v, hv, qSem_s sa sv (by omega) (by omega)⟩
    · show ∃ v, q01 v ∧ qSem E (qG 6 d) _ v
      obtain ⟨h1, h2, e⟩ := es _ _ h
      obtain ⟨a, ha, sa⟩ := ih5 d p hd p0 p1 h1
      obtain ⟨v, hv, sv⟩ := ih7 d _ hd (bd 5 d p p0 p1 h1).1 (bd 5 d p p0 p1 h1).2 h2 a ha
      rw [e]
      exact ⟨v, hv, qSem_s sa sv (by omega) (by omega)⟩
    · show ∀ a, q01 a → ∃ v, q01 v ∧ qSeL E (qG 7 d) _ a v
      intro a ha
      by_cases hc : qpk B L p = 38
      · rw [if_pos hc] at h ⊢
        obtain ⟨h1, h2, e⟩ := eo _ _ _ h
        obtain ⟨x, hx, sx⟩ := ih5 d _ hd (by omega) (by omega) h1
        obtain ⟨v, hv, sv⟩ := ih7 d _ hd (bd 5 d _ (by omega) (by omega) h1).1 (bd 5 d _ (by omega) (by omega) h1).2 h2 _ (qop_l (Or.inl rfl) ha hx)
        rw [e]
        exact ⟨v, hv, qSeL_o (by omega) (by unfold qokk; unfold q01 at ha hx; omega) sx sv (by omega) (by omega)⟩
      · rw [if_neg hc]
        exact ⟨a, ha, fun _ _ => rfl⟩
    · show ∃ v, q01 v ∧ qSem E (qG 8 d) _ v
      obtain ⟨h1, h2, e⟩ := es _ _ h
      obtain ⟨a, ha, sa⟩ := ih6 d p hd p0 p1 h1
      obtain ⟨v, hv, sv⟩ := ih9 d _ hd (bd 6 d p p0 p1 h1).1 (bd 6 d p p0 p1 h1).2 h2 a ha
      rw [e]
      exact ⟨v, hv, qSem_s sa sv (by omega) (by omega)⟩
    · show ∀ a, q01 a → ∃ v, q01 v ∧ qSeL E (qG 9 d) _ a v
      intro a ha
      by_cases hc : qpk B L p = 124
      · rw [if_pos hc] at h ⊢
        obtain ⟨h1, h2, e⟩ := eo _ _ _ h
        obtain ⟨x, hx, sx⟩ := ih6 d _ hd (by omega) (by omega) h1
        obtain ⟨v, hv, sv⟩ := ih9 d _ hd (bd 6 d _ (by omega) (by omega) h1).1 (bd 6 d _ (by omega) (by omega) h1).2 h2 _ (qop_l (Or.inr rfl) ha hx)
        rw [e]
        exact ⟨v, hv, qSeL_o (by omega) (by unfold qokk; unfold q01 at ha hx; omega) sx sv (by omega) (by omega)⟩
      · rw [if_neg hc]
        exact ⟨a, ha, fun _ _ => rfl⟩
    · show ∀ a, qbn a → ∃ v, q01 v ∧ qSeL E (qG 10 d) _ a v
      intro a ha
      have hv := qcmp_v (qpk B L p)
      by_cases hc : qcmp (qpk B L p) = -1
      · rw [if_pos hc] at h; exact absurd h hp
      · rw [if_neg hc] at h ⊢
        obtain ⟨h1, e⟩ := ea _ _ h
        obtain ⟨x, hx, sx⟩ := ih3 d _ hd (by omega) (by omega) h1
        rw [e]
        exact ⟨_, qop_c (by omega), qSeL_a (by omega) (by unfold qokk; unfold qbn at ha hx; omega) sx (by omega)⟩
    · exact absurd h (by show ¬ (-2 : Int) = -1; decide)
end SM
