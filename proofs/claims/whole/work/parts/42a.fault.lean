/-! B: fault, on both sides -/
def qlc (i : Int) : Int := if i = 0 then 118 else if i = 1 then 107 else if i = 2 then 115 else if i = 3 then 100 else if i = 4 then 110 else if i = 5 then 112 else if i = 6 then 99 else 105
theorem qlc_let (c : Int) (h : ¬ qlet c = -1) : qlc (qlet c) = c := by
  unfold qlet at *
  unfold qlc
  repeat' split at h
  all_goals first | omega | (simp; omega) | (subst_vars; rfl) | (exact absurd rfl h)
/-- what fault answers -/
def qFa (m : Nat → Int → Int) (B : Int → Int) (L x a : Int) : Prop := ((x < 0 ∨ 2 < x) ∧ a = -2) ∨ (x = 0 ∧ ∃ σ0, qRl σ0 ∧ qMo0 m σ0 ∧ a = (qWL B L 240 σ0 0).1) ∨ (x = 1 ∧ a = (qLw B L 2440 240 0).1) ∨ (x = 2 ∧ a = (qBrd B L).1)
def qFfc (w : Nat) (c : Int) (a : Nat) (k : Int) : Prop := qFrd w a k ∨ qLg a k ∨ (a = 25 ∧ c * 1000 ≤ k) ∨ (a = 31 ∧ k = c)
def qFfm (a : Nat) (k : Int) : Prop := qFwm a k ∨ (a = 133 ∧ 48 ≤ k) ∨ (a = 134 ∧ k = 4) ∨ (a = 120 ∧ (k = 0 ∨ (8 ≤ k ∧ k ≤ 17)))
section FLT
variable {xs : List Int32} {d : Nat} {Q : bPo} {b b0 b1 b2 : Bool} {m : Nat → Int → Int} {nT nH : Int} {T P E U N : Int → Int} {t s h k : Int}
variable {B : Int → Int} {L x : Int}
theorem c_fault {c : Int} (ht : qTp L B) (hc : qTc m L B) (hcnt : m 24 2 = c) (c0 : 0 ≤ c ∧ c ≤ 4) (hx : inR x) (hQ : ∀ a m', qFr (qFfc (bW b1) c) m m' → qFa m B L x a → Q a ((b0, b1, b2), m')) : bC xs 245 129 [vr 0, vi x] ((b0, b1, b2), m) Q := by
  refine qC rfl fun d hd => r_X11_fault_0 hd ?_
  refine ⟨hx, fun h => hQ _ m qFr.refl (Or.inl ⟨h, rfl⟩), fun h => c_readWill ht hc ?_, fun h => c_readLaw ht hc ?_, fun h => c_readBeg ht hc hcnt c0 ?_, trivial⟩
  · intro σ0 m' r0 mo fr _
    exact ⟨rfl, hQ _ m' (fr.mono (fun a k h => Or.inl h)) (Or.inr (Or.inl ⟨h, σ0, r0, mo, rfl⟩))⟩
  · intro m' fr _
    exact ⟨rfl, hQ _ m' (fr.mono (fun a k h => Or.inr (Or.inl h))) (Or.inr (Or.inr (Or.inl ⟨by omega, rfl⟩)))⟩
  · intro m' fr _
    refine ⟨rfl, hQ _ m' (fr.mono (fun a k h => ?_)) (Or.inr (Or.inr (Or.inr ⟨by omega, rfl⟩)))⟩
    rcases h with h | h | h
    · refine Or.inr (Or.inl ?_)
      unfold qLg
      omega
    · exact Or.inr (Or.inr (Or.inl h))
    · exact Or.inr (Or.inr (Or.inr h))
theorem d_fault {a : Int} (ht : qTp L B) (hc : qTm m L B) (hl : ∀ k, qbn (m 124 k)) (hx : inR x) (ha : qFa m B L x a) (hQ : ∀ b2' m', qFr qFfm m m' → Q a ((b0, b1, b2'), m')) : bC xs 250 206 [vr 120, vi x] ((b0, b1, b2), m) Q := by
  refine qC rfl fun d hd => r_X12_fault_0 hd ?_
  have hb := ht.1
  have f0 : qFr qFfm m (up m 120 0 0) := qFr_up qFr.refl (by unfold qFfm; omega)
  have hc0 : qTm (up m 120 0 0) L B := ⟨by rw [qup_o (by omega)]; exact hc.1, fun k a b => by rw [qup_n (by omega)]; exact hc.2 k a b⟩
  unfold qFa at ha
  refine ⟨hx, by omega, fun h => ?_, fun h => ⟨by omega, fun h2 => ?_, fun h2 => ⟨hx, fun n0 => ⟨hx, fun n1 => ⟨hx, fun n2 => by omega, fun n2 => ?_⟩, fun n1 => ?_⟩, fun n0 => ?_⟩⟩⟩
  · rw [show a = -2 by omega] at hQ; exact hQ _ _ f0
  · rw [show a = -2 by omega] at hQ; exact hQ _ _ f0
  · have ea : a = (qBrd B L).1 := by omega
    refine d_readRow ht hc0 (fun m' fr e11 _ => ⟨⟨rfl, rfl⟩, ?_⟩)
    dsimp only
    rw [e11, ← ea]
    exact hQ _ m' (f0.trans (fr.mono (fun a k h => by unfold qFfm; omega)))
  · have ea : a = (qLw B L 2440 240 0).1 := by omega
    rw [show m 120 6 = L from hc.1]
    refine d_goA (E := fun i => m 124 (qlc i)) ht (fun i => hl _) (by omega) (fun k a b => by rw [Int.zero_add]; exact hc0.2 k a b) (fun c h => ?_) (fun m' fr h1 h2 => ⟨⟨rfl, rfl⟩, hx, fun _ => ?_, fun h => by omega⟩)
    · try dsimp only
      rw [qlc_let c h, qup_n (by omega)]
    · try dsimp only
      have e11 : m' 120 11 = a := by
        by_cases ok : (qLw B L 2440 240 0).1 = -1
        · rw [(h1 ok).1, ea, ok]
        · rw [h2 ok, ea]
      rw [e11]
      exact hQ _ m' (f0.trans (fr.mono (fun a k h => by unfold qLn at h; unfold qFfm; omega)))
  · obtain ⟨σ0, r0, mo, ea⟩ : ∃ σ0, qRl σ0 ∧ qMo0 m σ0 ∧ a = (qWL B L 240 σ0 0).1 := by
      rcases ha with h | h | h | h
      · omega
      · exact h.2
      · omega
      · omega
    have mo0 : qMo0 (up m 120 0 0) σ0 := by
      unfold qMo0 at mo ⊢
      rw [qup_n (by omega), qup_n (by omega), qup_n (by omega), qup_n (by omega)]
      exact mo
    refine d_readWill ht hc0 σ0 r0 mo0 (fun m' fr e11 _ => ⟨⟨rfl, rfl⟩, hx, fun _ => ⟨hx, fun _ => ?_, fun h => by omega⟩, fun h => by omega⟩)
    dsimp only
    rw [e11, ← ea]
    exact hQ _ m' (f0.trans (fr.mono (fun a k h => Or.inl h)))
end FLT
