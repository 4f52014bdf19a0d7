/-! THING -/
def qth (T N : Int → Int) (t k : Int) : Int := if k = 0 then T (4 * t) else if k = 1 then T (4 * t + 1) else if k = 2 then N (6 * t) else if k = 3 then T (4 * t + 3) else if k = 4 then N (6 * t + 1) else if k = 5 then N (6 * t + 2) else if k = 6 then N (6 * t + 3) else if k = 7 then N (6 * t + 4) else N (6 * t + 5)
def qtg (nT t k : Int) : Prop := (0 ≤ t ∧ t < nT) ∧ 0 ≤ k ∧ k ≤ 8
set_option maxRecDepth 100000 in
theorem r_X12_thrown_0 {xs : List Int32} {d : Nat} {Q : bPo} (hd : 1 ≤ d) {b0 b1 b2 : Bool} {m : Nat → Int → Int}
    (H : Q (m 120 0) ((b0, b1, b2), m)) :
    bGo xs d aM_X12_thrown 0 [vr 120] [] ((b0, b1, b2), m) Q := by
  exact wX_sound (rk := bRk) (mo := bMo) (stops := []) (inl := []) (f := 400) hd H
section CTH
variable {xs : List Int32} {d : Nat} {Q : bPo} {b b0 b1 b2 : Bool} {m : Nat → Int → Int} {nT nH : Int} {T P E U N : Int → Int} {t s h k : Int}
variable {D : qD}
theorem qth_inR (hW : qWF nT nH T P E U N) (hM : qMR m nT nH T P E U N) (hc : qtg nT t k) : inR (qth T N t k) := by
  have wn := qw_n hW
  have w1 := qw_t hW hc.1.1 hc.1.2
  have w2 := (qw_nw hW).1 t hc.1.1 hc.1.2
  unfold qth inR
  repeat' split
  all_goals omega
theorem c_thingT (hW : qWF nT nH T P E U N) (hE : qER m (bW b0) nT nH T P E U N) (x1 : inR t) (x2 : inR k) (hc : qtg nT t k) (hQ : Q (qth T N t k) ((b0, b1, b2), m)) (hd : 400 ≤ d) : bGo xs d aM_X11_thing 0 [vr 0, vi t, vi k] [] ((b0, b1, b2), m) Q := by
  have wn := qw_n hW
  obtain ⟨⟨⟨e9, e10⟩, eT, _⟩, eL, _⟩ := hE
  obtain ⟨⟨t0, t1⟩, k0, k1⟩ := hc
  obtain ⟨u1, u2, u3⟩ := eT t t0 t1
  obtain ⟨l1, l2, l3, l4, l5, l6⟩ := eL t t0 t1
  refine r_X11_thing_0 hd (qC rfl fun d2 hd2 => r_X4_hasThing_0 hd2 ?_)
  refine ⟨x1, fun h => by omega, fun _ => ⟨x1, by rw [e9]; unfold inR; omega, fun h => by omega, fun _ => ⟨rfl, by unfold inR; omega, fun _ => ?_, fun h => by omega⟩⟩⟩
  dsimp only
  unfold qth at hQ
  refine ⟨x2, fun h => by omega, fun h => ⟨by omega, ?_⟩, fun h => ⟨by omega, ?_⟩, fun h => ⟨by omega, ?_⟩, fun h => ⟨by omega, ?_⟩, fun h => ⟨by omega, ?_⟩, fun h => ⟨by omega, ?_⟩, fun h => ⟨by omega, ?_⟩, fun h => ⟨by omega, ?_⟩, fun h => ⟨by omega, ?_⟩, trivial⟩
  · rw [if_pos h] at hQ
    rw [u1]
    exact hQ
  · rw [if_neg (by omega), if_pos (by omega)] at hQ
    rw [u2]
    exact hQ
  · rw [if_neg (by omega), if_neg (by omega), if_pos (by omega)] at hQ
    rw [l1]
    exact hQ
  · rw [if_neg (by omega), if_neg (by omega), if_neg (by omega), if_pos (by omega)] at hQ
    rw [u3]
    exact hQ
  · rw [if_neg (by omega), if_neg (by omega), if_neg (by omega), if_neg (by omega), if_pos (by omega)] at hQ
    rw [l3]
    exact hQ
  · rw [if_neg (by omega), if_neg (by omega), if_neg (by omega), if_neg (by omega), if_neg (by omega), if_pos (by omega)] at hQ
    rw [l4]
    exact hQ
  · rw [if_neg (by omega), if_neg (by omega), if_neg (by omega), if_neg (by omega), if_neg (by omega), if_neg (by omega), if_pos (by omega)] at hQ
    rw [l2]
    exact hQ
  · rw [if_neg (by omega), if_neg (by omega), if_neg (by omega), if_neg (by omega), if_neg (by omega), if_neg (by omega), if_neg (by omega), if_pos (by omega)] at hQ
    rw [l5]
    exact hQ
  · rw [if_neg (by omega), if_neg (by omega), if_neg (by omega), if_neg (by omega), if_neg (by omega), if_neg (by omega), if_neg (by omega), if_neg (by omega)] at hQ
    rw [l6]
    exact hQ
theorem d_thing (hW : qWF nT nH T P E U N) (hM : qMR m nT nH T P E U N) (x1 : inR t) (x2 : inR k) (hn : ¬ qtg nT t k → Q 0 ((b0, b1, b2), up m 120 0 1)) (hy : qtg nT t k → Q (qth T N t k) ((b0, b1, b2), up m 120 0 0)) : bC xs 2 216 [vr 120, vi t, vi k] ((b0, b1, b2), m) Q := by
  have wn := qw_n hW
  obtain ⟨c1, c2, c3, c4, c5, c6, c7⟩ := hM
  refine qC rfl fun d hd => r_X12_thing_0 hd ?_
  rw [c1, c3, c7]
  unfold qtg at hn hy
  have i1 : inR 1 := by unfold inR; omega
  have i0 : inR 0 := by unfold inR; omega
  have xl : inL k := by unfold inL; unfold inR at x2; omega
  refine ⟨x1, fun h => ⟨i1, fun h => by omega, fun _ => hn (by omega)⟩, fun t0 => ⟨x1, by unfold inR; omega, fun h => ⟨i1, fun h => by omega, fun _ => hn (by omega)⟩, fun t1 => ⟨x2, xl, fun h => ⟨i1, fun h => by omega, fun _ => hn (by omega)⟩, fun k0 => ⟨xl, fun h => ⟨i1, fun h => by omega, fun _ => hn (by omega)⟩, fun k1 => ⟨i0, fun _ => ?_, fun h => by omega⟩⟩⟩⟩⟩
  have hQ := hy ⟨⟨t0, t1⟩, k0, k1⟩
  unfold qth at hQ
  refine ⟨x2, fun h => ⟨by omega, ?_⟩, fun h => ⟨by omega, ?_⟩, fun h => ⟨by omega, ?_⟩, fun h => ⟨by omega, ?_⟩, fun h => ⟨by omega, ?_⟩, fun h => ⟨by omega, ?_⟩, fun h => ⟨by omega, ?_⟩, fun h => ⟨by omega, ?_⟩, trivial⟩
  · rw [if_neg (by omega), if_neg (by omega), if_neg (by omega), if_neg (by omega), if_neg (by omega), if_neg (by omega), if_neg (by omega)] at hQ
    by_cases e : k = 7
    · rw [if_pos e] at hQ
      rw [show 6 * t + k - 3 = 6 * t + 4 by omega]
      exact hQ
    · rw [if_neg e] at hQ
      rw [show 6 * t + k - 3 = 6 * t + 5 by omega]
      exact hQ
  · rw [if_pos h] at hQ
    rw [show 4 * t + k = 4 * t by omega]
    exact hQ
  · rw [if_neg (by omega), if_pos (by omega)] at hQ
    rw [show 4 * t + k = 4 * t + 1 by omega]
    exact hQ
  · rw [if_neg (by omega), if_neg (by omega), if_pos (by omega)] at hQ
    exact hQ
  · rw [if_neg (by omega), if_neg (by omega), if_neg (by omega), if_pos (by omega)] at hQ
    exact hQ
  · rw [if_neg (by omega), if_neg (by omega), if_neg (by omega), if_neg (by omega), if_pos (by omega)] at hQ
    exact hQ
  · rw [if_neg (by omega), if_neg (by omega), if_neg (by omega), if_neg (by omega), if_neg (by omega), if_pos (by omega)] at hQ
    exact hQ
  · rw [if_neg (by omega), if_neg (by omega), if_neg (by omega), if_neg (by omega), if_neg (by omega), if_neg (by omega), if_pos (by omega)] at hQ
    exact hQ
end CTH
