/-! ALL CASES -/
def qF15 (a : Nat) (k : Int) : Prop := (a = 150 ∧ k = 0) ∨ (a = 120 ∧ k = 0)
section ALLC
variable {xs : List Int32} {d : Nat} {Q : bPo} {b b0 b1 b2 : Bool} {m : Nat → Int → Int} {nT nH : Int} {T P E U N : Int → Int} {t s h k : Int}
variable {D : qD} {m1 : Nat → Int → Int}
theorem qIC_15 (hp : qIP D) (f : qFr qF15 m m1) (hI : qIC D b0 b1 m) : qIC D b0 b1 m1 := hI.hi hp f (fun a k h2 => by unfold qF15 at h2; omega)
theorem qIM_15 (hp : qIP D) (f : qFr qF15 m m1) (hI : qIM D m) : qIM D m1 := by
  refine hI.fr hp f (fun a k h h2 => by unfold qF15 at h2; unfold qKw at h; omega) ?_ ?_
  · rw [qFr_at f 124 (fun k h2 => by unfold qF15 at h2; omega)]
    exact hI.2.2.2.2.2.2.2.2.2.1
  · rw [qFr_at f 142 (fun k h2 => by unfold qF15 at h2; omega)]
    exact hI.2.2.2.2.2.2.2.2.2.2
theorem th_ok : ThOK qINV xs := by
  intro i μ i0 i6 hI
  obtain ⟨⟨b0, b1, b2⟩, m⟩ := μ
  obtain ⟨D, hp, hC, hM⟩ := hI
  dsimp only at hC hM
  have X := bXv_inR xs
  have wn := qw_n hp.1
  have e9 : m (bW b0) 9 = D.nT := hC.2.1.1.1.1
  have i1 : inR 1 := by unfold inR; omega
  have i0' : inR 0 := by unfold inR; omega
  by_cases hc : qtg D.nT (bXv xs 1000 (i + 1)) (bXv xs 1000 (i + 2))
  · have hz := qth_inR hp.1 hM.1 hc
    have hzl : inL (qth D.T D.N (bXv xs 1000 (i + 1)) (bXv xs 1000 (i + 2))) := by unfold inL; unfold inR at hz; omega
    refine ⟨0, qth D.T D.N (bXv xs 1000 (i + 1)) (bXv xs 1000 (i + 2)), Or.inr ⟨rfl, hz, ?_⟩, ?_⟩
    · exact c_thingT hp.1 hC.2.1 (X _) (X _) hc ⟨rfl, rfl⟩ (by omega)
    · intro d G hd hG hH k0
      rw [if_neg (by omega)]
      show G 377 (lv9 i) [vi 0] ((b0, b1, b2), up m 150 0 (qth D.T D.N (bXv xs 1000 (i + 1)) (bXv xs 1000 (i + 2))))
      have f1 : qFr qF15 m (up m 150 0 (qth D.T D.N (bXv xs 1000 (i + 1)) (bXv xs 1000 (i + 2)))) := qFr_up qFr.refl (Or.inl ⟨rfl, rfl⟩)
      have hM1 := qIM_15 hp f1 hM
      have f2 : qFr qF15 m (up (up m 150 0 (qth D.T D.N (bXv xs 1000 (i + 1)) (bXv xs 1000 (i + 2)))) 120 0 0) := qFr_up f1 (Or.inr ⟨rfl, rfl⟩)
      refine rl_377 (y1 := 0) (y2 := 0) hd hG hH ⟨⟨by omega, by omega⟩, ⟨by omega, by omega⟩, d_thing hp.1 hM1.1 (X _) (X _) (fun hn => absurd hc hn) (fun _ => qC rfl fun d2 hd2 => r_X12_thrown_0 hd2 ?_)⟩
      have e0 : up (up m 150 0 (qth D.T D.N (bXv xs 1000 (i + 1)) (bXv xs 1000 (i + 2)))) 120 0 0 120 0 = 0 := qup_s
      have e1 : up (up m 150 0 (qth D.T D.N (bXv xs 1000 (i + 1)) (bXv xs 1000 (i + 2)))) 120 0 0 150 0 = qth D.T D.N (bXv xs 1000 (i + 1)) (bXv xs 1000 (i + 2)) := by rw [qup_n (by omega)]; exact qup_s
      dsimp only
      rw [e0, e1]
      exact ⟨i0', i0', fun _ => ⟨i0', fun h => absurd rfl h, fun _ => ⟨hz, hzl, hzl, fun _ => k0 _ ⟨D, hp, qIC_15 hp f2 hC, qIM_15 hp f2 hM⟩, fun h => absurd rfl h⟩⟩, fun h => absurd rfl h⟩
  · refine ⟨1, 0, Or.inl ⟨rfl, ?_, ?_⟩, ?_⟩
    · show inR (m (bW b0) 9)
      rw [e9]
      unfold inR
      omega
    · show ¬ ((0 ≤ bXv xs 1000 (i + 1) ∧ bXv xs 1000 (i + 1) < m (bW b0) 9) ∧ 0 ≤ bXv xs 1000 (i + 2) ∧ bXv xs 1000 (i + 2) ≤ 8)
      rw [e9]
      exact hc
    · intro d G hd hG hH k0
      rw [if_pos rfl]
      have f2 : qFr qF15 m (up m 120 0 1) := qFr_up qFr.refl (Or.inr ⟨rfl, rfl⟩)
      refine rl_377 (y1 := 0) (y2 := 0) hd hG hH ⟨⟨by omega, by omega⟩, ⟨by omega, by omega⟩, d_thing hp.1 hM.1 (X _) (X _) (fun _ => qC rfl fun d2 hd2 => r_X12_thrown_0 hd2 ?_) (fun hy => absurd hy hc)⟩
      have e0 : up m 120 0 1 120 0 = 1 := qup_s
      dsimp only
      rw [e0]
      exact ⟨i1, i1, fun _ => ⟨i1, fun _ => k0 _ ⟨D, hp, qIC_15 hp f2 hC, qIM_15 hp f2 hM⟩, fun h => by omega⟩, fun h => absurd rfl h⟩
theorem cases_ok : ∀ pc ∈ casePcs, CaseOK qINV xs pc := by
  intro pc hpc
  unfold casePcs at hpc
  simp only [List.mem_cons, List.not_mem_nil, or_false] at hpc
  rcases hpc with h | h | h | h | h | h | h | h | h | h | h | h | h | h | h | h | h | h | h | h | h | h | h | h | h | h | h | h | h | h | h | h | h | h | h | h | h | h <;> rw [h]
  · exact cs_212
  · exact cs_285
  · exact cs_310
  · exact cs_335
  · exact cs_428
  · exact cs_477
  · exact cs_514
  · exact cs_539
  · exact cs_564
  · exact cs_613
  · exact cs_650
  · exact cs_675
  · exact cs_700
  · exact cs_737
  · exact cs_762
  · exact cs_799
  · exact cs_836
  · exact cs_861
  · exact cs_918
  · exact cs_931
  · exact cs_956
  · exact cs_993
  · exact cs_1018
  · exact cs_1055
  · exact cs_1092
  · exact cs_1129
  · exact cs_1154
  · exact cs_1191
  · exact cs_1252
  · exact cs_1301
  · exact cs_1350
  · exact cs_1399
  · exact cs_1448
  · exact cs_1473
  · exact cs_1486
  · exact cs_1523
  · exact cs_1536
  · exact cs_1549
end ALLC
