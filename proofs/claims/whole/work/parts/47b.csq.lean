/-! THE QUESTIONS OF THE LAW -/
section CSQ
variable {xs : List Int32}
theorem cs_428 : CaseOK qINV xs 428 := by
  intro d G hd hG hH i μ i0 i6 hI k0
  obtain ⟨⟨b0, b1, b2⟩, m⟩ := μ
  obtain ⟨D, hp, hC, hM⟩ := hI
  dsimp only at hC hM
  have X := bXv_inR xs
  refine rl_428 hd hG hH ⟨⟨by omega, by omega⟩, ⟨by omega, by omega⟩, ⟨by omega, by omega⟩, (qCw (c_step hp.1 hC.2.1 (X _) (X _) (X _) ?_))⟩
  exact ⟨⟨by omega, by omega⟩, ⟨by omega, by omega⟩, ⟨by omega, by omega⟩, (qCw (d_step hp.1 hM.1 (X _) (X _) (X _) (qLeaf_ok (qINV.tt hp hC hM) k0)))⟩
theorem cs_477 : CaseOK qINV xs 477 := by
  intro d G hd hG hH i μ i0 i6 hI k0
  obtain ⟨⟨b0, b1, b2⟩, m⟩ := μ
  obtain ⟨D, hp, hC, hM⟩ := hI
  dsimp only at hC hM
  have X := bXv_inR xs
  refine rl_477 hd hG hH ⟨⟨by omega, by omega⟩, ⟨by omega, by omega⟩, (qCw (c_heir hp.1 hC.2.1 (X _) (X _) ?_))⟩
  exact ⟨⟨by omega, by omega⟩, ⟨by omega, by omega⟩, (qCw (d_heir hp.1 hM.1 (X _) (X _) (qLeaf_ok (qINV.tt hp hC hM) k0)))⟩
theorem cs_514 : CaseOK qINV xs 514 := by
  intro d G hd hG hH i μ i0 i6 hI k0
  obtain ⟨⟨b0, b1, b2⟩, m⟩ := μ
  obtain ⟨D, hp, hC, hM⟩ := hI
  dsimp only at hC hM
  have X := bXv_inR xs
  refine rl_514 hd hG hH ⟨⟨by omega, by omega⟩, (qCw (c_tools hp.1 hC.2.1 (X _) ?_))⟩
  exact ⟨⟨by omega, by omega⟩, (qCw (d_tools hp.1 hM.1 (X _) (qLeaf_ok (qINV.tt hp hC hM) k0)))⟩
theorem cs_564 : CaseOK qINV xs 564 := by
  intro d G hd hG hH i μ i0 i6 hI k0
  obtain ⟨⟨b0, b1, b2⟩, m⟩ := μ
  obtain ⟨D, hp, hC, hM⟩ := hI
  dsimp only at hC hM
  have X := bXv_inR xs
  refine rl_564 hd hG hH ⟨⟨by omega, by omega⟩, ⟨by omega, by omega⟩, ⟨by omega, by omega⟩, (qCw (c_takes hp.1 hC.2.1 (X _) (X _) (X _) ?_))⟩
  exact ⟨⟨by omega, by omega⟩, ⟨by omega, by omega⟩, ⟨by omega, by omega⟩, (qCw (d_takes hp.1 hM.1 (X _) (X _) (X _) (qLeaf_ok (qINV.tt hp hC hM) k0)))⟩
theorem cs_613 : CaseOK qINV xs 613 := by
  intro d G hd hG hH i μ i0 i6 hI k0
  obtain ⟨⟨b0, b1, b2⟩, m⟩ := μ
  obtain ⟨D, hp, hC, hM⟩ := hI
  dsimp only at hC hM
  have X := bXv_inR xs
  refine rl_613 hd hG hH ⟨⟨by omega, by omega⟩, ⟨by omega, by omega⟩, (qCw (c_alone hp.1 hC.2.1 (X _) (X _) ?_))⟩
  exact ⟨⟨by omega, by omega⟩, ⟨by omega, by omega⟩, (qCw (d_alone hp.1 hM.1 (X _) (X _) (qLeaf_ok (qINV.tt hp hC hM) k0)))⟩
theorem cs_650 : CaseOK qINV xs 650 := by
  intro d G hd hG hH i μ i0 i6 hI k0
  obtain ⟨⟨b0, b1, b2⟩, m⟩ := μ
  obtain ⟨D, hp, hC, hM⟩ := hI
  dsimp only at hC hM
  have X := bXv_inR xs
  refine rl_650 hd hG hH ⟨⟨by omega, by omega⟩, (qCw (c_who hp.1 hC.2.1 (X _) ?_))⟩
  exact ⟨⟨by omega, by omega⟩, (qCw (d_who hp.1 hM.1 (X _) (qLeaf_ok (qINV.tt hp hC hM) k0)))⟩
theorem cs_675 : CaseOK qINV xs 675 := by
  intro d G hd hG hH i μ i0 i6 hI k0
  obtain ⟨⟨b0, b1, b2⟩, m⟩ := μ
  obtain ⟨D, hp, hC, hM⟩ := hI
  dsimp only at hC hM
  have X := bXv_inR xs
  refine rl_675 hd hG hH ⟨⟨by omega, by omega⟩, (qCw (c_stuck hp.1 hC.2.1 (X _) ?_))⟩
  exact ⟨⟨by omega, by omega⟩, (qCw (d_stuck hp.1 hM.1 (X _) (qLeaf_ok (qINV.tt hp hC hM) k0)))⟩
theorem cs_700 : CaseOK qINV xs 700 := by
  intro d G hd hG hH i μ i0 i6 hI k0
  obtain ⟨⟨b0, b1, b2⟩, m⟩ := μ
  obtain ⟨D, hp, hC, hM⟩ := hI
  dsimp only at hC hM
  have X := bXv_inR xs
  refine rl_700 hd hG hH ⟨⟨by omega, by omega⟩, ⟨by omega, by omega⟩, (qCw (c_team hp.1 hC.2.1 (X _) (X _) ?_))⟩
  exact ⟨⟨by omega, by omega⟩, ⟨by omega, by omega⟩, (qCw (d_team hp.1 hM.1 (X _) (X _) (qLeaf_ok (qINV.tt hp hC hM) k0)))⟩
theorem cs_737 : CaseOK qINV xs 737 := by
  intro d G hd hG hH i μ i0 i6 hI k0
  obtain ⟨⟨b0, b1, b2⟩, m⟩ := μ
  obtain ⟨D, hp, hC, hM⟩ := hI
  dsimp only at hC hM
  have X := bXv_inR xs
  refine rl_737 hd hG hH ⟨⟨by omega, by omega⟩, (qCw (c_helpers hp.1 hC.2.1 (X _) ?_))⟩
  exact ⟨⟨by omega, by omega⟩, (qCw (d_helpers hp.1 hM.1 (X _) (qLeaf_ok (qINV.tt hp hC hM) k0)))⟩
theorem cs_1473 : CaseOK qINV xs 1473 := by
  intro d G hd hG hH i μ i0 i6 hI k0
  obtain ⟨⟨b0, b1, b2⟩, m⟩ := μ
  obtain ⟨D, hp, hC, hM⟩ := hI
  dsimp only at hC hM
  have X := bXv_inR xs
  refine rl_1473 hd hG hH (qCw (c_sold hp.1 hC.2.1 ?_))
  exact (qCw (d_sold hp.1 hM.1 (qLeaf_ok (qINV.tt hp hC hM) k0)))
theorem cs_1448 : CaseOK qINV xs 1448 := by
  intro d G hd hG hH i μ i0 i6 hI k0
  obtain ⟨⟨b0, b1, b2⟩, m⟩ := μ
  obtain ⟨D, hp, hC, hM⟩ := hI
  dsimp only at hC hM
  have X := bXv_inR xs
  refine rl_1448 hd hG hH ⟨⟨by omega, by omega⟩, (qCw (c_stood hp.1 hC.2.1 hp.2.2.1 hC.2.2.2.2.2.2.1 (X _) ?_))⟩
  exact ⟨⟨by omega, by omega⟩, (qCw (d_stood hp.1 hM.1 hp.2.2.1 hM.2.2.2.2.2.1 (X _) (qLeaf_ok (qINV.tt hp hC hM) k0)))⟩
theorem cs_1486 : CaseOK qINV xs 1486 := by
  intro d G hd hG hH i μ i0 i6 hI k0
  obtain ⟨⟨b0, b1, b2⟩, m⟩ := μ
  obtain ⟨D, hp, hC, hM⟩ := hI
  dsimp only at hC hM
  have X := bXv_inR xs
  refine rl_1486 hd hG hH ⟨⟨by omega, by omega⟩, ⟨by omega, by omega⟩, (qCw (c_sign hp.2.2.2.1 hC.2.2.2.2.2.2.2.1 (X _) (X _) ?_))⟩
  exact ⟨⟨by omega, by omega⟩, ⟨by omega, by omega⟩, (qCw (d_sign hp.2.2.2.1 hM.2.2.2.2.2.2.1 (X _) (X _) (qLeaf_ok (qINV.tt hp hC hM) k0)))⟩
theorem cs_1549 : CaseOK qINV xs 1549 := by
  intro d G hd hG hH i μ i0 i6 hI k0
  obtain ⟨⟨b0, b1, b2⟩, m⟩ := μ
  obtain ⟨D, hp, hC, hM⟩ := hI
  dsimp only at hC hM
  have X := bXv_inR xs
  refine rl_1549 hd hG hH ⟨⟨by omega, by omega⟩, (qCw (c_count hp.1 hC.2.1 hC.2.2.1 hC.2.2.2.2.2.2.2.2.1.1 hC.2.2.2.2.2.2.2.1.1 hC.2.2.2.1.1 hC.2.2.2.2.2.2.2.2.2 hC.2.2.2.2.2.2.1.1 hC.2.2.2.2.1.1 (X _) ?_))⟩
  exact ⟨⟨by omega, by omega⟩, (qCw (d_count hp.1 hM.1 hM.2.1 hM.2.2.2.2.2.2.2.1.1 hM.2.2.2.2.2.2.1.1 hM.2.2.1.1 hM.2.2.2.2.2.2.2.2.1 hM.2.2.2.2.2.1.1 hM.2.2.2.1.1 (X _) (qLeaf_ok (qINV.tt hp hC hM) k0)))⟩
end CSQ
