/-! TAPE, HOLDING, ENDINGS, PICTURE -/
def qHc (a : Nat) (k : Int) : Prop := a = 0 ∧ k = 12
def qHm (a : Nat) (k : Int) : Prop := a = 120 ∧ (k = 0 ∨ k = 36)
def qNc (a : Nat) (k : Int) : Prop := a = 33 ∨ a = 34 ∨ a = 35 ∨ (a = 32 ∧ k = 3)
def qNm (a : Nat) (k : Int) : Prop := a = 146 ∨ a = 147 ∨ a = 148 ∨ (a = 120 ∧ (k = 57 ∨ k = 0))
def qIkc (a : Nat) (k : Int) : Prop := a = 78 ∨ (a = 36 ∧ k = 4)
def qIkm (a : Nat) (k : Int) : Prop := a = 149 ∨ (a = 120 ∧ (k = 59 ∨ k = 0))
section CSE
variable {xs : List Int32} {d : Nat} {Q : bPo} {b b0 b1 b2 : Bool} {m : Nat → Int → Int} {nT nH : Int} {T P E U N : Int → Int} {t s h k : Int}
variable {D : qD} {m1 m2 : Nat → Int → Int}
theorem qIC.tape {L' : Int} {B' : Int → Int} (hI : qIC D b0 b1 m) (f : qFr qFtc m m1) (t1 : qTc m1 L' B') : qIC (D.uTape L' B') b0 b1 m1 := by
  obtain ⟨z0, ⟨z1, z1q⟩, z2, z3, z4, z5, z6, z7, z8, z9⟩ := hI
  have hw := qW b0
  refine ⟨z0, ?_, ?_, ?_, ?_, ?_, ?_, ?_, ?_, ?_⟩
  · exact ⟨qTo_fr f z1 (fun a k a1 a2 h2 => by unfold qFtc at h2; omega), by rw [(qFr_at f (bW b0 + 9) (fun k h2 => by unfold qFtc at h2; omega))]; exact z1q⟩
  · exact (f (bW b0) 11 (fun h2 => by unfold qFtc at h2; omega)).trans z2
  · exact t1
  · exact by show qPc m1 D.nT D.nH D.T D.c D.A; unfold qPc; rw [(f 36 2 (fun h2 => by unfold qFtc at h2; omega)), (f 36 3 (fun h2 => by unfold qFtc at h2; omega)), (qFr_at f 37 (fun k h2 => by unfold qFtc at h2; omega))]; exact z4
  · exact by show m1 36 4 = D.pic ∧ (D.pic = 1 → qLv D.nT D.nH (m1 78) D.G); rw [(f 36 4 (fun h2 => by unfold qFtc at h2; omega)), (qFr_at f 78 (fun k h2 => by unfold qFtc at h2; omega))]; exact z5
  · exact by show qEc m1 D.e D.eT D.eH D.eD; unfold qEc; rw [(f 32 3 (fun h2 => by unfold qFtc at h2; omega)), (qFr_at f 33 (fun k h2 => by unfold qFtc at h2; omega)), (qFr_at f 34 (fun k h2 => by unfold qFtc at h2; omega)), (qFr_at f 35 (fun k h2 => by unfold qFtc at h2; omega))]; exact z6
  · exact by show qBc m1 D.r D.bl D.bs; unfold qBc; rw [(f 24 2 (fun h2 => by unfold qFtc at h2; omega)), (qFr_at f 31 (fun k h2 => by unfold qFtc at h2; omega)), (qFr_at f 25 (fun k h2 => by unfold qFtc at h2; omega))]; exact z7
  · exact z8.fr (f 6 6 (fun h2 => by unfold qFtc at h2; omega)) (qFr_at f 14 (fun k h2 => by unfold qFtc at h2; omega)) (qFr_at f 7 (fun k h2 => by unfold qFtc at h2; omega)) (qFr_at f 17 (fun k h2 => by unfold qFtc at h2; omega))
  · exact (f 0 12 (fun h2 => by unfold qFtc at h2; omega)).trans z9
theorem qIM.tape {L' : Int} {B' : Int → Int} (hI : qIM D m) (f : qFr qFtm m m1) (t1 : qTm m1 L' B') : qIM (D.uTape L' B') m1 := by
  obtain ⟨⟨y1, y2, y3, y4, y5, y6, y7⟩, z2, z3, z4, z5, z6, z7, z8, z9, za, zb⟩ := hI
  refine ⟨?_, ?_, ?_, ?_, ?_, ?_, ?_, ?_, ?_, ?_, ?_⟩
  · exact ⟨(f 120 26 (fun h2 => by unfold qFtm at h2; omega)).trans y1, (f 120 27 (fun h2 => by unfold qFtm at h2; omega)).trans y2, (qFr_at f 125 (fun k h2 => by unfold qFtm at h2; omega)).trans y3, (qFr_at f 127 (fun k h2 => by unfold qFtm at h2; omega)).trans y4, (qFr_at f 129 (fun k h2 => by unfold qFtm at h2; omega)).trans y5, (qFr_at f 131 (fun k h2 => by unfold qFtm at h2; omega)).trans y6, (qFr_at f 135 (fun k h2 => by unfold qFtm at h2; omega)).trans y7⟩
  · exact (f 120 28 (fun h2 => by unfold qFtm at h2; omega)).trans z2
  · exact t1
  · exact by show qPm m1 D.c D.A; unfold qPm; rw [(f 120 38 (fun h2 => by unfold qFtm at h2; omega)), (qFr_at f 136 (fun k h2 => by unfold qFtm at h2; omega))]; exact z4
  · exact ⟨(f 120 59 (fun h2 => by unfold qFtm at h2; omega)).trans z5.1, (qFr_at f 149 (fun k h2 => by unfold qFtm at h2; omega)).trans z5.2⟩
  · exact by show qEm m1 D.e D.eT D.eH D.eD; unfold qEm; rw [(f 120 57 (fun h2 => by unfold qFtm at h2; omega)), (qFr_at f 146 (fun k h2 => by unfold qFtm at h2; omega)), (qFr_at f 147 (fun k h2 => by unfold qFtm at h2; omega)), (qFr_at f 148 (fun k h2 => by unfold qFtm at h2; omega))]; exact z6
  · exact by show qBm m1 D.r D.bl D.bs; unfold qBm; rw [(f 120 34 (fun h2 => by unfold qFtm at h2; omega)), (qFr_at f 134 (fun k h2 => by unfold qFtm at h2; omega)), (qFr_at f 133 (fun k h2 => by unfold qFtm at h2; omega))]; exact z7
  · exact z8.fr (f 120 7 (fun h2 => by unfold qFtm at h2; omega)) (qFr_at f 123 (fun k h2 => by unfold qFtm at h2; omega)) (qFr_at f 122 (fun k h2 => by unfold qFtm at h2; omega))
  · exact (f 120 36 (fun h2 => by unfold qFtm at h2; omega)).trans z9
  · exact by rw [(qFr_at f 124 (fun k h2 => by unfold qFtm at h2; omega))]; exact za
  · exact by rw [(qFr_at f 142 (fun k h2 => by unfold qFtm at h2; omega))]; exact zb
theorem qIC.hold {z : Int} (hI : qIC D b0 b1 m) (f : qFr qHc m m1) (t1 : m1 0 12 = z) : qIC (D.uHold z) b0 b1 m1 := by
  obtain ⟨z0, ⟨z1, z1q⟩, z2, z3, z4, z5, z6, z7, z8, z9⟩ := hI
  have hw := qW b0
  refine ⟨z0, ?_, ?_, ?_, ?_, ?_, ?_, ?_, ?_, ?_⟩
  · exact ⟨qTo_fr f z1 (fun a k a1 a2 h2 => by unfold qHc at h2; omega), by rw [(qFr_at f (bW b0 + 9) (fun k h2 => by unfold qHc at h2; omega))]; exact z1q⟩
  · exact (f (bW b0) 11 (fun h2 => by unfold qHc at h2; omega)).trans z2
  · exact by show qTc m1 D.L D.B; unfold qTc; rw [(f 1 1 (fun h2 => by unfold qHc at h2; omega)), (qFr_at f 2 (fun k h2 => by unfold qHc at h2; omega))]; exact z3
  · exact by show qPc m1 D.nT D.nH D.T D.c D.A; unfold qPc; rw [(f 36 2 (fun h2 => by unfold qHc at h2; omega)), (f 36 3 (fun h2 => by unfold qHc at h2; omega)), (qFr_at f 37 (fun k h2 => by unfold qHc at h2; omega))]; exact z4
  · exact by show m1 36 4 = D.pic ∧ (D.pic = 1 → qLv D.nT D.nH (m1 78) D.G); rw [(f 36 4 (fun h2 => by unfold qHc at h2; omega)), (qFr_at f 78 (fun k h2 => by unfold qHc at h2; omega))]; exact z5
  · exact by show qEc m1 D.e D.eT D.eH D.eD; unfold qEc; rw [(f 32 3 (fun h2 => by unfold qHc at h2; omega)), (qFr_at f 33 (fun k h2 => by unfold qHc at h2; omega)), (qFr_at f 34 (fun k h2 => by unfold qHc at h2; omega)), (qFr_at f 35 (fun k h2 => by unfold qHc at h2; omega))]; exact z6
  · exact by show qBc m1 D.r D.bl D.bs; unfold qBc; rw [(f 24 2 (fun h2 => by unfold qHc at h2; omega)), (qFr_at f 31 (fun k h2 => by unfold qHc at h2; omega)), (qFr_at f 25 (fun k h2 => by unfold qHc at h2; omega))]; exact z7
  · exact z8.fr (f 6 6 (fun h2 => by unfold qHc at h2; omega)) (qFr_at f 14 (fun k h2 => by unfold qHc at h2; omega)) (qFr_at f 7 (fun k h2 => by unfold qHc at h2; omega)) (qFr_at f 17 (fun k h2 => by unfold qHc at h2; omega))
  · exact t1
theorem qIM.hold {z : Int} (hI : qIM D m) (f : qFr qHm m m1) (t1 : m1 120 36 = z) : qIM (D.uHold z) m1 := by
  obtain ⟨⟨y1, y2, y3, y4, y5, y6, y7⟩, z2, z3, z4, z5, z6, z7, z8, z9, za, zb⟩ := hI
  refine ⟨?_, ?_, ?_, ?_, ?_, ?_, ?_, ?_, ?_, ?_, ?_⟩
  · exact ⟨(f 120 26 (fun h2 => by unfold qHm at h2; omega)).trans y1, (f 120 27 (fun h2 => by unfold qHm at h2; omega)).trans y2, (qFr_at f 125 (fun k h2 => by unfold qHm at h2; omega)).trans y3, (qFr_at f 127 (fun k h2 => by unfold qHm at h2; omega)).trans y4, (qFr_at f 129 (fun k h2 => by unfold qHm at h2; omega)).trans y5, (qFr_at f 131 (fun k h2 => by unfold qHm at h2; omega)).trans y6, (qFr_at f 135 (fun k h2 => by unfold qHm at h2; omega)).trans y7⟩
  · exact (f 120 28 (fun h2 => by unfold qHm at h2; omega)).trans z2
  · exact by show qTm m1 D.L D.B; unfold qTm; rw [(f 120 6 (fun h2 => by unfold qHm at h2; omega)), (qFr_at f 121 (fun k h2 => by unfold qHm at h2; omega))]; exact z3
  · exact by show qPm m1 D.c D.A; unfold qPm; rw [(f 120 38 (fun h2 => by unfold qHm at h2; omega)), (qFr_at f 136 (fun k h2 => by unfold qHm at h2; omega))]; exact z4
  · exact ⟨(f 120 59 (fun h2 => by unfold qHm at h2; omega)).trans z5.1, (qFr_at f 149 (fun k h2 => by unfold qHm at h2; omega)).trans z5.2⟩
  · exact by show qEm m1 D.e D.eT D.eH D.eD; unfold qEm; rw [(f 120 57 (fun h2 => by unfold qHm at h2; omega)), (qFr_at f 146 (fun k h2 => by unfold qHm at h2; omega)), (qFr_at f 147 (fun k h2 => by unfold qHm at h2; omega)), (qFr_at f 148 (fun k h2 => by unfold qHm at h2; omega))]; exact z6
  · exact by show qBm m1 D.r D.bl D.bs; unfold qBm; rw [(f 120 34 (fun h2 => by unfold qHm at h2; omega)), (qFr_at f 134 (fun k h2 => by unfold qHm at h2; omega)), (qFr_at f 133 (fun k h2 => by unfold qHm at h2; omega))]; exact z7
  · exact z8.fr (f 120 7 (fun h2 => by unfold qHm at h2; omega)) (qFr_at f 123 (fun k h2 => by unfold qHm at h2; omega)) (qFr_at f 122 (fun k h2 => by unfold qHm at h2; omega))
  · exact t1
  · exact by rw [(qFr_at f 124 (fun k h2 => by unfold qHm at h2; omega))]; exact za
  · exact by rw [(qFr_at f 142 (fun k h2 => by unfold qHm at h2; omega))]; exact zb
theorem qIC.ends {e' : Int} {eT' eH' eD' : Int → Int} (hI : qIC D b0 b1 m) (f : qFr qNc m m1) (t1 : qEc m1 e' eT' eH' eD') : qIC (D.uEnd e' eT' eH' eD') b0 b1 m1 := by
  obtain ⟨z0, ⟨z1, z1q⟩, z2, z3, z4, z5, z6, z7, z8, z9⟩ := hI
  have hw := qW b0
  refine ⟨z0, ?_, ?_, ?_, ?_, ?_, ?_, ?_, ?_, ?_⟩
  · exact ⟨qTo_fr f z1 (fun a k a1 a2 h2 => by unfold qNc at h2; omega), by rw [(qFr_at f (bW b0 + 9) (fun k h2 => by unfold qNc at h2; omega))]; exact z1q⟩
  · exact (f (bW b0) 11 (fun h2 => by unfold qNc at h2; omega)).trans z2
  · exact by show qTc m1 D.L D.B; unfold qTc; rw [(f 1 1 (fun h2 => by unfold qNc at h2; omega)), (qFr_at f 2 (fun k h2 => by unfold qNc at h2; omega))]; exact z3
  · exact by show qPc m1 D.nT D.nH D.T D.c D.A; unfold qPc; rw [(f 36 2 (fun h2 => by unfold qNc at h2; omega)), (f 36 3 (fun h2 => by unfold qNc at h2; omega)), (qFr_at f 37 (fun k h2 => by unfold qNc at h2; omega))]; exact z4
  · exact by show m1 36 4 = D.pic ∧ (D.pic = 1 → qLv D.nT D.nH (m1 78) D.G); rw [(f 36 4 (fun h2 => by unfold qNc at h2; omega)), (qFr_at f 78 (fun k h2 => by unfold qNc at h2; omega))]; exact z5
  · exact t1
  · exact by show qBc m1 D.r D.bl D.bs; unfold qBc; rw [(f 24 2 (fun h2 => by unfold qNc at h2; omega)), (qFr_at f 31 (fun k h2 => by unfold qNc at h2; omega)), (qFr_at f 25 (fun k h2 => by unfold qNc at h2; omega))]; exact z7
  · exact z8.fr (f 6 6 (fun h2 => by unfold qNc at h2; omega)) (qFr_at f 14 (fun k h2 => by unfold qNc at h2; omega)) (qFr_at f 7 (fun k h2 => by unfold qNc at h2; omega)) (qFr_at f 17 (fun k h2 => by unfold qNc at h2; omega))
  · exact (f 0 12 (fun h2 => by unfold qNc at h2; omega)).trans z9
theorem qIM.ends {e' : Int} {eT' eH' eD' : Int → Int} (hI : qIM D m) (f : qFr qNm m m1) (t1 : qEm m1 e' eT' eH' eD') : qIM (D.uEnd e' eT' eH' eD') m1 := by
  obtain ⟨⟨y1, y2, y3, y4, y5, y6, y7⟩, z2, z3, z4, z5, z6, z7, z8, z9, za, zb⟩ := hI
  refine ⟨?_, ?_, ?_, ?_, ?_, ?_, ?_, ?_, ?_, ?_, ?_⟩
  · exact ⟨(f 120 26 (fun h2 => by unfold qNm at h2; omega)).trans y1, (f 120 27 (fun h2 => by unfold qNm at h2; omega)).trans y2, (qFr_at f 125 (fun k h2 => by unfold qNm at h2; omega)).trans y3, (qFr_at f 127 (fun k h2 => by unfold qNm at h2; omega)).trans y4, (qFr_at f 129 (fun k h2 => by unfold qNm at h2; omega)).trans y5, (qFr_at f 131 (fun k h2 => by unfold qNm at h2; omega)).trans y6, (qFr_at f 135 (fun k h2 => by unfold qNm at h2; omega)).trans y7⟩
  · exact (f 120 28 (fun h2 => by unfold qNm at h2; omega)).trans z2
  · exact by show qTm m1 D.L D.B; unfold qTm; rw [(f 120 6 (fun h2 => by unfold qNm at h2; omega)), (qFr_at f 121 (fun k h2 => by unfold qNm at h2; omega))]; exact z3
  · exact by show qPm m1 D.c D.A; unfold qPm; rw [(f 120 38 (fun h2 => by unfold qNm at h2; omega)), (qFr_at f 136 (fun k h2 => by unfold qNm at h2; omega))]; exact z4
  · exact ⟨(f 120 59 (fun h2 => by unfold qNm at h2; omega)).trans z5.1, (qFr_at f 149 (fun k h2 => by unfold qNm at h2; omega)).trans z5.2⟩
  · exact t1
  · exact by show qBm m1 D.r D.bl D.bs; unfold qBm; rw [(f 120 34 (fun h2 => by unfold qNm at h2; omega)), (qFr_at f 134 (fun k h2 => by unfold qNm at h2; omega)), (qFr_at f 133 (fun k h2 => by unfold qNm at h2; omega))]; exact z7
  · exact z8.fr (f 120 7 (fun h2 => by unfold qNm at h2; omega)) (qFr_at f 123 (fun k h2 => by unfold qNm at h2; omega)) (qFr_at f 122 (fun k h2 => by unfold qNm at h2; omega))
  · exact (f 120 36 (fun h2 => by unfold qNm at h2; omega)).trans z9
  · exact by rw [(qFr_at f 124 (fun k h2 => by unfold qNm at h2; omega))]; exact za
  · exact by rw [(qFr_at f 142 (fun k h2 => by unfold qNm at h2; omega))]; exact zb
theorem qIC.pict {p' : Int} {G' : Int → Int} (hI : qIC D b0 b1 m) (f : qFr qIkc m m1) (t1 : m1 36 4 = p' ∧ (p' = 1 → qLv D.nT D.nH (m1 78) G')) : qIC (D.uPic p' G') b0 b1 m1 := by
  obtain ⟨z0, ⟨z1, z1q⟩, z2, z3, z4, z5, z6, z7, z8, z9⟩ := hI
  have hw := qW b0
  refine ⟨z0, ?_, ?_, ?_, ?_, ?_, ?_, ?_, ?_, ?_⟩
  · exact ⟨qTo_fr f z1 (fun a k a1 a2 h2 => by unfold qIkc at h2; omega), by rw [(qFr_at f (bW b0 + 9) (fun k h2 => by unfold qIkc at h2; omega))]; exact z1q⟩
  · exact (f (bW b0) 11 (fun h2 => by unfold qIkc at h2; omega)).trans z2
  · exact by show qTc m1 D.L D.B; unfold qTc; rw [(f 1 1 (fun h2 => by unfold qIkc at h2; omega)), (qFr_at f 2 (fun k h2 => by unfold qIkc at h2; omega))]; exact z3
  · exact by show qPc m1 D.nT D.nH D.T D.c D.A; unfold qPc; rw [(f 36 2 (fun h2 => by unfold qIkc at h2; omega)), (f 36 3 (fun h2 => by unfold qIkc at h2; omega)), (qFr_at f 37 (fun k h2 => by unfold qIkc at h2; omega))]; exact z4
  · exact t1
  · exact by show qEc m1 D.e D.eT D.eH D.eD; unfold qEc; rw [(f 32 3 (fun h2 => by unfold qIkc at h2; omega)), (qFr_at f 33 (fun k h2 => by unfold qIkc at h2; omega)), (qFr_at f 34 (fun k h2 => by unfold qIkc at h2; omega)), (qFr_at f 35 (fun k h2 => by unfold qIkc at h2; omega))]; exact z6
  · exact by show qBc m1 D.r D.bl D.bs; unfold qBc; rw [(f 24 2 (fun h2 => by unfold qIkc at h2; omega)), (qFr_at f 31 (fun k h2 => by unfold qIkc at h2; omega)), (qFr_at f 25 (fun k h2 => by unfold qIkc at h2; omega))]; exact z7
  · exact z8.fr (f 6 6 (fun h2 => by unfold qIkc at h2; omega)) (qFr_at f 14 (fun k h2 => by unfold qIkc at h2; omega)) (qFr_at f 7 (fun k h2 => by unfold qIkc at h2; omega)) (qFr_at f 17 (fun k h2 => by unfold qIkc at h2; omega))
  · exact (f 0 12 (fun h2 => by unfold qIkc at h2; omega)).trans z9
theorem qIM.pict {p' : Int} {G' : Int → Int} (hI : qIM D m) (f : qFr qIkm m m1) (t1 : m1 120 59 = p' ∧ m1 149 = G') : qIM (D.uPic p' G') m1 := by
  obtain ⟨⟨y1, y2, y3, y4, y5, y6, y7⟩, z2, z3, z4, z5, z6, z7, z8, z9, za, zb⟩ := hI
  refine ⟨?_, ?_, ?_, ?_, ?_, ?_, ?_, ?_, ?_, ?_, ?_⟩
  · exact ⟨(f 120 26 (fun h2 => by unfold qIkm at h2; omega)).trans y1, (f 120 27 (fun h2 => by unfold qIkm at h2; omega)).trans y2, (qFr_at f 125 (fun k h2 => by unfold qIkm at h2; omega)).trans y3, (qFr_at f 127 (fun k h2 => by unfold qIkm at h2; omega)).trans y4, (qFr_at f 129 (fun k h2 => by unfold qIkm at h2; omega)).trans y5, (qFr_at f 131 (fun k h2 => by unfold qIkm at h2; omega)).trans y6, (qFr_at f 135 (fun k h2 => by unfold qIkm at h2; omega)).trans y7⟩
  · exact (f 120 28 (fun h2 => by unfold qIkm at h2; omega)).trans z2
  · exact by show qTm m1 D.L D.B; unfold qTm; rw [(f 120 6 (fun h2 => by unfold qIkm at h2; omega)), (qFr_at f 121 (fun k h2 => by unfold qIkm at h2; omega))]; exact z3
  · exact by show qPm m1 D.c D.A; unfold qPm; rw [(f 120 38 (fun h2 => by unfold qIkm at h2; omega)), (qFr_at f 136 (fun k h2 => by unfold qIkm at h2; omega))]; exact z4
  · exact t1
  · exact by show qEm m1 D.e D.eT D.eH D.eD; unfold qEm; rw [(f 120 57 (fun h2 => by unfold qIkm at h2; omega)), (qFr_at f 146 (fun k h2 => by unfold qIkm at h2; omega)), (qFr_at f 147 (fun k h2 => by unfold qIkm at h2; omega)), (qFr_at f 148 (fun k h2 => by unfold qIkm at h2; omega))]; exact z6
  · exact by show qBm m1 D.r D.bl D.bs; unfold qBm; rw [(f 120 34 (fun h2 => by unfold qIkm at h2; omega)), (qFr_at f 134 (fun k h2 => by unfold qIkm at h2; omega)), (qFr_at f 133 (fun k h2 => by unfold qIkm at h2; omega))]; exact z7
  · exact z8.fr (f 120 7 (fun h2 => by unfold qIkm at h2; omega)) (qFr_at f 123 (fun k h2 => by unfold qIkm at h2; omega)) (qFr_at f 122 (fun k h2 => by unfold qIkm at h2; omega))
  · exact (f 120 36 (fun h2 => by unfold qIkm at h2; omega)).trans z9
  · exact by rw [(qFr_at f 124 (fun k h2 => by unfold qIkm at h2; omega))]; exact za
  · exact by rw [(qFr_at f 142 (fun k h2 => by unfold qIkm at h2; omega))]; exact zb
theorem qINV.tape {L' : Int} {B' : Int → Int} (hp : qIP D) (hC : qIC D b0 b1 m) (hM1 : qIM D m1) (f1 : qFr qFtc m m1) (t1 : qTc m1 L' B') (f2 : qFr qFtm m1 m2) (t2 : qTm m2 L' B') (ht : qTp L' B') : qINV ((b0, b1, b2), m2) := by
  have hp2 : qIP (D.uTape L' B') := ⟨hp.1, ht, hp.2.2⟩
  exact ⟨D.uTape L' B', hp2, (hC.tape f1 t1).hi hp2 f2 (fun a k h2 => by unfold qFtm at h2; omega), hM1.tape f2 t2⟩
theorem cs_212 : CaseOK qINV xs 212 := by
  intro d G hd hG hH i μ i0 i6 hI k0
  obtain ⟨⟨b0, b1, b2⟩, m⟩ := μ
  obtain ⟨D, hp, hC, hM⟩ := hI
  dsimp only at hC hM
  have X := bXv_inR xs
  refine rl_212 hd hG hH ⟨⟨by omega, by omega⟩, ⟨by omega, by omega⟩, ⟨by omega, by omega⟩, ⟨by omega, by omega⟩, ⟨by omega, by omega⟩, qCw (c_feed hp.2.1 hC.2.2.2.1 (X _) (X _) (X _) (X _) (X _) (fun hn => ?_) (fun hy m1 f1 t1 => ?_))⟩
  · exact ⟨⟨by omega, by omega⟩, ⟨by omega, by omega⟩, ⟨by omega, by omega⟩, ⟨by omega, by omega⟩, ⟨by omega, by omega⟩, qCw (d_feed hp.2.1 hM.2.2.1 (X _) (X _) (X _) (X _) (X _) (fun _ => qLeaf_ok (qINV.tt hp hC hM) k0) (fun hy => by omega))⟩
  · have hM1 : qIM D m1 := hM.lo hp f1 (fun a k h2 => by unfold qFtc at h2; omega)
    exact ⟨⟨by omega, by omega⟩, ⟨by omega, by omega⟩, ⟨by omega, by omega⟩, ⟨by omega, by omega⟩, ⟨by omega, by omega⟩, qCw (d_feed hp.2.1 hM1.2.2.1 (X _) (X _) (X _) (X _) (X _) (fun hn => by omega) (fun _ m2 f2 t2 => qLeaf_ok (qINV.tape hp hC hM1 f1 t1 f2 t2 (qfeed_tp hp.2.1 (X _) (X _) (X _) (X _) (X _) hy)) k0))⟩
theorem cs_285 : CaseOK qINV xs 285 := by
  intro d G hd hG hH i μ i0 i6 hI k0
  obtain ⟨⟨b0, b1, b2⟩, m⟩ := μ
  obtain ⟨D, hp, hC, hM⟩ := hI
  dsimp only at hC hM
  have X := bXv_inR xs
  refine rl_285 hd hG hH ⟨⟨by omega, by omega⟩, qCw (c_end hp.2.1 hC.2.2.2.1 (X _) (fun hn => ?_) (fun hy => ?_))⟩
  · exact ⟨⟨by omega, by omega⟩, qCw (d_end hp.2.1 hM.2.2.1 (X _) (fun _ => qLeaf_ok (qINV.tt hp hC hM) k0) (fun hy => absurd hy hn))⟩
  · have f1 : qFr qFtc m (up m 1 1 (bXv xs 1000 (i + 1))) := qFr_up qFr.refl (Or.inr ⟨rfl, rfl⟩)
    have hM1 : qIM D (up m 1 1 (bXv xs 1000 (i + 1))) := hM.lo hp f1 (fun a k h2 => by unfold qFtc at h2; omega)
    have ht : qTp (bXv xs 1000 (i + 1)) D.B := ⟨by have := hp.2.1.1; omega, fun k k0 k1 => hp.2.1.2 k k0 (by omega)⟩
    have tc := hC.2.2.2.1.2
    refine ⟨⟨by omega, by omega⟩, qCw (d_end hp.2.1 hM1.2.2.1 (X _) (fun hn => absurd hy hn) (fun _ => qLeaf_ok (qINV.tape (L' := bXv xs 1000 (i + 1)) (B' := D.B) hp hC hM1 f1 ⟨?_, fun k k0 k1 => ?_⟩ (qFr_up (qFr_up qFr.refl (Or.inr ⟨rfl, Or.inr rfl⟩)) (Or.inr ⟨rfl, Or.inl rfl⟩)) ⟨?_, fun k k0 k1 => ?_⟩ ht) k0))⟩
    · exact qup_s
    · rw [qup_n (by omega)]
      exact tc k k0 (by omega)
    · exact qup_s
    · rw [qup_n (by omega), qup_n (by omega)]
      exact hM1.2.2.1.2 k k0 (by omega)
theorem cs_539 : CaseOK qINV xs 539 := by
  intro d G hd hG hH i μ i0 i6 hI k0
  obtain ⟨⟨b0, b1, b2⟩, m⟩ := μ
  obtain ⟨D, hp, hC, hM⟩ := hI
  dsimp only at hC hM
  have X := bXv_inR xs
  have nl := hp.2.2.2.2.1.1
  refine rl_539 hd hG hH ⟨⟨by omega, by omega⟩, qCw (c_law hp.1 hC.2.1 hC.2.2.2.2.2.2.2.2.1.1 nl (X _) (fun hn => ?_) (fun hy => ?_))⟩
  · exact ⟨⟨by omega, by omega⟩, qCw (d_law hp.1 hM.1 hM.2.2.2.2.2.2.2.1.1 nl (X _) (fun _ => qLeaf_ok (qINV.tt hp hC hM) k0) (fun hy => absurd hy hn))⟩
  · have f1 : qFr qHc m (up m 0 12 (bXv xs 1000 (i + 1))) := qFr_up qFr.refl ⟨rfl, rfl⟩
    have hM1 : qIM D (up m 0 12 (bXv xs 1000 (i + 1))) := hM.lo hp f1 (fun a k h2 => by unfold qHc at h2; omega)
    have hp2 : qIP (D.uHold (bXv xs 1000 (i + 1))) := ⟨hp.1, hp.2.1, hp.2.2.1, hp.2.2.2.1, hp.2.2.2.2.1, by show -1 ≤ bXv xs 1000 (i + 1) ∧ bXv xs 1000 (i + 1) < D.nL; omega, hp.2.2.2.2.2.2⟩
    have f2 : qFr qHm (up m 0 12 (bXv xs 1000 (i + 1))) (up (up (up m 0 12 (bXv xs 1000 (i + 1))) 120 0 0) 120 36 (bXv xs 1000 (i + 1))) := qFr_up (qFr_up qFr.refl ⟨rfl, Or.inl rfl⟩) ⟨rfl, Or.inr rfl⟩
    exact ⟨⟨by omega, by omega⟩, qCw (d_law hp.1 hM1.1 hM1.2.2.2.2.2.2.2.1.1 nl (X _) (fun hn => absurd hy hn) (fun _ => qLeaf_ok ⟨D.uHold (bXv xs 1000 (i + 1)), hp2, (hC.hold f1 (by exact qup_s)).hi hp2 f2 (fun a k h2 => by unfold qHm at h2; omega), hM1.hold f2 (by dsimp only; exact qup_s)⟩ k0))⟩
theorem cs_1399 : CaseOK qINV xs 1399 := by
  intro d G hd hG hH i μ i0 i6 hI k0
  obtain ⟨⟨b0, b1, b2⟩, m⟩ := μ
  obtain ⟨D, hp, hC, hM⟩ := hI
  dsimp only at hC hM
  have X := bXv_inR xs
  have en := hp.2.2.1
  refine rl_1399 hd hG hH ⟨⟨by omega, by omega⟩, ⟨by omega, by omega⟩, ⟨by omega, by omega⟩, qCw (c_ended hp.1 hC.2.1 en hC.2.2.2.2.2.2.1 (X _) (X _) (X _) (fun hn => ?_) (fun hy m1 f1 t1 => ?_))⟩
  · exact ⟨⟨by omega, by omega⟩, ⟨by omega, by omega⟩, ⟨by omega, by omega⟩, qCw (d_ended hp.1 hM.1 en hM.2.2.2.2.2.1 (X _) (X _) (X _) (fun _ => qLeaf_ok (qINV.tt hp hC hM) k0) (fun hy => absurd hy hn))⟩
  · have f1 : qFr qNc m m1 := f1
    have hM1 : qIM D m1 := hM.lo hp f1 (fun a k h2 => by unfold qNc at h2; omega)
    refine ⟨⟨by omega, by omega⟩, ⟨by omega, by omega⟩, ⟨by omega, by omega⟩, qCw (d_ended hp.1 hM1.1 en hM1.2.2.2.2.2.1 (X _) (X _) (X _) (fun hn => absurd hy hn) (fun _ m2 f2 t2 => ?_))⟩
    have f2 : qFr qNm m1 m2 := f2
    have hp2 : qIP (D.uEnd (D.e + 1) (qset D.eT D.e (bXv xs 1000 (i + 1))) (qset D.eH D.e (bXv xs 1000 (i + 2))) (qset D.eD D.e (bXv xs 1000 (i + 3)))) := by
      refine ⟨hp.1, hp.2.1, ⟨?_, fun k k0 k1 => ?_⟩, hp.2.2.2⟩
      · show 0 ≤ D.e + 1 ∧ D.e + 1 ≤ 12
        have := en.1
        unfold qed at hy
        omega
      · show (0 ≤ qset D.eT D.e (bXv xs 1000 (i + 1)) k ∧ qset D.eT D.e (bXv xs 1000 (i + 1)) k < D.nT) ∧ (0 ≤ qset D.eH D.e (bXv xs 1000 (i + 2)) k ∧ qset D.eH D.e (bXv xs 1000 (i + 2)) k < D.nH) ∧ (1 ≤ qset D.eD D.e (bXv xs 1000 (i + 3)) k ∧ qset D.eD D.e (bXv xs 1000 (i + 3)) k ≤ 99)
        have k1 : k < D.e + 1 := k1
        unfold qset
        by_cases h : k = D.e
        · rw [if_pos h, if_pos h, if_pos h]
          exact ⟨hy.1, hy.2.1, hy.2.2.1⟩
        · rw [if_neg h, if_neg h, if_neg h]
          exact en.2 k k0 (by omega)
    exact qLeaf_ok ⟨_, hp2, (hC.ends f1 t1).hi hp2 f2 (fun a k h2 => by unfold qNm at h2; omega), hM1.ends f2 t2⟩ k0
theorem cs_1523 : CaseOK qINV xs 1523 := by
  intro d G hd hG hH i μ i0 i6 hI k0
  obtain ⟨⟨b0, b1, b2⟩, m⟩ := μ
  obtain ⟨D, hp, hC, hM⟩ := hI
  dsimp only at hC hM
  have X := bXv_inR xs
  have wn := qw_n hp.1
  refine rl_1523 hd hG hH (qCw (c_image hp.1 hC.2.1 (fun hn => ?_) (fun hy m1 f1 e1 l1 => ?_)))
  · exact qCw (d_image hp.1 hM.1 (fun _ => qLeaf_ok (qINV.tt hp hC hM) k0) (fun hy => absurd hy hn))
  · have f1 : qFr qIkc m m1 := f1
    have hM1 : qIM D m1 := hM.lo hp f1 (fun a k h2 => by unfold qIkc at h2; omega)
    refine qCw (d_image hp.1 hM1.1 (fun hn => absurd hy hn) (fun _ m2 f2 e2 l2 => ?_))
    have f2 : qFr qIkm m1 m2 := f2
    have hp2 : qIP (D.uPic 1 (m2 149)) := ⟨hp.1, hp.2.1, hp.2.2.1, hp.2.2.2.1, hp.2.2.2.2.1, hp.2.2.2.2.2.1, Or.inr ⟨rfl, qNw_congr wn.1.2 wn.2.1.2 l2 (qw_nw hp.1)⟩⟩
    exact qLeaf_ok ⟨_, hp2, (hC.pict f1 ⟨e1, fun _ => qLv_congr2 wn.1.2 wn.2.1.2 l2 l1⟩).hi hp2 f2 (fun a k h2 => by unfold qIkm at h2; omega), hM1.pict f2 ⟨e2, rfl⟩⟩ k0
end CSE
