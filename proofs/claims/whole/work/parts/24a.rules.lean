/-! RULES, printed by program: what each cut of each method asks for -/
set_option maxRecDepth 100000 in
theorem r_X0_read_0 {xs : List Int32} {d : Nat} {Q : bPo} (hd : 2 ≤ d) {b0 b1 b2 : Bool} {m : Nat → Int → Int}
    (H : bGo xs d aM_X0_read 8 [vr 24, vr 1, vi 0, vi 0, vn] [] ((b0, b1, b2), up (up m 1 2 0) 1 3 (-1)) Q) :
    bGo xs d aM_X0_read 0 [vr 24, vr 1, vn, vn, vn] [] ((b0, b1, b2), m) Q := by
  exact wX_sound (rk := bRk) (mo := bMo) (stops := [(8, [true, true, true, true, false])]) (inl := [111, 113, 117]) (f := 400) hd H
set_option maxRecDepth 100000 in
theorem r_X0_read_8 {xs : List Int32} {d : Nat} {Q : bPo} (hd : 2 ≤ d) {b0 b1 b2 : Bool} {m : Nat → Int → Int} {x2 x3 : Int}
    (H : inR x3 ∧ ((240 < x3 → ((0 ≤ m 24 2 ∧ m 24 2 < 5) ∧ (inR x2 ∧ ((¬ x2 = 0 → (Q (-1) ((b0, b1, b2), up m 31 (m 24 2) x2))) ∧ (x2 = 0 → (Q (m 1 1) ((b0, b1, b2), up m 31 (m 24 2) x2))))))) ∧ (x3 ≤ 240 → (bC xs 1 112 [vr 1] ((b0, b1, b2), m) (fun z1 μ2 => (μ2.1 = (b0, b1, b2)) ∧ (inR z1 ∧ ((¬ z1 = (-1) → (inR z1 ∧ ((z1 < 48 → (Q (μ2.2 1 2) ((b0, b1, b2), μ2.2))) ∧ (48 ≤ z1 → (inR z1 ∧ ((57 < z1 → (Q (μ2.2 1 2) ((b0, b1, b2), μ2.2))) ∧ (z1 ≤ 57 → (inR x2 ∧ ((x2 < 12 → ((0 ≤ μ2.2 24 2 ∧ μ2.2 24 2 < 5) ∧ ((0 ≤ μ2.2 24 2 ∧ μ2.2 24 2 < 5) ∧ ((0 ≤ x2 ∧ x2 < 12) ∧ (bGo xs d aM_X0_read 8 [vr 24, vr 1, vi (x2 + 1), vi (x3 + 1), vn] [] ((b0, b1, b2), up (up μ2.2 25 ((μ2.2 24 2) * 1000 + x2) (z1 - 48)) 1 2 ((μ2.2 1 2) + 1)) Q))))) ∧ (12 ≤ x2 → (Q (μ2.2 1 2) ((b0, b1, b2), μ2.2)))))))))))) ∧ (z1 = (-1) → ((0 ≤ μ2.2 24 2 ∧ μ2.2 24 2 < 5) ∧ (inR x2 ∧ ((¬ x2 = 0 → (Q (-1) ((b0, b1, b2), up μ2.2 31 (μ2.2 24 2) x2))) ∧ (x2 = 0 → (Q (μ2.2 1 1) ((b0, b1, b2), up μ2.2 31 (μ2.2 24 2) x2)))))))))))))) :
    bGo xs d aM_X0_read 8 [vr 24, vr 1, vi x2, vi x3, vn] [] ((b0, b1, b2), m) Q := by
  exact wX_sound (rk := bRk) (mo := bMo) (stops := [(8, [true, true, true, true, false])]) (inl := [111, 113, 117]) (f := 400) hd H
set_option maxRecDepth 100000 in
theorem r_X1_lineUp_0 {xs : List Int32} {d : Nat} {Q : bPo} (hd : 3 ≤ d) {b : Bool} {b0 b1 b2 : Bool} {m : Nat → Int → Int}
    (H : bGo xs d aM_X1_lineUp 7 [vr 79, vr (bW b), vi 0, vn, vn, vn] [] ((b0, b1, b2), up m 79 5 0) Q) :
    bGo xs d aM_X1_lineUp 0 [vr 79, vr (bW b), vn, vn, vn, vn] [] ((b0, b1, b2), m) Q := by
  cases b <;> exact wX_sound (rk := bRk) (mo := bMo) (stops := [(7, [true, true, true, false, false, false]), (51, [true, true, true, false, false, false]), (85, [true, true, true, true, true, true])]) (inl := [42, 46]) (f := 400) hd H
set_option maxRecDepth 100000 in
theorem r_X1_lineUp_7 {xs : List Int32} {d : Nat} {Q : bPo} (hd : 3 ≤ d) {b : Bool} {b0 b1 b2 : Bool} {m : Nat → Int → Int} {x2 : Int}
    (H : inR x2 ∧ (inR (m (bW b) 9) ∧ ((m (bW b) 9 ≤ x2 → (bGo xs d aM_X1_lineUp 51 [vr 79, vr (bW b), vi 0, vn, vn, vn] [] ((b0, b1, b2), up (up m 81 0 0) 82 0 0) Q)) ∧ (x2 < m (bW b) 9 → (inR x2 ∧ ((x2 < 0 → (bGo xs d aM_X1_lineUp 7 [vr 79, vr (bW b), vi (x2 + 1), vn, vn, vn] [] ((b0, b1, b2), m) Q)) ∧ (0 ≤ x2 → (inR x2 ∧ (inR (m (bW b) 9) ∧ ((m (bW b) 9 ≤ x2 → (bGo xs d aM_X1_lineUp 7 [vr 79, vr (bW b), vi (x2 + 1), vn, vn, vn] [] ((b0, b1, b2), m) Q)) ∧ (x2 < m (bW b) 9 → ((0 ≤ 18 + x2 ∧ 18 + x2 < 67) ∧ (inR (m (bW b + 9) (18 + x2)) ∧ ((¬ m (bW b + 9) (18 + x2) = 0 → (bGo xs d aM_X1_lineUp 7 [vr 79, vr (bW b), vi (x2 + 1), vn, vn, vn] [] ((b0, b1, b2), m) Q)) ∧ (m (bW b + 9) (18 + x2) = 0 → (bC xs 1 5 [vr 79, vr (bW b), vi x2] ((b0, b1, b2), m) (fun z1 μ2 => (μ2.1 = (b0, b1, b2)) ∧ (bGo xs d aM_X1_lineUp 7 [vr 79, vr (bW b), vi (x2 + 1), vn, vn, vn] [] ((b0, b1, b2), μ2.2) Q)))))))))))))))))) :
    bGo xs d aM_X1_lineUp 7 [vr 79, vr (bW b), vi x2, vn, vn, vn] [] ((b0, b1, b2), m) Q := by
  cases b <;> exact wX_sound (rk := bRk) (mo := bMo) (stops := [(7, [true, true, true, false, false, false]), (51, [true, true, true, false, false, false]), (85, [true, true, true, true, true, true])]) (inl := [42, 46]) (f := 400) hd H
set_option maxRecDepth 100000 in
theorem r_X1_lineUp_51 {xs : List Int32} {d : Nat} {Q : bPo} (hd : 3 ≤ d) {b : Bool} {b0 b1 b2 : Bool} {m : Nat → Int → Int} {x2 : Int}
    (H : inR x2 ∧ (inR (m 79 5) ∧ ((m 79 5 ≤ x2 → (Q 0 ((b0, b1, b2), m))) ∧ (x2 < m 79 5 → ((0 ≤ x2 ∧ x2 < 6) ∧ ((0 ≤ ((m (bW b) 9) - 1) - (m 80 x2) ∧ ((m (bW b) 9) - 1) - (m 80 x2) < 7) ∧ (bGo xs d aM_X1_lineUp 85 [vr 79, vr (bW b), vi x2, vi (bShl 1 x2), vi (bXv xs 1001 (((m (bW b) 9) - 1) - (m 80 x2))), vi 0] [] ((b0, b1, b2), m) Q))))))) :
    bGo xs d aM_X1_lineUp 51 [vr 79, vr (bW b), vi x2, vn, vn, vn] [] ((b0, b1, b2), m) Q := by
  cases b <;> exact wX_sound (rk := bRk) (mo := bMo) (stops := [(7, [true, true, true, false, false, false]), (51, [true, true, true, false, false, false]), (85, [true, true, true, true, true, true])]) (inl := [42, 46]) (f := 400) hd H
set_option maxRecDepth 100000 in
theorem r_X1_lineUp_85 {xs : List Int32} {d : Nat} {Q : bPo} (hd : 3 ≤ d) {b : Bool} {b0 b1 b2 : Bool} {m : Nat → Int → Int} {x2 x3 x4 x5 : Int}
    (H : inR x5 ∧ (inR x3 ∧ ((x3 ≤ x5 → (bGo xs d aM_X1_lineUp 51 [vr 79, vr (bW b), vi (x2 + 1), vn, vn, vn] [] ((b0, b1, b2), m) Q)) ∧ (x5 < x3 → ((0 ≤ x5 ∧ x5 < 64) ∧ ((0 ≤ x2 ∧ x2 < 6) ∧ ((0 ≤ m 80 x2 ∧ m 80 x2 < 6) ∧ ((0 ≤ x3 + x5 ∧ x3 + x5 < 64) ∧ ((0 ≤ x5 ∧ x5 < 64) ∧ ((0 ≤ x3 + x5 ∧ x3 + x5 < 64) ∧ (bGo xs d aM_X1_lineUp 85 [vr 79, vr (bW b), vi x2, vi x3, vi x4, vi (x5 + 1)] [] ((b0, b1, b2), up (up m 81 (x3 + x5) ((m 81 x5) + (m (bW b + 1) (m 80 x2)))) 82 (x3 + x5) ((m 82 x5) + x4)) Q))))))))))) :
    bGo xs d aM_X1_lineUp 85 [vr 79, vr (bW b), vi x2, vi x3, vi x4, vi x5] [] ((b0, b1, b2), m) Q := by
  cases b <;> exact wX_sound (rk := bRk) (mo := bMo) (stops := [(7, [true, true, true, false, false, false]), (51, [true, true, true, false, false, false]), (85, [true, true, true, true, true, true])]) (inl := [42, 46]) (f := 400) hd H
set_option maxRecDepth 100000 in
theorem r_X1_putInOrder_0 {xs : List Int32} {d : Nat} {Q : bPo} (hd : 1 ≤ d) {b : Bool} {b0 b1 b2 : Bool} {m : Nat → Int → Int} {x2 : Int}
    (H : bGo xs d aM_X1_putInOrder 5 [vr 79, vr (bW b), vi x2, vi (m 79 5)] [] ((b0, b1, b2), m) Q) :
    bGo xs d aM_X1_putInOrder 0 [vr 79, vr (bW b), vi x2, vn] [] ((b0, b1, b2), m) Q := by
  cases b <;> exact wX_sound (rk := bRk) (mo := bMo) (stops := [(5, [true, true, true, true])]) (inl := []) (f := 400) hd H
set_option maxRecDepth 100000 in
theorem r_X1_putInOrder_5 {xs : List Int32} {d : Nat} {Q : bPo} (hd : 1 ≤ d) {b : Bool} {b0 b1 b2 : Bool} {m : Nat → Int → Int} {x2 x3 : Int}
    (H : inR x3 ∧ ((x3 ≤ 0 → ((0 ≤ x3 ∧ x3 < 6) ∧ (Q 0 ((b0, b1, b2), up (up m 80 x3 x2) 79 5 ((m 79 5) + 1))))) ∧ (0 < x3 → ((0 ≤ x3 - 1 ∧ x3 - 1 < 6) ∧ ((0 ≤ m 80 (x3 - 1) ∧ m 80 (x3 - 1) < 6) ∧ ((0 ≤ x2 ∧ x2 < 6) ∧ (inR (m (bW b + 2) (m 80 (x3 - 1))) ∧ (inR (m (bW b + 2) x2) ∧ ((m (bW b + 2) (m 80 (x3 - 1)) ≤ m (bW b + 2) x2 → ((0 ≤ x3 ∧ x3 < 6) ∧ (Q 0 ((b0, b1, b2), up (up m 80 x3 x2) 79 5 ((m 79 5) + 1))))) ∧ (m (bW b + 2) x2 < m (bW b + 2) (m 80 (x3 - 1)) → ((0 ≤ x3 - 1 ∧ x3 - 1 < 6) ∧ ((0 ≤ x3 ∧ x3 < 6) ∧ (bGo xs d aM_X1_putInOrder 5 [vr 79, vr (bW b), vi x2, vi (x3 + (-1))] [] ((b0, b1, b2), up m 80 x3 (m 80 (x3 - 1))) Q))))))))))))) :
    bGo xs d aM_X1_putInOrder 5 [vr 79, vr (bW b), vi x2, vi x3] [] ((b0, b1, b2), m) Q := by
  cases b <;> exact wX_sound (rk := bRk) (mo := bMo) (stops := [(5, [true, true, true, true])]) (inl := []) (f := 400) hd H
set_option maxRecDepth 100000 in
theorem r_X1_placeOf_0 {xs : List Int32} {d : Nat} {Q : bPo} (hd : 1 ≤ d) {b0 b1 b2 : Bool} {m : Nat → Int → Int} {x1 : Int}
    (H : bGo xs d aM_X1_placeOf 2 [vr 79, vi x1, vi 0] [] ((b0, b1, b2), m) Q) :
    bGo xs d aM_X1_placeOf 0 [vr 79, vi x1, vn] [] ((b0, b1, b2), m) Q := by
  exact wX_sound (rk := bRk) (mo := bMo) (stops := [(2, [true, true, true])]) (inl := []) (f := 400) hd H
set_option maxRecDepth 100000 in
theorem r_X1_placeOf_2 {xs : List Int32} {d : Nat} {Q : bPo} (hd : 1 ≤ d) {b0 b1 b2 : Bool} {m : Nat → Int → Int} {x1 x2 : Int}
    (H : inR x2 ∧ (inR (m 79 5) ∧ ((m 79 5 ≤ x2 → (Q (-1) ((b0, b1, b2), m))) ∧ (x2 < m 79 5 → ((0 ≤ x2 ∧ x2 < 6) ∧ (inR (m 80 x2) ∧ (inR x1 ∧ ((¬ m 80 x2 = x1 → (bGo xs d aM_X1_placeOf 2 [vr 79, vi x1, vi (x2 + 1)] [] ((b0, b1, b2), m) Q)) ∧ (m 80 x2 = x1 → (Q x2 ((b0, b1, b2), m))))))))))) :
    bGo xs d aM_X1_placeOf 2 [vr 79, vi x1, vi x2] [] ((b0, b1, b2), m) Q := by
  exact wX_sound (rk := bRk) (mo := bMo) (stops := [(2, [true, true, true])]) (inl := []) (f := 400) hd H
set_option maxRecDepth 100000 in
theorem r_X1_spanSets_0 {xs : List Int32} {d : Nat} {Q : bPo} (hd : 4 ≤ d) {b : Bool} {b0 b1 b2 : Bool} {m : Nat → Int → Int} {x2 x3 : Int}
    (H : bGo xs d aM_X1_spanSets 10 [vr 79, vr (bW b), vi x2, vn, vi 0, vn, vn, vn, vn, vn] [] ((b0, b1, b2), up m 83 0 x3) Q) :
    bGo xs d aM_X1_spanSets 0 [vr 79, vr (bW b), vi x2, vi x3, vn, vn, vn, vn, vn, vn] [] ((b0, b1, b2), m) Q := by
  cases b <;> exact wX_sound (rk := bRk) (mo := bMo) (stops := [(10, [true, true, true, false, true, false, false, false, false, false]), (46, [true, true, true, false, true, true, true, true, true, false])]) (inl := [57]) (f := 400) hd H
set_option maxRecDepth 100000 in
theorem r_X1_spanSets_10 {xs : List Int32} {d : Nat} {Q : bPo} (hd : 4 ≤ d) {b : Bool} {b0 b1 b2 : Bool} {m : Nat → Int → Int} {x2 x4 : Int}
    (H : inR x4 ∧ (inR (m 79 5) ∧ ((m 79 5 ≤ x4 → (Q 0 ((b0, b1, b2), m))) ∧ (x4 < m 79 5 → ((0 ≤ x4 ∧ x4 < 6) ∧ (bC xs 3 56 [vr (bW b), vi x2, vi (m 80 x4)] ((b0, b1, b2), m) (fun z1 μ2 => (μ2.1 = (b0, b1, b2)) ∧ (bGo xs d aM_X1_spanSets 46 [vr 79, vr (bW b), vi x2, vn, vi x4, vi (m 80 x4), vi z1, vi (bShl 1 x4), vi 0, vn] [] ((b0, b1, b2), μ2.2) Q)))))))) :
    bGo xs d aM_X1_spanSets 10 [vr 79, vr (bW b), vi x2, vn, vi x4, vn, vn, vn, vn, vn] [] ((b0, b1, b2), m) Q := by
  cases b <;> exact wX_sound (rk := bRk) (mo := bMo) (stops := [(10, [true, true, true, false, true, false, false, false, false, false]), (46, [true, true, true, false, true, true, true, true, true, false])]) (inl := [57]) (f := 400) hd H
set_option maxRecDepth 100000 in
theorem r_X1_spanSets_46 {xs : List Int32} {d : Nat} {Q : bPo} (hd : 4 ≤ d) {b : Bool} {b0 b1 b2 : Bool} {m : Nat → Int → Int} {x2 x4 x5 x6 x7 x8 : Int}
    (H : inR x8 ∧ (inR x7 ∧ ((x7 ≤ x8 → (bGo xs d aM_X1_spanSets 10 [vr 79, vr (bW b), vi x2, vn, vi (x4 + 1), vn, vn, vn, vn, vn] [] ((b0, b1, b2), m) Q)) ∧ (x8 < x7 → (inR x6 ∧ ((x6 = (-1) → ((0 ≤ x7 + x8 ∧ x7 + x8 < 64) ∧ (bGo xs d aM_X1_spanSets 46 [vr 79, vr (bW b), vi x2, vn, vi x4, vi x5, vi x6, vi x7, vi (x8 + 1), vn] [] ((b0, b1, b2), up m 83 (x7 + x8) (-1)) Q))) ∧ (¬ x6 = (-1) → ((0 ≤ x8 ∧ x8 < 64) ∧ (inR (m 83 x8) ∧ ((¬ m 83 x8 = (-1) → ((0 ≤ x8 ∧ x8 < 64) ∧ (inR ((m 83 x8) + x6) ∧ (((m 83 x8) + x6 = (-1) → ((0 ≤ x7 + x8 ∧ x7 + x8 < 64) ∧ (bGo xs d aM_X1_spanSets 46 [vr 79, vr (bW b), vi x2, vn, vi x4, vi x5, vi x6, vi x7, vi (x8 + 1), vn] [] ((b0, b1, b2), up m 83 (x7 + x8) (-1)) Q))) ∧ (¬ (m 83 x8) + x6 = (-1) → ((0 ≤ x5 ∧ x5 < 6) ∧ (inR ((m (bW b + 9) 66) + ((m 83 x8) + x6)) ∧ (inR (m (bW b + 2) x5) ∧ ((m (bW b + 2) x5 < (m (bW b + 9) 66) + ((m 83 x8) + x6) → ((0 ≤ x7 + x8 ∧ x7 + x8 < 64) ∧ (bGo xs d aM_X1_spanSets 46 [vr 79, vr (bW b), vi x2, vn, vi x4, vi x5, vi x6, vi x7, vi (x8 + 1), vn] [] ((b0, b1, b2), up m 83 (x7 + x8) (-1)) Q))) ∧ ((m (bW b + 9) 66) + ((m 83 x8) + x6) ≤ m (bW b + 2) x5 → ((0 ≤ x7 + x8 ∧ x7 + x8 < 64) ∧ (bGo xs d aM_X1_spanSets 46 [vr 79, vr (bW b), vi x2, vn, vi x4, vi x5, vi x6, vi x7, vi (x8 + 1), vn] [] ((b0, b1, b2), up m 83 (x7 + x8) ((m 83 x8) + x6)) Q)))))))))))) ∧ (m 83 x8 = (-1) → ((0 ≤ x7 + x8 ∧ x7 + x8 < 64) ∧ (bGo xs d aM_X1_spanSets 46 [vr 79, vr (bW b), vi x2, vn, vi x4, vi x5, vi x6, vi x7, vi (x8 + 1), vn] [] ((b0, b1, b2), up m 83 (x7 + x8) (-1)) Q))))))))))))) :
    bGo xs d aM_X1_spanSets 46 [vr 79, vr (bW b), vi x2, vn, vi x4, vi x5, vi x6, vi x7, vi x8, vn] [] ((b0, b1, b2), m) Q := by
  cases b <;> exact wX_sound (rk := bRk) (mo := bMo) (stops := [(10, [true, true, true, false, true, false, false, false, false, false]), (46, [true, true, true, false, true, true, true, true, true, false])]) (inl := [57]) (f := 400) hd H
set_option maxRecDepth 100000 in
theorem r_X1_dealNothing_0 {xs : List Int32} {d : Nat} {Q : bPo} (hd : 2 ≤ d) {b0 b1 b2 : Bool} {m : Nat → Int → Int}
    (H : bGo xs d aM_X1_dealNothing 2 [vr 79, vi 0] [] ((b0, b1, b2), m) Q) :
    bGo xs d aM_X1_dealNothing 0 [vr 79, vn] [] ((b0, b1, b2), m) Q := by
  exact wX_sound (rk := bRk) (mo := bMo) (stops := [(2, [true, true])]) (inl := [3]) (f := 400) hd H
set_option maxRecDepth 100000 in
theorem r_X1_dealNothing_2 {xs : List Int32} {d : Nat} {Q : bPo} (hd : 2 ≤ d) {b0 b1 b2 : Bool} {m : Nat → Int → Int} {x1 : Int}
    (H : inR x1 ∧ (inR ((bShl 1 (m 79 5)) - 1) ∧ (((bShl 1 (m 79 5)) - 1 < x1 → (Q 0 ((b0, b1, b2), m))) ∧ (x1 ≤ (bShl 1 (m 79 5)) - 1 → ((0 ≤ x1 ∧ x1 < 64) ∧ ((0 ≤ x1 ∧ x1 < 64) ∧ (bGo xs d aM_X1_dealNothing 2 [vr 79, vi (x1 + 1)] [] ((b0, b1, b2), up m 84 x1 ((-9) * (m 82 x1))) Q))))))) :
    bGo xs d aM_X1_dealNothing 2 [vr 79, vi x1] [] ((b0, b1, b2), m) Q := by
  exact wX_sound (rk := bRk) (mo := bMo) (stops := [(2, [true, true])]) (inl := [3]) (f := 400) hd H
set_option maxRecDepth 100000 in
theorem r_X1_shareOf_0 {xs : List Int32} {d : Nat} {Q : bPo} (hd : 1 ≤ d) {b0 b1 b2 : Bool} {m : Nat → Int → Int} {x1 x2 : Int}
    (H : (0 ≤ x2 ∧ x2 < 64) ∧ (bGo xs d aM_X1_shareOf 10 [vr 79, vi x1, vi x2, vi (m 84 x2), vi x2, vn] [] ((b0, b1, b2), m) Q)) :
    bGo xs d aM_X1_shareOf 0 [vr 79, vi x1, vi x2, vn, vn, vn] [] ((b0, b1, b2), m) Q := by
  exact wX_sound (rk := bRk) (mo := bMo) (stops := [(10, [true, true, true, true, true, false])]) (inl := []) (f := 400) hd H
set_option maxRecDepth 100000 in
theorem r_X1_shareOf_10 {xs : List Int32} {d : Nat} {Q : bPo} (hd : 1 ≤ d) {b0 b1 b2 : Bool} {m : Nat → Int → Int} {x1 x2 x3 x4 : Int}
    (H : inR x4 ∧ ((x4 ≤ 0 → (Q x3 ((b0, b1, b2), m))) ∧ (0 < x4 → ((0 ≤ x4 ∧ x4 < 64) ∧ (inR (m 83 x4) ∧ ((m 83 x4 = (-1) → (bGo xs d aM_X1_shareOf 10 [vr 79, vi x1, vi x2, vi x3, vi (bAnd (x4 - 1) x2), vn] [] ((b0, b1, b2), m) Q)) ∧ (¬ m 83 x4 = (-1) → ((0 ≤ x4 ∧ x4 < 64) ∧ ((0 ≤ x4 ∧ x4 < 64) ∧ ((0 ≤ bXor x2 x4 ∧ bXor x2 x4 < 64) ∧ (inR x3 ∧ (inR ((((m 81 x4) * 1000000) - (x1 * (m 82 x4))) + (m 84 (bXor x2 x4))) ∧ (bGo xs d aM_X1_shareOf 10 [vr 79, vi x1, vi x2, vi (max x3 ((((m 81 x4) * 1000000) - (x1 * (m 82 x4))) + (m 84 (bXor x2 x4)))), vi (bAnd (x4 - 1) x2), vn] [] ((b0, b1, b2), m) Q))))))))))))) :
    bGo xs d aM_X1_shareOf 10 [vr 79, vi x1, vi x2, vi x3, vi x4, vn] [] ((b0, b1, b2), m) Q := by
  exact wX_sound (rk := bRk) (mo := bMo) (stops := [(10, [true, true, true, true, true, false])]) (inl := []) (f := 400) hd H
set_option maxRecDepth 100000 in
theorem r_X1_dealTo_0 {xs : List Int32} {d : Nat} {Q : bPo} (hd : 5 ≤ d) {b : Bool} {b0 b1 b2 : Bool} {m : Nat → Int → Int} {x2 : Int}
    (H : bC xs 4 7 [vr 79, vr (bW b), vi x2, vi 0] ((b0, b1, b2), m) (fun z1 μ2 => (μ2.1 = (b0, b1, b2)) ∧ (bGo xs d aM_X1_dealTo 12 [vr 79, vn, vi x2, vi ((bShl 1 (μ2.2 79 5)) - 1)] [] ((b0, b1, b2), μ2.2) Q))) :
    bGo xs d aM_X1_dealTo 0 [vr 79, vr (bW b), vi x2, vn] [] ((b0, b1, b2), m) Q := by
  cases b <;> exact wX_sound (rk := bRk) (mo := bMo) (stops := [(12, [true, false, true, true])]) (inl := [3]) (f := 400) hd H
set_option maxRecDepth 100000 in
theorem r_X1_dealTo_12 {xs : List Int32} {d : Nat} {Q : bPo} (hd : 5 ≤ d) {b0 b1 b2 : Bool} {m : Nat → Int → Int} {x2 x3 : Int}
    (H : inR x3 ∧ ((x3 ≤ 0 → (Q 0 ((b0, b1, b2), m))) ∧ (0 < x3 → (bC xs 1 9 [vr 79, vi x2, vi x3] ((b0, b1, b2), m) (fun z3 μ4 => (μ4.1 = (b0, b1, b2)) ∧ ((0 ≤ x3 ∧ x3 < 64) ∧ (bGo xs d aM_X1_dealTo 12 [vr 79, vn, vi x2, vi (x3 + (-1))] [] ((b0, b1, b2), up μ4.2 84 x3 z3) Q))))))) :
    bGo xs d aM_X1_dealTo 12 [vr 79, vn, vi x2, vi x3] [] ((b0, b1, b2), m) Q := by
  exact wX_sound (rk := bRk) (mo := bMo) (stops := [(12, [true, false, true, true])]) (inl := [3]) (f := 400) hd H
set_option maxRecDepth 100000 in
theorem r_X1_dealToAllBut_0 {xs : List Int32} {d : Nat} {Q : bPo} (hd : 6 ≤ d) {b : Bool} {b0 b1 b2 : Bool} {m : Nat → Int → Int} {x2 : Int}
    (H : bC xs 2 8 [vr 79] ((b0, b1, b2), m) (fun z1 μ2 => (μ2.1 = (b0, b1, b2)) ∧ (bGo xs d aM_X1_dealToAllBut 6 [vr 79, vr (bW b), vi x2, vi 0] [] ((b0, b1, b2), μ2.2) Q))) :
    bGo xs d aM_X1_dealToAllBut 0 [vr 79, vr (bW b), vi x2, vn] [] ((b0, b1, b2), m) Q := by
  cases b <;> exact wX_sound (rk := bRk) (mo := bMo) (stops := [(6, [true, true, true, true])]) (inl := []) (f := 400) hd H
set_option maxRecDepth 100000 in
theorem r_X1_dealToAllBut_6 {xs : List Int32} {d : Nat} {Q : bPo} (hd : 6 ≤ d) {b : Bool} {b0 b1 b2 : Bool} {m : Nat → Int → Int} {x2 x3 : Int}
    (H : inR x3 ∧ (inR (m (bW b) 10) ∧ ((m (bW b) 10 ≤ x3 → (Q 0 ((b0, b1, b2), m))) ∧ (x3 < m (bW b) 10 → (inR x3 ∧ (inR x2 ∧ ((x3 = x2 → (bGo xs d aM_X1_dealToAllBut 6 [vr 79, vr (bW b), vi x2, vi (x3 + 1)] [] ((b0, b1, b2), m) Q)) ∧ (¬ x3 = x2 → (bC xs 5 10 [vr 79, vr (bW b), vi x3] ((b0, b1, b2), m) (fun z3 μ4 => (μ4.1 = (b0, b1, b2)) ∧ (bGo xs d aM_X1_dealToAllBut 6 [vr 79, vr (bW b), vi x2, vi (x3 + 1)] [] ((b0, b1, b2), μ4.2) Q))))))))))) :
    bGo xs d aM_X1_dealToAllBut 6 [vr 79, vr (bW b), vi x2, vi x3] [] ((b0, b1, b2), m) Q := by
  cases b <;> exact wX_sound (rk := bRk) (mo := bMo) (stops := [(6, [true, true, true, true])]) (inl := []) (f := 400) hd H
set_option maxRecDepth 100000 in
theorem r_X1_digitsOf_0 {xs : List Int32} {d : Nat} {Q : bPo} (hd : 7 ≤ d) {b : Bool} {b0 b1 b2 : Bool} {m : Nat → Int → Int} {x2 : Int}
    (H : inR (x2 + 999999) ∧ (bGo xs d aM_X1_digitsOf 13 [vn, vr (bW b), vn, vi ((((x2 + 999999) / 1000000) * 1000000) - x2), vi 0] [] ((b0, b1, b2), m) Q)) :
    bGo xs d aM_X1_digitsOf 0 [vr 79, vr (bW b), vi x2, vn, vn] [] ((b0, b1, b2), m) Q := by
  cases b <;> exact wX_sound (rk := bRk) (mo := bMo) (stops := [(13, [false, true, false, true, true])]) (inl := [42, 46]) (f := 400) hd H
set_option maxRecDepth 100000 in
theorem r_X1_digitsOf_13 {xs : List Int32} {d : Nat} {Q : bPo} (hd : 7 ≤ d) {b : Bool} {b0 b1 b2 : Bool} {m : Nat → Int → Int} {x3 x4 : Int}
    (H : inR x4 ∧ (inR (m (bW b) 9) ∧ ((m (bW b) 9 ≤ x4 → (Q x3 ((b0, b1, b2), m))) ∧ (x4 < m (bW b) 9 → (inR x4 ∧ ((x4 < 0 → ((0 ≤ ((m (bW b) 9) - 1) - x4 ∧ ((m (bW b) 9) - 1) - x4 < 7) ∧ (bGo xs d aM_X1_digitsOf 13 [vn, vr (bW b), vn, vi (x3 + (9 * (bXv xs 1001 (((m (bW b) 9) - 1) - x4)))), vi (x4 + 1)] [] ((b0, b1, b2), m) Q))) ∧ (0 ≤ x4 → (inR x4 ∧ (inR (m (bW b) 9) ∧ ((m (bW b) 9 ≤ x4 → ((0 ≤ ((m (bW b) 9) - 1) - x4 ∧ ((m (bW b) 9) - 1) - x4 < 7) ∧ (bGo xs d aM_X1_digitsOf 13 [vn, vr (bW b), vn, vi (x3 + (9 * (bXv xs 1001 (((m (bW b) 9) - 1) - x4)))), vi (x4 + 1)] [] ((b0, b1, b2), m) Q))) ∧ (x4 < m (bW b) 9 → ((0 ≤ 18 + x4 ∧ 18 + x4 < 67) ∧ (inR (m (bW b + 9) (18 + x4)) ∧ ((¬ m (bW b + 9) (18 + x4) = 0 → ((0 ≤ ((m (bW b) 9) - 1) - x4 ∧ ((m (bW b) 9) - 1) - x4 < 7) ∧ (bGo xs d aM_X1_digitsOf 13 [vn, vr (bW b), vn, vi (x3 + (9 * (bXv xs 1001 (((m (bW b) 9) - 1) - x4)))), vi (x4 + 1)] [] ((b0, b1, b2), m) Q))) ∧ (m (bW b + 9) (18 + x4) = 0 → (bGo xs d aM_X1_digitsOf 13 [vn, vr (bW b), vn, vi x3, vi (x4 + 1)] [] ((b0, b1, b2), m) Q)))))))))))))))) :
    bGo xs d aM_X1_digitsOf 13 [vn, vr (bW b), vn, vi x3, vi x4] [] ((b0, b1, b2), m) Q := by
  cases b <;> exact wX_sound (rk := bRk) (mo := bMo) (stops := [(13, [false, true, false, true, true])]) (inl := [42, 46]) (f := 400) hd H
set_option maxRecDepth 100000 in
theorem r_X1_learnBest_0 {xs : List Int32} {d : Nat} {Q : bPo} (hd : 8 ≤ d) {b : Bool} {b0 b1 b2 : Bool} {m : Nat → Int → Int} {x2 : Int}
    (H : bC xs 3 4 [vr 79, vr (bW b)] ((b0, b1, b2), m) (fun z1 μ2 => (μ2.1 = (b0, b1, b2)) ∧ (bGo xs d aM_X1_learnBest 13 [vr 79, vr (bW b), vi x2, vi (-1), vi (-1), vi 0, vn, vn] [] ((b0, b1, b2), μ2.2) Q))) :
    bGo xs d aM_X1_learnBest 0 [vr 79, vr (bW b), vi x2, vn, vn, vn, vn, vn] [] ((b0, b1, b2), m) Q := by
  cases b <;> exact wX_sound (rk := bRk) (mo := bMo) (stops := [(13, [true, true, true, true, true, true, false, false]), (32, [true, true, true, true, true, true, true, false])]) (inl := [3, 16, 47, 48]) (f := 400) hd H
set_option maxRecDepth 100000 in
theorem r_X1_learnBest_13 {xs : List Int32} {d : Nat} {Q : bPo} (hd : 8 ≤ d) {b : Bool} {b0 b1 b2 : Bool} {m : Nat → Int → Int} {x2 x3 x4 x5 : Int}
    (H : inR x5 ∧ (inR (m (bW b) 10) ∧ ((m (bW b) 10 ≤ x5 → (inR x2 ∧ ((¬ x2 = 0 → (Q x3 ((b0, b1, b2), m))) ∧ (x2 = 0 → (Q x4 ((b0, b1, b2), m)))))) ∧ (x5 < m (bW b) 10 → (bC xs 6 11 [vr 79, vr (bW b), vi x5] ((b0, b1, b2), m) (fun z3 μ4 => (μ4.1 = (b0, b1, b2)) ∧ (bGo xs d aM_X1_learnBest 32 [vr 79, vr (bW b), vi x2, vi x3, vi x4, vi x5, vi 0, vn] [] ((b0, b1, b2), μ4.2) Q))))))) :
    bGo xs d aM_X1_learnBest 13 [vr 79, vr (bW b), vi x2, vi x3, vi x4, vi x5, vn, vn] [] ((b0, b1, b2), m) Q := by
  cases b <;> exact wX_sound (rk := bRk) (mo := bMo) (stops := [(13, [true, true, true, true, true, true, false, false]), (32, [true, true, true, true, true, true, true, false])]) (inl := [3, 16, 47, 48]) (f := 400) hd H
set_option maxRecDepth 100000 in
theorem r_X1_learnBest_32 {xs : List Int32} {d : Nat} {Q : bPo} (hd : 8 ≤ d) {b : Bool} {b0 b1 b2 : Bool} {m : Nat → Int → Int} {x2 x3 x4 x5 x6 : Int}
    (H : inR x6 ∧ ((5 ≤ x6 → (bGo xs d aM_X1_learnBest 13 [vr 79, vr (bW b), vi x2, vi x3, vi x4, vi (x5 + 1), vn, vn] [] ((b0, b1, b2), m) Q)) ∧ (x6 < 5 → ((0 ≤ (36 + (x5 * 5)) + x6 ∧ (36 + (x5 * 5)) + x6 < 67) ∧ (inR (m (bW b + 9) ((36 + (x5 * 5)) + x6)) ∧ ((9 ≤ m (bW b + 9) ((36 + (x5 * 5)) + x6) → (bGo xs d aM_X1_learnBest 32 [vr 79, vr (bW b), vi x2, vi x3, vi x4, vi x5, vi (x6 + 1), vn] [] ((b0, b1, b2), m) Q)) ∧ (m (bW b + 9) ((36 + (x5 * 5)) + x6) < 9 → ((0 ≤ (36 + (x5 * 5)) + x6 ∧ (36 + (x5 * 5)) + x6 < 67) ∧ ((0 ≤ (36 + (x5 * 5)) + x6 ∧ (36 + (x5 * 5)) + x6 < 67) ∧ (bC xs 4 7 [vr 79, vr (bW b), vi x5, vi 0] ((b0, b1, b2), up m (bW b + 9) ((36 + (x5 * 5)) + x6) ((m (bW b + 9) ((36 + (x5 * 5)) + x6)) + 1)) (fun z5 μ6 => (μ6.1 = (b0, b1, b2)) ∧ ((0 ≤ (36 + (x5 * 5)) + x6 ∧ (36 + (x5 * 5)) + x6 < 67) ∧ ((0 ≤ (36 + (x5 * 5)) + x6 ∧ (36 + (x5 * 5)) + x6 < 67) ∧ (bC xs 1 9 [vr 79, vi x5, vi ((bShl 1 (μ6.2 79 5)) - 1)] ((b0, b1, b2), up μ6.2 (bW b + 9) ((36 + (x5 * 5)) + x6) ((μ6.2 (bW b + 9) ((36 + (x5 * 5)) + x6)) + (-1))) (fun z7 μ8 => (μ8.1 = (b0, b1, b2)) ∧ (inR (z7 + 999999) ∧ (inR ((z7 + 999999) / 1000000) ∧ (inR x3 ∧ (((z7 + 999999) / 1000000 ≤ x3 → (bGo xs d aM_X1_learnBest 32 [vr 79, vr (bW b), vi x2, vi x3, vi x4, vi x5, vi (x6 + 1), vn] [] ((b0, b1, b2), μ8.2) Q)) ∧ (x3 < (z7 + 999999) / 1000000 → (bGo xs d aM_X1_learnBest 32 [vr 79, vr (bW b), vi x2, vi ((z7 + 999999) / 1000000), vi ((x5 * 10) + x6), vi x5, vi (x6 + 1), vn] [] ((b0, b1, b2), μ8.2) Q))))))))))))))))))))) :
    bGo xs d aM_X1_learnBest 32 [vr 79, vr (bW b), vi x2, vi x3, vi x4, vi x5, vi x6, vn] [] ((b0, b1, b2), m) Q := by
  cases b <;> exact wX_sound (rk := bRk) (mo := bMo) (stops := [(13, [true, true, true, true, true, true, false, false]), (32, [true, true, true, true, true, true, true, false])]) (inl := [3, 16, 47, 48]) (f := 400) hd H
set_option maxRecDepth 100000 in
theorem r_X1_mostWithin_0 {xs : List Int32} {d : Nat} {Q : bPo} (hd : 1 ≤ d) {b0 b1 b2 : Bool} {m : Nat → Int → Int} {x1 : Int}
    (H : bGo xs d aM_X1_mostWithin 4 [vr 79, vi x1, vi 0, vi x1] [] ((b0, b1, b2), m) Q) :
    bGo xs d aM_X1_mostWithin 0 [vr 79, vi x1, vn, vn] [] ((b0, b1, b2), m) Q := by
  exact wX_sound (rk := bRk) (mo := bMo) (stops := [(4, [true, true, true, true])]) (inl := []) (f := 400) hd H
set_option maxRecDepth 100000 in
theorem r_X1_mostWithin_4 {xs : List Int32} {d : Nat} {Q : bPo} (hd : 1 ≤ d) {b0 b1 b2 : Bool} {m : Nat → Int → Int} {x1 x2 x3 : Int}
    (H : inR x3 ∧ ((x3 ≤ 0 → (Q x2 ((b0, b1, b2), m))) ∧ (0 < x3 → ((0 ≤ x3 ∧ x3 < 64) ∧ (inR (m 83 x3) ∧ ((m 83 x3 = (-1) → (bGo xs d aM_X1_mostWithin 4 [vr 79, vi x1, vi x2, vi (bAnd (x3 - 1) x1)] [] ((b0, b1, b2), m) Q)) ∧ (¬ m 83 x3 = (-1) → ((0 ≤ x3 ∧ x3 < 64) ∧ (inR x2 ∧ (inR (m 81 x3) ∧ (bGo xs d aM_X1_mostWithin 4 [vr 79, vi x1, vi (max x2 (m 81 x3)), vi (bAnd (x3 - 1) x1)] [] ((b0, b1, b2), m) Q))))))))))) :
    bGo xs d aM_X1_mostWithin 4 [vr 79, vi x1, vi x2, vi x3] [] ((b0, b1, b2), m) Q := by
  exact wX_sound (rk := bRk) (mo := bMo) (stops := [(4, [true, true, true, true])]) (inl := []) (f := 400) hd H
set_option maxRecDepth 100000 in
theorem r_X1_mostAlone_0 {xs : List Int32} {d : Nat} {Q : bPo} (hd : 5 ≤ d) {b : Bool} {b0 b1 b2 : Bool} {m : Nat → Int → Int} {x2 x3 : Int}
    (H : bC xs 3 4 [vr 79, vr (bW b)] ((b0, b1, b2), m) (fun z1 μ2 => (μ2.1 = (b0, b1, b2)) ∧ (bC xs 4 7 [vr 79, vr (bW b), vi x2, vi 0] ((b0, b1, b2), μ2.2) (fun z3 μ4 => (μ4.1 = (b0, b1, b2)) ∧ (bGo xs d aM_X1_mostAlone 18 [vr 79, vn, vn, vi x3, vi 0, vi 0] [] ((b0, b1, b2), μ4.2) Q))))) :
    bGo xs d aM_X1_mostAlone 0 [vr 79, vr (bW b), vi x2, vi x3, vn, vn] [] ((b0, b1, b2), m) Q := by
  cases b <;> exact wX_sound (rk := bRk) (mo := bMo) (stops := [(18, [true, false, false, true, true, true])]) (inl := []) (f := 400) hd H
set_option maxRecDepth 100000 in
theorem r_X1_mostAlone_18 {xs : List Int32} {d : Nat} {Q : bPo} (hd : 5 ≤ d) {b0 b1 b2 : Bool} {m : Nat → Int → Int} {x3 x4 x5 : Int}
    (H : inR x5 ∧ (inR (m 79 5) ∧ ((m 79 5 ≤ x5 → (bC xs 1 17 [vr 79, vi x4] ((b0, b1, b2), m) (fun z5 μ6 => (μ6.1 = (b0, b1, b2)) ∧ (Q z5 ((b0, b1, b2), μ6.2))))) ∧ (x5 < m 79 5 → ((0 ≤ x5 ∧ x5 < 6) ∧ (inR (bAnd (bShr x3 (m 80 x5)) 1) ∧ ((¬ bAnd (bShr x3 (m 80 x5)) 1 = 1 → (bGo xs d aM_X1_mostAlone 18 [vr 79, vn, vn, vi x3, vi x4, vi (x5 + 1)] [] ((b0, b1, b2), m) Q)) ∧ (bAnd (bShr x3 (m 80 x5)) 1 = 1 → (bGo xs d aM_X1_mostAlone 18 [vr 79, vn, vn, vi x3, vi (bOrr x4 (bShl 1 x5)), vi (x5 + 1)] [] ((b0, b1, b2), m) Q))))))))) :
    bGo xs d aM_X1_mostAlone 18 [vr 79, vn, vn, vi x3, vi x4, vi x5] [] ((b0, b1, b2), m) Q := by
  exact wX_sound (rk := bRk) (mo := bMo) (stops := [(18, [true, false, false, true, true, true])]) (inl := []) (f := 400) hd H
set_option maxRecDepth 100000 in
theorem r_X1_spiteOn_0 {xs : List Int32} {d : Nat} {Q : bPo} (hd : 6 ≤ d) {b : Bool} {b0 b1 b2 : Bool} {m : Nat → Int → Int} {x2 x3 : Int}
    (H : bC xs 3 4 [vr 79, vr (bW b)] ((b0, b1, b2), m) (fun z1 μ2 => (μ2.1 = (b0, b1, b2)) ∧ (bGo xs d aM_X1_spiteOn 14 [vr 79, vr (bW b), vi x2, vi x3, vi (-1), vi (-1), vi 0, vn] [] ((b0, b1, b2), μ2.2) Q))) :
    bGo xs d aM_X1_spiteOn 0 [vr 79, vr (bW b), vi x2, vi x3, vn, vn, vn, vn] [] ((b0, b1, b2), m) Q := by
  cases b <;> exact wX_sound (rk := bRk) (mo := bMo) (stops := [(14, [true, true, true, true, true, true, true, false])]) (inl := [42, 46]) (f := 400) hd H
set_option maxRecDepth 100000 in
theorem r_X1_spiteOn_14 {xs : List Int32} {d : Nat} {Q : bPo} (hd : 6 ≤ d) {b : Bool} {b0 b1 b2 : Bool} {m : Nat → Int → Int} {x2 x3 x4 x5 x6 : Int}
    (H : inR x6 ∧ (inR (m (bW b) 9) ∧ ((m (bW b) 9 ≤ x6 → (inR x3 ∧ ((¬ x3 = 0 → (Q x4 ((b0, b1, b2), m))) ∧ (x3 = 0 → (Q x5 ((b0, b1, b2), m)))))) ∧ (x6 < m (bW b) 9 → (inR x6 ∧ ((x6 < 0 → (bGo xs d aM_X1_spiteOn 14 [vr 79, vr (bW b), vi x2, vi x3, vi x4, vi x5, vi (x6 + 1), vn] [] ((b0, b1, b2), m) Q)) ∧ (0 ≤ x6 → (inR x6 ∧ (inR (m (bW b) 9) ∧ ((m (bW b) 9 ≤ x6 → (bGo xs d aM_X1_spiteOn 14 [vr 79, vr (bW b), vi x2, vi x3, vi x4, vi x5, vi (x6 + 1), vn] [] ((b0, b1, b2), m) Q)) ∧ (x6 < m (bW b) 9 → ((0 ≤ 18 + x6 ∧ 18 + x6 < 67) ∧ (inR (m (bW b + 9) (18 + x6)) ∧ ((¬ m (bW b + 9) (18 + x6) = 0 → (bGo xs d aM_X1_spiteOn 14 [vr 79, vr (bW b), vi x2, vi x3, vi x4, vi x5, vi (x6 + 1), vn] [] ((b0, b1, b2), m) Q)) ∧ (m (bW b + 9) (18 + x6) = 0 → (bC xs 5 20 [vr 79, vr (bW b), vi x2, vi x6] ((b0, b1, b2), m) (fun z3 μ4 => (μ4.1 = (b0, b1, b2)) ∧ (inR x5 ∧ ((x5 = (-1) → (bGo xs d aM_X1_spiteOn 14 [vr 79, vr (bW b), vi x2, vi x3, vi z3, vi x6, vi (x6 + 1), vn] [] ((b0, b1, b2), μ4.2) Q)) ∧ (¬ x5 = (-1) → (inR z3 ∧ (inR x4 ∧ ((x4 ≤ z3 → (bGo xs d aM_X1_spiteOn 14 [vr 79, vr (bW b), vi x2, vi x3, vi x4, vi x5, vi (x6 + 1), vn] [] ((b0, b1, b2), μ4.2) Q)) ∧ (z3 < x4 → (bGo xs d aM_X1_spiteOn 14 [vr 79, vr (bW b), vi x2, vi x3, vi z3, vi x6, vi (x6 + 1), vn] [] ((b0, b1, b2), μ4.2) Q))))))))))))))))))))))))) :
    bGo xs d aM_X1_spiteOn 14 [vr 79, vr (bW b), vi x2, vi x3, vi x4, vi x5, vi x6, vn] [] ((b0, b1, b2), m) Q := by
  cases b <;> exact wX_sound (rk := bRk) (mo := bMo) (stops := [(14, [true, true, true, true, true, true, true, false])]) (inl := [42, 46]) (f := 400) hd H
set_option maxRecDepth 100000 in
theorem r_X1_valuesBehind_0 {xs : List Int32} {d : Nat} {Q : bPo} (hd : 5 ≤ d) {b : Bool} {b0 b1 b2 : Bool} {m : Nat → Int → Int} {x2 x3 : Int}
    (H : bC xs 3 56 [vr (bW b), vi x2, vi x3] ((b0, b1, b2), m) (fun z1 μ2 => (μ2.1 = (b0, b1, b2)) ∧ (bC xs 1 6 [vr 79, vi x3] ((b0, b1, b2), μ2.2) (fun z3 μ4 => (μ4.1 = (b0, b1, b2)) ∧ (inR z1 ∧ ((z1 = (-1) → (Q 0 ((b0, b1, b2), μ4.2))) ∧ (¬ z1 = (-1) → (inR z3 ∧ ((¬ z3 = (-1) → (bC xs 4 7 [vr 79, vr (bW b), vi x2, vi z1] ((b0, b1, b2), μ4.2) (fun z5 μ6 => (μ6.1 = (b0, b1, b2)) ∧ (bC xs 1 17 [vr 79, vi (bAnd ((bShl 1 (μ6.2 79 5)) - 1) (bXor (bShl 1 z3) (-1)))] ((b0, b1, b2), μ6.2) (fun z7 μ8 => (μ8.1 = (b0, b1, b2)) ∧ (inR z1 ∧ ((z1 = (-1) → (Q z7 ((b0, b1, b2), μ8.2))) ∧ (¬ z1 = (-1) → ((0 ≤ x3 ∧ x3 < 6) ∧ (inR ((μ8.2 (bW b + 9) 66) + z1) ∧ (inR (μ8.2 (bW b + 2) x3) ∧ ((μ8.2 (bW b + 2) x3 < (μ8.2 (bW b + 9) 66) + z1 → (Q z7 ((b0, b1, b2), μ8.2))) ∧ ((μ8.2 (bW b + 9) 66) + z1 ≤ μ8.2 (bW b + 2) x3 → ((0 ≤ x3 ∧ x3 < 6) ∧ (Q (z7 + (μ8.2 (bW b + 1) x3)) ((b0, b1, b2), μ8.2)))))))))))))))) ∧ (z3 = (-1) → (Q 0 ((b0, b1, b2), μ4.2)))))))))))) :
    bGo xs d aM_X1_valuesBehind 0 [vr 79, vr (bW b), vi x2, vi x3, vn, vn, vn] [] ((b0, b1, b2), m) Q := by
  cases b <;> exact wX_sound (rk := bRk) (mo := bMo) (stops := []) (inl := [3, 57]) (f := 400) hd H
set_option maxRecDepth 100000 in
theorem r_X2_beginBest_0 {xs : List Int32} {d : Nat} {Q : bPo} (hd : 6 ≤ d) {b : Bool} {b0 b1 b2 : Bool} {m : Nat → Int → Int} {x2 x3 : Int}
    (H : bC xs 3 4 [vr 79, vr (bW b)] ((b0, b1, b2), m) (fun z1 μ2 => (μ2.1 = (b0, b1, b2)) ∧ (bC xs 1 22 [vr 85, vr (bW b), vi x2] ((b0, b1, b2), μ2.2) (fun z3 μ4 => (μ4.1 = (b0, b1, b2)) ∧ (bC xs 4 24 [vr 85, vr (bW b), vi x2] ((b0, b1, b2), μ4.2) (fun z5 μ6 => (μ6.1 = (b0, b1, b2)) ∧ (inR x3 ∧ ((x3 = 1 → (inR x3 ∧ ((¬ x3 = 1 → (Q 0 ((b0, b1, b2), μ6.2))) ∧ (x3 = 1 → (Q z5 ((b0, b1, b2), μ6.2)))))) ∧ (¬ x3 = 1 → (bC xs 4 24 [vr 85, vr (bW b), vi 0] ((b0, b1, b2), μ6.2) (fun z7 μ8 => (μ8.1 = (b0, b1, b2)) ∧ (inR z7 ∧ (inR z5 ∧ ((¬ z7 = z5 → (bGo xs d aM_X2_beginBest 56 [vr 85, vr (bW b), vi x2, vn, vi z5, vi 0, vi 0, vn] [] ((b0, b1, b2), μ8.2) Q)) ∧ (z7 = z5 → (inR x3 ∧ ((¬ x3 = 1 → (Q 0 ((b0, b1, b2), μ8.2))) ∧ (x3 = 1 → (Q z5 ((b0, b1, b2), μ8.2)))))))))))))))))))) :
    bGo xs d aM_X2_beginBest 0 [vr 85, vr (bW b), vi x2, vi x3, vn, vn, vn, vn] [] ((b0, b1, b2), m) Q := by
  cases b <;> exact wX_sound (rk := bRk) (mo := bMo) (stops := [(56, [true, true, true, false, true, true, true, false])]) (inl := []) (f := 400) hd H
set_option maxRecDepth 100000 in
theorem r_X2_beginBest_56 {xs : List Int32} {d : Nat} {Q : bPo} (hd : 6 ≤ d) {b : Bool} {b0 b1 b2 : Bool} {m : Nat → Int → Int} {x2 x4 x5 x6 : Int}
    (H : inR x6 ∧ (inR (m (bW b) 9) ∧ ((m (bW b) 9 ≤ x6 → (Q x5 ((b0, b1, b2), m))) ∧ (x6 < m (bW b) 9 → (bC xs 1 6 [vr 79, vi x6] ((b0, b1, b2), m) (fun z9 μ10 => (μ10.1 = (b0, b1, b2)) ∧ (inR z9 ∧ ((¬ z9 = (-1) → (bC xs 5 23 [vr 85, vr (bW b), vi x2, vi z9, vi x4] ((b0, b1, b2), μ10.2) (fun z11 μ12 => (μ12.1 = (b0, b1, b2)) ∧ (bGo xs d aM_X2_beginBest 56 [vr 85, vr (bW b), vi x2, vn, vi x4, vi ((x5 * 10) + z11), vi (x6 + 1), vn] [] ((b0, b1, b2), μ12.2) Q)))) ∧ (z9 = (-1) → (bGo xs d aM_X2_beginBest 56 [vr 85, vr (bW b), vi x2, vn, vi x4, vi ((x5 * 10) + 0), vi (x6 + 1), vn] [] ((b0, b1, b2), μ10.2) Q)))))))))) :
    bGo xs d aM_X2_beginBest 56 [vr 85, vr (bW b), vi x2, vn, vi x4, vi x5, vi x6, vn] [] ((b0, b1, b2), m) Q := by
  cases b <;> exact wX_sound (rk := bRk) (mo := bMo) (stops := [(56, [true, true, true, false, true, true, true, false])]) (inl := []) (f := 400) hd H
set_option maxRecDepth 100000 in
theorem r_X2_openRanges_0 {xs : List Int32} {d : Nat} {Q : bPo} (hd : 1 ≤ d) {b : Bool} {b0 b1 b2 : Bool} {m : Nat → Int → Int} {x2 : Int}
    (H : bGo xs d aM_X2_openRanges 2 [vr 85, vr (bW b), vi x2, vi 0, vn, vn, vn, vn] [] ((b0, b1, b2), m) Q) :
    bGo xs d aM_X2_openRanges 0 [vr 85, vr (bW b), vi x2, vn, vn, vn, vn, vn] [] ((b0, b1, b2), m) Q := by
  cases b <;> exact wX_sound (rk := bRk) (mo := bMo) (stops := [(2, [true, true, true, true, false, false, false, false]), (78, [true, true, true, true, true, true, true, false])]) (inl := []) (f := 400) hd H
set_option maxRecDepth 100000 in
theorem r_X2_openRanges_2 {xs : List Int32} {d : Nat} {Q : bPo} (hd : 1 ≤ d) {b : Bool} {b0 b1 b2 : Bool} {m : Nat → Int → Int} {x2 x3 : Int}
    (H : inR x3 ∧ (inR (m 79 5) ∧ ((m 79 5 ≤ x3 → (Q 0 ((b0, b1, b2), m))) ∧ (x3 < m 79 5 → ((0 ≤ x3 ∧ x3 < 6) ∧ ((0 ≤ 0 + (m 80 x3) ∧ 0 + (m 80 x3) < 67) ∧ ((0 ≤ m 80 x3 ∧ m 80 x3 < 6) ∧ ((0 ≤ x3 ∧ x3 < 6) ∧ ((0 ≤ x3 ∧ x3 < 6) ∧ ((0 ≤ x3 ∧ x3 < 6) ∧ ((0 ≤ x3 * 9 ∧ x3 * 9 < 54) ∧ (bGo xs d aM_X2_openRanges 78 [vr 85, vr (bW b), vi x2, vi x3, vi (m 80 x3), vi (m (bW b + 9) (0 + (m 80 x3))), vi 1, vn] [] ((b0, b1, b2), up (up (up (up m 88 x3 ((m (bW b + 3) (m 80 x3)) - (m (bW b + 9) (0 + (m 80 x3))))) 86 x3 0) 87 x3 0) 89 (x3 * 9) 0) Q)))))))))))) :
    bGo xs d aM_X2_openRanges 2 [vr 85, vr (bW b), vi x2, vi x3, vn, vn, vn, vn] [] ((b0, b1, b2), m) Q := by
  cases b <;> exact wX_sound (rk := bRk) (mo := bMo) (stops := [(2, [true, true, true, true, false, false, false, false]), (78, [true, true, true, true, true, true, true, false])]) (inl := []) (f := 400) hd H
set_option maxRecDepth 100000 in
theorem r_X2_openRanges_78 {xs : List Int32} {d : Nat} {Q : bPo} (hd : 1 ≤ d) {b : Bool} {b0 b1 b2 : Bool} {m : Nat → Int → Int} {x2 x3 x4 x5 x6 : Int}
    (H : (0 ≤ x3 ∧ x3 < 6) ∧ (inR x6 ∧ (inR (m 88 x3) ∧ ((m 88 x3 < x6 → (bGo xs d aM_X2_openRanges 2 [vr 85, vr (bW b), vi x2, vi (x3 + 1), vn, vn, vn, vn] [] ((b0, b1, b2), m) Q)) ∧ (x6 ≤ m 88 x3 → ((0 ≤ (((x4 * 8) + x5) + x6) - 1 ∧ (((x4 * 8) + x5) + x6) - 1 < 48) ∧ ((0 ≤ ((x3 * 9) + x6) - 1 ∧ ((x3 * 9) + x6) - 1 < 54) ∧ ((0 ≤ (x3 * 9) + x6 ∧ (x3 * 9) + x6 < 54) ∧ ((0 ≤ (x3 * 9) + x6 ∧ (x3 * 9) + x6 < 54) ∧ (inR ((up m 89 ((x3 * 9) + x6) ((m 89 (((x3 * 9) + x6) - 1)) + (m (bW b + 5) ((((x4 * 8) + x5) + x6) - 1)))) 89 ((x3 * 9) + x6)) ∧ (inR x2 ∧ ((x2 < (up m 89 ((x3 * 9) + x6) ((m 89 (((x3 * 9) + x6) - 1)) + (m (bW b + 5) ((((x4 * 8) + x5) + x6) - 1)))) 89 ((x3 * 9) + x6) → (bGo xs d aM_X2_openRanges 78 [vr 85, vr (bW b), vi x2, vi x3, vi x4, vi x5, vi (x6 + 1), vn] [] ((b0, b1, b2), up m 89 ((x3 * 9) + x6) ((m 89 (((x3 * 9) + x6) - 1)) + (m (bW b + 5) ((((x4 * 8) + x5) + x6) - 1)))) Q)) ∧ ((up m 89 ((x3 * 9) + x6) ((m 89 (((x3 * 9) + x6) - 1)) + (m (bW b + 5) ((((x4 * 8) + x5) + x6) - 1)))) 89 ((x3 * 9) + x6) ≤ x2 → ((0 ≤ x3 ∧ x3 < 6) ∧ (bGo xs d aM_X2_openRanges 78 [vr 85, vr (bW b), vi x2, vi x3, vi x4, vi x5, vi (x6 + 1), vn] [] ((b0, b1, b2), up (up m 89 ((x3 * 9) + x6) ((m 89 (((x3 * 9) + x6) - 1)) + (m (bW b + 5) ((((x4 * 8) + x5) + x6) - 1)))) 87 x3 x6) Q))))))))))))))) :
    bGo xs d aM_X2_openRanges 78 [vr 85, vr (bW b), vi x2, vi x3, vi x4, vi x5, vi x6, vn] [] ((b0, b1, b2), m) Q := by
  cases b <;> exact wX_sound (rk := bRk) (mo := bMo) (stops := [(2, [true, true, true, true, false, false, false, false]), (78, [true, true, true, true, true, true, true, false])]) (inl := []) (f := 400) hd H
set_option maxRecDepth 100000 in
theorem r_X2_cutRange_0 {xs : List Int32} {d : Nat} {Q : bPo} (hd : 5 ≤ d) {b : Bool} {b0 b1 b2 : Bool} {m : Nat → Int → Int} {x2 x3 x4 : Int}
    (H : (0 ≤ x3 ∧ x3 < 6) ∧ ((0 ≤ x3 ∧ x3 < 6) ∧ (bGo xs d aM_X2_cutRange 16 [vr 85, vr (bW b), vi x2, vi x3, vi x4, vi (m 87 x3), vi (m 86 x3)] [] ((b0, b1, b2), m) Q))) :
    bGo xs d aM_X2_cutRange 0 [vr 85, vr (bW b), vi x2, vi x3, vi x4, vn, vn] [] ((b0, b1, b2), m) Q := by
  cases b <;> exact wX_sound (rk := bRk) (mo := bMo) (stops := [(16, [true, true, true, true, true, true, true])]) (inl := []) (f := 400) hd H
set_option maxRecDepth 100000 in
theorem r_X2_cutRange_16 {xs : List Int32} {d : Nat} {Q : bPo} (hd : 5 ≤ d) {b : Bool} {b0 b1 b2 : Bool} {m : Nat → Int → Int} {x2 x3 x4 x5 x6 : Int}
    (H : inR x6 ∧ (inR x5 ∧ ((x5 ≤ x6 → ((0 ≤ x3 ∧ x3 < 6) ∧ ((0 ≤ x3 ∧ x3 < 6) ∧ (Q x5 ((b0, b1, b2), up (up m 86 x3 x5) 87 x3 x5))))) ∧ (x6 < x5 → ((0 ≤ x3 ∧ x3 < 6) ∧ ((0 ≤ x3 ∧ x3 < 6) ∧ (bC xs 4 24 [vr 85, vr (bW b), vi x2] ((b0, b1, b2), up (up m 86 x3 x6) 87 x3 x6) (fun z1 μ2 => (μ2.1 = (b0, b1, b2)) ∧ (inR z1 ∧ (inR x4 ∧ ((¬ z1 = x4 → (bGo xs d aM_X2_cutRange 16 [vr 85, vr (bW b), vi x2, vi x3, vi x4, vi x5, vi (x6 + 1)] [] ((b0, b1, b2), μ2.2) Q)) ∧ (z1 = x4 → (Q x6 ((b0, b1, b2), μ2.2)))))))))))))) :
    bGo xs d aM_X2_cutRange 16 [vr 85, vr (bW b), vi x2, vi x3, vi x4, vi x5, vi x6] [] ((b0, b1, b2), m) Q := by
  cases b <;> exact wX_sound (rk := bRk) (mo := bMo) (stops := [(16, [true, true, true, true, true, true, true])]) (inl := []) (f := 400) hd H
set_option maxRecDepth 100000 in
theorem r_X2_mostBegun_0 {xs : List Int32} {d : Nat} {Q : bPo} (hd : 4 ≤ d) {b : Bool} {b0 b1 b2 : Bool} {m : Nat → Int → Int} {x2 : Int}
    (H : bC xs 2 25 [vr 85, vi x2] ((b0, b1, b2), m) (fun z1 μ2 => (μ2.1 = (b0, b1, b2)) ∧ (bGo xs d aM_X2_mostBegun 16 [vr 85, vr (bW b), vi x2, vi ((bShl 1 (m 79 5)) - 1), vi 0, vn, vn] [] ((b0, b1, b2), μ2.2) Q))) :
    bGo xs d aM_X2_mostBegun 0 [vr 85, vr (bW b), vi x2, vn, vn, vn, vn] [] ((b0, b1, b2), m) Q := by
  cases b <;> exact wX_sound (rk := bRk) (mo := bMo) (stops := [(16, [true, true, true, true, true, false, false]), (59, [true, true, true, true, true, true, true])]) (inl := [3]) (f := 400) hd H
set_option maxRecDepth 100000 in
theorem r_X2_mostBegun_16 {xs : List Int32} {d : Nat} {Q : bPo} (hd : 4 ≤ d) {b : Bool} {b0 b1 b2 : Bool} {m : Nat → Int → Int} {x2 x3 x4 : Int}
    (H : inR x4 ∧ (inR (m (bW b) 10) ∧ ((m (bW b) 10 ≤ x4 → ((0 ≤ (x3 * 13) + x2 ∧ (x3 * 13) + x2 < 832) ∧ (Q (m 93 ((x3 * 13) + x2)) ((b0, b1, b2), m)))) ∧ (x4 < m (bW b) 10 → (bC xs 3 27 [vr 85, vr (bW b), vi x4] ((b0, b1, b2), m) (fun z3 μ4 => (μ4.1 = (b0, b1, b2)) ∧ (bC xs 2 28 [vr 85, vr (bW b), vi x2] ((b0, b1, b2), μ4.2) (fun z5 μ6 => (μ6.1 = (b0, b1, b2)) ∧ (inR x4 ∧ (inR ((μ6.2 (bW b) 10) - 1) ∧ ((¬ x4 = (μ6.2 (bW b) 10) - 1 → (bGo xs d aM_X2_mostBegun 59 [vr 85, vr (bW b), vi x2, vi x3, vi x4, vi 1, vi x3] [] ((b0, b1, b2), μ6.2) Q)) ∧ (x4 = (μ6.2 (bW b) 10) - 1 → (bGo xs d aM_X2_mostBegun 59 [vr 85, vr (bW b), vi x2, vi x3, vi x4, vi x3, vi x3] [] ((b0, b1, b2), μ6.2) Q))))))))))))) :
    bGo xs d aM_X2_mostBegun 16 [vr 85, vr (bW b), vi x2, vi x3, vi x4, vn, vn] [] ((b0, b1, b2), m) Q := by
  cases b <;> exact wX_sound (rk := bRk) (mo := bMo) (stops := [(16, [true, true, true, true, true, false, false]), (59, [true, true, true, true, true, true, true])]) (inl := [3]) (f := 400) hd H
set_option maxRecDepth 100000 in
theorem r_X2_mostBegun_59 {xs : List Int32} {d : Nat} {Q : bPo} (hd : 4 ≤ d) {b : Bool} {b0 b1 b2 : Bool} {m : Nat → Int → Int} {x2 x3 x4 x5 x6 : Int}
    (H : inR x6 ∧ (inR x5 ∧ ((x6 < x5 → (bGo xs d aM_X2_mostBegun 16 [vr 85, vr (bW b), vi x2, vi x3, vi (x4 + 1), vn, vn] [] ((b0, b1, b2), m) Q)) ∧ (x5 ≤ x6 → (bC xs 1 30 [vr 85, vi x6, vi x2] ((b0, b1, b2), m) (fun z7 μ8 => (μ8.1 = (b0, b1, b2)) ∧ (bGo xs d aM_X2_mostBegun 59 [vr 85, vr (bW b), vi x2, vi x3, vi x4, vi x5, vi (x6 + (-1))] [] ((b0, b1, b2), μ8.2) Q))))))) :
    bGo xs d aM_X2_mostBegun 59 [vr 85, vr (bW b), vi x2, vi x3, vi x4, vi x5, vi x6] [] ((b0, b1, b2), m) Q := by
  cases b <;> exact wX_sound (rk := bRk) (mo := bMo) (stops := [(16, [true, true, true, true, true, false, false]), (59, [true, true, true, true, true, true, true])]) (inl := [3]) (f := 400) hd H
set_option maxRecDepth 100000 in
theorem r_X2_dealNothing_0 {xs : List Int32} {d : Nat} {Q : bPo} (hd : 2 ≤ d) {b0 b1 b2 : Bool} {m : Nat → Int → Int} {x1 : Int}
    (H : bGo xs d aM_X2_dealNothing 2 [vr 85, vi x1, vi 0, vn, vn, vn, vn, vn] [] ((b0, b1, b2), m) Q) :
    bGo xs d aM_X2_dealNothing 0 [vr 85, vi x1, vn, vn, vn, vn, vn, vn] [] ((b0, b1, b2), m) Q := by
  exact wX_sound (rk := bRk) (mo := bMo) (stops := [(2, [true, true, true, false, false, false, false, false]), (22, [true, true, true, false, false, false, false, false]), (40, [true, true, true, true, true, false, false, false]), (49, [true, true, true, true, true, true, false, false])]) (inl := []) (f := 400) hd H
set_option maxRecDepth 100000 in
theorem r_X2_dealNothing_2 {xs : List Int32} {d : Nat} {Q : bPo} (hd : 2 ≤ d) {b0 b1 b2 : Bool} {m : Nat → Int → Int} {x1 x2 : Int}
    (H : inR x2 ∧ (inR x1 ∧ ((x1 < x2 → (bGo xs d aM_X2_dealNothing 22 [vr 85, vi x1, vi 0, vn, vn, vn, vn, vn] [] ((b0, b1, b2), m) Q)) ∧ (x2 ≤ x1 → ((0 ≤ x2 ∧ x2 < 832) ∧ (bGo xs d aM_X2_dealNothing 2 [vr 85, vi x1, vi (x2 + 1), vn, vn, vn, vn, vn] [] ((b0, b1, b2), up m 93 x2 0) Q)))))) :
    bGo xs d aM_X2_dealNothing 2 [vr 85, vi x1, vi x2, vn, vn, vn, vn, vn] [] ((b0, b1, b2), m) Q := by
  exact wX_sound (rk := bRk) (mo := bMo) (stops := [(2, [true, true, true, false, false, false, false, false]), (22, [true, true, true, false, false, false, false, false]), (40, [true, true, true, true, true, false, false, false]), (49, [true, true, true, true, true, true, false, false])]) (inl := []) (f := 400) hd H
set_option maxRecDepth 100000 in
theorem r_X2_dealNothing_22 {xs : List Int32} {d : Nat} {Q : bPo} (hd : 2 ≤ d) {b0 b1 b2 : Bool} {m : Nat → Int → Int} {x1 x2 : Int}
    (H : inR x2 ∧ (inR (m 79 5) ∧ ((m 79 5 ≤ x2 → (Q 0 ((b0, b1, b2), m))) ∧ (x2 < m 79 5 → (bGo xs d aM_X2_dealNothing 40 [vr 85, vi x1, vi x2, vi (bShl 1 x2), vi 0, vn, vn, vn] [] ((b0, b1, b2), m) Q))))) :
    bGo xs d aM_X2_dealNothing 22 [vr 85, vi x1, vi x2, vn, vn, vn, vn, vn] [] ((b0, b1, b2), m) Q := by
  exact wX_sound (rk := bRk) (mo := bMo) (stops := [(2, [true, true, true, false, false, false, false, false]), (22, [true, true, true, false, false, false, false, false]), (40, [true, true, true, true, true, false, false, false]), (49, [true, true, true, true, true, true, false, false])]) (inl := []) (f := 400) hd H
set_option maxRecDepth 100000 in
theorem r_X2_dealNothing_40 {xs : List Int32} {d : Nat} {Q : bPo} (hd : 2 ≤ d) {b0 b1 b2 : Bool} {m : Nat → Int → Int} {x1 x2 x3 x4 : Int}
    (H : inR x4 ∧ (inR x3 ∧ ((x3 ≤ x4 → (bGo xs d aM_X2_dealNothing 22 [vr 85, vi x1, vi (x2 + 1), vn, vn, vn, vn, vn] [] ((b0, b1, b2), m) Q)) ∧ (x4 < x3 → (bGo xs d aM_X2_dealNothing 49 [vr 85, vi x1, vi x2, vi x3, vi x4, vi 0, vn, vn] [] ((b0, b1, b2), m) Q))))) :
    bGo xs d aM_X2_dealNothing 40 [vr 85, vi x1, vi x2, vi x3, vi x4, vn, vn, vn] [] ((b0, b1, b2), m) Q := by
  exact wX_sound (rk := bRk) (mo := bMo) (stops := [(2, [true, true, true, false, false, false, false, false]), (22, [true, true, true, false, false, false, false, false]), (40, [true, true, true, true, true, false, false, false]), (49, [true, true, true, true, true, true, false, false])]) (inl := []) (f := 400) hd H
set_option maxRecDepth 100000 in
theorem r_X2_dealNothing_49 {xs : List Int32} {d : Nat} {Q : bPo} (hd : 2 ≤ d) {b0 b1 b2 : Bool} {m : Nat → Int → Int} {x1 x2 x3 x4 x5 : Int}
    (H : inR x5 ∧ (inR x1 ∧ ((x1 < x5 → (bGo xs d aM_X2_dealNothing 40 [vr 85, vi x1, vi x2, vi x3, vi (x4 + 1), vn, vn, vn] [] ((b0, b1, b2), m) Q)) ∧ (x5 ≤ x1 → ((0 ≤ x2 ∧ x2 < 6) ∧ (bC xs 1 26 [vr 85, vi x2, vi (m 86 x2), vi x4, vi x5] ((b0, b1, b2), m) (fun z1 μ2 => (μ2.1 = (b0, b1, b2)) ∧ ((0 ≤ x2 ∧ x2 < 6) ∧ ((0 ≤ x2 ∧ x2 < 6) ∧ (inR (μ2.2 87 x2) ∧ (inR (μ2.2 88 x2) ∧ ((¬ μ2.2 87 x2 = μ2.2 88 x2 → (inR z1 ∧ ((0 ≤ ((x3 + x4) * 13) + x5 ∧ ((x3 + x4) * 13) + x5 < 832) ∧ (bGo xs d aM_X2_dealNothing 49 [vr 85, vi x1, vi x2, vi x3, vi x4, vi (x5 + 1), vn, vn] [] ((b0, b1, b2), up μ2.2 93 (((x3 + x4) * 13) + x5) (max z1 (-1))) Q)))) ∧ (μ2.2 87 x2 = μ2.2 88 x2 → ((0 ≤ x2 ∧ x2 < 6) ∧ (bC xs 1 26 [vr 85, vi x2, vi (μ2.2 88 x2), vi x4, vi x5] ((b0, b1, b2), μ2.2) (fun z3 μ4 => (μ4.1 = (b0, b1, b2)) ∧ (inR z1 ∧ (inR z3 ∧ ((0 ≤ ((x3 + x4) * 13) + x5 ∧ ((x3 + x4) * 13) + x5 < 832) ∧ (bGo xs d aM_X2_dealNothing 49 [vr 85, vi x1, vi x2, vi x3, vi x4, vi (x5 + 1), vn, vn] [] ((b0, b1, b2), up μ4.2 93 (((x3 + x4) * 13) + x5) (max z1 z3)) Q)))))))))))))))))))) :
    bGo xs d aM_X2_dealNothing 49 [vr 85, vi x1, vi x2, vi x3, vi x4, vi x5, vn, vn] [] ((b0, b1, b2), m) Q := by
  exact wX_sound (rk := bRk) (mo := bMo) (stops := [(2, [true, true, true, false, false, false, false, false]), (22, [true, true, true, false, false, false, false, false]), (40, [true, true, true, true, true, false, false, false]), (49, [true, true, true, true, true, true, false, false])]) (inl := []) (f := 400) hd H
set_option maxRecDepth 100000 in
theorem r_X2_undealt_0 {xs : List Int32} {d : Nat} {Q : bPo} (hd : 1 ≤ d) {b0 b1 b2 : Bool} {m : Nat → Int → Int} {x1 x2 x3 x4 : Int}
    (H : (0 ≤ (x1 * 9) + x2 ∧ (x1 * 9) + x2 < 54) ∧ (inR (x4 - (m 89 ((x1 * 9) + x2))) ∧ ((x4 - (m 89 ((x1 * 9) + x2)) < 0 → (Q (-1) ((b0, b1, b2), m))) ∧ (0 ≤ x4 - (m 89 ((x1 * 9) + x2)) → ((0 ≤ (x3 * 13) + (x4 - (m 89 ((x1 * 9) + x2))) ∧ (x3 * 13) + (x4 - (m 89 ((x1 * 9) + x2))) < 832) ∧ (inR (m 93 ((x3 * 13) + (x4 - (m 89 ((x1 * 9) + x2))))) ∧ ((¬ m 93 ((x3 * 13) + (x4 - (m 89 ((x1 * 9) + x2)))) = (-1) → ((0 ≤ (x3 * 13) + (x4 - (m 89 ((x1 * 9) + x2))) ∧ (x3 * 13) + (x4 - (m 89 ((x1 * 9) + x2))) < 832) ∧ ((0 ≤ x1 ∧ x1 < 6) ∧ (inR x2 ∧ (inR (m 88 x1) ∧ ((¬ x2 = m 88 x1 → (Q ((m 93 ((x3 * 13) + (x4 - (m 89 ((x1 * 9) + x2))))) + 0) ((b0, b1, b2), m))) ∧ (x2 = m 88 x1 → ((0 ≤ bShl 1 x1 ∧ bShl 1 x1 < 64) ∧ (Q ((m 93 ((x3 * 13) + (x4 - (m 89 ((x1 * 9) + x2))))) + (m 81 (bShl 1 x1))) ((b0, b1, b2), m)))))))))) ∧ (m 93 ((x3 * 13) + (x4 - (m 89 ((x1 * 9) + x2)))) = (-1) → (Q (-1) ((b0, b1, b2), m)))))))))) :
    bGo xs d aM_X2_undealt 0 [vr 85, vi x1, vi x2, vi x3, vi x4, vn] [] ((b0, b1, b2), m) Q := by
  exact wX_sound (rk := bRk) (mo := bMo) (stops := []) (inl := []) (f := 400) hd H
set_option maxRecDepth 100000 in
theorem r_X2_findDays_0 {xs : List Int32} {d : Nat} {Q : bPo} (hd : 3 ≤ d) {b : Bool} {b0 b1 b2 : Bool} {m : Nat → Int → Int} {x2 : Int}
    (H : bGo xs d aM_X2_findDays 2 [vr 85, vr (bW b), vi x2, vi 0, vn, vn, vn, vn] [] ((b0, b1, b2), m) Q) :
    bGo xs d aM_X2_findDays 0 [vr 85, vr (bW b), vi x2, vn, vn, vn, vn, vn] [] ((b0, b1, b2), m) Q := by
  cases b <;> exact wX_sound (rk := bRk) (mo := bMo) (stops := [(2, [true, true, true, true, false, false, false, false]), (43, [true, true, true, true, true, true, true, false])]) (inl := []) (f := 400) hd H
set_option maxRecDepth 100000 in
theorem r_X2_findDays_2 {xs : List Int32} {d : Nat} {Q : bPo} (hd : 3 ≤ d) {b : Bool} {b0 b1 b2 : Bool} {m : Nat → Int → Int} {x2 x3 : Int}
    (H : inR x3 ∧ (inR (m 79 5) ∧ ((m 79 5 ≤ x3 → (Q 0 ((b0, b1, b2), m))) ∧ (x3 < m 79 5 → ((0 ≤ x3 ∧ x3 < 6) ∧ ((0 ≤ 0 + (m 80 x3) ∧ 0 + (m 80 x3) < 67) ∧ ((0 ≤ x3 ∧ x3 < 6) ∧ (bGo xs d aM_X2_findDays 43 [vr 85, vr (bW b), vi x2, vi x3, vi (m 80 x3), vi (m (bW b + 9) (0 + (m 80 x3))), vi (m 86 x3), vn] [] ((b0, b1, b2), m) Q)))))))) :
    bGo xs d aM_X2_findDays 2 [vr 85, vr (bW b), vi x2, vi x3, vn, vn, vn, vn] [] ((b0, b1, b2), m) Q := by
  cases b <;> exact wX_sound (rk := bRk) (mo := bMo) (stops := [(2, [true, true, true, true, false, false, false, false]), (43, [true, true, true, true, true, true, true, false])]) (inl := []) (f := 400) hd H
set_option maxRecDepth 100000 in
theorem r_X2_findDays_43 {xs : List Int32} {d : Nat} {Q : bPo} (hd : 3 ≤ d) {b : Bool} {b0 b1 b2 : Bool} {m : Nat → Int → Int} {x2 x3 x4 x5 x6 : Int}
    (H : (0 ≤ x3 ∧ x3 < 6) ∧ (inR x6 ∧ (inR (m 87 x3) ∧ ((m 87 x3 < x6 → (bGo xs d aM_X2_findDays 2 [vr 85, vr (bW b), vi x2, vi (x3 + 1), vn, vn, vn, vn] [] ((b0, b1, b2), m) Q)) ∧ (x6 ≤ m 87 x3 → ((0 ≤ x3 ∧ x3 < 6) ∧ (inR x6 ∧ (inR (m 88 x3) ∧ ((¬ x6 = m 88 x3 → (bC xs 2 55 [vr (bW b), vi x2, vi x4, vi (x5 + x6)] ((b0, b1, b2), m) (fun z1 μ2 => (μ2.1 = (b0, b1, b2)) ∧ ((0 ≤ (x3 * 9) + x6 ∧ (x3 * 9) + x6 < 54) ∧ (bGo xs d aM_X2_findDays 43 [vr 85, vr (bW b), vi x2, vi x3, vi x4, vi x5, vi (x6 + 1), vn] [] ((b0, b1, b2), up μ2.2 90 ((x3 * 9) + x6) z1) Q))))) ∧ (x6 = m 88 x3 → ((0 ≤ (x3 * 9) + x6 ∧ (x3 * 9) + x6 < 54) ∧ (bGo xs d aM_X2_findDays 43 [vr 85, vr (bW b), vi x2, vi x3, vi x4, vi x5, vi (x6 + 1), vn] [] ((b0, b1, b2), up m 90 ((x3 * 9) + x6) (-1)) Q)))))))))))) :
    bGo xs d aM_X2_findDays 43 [vr 85, vr (bW b), vi x2, vi x3, vi x4, vi x5, vi x6, vn] [] ((b0, b1, b2), m) Q := by
  cases b <;> exact wX_sound (rk := bRk) (mo := bMo) (stops := [(2, [true, true, true, true, false, false, false, false]), (43, [true, true, true, true, true, true, true, false])]) (inl := []) (f := 400) hd H
set_option maxRecDepth 100000 in
theorem r_X2_findPrices_0 {xs : List Int32} {d : Nat} {Q : bPo} (hd : 2 ≤ d) {b : Bool} {b0 b1 b2 : Bool} {m : Nat → Int → Int} {x2 : Int}
    (H : bGo xs d aM_X2_findPrices 2 [vr 85, vr (bW b), vi x2, vi 0, vn, vn, vn, vn, vn, vn] [] ((b0, b1, b2), m) Q) :
    bGo xs d aM_X2_findPrices 0 [vr 85, vr (bW b), vi x2, vn, vn, vn, vn, vn, vn, vn] [] ((b0, b1, b2), m) Q := by
  cases b <;> exact wX_sound (rk := bRk) (mo := bMo) (stops := [(2, [true, true, true, true, false, false, false, false, false, false]), (29, [true, true, true, true, false, false, false, false, false, false]), (48, [true, true, true, true, true, true, false, false, false, false]), (91, [true, true, true, true, true, true, true, true, true, false])]) (inl := [57]) (f := 400) hd H
set_option maxRecDepth 100000 in
theorem r_X2_findPrices_2 {xs : List Int32} {d : Nat} {Q : bPo} (hd : 2 ≤ d) {b : Bool} {b0 b1 b2 : Bool} {m : Nat → Int → Int} {x2 x3 : Int}
    (H : inR x3 ∧ (inR x2 ∧ ((x2 < x3 → (bGo xs d aM_X2_findPrices 29 [vr 85, vr (bW b), vi x2, vi 0, vn, vn, vn, vn, vn, vn] [] ((b0, b1, b2), up m 92 0 0) Q)) ∧ (x3 ≤ x2 → ((0 ≤ x3 ∧ x3 < 832) ∧ (bGo xs d aM_X2_findPrices 2 [vr 85, vr (bW b), vi x2, vi (x3 + 1), vn, vn, vn, vn, vn, vn] [] ((b0, b1, b2), up m 91 x3 0) Q)))))) :
    bGo xs d aM_X2_findPrices 2 [vr 85, vr (bW b), vi x2, vi x3, vn, vn, vn, vn, vn, vn] [] ((b0, b1, b2), m) Q := by
  cases b <;> exact wX_sound (rk := bRk) (mo := bMo) (stops := [(2, [true, true, true, true, false, false, false, false, false, false]), (29, [true, true, true, true, false, false, false, false, false, false]), (48, [true, true, true, true, true, true, false, false, false, false]), (91, [true, true, true, true, true, true, true, true, true, false])]) (inl := [57]) (f := 400) hd H
set_option maxRecDepth 100000 in
theorem r_X2_findPrices_29 {xs : List Int32} {d : Nat} {Q : bPo} (hd : 2 ≤ d) {b : Bool} {b0 b1 b2 : Bool} {m : Nat → Int → Int} {x2 x3 : Int}
    (H : inR x3 ∧ (inR (m 79 5) ∧ ((m 79 5 ≤ x3 → (Q 0 ((b0, b1, b2), m))) ∧ (x3 < m 79 5 → (bGo xs d aM_X2_findPrices 48 [vr 85, vr (bW b), vi x2, vi x3, vi (bShl 1 x3), vi 0, vn, vn, vn, vn] [] ((b0, b1, b2), m) Q))))) :
    bGo xs d aM_X2_findPrices 29 [vr 85, vr (bW b), vi x2, vi x3, vn, vn, vn, vn, vn, vn] [] ((b0, b1, b2), m) Q := by
  cases b <;> exact wX_sound (rk := bRk) (mo := bMo) (stops := [(2, [true, true, true, true, false, false, false, false, false, false]), (29, [true, true, true, true, false, false, false, false, false, false]), (48, [true, true, true, true, true, true, false, false, false, false]), (91, [true, true, true, true, true, true, true, true, true, false])]) (inl := [57]) (f := 400) hd H
set_option maxRecDepth 100000 in
theorem r_X2_findPrices_48 {xs : List Int32} {d : Nat} {Q : bPo} (hd : 2 ≤ d) {b : Bool} {b0 b1 b2 : Bool} {m : Nat → Int → Int} {x2 x3 x4 x5 : Int}
    (H : inR x5 ∧ (inR x4 ∧ ((x4 ≤ x5 → (bGo xs d aM_X2_findPrices 29 [vr 85, vr (bW b), vi x2, vi (x3 + 1), vn, vn, vn, vn, vn, vn] [] ((b0, b1, b2), m) Q)) ∧ (x5 < x4 → ((0 ≤ x4 + x5 ∧ x4 + x5 < 64) ∧ ((0 ≤ x5 ∧ x5 < 64) ∧ (inR ((up m 92 (x4 + x5) (-1)) 92 x5) ∧ (((up m 92 (x4 + x5) (-1)) 92 x5 = (-1) → (bGo xs d aM_X2_findPrices 91 [vr 85, vr (bW b), vi x2, vi x3, vi x4, vi x5, vi (x4 + x5), vi 0, vi x2, vn] [] ((b0, b1, b2), up m 92 (x4 + x5) (-1)) Q)) ∧ (¬ (up m 92 (x4 + x5) (-1)) 92 x5 = (-1) → (bGo xs d aM_X2_findPrices 91 [vr 85, vr (bW b), vi x2, vi x3, vi x4, vi x5, vi (x4 + x5), vi 1, vi x2, vn] [] ((b0, b1, b2), up m 92 (x4 + x5) (-1)) Q)))))))))) :
    bGo xs d aM_X2_findPrices 48 [vr 85, vr (bW b), vi x2, vi x3, vi x4, vi x5, vn, vn, vn, vn] [] ((b0, b1, b2), m) Q := by
  cases b <;> exact wX_sound (rk := bRk) (mo := bMo) (stops := [(2, [true, true, true, true, false, false, false, false, false, false]), (29, [true, true, true, true, false, false, false, false, false, false]), (48, [true, true, true, true, true, true, false, false, false, false]), (91, [true, true, true, true, true, true, true, true, true, false])]) (inl := [57]) (f := 400) hd H
set_option maxRecDepth 100000 in
theorem r_X2_findPrices_91 {xs : List Int32} {d : Nat} {Q : bPo} (hd : 2 ≤ d) {b : Bool} {b0 b1 b2 : Bool} {m : Nat → Int → Int} {x2 x3 x4 x5 x6 x7 x8 : Int}
    (H : inR x8 ∧ ((x8 < 0 → (bGo xs d aM_X2_findPrices 48 [vr 85, vr (bW b), vi x2, vi x3, vi x4, vi (x5 + 1), vn, vn, vn, vn] [] ((b0, b1, b2), m) Q)) ∧ (0 ≤ x8 → (inR x7 ∧ ((x7 = 0 → ((0 ≤ x3 ∧ x3 < 6) ∧ ((0 ≤ (x6 * 13) + x8 ∧ (x6 * 13) + x8 < 832) ∧ ((0 ≤ x6 ∧ x6 < 64) ∧ ((0 ≤ x6 ∧ x6 < 64) ∧ (bGo xs d aM_X2_findPrices 91 [vr 85, vr (bW b), vi x2, vi x3, vi x4, vi x5, vi x6, vi 0, vi (x8 + (-1)), vn] [] ((b0, b1, b2), up (up m 91 ((x6 * 13) + x8) (-1)) 92 x6 (m 92 x6)) Q)))))) ∧ (¬ x7 = 0 → (bC xs 1 29 [vr 85, vi x3, vi x5, vi x8] ((b0, b1, b2), m) (fun z1 μ2 => (μ2.1 = (b0, b1, b2)) ∧ ((0 ≤ x3 ∧ x3 < 6) ∧ (inR z1 ∧ ((z1 = (-1) → ((0 ≤ (x6 * 13) + x8 ∧ (x6 * 13) + x8 < 832) ∧ ((0 ≤ x6 ∧ x6 < 64) ∧ ((0 ≤ x6 ∧ x6 < 64) ∧ (bGo xs d aM_X2_findPrices 91 [vr 85, vr (bW b), vi x2, vi x3, vi x4, vi x5, vi x6, vi 0, vi (x8 + (-1)), vn] [] ((b0, b1, b2), up (up μ2.2 91 ((x6 * 13) + x8) (-1)) 92 x6 (μ2.2 92 x6)) Q))))) ∧ (¬ z1 = (-1) → ((0 ≤ μ2.2 80 x3 ∧ μ2.2 80 x3 < 6) ∧ (inR ((μ2.2 (bW b + 9) 66) + z1) ∧ (inR (μ2.2 (bW b + 2) (μ2.2 80 x3)) ∧ ((μ2.2 (bW b + 2) (μ2.2 80 x3) < (μ2.2 (bW b + 9) 66) + z1 → ((0 ≤ (x6 * 13) + x8 ∧ (x6 * 13) + x8 < 832) ∧ ((0 ≤ x6 ∧ x6 < 64) ∧ ((0 ≤ x6 ∧ x6 < 64) ∧ (bGo xs d aM_X2_findPrices 91 [vr 85, vr (bW b), vi x2, vi x3, vi x4, vi x5, vi x6, vi 0, vi (x8 + (-1)), vn] [] ((b0, b1, b2), up (up μ2.2 91 ((x6 * 13) + x8) (-1)) 92 x6 (μ2.2 92 x6)) Q))))) ∧ ((μ2.2 (bW b + 9) 66) + z1 ≤ μ2.2 (bW b + 2) (μ2.2 80 x3) → ((0 ≤ (x6 * 13) + x8 ∧ (x6 * 13) + x8 < 832) ∧ ((0 ≤ x6 ∧ x6 < 64) ∧ (bGo xs d aM_X2_findPrices 91 [vr 85, vr (bW b), vi x2, vi x3, vi x4, vi x5, vi x6, vi 1, vi (x8 + (-1)), vn] [] ((b0, b1, b2), up (up μ2.2 91 ((x6 * 13) + x8) z1) 92 x6 x8) Q)))))))))))))))))))) :
    bGo xs d aM_X2_findPrices 91 [vr 85, vr (bW b), vi x2, vi x3, vi x4, vi x5, vi x6, vi x7, vi x8, vn] [] ((b0, b1, b2), m) Q := by
  cases b <;> exact wX_sound (rk := bRk) (mo := bMo) (stops := [(2, [true, true, true, true, false, false, false, false, false, false]), (29, [true, true, true, true, false, false, false, false, false, false]), (48, [true, true, true, true, true, true, false, false, false, false]), (91, [true, true, true, true, true, true, true, true, true, false])]) (inl := [57]) (f := 400) hd H
set_option maxRecDepth 100000 in
theorem r_X2_quickestBy_0 {xs : List Int32} {d : Nat} {Q : bPo} (hd : 1 ≤ d) {b0 b1 b2 : Bool} {m : Nat → Int → Int} {x1 x2 x3 : Int}
    (H : (0 ≤ x1 ∧ x1 < 6) ∧ (bGo xs d aM_X2_quickestBy 11 [vr 85, vi x1, vi x2, vi x3, vi (-1), vi (m 86 x1), vn, vn, vn] [] ((b0, b1, b2), m) Q)) :
    bGo xs d aM_X2_quickestBy 0 [vr 85, vi x1, vi x2, vi x3, vn, vn, vn, vn, vn] [] ((b0, b1, b2), m) Q := by
  exact wX_sound (rk := bRk) (mo := bMo) (stops := [(11, [true, true, true, true, true, true, false, false, false])]) (inl := []) (f := 400) hd H
set_option maxRecDepth 100000 in
theorem r_X2_quickestBy_11 {xs : List Int32} {d : Nat} {Q : bPo} (hd : 1 ≤ d) {b0 b1 b2 : Bool} {m : Nat → Int → Int} {x1 x2 x3 x4 x5 : Int}
    (H : (0 ≤ x1 ∧ x1 < 6) ∧ (inR x5 ∧ (inR (m 87 x1) ∧ ((m 87 x1 < x5 → (Q x4 ((b0, b1, b2), m))) ∧ (x5 ≤ m 87 x1 → ((0 ≤ (x1 * 9) + x5 ∧ (x1 * 9) + x5 < 54) ∧ ((0 ≤ (x1 * 9) + x5 ∧ (x1 * 9) + x5 < 54) ∧ (inR (x3 - (m 89 ((x1 * 9) + x5))) ∧ ((x3 - (m 89 ((x1 * 9) + x5)) < 0 → (bGo xs d aM_X2_quickestBy 11 [vr 85, vi x1, vi x2, vi x3, vi x4, vi (x5 + 1), vn, vn, vn] [] ((b0, b1, b2), m) Q)) ∧ (0 ≤ x3 - (m 89 ((x1 * 9) + x5)) → (inR (m 90 ((x1 * 9) + x5)) ∧ ((m 90 ((x1 * 9) + x5) = (-1) → (bGo xs d aM_X2_quickestBy 11 [vr 85, vi x1, vi x2, vi x3, vi x4, vi (x5 + 1), vn, vn, vn] [] ((b0, b1, b2), m) Q)) ∧ (¬ m 90 ((x1 * 9) + x5) = (-1) → ((0 ≤ (x2 * 13) + (x3 - (m 89 ((x1 * 9) + x5))) ∧ (x2 * 13) + (x3 - (m 89 ((x1 * 9) + x5))) < 832) ∧ (inR (m 91 ((x2 * 13) + (x3 - (m 89 ((x1 * 9) + x5))))) ∧ ((m 91 ((x2 * 13) + (x3 - (m 89 ((x1 * 9) + x5)))) = (-1) → (bGo xs d aM_X2_quickestBy 11 [vr 85, vi x1, vi x2, vi x3, vi x4, vi (x5 + 1), vn, vn, vn] [] ((b0, b1, b2), m) Q)) ∧ (¬ m 91 ((x2 * 13) + (x3 - (m 89 ((x1 * 9) + x5)))) = (-1) → ((0 ≤ (x2 * 13) + (x3 - (m 89 ((x1 * 9) + x5))) ∧ (x2 * 13) + (x3 - (m 89 ((x1 * 9) + x5))) < 832) ∧ (inR x4 ∧ ((¬ x4 = (-1) → (inR x4 ∧ (inR ((m 91 ((x2 * 13) + (x3 - (m 89 ((x1 * 9) + x5))))) + (m 90 ((x1 * 9) + x5))) ∧ (bGo xs d aM_X2_quickestBy 11 [vr 85, vi x1, vi x2, vi x3, vi (min x4 ((m 91 ((x2 * 13) + (x3 - (m 89 ((x1 * 9) + x5))))) + (m 90 ((x1 * 9) + x5)))), vi (x5 + 1), vn, vn, vn] [] ((b0, b1, b2), m) Q)))) ∧ (x4 = (-1) → (bGo xs d aM_X2_quickestBy 11 [vr 85, vi x1, vi x2, vi x3, vi ((m 91 ((x2 * 13) + (x3 - (m 89 ((x1 * 9) + x5))))) + (m 90 ((x1 * 9) + x5))), vi (x5 + 1), vn, vn, vn] [] ((b0, b1, b2), m) Q)))))))))))))))))))))) :
    bGo xs d aM_X2_quickestBy 11 [vr 85, vi x1, vi x2, vi x3, vi x4, vi x5, vn, vn, vn] [] ((b0, b1, b2), m) Q := by
  exact wX_sound (rk := bRk) (mo := bMo) (stops := [(11, [true, true, true, true, true, true, false, false, false])]) (inl := []) (f := 400) hd H
set_option maxRecDepth 100000 in
theorem r_X2_shareOut_0 {xs : List Int32} {d : Nat} {Q : bPo} (hd : 1 ≤ d) {b0 b1 b2 : Bool} {m : Nat → Int → Int} {x1 x2 : Int}
    (H : bGo xs d aM_X2_shareOut 2 [vr 85, vi x1, vi x2, vi x1, vn, vn, vn] [] ((b0, b1, b2), m) Q) :
    bGo xs d aM_X2_shareOut 0 [vr 85, vi x1, vi x2, vn, vn, vn, vn] [] ((b0, b1, b2), m) Q := by
  exact wX_sound (rk := bRk) (mo := bMo) (stops := [(2, [true, true, true, true, false, false, false]), (45, [true, true, true, true, true, true, true])]) (inl := []) (f := 400) hd H
set_option maxRecDepth 100000 in
theorem r_X2_shareOut_2 {xs : List Int32} {d : Nat} {Q : bPo} (hd : 1 ≤ d) {b0 b1 b2 : Bool} {m : Nat → Int → Int} {x1 x2 x3 : Int}
    (H : inR x3 ∧ ((x3 ≤ 0 → (Q 0 ((b0, b1, b2), m))) ∧ (0 < x3 → ((0 ≤ x3 ∧ x3 < 64) ∧ (inR (m 92 x3) ∧ ((m 92 x3 = (-1) → (bGo xs d aM_X2_shareOut 2 [vr 85, vi x1, vi x2, vi (bAnd (x3 - 1) x1), vn, vn, vn] [] ((b0, b1, b2), m) Q)) ∧ (¬ m 92 x3 = (-1) → ((0 ≤ x3 ∧ x3 < 64) ∧ ((0 ≤ x3 ∧ x3 < 64) ∧ (bGo xs d aM_X2_shareOut 45 [vr 85, vi x1, vi x2, vi x3, vi (x1 * 13), vi (((bXor x1 x3) * 13) - (m 92 x3)), vi (m 92 x3)] [] ((b0, b1, b2), m) Q)))))))))) :
    bGo xs d aM_X2_shareOut 2 [vr 85, vi x1, vi x2, vi x3, vn, vn, vn] [] ((b0, b1, b2), m) Q := by
  exact wX_sound (rk := bRk) (mo := bMo) (stops := [(2, [true, true, true, true, false, false, false]), (45, [true, true, true, true, true, true, true])]) (inl := []) (f := 400) hd H
set_option maxRecDepth 100000 in
theorem r_X2_shareOut_45 {xs : List Int32} {d : Nat} {Q : bPo} (hd : 1 ≤ d) {b0 b1 b2 : Bool} {m : Nat → Int → Int} {x1 x2 x3 x4 x5 x6 : Int}
    (H : inR x6 ∧ (inR x2 ∧ ((x2 < x6 → (bGo xs d aM_X2_shareOut 2 [vr 85, vi x1, vi x2, vi (bAnd (x3 - 1) x1), vn, vn, vn] [] ((b0, b1, b2), m) Q)) ∧ (x6 ≤ x2 → ((0 ≤ x5 + x6 ∧ x5 + x6 < 832) ∧ (inR (m 93 (x5 + x6)) ∧ ((m 93 (x5 + x6) = (-1) → (bGo xs d aM_X2_shareOut 45 [vr 85, vi x1, vi x2, vi x3, vi x4, vi x5, vi (x6 + 1)] [] ((b0, b1, b2), m) Q)) ∧ (¬ m 93 (x5 + x6) = (-1) → ((0 ≤ x4 + x6 ∧ x4 + x6 < 832) ∧ ((0 ≤ x5 + x6 ∧ x5 + x6 < 832) ∧ ((0 ≤ x3 ∧ x3 < 64) ∧ (inR (m 93 (x4 + x6)) ∧ (inR ((m 93 (x5 + x6)) + (m 81 x3)) ∧ ((0 ≤ x4 + x6 ∧ x4 + x6 < 832) ∧ (bGo xs d aM_X2_shareOut 45 [vr 85, vi x1, vi x2, vi x3, vi x4, vi x5, vi (x6 + 1)] [] ((b0, b1, b2), up m 93 (x4 + x6) (max (m 93 (x4 + x6)) ((m 93 (x5 + x6)) + (m 81 x3)))) Q))))))))))))))) :
    bGo xs d aM_X2_shareOut 45 [vr 85, vi x1, vi x2, vi x3, vi x4, vi x5, vi x6] [] ((b0, b1, b2), m) Q := by
  exact wX_sound (rk := bRk) (mo := bMo) (stops := [(2, [true, true, true, true, false, false, false]), (45, [true, true, true, true, true, true, true])]) (inl := []) (f := 400) hd H
set_option maxRecDepth 100000 in
theorem r_X3_add_0 {xs : List Int32} {d : Nat} {Q : bPo} (hd : 1 ≤ d) {b0 b1 b2 : Bool} {m : Nat → Int → Int} {x1 x2 x3 : Int}
    (H : inR (m 32 3) ∧ ((m 32 3 < 12 → ((0 ≤ m 32 3 ∧ m 32 3 < 12) ∧ ((0 ≤ m 32 3 ∧ m 32 3 < 12) ∧ ((0 ≤ m 32 3 ∧ m 32 3 < 12) ∧ (Q ((m 32 3) + 1) ((b0, b1, b2), up (up (up (up m 33 (m 32 3) x1) 34 (m 32 3) x2) 35 (m 32 3) x3) 32 3 ((m 32 3) + 1))))))) ∧ (12 ≤ m 32 3 → (Q (-1) ((b0, b1, b2), m))))) :
    bGo xs d aM_X3_add 0 [vr 32, vi x1, vi x2, vi x3] [] ((b0, b1, b2), m) Q := by
  exact wX_sound (rk := bRk) (mo := bMo) (stops := []) (inl := []) (f := 400) hd H
set_option maxRecDepth 100000 in
theorem r_X3_doneOf_0 {xs : List Int32} {d : Nat} {Q : bPo} (hd : 4 ≤ d) {b : Bool} {b0 b1 b2 : Bool} {m : Nat → Int → Int} {x2 : Int}
    (H : bGo xs d aM_X3_doneOf 5 [vr 32, vr (bW b), vi x2, vi 0, vi 0] [] ((b0, b1, b2), m) Q) :
    bGo xs d aM_X3_doneOf 0 [vr 32, vr (bW b), vi x2, vn, vn] [] ((b0, b1, b2), m) Q := by
  cases b <;> exact wX_sound (rk := bRk) (mo := bMo) (stops := [(5, [true, true, true, true, true])]) (inl := []) (f := 400) hd H
set_option maxRecDepth 100000 in
theorem r_X3_doneOf_5 {xs : List Int32} {d : Nat} {Q : bPo} (hd : 4 ≤ d) {b : Bool} {b0 b1 b2 : Bool} {m : Nat → Int → Int} {x2 x3 x4 : Int}
    (H : (0 ≤ x2 ∧ x2 < 6) ∧ (inR x4 ∧ (inR (m (bW b + 3) x2) ∧ ((m (bW b + 3) x2 < x4 → (Q x3 ((b0, b1, b2), m))) ∧ (x4 ≤ m (bW b + 3) x2 → (bC xs 3 33 [vr 32, vr (bW b), vi x2, vi x4] ((b0, b1, b2), m) (fun z1 μ2 => (μ2.1 = (b0, b1, b2)) ∧ (inR z1 ∧ ((z1 = 0 → (bGo xs d aM_X3_doneOf 5 [vr 32, vr (bW b), vi x2, vi x3, vi (x4 + 1)] [] ((b0, b1, b2), μ2.2) Q)) ∧ (¬ z1 = 0 → (bGo xs d aM_X3_doneOf 5 [vr 32, vr (bW b), vi x2, vi (bOrr x3 (bShl 1 x4)), vi (x4 + 1)] [] ((b0, b1, b2), μ2.2) Q))))))))))) :
    bGo xs d aM_X3_doneOf 5 [vr 32, vr (bW b), vi x2, vi x3, vi x4] [] ((b0, b1, b2), m) Q := by
  cases b <;> exact wX_sound (rk := bRk) (mo := bMo) (stops := [(5, [true, true, true, true, true])]) (inl := []) (f := 400) hd H
set_option maxRecDepth 100000 in
theorem r_X3_isSo_0 {xs : List Int32} {d : Nat} {Q : bPo} (hd : 3 ≤ d) {b : Bool} {b0 b1 b2 : Bool} {m : Nat → Int → Int} {x2 x3 : Int}
    (H : bGo xs d aM_X3_isSo 3 [vr 32, vr (bW b), vi x2, vi x3, vi 0] [] ((b0, b1, b2), m) Q) :
    bGo xs d aM_X3_isSo 0 [vr 32, vr (bW b), vi x2, vi x3, vn] [] ((b0, b1, b2), m) Q := by
  cases b <;> exact wX_sound (rk := bRk) (mo := bMo) (stops := [(3, [true, true, true, true, true])]) (inl := []) (f := 400) hd H
set_option maxRecDepth 100000 in
theorem r_X3_isSo_3 {xs : List Int32} {d : Nat} {Q : bPo} (hd : 3 ≤ d) {b : Bool} {b0 b1 b2 : Bool} {m : Nat → Int → Int} {x2 x3 x4 : Int}
    (H : inR x4 ∧ (inR (m 32 3) ∧ ((m 32 3 ≤ x4 → (Q 1 ((b0, b1, b2), m))) ∧ (x4 < m 32 3 → ((0 ≤ x4 ∧ x4 < 12) ∧ (inR (m 33 x4) ∧ (inR x2 ∧ ((¬ m 33 x4 = x2 → (bGo xs d aM_X3_isSo 3 [vr 32, vr (bW b), vi x2, vi x3, vi (x4 + 1)] [] ((b0, b1, b2), m) Q)) ∧ (m 33 x4 = x2 → ((0 ≤ x4 ∧ x4 < 12) ∧ (bC xs 2 55 [vr (bW b), vi (m 34 x4), vi x2, vi x3] ((b0, b1, b2), m) (fun z1 μ2 => (μ2.1 = (b0, b1, b2)) ∧ ((0 ≤ x4 ∧ x4 < 12) ∧ (inR z1 ∧ (inR (μ2.2 35 x4) ∧ ((z1 = μ2.2 35 x4 → (bGo xs d aM_X3_isSo 3 [vr 32, vr (bW b), vi x2, vi x3, vi (x4 + 1)] [] ((b0, b1, b2), μ2.2) Q)) ∧ (¬ z1 = μ2.2 35 x4 → (Q 0 ((b0, b1, b2), μ2.2))))))))))))))))))) :
    bGo xs d aM_X3_isSo 3 [vr 32, vr (bW b), vi x2, vi x3, vi x4] [] ((b0, b1, b2), m) Q := by
  cases b <;> exact wX_sound (rk := bRk) (mo := bMo) (stops := [(3, [true, true, true, true, true])]) (inl := []) (f := 400) hd H
set_option maxRecDepth 100000 in
theorem r_X4_addThing_0 {xs : List Int32} {d : Nat} {Q : bPo} (hd : 1 ≤ d) {b : Bool} {b0 b1 b2 : Bool} {m : Nat → Int → Int}
    (H : (0 ≤ m (bW b) 9 ∧ m (bW b) 9 < 6) ∧ ((0 ≤ m (bW b) 9 ∧ m (bW b) 9 < 6) ∧ ((0 ≤ m (bW b) 9 ∧ m (bW b) 9 < 6) ∧ ((0 ≤ 12 + (m (bW b) 9) ∧ 12 + (m (bW b) 9) < 67) ∧ ((0 ≤ 24 + (m (bW b) 9) ∧ 24 + (m (bW b) 9) < 67) ∧ ((0 ≤ 30 + (m (bW b) 9) ∧ 30 + (m (bW b) 9) < 67) ∧ (Q (m (bW b) 9) ((b0, b1, b2), up (up (up (up (up (up (up m (bW b) 9 ((m (bW b) 9) + 1)) (bW b + 1) (m (bW b) 9) 10) (bW b + 2) (m (bW b) 9) 30) (bW b + 3) (m (bW b) 9) 0) (bW b + 9) (12 + (m (bW b) 9)) (-1)) (bW b + 9) (24 + (m (bW b) 9)) (-1)) (bW b + 9) (30 + (m (bW b) 9)) (-1))))))))) :
    bGo xs d aM_X4_addThing 0 [vr (bW b), vn] [] ((b0, b1, b2), m) Q := by
  cases b <;> exact wX_sound (rk := bRk) (mo := bMo) (stops := []) (inl := []) (f := 400) hd H
set_option maxRecDepth 100000 in
theorem r_X4_settle_0 {xs : List Int32} {d : Nat} {Q : bPo} (hd : 1 ≤ d) {b : Bool} {b0 b1 b2 : Bool} {m : Nat → Int → Int} {x1 : Int}
    (H : (0 ≤ 0 + x1 ∧ 0 + x1 < 67) ∧ ((0 ≤ x1 ∧ x1 < 6) ∧ (inR (m (bW b + 9) (0 + x1)) ∧ (inR (m (bW b + 3) x1) ∧ ((¬ m (bW b + 9) (0 + x1) = m (bW b + 3) x1 → (Q 0 ((b0, b1, b2), m))) ∧ (m (bW b + 9) (0 + x1) = m (bW b + 3) x1 → ((0 ≤ 18 + x1 ∧ 18 + x1 < 67) ∧ ((0 ≤ 24 + x1 ∧ 24 + x1 < 67) ∧ (Q 0 ((b0, b1, b2), up (up m (bW b + 9) (18 + x1) 1) (bW b + 9) (24 + x1) 0)))))))))) :
    bGo xs d aM_X4_settle 0 [vr (bW b), vi x1] [] ((b0, b1, b2), m) Q := by
  cases b <;> exact wX_sound (rk := bRk) (mo := bMo) (stops := []) (inl := []) (f := 400) hd H
set_option maxRecDepth 100000 in
theorem r_X4_isWhole_0 {xs : List Int32} {d : Nat} {Q : bPo} (hd : 1 ≤ d) {b : Bool} {b0 b1 b2 : Bool} {m : Nat → Int → Int}
    (H : bGo xs d aM_X4_isWhole 2 [vr (bW b), vi 0] [] ((b0, b1, b2), m) Q) :
    bGo xs d aM_X4_isWhole 0 [vr (bW b), vn] [] ((b0, b1, b2), m) Q := by
  cases b <;> exact wX_sound (rk := bRk) (mo := bMo) (stops := [(2, [true, true])]) (inl := []) (f := 400) hd H
set_option maxRecDepth 100000 in
theorem r_X4_isWhole_2 {xs : List Int32} {d : Nat} {Q : bPo} (hd : 1 ≤ d) {b : Bool} {b0 b1 b2 : Bool} {m : Nat → Int → Int} {x1 : Int}
    (H : inR x1 ∧ (inR (m (bW b) 9) ∧ ((m (bW b) 9 ≤ x1 → (inR (m (bW b) 9) ∧ ((m (bW b) 9 ≤ 0 → (Q 0 ((b0, b1, b2), m))) ∧ (0 < m (bW b) 9 → (inR (m (bW b) 10) ∧ ((m (bW b) 10 ≤ 0 → (Q 0 ((b0, b1, b2), m))) ∧ (0 < m (bW b) 10 → (Q 1 ((b0, b1, b2), m))))))))) ∧ (x1 < m (bW b) 9 → ((0 ≤ 0 + x1 ∧ 0 + x1 < 67) ∧ ((0 ≤ x1 ∧ x1 < 6) ∧ (inR (m (bW b + 9) (0 + x1)) ∧ (inR (m (bW b + 3) x1) ∧ ((m (bW b + 9) (0 + x1) ≤ m (bW b + 3) x1 → (bGo xs d aM_X4_isWhole 2 [vr (bW b), vi (x1 + 1)] [] ((b0, b1, b2), m) Q)) ∧ (m (bW b + 3) x1 < m (bW b + 9) (0 + x1) → (Q 0 ((b0, b1, b2), m)))))))))))) :
    bGo xs d aM_X4_isWhole 2 [vr (bW b), vi x1] [] ((b0, b1, b2), m) Q := by
  cases b <;> exact wX_sound (rk := bRk) (mo := bMo) (stops := [(2, [true, true])]) (inl := []) (f := 400) hd H
set_option maxRecDepth 100000 in
theorem r_X4_allSkills_0 {xs : List Int32} {d : Nat} {Q : bPo} (hd : 2 ≤ d) {b : Bool} {b0 b1 b2 : Bool} {m : Nat → Int → Int} {x1 : Int}
    (H : bGo xs d aM_X4_allSkills 4 [vr (bW b), vi x1, vi 0, vi 0] [] ((b0, b1, b2), m) Q) :
    bGo xs d aM_X4_allSkills 0 [vr (bW b), vi x1, vn, vn] [] ((b0, b1, b2), m) Q := by
  cases b <;> exact wX_sound (rk := bRk) (mo := bMo) (stops := [(4, [true, true, true, true])]) (inl := [47]) (f := 400) hd H
set_option maxRecDepth 100000 in
theorem r_X4_allSkills_4 {xs : List Int32} {d : Nat} {Q : bPo} (hd : 2 ≤ d) {b : Bool} {b0 b1 b2 : Bool} {m : Nat → Int → Int} {x1 x2 x3 : Int}
    (H : inR x3 ∧ ((5 ≤ x3 → (Q x2 ((b0, b1, b2), m))) ∧ (x3 < 5 → ((0 ≤ (36 + (x1 * 5)) + x3 ∧ (36 + (x1 * 5)) + x3 < 67) ∧ (bGo xs d aM_X4_allSkills 4 [vr (bW b), vi x1, vi (x2 + (m (bW b + 9) ((36 + (x1 * 5)) + x3))), vi (x3 + 1)] [] ((b0, b1, b2), m) Q))))) :
    bGo xs d aM_X4_allSkills 4 [vr (bW b), vi x1, vi x2, vi x3] [] ((b0, b1, b2), m) Q := by
  cases b <;> exact wX_sound (rk := bRk) (mo := bMo) (stops := [(4, [true, true, true, true])]) (inl := [47]) (f := 400) hd H
set_option maxRecDepth 100000 in
theorem r_X4_heldBy_0 {xs : List Int32} {d : Nat} {Q : bPo} (hd : 1 ≤ d) {b : Bool} {b0 b1 b2 : Bool} {m : Nat → Int → Int} {x1 : Int}
    (H : bGo xs d aM_X4_heldBy 4 [vr (bW b), vi x1, vi 0, vi 0] [] ((b0, b1, b2), m) Q) :
    bGo xs d aM_X4_heldBy 0 [vr (bW b), vi x1, vn, vn] [] ((b0, b1, b2), m) Q := by
  cases b <;> exact wX_sound (rk := bRk) (mo := bMo) (stops := [(4, [true, true, true, true])]) (inl := []) (f := 400) hd H
set_option maxRecDepth 100000 in
theorem r_X4_heldBy_4 {xs : List Int32} {d : Nat} {Q : bPo} (hd : 1 ≤ d) {b : Bool} {b0 b1 b2 : Bool} {m : Nat → Int → Int} {x1 x2 x3 : Int}
    (H : inR x3 ∧ (inR (m (bW b) 9) ∧ ((m (bW b) 9 ≤ x3 → (Q x2 ((b0, b1, b2), m))) ∧ (x3 < m (bW b) 9 → ((0 ≤ 12 + x3 ∧ 12 + x3 < 67) ∧ (inR (m (bW b + 9) (12 + x3)) ∧ (inR x1 ∧ ((¬ m (bW b + 9) (12 + x3) = x1 → (bGo xs d aM_X4_heldBy 4 [vr (bW b), vi x1, vi x2, vi (x3 + 1)] [] ((b0, b1, b2), m) Q)) ∧ (m (bW b + 9) (12 + x3) = x1 → (bGo xs d aM_X4_heldBy 4 [vr (bW b), vi x1, vi (bOrr x2 (bShl 1 x3)), vi (x3 + 1)] [] ((b0, b1, b2), m) Q)))))))))) :
    bGo xs d aM_X4_heldBy 4 [vr (bW b), vi x1, vi x2, vi x3] [] ((b0, b1, b2), m) Q := by
  cases b <;> exact wX_sound (rk := bRk) (mo := bMo) (stops := [(4, [true, true, true, true])]) (inl := []) (f := 400) hd H
set_option maxRecDepth 100000 in
theorem r_X4_countOf_0 {xs : List Int32} {d : Nat} {Q : bPo} (hd : 1 ≤ d) {b : Bool} {b0 b1 b2 : Bool} {m : Nat → Int → Int} {x1 : Int}
    (H : bGo xs d aM_X4_countOf 4 [vr (bW b), vi x1, vi 0, vi 0] [] ((b0, b1, b2), m) Q) :
    bGo xs d aM_X4_countOf 0 [vr (bW b), vi x1, vn, vn] [] ((b0, b1, b2), m) Q := by
  cases b <;> exact wX_sound (rk := bRk) (mo := bMo) (stops := [(4, [true, true, true, true])]) (inl := []) (f := 400) hd H
set_option maxRecDepth 100000 in
theorem r_X4_countOf_4 {xs : List Int32} {d : Nat} {Q : bPo} (hd : 1 ≤ d) {b : Bool} {b0 b1 b2 : Bool} {m : Nat → Int → Int} {x1 x2 x3 : Int}
    (H : inR x3 ∧ (inR (m (bW b) 9) ∧ ((m (bW b) 9 ≤ x3 → (Q x2 ((b0, b1, b2), m))) ∧ (x3 < m (bW b) 9 → ((0 ≤ 18 + x3 ∧ 18 + x3 < 67) ∧ (inR (m (bW b + 9) (18 + x3)) ∧ (inR x1 ∧ ((¬ m (bW b + 9) (18 + x3) = x1 → (bGo xs d aM_X4_countOf 4 [vr (bW b), vi x1, vi x2, vi (x3 + 1)] [] ((b0, b1, b2), m) Q)) ∧ (m (bW b + 9) (18 + x3) = x1 → (bGo xs d aM_X4_countOf 4 [vr (bW b), vi x1, vi (x2 + 1), vi (x3 + 1)] [] ((b0, b1, b2), m) Q)))))))))) :
    bGo xs d aM_X4_countOf 4 [vr (bW b), vi x1, vi x2, vi x3] [] ((b0, b1, b2), m) Q := by
  cases b <;> exact wX_sound (rk := bRk) (mo := bMo) (stops := [(4, [true, true, true, true])]) (inl := []) (f := 400) hd H
set_option maxRecDepth 100000 in
theorem r_X4_finishedValues_0 {xs : List Int32} {d : Nat} {Q : bPo} (hd : 1 ≤ d) {b : Bool} {b0 b1 b2 : Bool} {m : Nat → Int → Int}
    (H : bGo xs d aM_X4_finishedValues 4 [vr (bW b), vi 0, vi 0] [] ((b0, b1, b2), m) Q) :
    bGo xs d aM_X4_finishedValues 0 [vr (bW b), vn, vn] [] ((b0, b1, b2), m) Q := by
  cases b <;> exact wX_sound (rk := bRk) (mo := bMo) (stops := [(4, [true, true, true])]) (inl := []) (f := 400) hd H
set_option maxRecDepth 100000 in
theorem r_X4_finishedValues_4 {xs : List Int32} {d : Nat} {Q : bPo} (hd : 1 ≤ d) {b : Bool} {b0 b1 b2 : Bool} {m : Nat → Int → Int} {x1 x2 : Int}
    (H : inR x2 ∧ (inR (m (bW b) 9) ∧ ((m (bW b) 9 ≤ x2 → (Q x1 ((b0, b1, b2), m))) ∧ (x2 < m (bW b) 9 → ((0 ≤ 18 + x2 ∧ 18 + x2 < 67) ∧ (inR (m (bW b + 9) (18 + x2)) ∧ ((¬ m (bW b + 9) (18 + x2) = 1 → (bGo xs d aM_X4_finishedValues 4 [vr (bW b), vi x1, vi (x2 + 1)] [] ((b0, b1, b2), m) Q)) ∧ (m (bW b + 9) (18 + x2) = 1 → ((0 ≤ x2 ∧ x2 < 6) ∧ (bGo xs d aM_X4_finishedValues 4 [vr (bW b), vi (x1 + (m (bW b + 1) x2)), vi (x2 + 1)] [] ((b0, b1, b2), m) Q)))))))))) :
    bGo xs d aM_X4_finishedValues 4 [vr (bW b), vi x1, vi x2] [] ((b0, b1, b2), m) Q := by
  cases b <;> exact wX_sound (rk := bRk) (mo := bMo) (stops := [(4, [true, true, true])]) (inl := []) (f := 400) hd H
set_option maxRecDepth 100000 in
theorem r_X4_daysFrom_0 {xs : List Int32} {d : Nat} {Q : bPo} (hd : 2 ≤ d) {b : Bool} {b0 b1 b2 : Bool} {m : Nat → Int → Int} {x1 x2 x3 : Int}
    (H : bGo xs d aM_X4_daysFrom 11 [vr (bW b), vi x1, vi x2, vn, vi 0, vi ((x2 * 8) + x3), vn] [] ((b0, b1, b2), m) Q) :
    bGo xs d aM_X4_daysFrom 0 [vr (bW b), vi x1, vi x2, vi x3, vn, vn, vn] [] ((b0, b1, b2), m) Q := by
  cases b <;> exact wX_sound (rk := bRk) (mo := bMo) (stops := [(11, [true, true, true, false, true, true, false])]) (inl := [53]) (f := 400) hd H
set_option maxRecDepth 100000 in
theorem r_X4_daysFrom_11 {xs : List Int32} {d : Nat} {Q : bPo} (hd : 2 ≤ d) {b : Bool} {b0 b1 b2 : Bool} {m : Nat → Int → Int} {x1 x2 x4 x5 : Int}
    (H : (0 ≤ x2 ∧ x2 < 6) ∧ (inR x5 ∧ (inR ((x2 * 8) + (m (bW b + 3) x2)) ∧ (((x2 * 8) + (m (bW b + 3) x2) ≤ x5 → (Q x4 ((b0, b1, b2), m))) ∧ (x5 < (x2 * 8) + (m (bW b + 3) x2) → ((0 ≤ x5 ∧ x5 < 48) ∧ ((0 ≤ x5 ∧ x5 < 48) ∧ ((0 ≤ (36 + (x1 * 5)) + (m (bW b + 4) x5) ∧ (36 + (x1 * 5)) + (m (bW b + 4) x5) < 67) ∧ (inR (m (bW b + 9) ((36 + (x1 * 5)) + (m (bW b + 4) x5))) ∧ ((0 < m (bW b + 9) ((36 + (x1 * 5)) + (m (bW b + 4) x5)) → (inR (((3 * (m (bW b + 5) x5)) + (m (bW b + 9) ((36 + (x1 * 5)) + (m (bW b + 4) x5)))) - 1) ∧ ((inR (m (bW b + 9) ((36 + (x1 * 5)) + (m (bW b + 4) x5))) ∧ ¬ m (bW b + 9) ((36 + (x1 * 5)) + (m (bW b + 4) x5)) = 0) ∧ (inR (Int.tdiv (((3 * (m (bW b + 5) x5)) + (m (bW b + 9) ((36 + (x1 * 5)) + (m (bW b + 4) x5)))) - 1) (m (bW b + 9) ((36 + (x1 * 5)) + (m (bW b + 4) x5)))) ∧ ((¬ Int.tdiv (((3 * (m (bW b + 5) x5)) + (m (bW b + 9) ((36 + (x1 * 5)) + (m (bW b + 4) x5)))) - 1) (m (bW b + 9) ((36 + (x1 * 5)) + (m (bW b + 4) x5))) = (-1) → (bGo xs d aM_X4_daysFrom 11 [vr (bW b), vi x1, vi x2, vn, vi (x4 + (Int.tdiv (((3 * (m (bW b + 5) x5)) + (m (bW b + 9) ((36 + (x1 * 5)) + (m (bW b + 4) x5)))) - 1) (m (bW b + 9) ((36 + (x1 * 5)) + (m (bW b + 4) x5))))), vi (x5 + 1), vn] [] ((b0, b1, b2), m) Q)) ∧ (Int.tdiv (((3 * (m (bW b + 5) x5)) + (m (bW b + 9) ((36 + (x1 * 5)) + (m (bW b + 4) x5)))) - 1) (m (bW b + 9) ((36 + (x1 * 5)) + (m (bW b + 4) x5))) = (-1) → (Q (-1) ((b0, b1, b2), m)))))))) ∧ (m (bW b + 9) ((36 + (x1 * 5)) + (m (bW b + 4) x5)) ≤ 0 → (Q (-1) ((b0, b1, b2), m))))))))))))) :
    bGo xs d aM_X4_daysFrom 11 [vr (bW b), vi x1, vi x2, vn, vi x4, vi x5, vn] [] ((b0, b1, b2), m) Q := by
  cases b <;> exact wX_sound (rk := bRk) (mo := bMo) (stops := [(11, [true, true, true, false, true, true, false])]) (inl := [53]) (f := 400) hd H
set_option maxRecDepth 100000 in
theorem r_X4_aloneDays_0 {xs : List Int32} {d : Nat} {Q : bPo} (hd : 3 ≤ d) {b : Bool} {b0 b1 b2 : Bool} {m : Nat → Int → Int} {x1 x2 : Int}
    (H : (0 ≤ 0 + x2 ∧ 0 + x2 < 67) ∧ (bC xs 2 55 [vr (bW b), vi x1, vi x2, vi (m (bW b + 9) (0 + x2))] ((b0, b1, b2), m) (fun z1 μ2 => (μ2.1 = (b0, b1, b2)) ∧ (Q z1 ((b0, b1, b2), μ2.2))))) :
    bGo xs d aM_X4_aloneDays 0 [vr (bW b), vi x1, vi x2] [] ((b0, b1, b2), m) Q := by
  cases b <;> exact wX_sound (rk := bRk) (mo := bMo) (stops := []) (inl := []) (f := 400) hd H
set_option maxRecDepth 100000 in
theorem r_X4_aloneInTime_0 {xs : List Int32} {d : Nat} {Q : bPo} (hd : 5 ≤ d) {b : Bool} {b0 b1 b2 : Bool} {m : Nat → Int → Int} {x1 : Int}
    (H : bGo xs d aM_X4_aloneInTime 4 [vr (bW b), vi x1, vi 0, vi 0] [] ((b0, b1, b2), m) Q) :
    bGo xs d aM_X4_aloneInTime 0 [vr (bW b), vi x1, vn, vn] [] ((b0, b1, b2), m) Q := by
  cases b <;> exact wX_sound (rk := bRk) (mo := bMo) (stops := [(4, [true, true, true, true])]) (inl := [57, 58]) (f := 400) hd H
set_option maxRecDepth 100000 in
theorem r_X4_aloneInTime_4 {xs : List Int32} {d : Nat} {Q : bPo} (hd : 5 ≤ d) {b : Bool} {b0 b1 b2 : Bool} {m : Nat → Int → Int} {x1 x2 x3 : Int}
    (H : inR x3 ∧ (inR (m (bW b) 10) ∧ ((m (bW b) 10 ≤ x3 → (Q x2 ((b0, b1, b2), m))) ∧ (x3 < m (bW b) 10 → (bC xs 3 56 [vr (bW b), vi x3, vi x1] ((b0, b1, b2), m) (fun z1 μ2 => (μ2.1 = (b0, b1, b2)) ∧ (inR z1 ∧ ((z1 = (-1) → (bGo xs d aM_X4_aloneInTime 4 [vr (bW b), vi x1, vi x2, vi (x3 + 1)] [] ((b0, b1, b2), μ2.2) Q)) ∧ (¬ z1 = (-1) → ((0 ≤ x1 ∧ x1 < 6) ∧ (inR ((μ2.2 (bW b + 9) 66) + z1) ∧ (inR (μ2.2 (bW b + 2) x1) ∧ ((μ2.2 (bW b + 2) x1 < (μ2.2 (bW b + 9) 66) + z1 → (bGo xs d aM_X4_aloneInTime 4 [vr (bW b), vi x1, vi x2, vi (x3 + 1)] [] ((b0, b1, b2), μ2.2) Q)) ∧ ((μ2.2 (bW b + 9) 66) + z1 ≤ μ2.2 (bW b + 2) x1 → (inR z1 ∧ ((z1 = (-1) → (bGo xs d aM_X4_aloneInTime 4 [vr (bW b), vi x1, vi x2, vi (x3 + 1)] [] ((b0, b1, b2), μ2.2) Q)) ∧ (¬ z1 = (-1) → (bGo xs d aM_X4_aloneInTime 4 [vr (bW b), vi x1, vi (bOrr x2 (bShl 1 x3)), vi (x3 + 1)] [] ((b0, b1, b2), μ2.2) Q)))))))))))))))))) :
    bGo xs d aM_X4_aloneInTime 4 [vr (bW b), vi x1, vi x2, vi x3] [] ((b0, b1, b2), m) Q := by
  cases b <;> exact wX_sound (rk := bRk) (mo := bMo) (stops := [(4, [true, true, true, true])]) (inl := [57, 58]) (f := 400) hd H
set_option maxRecDepth 100000 in
theorem r_X4_bestSkill_0 {xs : List Int32} {d : Nat} {Q : bPo} (hd : 2 ≤ d) {b : Bool} {b0 b1 b2 : Bool} {m : Nat → Int → Int} {x1 x2 : Int}
    (H : bGo xs d aM_X4_bestSkill 5 [vr (bW b), vi x1, vi x2, vi 0, vi 0] [] ((b0, b1, b2), m) Q) :
    bGo xs d aM_X4_bestSkill 0 [vr (bW b), vi x1, vi x2, vn, vn] [] ((b0, b1, b2), m) Q := by
  cases b <;> exact wX_sound (rk := bRk) (mo := bMo) (stops := [(5, [true, true, true, true, true])]) (inl := [47]) (f := 400) hd H
set_option maxRecDepth 100000 in
theorem r_X4_bestSkill_5 {xs : List Int32} {d : Nat} {Q : bPo} (hd : 2 ≤ d) {b : Bool} {b0 b1 b2 : Bool} {m : Nat → Int → Int} {x1 x2 x3 x4 : Int}
    (H : inR x4 ∧ (inR (m (bW b) 10) ∧ ((m (bW b) 10 ≤ x4 → (Q x3 ((b0, b1, b2), m))) ∧ (x4 < m (bW b) 10 → (inR (bAnd (bShr x1 x4) 1) ∧ ((¬ bAnd (bShr x1 x4) 1 = 1 → (bGo xs d aM_X4_bestSkill 5 [vr (bW b), vi x1, vi x2, vi x3, vi (x4 + 1)] [] ((b0, b1, b2), m) Q)) ∧ (bAnd (bShr x1 x4) 1 = 1 → ((0 ≤ (36 + (x4 * 5)) + x2 ∧ (36 + (x4 * 5)) + x2 < 67) ∧ (inR x3 ∧ (inR (m (bW b + 9) ((36 + (x4 * 5)) + x2)) ∧ (bGo xs d aM_X4_bestSkill 5 [vr (bW b), vi x1, vi x2, vi (max x3 (m (bW b + 9) ((36 + (x4 * 5)) + x2))), vi (x4 + 1)] [] ((b0, b1, b2), m) Q))))))))))) :
    bGo xs d aM_X4_bestSkill 5 [vr (bW b), vi x1, vi x2, vi x3, vi x4] [] ((b0, b1, b2), m) Q := by
  cases b <;> exact wX_sound (rk := bRk) (mo := bMo) (stops := [(5, [true, true, true, true, true])]) (inl := [47]) (f := 400) hd H
set_option maxRecDepth 100000 in
theorem r_X4_firstStuck_0 {xs : List Int32} {d : Nat} {Q : bPo} (hd : 3 ≤ d) {b : Bool} {b0 b1 b2 : Bool} {m : Nat → Int → Int} {x1 : Int}
    (H : (0 ≤ 0 + x1 ∧ 0 + x1 < 67) ∧ (bGo xs d aM_X4_firstStuck 9 [vr (bW b), vi x1, vi (m (bW b + 9) (0 + x1))] [] ((b0, b1, b2), m) Q)) :
    bGo xs d aM_X4_firstStuck 0 [vr (bW b), vi x1, vn] [] ((b0, b1, b2), m) Q := by
  cases b <;> exact wX_sound (rk := bRk) (mo := bMo) (stops := [(9, [true, true, true])]) (inl := [61]) (f := 400) hd H
set_option maxRecDepth 100000 in
theorem r_X4_firstStuck_9 {xs : List Int32} {d : Nat} {Q : bPo} (hd : 3 ≤ d) {b : Bool} {b0 b1 b2 : Bool} {m : Nat → Int → Int} {x1 x2 : Int}
    (H : (0 ≤ x1 ∧ x1 < 6) ∧ (inR x2 ∧ (inR (m (bW b + 3) x1) ∧ ((m (bW b + 3) x1 ≤ x2 → (Q (-1) ((b0, b1, b2), m))) ∧ (x2 < m (bW b + 3) x1 → ((0 ≤ (x1 * 8) + x2 ∧ (x1 * 8) + x2 < 48) ∧ (bC xs 2 60 [vr (bW b), vi ((bShl 1 (m (bW b) 10)) - 1), vi (m (bW b + 4) ((x1 * 8) + x2))] ((b0, b1, b2), m) (fun z1 μ2 => (μ2.1 = (b0, b1, b2)) ∧ (inR z1 ∧ ((¬ z1 = 0 → (bGo xs d aM_X4_firstStuck 9 [vr (bW b), vi x1, vi (x2 + 1)] [] ((b0, b1, b2), μ2.2) Q)) ∧ (z1 = 0 → (Q x2 ((b0, b1, b2), μ2.2))))))))))))) :
    bGo xs d aM_X4_firstStuck 9 [vr (bW b), vi x1, vi x2] [] ((b0, b1, b2), m) Q := by
  cases b <;> exact wX_sound (rk := bRk) (mo := bMo) (stops := [(9, [true, true, true])]) (inl := [61]) (f := 400) hd H
set_option maxRecDepth 100000 in
theorem r_X4_teamDays_0 {xs : List Int32} {d : Nat} {Q : bPo} (hd : 3 ≤ d) {b : Bool} {b0 b1 b2 : Bool} {m : Nat → Int → Int} {x1 x2 : Int}
    (H : (0 ≤ 0 + x1 ∧ 0 + x1 < 67) ∧ (bGo xs d aM_X4_teamDays 12 [vr (bW b), vi x1, vi x2, vi 0, vi (m (bW b + 9) (0 + x1)), vn, vn] [] ((b0, b1, b2), m) Q)) :
    bGo xs d aM_X4_teamDays 0 [vr (bW b), vi x1, vi x2, vn, vn, vn, vn] [] ((b0, b1, b2), m) Q := by
  cases b <;> exact wX_sound (rk := bRk) (mo := bMo) (stops := [(12, [true, true, true, true, true, false, false])]) (inl := [53]) (f := 400) hd H
set_option maxRecDepth 100000 in
theorem r_X4_teamDays_12 {xs : List Int32} {d : Nat} {Q : bPo} (hd : 3 ≤ d) {b : Bool} {b0 b1 b2 : Bool} {m : Nat → Int → Int} {x1 x2 x3 x4 : Int}
    (H : (0 ≤ x1 ∧ x1 < 6) ∧ (inR x4 ∧ (inR (m (bW b + 3) x1) ∧ ((m (bW b + 3) x1 ≤ x4 → (Q x3 ((b0, b1, b2), m))) ∧ (x4 < m (bW b + 3) x1 → ((0 ≤ (x1 * 8) + x4 ∧ (x1 * 8) + x4 < 48) ∧ ((0 ≤ (x1 * 8) + x4 ∧ (x1 * 8) + x4 < 48) ∧ (bC xs 2 60 [vr (bW b), vi x2, vi (m (bW b + 4) ((x1 * 8) + x4))] ((b0, b1, b2), m) (fun z1 μ2 => (μ2.1 = (b0, b1, b2)) ∧ (inR z1 ∧ ((0 < z1 → (inR (((3 * (m (bW b + 5) ((x1 * 8) + x4))) + z1) - 1) ∧ ((inR z1 ∧ ¬ z1 = 0) ∧ (inR (Int.tdiv (((3 * (m (bW b + 5) ((x1 * 8) + x4))) + z1) - 1) z1) ∧ ((¬ Int.tdiv (((3 * (m (bW b + 5) ((x1 * 8) + x4))) + z1) - 1) z1 = (-1) → (bGo xs d aM_X4_teamDays 12 [vr (bW b), vi x1, vi x2, vi (x3 + (Int.tdiv (((3 * (m (bW b + 5) ((x1 * 8) + x4))) + z1) - 1) z1)), vi (x4 + 1), vn, vn] [] ((b0, b1, b2), μ2.2) Q)) ∧ (Int.tdiv (((3 * (m (bW b + 5) ((x1 * 8) + x4))) + z1) - 1) z1 = (-1) → (Q (-1) ((b0, b1, b2), μ2.2)))))))) ∧ (z1 ≤ 0 → (Q (-1) ((b0, b1, b2), μ2.2)))))))))))))) :
    bGo xs d aM_X4_teamDays 12 [vr (bW b), vi x1, vi x2, vi x3, vi x4, vn, vn] [] ((b0, b1, b2), m) Q := by
  cases b <;> exact wX_sound (rk := bRk) (mo := bMo) (stops := [(12, [true, true, true, true, true, false, false])]) (inl := [53]) (f := 400) hd H
set_option maxRecDepth 100000 in
theorem r_X4_fewestInTime_0 {xs : List Int32} {d : Nat} {Q : bPo} (hd : 4 ≤ d) {b : Bool} {b0 b1 b2 : Bool} {m : Nat → Int → Int} {x1 : Int}
    (H : bGo xs d aM_X4_fewestInTime 4 [vr (bW b), vi x1, vi (-1), vi 1, vn] [] ((b0, b1, b2), m) Q) :
    bGo xs d aM_X4_fewestInTime 0 [vr (bW b), vi x1, vn, vn, vn] [] ((b0, b1, b2), m) Q := by
  cases b <;> exact wX_sound (rk := bRk) (mo := bMo) (stops := [(4, [true, true, true, true, false])]) (inl := [57, 61]) (f := 400) hd H
set_option maxRecDepth 100000 in
theorem r_X4_fewestInTime_4 {xs : List Int32} {d : Nat} {Q : bPo} (hd : 4 ≤ d) {b : Bool} {b0 b1 b2 : Bool} {m : Nat → Int → Int} {x1 x2 x3 : Int}
    (H : inR x3 ∧ (inR ((bShl 1 (m (bW b) 10)) - 1) ∧ (((bShl 1 (m (bW b) 10)) - 1 < x3 → (Q x2 ((b0, b1, b2), m))) ∧ (x3 ≤ (bShl 1 (m (bW b) 10)) - 1 → (inR x2 ∧ ((x2 = (-1) → (bC xs 3 63 [vr (bW b), vi x1, vi x3] ((b0, b1, b2), m) (fun z1 μ2 => (μ2.1 = (b0, b1, b2)) ∧ (inR z1 ∧ ((z1 = (-1) → (bGo xs d aM_X4_fewestInTime 4 [vr (bW b), vi x1, vi x2, vi (x3 + 1), vn] [] ((b0, b1, b2), μ2.2) Q)) ∧ (¬ z1 = (-1) → ((0 ≤ x1 ∧ x1 < 6) ∧ (inR ((μ2.2 (bW b + 9) 66) + z1) ∧ (inR (μ2.2 (bW b + 2) x1) ∧ ((μ2.2 (bW b + 2) x1 < (μ2.2 (bW b + 9) 66) + z1 → (bGo xs d aM_X4_fewestInTime 4 [vr (bW b), vi x1, vi x2, vi (x3 + 1), vn] [] ((b0, b1, b2), μ2.2) Q)) ∧ ((μ2.2 (bW b + 9) 66) + z1 ≤ μ2.2 (bW b + 2) x1 → (bGo xs d aM_X4_fewestInTime 4 [vr (bW b), vi x1, vi x3, vi (x3 + 1), vn] [] ((b0, b1, b2), μ2.2) Q)))))))))))) ∧ (¬ x2 = (-1) → (bC xs 1 282 [vi x3] ((b0, b1, b2), m) (fun z3 μ4 => (μ4.1 = (b0, b1, b2)) ∧ (bC xs 1 282 [vi x2] ((b0, b1, b2), μ4.2) (fun z5 μ6 => (μ6.1 = (b0, b1, b2)) ∧ (inR z3 ∧ (inR z5 ∧ ((z5 ≤ z3 → (bGo xs d aM_X4_fewestInTime 4 [vr (bW b), vi x1, vi x2, vi (x3 + 1), vn] [] ((b0, b1, b2), μ6.2) Q)) ∧ (z3 < z5 → (bC xs 3 63 [vr (bW b), vi x1, vi x3] ((b0, b1, b2), μ6.2) (fun z7 μ8 => (μ8.1 = (b0, b1, b2)) ∧ (inR z7 ∧ ((z7 = (-1) → (bGo xs d aM_X4_fewestInTime 4 [vr (bW b), vi x1, vi x2, vi (x3 + 1), vn] [] ((b0, b1, b2), μ8.2) Q)) ∧ (¬ z7 = (-1) → ((0 ≤ x1 ∧ x1 < 6) ∧ (inR ((μ8.2 (bW b + 9) 66) + z7) ∧ (inR (μ8.2 (bW b + 2) x1) ∧ ((μ8.2 (bW b + 2) x1 < (μ8.2 (bW b + 9) 66) + z7 → (bGo xs d aM_X4_fewestInTime 4 [vr (bW b), vi x1, vi x2, vi (x3 + 1), vn] [] ((b0, b1, b2), μ8.2) Q)) ∧ ((μ8.2 (bW b + 9) 66) + z7 ≤ μ8.2 (bW b + 2) x1 → (bGo xs d aM_X4_fewestInTime 4 [vr (bW b), vi x1, vi x3, vi (x3 + 1), vn] [] ((b0, b1, b2), μ8.2) Q)))))))))))))))))))))))))) :
    bGo xs d aM_X4_fewestInTime 4 [vr (bW b), vi x1, vi x2, vi x3, vn] [] ((b0, b1, b2), m) Q := by
  cases b <;> exact wX_sound (rk := bRk) (mo := bMo) (stops := [(4, [true, true, true, true, false])]) (inl := [57, 61]) (f := 400) hd H
set_option maxRecDepth 100000 in
theorem r_X4_paidByGuilds_0 {xs : List Int32} {d : Nat} {Q : bPo} (hd : 6 ≤ d) {b : Bool} {b0 b1 b2 : Bool} {m : Nat → Int → Int}
    (H : bGo xs d aM_X4_paidByGuilds 4 [vr (bW b), vi 0, vi 0] [] ((b0, b1, b2), m) Q) :
    bGo xs d aM_X4_paidByGuilds 0 [vr (bW b), vn, vn] [] ((b0, b1, b2), m) Q := by
  cases b <;> exact wX_sound (rk := bRk) (mo := bMo) (stops := [(4, [true, true, true])]) (inl := [42, 46, 57, 61]) (f := 400) hd H
set_option maxRecDepth 100000 in
theorem r_X4_paidByGuilds_4 {xs : List Int32} {d : Nat} {Q : bPo} (hd : 6 ≤ d) {b : Bool} {b0 b1 b2 : Bool} {m : Nat → Int → Int} {x1 x2 : Int}
    (H : inR x2 ∧ (inR (m (bW b) 9) ∧ ((m (bW b) 9 ≤ x2 → (Q x1 ((b0, b1, b2), m))) ∧ (x2 < m (bW b) 9 → (inR x2 ∧ ((x2 < 0 → (bGo xs d aM_X4_paidByGuilds 4 [vr (bW b), vi x1, vi (x2 + 1)] [] ((b0, b1, b2), m) Q)) ∧ (0 ≤ x2 → (inR x2 ∧ (inR (m (bW b) 9) ∧ ((m (bW b) 9 ≤ x2 → (bGo xs d aM_X4_paidByGuilds 4 [vr (bW b), vi x1, vi (x2 + 1)] [] ((b0, b1, b2), m) Q)) ∧ (x2 < m (bW b) 9 → ((0 ≤ 18 + x2 ∧ 18 + x2 < 67) ∧ (inR (m (bW b + 9) (18 + x2)) ∧ ((¬ m (bW b + 9) (18 + x2) = 0 → (bGo xs d aM_X4_paidByGuilds 4 [vr (bW b), vi x1, vi (x2 + 1)] [] ((b0, b1, b2), m) Q)) ∧ (m (bW b + 9) (18 + x2) = 0 → (bC xs 5 59 [vr (bW b), vi x2] ((b0, b1, b2), m) (fun z1 μ2 => (μ2.1 = (b0, b1, b2)) ∧ (inR z1 ∧ ((¬ z1 = 0 → (bGo xs d aM_X4_paidByGuilds 4 [vr (bW b), vi x1, vi (x2 + 1)] [] ((b0, b1, b2), μ2.2) Q)) ∧ (z1 = 0 → (bC xs 3 63 [vr (bW b), vi x2, vi ((bShl 1 (μ2.2 (bW b) 10)) - 1)] ((b0, b1, b2), μ2.2) (fun z3 μ4 => (μ4.1 = (b0, b1, b2)) ∧ (inR z3 ∧ ((z3 = (-1) → (bGo xs d aM_X4_paidByGuilds 4 [vr (bW b), vi x1, vi (x2 + 1)] [] ((b0, b1, b2), μ4.2) Q)) ∧ (¬ z3 = (-1) → ((0 ≤ x2 ∧ x2 < 6) ∧ (inR ((μ4.2 (bW b + 9) 66) + z3) ∧ (inR (μ4.2 (bW b + 2) x2) ∧ ((μ4.2 (bW b + 2) x2 < (μ4.2 (bW b + 9) 66) + z3 → (bGo xs d aM_X4_paidByGuilds 4 [vr (bW b), vi x1, vi (x2 + 1)] [] ((b0, b1, b2), μ4.2) Q)) ∧ ((μ4.2 (bW b + 9) 66) + z3 ≤ μ4.2 (bW b + 2) x2 → ((0 ≤ x2 ∧ x2 < 6) ∧ (bGo xs d aM_X4_paidByGuilds 4 [vr (bW b), vi (x1 + (μ4.2 (bW b + 1) x2)), vi (x2 + 1)] [] ((b0, b1, b2), μ4.2) Q)))))))))))))))))))))))))))))))) :
    bGo xs d aM_X4_paidByGuilds 4 [vr (bW b), vi x1, vi x2] [] ((b0, b1, b2), m) Q := by
  cases b <;> exact wX_sound (rk := bRk) (mo := bMo) (stops := [(4, [true, true, true])]) (inl := [42, 46, 57, 61]) (f := 400) hd H
set_option maxRecDepth 100000 in
theorem r_X4_passDay_0 {xs : List Int32} {d : Nat} {Q : bPo} (hd : 4 ≤ d) {b : Bool} {b0 b1 b2 : Bool} {m : Nat → Int → Int}
    (H : bC xs 1 283 [vr (bW b + 8), vi 0] ((b0, b1, b2), m) (fun z1 μ2 => (μ2.1 = (b0, b1, b2)) ∧ (bGo xs d aM_X4_passDay 10 [vr (bW b), vi 0, vn] [] ((b0, b1, b2), μ2.2) Q))) :
    bGo xs d aM_X4_passDay 0 [vr (bW b), vn, vn] [] ((b0, b1, b2), m) Q := by
  cases b <;> exact wX_sound (rk := bRk) (mo := bMo) (stops := [(10, [true, true, false]), (54, [true, true, false])]) (inl := []) (f := 400) hd H
set_option maxRecDepth 100000 in
theorem r_X4_passDay_10 {xs : List Int32} {d : Nat} {Q : bPo} (hd : 4 ≤ d) {b : Bool} {b0 b1 b2 : Bool} {m : Nat → Int → Int} {x1 : Int}
    (H : inR x1 ∧ (inR (m (bW b) 10) ∧ ((m (bW b) 10 ≤ x1 → (bGo xs d aM_X4_passDay 54 [vr (bW b), vi 0, vn] [] ((b0, b1, b2), up m (bW b + 9) 66 ((m (bW b + 9) 66) + 1)) Q)) ∧ (x1 < m (bW b) 10 → (bC xs 3 67 [vr (bW b), vi x1] ((b0, b1, b2), m) (fun z3 μ4 => (μ4.1 = (b0, b1, b2)) ∧ (inR z3 ∧ ((z3 = (-1) → (bGo xs d aM_X4_passDay 10 [vr (bW b), vi (x1 + 1), vn] [] ((b0, b1, b2), μ4.2) Q)) ∧ (¬ z3 = (-1) → (bC xs 2 68 [vr (bW b), vi z3, vi x1] ((b0, b1, b2), μ4.2) (fun z5 μ6 => (μ6.1 = (b0, b1, b2)) ∧ (bGo xs d aM_X4_passDay 10 [vr (bW b), vi (x1 + 1), vn] [] ((b0, b1, b2), μ6.2) Q)))))))))))) :
    bGo xs d aM_X4_passDay 10 [vr (bW b), vi x1, vn] [] ((b0, b1, b2), m) Q := by
  cases b <;> exact wX_sound (rk := bRk) (mo := bMo) (stops := [(10, [true, true, false]), (54, [true, true, false])]) (inl := []) (f := 400) hd H
set_option maxRecDepth 100000 in
theorem r_X4_passDay_54 {xs : List Int32} {d : Nat} {Q : bPo} (hd : 4 ≤ d) {b : Bool} {b0 b1 b2 : Bool} {m : Nat → Int → Int} {x1 : Int}
    (H : inR x1 ∧ (inR (m (bW b) 9) ∧ ((m (bW b) 9 ≤ x1 → (Q 0 ((b0, b1, b2), m))) ∧ (x1 < m (bW b) 9 → ((0 ≤ 18 + x1 ∧ 18 + x1 < 67) ∧ (inR (m (bW b + 9) (18 + x1)) ∧ ((¬ m (bW b + 9) (18 + x1) = 0 → (bGo xs d aM_X4_passDay 54 [vr (bW b), vi (x1 + 1), vn] [] ((b0, b1, b2), m) Q)) ∧ (m (bW b + 9) (18 + x1) = 0 → (bC xs 1 69 [vr (bW b), vi x1] ((b0, b1, b2), m) (fun z7 μ8 => (μ8.1 = (b0, b1, b2)) ∧ (bGo xs d aM_X4_passDay 54 [vr (bW b), vi (x1 + 1), vn] [] ((b0, b1, b2), μ8.2) Q))))))))))) :
    bGo xs d aM_X4_passDay 54 [vr (bW b), vi x1, vn] [] ((b0, b1, b2), m) Q := by
  cases b <;> exact wX_sound (rk := bRk) (mo := bMo) (stops := [(10, [true, true, false]), (54, [true, true, false])]) (inl := []) (f := 400) hd H
set_option maxRecDepth 100000 in
theorem r_X4_workOf_0 {xs : List Int32} {d : Nat} {Q : bPo} (hd : 3 ≤ d) {b : Bool} {b0 b1 b2 : Bool} {m : Nat → Int → Int} {x1 : Int}
    (H : bGo xs d aM_X4_workOf 2 [vr (bW b), vi x1, vi 0, vn] [] ((b0, b1, b2), m) Q) :
    bGo xs d aM_X4_workOf 0 [vr (bW b), vi x1, vn, vn] [] ((b0, b1, b2), m) Q := by
  cases b <;> exact wX_sound (rk := bRk) (mo := bMo) (stops := [(2, [true, true, true, false])]) (inl := [42, 44, 46, 47]) (f := 400) hd H
set_option maxRecDepth 100000 in
theorem r_X4_workOf_2 {xs : List Int32} {d : Nat} {Q : bPo} (hd : 3 ≤ d) {b : Bool} {b0 b1 b2 : Bool} {m : Nat → Int → Int} {x1 x2 : Int}
    (H : inR x2 ∧ (inR (m (bW b) 9) ∧ ((m (bW b) 9 ≤ x2 → (Q (-1) ((b0, b1, b2), m))) ∧ (x2 < m (bW b) 9 → ((0 ≤ 0 + x2 ∧ 0 + x2 < 67) ∧ ((0 ≤ 12 + x2 ∧ 12 + x2 < 67) ∧ (inR (m (bW b + 9) (12 + x2)) ∧ (inR x1 ∧ ((¬ m (bW b + 9) (12 + x2) = x1 → (bGo xs d aM_X4_workOf 2 [vr (bW b), vi x1, vi (x2 + 1), vn] [] ((b0, b1, b2), m) Q)) ∧ (m (bW b + 9) (12 + x2) = x1 → (inR x2 ∧ ((x2 < 0 → (bGo xs d aM_X4_workOf 2 [vr (bW b), vi x1, vi (x2 + 1), vn] [] ((b0, b1, b2), m) Q)) ∧ (0 ≤ x2 → (inR x2 ∧ (inR (m (bW b) 9) ∧ ((m (bW b) 9 ≤ x2 → (bGo xs d aM_X4_workOf 2 [vr (bW b), vi x1, vi (x2 + 1), vn] [] ((b0, b1, b2), m) Q)) ∧ (x2 < m (bW b) 9 → ((0 ≤ 18 + x2 ∧ 18 + x2 < 67) ∧ (inR (m (bW b + 9) (18 + x2)) ∧ ((¬ m (bW b + 9) (18 + x2) = 0 → (bGo xs d aM_X4_workOf 2 [vr (bW b), vi x1, vi (x2 + 1), vn] [] ((b0, b1, b2), m) Q)) ∧ (m (bW b + 9) (18 + x2) = 0 → (inR x2 ∧ ((x2 < 0 → (bGo xs d aM_X4_workOf 2 [vr (bW b), vi x1, vi (x2 + 1), vn] [] ((b0, b1, b2), m) Q)) ∧ (0 ≤ x2 → (inR x2 ∧ (inR (m (bW b) 9) ∧ ((m (bW b) 9 ≤ x2 → (bGo xs d aM_X4_workOf 2 [vr (bW b), vi x1, vi (x2 + 1), vn] [] ((b0, b1, b2), m) Q)) ∧ (x2 < m (bW b) 9 → (inR (m (bW b + 9) (0 + x2)) ∧ ((m (bW b + 9) (0 + x2) < 0 → (bGo xs d aM_X4_workOf 2 [vr (bW b), vi x1, vi (x2 + 1), vn] [] ((b0, b1, b2), m) Q)) ∧ (0 ≤ m (bW b + 9) (0 + x2) → ((0 ≤ x2 ∧ x2 < 6) ∧ (inR (m (bW b + 9) (0 + x2)) ∧ (inR (m (bW b + 3) x2) ∧ ((m (bW b + 3) x2 ≤ m (bW b + 9) (0 + x2) → (bGo xs d aM_X4_workOf 2 [vr (bW b), vi x1, vi (x2 + 1), vn] [] ((b0, b1, b2), m) Q)) ∧ (m (bW b + 9) (0 + x2) < m (bW b + 3) x2 → ((0 ≤ (x2 * 8) + (m (bW b + 9) (0 + x2)) ∧ (x2 * 8) + (m (bW b + 9) (0 + x2)) < 48) ∧ ((0 ≤ (36 + (x1 * 5)) + (m (bW b + 4) ((x2 * 8) + (m (bW b + 9) (0 + x2)))) ∧ (36 + (x1 * 5)) + (m (bW b + 4) ((x2 * 8) + (m (bW b + 9) (0 + x2)))) < 67) ∧ (inR (m (bW b + 9) ((36 + (x1 * 5)) + (m (bW b + 4) ((x2 * 8) + (m (bW b + 9) (0 + x2)))))) ∧ ((m (bW b + 9) ((36 + (x1 * 5)) + (m (bW b + 4) ((x2 * 8) + (m (bW b + 9) (0 + x2))))) ≤ 0 → (bGo xs d aM_X4_workOf 2 [vr (bW b), vi x1, vi (x2 + 1), vn] [] ((b0, b1, b2), m) Q)) ∧ (0 < m (bW b + 9) ((36 + (x1 * 5)) + (m (bW b + 4) ((x2 * 8) + (m (bW b + 9) (0 + x2))))) → (Q x2 ((b0, b1, b2), m))))))))))))))))))))))))))))))))))))))))))) :
    bGo xs d aM_X4_workOf 2 [vr (bW b), vi x1, vi x2, vn] [] ((b0, b1, b2), m) Q := by
  cases b <;> exact wX_sound (rk := bRk) (mo := bMo) (stops := [(2, [true, true, true, false])]) (inl := [42, 44, 46, 47]) (f := 400) hd H
set_option maxRecDepth 100000 in
theorem r_X4_workAt_0 {xs : List Int32} {d : Nat} {Q : bPo} (hd : 2 ≤ d) {b : Bool} {b0 b1 b2 : Bool} {m : Nat → Int → Int} {x1 x2 : Int}
    (H : (0 ≤ 0 + x1 ∧ 0 + x1 < 67) ∧ ((0 ≤ (x1 * 8) + (m (bW b + 9) (0 + x1)) ∧ (x1 * 8) + (m (bW b + 9) (0 + x1)) < 48) ∧ ((0 ≤ m (bW b + 4) ((x1 * 8) + (m (bW b + 9) (0 + x1))) ∧ m (bW b + 4) ((x1 * 8) + (m (bW b + 9) (0 + x1))) < 5) ∧ (inR (m (bW b + 7) (m (bW b + 4) ((x1 * 8) + (m (bW b + 9) (0 + x1))))) ∧ ((m (bW b + 7) (m (bW b + 4) ((x1 * 8) + (m (bW b + 9) (0 + x1)))) ≤ 0 → ((0 ≤ m (bW b + 4) ((x1 * 8) + (m (bW b + 9) (0 + x1))) ∧ m (bW b + 4) ((x1 * 8) + (m (bW b + 9) (0 + x1))) < 5) ∧ ((0 ≤ m (bW b + 4) ((x1 * 8) + (m (bW b + 9) (0 + x1))) ∧ m (bW b + 4) ((x1 * 8) + (m (bW b + 9) (0 + x1))) < 5) ∧ ((0 ≤ 6 + x1 ∧ 6 + x1 < 67) ∧ ((0 ≤ (36 + (x2 * 5)) + (m (bW b + 4) ((x1 * 8) + (m (bW b + 9) (0 + x1)))) ∧ (36 + (x2 * 5)) + (m (bW b + 4) ((x1 * 8) + (m (bW b + 9) (0 + x1)))) < 67) ∧ ((0 ≤ 6 + x1 ∧ 6 + x1 < 67) ∧ ((0 ≤ 6 + x1 ∧ 6 + x1 < 67) ∧ ((0 ≤ (x1 * 8) + (m (bW b + 9) (0 + x1)) ∧ (x1 * 8) + (m (bW b + 9) (0 + x1)) < 48) ∧ (inR ((up (up m (bW b + 8) (m (bW b + 4) ((x1 * 8) + (m (bW b + 9) (0 + x1)))) ((m (bW b + 8) (m (bW b + 4) ((x1 * 8) + (m (bW b + 9) (0 + x1))))) + 1)) (bW b + 9) (6 + x1) ((m (bW b + 9) (6 + x1)) + (m (bW b + 9) ((36 + (x2 * 5)) + (m (bW b + 4) ((x1 * 8) + (m (bW b + 9) (0 + x1)))))))) (bW b + 9) (6 + x1)) ∧ (inR (3 * (m (bW b + 5) ((x1 * 8) + (m (bW b + 9) (0 + x1))))) ∧ (((up (up m (bW b + 8) (m (bW b + 4) ((x1 * 8) + (m (bW b + 9) (0 + x1)))) ((m (bW b + 8) (m (bW b + 4) ((x1 * 8) + (m (bW b + 9) (0 + x1))))) + 1)) (bW b + 9) (6 + x1) ((m (bW b + 9) (6 + x1)) + (m (bW b + 9) ((36 + (x2 * 5)) + (m (bW b + 4) ((x1 * 8) + (m (bW b + 9) (0 + x1)))))))) (bW b + 9) (6 + x1) < 3 * (m (bW b + 5) ((x1 * 8) + (m (bW b + 9) (0 + x1)))) → (Q 0 ((b0, b1, b2), up (up m (bW b + 8) (m (bW b + 4) ((x1 * 8) + (m (bW b + 9) (0 + x1)))) ((m (bW b + 8) (m (bW b + 4) ((x1 * 8) + (m (bW b + 9) (0 + x1))))) + 1)) (bW b + 9) (6 + x1) ((m (bW b + 9) (6 + x1)) + (m (bW b + 9) ((36 + (x2 * 5)) + (m (bW b + 4) ((x1 * 8) + (m (bW b + 9) (0 + x1)))))))))) ∧ (3 * (m (bW b + 5) ((x1 * 8) + (m (bW b + 9) (0 + x1)))) ≤ (up (up m (bW b + 8) (m (bW b + 4) ((x1 * 8) + (m (bW b + 9) (0 + x1)))) ((m (bW b + 8) (m (bW b + 4) ((x1 * 8) + (m (bW b + 9) (0 + x1))))) + 1)) (bW b + 9) (6 + x1) ((m (bW b + 9) (6 + x1)) + (m (bW b + 9) ((36 + (x2 * 5)) + (m (bW b + 4) ((x1 * 8) + (m (bW b + 9) (0 + x1)))))))) (bW b + 9) (6 + x1) → ((0 ≤ 6 + x1 ∧ 6 + x1 < 67) ∧ ((0 ≤ 0 + x1 ∧ 0 + x1 < 67) ∧ ((0 ≤ 0 + x1 ∧ 0 + x1 < 67) ∧ (Q 0 ((b0, b1, b2), up (up (up (up m (bW b + 8) (m (bW b + 4) ((x1 * 8) + (m (bW b + 9) (0 + x1)))) ((m (bW b + 8) (m (bW b + 4) ((x1 * 8) + (m (bW b + 9) (0 + x1))))) + 1)) (bW b + 9) (6 + x1) ((m (bW b + 9) (6 + x1)) + (m (bW b + 9) ((36 + (x2 * 5)) + (m (bW b + 4) ((x1 * 8) + (m (bW b + 9) (0 + x1)))))))) (bW b + 9) (6 + x1) 0) (bW b + 9) (0 + x1) (((up (up (up m (bW b + 8) (m (bW b + 4) ((x1 * 8) + (m (bW b + 9) (0 + x1)))) ((m (bW b + 8) (m (bW b + 4) ((x1 * 8) + (m (bW b + 9) (0 + x1))))) + 1)) (bW b + 9) (6 + x1) ((m (bW b + 9) (6 + x1)) + (m (bW b + 9) ((36 + (x2 * 5)) + (m (bW b + 4) ((x1 * 8) + (m (bW b + 9) (0 + x1)))))))) (bW b + 9) (6 + x1) 0) (bW b + 9) (0 + x1)) + 1)))))))))))))))))) ∧ (0 < m (bW b + 7) (m (bW b + 4) ((x1 * 8) + (m (bW b + 9) (0 + x1)))) → ((0 ≤ m (bW b + 4) ((x1 * 8) + (m (bW b + 9) (0 + x1))) ∧ m (bW b + 4) ((x1 * 8) + (m (bW b + 9) (0 + x1))) < 5) ∧ ((0 ≤ m (bW b + 4) ((x1 * 8) + (m (bW b + 9) (0 + x1))) ∧ m (bW b + 4) ((x1 * 8) + (m (bW b + 9) (0 + x1))) < 5) ∧ (inR (m (bW b + 8) (m (bW b + 4) ((x1 * 8) + (m (bW b + 9) (0 + x1))))) ∧ (inR (m (bW b + 7) (m (bW b + 4) ((x1 * 8) + (m (bW b + 9) (0 + x1))))) ∧ ((m (bW b + 8) (m (bW b + 4) ((x1 * 8) + (m (bW b + 9) (0 + x1)))) < m (bW b + 7) (m (bW b + 4) ((x1 * 8) + (m (bW b + 9) (0 + x1)))) → ((0 ≤ m (bW b + 4) ((x1 * 8) + (m (bW b + 9) (0 + x1))) ∧ m (bW b + 4) ((x1 * 8) + (m (bW b + 9) (0 + x1))) < 5) ∧ ((0 ≤ m (bW b + 4) ((x1 * 8) + (m (bW b + 9) (0 + x1))) ∧ m (bW b + 4) ((x1 * 8) + (m (bW b + 9) (0 + x1))) < 5) ∧ ((0 ≤ 6 + x1 ∧ 6 + x1 < 67) ∧ ((0 ≤ (36 + (x2 * 5)) + (m (bW b + 4) ((x1 * 8) + (m (bW b + 9) (0 + x1)))) ∧ (36 + (x2 * 5)) + (m (bW b + 4) ((x1 * 8) + (m (bW b + 9) (0 + x1)))) < 67) ∧ ((0 ≤ 6 + x1 ∧ 6 + x1 < 67) ∧ ((0 ≤ 6 + x1 ∧ 6 + x1 < 67) ∧ ((0 ≤ (x1 * 8) + (m (bW b + 9) (0 + x1)) ∧ (x1 * 8) + (m (bW b + 9) (0 + x1)) < 48) ∧ (inR ((up (up m (bW b + 8) (m (bW b + 4) ((x1 * 8) + (m (bW b + 9) (0 + x1)))) ((m (bW b + 8) (m (bW b + 4) ((x1 * 8) + (m (bW b + 9) (0 + x1))))) + 1)) (bW b + 9) (6 + x1) ((m (bW b + 9) (6 + x1)) + (m (bW b + 9) ((36 + (x2 * 5)) + (m (bW b + 4) ((x1 * 8) + (m (bW b + 9) (0 + x1)))))))) (bW b + 9) (6 + x1)) ∧ (inR (3 * (m (bW b + 5) ((x1 * 8) + (m (bW b + 9) (0 + x1))))) ∧ (((up (up m (bW b + 8) (m (bW b + 4) ((x1 * 8) + (m (bW b + 9) (0 + x1)))) ((m (bW b + 8) (m (bW b + 4) ((x1 * 8) + (m (bW b + 9) (0 + x1))))) + 1)) (bW b + 9) (6 + x1) ((m (bW b + 9) (6 + x1)) + (m (bW b + 9) ((36 + (x2 * 5)) + (m (bW b + 4) ((x1 * 8) + (m (bW b + 9) (0 + x1)))))))) (bW b + 9) (6 + x1) < 3 * (m (bW b + 5) ((x1 * 8) + (m (bW b + 9) (0 + x1)))) → (Q 0 ((b0, b1, b2), up (up m (bW b + 8) (m (bW b + 4) ((x1 * 8) + (m (bW b + 9) (0 + x1)))) ((m (bW b + 8) (m (bW b + 4) ((x1 * 8) + (m (bW b + 9) (0 + x1))))) + 1)) (bW b + 9) (6 + x1) ((m (bW b + 9) (6 + x1)) + (m (bW b + 9) ((36 + (x2 * 5)) + (m (bW b + 4) ((x1 * 8) + (m (bW b + 9) (0 + x1)))))))))) ∧ (3 * (m (bW b + 5) ((x1 * 8) + (m (bW b + 9) (0 + x1)))) ≤ (up (up m (bW b + 8) (m (bW b + 4) ((x1 * 8) + (m (bW b + 9) (0 + x1)))) ((m (bW b + 8) (m (bW b + 4) ((x1 * 8) + (m (bW b + 9) (0 + x1))))) + 1)) (bW b + 9) (6 + x1) ((m (bW b + 9) (6 + x1)) + (m (bW b + 9) ((36 + (x2 * 5)) + (m (bW b + 4) ((x1 * 8) + (m (bW b + 9) (0 + x1)))))))) (bW b + 9) (6 + x1) → ((0 ≤ 6 + x1 ∧ 6 + x1 < 67) ∧ ((0 ≤ 0 + x1 ∧ 0 + x1 < 67) ∧ ((0 ≤ 0 + x1 ∧ 0 + x1 < 67) ∧ (Q 0 ((b0, b1, b2), up (up (up (up m (bW b + 8) (m (bW b + 4) ((x1 * 8) + (m (bW b + 9) (0 + x1)))) ((m (bW b + 8) (m (bW b + 4) ((x1 * 8) + (m (bW b + 9) (0 + x1))))) + 1)) (bW b + 9) (6 + x1) ((m (bW b + 9) (6 + x1)) + (m (bW b + 9) ((36 + (x2 * 5)) + (m (bW b + 4) ((x1 * 8) + (m (bW b + 9) (0 + x1)))))))) (bW b + 9) (6 + x1) 0) (bW b + 9) (0 + x1) (((up (up (up m (bW b + 8) (m (bW b + 4) ((x1 * 8) + (m (bW b + 9) (0 + x1)))) ((m (bW b + 8) (m (bW b + 4) ((x1 * 8) + (m (bW b + 9) (0 + x1))))) + 1)) (bW b + 9) (6 + x1) ((m (bW b + 9) (6 + x1)) + (m (bW b + 9) ((36 + (x2 * 5)) + (m (bW b + 4) ((x1 * 8) + (m (bW b + 9) (0 + x1)))))))) (bW b + 9) (6 + x1) 0) (bW b + 9) (0 + x1)) + 1)))))))))))))))))) ∧ (m (bW b + 7) (m (bW b + 4) ((x1 * 8) + (m (bW b + 9) (0 + x1)))) ≤ m (bW b + 8) (m (bW b + 4) ((x1 * 8) + (m (bW b + 9) (0 + x1)))) → (Q 0 ((b0, b1, b2), m)))))))))))))) :
    bGo xs d aM_X4_workAt 0 [vr (bW b), vi x1, vi x2, vn, vn] [] ((b0, b1, b2), m) Q := by
  cases b <;> exact wX_sound (rk := bRk) (mo := bMo) (stops := []) (inl := [47]) (f := 400) hd H
set_option maxRecDepth 100000 in
theorem r_X4_closeDay_0 {xs : List Int32} {d : Nat} {Q : bPo} (hd : 1 ≤ d) {b : Bool} {b0 b1 b2 : Bool} {m : Nat → Int → Int} {x1 : Int}
    (H : (0 ≤ 0 + x1 ∧ 0 + x1 < 67) ∧ ((0 ≤ x1 ∧ x1 < 6) ∧ (inR (m (bW b + 9) (0 + x1)) ∧ (inR (m (bW b + 3) x1) ∧ ((m (bW b + 9) (0 + x1) < m (bW b + 3) x1 → ((0 ≤ x1 ∧ x1 < 6) ∧ (inR (m (bW b + 2) x1) ∧ (inR (m (bW b + 9) 66) ∧ ((m (bW b + 9) 66 < m (bW b + 2) x1 → (Q 0 ((b0, b1, b2), m))) ∧ (m (bW b + 2) x1 ≤ m (bW b + 9) 66 → ((0 ≤ 18 + x1 ∧ 18 + x1 < 67) ∧ (Q 0 ((b0, b1, b2), up m (bW b + 9) (18 + x1) 2))))))))) ∧ (m (bW b + 3) x1 ≤ m (bW b + 9) (0 + x1) → ((0 ≤ 18 + x1 ∧ 18 + x1 < 67) ∧ ((0 ≤ 24 + x1 ∧ 24 + x1 < 67) ∧ ((0 ≤ 12 + x1 ∧ 12 + x1 < 67) ∧ ((0 ≤ 30 + x1 ∧ 30 + x1 < 67) ∧ (Q 0 ((b0, b1, b2), up (up (up m (bW b + 9) (18 + x1) 1) (bW b + 9) (24 + x1) ((up m (bW b + 9) (18 + x1) 1) (bW b + 9) 66)) (bW b + 9) (30 + x1) ((up (up m (bW b + 9) (18 + x1) 1) (bW b + 9) (24 + x1) ((up m (bW b + 9) (18 + x1) 1) (bW b + 9) 66)) (bW b + 9) (12 + x1)))))))))))))) :
    bGo xs d aM_X4_closeDay 0 [vr (bW b), vi x1] [] ((b0, b1, b2), m) Q := by
  cases b <;> exact wX_sound (rk := bRk) (mo := bMo) (stops := []) (inl := []) (f := 400) hd H
set_option maxRecDepth 100000 in
theorem r_X4_raiseHeirs_0 {xs : List Int32} {d : Nat} {Q : bPo} (hd : 1 ≤ d) {b : Bool} {b0 b1 b2 : Bool} {m : Nat → Int → Int} {x1 : Int}
    (H : bGo xs d aM_X4_raiseHeirs 9 [vr (bW b), vl x1, vn, vl x1, vn, vi 0, vi 36, vn, vn] [] ((b0, b1, b2), m) Q) :
    bGo xs d aM_X4_raiseHeirs 0 [vr (bW b), vl x1, vn, vn, vn, vn, vn, vn, vn] [] ((b0, b1, b2), m) Q := by
  cases b <;> exact wX_sound (rk := bRk) (mo := bMo) (stops := [(9, [true, false, false, true, true, true, true, false, false]), (111, [true, false, false, false, false, true, true, false, false])]) (inl := []) (f := 400) hd H
set_option maxRecDepth 100000 in
theorem r_X4_raiseHeirs_9 {xs : List Int32} {d : Nat} {Q : bPo} (hd : 1 ≤ d) {b : Bool} {b0 b1 b2 : Bool} {m : Nat → Int → Int} {x1 x3 x5 x6 : Int}
    (H : inR x6 ∧ (inR (36 + ((m (bW b) 10) * 5)) ∧ ((36 + ((m (bW b) 10) * 5) ≤ x6 → (bGo xs d aM_X4_raiseHeirs 111 [vr (bW b), vl x1, vn, vl x3, vn, vi x5, vi 0, vn, vn] [] ((b0, b1, b2), m) Q)) ∧ (x6 < 36 + ((m (bW b) 10) * 5) → (inL (lUsh ((x3 * 6364136223846793005) + 1442695040888963407) 33) ∧ (inL (Int.tmod (lUsh ((x3 * 6364136223846793005) + 1442695040888963407) 33) 10) ∧ ((¬ Int.tmod (lUsh ((x3 * 6364136223846793005) + 1442695040888963407) 33) 10 = 0 → (inL (Int.tmod (lUsh ((x3 * 6364136223846793005) + 1442695040888963407) 33) 10) ∧ ((¬ Int.tmod (lUsh ((x3 * 6364136223846793005) + 1442695040888963407) 33) 10 = 1 → ((0 ≤ x6 ∧ x6 < 67) ∧ (inR (m (bW b + 9) x6) ∧ ((m (bW b + 9) x6 ≤ 0 → (bGo xs d aM_X4_raiseHeirs 9 [vr (bW b), vl x1, vn, vl ((x3 * 6364136223846793005) + 1442695040888963407), vn, vi x5, vi (x6 + 1), vl (Int.tmod (lUsh ((x3 * 6364136223846793005) + 1442695040888963407) 33) 10), vn] [] ((b0, b1, b2), m) Q)) ∧ (0 < m (bW b + 9) x6 → (bGo xs d aM_X4_raiseHeirs 9 [vr (bW b), vl x1, vn, vl ((x3 * 6364136223846793005) + 1442695040888963407), vn, vi (x5 + 1), vi (x6 + 1), vl (Int.tmod (lUsh ((x3 * 6364136223846793005) + 1442695040888963407) 33) 10), vn] [] ((b0, b1, b2), m) Q)))))) ∧ (Int.tmod (lUsh ((x3 * 6364136223846793005) + 1442695040888963407) 33) 10 = 1 → ((0 ≤ x6 ∧ x6 < 67) ∧ (inR ((m (bW b + 9) x6) + 1) ∧ ((0 ≤ x6 ∧ x6 < 67) ∧ ((0 ≤ x6 ∧ x6 < 67) ∧ (inR ((up m (bW b + 9) x6 (min ((m (bW b + 9) x6) + 1) 9)) (bW b + 9) x6) ∧ (((up m (bW b + 9) x6 (min ((m (bW b + 9) x6) + 1) 9)) (bW b + 9) x6 ≤ 0 → (bGo xs d aM_X4_raiseHeirs 9 [vr (bW b), vl x1, vn, vl ((x3 * 6364136223846793005) + 1442695040888963407), vn, vi x5, vi (x6 + 1), vl (Int.tmod (lUsh ((x3 * 6364136223846793005) + 1442695040888963407) 33) 10), vn] [] ((b0, b1, b2), up m (bW b + 9) x6 (min ((m (bW b + 9) x6) + 1) 9)) Q)) ∧ (0 < (up m (bW b + 9) x6 (min ((m (bW b + 9) x6) + 1) 9)) (bW b + 9) x6 → (bGo xs d aM_X4_raiseHeirs 9 [vr (bW b), vl x1, vn, vl ((x3 * 6364136223846793005) + 1442695040888963407), vn, vi (x5 + 1), vi (x6 + 1), vl (Int.tmod (lUsh ((x3 * 6364136223846793005) + 1442695040888963407) 33) 10), vn] [] ((b0, b1, b2), up m (bW b + 9) x6 (min ((m (bW b + 9) x6) + 1) 9)) Q)))))))))))) ∧ (Int.tmod (lUsh ((x3 * 6364136223846793005) + 1442695040888963407) 33) 10 = 0 → ((0 ≤ x6 ∧ x6 < 67) ∧ ((0 ≤ x6 ∧ x6 < 67) ∧ (inR ((up m (bW b + 9) x6 0) (bW b + 9) x6) ∧ (((up m (bW b + 9) x6 0) (bW b + 9) x6 ≤ 0 → (bGo xs d aM_X4_raiseHeirs 9 [vr (bW b), vl x1, vn, vl ((x3 * 6364136223846793005) + 1442695040888963407), vn, vi x5, vi (x6 + 1), vl (Int.tmod (lUsh ((x3 * 6364136223846793005) + 1442695040888963407) 33) 10), vn] [] ((b0, b1, b2), up m (bW b + 9) x6 0) Q)) ∧ (0 < (up m (bW b + 9) x6 0) (bW b + 9) x6 → (bGo xs d aM_X4_raiseHeirs 9 [vr (bW b), vl x1, vn, vl ((x3 * 6364136223846793005) + 1442695040888963407), vn, vi (x5 + 1), vi (x6 + 1), vl (Int.tmod (lUsh ((x3 * 6364136223846793005) + 1442695040888963407) 33) 10), vn] [] ((b0, b1, b2), up m (bW b + 9) x6 0) Q)))))))))))))) :
    bGo xs d aM_X4_raiseHeirs 9 [vr (bW b), vl x1, vn, vl x3, vn, vi x5, vi x6, vn, vn] [] ((b0, b1, b2), m) Q := by
  cases b <;> exact wX_sound (rk := bRk) (mo := bMo) (stops := [(9, [true, false, false, true, true, true, true, false, false]), (111, [true, false, false, false, false, true, true, false, false])]) (inl := []) (f := 400) hd H
set_option maxRecDepth 100000 in
theorem r_X4_raiseHeirs_111 {xs : List Int32} {d : Nat} {Q : bPo} (hd : 1 ≤ d) {b : Bool} {b0 b1 b2 : Bool} {m : Nat → Int → Int} {x1 x3 x5 x6 : Int}
    (H : inR x6 ∧ (inR (m (bW b) 9) ∧ ((m (bW b) 9 ≤ x6 → (Q x5 ((b0, b1, b2), m))) ∧ (x6 < m (bW b) 9 → ((0 ≤ 12 + x6 ∧ 12 + x6 < 67) ∧ (bGo xs d aM_X4_raiseHeirs 111 [vr (bW b), vl x1, vn, vl x3, vn, vi x5, vi (x6 + 1), vn, vn] [] ((b0, b1, b2), up m (bW b + 9) (12 + x6) (-1)) Q)))))) :
    bGo xs d aM_X4_raiseHeirs 111 [vr (bW b), vl x1, vn, vl x3, vn, vi x5, vi x6, vn, vn] [] ((b0, b1, b2), m) Q := by
  cases b <;> exact wX_sound (rk := bRk) (mo := bMo) (stops := [(9, [true, false, false, true, true, true, true, false, false]), (111, [true, false, false, false, false, true, true, false, false])]) (inl := []) (f := 400) hd H
set_option maxRecDepth 100000 in
theorem r_X5_tellOf_0 {xs : List Int32} {d : Nat} {Q : bPo} (hd : 1 ≤ d) {b0 b1 b2 : Bool} {m : Nat → Int → Int} {x1 x2 x3 x4 : Int}
    (H : inR x3 ∧ ((¬ x3 = (-1) → ((0 ≤ (x1 * 6) + x2 ∧ (x1 * 6) + x2 < 24) ∧ ((0 ≤ (x1 * 6) + x2 ∧ (x1 * 6) + x2 < 24) ∧ (Q 0 ((b0, b1, b2), up (up m 97 ((x1 * 6) + x2) ((x3 * 4) + x1)) 98 ((x1 * 6) + x2) x4))))) ∧ (x3 = (-1) → ((0 ≤ (x1 * 6) + x2 ∧ (x1 * 6) + x2 < 24) ∧ ((0 ≤ (x1 * 6) + x2 ∧ (x1 * 6) + x2 < 24) ∧ (Q 0 ((b0, b1, b2), up (up m 97 ((x1 * 6) + x2) 1000000) 98 ((x1 * 6) + x2) x4))))))) :
    bGo xs d aM_X5_tellOf 0 [vr 94, vi x1, vi x2, vi x3, vi x4] [] ((b0, b1, b2), m) Q := by
  exact wX_sound (rk := bRk) (mo := bMo) (stops := []) (inl := []) (f := 400) hd H
set_option maxRecDepth 100000 in
theorem r_X5_isChoice_0 {xs : List Int32} {d : Nat} {Q : bPo} (hd : 1 ≤ d) {b0 b1 b2 : Bool} {m : Nat → Int → Int} {x1 : Int}
    (H : bGo xs d aM_X5_isChoice 2 [vr 94, vi x1, vi 0] [] ((b0, b1, b2), m) Q) :
    bGo xs d aM_X5_isChoice 0 [vr 94, vi x1, vn] [] ((b0, b1, b2), m) Q := by
  exact wX_sound (rk := bRk) (mo := bMo) (stops := [(2, [true, true, true])]) (inl := []) (f := 400) hd H
set_option maxRecDepth 100000 in
theorem r_X5_isChoice_2 {xs : List Int32} {d : Nat} {Q : bPo} (hd : 1 ≤ d) {b0 b1 b2 : Bool} {m : Nat → Int → Int} {x1 x2 : Int}
    (H : inR x2 ∧ (inR (m 94 6) ∧ ((m 94 6 < x2 → (Q 0 ((b0, b1, b2), m))) ∧ (x2 ≤ m 94 6 → ((0 ≤ x2 ∧ x2 < 7) ∧ (inR (m 95 x2) ∧ (inR x1 ∧ ((¬ m 95 x2 = x1 → (bGo xs d aM_X5_isChoice 2 [vr 94, vi x1, vi (x2 + 1)] [] ((b0, b1, b2), m) Q)) ∧ (m 95 x2 = x1 → (Q 1 ((b0, b1, b2), m))))))))))) :
    bGo xs d aM_X5_isChoice 2 [vr 94, vi x1, vi x2] [] ((b0, b1, b2), m) Q := by
  exact wX_sound (rk := bRk) (mo := bMo) (stops := [(2, [true, true, true])]) (inl := []) (f := 400) hd H
set_option maxRecDepth 100000 in
theorem r_X5_takeRow_0 {xs : List Int32} {d : Nat} {Q : bPo} (hd : 3 ≤ d) {b0 b1 b2 : Bool} {m : Nat → Int → Int} {x1 : Int}
    (H : inR x1 ∧ ((x1 < 0 → (Q 0 ((b0, b1, b2), m))) ∧ (0 ≤ x1 → ((0 ≤ m 94 5 ∧ m 94 5 < 7) ∧ (inR x1 ∧ (inR (bXv xs 1001 (m 94 5)) ∧ ((x1 < bXv xs 1001 (m 94 5) → (bGo xs d aM_X5_takeRow 20 [vr 94, vi x1, vi 0] [] ((b0, b1, b2), m) Q)) ∧ (bXv xs 1001 (m 94 5) ≤ x1 → (Q 0 ((b0, b1, b2), m)))))))))) :
    bGo xs d aM_X5_takeRow 0 [vr 94, vi x1, vn] [] ((b0, b1, b2), m) Q := by
  exact wX_sound (rk := bRk) (mo := bMo) (stops := [(20, [true, true, true])]) (inl := []) (f := 400) hd H
set_option maxRecDepth 100000 in
theorem r_X5_takeRow_20 {xs : List Int32} {d : Nat} {Q : bPo} (hd : 3 ≤ d) {b0 b1 b2 : Bool} {m : Nat → Int → Int} {x1 x2 : Int}
    (H : inR x2 ∧ (inR (m 94 5) ∧ ((m 94 5 ≤ x2 → (bC xs 2 76 [vr 94] ((b0, b1, b2), m) (fun z1 μ2 => (μ2.1 = (b0, b1, b2)) ∧ (Q 1 ((b0, b1, b2), μ2.2))))) ∧ (x2 < m 94 5 → ((0 ≤ ((m 94 5) - 1) - x2 ∧ ((m 94 5) - 1) - x2 < 7) ∧ (inR x1 ∧ ((inR (bXv xs 1001 (((m 94 5) - 1) - x2)) ∧ ¬ bXv xs 1001 (((m 94 5) - 1) - x2) = 0) ∧ (inR (Int.tdiv x1 (bXv xs 1001 (((m 94 5) - 1) - x2))) ∧ ((0 ≤ x2 ∧ x2 < 4) ∧ ((0 ≤ x2 ∧ x2 < 4) ∧ (bC xs 1 74 [vr 94, vi ((up m 96 x2 (Int.tmod (Int.tdiv x1 (bXv xs 1001 (((m 94 5) - 1) - x2))) 10)) 96 x2)] ((b0, b1, b2), up m 96 x2 (Int.tmod (Int.tdiv x1 (bXv xs 1001 (((m 94 5) - 1) - x2))) 10)) (fun z3 μ4 => (μ4.1 = (b0, b1, b2)) ∧ (inR z3 ∧ ((¬ z3 = 0 → (bGo xs d aM_X5_takeRow 20 [vr 94, vi x1, vi (x2 + 1)] [] ((b0, b1, b2), μ4.2) Q)) ∧ (z3 = 0 → (Q 0 ((b0, b1, b2), μ4.2))))))))))))))))) :
    bGo xs d aM_X5_takeRow 20 [vr 94, vi x1, vi x2] [] ((b0, b1, b2), m) Q := by
  exact wX_sound (rk := bRk) (mo := bMo) (stops := [(20, [true, true, true])]) (inl := []) (f := 400) hd H
set_option maxRecDepth 100000 in
theorem r_X5_findLeads_0 {xs : List Int32} {d : Nat} {Q : bPo} (hd : 2 ≤ d) {b0 b1 b2 : Bool} {m : Nat → Int → Int}
    (H : bC xs 1 283 [vr 99, vi 1000000] ((b0, b1, b2), m) (fun z1 μ2 => (μ2.1 = (b0, b1, b2)) ∧ (bGo xs d aM_X5_findLeads 11 [vr 94, vi 0, vn] [] ((b0, b1, b2), μ2.2) Q))) :
    bGo xs d aM_X5_findLeads 0 [vr 94, vn, vn] [] ((b0, b1, b2), m) Q := by
  exact wX_sound (rk := bRk) (mo := bMo) (stops := [(11, [true, true, false])]) (inl := []) (f := 400) hd H
set_option maxRecDepth 100000 in
theorem r_X5_findLeads_11 {xs : List Int32} {d : Nat} {Q : bPo} (hd : 2 ≤ d) {b0 b1 b2 : Bool} {m : Nat → Int → Int} {x1 : Int}
    (H : inR x1 ∧ (inR (m 94 5) ∧ ((m 94 5 ≤ x1 → (Q 0 ((b0, b1, b2), m))) ∧ (x1 < m 94 5 → ((0 ≤ x1 ∧ x1 < 4) ∧ (inR (m 96 x1) ∧ ((m 96 x1 = 9 → (bGo xs d aM_X5_findLeads 11 [vr 94, vi (x1 + 1), vn] [] ((b0, b1, b2), m) Q)) ∧ (¬ m 96 x1 = 9 → ((0 ≤ m 96 x1 ∧ m 96 x1 < 6) ∧ ((0 ≤ (x1 * 6) + (m 96 x1) ∧ (x1 * 6) + (m 96 x1) < 24) ∧ (inR (m 99 (m 96 x1)) ∧ (inR (m 97 ((x1 * 6) + (m 96 x1))) ∧ ((0 ≤ m 96 x1 ∧ m 96 x1 < 6) ∧ (bGo xs d aM_X5_findLeads 11 [vr 94, vi (x1 + 1), vn] [] ((b0, b1, b2), up m 99 (m 96 x1) (min (m 99 (m 96 x1)) (m 97 ((x1 * 6) + (m 96 x1))))) Q)))))))))))))) :
    bGo xs d aM_X5_findLeads 11 [vr 94, vi x1, vn] [] ((b0, b1, b2), m) Q := by
  exact wX_sound (rk := bRk) (mo := bMo) (stops := [(11, [true, true, false])]) (inl := []) (f := 400) hd H
set_option maxRecDepth 100000 in
theorem r_X5_gainOf_0 {xs : List Int32} {d : Nat} {Q : bPo} (hd : 1 ≤ d) {b0 b1 b2 : Bool} {m : Nat → Int → Int} {x1 : Int}
    (H : (0 ≤ x1 ∧ x1 < 4) ∧ (inR (m 96 x1) ∧ ((¬ m 96 x1 = 9 → ((0 ≤ (x1 * 6) + (m 96 x1) ∧ (x1 * 6) + (m 96 x1) < 24) ∧ (inR (m 97 ((x1 * 6) + (m 96 x1))) ∧ ((m 97 ((x1 * 6) + (m 96 x1)) = 1000000 → (Q 0 ((b0, b1, b2), m))) ∧ (¬ m 97 ((x1 * 6) + (m 96 x1)) = 1000000 → ((0 ≤ m 96 x1 ∧ m 96 x1 < 6) ∧ (inR (m 97 ((x1 * 6) + (m 96 x1))) ∧ (inR (m 99 (m 96 x1)) ∧ ((¬ m 97 ((x1 * 6) + (m 96 x1)) = m 99 (m 96 x1) → (Q 0 ((b0, b1, b2), m))) ∧ (m 97 ((x1 * 6) + (m 96 x1)) = m 99 (m 96 x1) → ((0 ≤ (x1 * 6) + (m 96 x1) ∧ (x1 * 6) + (m 96 x1) < 24) ∧ (Q (m 98 ((x1 * 6) + (m 96 x1))) ((b0, b1, b2), m))))))))))))) ∧ (m 96 x1 = 9 → (Q 0 ((b0, b1, b2), m)))))) :
    bGo xs d aM_X5_gainOf 0 [vr 94, vi x1, vn, vn] [] ((b0, b1, b2), m) Q := by
  exact wX_sound (rk := bRk) (mo := bMo) (stops := []) (inl := []) (f := 400) hd H
set_option maxRecDepth 100000 in
theorem r_X5_isContent_0 {xs : List Int32} {d : Nat} {Q : bPo} (hd : 2 ≤ d) {b0 b1 b2 : Bool} {m : Nat → Int → Int} {x1 : Int}
    (H : bC xs 1 77 [vr 94, vi x1] ((b0, b1, b2), m) (fun z1 μ2 => (μ2.1 = (b0, b1, b2)) ∧ (inR z1 ∧ ((0 ≤ z1 → (bGo xs d aM_X5_isContent 14 [vr 94, vi x1, vi z1, vi 0, vn] [] ((b0, b1, b2), μ2.2) Q)) ∧ (z1 < 0 → (Q 0 ((b0, b1, b2), μ2.2))))))) :
    bGo xs d aM_X5_isContent 0 [vr 94, vi x1, vn, vn, vn] [] ((b0, b1, b2), m) Q := by
  exact wX_sound (rk := bRk) (mo := bMo) (stops := [(14, [true, true, true, true, false])]) (inl := []) (f := 400) hd H
set_option maxRecDepth 100000 in
theorem r_X5_isContent_14 {xs : List Int32} {d : Nat} {Q : bPo} (hd : 2 ≤ d) {b0 b1 b2 : Bool} {m : Nat → Int → Int} {x1 x2 x3 : Int}
    (H : inR x3 ∧ (inR (m 94 6) ∧ ((m 94 6 ≤ x3 → (Q 1 ((b0, b1, b2), m))) ∧ (x3 < m 94 6 → ((0 ≤ x3 ∧ x3 < 7) ∧ ((0 ≤ x3 ∧ x3 < 7) ∧ ((0 ≤ x1 ∧ x1 < 4) ∧ (inR (m 95 x3) ∧ (inR (m 96 x1) ∧ ((m 95 x3 = m 96 x1 → (bGo xs d aM_X5_isContent 14 [vr 94, vi x1, vi x2, vi (x3 + 1), vn] [] ((b0, b1, b2), m) Q)) ∧ (¬ m 95 x3 = m 96 x1 → ((0 ≤ (x1 * 6) + (m 95 x3) ∧ (x1 * 6) + (m 95 x3) < 24) ∧ ((0 ≤ x3 ∧ x3 < 7) ∧ ((0 ≤ m 95 x3 ∧ m 95 x3 < 6) ∧ (inR (m 97 ((x1 * 6) + (m 95 x3))) ∧ (inR (m 99 (m 95 x3)) ∧ ((m 99 (m 95 x3) ≤ m 97 ((x1 * 6) + (m 95 x3)) → (bGo xs d aM_X5_isContent 14 [vr 94, vi x1, vi x2, vi (x3 + 1), vn] [] ((b0, b1, b2), m) Q)) ∧ (m 97 ((x1 * 6) + (m 95 x3)) < m 99 (m 95 x3) → ((0 ≤ (x1 * 6) + (m 95 x3) ∧ (x1 * 6) + (m 95 x3) < 24) ∧ (inR (m 98 ((x1 * 6) + (m 95 x3))) ∧ (inR x2 ∧ ((m 98 ((x1 * 6) + (m 95 x3)) ≤ x2 → (bGo xs d aM_X5_isContent 14 [vr 94, vi x1, vi x2, vi (x3 + 1), vn] [] ((b0, b1, b2), m) Q)) ∧ (x2 < m 98 ((x1 * 6) + (m 95 x3)) → (Q 0 ((b0, b1, b2), m))))))))))))))))))))))))) :
    bGo xs d aM_X5_isContent 14 [vr 94, vi x1, vi x2, vi x3, vn] [] ((b0, b1, b2), m) Q := by
  exact wX_sound (rk := bRk) (mo := bMo) (stops := [(14, [true, true, true, true, false])]) (inl := []) (f := 400) hd H
set_option maxRecDepth 100000 in
theorem r_X5_areContent_0 {xs : List Int32} {d : Nat} {Q : bPo} (hd : 3 ≤ d) {b0 b1 b2 : Bool} {m : Nat → Int → Int}
    (H : bGo xs d aM_X5_areContent 2 [vr 94, vi 0] [] ((b0, b1, b2), m) Q) :
    bGo xs d aM_X5_areContent 0 [vr 94, vn] [] ((b0, b1, b2), m) Q := by
  exact wX_sound (rk := bRk) (mo := bMo) (stops := [(2, [true, true])]) (inl := []) (f := 400) hd H
set_option maxRecDepth 100000 in
theorem r_X5_areContent_2 {xs : List Int32} {d : Nat} {Q : bPo} (hd : 3 ≤ d) {b0 b1 b2 : Bool} {m : Nat → Int → Int} {x1 : Int}
    (H : inR x1 ∧ (inR (m 94 5) ∧ ((m 94 5 ≤ x1 → (Q 1 ((b0, b1, b2), m))) ∧ (x1 < m 94 5 → (bC xs 2 78 [vr 94, vi x1] ((b0, b1, b2), m) (fun z1 μ2 => (μ2.1 = (b0, b1, b2)) ∧ (inR z1 ∧ ((¬ z1 = 0 → (bGo xs d aM_X5_areContent 2 [vr 94, vi (x1 + 1)] [] ((b0, b1, b2), μ2.2) Q)) ∧ (z1 = 0 → (Q 0 ((b0, b1, b2), μ2.2))))))))))) :
    bGo xs d aM_X5_areContent 2 [vr 94, vi x1] [] ((b0, b1, b2), m) Q := by
  exact wX_sound (rk := bRk) (mo := bMo) (stops := [(2, [true, true])]) (inl := []) (f := 400) hd H
set_option maxRecDepth 100000 in
theorem r_X5_restingRow_0 {xs : List Int32} {d : Nat} {Q : bPo} (hd : 4 ≤ d) {b0 b1 b2 : Bool} {m : Nat → Int → Int} {x1 : Int}
    (H : bGo xs d aM_X5_restingRow 4 [vr 94, vi x1, vi 1, vi 0, vn, vn] [] ((b0, b1, b2), m) Q) :
    bGo xs d aM_X5_restingRow 0 [vr 94, vi x1, vn, vn, vn, vn] [] ((b0, b1, b2), m) Q := by
  exact wX_sound (rk := bRk) (mo := bMo) (stops := [(4, [true, true, true, true, false, false]), (32, [true, true, true, true, true, false])]) (inl := []) (f := 400) hd H
set_option maxRecDepth 100000 in
theorem r_X5_restingRow_4 {xs : List Int32} {d : Nat} {Q : bPo} (hd : 4 ≤ d) {b0 b1 b2 : Bool} {m : Nat → Int → Int} {x1 x2 x3 : Int}
    (H : inR x3 ∧ (inR (m 94 5) ∧ ((m 94 5 ≤ x3 → (bGo xs d aM_X5_restingRow 32 [vr 94, vi x1, vi x2, vi 0, vi 0, vn] [] ((b0, b1, b2), m) Q)) ∧ (x3 < m 94 5 → (bGo xs d aM_X5_restingRow 4 [vr 94, vi x1, vi (x2 * ((m 94 6) + 1)), vi (x3 + 1), vn, vn] [] ((b0, b1, b2), m) Q))))) :
    bGo xs d aM_X5_restingRow 4 [vr 94, vi x1, vi x2, vi x3, vn, vn] [] ((b0, b1, b2), m) Q := by
  exact wX_sound (rk := bRk) (mo := bMo) (stops := [(4, [true, true, true, true, false, false]), (32, [true, true, true, true, true, false])]) (inl := []) (f := 400) hd H
set_option maxRecDepth 100000 in
theorem r_X5_restingRow_32 {xs : List Int32} {d : Nat} {Q : bPo} (hd : 4 ≤ d) {b0 b1 b2 : Bool} {m : Nat → Int → Int} {x1 x2 x3 x4 : Int}
    (H : inR x4 ∧ (inR x2 ∧ ((x2 ≤ x4 → (inR x1 ∧ ((¬ x1 = (-1) → (Q (-1) ((b0, b1, b2), m))) ∧ (x1 = (-1) → (Q x3 ((b0, b1, b2), m)))))) ∧ (x4 < x2 → (bC xs 3 81 [vr 94, vi x4] ((b0, b1, b2), m) (fun z1 μ2 => (μ2.1 = (b0, b1, b2)) ∧ (bC xs 3 79 [vr 94] ((b0, b1, b2), μ2.2) (fun z3 μ4 => (μ4.1 = (b0, b1, b2)) ∧ (inR z3 ∧ ((z3 = 0 → (bGo xs d aM_X5_restingRow 32 [vr 94, vi x1, vi x2, vi x3, vi (x4 + 1), vn] [] ((b0, b1, b2), μ4.2) Q)) ∧ (¬ z3 = 0 → (inR x3 ∧ (inR x1 ∧ ((¬ x3 = x1 → (bGo xs d aM_X5_restingRow 32 [vr 94, vi x1, vi x2, vi (x3 + 1), vi (x4 + 1), vn] [] ((b0, b1, b2), μ4.2) Q)) ∧ (x3 = x1 → (Q z1 ((b0, b1, b2), μ4.2))))))))))))))))) :
    bGo xs d aM_X5_restingRow 32 [vr 94, vi x1, vi x2, vi x3, vi x4, vn] [] ((b0, b1, b2), m) Q := by
  exact wX_sound (rk := bRk) (mo := bMo) (stops := [(4, [true, true, true, true, false, false]), (32, [true, true, true, true, true, false])]) (inl := []) (f := 400) hd H
set_option maxRecDepth 100000 in
theorem r_X5_pickBy_0 {xs : List Int32} {d : Nat} {Q : bPo} (hd : 3 ≤ d) {b0 b1 b2 : Bool} {m : Nat → Int → Int} {x1 : Int}
    (H : bGo xs d aM_X5_pickBy 12 [vr 94, vn, vi x1, vi 0, vi ((m 94 5) - 1)] [] ((b0, b1, b2), m) Q) :
    bGo xs d aM_X5_pickBy 0 [vr 94, vi x1, vn, vn, vn] [] ((b0, b1, b2), m) Q := by
  exact wX_sound (rk := bRk) (mo := bMo) (stops := [(12, [true, false, true, true, true])]) (inl := []) (f := 400) hd H
set_option maxRecDepth 100000 in
theorem r_X5_pickBy_12 {xs : List Int32} {d : Nat} {Q : bPo} (hd : 3 ≤ d) {b0 b1 b2 : Bool} {m : Nat → Int → Int} {x2 x3 x4 : Int}
    (H : inR x4 ∧ ((x4 < 0 → (bC xs 2 76 [vr 94] ((b0, b1, b2), m) (fun z1 μ2 => (μ2.1 = (b0, b1, b2)) ∧ (Q x3 ((b0, b1, b2), μ2.2))))) ∧ (0 ≤ x4 → (inR x2 ∧ ((inR ((m 94 6) + 1) ∧ ¬ (m 94 6) + 1 = 0) ∧ ((0 ≤ Int.tmod x2 ((m 94 6) + 1) ∧ Int.tmod x2 ((m 94 6) + 1) < 7) ∧ ((0 ≤ x4 ∧ x4 < 4) ∧ (inR x2 ∧ ((inR ((m 94 6) + 1) ∧ ¬ (m 94 6) + 1 = 0) ∧ ((0 ≤ x4 ∧ x4 < 4) ∧ ((0 ≤ ((m 94 5) - 1) - x4 ∧ ((m 94 5) - 1) - x4 < 7) ∧ (bGo xs d aM_X5_pickBy 12 [vr 94, vn, vi (Int.tdiv x2 ((m 94 6) + 1)), vi (x3 + (((up m 96 x4 (m 95 (Int.tmod x2 ((m 94 6) + 1)))) 96 x4) * (bXv xs 1001 (((m 94 5) - 1) - x4)))), vi (x4 + (-1))] [] ((b0, b1, b2), up m 96 x4 (m 95 (Int.tmod x2 ((m 94 6) + 1)))) Q)))))))))))) :
    bGo xs d aM_X5_pickBy 12 [vr 94, vn, vi x2, vi x3, vi x4] [] ((b0, b1, b2), m) Q := by
  exact wX_sound (rk := bRk) (mo := bMo) (stops := [(12, [true, false, true, true, true])]) (inl := []) (f := 400) hd H
