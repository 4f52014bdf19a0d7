/-! B: THE TAPE: bytes -/
theorem qAnd255 {y : Int} (h : inR y) : bAnd y 255 = y % 256 := by
  unfold bAnd
  have e : (Int32.ofInt y &&& Int32.ofInt 255).toInt = (BitVec.ofInt 32 y &&& 255#32).toInt := rfl
  rw [e]
  have hn : (BitVec.ofInt 32 y &&& 255#32).toNat = (y % 4294967296).toNat % 256 := by
    rw [BitVec.toNat_and, BitVec.toNat_ofInt]
    show (y % 4294967296).toNat &&& 255 = _
    exact Nat.and_two_pow_sub_one_eq_mod _ 8
  rw [BitVec.toInt_eq_toNat_of_lt (by rw [hn]; omega), hn]
  omega
theorem qShrL {y : Int} (h : inR y) : bShr y 24 = y / 16777216 ∧ bShr y 16 = y / 65536 ∧ bShr y 8 = y / 256 ∧ bShr y 0 = y := by
  have k : ∀ s : Nat, s < 32 → (Int32.ofInt y).toBitVec.sshiftRight s = (Int32.ofInt y).toBitVec.sshiftRight s := fun _ _ => rfl
  have hy : (Int32.ofInt y).toBitVec.toInt = y := Int32.toInt_ofInt_of_le h.1 (by have := h.2; omega)
  have e : ∀ s : Nat, ((Int32.ofInt y).toBitVec.sshiftRight s).toInt = y / 2 ^ s := fun s => by
    rw [BitVec.toInt_sshiftRight, hy, Int.shiftRight_eq_div_pow]
    rfl
  refine ⟨e 24, e 16, e 8, ?_⟩
  have := e 0
  rw [show (2 : Int) ^ 0 = 1 from rfl, Int.ediv_one] at this
  exact this
theorem qUshL {y : Int} (h : inR y) : bUsh y 24 = (y % 4294967296) / 16777216 ∧ bUsh y 16 = (y % 4294967296) / 65536 ∧ bUsh y 8 = (y % 4294967296) / 256 ∧ bUsh y 0 = y := by
  have e : ∀ s : Nat, 1 ≤ s → s < 32 → ((BitVec.ofInt 32 y) >>> s).toInt = (y % 4294967296) / 2 ^ s := fun s h1 h2 => by
    have hn : ((BitVec.ofInt 32 y) >>> s).toNat = (y % 4294967296).toNat / 2 ^ s := by
      rw [BitVec.toNat_ushiftRight, BitVec.toNat_ofInt, Nat.shiftRight_eq_div_pow]
      rfl
    have hp : 2 ≤ 2 ^ s := by
      calc 2 = 2 ^ 1 := rfl
        _ ≤ 2 ^ s := Nat.pow_le_pow_right (by omega) h1
    have hl : (y % 4294967296).toNat / 2 ^ s ≤ (y % 4294967296).toNat / 2 := Nat.div_le_div_left hp (by omega)
    rw [BitVec.toInt_eq_toNat_of_lt (by rw [hn]; omega), hn]
    rw [Int.natCast_ediv, Int.toNat_of_nonneg (by omega)]
    rw [Int.natCast_pow]
    rfl
  refine ⟨e 24 (by omega) (by omega), e 16 (by omega) (by omega), e 8 (by omega) (by omega), ?_⟩
  exact Int32.toInt_ofInt_of_le h.1 (by have := h.2; omega)
/-- a byte as the reference keeps it -/
def qsb (c : Int) : Int := if c < 128 then c else c - 256
theorem qByt {y : Int} (h : inR y) : bNar 1 (bByt y) = qsb (y % 256) := by
  have e1 : ∀ z : Int, inR z → bByt z = qsb (z % 256) := fun z hz => by
    unfold bByt
    rw [Int8.toInt_toInt32, Int32.toInt_toInt8, Int32.toInt_ofInt_of_le hz.1 (by have := hz.2; omega)]
    rw [Int.bmod_def]
    unfold qsb
    split <;> split <;> omega
  have e2 : inR (bByt y) := qI_inR _
  have e3 : bNar 1 (bByt y) = bByt (bByt y) := rfl
  rw [e3, e1 _ e2, e1 _ h]
  unfold qsb
  split <;> split <;> omega
