/-! THE JDK's TEXTS, 2: contracts -/
theorem jrm (d : Nat) : 1 ≤ (aRm d).frames ∧ 60 ≤ (aRm d).locals ∧ 0 ≤ (aRm d).cells ∧ 0 ≤ (aRm d).slots := ⟨by show 1 ≤ d + 6; omega, by show 60 ≤ 41 * (d + 6); omega, Nat.le_refl _, Nat.le_refl _⟩
theorem jrm2 {d d' : Nat} (h : d' + 1 ≤ d) : d' + 7 ≤ (aRm d).frames ∧ 41 * (d' + 7) ≤ (aRm d).locals ∧ 0 ≤ (aRm d).cells ∧ 0 ≤ (aRm d).slots := ⟨by show d' + 7 ≤ d + 6; omega, by show 41 * (d' + 7) ≤ 41 * (d + 6); omega, Nat.le_refl _, Nat.le_refl _⟩
section JT
variable {X : aXt} {S : List aSh} {l : Launch}
/-- the words that texts ask for -/
theorem jw (i : Nat) (w : Cond) (h : aWd i w = true) : w ∈ aTB := aWd_mem h
theorem jM1 : Cond.methodLink RJ0 1059 yJ3_checkIndex_8e157 ∈ aTB := jw 1618 _ (by decide +kernel)
theorem jM2 : Cond.static yJ3_checkIndex_8e157 ∈ aTB := jw 1619 _ (by decide +kernel)
theorem jM5 : Cond.methodLink RJ1 9 yJ0_checkIndex_df160 ∈ aTB := jw 1613 _ (by decide +kernel)
theorem jM6 : Cond.static yJ0_checkIndex_df160 ∈ aTB := jw 1614 _ (by decide +kernel)
theorem jM7 : Cond.methodLink RJ0 492 yJ0_isLatin1_aae02 ∈ aTB := jw 1606 _ (by decide +kernel)
theorem jM8 : Cond.instanceMethod yJ0_isLatin1_aae02 ∈ aTB := jw 1607 _ (by decide +kernel)
theorem jM9 : Cond.selects "java/lang/String" yJ0_isLatin1_aae02 yJ0_isLatin1_aae02 ∈ aTB := jw 1608 _ (by decide +kernel)
theorem jM10 : Cond.methodLink RJ0 495 yJ1_charAt_3b067 ∈ aTB := jw 1610 _ (by decide +kernel)
theorem jM11 : Cond.static yJ1_charAt_3b067 ∈ aTB := jw 1611 _ (by decide +kernel)
theorem jM12 : Cond.methodLink RJ0 335 yJ0_coder_7d493 ∈ aTB := jw 1596 _ (by decide +kernel)
theorem jM13 : Cond.instanceMethod yJ0_coder_7d493 ∈ aTB := jw 1597 _ (by decide +kernel)
theorem jM14 : Cond.selects "java/lang/String" yJ0_coder_7d493 yJ0_coder_7d493 ∈ aTB := jw 1598 _ (by decide +kernel)
theorem jM15 : Cond.methodLink "HalfDoneModel" 120 yJ0_length_8abf5 ∈ aTB := jw 1592 _ (by decide +kernel)
theorem jM16 : Cond.instanceMethod yJ0_length_8abf5 ∈ aTB := jw 1593 _ (by decide +kernel)
theorem jM17 : Cond.selects "java/lang/String" yJ0_length_8abf5 yJ0_length_8abf5 ∈ aTB := jw 1594 _ (by decide +kernel)
theorem jM18 : Cond.methodLink "HalfDoneModel" 126 yJ0_charAt_5068e ∈ aTB := jw 1602 _ (by decide +kernel)
theorem jM19 : Cond.instanceMethod yJ0_charAt_5068e ∈ aTB := jw 1603 _ (by decide +kernel)
theorem jM20 : Cond.selects "java/lang/String" yJ0_charAt_5068e yJ0_charAt_5068e ∈ aTB := jw 1604 _ (by decide +kernel)
theorem jM21 : Cond.methodLink "HalfDone$Dealer" 94 yJ9_floorDiv_7cf53 ∈ aTB := jw 981 _ (by decide +kernel)
theorem jM22 : Cond.static yJ9_floorDiv_7cf53 ∈ aTB := jw 982 _ (by decide +kernel)
theorem jF1 : Cond.fieldLink RJ0 1053 RJ3 "SIOOBE_FORMATTER" "Ljava/util/function/BiFunction;" ∈ aTB := jw 1616 _ (by decide +kernel)
theorem jF2 : Cond.fieldLink RJ0 38 RJ0 "COMPACT_STRINGS" "Z" ∈ aTB := jw 1600 _ (by decide +kernel)
theorem jF3 : Cond.fieldLink RJ0 9 RJ0 "value" "[B" ∈ aTB := jw 2053 _ (by decide +kernel)
theorem jF4 : Cond.fieldLink RJ0 15 RJ0 "coder" "B" ∈ aTB := jw 2054 _ (by decide +kernel)
theorem jI0 : Cond.initialized RJ0 ∈ aTB := jw 129 _ (by decide +kernel)

end JT
