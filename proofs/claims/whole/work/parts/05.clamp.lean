/-! the clamped sum -/
theorem gm_cl1 {w : Nat} {m : Int32} (hw : w ≤ 50) : m ≤ 50 - nI w ↔ m.toInt ≤ 50 - (w : Int) := by
  have e : (50 : Int32) - nI w = nI (50 - w) := pk_sub (a := 50) hw
  rw [e, Int32.le_iff_toInt_le, nI_toInt (by omega)]
  omega
theorem gm_cl2 {w : Nat} {m : Int32} (hw : w ≤ 50) : -nI w ≤ m ↔ -(w : Int) ≤ m.toInt := by
  rw [Int32.le_iff_toInt_le, sb_negT (by omega)]
theorem gm_clS {w : Nat} (m : Int32) (hw : w ≤ 50) : ((nI w).toInt64 + m.toInt64).toInt = (w : Int) + m.toInt := by
  have h1 := Int32.toInt_lt m
  have h2 := Int32.le_toInt m
  rw [Int64.toInt_add, Int32.toInt_toInt64, Int32.toInt_toInt64, nI_toInt (by omega)]
  exact Int.bmod_eq_of_le (by omega) (by omega)
theorem gm_clZ {w : Nat} {m : Int32} (hw : w ≤ 50) (h1 : m.toInt ≤ 50 - (w : Int)) (h2 : -(w : Int) ≤ m.toInt) : ∃ z : Nat, z ≤ 50 ∧ nI w + m = nI z ∧ ((nI w).toInt64 + m.toInt64).toInt32 = nI z := by
  refine ⟨((w : Int) + m.toInt).toNat, by omega, ?_, ?_⟩
  · apply Int32.toInt_inj.mp
    rw [Int32.toInt_add, nI_toInt (by omega), nI_toInt (by omega), Int.bmod_eq_of_le (by omega) (by omega)]
    omega
  · have e : (nI w).toInt64 + m.toInt64 = lN ((w : Int) + m.toInt).toNat := by
      apply Int64.toInt_inj.mp
      rw [gm_clS m hw, pk_lT (by omega)]
      omega
    rw [e, lN_i]
