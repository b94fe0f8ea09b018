/-! the stages of a tick -/
theorem rem_toInt {T : Nat} {d : Int32} (hT : T < 2 ^ 30) (h0 : d.toInt ≠ 0) (h1 : -99 ≤ d.toInt) (h2 : d.toInt ≤ 99) : (sk_rem (nI T) d).toInt = (T : Int).tmod d.toInt := by
  have e0 : (nI T).toInt = (T : Int) := nI_toInt (by omega)
  unfold sk_rem
  have e1 : (nI T / d).toInt = ((T : Int).tdiv d.toInt).bmod (2 ^ 32) := by rw [Int32.toInt_div, e0]
  rw [Int32.toInt_sub, Int32.toInt_mul, e1, e0]
  have e3 : ((T : Int).tdiv d.toInt).natAbs ≤ T := by
    rw [Int.natAbs_tdiv]
    exact Nat.div_le_self _ _
  have e4 : ((T : Int).tdiv d.toInt).bmod (2 ^ 32) = (T : Int).tdiv d.toInt := by
    apply Int.bmod_eq_of_le <;> omega
  have e5 : (T : Int) = (T : Int).tdiv d.toInt * d.toInt + (T : Int).tmod d.toInt := (Int.tdiv_mul_add_tmod _ _).symm
  have e6 : ((T : Int).tmod d.toInt).natAbs < d.toInt.natAbs := by
    rw [Int.natAbs_tmod]
    exact Nat.mod_lt _ (by omega)
  have e7 : 0 ≤ (T : Int).tmod d.toInt := Int.tmod_nonneg _ (by omega)
  rw [e4]
  have e8 : ((T : Int).tdiv d.toInt * d.toInt).bmod (2 ^ 32) = (T : Int).tdiv d.toInt * d.toInt := by
    apply Int.bmod_eq_of_le <;> omega
  rw [e8]
  have e9 : (T : Int) - (T : Int).tdiv d.toInt * d.toInt = (T : Int).tmod d.toInt := by omega
  rw [e9]
  apply Int.bmod_eq_of_le <;> omega
theorem rem_zero {T : Nat} {d : Int32} (hT : T < 2 ^ 30) (h0 : d.toInt ≠ 0) (h1 : -99 ≤ d.toInt) (h2 : d.toInt ≤ 99) : sk_rem (nI T) d = 0 ↔ d.toInt ∣ (T : Int) := by
  rw [← Int32.toInt_inj, rem_toInt hT h0 h1 h2, Int32.toInt_zero]
  exact Int.dvd_iff_tmod_eq_zero.symm
