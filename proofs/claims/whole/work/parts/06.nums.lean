theorem wr_toInt (x : Int) : (Int32.ofInt x).toInt = wr x := by
  rw [Int32.toInt_ofInt]
  show x.bmod 4294967296 = wr x
  unfold wr
  rw [Int.bmod_def]
  split <;> omega
theorem wl_toInt (x : Int) : (Int64.ofInt x).toInt = wl x := by
  rw [Int64.toInt_ofInt]
  show x.bmod 18446744073709551616 = wl x
  unfold wl
  rw [Int.bmod_def]
  split <;> omega
theorem of_wr (x : Int) : Int32.ofInt (wr x) = Int32.ofInt x := by rw [← wr_toInt, Int32.ofInt_toInt]
theorem of_wl (x : Int) : Int64.ofInt (wl x) = Int64.ofInt x := by rw [← wl_toInt, Int64.ofInt_toInt]
theorem wr_lo (x : Int) : -2147483648 ≤ wr x := by unfold wr; omega
theorem wr_hi (x : Int) : wr x ≤ 2147483647 := by unfold wr; omega
theorem wl_lo (x : Int) : -9223372036854775808 ≤ wl x := by unfold wl; omega
theorem wl_hi (x : Int) : wl x ≤ 9223372036854775807 := by unfold wl; omega
theorem wr_eq_iff (x y : Int) : Int32.ofInt x = Int32.ofInt y ↔ wr x = wr y := by
  rw [← Int32.toInt_inj, wr_toInt, wr_toInt]
theorem wl_eq_iff (x y : Int) : Int64.ofInt x = Int64.ofInt y ↔ wl x = wl y := by
  rw [← Int64.toInt_inj, wl_toInt, wl_toInt]
theorem wr_lt_iff (x y : Int) : Int32.ofInt x < Int32.ofInt y ↔ wr x < wr y := by
  rw [Int32.lt_iff_toInt_lt, wr_toInt, wr_toInt]
theorem wr_le_iff (x y : Int) : Int32.ofInt x ≤ Int32.ofInt y ↔ wr x ≤ wr y := by
  rw [Int32.le_iff_toInt_le, wr_toInt, wr_toInt]
theorem wl_lt_iff (x y : Int) : Int64.ofInt x < Int64.ofInt y ↔ wl x < wl y := by
  rw [Int64.lt_iff_toInt_lt, wl_toInt, wl_toInt]
theorem wr_zero : wr 0 = 0 := by decide
theorem z_div_of (x y : Int) : Int32.ofInt (z_div x y) = Int32.ofInt x / Int32.ofInt y := by
  unfold z_div
  rw [Int32.ofInt_tdiv (wr_lo x) (wr_hi x) (wr_lo y) (wr_hi y), of_wr, of_wr]
theorem z_ldiv_of (x y : Int) : Int64.ofInt (z_ldiv x y) = Int64.ofInt x / Int64.ofInt y := by
  unfold z_ldiv
  rw [Int64.ofInt_tdiv (wl_lo x) (wl_hi x) (wl_lo y) (wl_hi y), of_wl, of_wl]
theorem z_rem_of (x y : Int) : Int32.ofInt (z_rem x y) = Int32.ofInt x - Int32.ofInt x / Int32.ofInt y * Int32.ofInt y := by
  rw [← z_div_of]
  unfold z_rem z_div
  rw [Int.tmod_def, Int32.ofInt_sub, Int32.ofInt_mul, of_wr, of_wr, Int32.mul_comm]
theorem z_lrem_of (x y : Int) : Int64.ofInt (z_lrem x y) = Int64.ofInt x - Int64.ofInt x / Int64.ofInt y * Int64.ofInt y := by
  rw [← z_ldiv_of]
  unfold z_lrem z_ldiv
  rw [Int.tmod_def, Int64.ofInt_sub, Int64.ofInt_mul, of_wl, of_wl, Int64.mul_comm]
theorem z_and_of (x y : Int) : Int32.ofInt (z_and x y) = Int32.ofInt x &&& Int32.ofInt y := Int32.ofInt_toInt _
theorem z_or_of (x y : Int) : Int32.ofInt (z_or x y) = Int32.ofInt x ||| Int32.ofInt y := Int32.ofInt_toInt _
theorem z_xor_of (x y : Int) : Int32.ofInt (z_xor x y) = Int32.ofInt x ^^^ Int32.ofInt y := Int32.ofInt_toInt _
theorem z_shl_of (x y : Int) : Int32.ofInt (z_shl x y) = Int32.ofInt x <<< (Int32.ofInt y &&& 31) := Int32.ofInt_toInt _
theorem z_shr_of (x y : Int) : Int32.ofInt (z_shr x y) = Int32.ofInt x >>> (Int32.ofInt y &&& 31) := Int32.ofInt_toInt _
theorem z_ushr_of (x y : Int) : ((Int32.ofInt x).toUInt32 >>> ((Int32.ofInt y).toUInt32 &&& Int32.toUInt32 31)).toInt32 = Int32.ofInt (z_ushr x y) := (Int32.ofInt_toInt _).symm
theorem z_land_of (x y : Int) : Int64.ofInt (z_land x y) = Int64.ofInt x &&& Int64.ofInt y := Int64.ofInt_toInt _
theorem z_lor_of (x y : Int) : Int64.ofInt (z_lor x y) = Int64.ofInt x ||| Int64.ofInt y := Int64.ofInt_toInt _
theorem z_lshl_of (x y : Int) : Int64.ofInt x <<< ((Int32.ofInt y).toInt64 &&& 63) = Int64.ofInt (z_lshl x y) := (Int64.ofInt_toInt _).symm
theorem z_i2l_of (x : Int) : (Int32.ofInt x).toInt64 = Int64.ofInt (wr x) := by
  apply Int64.toInt_inj.mp
  rw [Int32.toInt_toInt64, wr_toInt, wl_toInt, wl_id]
  have h1 := wr_lo x
  have h2 := wr_hi x
  omega
theorem z_l2i_of (x : Int) : (Int64.ofInt x).toInt32 = Int32.ofInt x := by
  apply Int32.toInt_inj.mp
  rw [Int64.toInt_toInt32, wl_toInt, wr_toInt]
  show (wl x).bmod 4294967296 = wr x
  unfold wr wl
  rw [Int.bmod_def]
  split <;> omega
theorem z_i2b_of (x : Int) : (Int32.ofInt x).toInt8.toInt32 = Int32.ofInt (z_b x) := by
  apply Int32.toInt_inj.mp
  rw [Int8.toInt_toInt32, Int32.toInt_toInt8, wr_toInt, wr_toInt]
  show (wr x).bmod 256 = wr (z_b x)
  unfold wr z_b
  rw [Int.bmod_def]
  split <;> omega
theorem z_cmp_of (x y : Int) : lg_cmp (Int64.ofInt x) (Int64.ofInt y) = Int32.ofInt (z_cmp x y) := by
  unfold z_cmp lg_cmp
  by_cases h1 : wl y < wl x
  · have h1' := (wl_lt_iff y x).mpr h1
    simp [h1, h1']
  · have h1' := (not_congr (wl_lt_iff y x)).mpr h1
    by_cases h2 : wl x = wl y
    · have h2' := (wl_eq_iff x y).mpr h2
      simp [h2, h2']
    · have h2' := (not_congr (wl_eq_iff x y)).mpr h2
      simp [h1, h1', h2, h2']
theorem z_idx {i : Int} {n : Nat} (h0 : 0 ≤ i) (h1 : i < (n : Int)) (hn : n ≤ 2147483647) : vp_in (Int32.ofInt i) n ∧ (Int32.ofInt i).toNatClampNeg = i.toNat := by
  have e : (Int32.ofInt i).toInt = i := by rw [wr_toInt, wr_id]; omega
  have e2 : (Int32.ofInt i).toNatClampNeg = i.toNat := by
    show (Int32.ofInt i).toInt.toNat = i.toNat
    rw [e]
  refine ⟨?_, e2⟩
  rintro (h | h)
  · rw [Int32.lt_iff_toInt_lt, e] at h
    have h3 : (0 : Int32).toInt = 0 := by decide
    omega
  · rw [e2] at h
    omega
theorem z_nat {i : Int} (h0 : 0 ≤ i) (h1 : i ≤ 2147483647) : ¬ Int32.ofInt i < 0 ∧ (Int32.ofInt i).toNatClampNeg = i.toNat := by
  have e : (Int32.ofInt i).toInt = i := by rw [wr_toInt, wr_id]; omega
  have e2 : (Int32.ofInt i).toNatClampNeg = i.toNat := by
    show (Int32.ofInt i).toInt.toNat = i.toNat
    rw [e]
  refine ⟨?_, e2⟩
  rw [Int32.lt_iff_toInt_lt, e]
  have h3 : (0 : Int32).toInt = 0 := by decide
  omega
