/-! Bits -/
theorem bv_of (n : Nat) : (Int32.ofInt (n : Int)).toBitVec = BitVec.ofNat 32 n := by
  rw [Int32.toBitVec_ofInt]
  simp
theorem bv_toInt {b : BitVec 32} (h : b.toNat < 2147483648) : b.toInt = (b.toNat : Int) := BitVec.toInt_eq_toNat_of_lt (by omega)
theorem z_or_nat {a b : Nat} (ha : a < 2147483648) (hb : b < 2147483648) : z_or (a : Int) (b : Int) = ((a ||| b : Nat) : Int) := by
  unfold z_or
  show ((Int32.ofInt (a : Int) ||| Int32.ofInt (b : Int)).toBitVec).toInt = _
  rw [Int32.toBitVec_or, bv_of, bv_of]
  have e : (BitVec.ofNat 32 a ||| BitVec.ofNat 32 b).toNat = a ||| b := by
    rw [BitVec.toNat_or, BitVec.toNat_ofNat, BitVec.toNat_ofNat, Nat.mod_eq_of_lt (by omega), Nat.mod_eq_of_lt (by omega)]
  have hl : a ||| b < 2 ^ 31 := Nat.or_lt_two_pow (by omega) (by omega)
  rw [bv_toInt (by rw [e]; omega), e]
theorem z_and_nat {a b : Nat} (ha : a < 2147483648) (hb : b < 2147483648) : z_and (a : Int) (b : Int) = ((a &&& b : Nat) : Int) := by
  unfold z_and
  show ((Int32.ofInt (a : Int) &&& Int32.ofInt (b : Int)).toBitVec).toInt = _
  rw [Int32.toBitVec_and, bv_of, bv_of]
  have e : (BitVec.ofNat 32 a &&& BitVec.ofNat 32 b).toNat = a &&& b := by
    rw [BitVec.toNat_and, BitVec.toNat_ofNat, BitVec.toNat_ofNat, Nat.mod_eq_of_lt (by omega), Nat.mod_eq_of_lt (by omega)]
  have hl : a &&& b < 2 ^ 31 := Nat.and_lt_two_pow a (by omega)
  rw [bv_toInt (by rw [e]; omega), e]
theorem z_shl_one {c : Nat} (hc : c < 31) : z_shl 1 (c : Int) = ((2 ^ c : Nat) : Int) := by
  have g : ∀ c, c < 31 → z_shl 1 ((c : Nat) : Int) = ((2 ^ c : Nat) : Int) := by decide +kernel
  exact g c hc
theorem z_shr_nat {a c : Nat} (ha : a < 2147483648) (hc : c < 31) : z_shr (a : Int) (c : Int) = ((a >>> c : Nat) : Int) := by
  unfold z_shr
  have e31 : ∀ c, c < 31 → Int32.ofInt ((c : Nat) : Int) &&& 31 = Int32.ofInt ((c : Nat) : Int) := by decide +kernel
  rw [e31 c hc]
  show ((Int32.ofInt (a : Int) >>> Int32.ofInt (c : Int)).toBitVec).toInt = _
  rw [Int32.toBitVec_shiftRight, bv_of, bv_of]
  have em : ∀ c, c < 31 → (BitVec.ofNat 32 c).smod 32#32 = BitVec.ofNat 32 c := by decide +kernel
  have hmsb : (BitVec.ofNat 32 a).msb = false := by
    rw [BitVec.msb_eq_false_iff_two_mul_lt, BitVec.toNat_ofNat, Nat.mod_eq_of_lt (by omega)]
    omega
  have e : ((BitVec.ofNat 32 a).sshiftRight' ((BitVec.ofNat 32 c).smod 32#32)).toNat = a >>> c := by
    rw [em c hc, BitVec.sshiftRight'_ofNat_eq_sshiftRight, BitVec.toNat_sshiftRight_of_msb_false hmsb, BitVec.toNat_ofNat, Nat.mod_eq_of_lt (by omega), Nat.mod_eq_of_lt (by omega)]
  have hl : a >>> c ≤ a := Nat.shiftRight_le a c
  show ((BitVec.ofNat 32 a).sshiftRight' ((BitVec.ofNat 32 c).smod 32#32)).toInt = _
  rw [bv_toInt (by rw [e]; omega), e]
theorem z_not_nat {b : Nat} (hb : b < 2147483648) : z_xor (b : Int) (-1) = -(b : Int) - 1 := by
  unfold z_xor
  have e1 : Int32.ofInt (-1) = -1 := by decide
  rw [e1]
  have e2 : Int32.ofInt (b : Int) ^^^ (-1) = ~~~ (Int32.ofInt (b : Int)) := by
    apply Int32.toBitVec.inj
    rw [Int32.toBitVec_xor, Int32.toBitVec_not]
    have e3 : (-1 : Int32).toBitVec = BitVec.allOnes 32 := by decide
    rw [e3, BitVec.xor_allOnes]
  rw [e2, Int32.toInt_not, wr_toInt, wr_id (by omega)]
  have := Int.bmod_eq_of_le (n := -(b : Int) - 1) (m := 2 ^ 32) (by omega) (by omega)
  first | exact this | (rw [this])
theorem z_clr_nat {a b : Nat} (ha : a < 2147483648) (hb : b < 2147483648) : ∃ r : Nat, z_and (a : Int) (z_xor (b : Int) (-1)) = (r : Int) ∧ r ≤ a ∧ ∀ i, r.testBit i = (a.testBit i && !b.testBit i) := by
  have ea : (BitVec.ofNat 32 a).toNat = a := by rw [BitVec.toNat_ofNat, Nat.mod_eq_of_lt (by omega)]
  refine ⟨(BitVec.ofNat 32 a &&& ~~~ BitVec.ofNat 32 b).toNat, ?_, ?_, ?_⟩
  · unfold z_and z_xor
    rw [Int32.ofInt_toInt]
    have e1 : Int32.ofInt (-1) = -1 := by decide
    rw [e1]
    have e2 : Int32.ofInt (b : Int) ^^^ (-1) = ~~~ (Int32.ofInt (b : Int)) := by
      apply Int32.toBitVec.inj
      rw [Int32.toBitVec_xor, Int32.toBitVec_not]
      have e3 : (-1 : Int32).toBitVec = BitVec.allOnes 32 := by decide
      rw [e3, BitVec.xor_allOnes]
    rw [e2]
    show ((Int32.ofInt (a : Int) &&& ~~~ Int32.ofInt (b : Int)).toBitVec).toInt = _
    rw [Int32.toBitVec_and, Int32.toBitVec_not, bv_of, bv_of]
    refine bv_toInt ?_
    rw [BitVec.toNat_and, ea]
    have := Nat.and_le_left (n := a) (m := (~~~ BitVec.ofNat 32 b).toNat)
    omega
  · rw [BitVec.toNat_and, ea]
    exact Nat.and_le_left
  · intro i
    rw [← BitVec.getLsbD, BitVec.getLsbD_and, BitVec.getLsbD_not, BitVec.getLsbD_ofNat, BitVec.getLsbD_ofNat]
    by_cases hi : i < 32
    · simp [hi]
    · have h1 : a.testBit i = false := Nat.testBit_lt_two_pow (Nat.lt_of_lt_of_le ha (by
        have : 2 ^ 31 ≤ 2 ^ i := Nat.pow_le_pow_right (by omega) (by omega)
        omega))
      simp [hi, h1]
/-- a row of twenty bits -/
def Bits (x : Int) (p : Nat → Bool) : Prop := ∃ n : Nat, x = (n : Int) ∧ n < 1048576 ∧ ∀ c, c < 20 → n.testBit c = p c
theorem Bits.rng {x : Int} {p : Nat → Bool} (h : Bits x p) : 0 ≤ x ∧ x ≤ 1048575 := by
  obtain ⟨n, rfl, h1, -⟩ := h
  omega
theorem Bits.zero : Bits 0 (fun _ => false) := ⟨0, rfl, by omega, fun c _ => by simp⟩
theorem Bits.imp {x : Int} {p q : Nat → Bool} (h : Bits x p) (e : ∀ c, c < 20 → p c = q c) : Bits x q := by
  obtain ⟨n, h0, h1, h2⟩ := h
  exact ⟨n, h0, h1, fun c hc => (h2 c hc).trans (e c hc)⟩
theorem Bits.test {x : Int} {p : Nat → Bool} (h : Bits x p) {c : Nat} (hc : c < 20) : z_and (z_shr x (c : Int)) 1 = if p c = true then 1 else 0 := by
  obtain ⟨n, rfl, h1, h2⟩ := h
  rw [z_shr_nat (by omega) (by omega)]
  have hl : n >>> c ≤ n := Nat.shiftRight_le n c
  have e := z_and_nat (a := n >>> c) (b := 1) (by omega) (by omega)
  rw [show ((1 : Nat) : Int) = 1 from rfl] at e
  rw [e, Nat.and_one_is_mod, ← h2 c hc]
  have ht : n.testBit c = decide ((n >>> c) % 2 = 1) := by
    rw [Nat.testBit, Nat.and_comm, Nat.and_one_is_mod]
    by_cases hz : (n >>> c) % 2 = 1
    · simp [hz]
    · have : (n >>> c) % 2 = 0 := by omega
      simp [this]
  rw [ht]
  by_cases hz : (n >>> c) % 2 = 1
  · simp [hz]
  · have : (n >>> c) % 2 = 0 := by omega
    simp [this]
theorem Bits.or2 {x y : Int} {p q : Nat → Bool} (h : Bits x p) (h' : Bits y q) : Bits (z_or x y) (fun c => p c || q c) := by
  obtain ⟨n, rfl, h1, h2⟩ := h
  obtain ⟨k, rfl, h3, h4⟩ := h'
  refine ⟨n ||| k, z_or_nat (by omega) (by omega), Nat.or_lt_two_pow (n := 20) (by omega) (by omega), fun c hc => ?_⟩
  rw [Nat.testBit_or, h2 c hc, h4 c hc]
theorem Bits.one {c : Nat} (hc : c < 20) : Bits (z_shl 1 (c : Int)) (fun i => i == c) := by
  refine ⟨2 ^ c, z_shl_one (by omega), ?_, fun i hi => ?_⟩
  · have : 2 ^ c ≤ 2 ^ 19 := Nat.pow_le_pow_right (by omega) (by omega)
    omega
  · rw [Nat.testBit_two_pow]
    by_cases e : c = i
    · simp [e]
    · simp [e, show ¬ i = c by omega]
theorem Bits.set {x : Int} {p : Nat → Bool} (h : Bits x p) {c : Nat} (hc : c < 20) : Bits (z_or x (z_shl 1 (c : Int))) (fun i => p i || i == c) := h.or2 (Bits.one hc)
theorem Bits.clr {x : Int} {p : Nat → Bool} (h : Bits x p) {c : Nat} (hc : c < 20) : Bits (z_and x (z_xor (z_shl 1 (c : Int)) (-1))) (fun i => p i && !(i == c)) := by
  obtain ⟨n, rfl, h1, h2⟩ := h
  obtain ⟨k, hk, hk1, hk2⟩ := Bits.one hc
  rw [hk]
  obtain ⟨r, e1, e2, e3⟩ := z_clr_nat (a := n) (b := k) (by omega) (by omega)
  refine ⟨r, e1, by omega, fun i hi => ?_⟩
  rw [e3, h2 i hi, hk2 i hi]
