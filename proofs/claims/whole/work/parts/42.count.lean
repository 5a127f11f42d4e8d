/-! Integer.bitCount on twenty bits -/
def bc0 (n : Nat) : Nat := n - ((n >>> 1) &&& 1431655765)
def bc1 (a : Nat) : Nat := (a &&& 858993459) + ((a >>> 2) &&& 858993459)
def bc2 (b : Nat) : Nat := (b + (b >>> 4)) &&& 252645135
def bc3 (c : Nat) : Nat := (c + (c >>> 8) + ((c + (c >>> 8)) >>> 16)) &&& 63
theorem and16 {x u : Nat} (y v : Nat) (hx : x < 16) (hu : u < 16) : (x + 16 * y) &&& (u + 16 * v) = (x &&& u) + 16 * (y &&& v) := by
  have h1 : ((x + 16 * y) &&& (u + 16 * v)) % 16 = x &&& u := by
    have := Nat.and_mod_two_pow (a := x + 16 * y) (b := u + 16 * v) (n := 4)
    simp only [show 2 ^ 4 = 16 from rfl] at this
    rw [this, show (x + 16 * y) % 16 = x by omega, show (u + 16 * v) % 16 = u by omega]
  have h2 : ((x + 16 * y) &&& (u + 16 * v)) / 16 = y &&& v := by
    have := Nat.and_div_two_pow (a := x + 16 * y) (b := u + 16 * v) (n := 4)
    simp only [show 2 ^ 4 = 16 from rfl] at this
    rw [this, show (x + 16 * y) / 16 = y by omega, show (u + 16 * v) / 16 = v by omega]
  have h3 := Nat.div_add_mod ((x + 16 * y) &&& (u + 16 * v)) 16
  rw [h1, h2] at h3
  omega
def p2 (a : Nat) : Nat := a - ((a / 2) &&& 5)
def p4 (a : Nat) : Nat := (a &&& 3) + ((a / 4) &&& 3)
theorem s1_step {a : Nat} (b m : Nat) (ha : a < 16) : (a + 16 * b) - (((a + 16 * b) >>> 1) &&& (5 + 16 * m)) = p2 a + 16 * (b - ((b >>> 1) &&& m)) := by
  have e : (a + 16 * b) >>> 1 = (a / 2 + 8 * (b % 2)) + 16 * (b >>> 1) := by
    rw [Nat.shiftRight_eq_div_pow, Nat.shiftRight_eq_div_pow]; omega
  rw [e, and16 _ _ (by omega) (by omega)]
  have h : ∀ a, a < 16 → ∀ c, c < 2 → (a / 2 + 8 * c) &&& 5 = (a / 2) &&& 5 ∧ (a / 2) &&& 5 ≤ a := by decide +kernel
  obtain ⟨h1, h2⟩ := h a ha (b % 2) (by omega)
  rw [h1]
  have h3 : (b >>> 1) &&& m ≤ b := Nat.le_trans Nat.and_le_left (Nat.shiftRight_le b 1)
  unfold p2
  omega
theorem s2_step {a : Nat} (b m : Nat) (ha : a < 16) : ((a + 16 * b) &&& (3 + 16 * m)) + (((a + 16 * b) >>> 2) &&& (3 + 16 * m)) = p4 a + 16 * ((b &&& m) + ((b >>> 2) &&& m)) := by
  have e : (a + 16 * b) >>> 2 = (a / 4 + 4 * (b % 4)) + 16 * (b >>> 2) := by
    rw [Nat.shiftRight_eq_div_pow, Nat.shiftRight_eq_div_pow]; omega
  rw [e, and16 b m ha (by omega), and16 _ _ (by omega) (by omega)]
  have h : ∀ a, a < 16 → ∀ c, c < 4 → (a / 4 + 4 * c) &&& 3 = (a / 4) &&& 3 := by decide +kernel
  rw [h a ha (b % 4) (by omega)]
  unfold p4
  omega
theorem bc_low {a0 a1 a2 a3 a4 : Nat} (h0 : a0 < 16) (h1 : a1 < 16) (h2 : a2 < 16) (h3 : a3 < 16) (h4 : a4 < 16) : bc0 (a0 + 16 * (a1 + 16 * (a2 + 16 * (a3 + 16 * (a4 + 16 * 0))))) = p2 a0 + 16 * (p2 a1 + 16 * (p2 a2 + 16 * (p2 a3 + 16 * (p2 a4 + 16 * 0)))) := by
  unfold bc0
  rw [show (1431655765 : Nat) = 5 + 16 * 89478485 from rfl, s1_step _ _ h0, show (89478485 : Nat) = 5 + 16 * 5592405 from rfl, s1_step _ _ h1, show (5592405 : Nat) = 5 + 16 * 349525 from rfl, s1_step _ _ h2, show (349525 : Nat) = 5 + 16 * 21845 from rfl, s1_step _ _ h3, show (21845 : Nat) = 5 + 16 * 1365 from rfl, s1_step _ _ h4]
  rfl
theorem bc_mid {a0 a1 a2 a3 a4 : Nat} (h0 : a0 < 16) (h1 : a1 < 16) (h2 : a2 < 16) (h3 : a3 < 16) (h4 : a4 < 16) : bc1 (a0 + 16 * (a1 + 16 * (a2 + 16 * (a3 + 16 * (a4 + 16 * 0))))) = p4 a0 + 16 * (p4 a1 + 16 * (p4 a2 + 16 * (p4 a3 + 16 * (p4 a4 + 16 * 0)))) := by
  unfold bc1
  rw [show (858993459 : Nat) = 3 + 16 * 53687091 from rfl, s2_step _ _ h0, show (53687091 : Nat) = 3 + 16 * 3355443 from rfl, s2_step _ _ h1, show (3355443 : Nat) = 3 + 16 * 209715 from rfl, s2_step _ _ h2, show (209715 : Nat) = 3 + 16 * 13107 from rfl, s2_step _ _ h3, show (13107 : Nat) = 3 + 16 * 819 from rfl, s2_step _ _ h4]
  rfl
theorem bc_high : ∀ a0, a0 < 5 → ∀ a1, a1 < 5 → ∀ a2, a2 < 5 → ∀ a3, a3 < 5 → ∀ a4, a4 < 5 → bc3 (bc2 (a0 + 16 * (a1 + 16 * (a2 + 16 * (a3 + 16 * (a4 + 16 * 0)))))) = a0 + a1 + a2 + a3 + a4 := by decide +kernel
theorem p24 : ∀ a, a < 16 → p2 a < 16 ∧ p4 (p2 a) < 5 ∧ p4 (p2 a) = a % 2 + a / 2 % 2 + a / 4 % 2 + a / 8 % 2 := by decide +kernel
/-- how many of the first k hold -/
def cnt (p : Nat → Bool) : Nat → Int
  | 0 => 0
  | k + 1 => cnt p k + (if p k = true then 1 else 0)
theorem tb_if (n i : Nat) : (if n.testBit i = true then (1 : Int) else 0) = ((n / 2 ^ i % 2 : Nat) : Int) := by
  rw [Nat.testBit_eq_decide_div_mod_eq]
  by_cases h : n / 2 ^ i % 2 = 1
  · simp [h]
  · have : n / 2 ^ i % 2 = 0 := by omega
    simp [this]
theorem dg_t0 (n : Nat) : n % 16 % 2 = n % 2 := by omega
theorem dg_t1 (n : Nat) : n % 16 / 2 % 2 = n / 2 % 2 := by omega
theorem dg_t2 (n : Nat) : n % 16 / 4 % 2 = n / 4 % 2 := by omega
theorem dg_t3 (n : Nat) : n % 16 / 8 % 2 = n / 8 % 2 := by omega
theorem dg_t4 (n : Nat) : n / 16 % 16 % 2 = n / 16 % 2 := by omega
theorem dg_t5 (n : Nat) : n / 16 % 16 / 2 % 2 = n / 32 % 2 := by omega
theorem dg_t6 (n : Nat) : n / 16 % 16 / 4 % 2 = n / 64 % 2 := by omega
theorem dg_t7 (n : Nat) : n / 16 % 16 / 8 % 2 = n / 128 % 2 := by omega
theorem dg_t8 (n : Nat) : n / 256 % 16 % 2 = n / 256 % 2 := by omega
theorem dg_t9 (n : Nat) : n / 256 % 16 / 2 % 2 = n / 512 % 2 := by omega
theorem dg_t10 (n : Nat) : n / 256 % 16 / 4 % 2 = n / 1024 % 2 := by omega
theorem dg_t11 (n : Nat) : n / 256 % 16 / 8 % 2 = n / 2048 % 2 := by omega
theorem dg_t12 (n : Nat) : n / 4096 % 16 % 2 = n / 4096 % 2 := by omega
theorem dg_t13 (n : Nat) : n / 4096 % 16 / 2 % 2 = n / 8192 % 2 := by omega
theorem dg_t14 (n : Nat) : n / 4096 % 16 / 4 % 2 = n / 16384 % 2 := by omega
theorem dg_t15 (n : Nat) : n / 4096 % 16 / 8 % 2 = n / 32768 % 2 := by omega
theorem dg_t16 (n : Nat) : n / 65536 % 16 % 2 = n / 65536 % 2 := by omega
theorem dg_t17 (n : Nat) : n / 65536 % 16 / 2 % 2 = n / 131072 % 2 := by omega
theorem dg_t18 (n : Nat) : n / 65536 % 16 / 4 % 2 = n / 262144 % 2 := by omega
theorem dg_t19 (n : Nat) : n / 65536 % 16 / 8 % 2 = n / 524288 % 2 := by omega
theorem dg_all (n : Nat) (hn : n < 1048576) : n = n % 16 + 16 * (n / 16 % 16 + 16 * (n / 256 % 16 + 16 * (n / 4096 % 16 + 16 * (n / 65536 % 16 + 16 * 0)))) := by omega
theorem bc_all {n : Nat} (hn : n < 1048576) : ((bc3 (bc2 (bc1 (bc0 n))) : Nat) : Int) = cnt n.testBit 20 := by
  have e := dg_all n hn
  have q0 := p24 (n % 16) (Nat.mod_lt _ (by decide))
  have q1 := p24 (n / 16 % 16) (Nat.mod_lt _ (by decide))
  have q2 := p24 (n / 256 % 16) (Nat.mod_lt _ (by decide))
  have q3 := p24 (n / 4096 % 16) (Nat.mod_lt _ (by decide))
  have q4 := p24 (n / 65536 % 16) (Nat.mod_lt _ (by decide))
  have h : bc3 (bc2 (bc1 (bc0 n))) = p4 (p2 (n % 16)) + p4 (p2 (n / 16 % 16)) + p4 (p2 (n / 256 % 16)) + p4 (p2 (n / 4096 % 16)) + p4 (p2 (n / 65536 % 16)) := by
    conv => lhs; rw [e]
    rw [bc_low (Nat.mod_lt _ (by decide)) (Nat.mod_lt _ (by decide)) (Nat.mod_lt _ (by decide)) (Nat.mod_lt _ (by decide)) (Nat.mod_lt _ (by decide)), bc_mid q0.1 q1.1 q2.1 q3.1 q4.1]
    exact bc_high _ q0.2.1 _ q1.2.1 _ q2.2.1 _ q3.2.1 _ q4.2.1
  rw [h, q0.2.2, q1.2.2, q2.2.2, q3.2.2, q4.2.2]
  simp only [cnt, tb_if]
  simp only [Nat.reducePow, Nat.div_one]
  rw [dg_t0 n, dg_t1 n, dg_t2 n, dg_t3 n, dg_t4 n, dg_t5 n, dg_t6 n, dg_t7 n, dg_t8 n, dg_t9 n, dg_t10 n, dg_t11 n, dg_t12 n, dg_t13 n, dg_t14 n, dg_t15 n, dg_t16 n, dg_t17 n, dg_t18 n, dg_t19 n]
  clear h q0 q1 q2 q3 q4 e hn
  generalize n % 2 = x0
  generalize n / 2 % 2 = x1
  generalize n / 4 % 2 = x2
  generalize n / 8 % 2 = x3
  generalize n / 16 % 2 = x4
  generalize n / 32 % 2 = x5
  generalize n / 64 % 2 = x6
  generalize n / 128 % 2 = x7
  generalize n / 256 % 2 = x8
  generalize n / 512 % 2 = x9
  generalize n / 1024 % 2 = x10
  generalize n / 2048 % 2 = x11
  generalize n / 4096 % 2 = x12
  generalize n / 8192 % 2 = x13
  generalize n / 16384 % 2 = x14
  generalize n / 32768 % 2 = x15
  generalize n / 65536 % 2 = x16
  generalize n / 131072 % 2 = x17
  generalize n / 262144 % 2 = x18
  generalize n / 524288 % 2 = x19
  omega
theorem cnt_congr {p q : Nat → Bool} : ∀ k, (∀ i, i < k → p i = q i) → cnt p k = cnt q k := by
  intro k
  induction k with
  | zero => intro _; rfl
  | succ k ih => intro h; simp only [cnt]; rw [ih (fun i hi => h i (by omega)), h k (by omega)]
theorem z_ushr_nat {a c : Nat} (ha : a < 2147483648) (hc : c < 31) : z_ushr (a : Int) (c : Int) = ((a >>> c : Nat) : Int) := by
  unfold z_ushr
  have e31 : ∀ c, c < 31 → (Int32.ofInt ((c : Nat) : Int)).toUInt32 &&& Int32.toUInt32 31 = UInt32.ofNat c := by decide +kernel
  rw [e31 c hc]
  have h1 : (Int32.ofInt (a : Int)).toUInt32 = UInt32.ofNat a := by
    apply UInt32.toBitVec_inj.mp
    show (Int32.ofInt (a : Int)).toBitVec = _
    rw [bv_of]
    rfl
  rw [h1]
  have hn : (UInt32.ofNat a >>> UInt32.ofNat c).toNat = a >>> c := by
    rw [UInt32.toNat_shiftRight, UInt32.toNat_ofNat', UInt32.toNat_ofNat']
    rw [Nat.mod_eq_of_lt (show a < 2 ^ 32 by omega), Nat.mod_eq_of_lt (show c < 2 ^ 32 by omega), Nat.mod_eq_of_lt (show c < 32 by omega)]
  have hl : a >>> c ≤ a := Nat.shiftRight_le a c
  show ((UInt32.ofNat a >>> UInt32.ofNat c).toBitVec).toInt = _
  rw [bv_toInt (by show (UInt32.ofNat a >>> UInt32.ofNat c).toNat < _; rw [hn]; omega)]
  show (((UInt32.ofNat a >>> UInt32.ofNat c).toNat : Nat) : Int) = _
  rw [hn]
section BC
variable {d : Nat} {σ : ZS} {f : ZF} {g : ZG} {Q : ZQ}
theorem c_bitCountN (hd : 1 ≤ d) {n : Nat} (hn : n < 1048576) (K : Q (some (zi (cnt n.testBit 20))) σ f g) : ZCt d 56 [zi (n : Int)] σ f g Q := by
  refine ZCt.of' (L0 := [_]) (by omega) rfl rfl rfl (fun d hd1 => ?_)
  have l1 : (n >>> 1) &&& 1431655765 ≤ n := Nat.le_trans Nat.and_le_left (Nat.shiftRight_le n 1)
  have b0 : bc0 n ≤ 1048575 := by unfold bc0; omega
  have l2 : bc0 n &&& 858993459 ≤ bc0 n := Nat.and_le_left
  have l3 : (bc0 n >>> 2) &&& 858993459 ≤ bc0 n := Nat.le_trans Nat.and_le_left (Nat.shiftRight_le _ 2)
  have b1 : bc1 (bc0 n) ≤ 2097150 := by unfold bc1; omega
  have l4 : bc1 (bc0 n) >>> 4 ≤ bc1 (bc0 n) := Nat.shiftRight_le _ 4
  have b2 : bc2 (bc1 (bc0 n)) ≤ 4194300 := by
    unfold bc2
    exact Nat.le_trans Nat.and_le_left (by omega)
  have l5 : bc2 (bc1 (bc0 n)) >>> 8 ≤ bc2 (bc1 (bc0 n)) := Nat.shiftRight_le _ 8
  have l6 : (bc2 (bc1 (bc0 n)) + bc2 (bc1 (bc0 n)) >>> 8) >>> 16 ≤ bc2 (bc1 (bc0 n)) + bc2 (bc1 (bc0 n)) >>> 8 := Nat.shiftRight_le _ 16
  have e0 : (n : Int) - z_and (z_ushr (n : Int) 1) 1431655765 = ((bc0 n : Nat) : Int) := by
    have s := z_ushr_nat (a := n) (c := 1) (by omega) (by omega)
    have hs : n >>> 1 ≤ n := Nat.shiftRight_le n 1
    have t := z_and_nat (a := n >>> 1) (b := 1431655765) (by omega) (by omega)
    rw [show (1 : Int) = ((1 : Nat) : Int) from rfl, s, show (1431655765 : Int) = ((1431655765 : Nat) : Int) from rfl, t]
    unfold bc0
    omega
  have e1 : z_and ((bc0 n : Nat) : Int) 858993459 + z_and (z_ushr ((bc0 n : Nat) : Int) 2) 858993459 = ((bc1 (bc0 n) : Nat) : Int) := by
    have s := z_ushr_nat (a := bc0 n) (c := 2) (by omega) (by omega)
    have hs : bc0 n >>> 2 ≤ bc0 n := Nat.shiftRight_le _ 2
    have t := z_and_nat (a := bc0 n >>> 2) (b := 858993459) (by omega) (by omega)
    have t2 := z_and_nat (a := bc0 n) (b := 858993459) (by omega) (by omega)
    rw [show (2 : Int) = ((2 : Nat) : Int) from rfl, s, show (858993459 : Int) = ((858993459 : Nat) : Int) from rfl, t, t2]
    unfold bc1
    omega
  have e2 : z_and (((bc1 (bc0 n) : Nat) : Int) + z_ushr ((bc1 (bc0 n) : Nat) : Int) 4) 252645135 = ((bc2 (bc1 (bc0 n)) : Nat) : Int) := by
    have s := z_ushr_nat (a := bc1 (bc0 n)) (c := 4) (by omega) (by omega)
    have t := z_and_nat (a := bc1 (bc0 n) + bc1 (bc0 n) >>> 4) (b := 252645135) (by omega) (by omega)
    rw [show (4 : Int) = ((4 : Nat) : Int) from rfl, s, show (252645135 : Int) = ((252645135 : Nat) : Int) from rfl, ← Int.natCast_add, t]
    rfl
  have e3 : ((bc2 (bc1 (bc0 n)) : Nat) : Int) + z_ushr ((bc2 (bc1 (bc0 n)) : Nat) : Int) 8 = ((bc2 (bc1 (bc0 n)) + bc2 (bc1 (bc0 n)) >>> 8 : Nat) : Int) := by
    have s := z_ushr_nat (a := bc2 (bc1 (bc0 n))) (c := 8) (by omega) (by omega)
    rw [show (8 : Int) = ((8 : Nat) : Int) from rfl, s, ← Int.natCast_add]
  have e4 : z_and (((bc2 (bc1 (bc0 n)) + bc2 (bc1 (bc0 n)) >>> 8 : Nat) : Int) + z_ushr ((bc2 (bc1 (bc0 n)) + bc2 (bc1 (bc0 n)) >>> 8 : Nat) : Int) 16) 63 = ((bc3 (bc2 (bc1 (bc0 n))) : Nat) : Int) := by
    have s := z_ushr_nat (a := bc2 (bc1 (bc0 n)) + bc2 (bc1 (bc0 n)) >>> 8) (c := 16) (by omega) (by omega)
    have t := z_and_nat (a := bc2 (bc1 (bc0 n)) + bc2 (bc1 (bc0 n)) >>> 8 + (bc2 (bc1 (bc0 n)) + bc2 (bc1 (bc0 n)) >>> 8) >>> 16) (b := 63) (by omega) (by omega)
    rw [show (16 : Int) = ((16 : Nat) : Int) from rfl, s, show (63 : Int) = ((63 : Nat) : Int) from rfl, ← Int.natCast_add, t]
    rfl
  rw [← bc_all hn] at K
  refine r_iload_n rfl rfl ?_
  refine r_iload_n rfl rfl ?_
  refine r_iconst rfl ?_
  refine r_iushr rfl ?_
  refine r_ldc_w rfl ?_
  refine r_iand rfl ?_
  refine r_isub rfl ?_
  rw [e0]
  refine r_istore_n (L' := [_]) rfl rfl rfl ?_
  refine r_iload_n rfl rfl ?_
  refine r_ldc_w rfl ?_
  refine r_iand rfl ?_
  refine r_iload_n rfl rfl ?_
  refine r_iconst rfl ?_
  refine r_iushr rfl ?_
  refine r_ldc_w rfl ?_
  refine r_iand rfl ?_
  refine r_iadd rfl ?_
  rw [e1]
  refine r_istore_n (L' := [_]) rfl rfl rfl ?_
  refine r_iload_n rfl rfl ?_
  refine r_iload_n rfl rfl ?_
  refine r_iconst rfl ?_
  refine r_iushr rfl ?_
  refine r_iadd rfl ?_
  refine r_ldc_w rfl ?_
  refine r_iand rfl ?_
  rw [e2]
  refine r_istore_n (L' := [_]) rfl rfl rfl ?_
  refine r_iload_n rfl rfl ?_
  refine r_iload_n rfl rfl ?_
  refine r_bipush rfl ?_
  refine r_iushr rfl ?_
  refine r_iadd rfl ?_
  rw [e3]
  refine r_istore_n (L' := [_]) rfl rfl rfl ?_
  refine r_iload_n rfl rfl ?_
  refine r_iload_n rfl rfl ?_
  refine r_bipush rfl ?_
  refine r_iushr rfl ?_
  refine r_iadd rfl ?_
  refine r_istore_n (L' := [_]) rfl rfl rfl ?_
  refine r_iload_n rfl rfl ?_
  refine r_bipush rfl ?_
  refine r_iand rfl ?_
  rw [e4]
  refine r_iret rfl ?_
  exact K
theorem c_bitCount (hd : 1 ≤ d) {x : Int} {p : Nat → Bool} (h : Bits x p) (K : Q (some (zi (cnt p 20))) σ f g) : ZCt d 56 [zi x] σ f g Q := by
  obtain ⟨n, rfl, h1, h2⟩ := h
  refine c_bitCountN hd h1 ?_
  rw [cnt_congr 20 h2]
  exact K
end BC
