/-! Rings -/
theorem bvl_of (n : Nat) : (Int64.ofInt (n : Int)).toBitVec = BitVec.ofNat 64 n := by
  rw [Int64.toBitVec_ofInt]
  simp
theorem bvl_toInt {b : BitVec 64} (h : b.toNat < 9223372036854775808) : b.toInt = (b.toNat : Int) := BitVec.toInt_eq_toNat_of_lt (by omega)
theorem z_lor_nat {a b : Nat} (ha : a < 9223372036854775808) (hb : b < 9223372036854775808) : z_lor (a : Int) (b : Int) = ((a ||| b : Nat) : Int) := by
  unfold z_lor
  show ((Int64.ofInt (a : Int) ||| Int64.ofInt (b : Int)).toBitVec).toInt = _
  rw [Int64.toBitVec_or, bvl_of, bvl_of]
  have e : (BitVec.ofNat 64 a ||| BitVec.ofNat 64 b).toNat = a ||| b := by
    rw [BitVec.toNat_or, BitVec.toNat_ofNat, BitVec.toNat_ofNat, Nat.mod_eq_of_lt (by omega), Nat.mod_eq_of_lt (by omega)]
  have hl : a ||| b < 2 ^ 63 := Nat.or_lt_two_pow (by omega) (by omega)
  rw [bvl_toInt (by rw [e]; omega), e]
theorem z_lshl8 {a : Nat} (ha : a < 36028797018963968) : z_lshl (a : Int) 8 = ((256 * a : Nat) : Int) := by
  unfold z_lshl
  have e8 : (Int32.ofInt 8).toInt64 &&& 63 = (8 : Int64) := by decide +kernel
  rw [e8]
  show ((Int64.ofInt (a : Int) <<< (8 : Int64)).toBitVec).toInt = _
  rw [Int64.toBitVec_shiftLeft, bvl_of]
  have em : (8 : Int64).toBitVec.smod 64 = 8#64 := by decide +kernel
  rw [em]
  have e : (BitVec.ofNat 64 a <<< 8#64).toNat = 256 * a := by
    rw [BitVec.shiftLeft_eq', BitVec.toNat_shiftLeft, BitVec.toNat_ofNat, BitVec.toNat_ofNat, Nat.mod_eq_of_lt (show a < 2 ^ 64 by omega), Nat.mod_eq_of_lt (show 8 < 2 ^ 64 by omega), Nat.shiftLeft_eq, Nat.mod_eq_of_lt (by omega)]
    omega
  rw [bvl_toInt (by rw [e]; omega), e]
theorem z_shl3 : ∀ c, c < 21 → z_shl ((c : Nat) : Int) 3 = ((8 * c : Nat) : Int) := by decide +kernel
def fb (rd : Rd) (k : Nat) : Nat := 8 * (rd 0 k + 1).toNat + (rd 1 k + 1).toNat
def fcN (rd : Rd) : Nat → Nat
  | 0 => 0
  | k + 1 => 256 * fcN rd k + fb rd k
def rcd (rd : Rd) (k : Nat) : Int := if rd 0 k = -1 then -1 else 5 * rd 0 k + rd 1 k
def rSame (rd rd' : Rd) : Nat → Bool
  | 0 => true
  | k + 1 => rSame rd rd' k && decide (rcd rd k = rcd rd' k)
def rgB (S : Nat → Nat → Bool) (a : Nat) : Nat → Nat → Option Nat
  | 0, _ => none
  | j + 1, b => if S a b = true then some b else rgB S a j (b + 1)
def rgA (S : Nat → Nat → Bool) : Nat → Nat → Option (Nat × Nat)
  | 0, _ => none
  | j + 1, a => match rgB S a (60 - a) (a + 1) with
    | some b => some (a, b)
    | none => rgA S j (a + 1)
def rgS (pl : Pl) (al : Rd → Nat → Bool) (rd : Rd) (i j : Nat) : Bool := rSame (rIt pl al (-1) i rd) (rIt pl al (-1) j rd) 6
def rgV (t : Int) (w : Int) : Option (Nat × Nat) → Int
  | none => -2
  | some (x, y) => if w = 0 then t + (x : Int) else (y : Int) - (x : Int)
def qRing (a : AS) (w : Int) : Int := match a.w.pn with
  | none => -1
  | some (pl, _) => if 0 ≤ w ∧ w ≤ 1 then rgV (a.w.rd 5 0) w (rgA (rgS pl (AL a a.fo pl) a.w.rd) 60 0) else -1
section RING
variable {d : Nat} {σ : ZS} {f f0 f' : ZF} {g g' : ZG} {Q : ZQ} {n m N : Int} {rd rd' : Rd} {r p : Nat} {pl : Pl} {rd0 : Rd} {al : Rd → Nat → Bool} {cl : Int} {a : AS}
theorem qRing_no {w : Int} (h : a.w.pn = none ∨ ¬ (0 ≤ w ∧ w ≤ 1)) : qRing a w = -1 := by
  unfold qRing
  cases hp : a.w.pn with
  | none => rfl
  | some z => exact if_neg (by rcases h with h | h; rw [hp] at h; cases h; exact h)
theorem qRing_yes {w : Int} (hp : a.w.pn = some (pl, rd0)) (h : 0 ≤ w ∧ w ≤ 1) : qRing a w = rgV (a.w.rd 5 0) w (rgA (rgS pl (AL a a.fo pl) a.w.rd) 60 0) := by
  unfold qRing
  rw [hp]
  exact if_pos h
theorem fb_lt (ho : RdOk n m N rd) {k : Nat} (hk : k < 6) : fb rd k < 256 := by
  have h1 := ho.2.2.1 k hk
  have h2 := ho.1
  have h3 := ho.2.1
  unfold fb
  omega
theorem fcN_lt (ho : RdOk n m N rd) : ∀ k, k ≤ 6 → fcN rd k < 256 ^ k := by
  intro k
  induction k with
  | zero => intro _; simp [fcN]
  | succ k ih =>
    intro hk
    have h1 := ih (by omega)
    have h2 := fb_lt ho (show k < 6 by omega)
    simp only [fcN, Nat.pow_succ]
    omega
theorem fcN_lt6 (ho : RdOk n m N rd) {k : Nat} (hk : k ≤ 6) : fcN rd k < 281474976710656 := Nat.lt_of_lt_of_le (fcN_lt ho k hk) (Nat.le_trans (Nat.pow_le_pow_right (by omega) hk) (by decide))
theorem fcN_lt5 (ho : RdOk n m N rd) {k : Nat} (hk : k ≤ 5) : fcN rd k < 1099511627776 := Nat.lt_of_lt_of_le (fcN_lt ho k (by omega)) (Nat.le_trans (Nat.pow_le_pow_right (by omega) hk) (by decide))
theorem fb_eq (ho : RdOk n m N rd) {n' m' N' : Int} (ho' : RdOk n' m' N' rd') {k : Nat} (hk : k < 6) : fb rd k = fb rd' k ↔ rcd rd k = rcd rd' k := by
  have h1 := ho.2.2.1 k hk
  have h2 := ho.1
  have h3 := ho.2.1
  have h1' := ho'.2.2.1 k hk
  have h2' := ho'.1
  have h3' := ho'.2.1
  unfold fb rcd
  split <;> split <;> constructor <;> intro q <;> omega
theorem fcN_eq (ho : RdOk n m N rd) {n' m' N' : Int} (ho' : RdOk n' m' N' rd') : ∀ k, k ≤ 6 → (fcN rd k = fcN rd' k ↔ rSame rd rd' k = true) := by
  intro k
  induction k with
  | zero => intro _; simp [fcN, rSame]
  | succ k ih =>
    intro hk
    have h1 := fb_lt ho (show k < 6 by omega)
    have h2 := fb_lt ho' (show k < 6 by omega)
    simp only [fcN, rSame, Bool.and_eq_true, decide_eq_true_eq]
    rw [← ih (by omega), ← fb_eq ho ho' (by omega)]
    omega
theorem l_face (hd1 : 0 ≤ d) (hr : RO σ g r) (h : RC f r rd) (ho : RdOk n m N rd) (K : Q (some (zl ((fcN rd 6 : Nat) : Int))) σ f g) (k : Nat) (hk : k ≤ 6) : ZWp d zt110 4 [zr (some r), zl ((fcN rd k : Nat) : Int), zu, zi (k : Int)] [] σ f g Q := by
  obtain ⟨oo, ⟨a1, a2, a3, a4, a5⟩, g0, g1, g2, g3, g4⟩ := id hr
  refine r_iload_n rfl rfl ?_
  refine r_bipush rfl ?_
  refine r_icmp_ge rfl (by omega) (by omega) (fun hlt => ?_) (fun hlt => ?_)
  · have e : k = 6 := by omega
    subst e
    refine r_lload_n rfl rfl ?_
    refine r_lret rfl ?_
    exact K
  · have hc := h.1 k (by omega)
    have hok := ho.2.2.1 k (by omega)
    have hn1 := ho.1
    have hm1 := ho.2.1
    have hlt5 := fcN_lt5 ho (show k ≤ 5 by omega)
    obtain ⟨c, hcc⟩ := Int.eq_ofNat_of_zero_le (show 0 ≤ rd 0 k + 1 by omega)
    obtain ⟨u, huu⟩ := Int.eq_ofNat_of_zero_le (show 0 ≤ rd 1 k + 1 by omega)
    refine r_lload_n rfl rfl ?_
    refine r_bipush rfl ?_
    refine r_lshl rfl ?_
    rw [z_lshl8 (by omega)]
    refine r_aload_n rfl rfl ?_
    refine r_getR rfl oo (by first | assumption | exact hs.g rfl) ?_
    refine r_iload_n rfl rfl ?_
    refine r_iald rfl (by first | assumption | exact hs.a rfl) (by omega) (by omega) ((zix (n := k) (by omega)).trans hc.1) ?_
    refine r_iconst rfl ?_
    refine r_iadd rfl ?_
    refine r_iconst rfl ?_
    refine r_ishl rfl ?_
    rw [hcc, z_shl3 c (by omega)]
    refine r_i2l rfl (by omega) ?_
    refine r_lor rfl ?_
    rw [z_lor_nat (a := 256 * fcN rd k) (b := 8 * c) (by omega) (by omega)]
    refine r_aload_n rfl rfl ?_
    refine r_getR rfl oo (by first | assumption | exact hs.g rfl) ?_
    refine r_iload_n rfl rfl ?_
    refine r_iald rfl (by first | assumption | exact hs.a rfl) (by omega) (by omega) ((zix (n := k) (by omega)).trans hc.2.1) ?_
    refine r_iconst rfl ?_
    refine r_iadd rfl ?_
    rw [huu]
    refine r_i2l rfl (by omega) ?_
    refine r_lor rfl ?_
    have e1 : 256 * fcN rd k ||| 8 * c = 8 * (32 * fcN rd k + c) := by
      have := Nat.two_pow_add_eq_or_of_lt (i := 8) (b := 8 * c) (by omega) (fcN rd k)
      rw [show (2 : Nat) ^ 8 = 256 from rfl] at this
      rw [← this]
      omega
    have e2 : 8 * (32 * fcN rd k + c) ||| u = fcN rd (k + 1) := by
      have := Nat.two_pow_add_eq_or_of_lt (i := 3) (b := u) (by omega) (32 * fcN rd k + c)
      rw [show (2 : Nat) ^ 3 = 8 from rfl] at this
      rw [← this]
      simp only [fcN, fb]
      rw [hcc, huu, Int.toNat_natCast, Int.toNat_natCast]
      omega
    rw [e1, z_lor_nat (by omega) (by omega), e2]
    refine r_lstore_n (L' := [_, _, _, _]) rfl rfl rfl ?_
    refine r_iinc (L' := [_, _, _, _]) rfl rfl rfl ?_
    refine r_goto rfl ?_
    exact l_face hd1 hr h ho K (k + 1) (by omega)
termination_by 6 - k
theorem k_face (hd : 1 ≤ d) (hr : RO σ g r) (h : RC f r rd) (ho : RdOk n m N rd) (K : Q (some (zl ((fcN rd 6 : Nat) : Int))) σ f g) : ZCt d 110 [zr (some r)] σ f g Q := by
  refine ZCt.of' (L0 := [_, _, _, _]) (by omega) rfl rfl rfl (fun d hd1 => ?_)
  refine r_lconst rfl ?_
  refine r_lstore_n (L' := [_, _, _, _]) rfl rfl rfl ?_
  refine r_iconst rfl ?_
  refine r_istore_n (L' := [_, _, _, _]) rfl rfl rfl ?_
  exact l_face (by omega) hr h ho K 0 (by omega)
theorem rr49 : RrOk 49 := by unfold RrOk; omega
theorem TR.sc {c i : Nat} {v : Int} (h : TR σ f g p pl al cl) (hc : c = 53 ∨ c = 54) : TR σ (up2 f c i v) g p pl al cl := h.fr rr49 ((FrC.rf 49 f).up rr49 (by omega))
theorem l_rgF (hd1 : 5 ≤ d) (hs : Sh σ g) (hv : VS pl N (-1) rd) (hN : N + 7 * 60 ≤ 1000000) {w : Int} (K : ∀ f', FrQ f0 f' → (∀ i, i ≤ 60 → f' 54 i = ((fcN (rIt pl al (-1) i rd) 6 : Nat) : Int)) → ZWp d zt109 66 [zr (some 0), zi w, zr (some 47), zi ((60 + 1 : Nat) : Int), zu] [] σ f' g Q) (k : Nat) (hk : k ≤ 60) (f : ZF) (hf : FrQ f0 f) (ht : TR σ f g p pl al (-1)) (h : RC f 47 (rIt pl al (-1) k rd)) (hfc : ∀ i, i ≤ k → f 54 i = ((fcN (rIt pl al (-1) i rd) 6 : Nat) : Int)) : ZWp d zt109 35 [zr (some 0), zi w, zr (some 47), zi ((k + 1 : Nat) : Int), zu] [] σ f g Q := by
  have hvN := hv.1.2.2.2.2.2.2
  refine r_iload_n rfl rfl ?_
  refine r_bipush rfl ?_
  refine r_icmp_gt rfl (by omega) (by omega) (fun hgt => ?_) (fun hgt => ?_)
  · have e : k = 60 := by omega
    subst e
    exact K f hf hfc
  · refine r_aload_n rfl rfl ?_
    refine r_getR rfl (by first | assumption | exact hs.o rfl) (by first | assumption | exact hs.g rfl) ?_
    refine r_aload_n rfl rfl ?_
    refine r_callV1 rfl rfl (by first | assumption | exact hs.o rfl) rfl (k_drv (by omega) ht rr47 hs.r47 h (hv.it ht.2.2.1 k (by omega)) (by omega) (fun f1 hf1 ht1 hc1 hst1 => ?_))
    refine r_popi rfl ?_
    refine r_aload_n rfl rfl ?_
    refine r_getR rfl (by first | assumption | exact hs.o rfl) (by first | assumption | exact hs.g rfl) ?_
    refine r_iload_n rfl rfl ?_
    refine r_aload_n rfl rfl ?_
    refine r_callV0 rfl rfl (by first | assumption | exact hs.o rfl) rfl (k_face (rd := rIt pl al (-1) (k + 1) rd) (by omega) hs.r47 hc1 (hv.it (al := al) ht.2.2.1 (k + 1) (by omega)).1 ?_)
    refine r_lastN (k + 1) rfl (by first | assumption | exact hs.a rfl) (by omega) (by omega) (by omega) ?_
    refine r_iinc (L' := [_, _, _, _, _]) rfl rfl rfl ?_
    refine r_goto rfl ?_
    refine l_rgF hd1 hs hv hN K (k + 1) (by omega) _ ((hf.c47 hf1).up (by omega)) (ht1.sc (by omega)) (hc1.fr (fun c q1 q2 => up2_o _ _ (by omega))) (fun i hi => ?_)
    by_cases e : i = k + 1
    · subst e; exact up2_same _ _ _ _
    · rw [up2_ne _ _ (fun q => e q.2), hf1.1 54 (by omega) (by omega) (by omega) (by omega)]
      exact hfc i (by omega)
termination_by 60 - k
theorem l_rgB (hd1 : 0 ≤ d) (hs : Sh σ g) {t w : Int} (h37 : f 3 7 = t) {S : Nat → Nat → Bool} {F : Nat → Nat} (hS : ∀ i, i ≤ 60 → f 54 i = ((F i : Nat) : Int)) (hL : ∀ i, i ≤ 60 → F i < 281474976710656) (hE : ∀ i j, i ≤ 60 → j ≤ 60 → (F i = F j ↔ S i j = true)) {x : Nat} (hx60 : x < 60) {j b : Nat} (k1 : ∀ b', rgB S x j b = some b' → Q (some (zi (rgV t w (some (x, b'))))) σ f g) (k2 : rgB S x j b = none → ∀ z, ZWp d zt109 130 [zr (some 0), zi w, zr (some 47), zi (x : Int), z] [] σ f g Q) (hj : j + b = 61) (hxb : x < b) (hwi : 0 ≤ w ∧ w ≤ 1) : ZWp d zt109 79 [zr (some 0), zi w, zr (some 47), zi (x : Int), zi (b : Int)] [] σ f g Q := by
  refine r_iload rfl rfl ?_
  refine r_bipush rfl ?_
  refine r_icmp_gt rfl (by omega) (by omega) (fun hgt => ?_) (fun hgt => ?_)
  · have e : j = 0 := by omega
    subst e
    exact k2 rfl _
  · refine r_aload_n rfl rfl ?_
    refine r_getR rfl (by first | assumption | exact hs.o rfl) (by first | assumption | exact hs.g rfl) ?_
    refine r_iload_n rfl rfl ?_
    refine r_lald rfl (by first | assumption | exact hs.a rfl) (by omega) (by omega) (zix (n := x) (by omega)) ?_
    refine r_aload_n rfl rfl ?_
    refine r_getR rfl (by first | assumption | exact hs.o rfl) (by first | assumption | exact hs.g rfl) ?_
    refine r_iload rfl rfl ?_
    refine r_lald rfl (by first | assumption | exact hs.a rfl) (by omega) (by omega) (zix (n := b) (by omega)) ?_
    have hx := hS x (by omega)
    have hb := hS b (by omega)
    have hlx := hL x (by omega)
    have hlb := hL b (by omega)
    have hwx := wl_id (x := f 54 x) (by omega)
    have hwb := wl_id (x := f 54 b) (by omega)
    refine r_lcmpW rfl (fun w99 e99a e99b e99c => ?_)
    refine r_if_ne rfl (by omega) (fun hz => ?_) (fun hz => ?_)
    · refine r_iinc (L' := [_, _, _, _, _]) rfl rfl rfl ?_
      refine r_goto rfl ?_
      obtain ⟨j, rfl⟩ : ∃ i, j = i + 1 := ⟨j - 1, by omega⟩
      have e1 : rgB S x (j + 1) b = rgB S x j (b + 1) := by simp only [rgB]; rw [if_neg (fun q => by have := (hE x b (by omega) (by omega)).2 q; omega)]
      rw [e1] at k1 k2
      exact l_rgB (j := j) (b := b + 1) hd1 hs h37 hS hL hE hx60 k1 k2 (by omega) (by omega) hwi
    · refine r_iload_n rfl rfl ?_
      refine r_if_ne rfl (by omega) (fun hw0 => ?_) (fun hw0 => ?_)
      · refine r_iload rfl rfl ?_
        refine r_iload_n rfl rfl ?_
        refine r_isub rfl ?_
        refine r_iret rfl ?_
        obtain ⟨j, rfl⟩ : ∃ i, j = i + 1 := ⟨j - 1, by omega⟩
        have e1 : rgB S x (j + 1) b = some b := by simp only [rgB]; rw [if_pos ((hE x b (by omega) (by omega)).1 (by omega))]
        have := k1 b e1
        simp only [rgV] at this
        first | (rw [if_pos (by omega)] at this; exact this) | (rw [if_neg (by omega)] at this; exact this)
      · refine r_aload_n rfl rfl ?_
        refine r_getR rfl (by first | assumption | exact hs.o rfl) (by first | assumption | exact hs.g rfl) ?_
        refine r_getI rfl hs.r3.1 h37 ?_
        refine r_iload_n rfl rfl ?_
        refine r_iadd rfl ?_
        refine r_goto rfl ?_
        refine r_iret rfl ?_
        obtain ⟨j, rfl⟩ : ∃ i, j = i + 1 := ⟨j - 1, by omega⟩
        have e1 : rgB S x (j + 1) b = some b := by simp only [rgB]; rw [if_pos ((hE x b (by omega) (by omega)).1 (by omega))]
        have := k1 b e1
        simp only [rgV] at this
        first | (rw [if_pos (by omega)] at this; exact this) | (rw [if_neg (by omega)] at this; exact this)
termination_by j
theorem l_rgA (hd1 : 0 ≤ d) (hs : Sh σ g) {t w : Int} (h37 : f 3 7 = t) {S : Nat → Nat → Bool} {F : Nat → Nat} (hS : ∀ i, i ≤ 60 → f 54 i = ((F i : Nat) : Int)) (hL : ∀ i, i ≤ 60 → F i < 281474976710656) (hE : ∀ i j, i ≤ 60 → j ≤ 60 → (F i = F j ↔ S i j = true)) (hwi : 0 ≤ w ∧ w ≤ 1) {j x : Nat} (K : Q (some (zi (rgV t w (rgA S j x)))) σ f g) (hjx : j + x = 60) (z : ZV) : ZWp d zt109 68 [zr (some 0), zi w, zr (some 47), zi (x : Int), z] [] σ f g Q := by
  refine r_iload_n rfl rfl ?_
  refine r_bipush rfl ?_
  refine r_icmp_ge rfl (by omega) (by omega) (fun hge => ?_) (fun hge => ?_)
  · have e : j = 0 := by omega
    subst e
    refine r_bipush rfl ?_
    refine r_iret rfl ?_
    exact K
  · refine r_iload_n rfl rfl ?_
    refine r_iconst rfl ?_
    refine r_iadd rfl ?_
    refine r_istore (L' := [_, _, _, _, _]) rfl rfl rfl ?_
    obtain ⟨j, rfl⟩ : ∃ i, j = i + 1 := ⟨j - 1, by omega⟩
    refine l_rgB (by omega) hs h37 hS hL hE (x := x) (by omega) (j := 60 - x) (b := x + 1) (fun b hb => ?_) (fun hn z => ?_) (by omega) (by omega) hwi
    · have e1 : rgA S (j + 1) x = some (x, b) := by simp only [rgA]; rw [hb]
      rw [e1] at K
      exact K
    · have e1 : rgA S (j + 1) x = rgA S j (x + 1) := by simp only [rgA]; rw [hn]
      rw [e1] at K
      refine r_iinc (L' := [_, _, _, _, _]) rfl rfl rfl ?_
      refine r_goto rfl ?_
      exact l_rgA hd1 hs h37 hS hL hE hwi K (by omega) _
termination_by j
theorem k_ring (hd : 6 ≤ d) (hI : CI σ f g a) (hA : AOk N a)  {w : Int} (hwi : IR w) (K : ∀ f' g', FrQ f f' → FrG g g' → Q (some (zi (qRing a w))) σ f' g') : ZCt d 109 [zr (some 0), zi w] σ f g Q := by
  refine ZCt.of' (L0 := [_, _, _, _, _]) (by omega) rfl rfl rfl (fun d hd1 => ?_)
  have hs := hI.sh
  cases hp : a.w.pn with
  | none =>
    rw [qRing_no (Or.inl hp)] at K
    refine r_aload_n rfl rfl ?_
    refine r_getR rfl (by first | assumption | exact hs.o rfl) (hI.pln hp) ?_
    refine r_ifnullN rfl ?_
    refine r_iconst rfl ?_
    refine r_iret rfl ?_
    exact K f g (FrQ.rf f) (FrG.rf g)
  | some q =>
    obtain ⟨pl, rd0⟩ := q
    obtain ⟨p0, gp, p240, po, hpc, hrc⟩ := hI.plS hp
    obtain ⟨hplo, hvr, hst⟩ := hA.plS hp
    have hN := hA.2.2.2.2.2.2.2
    have hvs := hvr.vs
    refine r_aload_n rfl rfl ?_
    refine r_getR rfl (by first | assumption | exact hs.o rfl) gp ?_
    refine r_ifnullS rfl ?_
    refine r_iload_n rfl rfl ?_
    refine r_iconst rfl ?_
    refine r_iconst rfl ?_
    refine r_callS3 rfl rfl rfl (k_within (by omega) hwi (by omega) (by omega) (fun hw => ?_) (fun hw => ?_))
    · refine r_if_y rfl (by decide) ?_
      refine r_aload_n rfl rfl ?_
      refine r_callV0 rfl rfl (by first | assumption | exact hs.o rfl) rfl (k_tryN (by omega) hI hA hp (fun f1 g1 p hf1 hg1 ht1 hc1 => ?_))
      have hs1 := hs.frg hg1
      obtain ⟨oo, ⟨a1, a2, a3, a4, a5⟩, gg0, gg1, gg2, gg3, gg4⟩ := hs1.r47
      refine r_astore_n (L' := [_, _, _, _, _]) rfl rfl rfl ?_
      refine r_aload_n rfl rfl ?_
      refine r_getR rfl (by first | assumption | exact hs.o rfl) (hs1.g rfl) ?_
      refine r_iconst rfl ?_
      refine r_aload_n rfl rfl ?_
      refine r_callV0 rfl rfl (by first | assumption | exact hs.o rfl) rfl (k_face (rd := a.w.rd) (by omega) hs1.r47 hc1 hvs.1 ?_)
      refine r_lastN (0) rfl (by first | assumption | exact hs.a rfl) (by omega) (by omega) (by omega) ?_
      refine r_iconst rfl ?_
      refine r_istore_n (L' := [_, _, _, _, _]) rfl rfl rfl ?_
      refine l_rgF (f0 := f) (by omega) hs1 hvs (by omega) (fun f2 h2 hfc2 => ?_) 0 (by omega) _ (hf1.up (by omega)) (ht1.sc (by omega)) (hc1.fr (fun c q1 q2 => up2_o _ _ (by omega))) (fun i hi => by rw [show i = 0 by omega]; exact up2_same _ _ _ _)
      refine r_iconst rfl ?_
      refine r_istore_n (L' := [_, _, _, _, _]) rfl rfl rfl ?_
      refine l_rgA (S := rgS pl (AL a a.fo pl) a.w.rd) (by omega) hs1 (t := a.w.rd 5 0) ((congrFun (h2 3 (by omega)) 7).trans hI.w.2.1.2.2.1) hfc2 (fun i hi => fcN_lt6 (hvs.it (al := AL a a.fo pl) hplo i (by omega)).1 (Nat.le_refl 6)) (fun i j hi hj => fcN_eq (hvs.it (al := AL a a.fo pl) hplo i (by omega)).1 (hvs.it (al := AL a a.fo pl) hplo j (by omega)).1 6 (Nat.le_refl 6)) hw (j := 60) (x := 0) ?_ (by omega) _
      rw [qRing_yes hp hw] at K
      exact K f2 g1 h2 hg1
    · refine r_if_n rfl (by decide) ?_
      refine r_iconst rfl ?_
      refine r_iret rfl ?_
      rw [qRing_no (Or.inr (by omega))] at K
      exact K f g (FrQ.rf f) (FrG.rf g)
theorem l_rgW (hd1 : 1 ≤ d) (hs : Sh σ g) {q : Nat} (hq : q ≤ 60) (ho : RdOk n m N rd) {w : Int} (K : ∀ f', (∀ c, c ≠ 233 → f' c = f0 c) → (∀ i, i < 6 → f' 233 (6 * q + i) = rcd rd i) ∧ (∀ i, i < 6 * q → f' 233 i = f0 233 i) → ZWp d zt234 81 [zr (some 219), zi w, zi (q : Int), zi ((6 : Nat) : Int)] [] σ f' g Q) (k : Nat) (hk : k ≤ 6) (f : ZF) (hf : ∀ c, c ≠ 233 → f c = f0 c) (hm : MRd (f 229) rd) (hw : ∀ i, (i < k → f 233 (6 * q + i) = rcd rd i) ∧ (i < 6 * q → f 233 i = f0 233 i)) : ZWp d zt234 33 [zr (some 219), zi w, zi (q : Int), zi (k : Int)] [] σ f g Q := by
  refine r_iload_n rfl rfl ?_
  refine r_bipush rfl ?_
  refine r_icmp_ge rfl (by omega) (by omega) (fun hge => ?_) (fun hge => ?_)
  · have e : k = 6 := by omega
    subst e
    exact K f hf ⟨fun i hi => (hw i).1 hi, fun i hi => (hw i).2 hi⟩
  · refine r_aload_n rfl rfl ?_
    refine r_getR rfl (by first | assumption | exact hs.o rfl) (by first | assumption | exact hs.g rfl) ?_
    refine r_bipush rfl ?_
    refine r_iload_n rfl rfl ?_
    refine r_imul rfl ?_
    refine r_iload_n rfl rfl ?_
    refine r_iadd rfl ?_
    refine r_aload_n rfl rfl ?_
    refine r_iload_n rfl rfl ?_
    have hn1 := ho.1
    have hm1 := ho.2.1
    refine r_callV1 rfl rfl (by first | assumption | exact hs.o rfl) rfl (c_mOn (by omega) hs hm ho (by omega) (fun hon => ?_) (fun hoff => ?_))
    · refine r_if_n rfl (by decide) ?_
      refine r_iconst rfl ?_
      refine r_aload_n rfl rfl ?_
      refine r_iload_n rfl rfl ?_
      refine r_callV1 rfl rfl (by first | assumption | exact hs.o rfl) rfl (c_cellOf (by omega) hs (by omega) ?_)
      rw [hon.2.2.2.2.2.1]
      refine r_imul rfl ?_
      refine r_aload_n rfl rfl ?_
      refine r_iload_n rfl rfl ?_
      refine r_callV1 rfl rfl (by first | assumption | exact hs.o rfl) rfl (c_roadOf (by omega) hs (by omega) ?_)
      rw [hon.2.2.2.2.2.2.1]
      refine r_iadd rfl ?_
      refine r_goto rfl ?_
      refine r_iastN (6 * q + k) rfl (by first | assumption | exact hs.a rfl) (by omega) (by omega) (by omega) ?_
      refine r_iinc (L' := [_, _, _, _]) rfl rfl rfl ?_
      refine r_goto rfl ?_
      refine l_rgW hd1 hs hq ho K (k + 1) (by omega) _ (fun c q => (up2_o _ _ q).trans (hf c q)) (by rw [up2_o _ _ (by omega)]; exact hm) (fun i => ⟨fun hi => ?_, fun hi => ?_⟩)
      · by_cases e : i = k
        · subst e
          rw [up2_same]
          unfold rcd
          first | (rw [if_neg (by omega)]) | (rw [if_pos hoff])
        · rw [up2_ne _ _ (by omega)]; exact (hw i).1 (by omega)
      · rw [up2_ne _ _ (by omega)]; exact (hw i).2 hi
    · refine r_if_y rfl (by decide) ?_
      refine r_iconst rfl ?_
      refine r_iastN (6 * q + k) rfl (by first | assumption | exact hs.a rfl) (by omega) (by omega) (by omega) ?_
      refine r_iinc (L' := [_, _, _, _]) rfl rfl rfl ?_
      refine r_goto rfl ?_
      refine l_rgW hd1 hs hq ho K (k + 1) (by omega) _ (fun c q => (up2_o _ _ q).trans (hf c q)) (by rw [up2_o _ _ (by omega)]; exact hm) (fun i => ⟨fun hi => ?_, fun hi => ?_⟩)
      · by_cases e : i = k
        · subst e
          rw [up2_same]
          unfold rcd
          first | (rw [if_neg (by omega)]) | (rw [if_pos hoff])
        · rw [up2_ne _ _ (by omega)]; exact (hw i).1 (by omega)
      · rw [up2_ne _ _ (by omega)]; exact (hw i).2 hi
termination_by 6 - k
theorem TM.w233 {f' : ZF} (h : TM σ f g pl al cl) (hc : ∀ c, c ≠ 233 → f' c = f c) : TM σ f' g pl al cl := h.fr2 (fun c q1 q2 => hc c (by omega)) (fun i _ => by rw [hc 229 (by omega)]) (fun i _ => by rw [hc 219 (by omega)]) h.2.2.2.1 (by rw [hc 219 (by omega)]; exact h.2.2.1)
theorem Kp.w233 {f0 f f' : ZF} (h : Kp f0 f) (hc : ∀ c, c ≠ 233 → f' c = f c) : Kp f0 f' := ⟨fun c q1 q2 q3 => (hc c (by omega)).trans (h.1 c q1 q2 q3), fun i q1 q2 q3 q4 q5 q6 q7 q8 => by rw [hc 219 (by omega)]; exact h.2.1 i q1 q2 q3 q4 q5 q6 q7 q8, fun i q => by rw [hc 229 (by omega)]; exact h.2.2.1 i q, fun i q => by rw [hc 231 (by omega)]; exact h.2.2.2 i q⟩
theorem l_rgR (hd1 : 10 ≤ d) (hs : Sh σ g) {f00 : ZF} (hv : VS pl N (-1) rd) (hN : N + 7 * 61 ≤ 1000000) {w : Int} (K : ∀ f' x, Kp f00 f' → (∀ i, i ≠ 18 → i ≠ 25 → f' 219 i = f0 219 i) → (∀ i, i < 61 → ∀ j, j < 6 → f' 233 (6 * i + j) = rcd (rIt pl al (-1) i rd) j) → ZWp d zt234 92 [zr (some 219), zi w, zi ((61 : Nat) : Int), x] [] σ f' g Q) (k : Nat) (hk : k ≤ 61) (f : ZF) (x : ZV) (hkp : Kp f00 f) (ht : TM σ f g pl al (-1)) (h : MRd (f 229) (rIt pl al (-1) k rd)) (h219 : ∀ i, i ≠ 18 → i ≠ 25 → f 219 i = f0 219 i) (hfc : ∀ i, i < k → ∀ j, j < 6 → f 233 (6 * i + j) = rcd (rIt pl al (-1) i rd) j) : ZWp d zt234 25 [zr (some 219), zi w, zi (k : Int), x] [] σ f g Q := by
  have hvN := hv.1.2.2.2.2.2.2
  refine r_iload_n rfl rfl ?_
  refine r_bipush rfl ?_
  refine r_icmp_gt rfl (by omega) (by omega) (fun hgt => ?_) (fun hgt => ?_)
  · have e : k = 61 := by omega
    subst e
    exact K f _ hkp h219 hfc
  · refine r_iconst rfl ?_
    refine r_istore_n (L' := [_, _, _, _]) rfl rfl rfl ?_
    refine l_rgW (f0 := f) (rd := rIt pl al (-1) k rd) (by omega) hs (q := k) (by omega) (hv.it ht.2.1 k (by omega)).1 (fun f1 h1 h3 => ?_) 0 (by omega) f (fun _ _ => rfl) h (fun i => ⟨fun q => by omega, fun _ => rfl⟩)
    refine r_aload_n rfl rfl ?_
    refine r_callV0 rfl rfl (by first | assumption | exact hs.o rfl) rfl (c_psv (by omega) hs (TM.w233 ht h1) (by rw [h1 229 (by omega)]; exact h) (hv.it ht.2.1 k (by omega)).1 (by omega) (fun f2 hf2 ht2 hm2 hst2 => ?_))
    refine r_popi rfl ?_
    refine r_iinc (L' := [_, _, _, _]) rfl rfl rfl ?_
    refine r_goto rfl ?_
    refine l_rgR hd1 hs hv hN K (k + 1) (by omega) f2 _ ((Kp.w233 hkp h1).m hf2) ht2 hm2 (fun i q1 q2 => by rw [hf2.2.1 i q1 q2, h1 219 (by omega)]; exact h219 i q1 q2) (fun i hi j hj => ?_)
    rw [hf2.1 233 (by omega) (by omega) (by omega) (by omega)]
    by_cases e : i = k
    · subst e; exact h3.1 j hj
    · rw [h3.2 _ (by omega)]; exact hfc i (by omega) j hj
termination_by 61 - k
theorem rSame_f {j k : Nat} (hj : j < k) (h : rcd rd j ≠ rcd rd' j) : rSame rd rd' k = false := by
  induction k with
  | zero => omega
  | succ k ih =>
    simp only [rSame]
    by_cases e : j = k
    · subst e; rw [decide_eq_false h, Bool.and_false]
    · rw [ih (by omega), Bool.false_and]
theorem rcd_rng (ho : RdOk n m N rd) {k : Nat} (hk : k < 6) : -1 ≤ rcd rd k ∧ rcd rd k ≤ 200 := by
  have h1 := ho.2.2.1 k hk
  have h2 := ho.1
  have h3 := ho.2.1
  unfold rcd
  split <;> omega
theorem l_alike (hd1 : 0 ≤ d) (hs : Sh σ g) {x b : Nat} (hxb : x ≤ 60 ∧ b ≤ 60) (hx : ∀ j, j < 6 → f 233 (6 * x + j) = rcd rd j) (hb : ∀ j, j < 6 → f 233 (6 * b + j) = rcd rd' j) (hr1 : ∀ j, j < 6 → -1 ≤ rcd rd j ∧ rcd rd j ≤ 200) (hr2 : ∀ j, j < 6 → -1 ≤ rcd rd' j ∧ rcd rd' j ≤ 200) (k1 : rSame rd rd' 6 = true → Q (some (zi 1)) σ f g) (k2 : rSame rd rd' 6 = false → Q (some (zi 0)) σ f g) (k : Nat) (hk : k ≤ 6) (hall : rSame rd rd' k = true) : ZWp d zt235 2 [zr (some 219), zi (x : Int), zi (b : Int), zi (k : Int)] [] σ f g Q := by
  refine r_iload_n rfl rfl ?_
  refine r_bipush rfl ?_
  refine r_icmp_ge rfl (by omega) (by omega) (fun hge => ?_) (fun hge => ?_)
  · have e : k = 6 := by omega
    subst e
    refine r_iconst rfl ?_
    refine r_zret rfl (by omega) ?_
    exact k1 hall
  · refine r_aload_n rfl rfl ?_
    refine r_getR rfl (by first | assumption | exact hs.o rfl) (by first | assumption | exact hs.g rfl) ?_
    refine r_bipush rfl ?_
    refine r_iload_n rfl rfl ?_
    refine r_imul rfl ?_
    refine r_iload_n rfl rfl ?_
    refine r_iadd rfl ?_
    have hrx := hr1 k (by omega)
    have hry := hr2 k (by omega)
    refine r_iald rfl (by first | assumption | exact hs.a rfl) (by omega) (by omega) ((zix (n := 6 * x + k) (by omega)).trans (hx k (by omega))) ?_
    refine r_aload_n rfl rfl ?_
    refine r_getR rfl (by first | assumption | exact hs.o rfl) (by first | assumption | exact hs.g rfl) ?_
    refine r_bipush rfl ?_
    refine r_iload_n rfl rfl ?_
    refine r_imul rfl ?_
    refine r_iload_n rfl rfl ?_
    refine r_iadd rfl ?_
    refine r_iald rfl (by first | assumption | exact hs.a rfl) (by omega) (by omega) ((zix (n := 6 * b + k) (by omega)).trans (hb k (by omega))) ?_
    refine r_icmp_eq rfl (by omega) (by omega) (fun heq => ?_) (fun heq => ?_)
    · refine r_iinc (L' := [_, _, _, _]) rfl rfl rfl ?_
      refine r_goto rfl ?_
      exact l_alike hd1 hs hxb hx hb hr1 hr2 k1 k2 (k + 1) (by omega) (by simp only [rSame]; rw [hall, Bool.true_and]; exact decide_eq_true heq)
    · refine r_iconst rfl ?_
      refine r_zret rfl (by omega) ?_
      exact k2 (rSame_f (by omega) heq)
termination_by 6 - k
theorem c_areAlike (hd : 1 ≤ d) (hs : Sh σ g) {x b : Nat} (hxb : x ≤ 60 ∧ b ≤ 60) (hx : ∀ j, j < 6 → f 233 (6 * x + j) = rcd rd j) (hb : ∀ j, j < 6 → f 233 (6 * b + j) = rcd rd' j) (hr1 : ∀ j, j < 6 → -1 ≤ rcd rd j ∧ rcd rd j ≤ 200) (hr2 : ∀ j, j < 6 → -1 ≤ rcd rd' j ∧ rcd rd' j ≤ 200) (k1 : rSame rd rd' 6 = true → Q (some (zi 1)) σ f g) (k2 : rSame rd rd' 6 = false → Q (some (zi 0)) σ f g) : ZCt d 235 [zr (some 219), zi (x : Int), zi (b : Int)] σ f g Q := by
  refine ZCt.of' (L0 := [_, _, _, _]) (by omega) rfl rfl rfl (fun d hd1 => ?_)
  refine r_iconst rfl ?_
  refine r_istore_n (L' := [_, _, _, _]) rfl rfl rfl ?_
  exact l_alike (by omega) hs hxb hx hb hr1 hr2 k1 k2 0 (by omega) rfl
theorem l_rgBM (hd1 : 1 ≤ d) (hs : Sh σ g) {t w : Int} (h10 : f 229 10 = t) {R : Nat → Rd} {S : Nat → Nat → Bool} (hS : ∀ i, i < 61 → ∀ j, j < 6 → f 233 (6 * i + j) = rcd (R i) j) (hR : ∀ i, i < 61 → ∀ j, j < 6 → -1 ≤ rcd (R i) j ∧ rcd (R i) j ≤ 200) (hE : ∀ i j, S i j = rSame (R i) (R j) 6) {x : Nat} (hx60 : x < 60) {j b : Nat} (k1 : ∀ b', rgB S x j b = some b' → Q (some (zi (rgV t w (some (x, b'))))) σ f g) (k2 : rgB S x j b = none → ∀ z, ZWp d zt234 149 [zr (some 219), zi w, zi (x : Int), z] [] σ f g Q) (hj : j + b = 61) (hxb : x < b) (hwi : 0 ≤ w ∧ w ≤ 1) : ZWp d zt234 108 [zr (some 219), zi w, zi (x : Int), zi (b : Int)] [] σ f g Q := by
  refine r_iload_n rfl rfl ?_
  refine r_bipush rfl ?_
  refine r_icmp_gt rfl (by omega) (by omega) (fun hgt => ?_) (fun hgt => ?_)
  · have e : j = 0 := by omega
    subst e
    exact k2 rfl _
  · refine r_aload_n rfl rfl ?_
    refine r_iload_n rfl rfl ?_
    refine r_iload_n rfl rfl ?_
    refine r_callV2 rfl rfl (by first | assumption | exact hs.o rfl) rfl (c_areAlike (by omega) hs (by omega) (hS x (by omega)) (hS b (by omega)) (hR x (by omega)) (hR b (by omega)) (fun hal => ?_) (fun hal => ?_))
    · refine r_if_n rfl (by decide) ?_
      refine r_iload_n rfl rfl ?_
      refine r_if_ne rfl (by omega) (fun hw0 => ?_) (fun hw0 => ?_)
      · refine r_iload_n rfl rfl ?_
        refine r_iload_n rfl rfl ?_
        refine r_isub rfl ?_
        refine r_iret rfl ?_
        obtain ⟨j, rfl⟩ : ∃ i, j = i + 1 := ⟨j - 1, by omega⟩
        have e1 : rgB S x (j + 1) b = some b := by simp only [rgB]; rw [if_pos (by rw [hE]; exact hal)]
        have := k1 b e1
        simp only [rgV] at this
        first | (rw [if_pos (by omega)] at this; exact this) | (rw [if_neg (by omega)] at this; exact this)
      · refine r_aload_n rfl rfl ?_
        refine r_getR rfl (by first | assumption | exact hs.o rfl) (by first | assumption | exact hs.g rfl) ?_
        refine r_bipush rfl ?_
        refine r_iald rfl (by first | assumption | exact hs.a rfl) (by omega) (by omega) ((zix (n := 10) rfl).trans h10) ?_
        refine r_iload_n rfl rfl ?_
        refine r_iadd rfl ?_
        refine r_goto rfl ?_
        refine r_iret rfl ?_
        obtain ⟨j, rfl⟩ : ∃ i, j = i + 1 := ⟨j - 1, by omega⟩
        have e1 : rgB S x (j + 1) b = some b := by simp only [rgB]; rw [if_pos (by rw [hE]; exact hal)]
        have := k1 b e1
        simp only [rgV] at this
        first | (rw [if_pos (by omega)] at this; exact this) | (rw [if_neg (by omega)] at this; exact this)
    · refine r_if_y rfl (by decide) ?_
      refine r_iinc (L' := [_, _, _, _]) rfl rfl rfl ?_
      refine r_goto rfl ?_
      obtain ⟨j, rfl⟩ : ∃ i, j = i + 1 := ⟨j - 1, by omega⟩
      have e1 : rgB S x (j + 1) b = rgB S x j (b + 1) := by simp only [rgB]; rw [if_neg (by rw [hE, hal]; decide)]
      rw [e1] at k1 k2
      exact l_rgBM (j := j) (b := b + 1) hd1 hs h10 hS hR hE hx60 k1 k2 (by omega) (by omega) hwi
termination_by j
theorem l_rgAM (hd1 : 1 ≤ d) (hs : Sh σ g) {t w : Int} (h10 : f 229 10 = t) {R : Nat → Rd} {S : Nat → Nat → Bool} (hS : ∀ i, i < 61 → ∀ j, j < 6 → f 233 (6 * i + j) = rcd (R i) j) (hR : ∀ i, i < 61 → ∀ j, j < 6 → -1 ≤ rcd (R i) j ∧ rcd (R i) j ≤ 200) (hE : ∀ i j, S i j = rSame (R i) (R j) 6) (hwi : 0 ≤ w ∧ w ≤ 1) {j x : Nat} (K : Q (some (zi (rgV t w (rgA S j x)))) σ f g) (hjx : j + x = 60) (z : ZV) : ZWp d zt234 98 [zr (some 219), zi w, zi (x : Int), z] [] σ f g Q := by
  refine r_iload_n rfl rfl ?_
  refine r_bipush rfl ?_
  refine r_icmp_ge rfl (by omega) (by omega) (fun hge => ?_) (fun hge => ?_)
  · have e : j = 0 := by omega
    subst e
    refine r_bipush rfl ?_
    refine r_iret rfl ?_
    exact K
  · refine r_iload_n rfl rfl ?_
    refine r_iconst rfl ?_
    refine r_iadd rfl ?_
    refine r_istore_n (L' := [_, _, _, _]) rfl rfl rfl ?_
    obtain ⟨j, rfl⟩ : ∃ i, j = i + 1 := ⟨j - 1, by omega⟩
    refine l_rgBM (by omega) hs h10 hS hR hE (x := x) (by omega) (j := 60 - x) (b := x + 1) (fun b hb => ?_) (fun hn z => ?_) (by omega) (by omega) hwi
    · have e1 : rgA S (j + 1) x = some (x, b) := by simp only [rgA]; rw [hb]
      rw [e1] at K
      exact K
    · have e1 : rgA S (j + 1) x = rgA S j (x + 1) := by simp only [rgA]; rw [hn]
      rw [e1] at K
      refine r_iinc (L' := [_, _, _, _]) rfl rfl rfl ?_
      refine r_goto rfl ?_
      exact l_rgAM hd1 hs h10 hS hR hE hwi K (by omega) _
termination_by j
theorem c_ring (hd : 12 ≤ d) (hs : Sh σ g) (hM : MI f a) (hA : AOk N a) {w : Int} (hwi : IR w) (K : ∀ f', FrMQ f f' → Q (some (zi (qRing a w))) σ f' g) : ZCt d 234 [zr (some 219), zi w] σ f g Q := by
  refine ZCt.of' (L0 := [_, _, _, _]) (by omega) rfl rfl rfl (fun d hd1 => ?_)
  refine r_aload_n rfl rfl ?_
  refine r_callV0 rfl rfl (by first | assumption | exact hs.o rfl) rfl (c_shown (by omega) hs hM hA (fun pl rd0 hp => ?_) (fun hnp => ?_))
  · refine r_if_n rfl (by decide) ?_
    refine r_iload_n rfl rfl ?_
    refine r_i2l rfl (by omega) ?_
    refine r_lconst rfl ?_
    refine r_lconst rfl ?_
    refine r_callS3 rfl rfl rfl (c_in (by omega) (by omega) (by omega) (by omega) (fun hw => ?_) (fun hw => ?_))
    · refine r_if_y rfl (by decide) ?_
      refine r_aload_n rfl rfl ?_
      obtain ⟨hplo, hvr, hst⟩ := hA.plS hp
      have hN := hA.2.2.2.2.2.2.2
      have hvs := hvr.vs
      have ht0 : TM σ f g pl (AL a a.fo pl) (-1) := MI.tm hs hM hA hp
      have hm0 : MRd (f 229) a.w.rd := hM.w.2.1
      refine r_callV0 rfl rfl (by first | assumption | exact hs.o rfl) rfl (c_keeps (by omega) hs (fun f1 hk1 he1 => ?_))
      have ht1 : TM σ f1 g pl (AL a a.fo pl) (-1) := ht0.k1 he1
      have hm1 : MRd (f1 229) a.w.rd := by rw [he1 229 (by omega)]; exact hm0
      refine r_iconst rfl ?_
      refine r_istore_n (L' := [_, _, _, _]) rfl rfl rfl ?_
      refine l_rgR (f0 := f1) (by omega) hs hvs (by omega) (fun f2 x hk2 h2192 hfc2 => ?_) 0 (by omega) f1 _ hk1 ht1 hm1 (fun _ _ _ => rfl) (fun i hi => by omega)
      refine r_aload_n rfl rfl ?_
      refine r_callV0 rfl rfl (by first | assumption | exact hs.o rfl) rfl (c_laysBack (by omega) hs hk2 (fun f9 hk9 h99 he9 => ?_))
      refine r_iconst rfl ?_
      refine r_istore_n (L' := [_, _, _, _]) rfl rfl rfl ?_
      refine l_rgAM (R := fun i => rIt pl (AL a a.fo pl) (-1) i a.w.rd) (S := rgS pl (AL a a.fo pl) a.w.rd) (by omega) hs (t := a.w.rd 5 0) (by rw [h99]; exact hm0.1) (fun i hi j hj => by rw [he9 233 (by omega)]; exact hfc2 i hi j hj) (fun i hi j hj => rcd_rng (hvs.it (al := AL a a.fo pl) hplo i (by omega)).1 hj) (fun i j => rfl) hw (j := 60) (x := 0) ?_ (by omega) _
      rw [qRing_yes hp hw] at K
      exact K f9 (hk9.back h99 (fun i q => by rw [he9 219 (by omega), h2192 i (by omega) (by omega), he1 219 (by omega)]))
    · refine r_if_n rfl (by decide) ?_
      refine r_iconst rfl ?_
      refine r_iret rfl ?_
      first | (rw [qRing_no (Or.inr (by omega))] at K; exact K f (FrMQ.rf f)) | (rw [qRing_no (Or.inl hnp)] at K; exact K f (FrMQ.rf f))
  · refine r_if_y rfl (by decide) ?_
    refine r_iconst rfl ?_
    refine r_iret rfl ?_
    first | (rw [qRing_no (Or.inr (by omega))] at K; exact K f (FrMQ.rf f)) | (rw [qRing_no (Or.inl hnp)] at K; exact K f (FrMQ.rf f))
end RING
