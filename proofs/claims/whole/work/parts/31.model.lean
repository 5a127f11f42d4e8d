/-! A roundabout's state as numbers: rows 0 cell, 1 road wanted, 2 fuel, 3 age of the cars 0 .. 5; 4 the waiting of the roads; 5 step and how many are off; 6 gaps by cell -/
abbrev Rd : Type := Nat → Nat → Int
/-- a plan: cells, roads, cars told, the roads' cells, how often -/
abbrev Pl : Type := Int × Int × Int × (Nat → Int) × (Nat → Int)
def RdOk (n m N : Int) (rd : Rd) : Prop := (3 ≤ n ∧ n ≤ 20) ∧ (0 ≤ m ∧ m ≤ 5) ∧ (∀ k, k < 6 → (rd 0 k = -1 ∧ rd 1 k = -1 ∧ rd 2 k = 0 ∧ rd 3 k = 0) ∨ ((0 ≤ rd 0 k ∧ rd 0 k < n) ∧ (0 ≤ rd 1 k ∧ rd 1 k < m) ∧ (0 ≤ rd 2 k ∧ rd 2 k ≤ 99) ∧ (0 ≤ rd 3 k ∧ rd 3 k ≤ N))) ∧
  (∀ j, j < 5 → 0 ≤ rd 4 j ∧ rd 4 j ≤ 99) ∧ (∀ c, c < 20 → rd 6 c = 0 ∨ rd 6 c = 1) ∧ (0 ≤ rd 5 0 ∧ rd 5 0 ≤ N) ∧ (0 ≤ rd 5 1 ∧ rd 5 1 ≤ N) ∧ N ≤ 1000000
/-- the reference's row 'said' (cell 229) tells this state -/
def MC (s : Nat → Int) (rd : Rd) (k : Nat) : Prop := (rd 0 k = -1 ∧ rd 1 k = -1 ∧ rd 2 k = 0 ∧ rd 3 k = 0 ∧ s (12 + 5 * k) = 0 ∧ s (13 + 5 * k) = 0 ∧ s (14 + 5 * k) = 0 ∧ s (15 + 5 * k) = 0 ∧ s (16 + 5 * k) = 0) ∨ (0 ≤ rd 0 k ∧ s (12 + 5 * k) = 1 ∧ s (13 + 5 * k) = rd 0 k ∧ s (14 + 5 * k) = rd 1 k ∧ s (15 + 5 * k) = rd 2 k ∧ s (16 + 5 * k) = rd 3 k)
def MRd (s : Nat → Int) (rd : Rd) : Prop := s 10 = rd 5 0 ∧ s 11 = rd 5 1 ∧ (∀ k, k < 6 → MC s rd k) ∧ (∀ j, j < 5 → s (42 + j) = rd 4 j) ∧ (∀ c, c < 20 → s (47 + c) = rd 6 c)
def MPl (s : Nat → Int) (pl : Pl) : Prop := s 0 = 1 ∧ s 1 = pl.1 ∧ s 2 = pl.2.1 ∧ s 3 = pl.2.2.1 ∧ (∀ j, j < 5 → s (67 + j) = pl.2.2.2.1 j ∧ s (72 + j) = pl.2.2.2.2 j)
def PlOk (pl : Pl) : Prop := (3 ≤ pl.1 ∧ pl.1 ≤ 20) ∧ (0 ≤ pl.2.1 ∧ pl.2.1 ≤ 5) ∧ (0 ≤ pl.2.2.1 ∧ pl.2.2.1 ≤ 6) ∧ ∀ j : Nat, (j : Int) < pl.2.1 → (0 ≤ pl.2.2.2.1 j ∧ pl.2.2.2.1 j < pl.1) ∧ (1 ≤ pl.2.2.2.2 j ∧ pl.2.2.2.2 j ≤ 20)
theorem zix {f : ZF} {c : Nat} {i : Int} {n : Nat} (h : i.toNat = n) : f c i.toNat = f c n := by rw [h]
theorem z_and_rng (x y : Int) : -2147483648 ≤ z_and x y ∧ z_and x y ≤ 2147483647 := by
  unfold z_and
  have h1 := Int32.le_toInt (Int32.ofInt x &&& Int32.ofInt y)
  have h2 := Int32.toInt_lt (Int32.ofInt x &&& Int32.ofInt y)
  omega
section RL
variable {d : Nat} {T : ZT} {pc q a b c : Nat} {v : Int} {L st : List ZV} {σ : ZS} {f : ZF} {g : ZG} {Q : ZQ}
theorem r_lcmpK {x y : Int} (hlk : zlk T pc = some (.lcmp, q, a, b, c, v)) (hx : -9223372036854775808 ≤ x ∧ x ≤ 9223372036854775807) (hy : -9223372036854775808 ≤ y ∧ y ≤ 9223372036854775807) (k : ∀ w : Int, (w = -1 ∨ w = 0 ∨ w = 1) → (w < 0 ↔ x < y) → (w = 0 ↔ x = y) → ZWp d T q L (zi w :: st) σ f g Q) : ZWp d T pc L (zl y :: zl x :: st) σ f g Q := by
  refine r_lcmp hlk ?_
  unfold z_cmp
  rw [wl_id hx, wl_id hy]
  by_cases h1 : y < x
  · rw [if_pos h1]; exact k 1 (by omega) (by omega) (by omega)
  · rw [if_neg h1]
    by_cases h2 : x = y
    · rw [if_pos h2]; exact k 0 (by omega) (by omega) (by omega)
    · rw [if_neg h2]; exact k (-1) (by omega) (by omega) (by omega)
theorem r_iastN {k n : Nat} (j : Nat) {i x : Int} (hlk : zlk T pc = some (.iastore, q, a, b, c, v)) (ha : zA σ k 100 n) (hn : n ≤ 2147483647) (hi : 0 ≤ i ∧ i < (n : Int)) (hj : i.toNat = j) (kk : ZWp d T q L st σ (up2 f k j x) g Q) : ZWp d T pc L (zi x :: zi i :: zr (some k) :: st) σ f g Q := by
  subst hj
  exact r_iast hlk ha hn hi kk
theorem r_lastN {k n : Nat} (j : Nat) {i x : Int} (hlk : zlk T pc = some (.lastore, q, a, b, c, v)) (ha : zA σ k 103 n) (hn : n ≤ 2147483647) (hi : 0 ≤ i ∧ i < (n : Int)) (hj : i.toNat = j) (kk : ZWp d T q L st σ (up2 f k j x) g Q) : ZWp d T pc L (zl x :: zi i :: zr (some k) :: st) σ f g Q := by
  subst hj
  exact r_last hlk ha hn hi kk
theorem r_bastN {k n : Nat} (j : Nat) {i x : Int} (hlk : zlk T pc = some (.bastore, q, 0, b, c, v)) (ha : zA σ k 101 n) (hn : n ≤ 2147483647) (hi : 0 ≤ i ∧ i < (n : Int)) (hj : i.toNat = j) (hx : -128 ≤ x ∧ x ≤ 127) (kk : ZWp d T q L st σ (up2 f k j x) g Q) : ZWp d T pc L (zi x :: zi i :: zr (some k) :: st) σ f g Q := by
  subst hj
  exact r_bast hlk ha hn hi hx kk
theorem r_zastN {k n : Nat} (j : Nat) {i x : Int} (hlk : zlk T pc = some (.bastore, q, 1, b, c, v)) (ha : zA σ k 102 n) (hn : n ≤ 2147483647) (hi : 0 ≤ i ∧ i < (n : Int)) (hj : i.toNat = j) (hx : x = 0 ∨ x = 1) (kk : ZWp d T q L st σ (up2 f k j x) g Q) : ZWp d T pc L (zi x :: zi i :: zr (some k) :: st) σ f g Q := by
  subst hj
  exact r_zast hlk ha hn hi hx kk
end RL
theorem c_in {d : Nat} {σ : ZS} {f : ZF} {g : ZG} {Q : ZQ} (hd : 1 ≤ d) {x lo hi : Int} (hx : -9223372036854775808 ≤ x ∧ x ≤ 9223372036854775807) (hl : -9223372036854775808 ≤ lo ∧ lo ≤ 9223372036854775807) (hh : -9223372036854775808 ≤ hi ∧ hi ≤ 9223372036854775807) (k1 : lo ≤ x ∧ x ≤ hi → Q (some (zi 1)) σ f g) (k2 : ¬ (lo ≤ x ∧ x ≤ hi) → Q (some (zi 0)) σ f g) : ZCt d 150 [zl x, zl lo, zl hi] σ f g Q := by
  refine ZCt.of' (L0 := [_, _, _, _, _, _]) (by omega) rfl rfl rfl (fun d hd1 => ?_)
  refine r_lload_n rfl rfl ?_
  refine r_lload_n rfl rfl ?_
  refine r_lcmpK rfl (by omega) (by omega) (fun w2 e2a e2b e2c => ?_)
  refine r_if_lt rfl (by omega) (fun h3 => ?_) (fun h3 => ?_)
  · refine r_iconst rfl ?_
    refine r_zret rfl (by omega) ?_
    first | exact k1 (by omega) | exact k2 (by omega)
  · refine r_lload_n rfl rfl ?_
    refine r_lload rfl rfl ?_
    refine r_lcmpK rfl (by omega) (by omega) (fun w9 e9a e9b e9c => ?_)
    refine r_if_gt rfl (by omega) (fun h10 => ?_) (fun h10 => ?_)
    · refine r_iconst rfl ?_
      refine r_zret rfl (by omega) ?_
      first | exact k1 (by omega) | exact k2 (by omega)
    · refine r_iconst rfl ?_
      refine r_goto rfl ?_
      refine r_zret rfl (by omega) ?_
      first | exact k1 (by omega) | exact k2 (by omega)

theorem c_isOf {d : Nat} {σ : ZS} {f : ZF} {g : ZG} {Q : ZQ} (hd : 1 ≤ d) {x k : Int} (k1 : z_and (z_shr x k) 1 = 1 → Q (some (zi 1)) σ f g) (k2 : ¬ (z_and (z_shr x k) 1 = 1) → Q (some (zi 0)) σ f g) : ZCt d 194 [zi x, zi k] σ f g Q := by
  refine ZCt.of' (L0 := [_, _]) (by omega) rfl rfl rfl (fun d hd1 => ?_)
  refine r_iload_n rfl rfl ?_
  refine r_iload_n rfl rfl ?_
  refine r_ishr rfl ?_
  refine r_iconst rfl ?_
  refine r_iand rfl ?_
  refine r_iconst rfl ?_
  refine r_icmp_ne rfl (z_and_rng _ _) (by omega) (fun h6 => ?_) (fun h6 => ?_)
  · refine r_iconst rfl ?_
    refine r_zret rfl (by omega) ?_
    first | exact k1 (by assumption) | exact k2 (by assumption)
  · refine r_iconst rfl ?_
    refine r_goto rfl ?_
    refine r_zret rfl (by omega) ?_
    first | exact k1 (by assumption) | exact k2 (by assumption)

theorem c_isShow {d : Nat} {σ : ZS} {f : ZF} {g : ZG} {Q : ZQ} (hd : 1 ≤ d) (hs : Sh σ g) (h0 : f 229 0 = 0 ∨ f 229 0 = 1) (k1 : f 229 0 = 1 → Q (some (zi 1)) σ f g) (k2 : ¬ (f 229 0 = 1) → Q (some (zi 0)) σ f g) : ZCt d 179 [zr (some 219)] σ f g Q := by
  refine ZCt.of' (L0 := [_]) (by omega) rfl rfl rfl (fun d hd1 => ?_)
  refine r_aload_n rfl rfl ?_
  refine r_getR rfl (by first | assumption | exact hs.o rfl) (by first | assumption | exact hs.g rfl) ?_
  refine r_iconst rfl ?_
  refine r_iald rfl (by first | assumption | exact hs.a rfl) (by omega) (by omega) (zix (n := 0) rfl) ?_
  refine r_iconst rfl ?_
  refine r_icmp_ne rfl (by omega) (by omega) (fun h7 => ?_) (fun h7 => ?_)
  · refine r_iconst rfl ?_
    refine r_zret rfl (by omega) ?_
    first | exact k1 (by assumption) | exact k2 (by assumption)
  · refine r_iconst rfl ?_
    refine r_goto rfl ?_
    refine r_zret rfl (by omega) ?_
    first | exact k1 (by assumption) | exact k2 (by assumption)

theorem c_isCell {d : Nat} {σ : ZS} {f : ZF} {g : ZG} {Q : ZQ} (hd : 1 ≤ d) (hs : Sh σ g) {x : Int} (hx : -2147483648 ≤ x ∧ x ≤ 2147483647) (h1 : -2147483648 ≤ f 229 1 ∧ f 229 1 ≤ 2147483647) (k1 : 0 ≤ x ∧ x < f 229 1 → Q (some (zi 1)) σ f g) (k2 : ¬ (0 ≤ x ∧ x < f 229 1) → Q (some (zi 0)) σ f g) : ZCt d 184 [zr (some 219), zi x] σ f g Q := by
  refine ZCt.of' (L0 := [_, _]) (by omega) rfl rfl rfl (fun d hd1 => ?_)
  refine r_iload_n rfl rfl ?_
  refine r_if_lt rfl (by omega) (fun h1 => ?_) (fun h1 => ?_)
  · refine r_iconst rfl ?_
    refine r_zret rfl (by omega) ?_
    first | exact k | exact k1 (by omega) | exact k2 (by omega)
  · refine r_iload_n rfl rfl ?_
    refine r_aload_n rfl rfl ?_
    refine r_getR rfl (by first | assumption | exact hs.o rfl) (by first | assumption | exact hs.g rfl) ?_
    refine r_iconst rfl ?_
    refine r_iald rfl (by first | assumption | exact hs.a rfl) (by omega) (by omega) (zix (n := 1) rfl) ?_
    refine r_icmp_ge rfl (by omega) (by omega) (fun h11 => ?_) (fun h11 => ?_)
    · refine r_iconst rfl ?_
      refine r_zret rfl (by omega) ?_
      first | exact k | exact k1 (by omega) | exact k2 (by omega)
    · refine r_iconst rfl ?_
      refine r_goto rfl ?_
      refine r_zret rfl (by omega) ?_
      first | exact k | exact k1 (by omega) | exact k2 (by omega)

theorem c_isRoad {d : Nat} {σ : ZS} {f : ZF} {g : ZG} {Q : ZQ} (hd : 1 ≤ d) (hs : Sh σ g) {x : Int} (hx : -2147483648 ≤ x ∧ x ≤ 2147483647) (h1 : -2147483648 ≤ f 229 2 ∧ f 229 2 ≤ 2147483647) (k1 : 0 ≤ x ∧ x < f 229 2 → Q (some (zi 1)) σ f g) (k2 : ¬ (0 ≤ x ∧ x < f 229 2) → Q (some (zi 0)) σ f g) : ZCt d 182 [zr (some 219), zi x] σ f g Q := by
  refine ZCt.of' (L0 := [_, _]) (by omega) rfl rfl rfl (fun d hd1 => ?_)
  refine r_iload_n rfl rfl ?_
  refine r_if_lt rfl (by omega) (fun h1 => ?_) (fun h1 => ?_)
  · refine r_iconst rfl ?_
    refine r_zret rfl (by omega) ?_
    first | exact k | exact k1 (by omega) | exact k2 (by omega)
  · refine r_iload_n rfl rfl ?_
    refine r_aload_n rfl rfl ?_
    refine r_getR rfl (by first | assumption | exact hs.o rfl) (by first | assumption | exact hs.g rfl) ?_
    refine r_iconst rfl ?_
    refine r_iald rfl (by first | assumption | exact hs.a rfl) (by omega) (by omega) (zix (n := 2) rfl) ?_
    refine r_icmp_ge rfl (by omega) (by omega) (fun h11 => ?_) (fun h11 => ?_)
    · refine r_iconst rfl ?_
      refine r_zret rfl (by omega) ?_
      first | exact k | exact k1 (by omega) | exact k2 (by omega)
    · refine r_iconst rfl ?_
      refine r_goto rfl ?_
      refine r_zret rfl (by omega) ?_
      first | exact k | exact k1 (by omega) | exact k2 (by omega)

theorem c_isOn {d : Nat} {σ : ZS} {f : ZF} {g : ZG} {Q : ZQ} (hd : 1 ≤ d) (hs : Sh σ g) {k : Nat} (hk : k < 6) (h1 : f 229 (12 + 5 * k) = 0 ∨ f 229 (12 + 5 * k) = 1) (k1 : f 229 (12 + 5 * k) = 1 → Q (some (zi 1)) σ f g) (k2 : ¬ (f 229 (12 + 5 * k) = 1) → Q (some (zi 0)) σ f g) : ZCt d 180 [zr (some 219), zi (k : Int)] σ f g Q := by
  refine ZCt.of' (L0 := [_, _]) (by omega) rfl rfl rfl (fun d hd1 => ?_)
  refine r_aload_n rfl rfl ?_
  refine r_getR rfl (by first | assumption | exact hs.o rfl) (by first | assumption | exact hs.g rfl) ?_
  refine r_bipush rfl ?_
  refine r_iconst rfl ?_
  refine r_iload_n rfl rfl ?_
  refine r_imul rfl ?_
  refine r_iadd rfl ?_
  refine r_iald rfl (by first | assumption | exact hs.a rfl) (by omega) (by omega) (zix (n := 12 + 5 * k) (by omega)) ?_
  refine r_iconst rfl ?_
  refine r_icmp_ne rfl (by omega) (by omega) (fun h12 => ?_) (fun h12 => ?_)
  · refine r_iconst rfl ?_
    refine r_zret rfl (by omega) ?_
    first | exact k1 (by assumption) | exact k2 (by assumption)
  · refine r_iconst rfl ?_
    refine r_goto rfl ?_
    refine r_zret rfl (by omega) ?_
    first | exact k1 (by assumption) | exact k2 (by assumption)

theorem c_cellOf {d : Nat} {σ : ZS} {f : ZF} {g : ZG} {Q : ZQ} (hd : 1 ≤ d) (hs : Sh σ g) {k : Nat} (hk : k < 6) (K : Q (some (zi (f 229 (13 + 5 * k)))) σ f g) : ZCt d 191 [zr (some 219), zi (k : Int)] σ f g Q := by
  refine ZCt.of' (L0 := [_, _]) (by omega) rfl rfl rfl (fun d hd1 => ?_)
  refine r_aload_n rfl rfl ?_
  refine r_getR rfl (by first | assumption | exact hs.o rfl) (by first | assumption | exact hs.g rfl) ?_
  refine r_bipush rfl ?_
  refine r_iconst rfl ?_
  refine r_iload_n rfl rfl ?_
  refine r_imul rfl ?_
  refine r_iadd rfl ?_
  refine r_iconst rfl ?_
  refine r_iadd rfl ?_
  refine r_iald rfl (by first | assumption | exact hs.a rfl) (by omega) (by omega) (zix (n := 13 + 5 * k) (by omega)) ?_
  refine r_iret rfl ?_
  exact K

theorem c_roadOf {d : Nat} {σ : ZS} {f : ZF} {g : ZG} {Q : ZQ} (hd : 1 ≤ d) (hs : Sh σ g) {k : Nat} (hk : k < 6) (K : Q (some (zi (f 229 (14 + 5 * k)))) σ f g) : ZCt d 192 [zr (some 219), zi (k : Int)] σ f g Q := by
  refine ZCt.of' (L0 := [_, _]) (by omega) rfl rfl rfl (fun d hd1 => ?_)
  refine r_aload_n rfl rfl ?_
  refine r_getR rfl (by first | assumption | exact hs.o rfl) (by first | assumption | exact hs.g rfl) ?_
  refine r_bipush rfl ?_
  refine r_iconst rfl ?_
  refine r_iload_n rfl rfl ?_
  refine r_imul rfl ?_
  refine r_iadd rfl ?_
  refine r_iconst rfl ?_
  refine r_iadd rfl ?_
  refine r_iald rfl (by first | assumption | exact hs.a rfl) (by omega) (by omega) (zix (n := 14 + 5 * k) (by omega)) ?_
  refine r_iret rfl ?_
  exact K

theorem c_fuelOf {d : Nat} {σ : ZS} {f : ZF} {g : ZG} {Q : ZQ} (hd : 1 ≤ d) (hs : Sh σ g) {k : Nat} (hk : k < 6) (K : Q (some (zi (f 229 (15 + 5 * k)))) σ f g) : ZCt d 189 [zr (some 219), zi (k : Int)] σ f g Q := by
  refine ZCt.of' (L0 := [_, _]) (by omega) rfl rfl rfl (fun d hd1 => ?_)
  refine r_aload_n rfl rfl ?_
  refine r_getR rfl (by first | assumption | exact hs.o rfl) (by first | assumption | exact hs.g rfl) ?_
  refine r_bipush rfl ?_
  refine r_iconst rfl ?_
  refine r_iload_n rfl rfl ?_
  refine r_imul rfl ?_
  refine r_iadd rfl ?_
  refine r_iconst rfl ?_
  refine r_iadd rfl ?_
  refine r_iald rfl (by first | assumption | exact hs.a rfl) (by omega) (by omega) (zix (n := 15 + 5 * k) (by omega)) ?_
  refine r_iret rfl ?_
  exact K

