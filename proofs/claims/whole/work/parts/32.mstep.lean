/-! One step of a roundabout, in numbers; the reference's methods that make it -/
abbrev rNo (rd : Rd) (c : Int) : Prop := ∀ k, k < 6 → rd 0 k ≠ c
abbrev rFree (rd : Rd) (c : Int) : Prop := rd 6 c.toNat = 0 ∧ rNo rd c
def rOff (rd : Rd) (k : Nat) : Rd := up2 (up2 (up2 (up2 (up2 rd 0 k (-1)) 1 k (-1)) 2 k 0) 3 k 0) 5 1 (rd 5 1 + 1)
def rGo (rd : Rd) (k : Nat) (c : Int) : Rd := up2 (up2 rd 0 k c) 2 k (rd 2 k - 1)
def rAge (rd : Rd) (k : Nat) : Rd := up2 rd 3 k (rd 3 k + 1)
def rOn (rd : Rd) (k : Nat) (c r fu : Int) : Rd := up2 (up2 (up2 (up2 rd 0 k c) 1 k r) 2 k fu) 3 k 0
def rOns (rd : Rd) : Nat → Int
  | 0 => 0
  | k + 1 => rOns rd k + (if rd 0 k = -1 then 0 else 1)
/-- how many cells behind c the next car is, looked for from d on -/
def rBehF (n : Int) (rd : Rd) (c : Int) : Nat → Nat → Int
  | 0, _ => n
  | j + 1, d => if rNo rd ((c + n - (d : Int)) % n) then rBehF n rd c j (d + 1) else (d : Int)
def rBeh (n : Int) (rd : Rd) (c : Int) : Int := rBehF n rd c (n.toNat - 1) 1
def u1 (s : Nat → Int) (i : Nat) (v : Int) : Nat → Int := fun j => if j = i then v else s j
theorem up2_u1 (f : ZF) (c i : Nat) (v : Int) : up2 f c i v c = u1 (f c) i v := by
  funext j
  unfold up2 u1
  by_cases h : j = i
  · rw [if_pos ⟨rfl, h⟩, if_pos h]
  · rw [if_neg (fun q => h q.2), if_neg h]
theorem up2_o (f : ZF) {c i b : Nat} (v : Int) (h : b ≠ c) : up2 f c i v b = f b := up2_row f v h
theorem all_succ {P : Nat → Prop} {k : Nat} (h : ∀ j, j < k → P j) (hk : P k) : ∀ j, j < k + 1 → P j := by
  intro j hj
  by_cases e : j = k
  · subst e; exact hk
  · exact h j (by omega)
section MSTEP
variable {d : Nat} {σ : ZS} {f : ZF} {g : ZG} {Q : ZQ} {n m : Int} {rd : Rd}
/-- a car that is on, or isn't, with all that is known of it -/
theorem c_mOn (hd : 1 ≤ d) (hs : Sh σ g) (hm : MRd (f 229) rd) (ho : RdOk n m rd) {k : Nat} (hk : k < 6)
    (k1 : ((0 ≤ rd 0 k ∧ rd 0 k < n ∧ n ≤ 20 ∧ m ≤ 5) ∧ (0 ≤ rd 1 k ∧ rd 1 k < m) ∧ (0 ≤ rd 2 k ∧ rd 2 k ≤ 99) ∧ (0 ≤ rd 3 k ∧ rd 3 k ≤ 100000) ∧ f 229 (12 + 5 * k) = 1 ∧ f 229 (13 + 5 * k) = rd 0 k ∧ f 229 (14 + 5 * k) = rd 1 k ∧ f 229 (15 + 5 * k) = rd 2 k ∧ f 229 (16 + 5 * k) = rd 3 k) → Q (some (zi 1)) σ f g)
    (k2 : rd 0 k = -1 → Q (some (zi 0)) σ f g) : ZCt d 180 [zr (some 219), zi (k : Int)] σ f g Q := by
  have h1 := hm.2.2.1 k hk
  have h2 := ho.2.2.1 k hk
  have h3 := ho.1
  have h4 := ho.2.1
  unfold MC at h1
  exact c_isOn hd hs hk (by omega) (fun h => k1 (by omega)) (fun h => k2 (by omega))
theorem l_carIn (hd1 : 1 ≤ d) (hs : Sh σ g) (hm : MRd (f 229) rd) (ho : RdOk n m rd) {c : Int} (hc : 0 ≤ c ∧ c ≤ 100) (k1 : ∀ k : Nat, k < 6 → rd 0 k = c → Q (some (zi (k : Int))) σ f g) (k2 : rNo rd c → Q (some (zi (-1))) σ f g) (k : Nat) (hk : k ≤ 6) (hno : ∀ j, j < k → rd 0 j ≠ c) : ZWp d zt196 2 [zr (some 219), zi c, zi (k : Int)] [] σ f g Q := by
  refine r_iload_n rfl rfl ?_
  refine r_bipush rfl ?_
  refine r_icmp_ge rfl (by omega) (by omega) (fun hlt => ?_) (fun hlt => ?_)
  · refine r_iconst rfl ?_
    refine r_iret rfl ?_
    first | exact k1 k (by omega) (by omega) | exact k2 (fun j hj => hno j (by omega))
  · refine r_aload_n rfl rfl ?_
    refine r_iload_n rfl rfl ?_
    refine r_callV1 rfl rfl (by first | assumption | exact hs.o rfl) rfl (c_mOn (by omega) hs hm ho (by omega) (fun hon => ?_) (fun hon => ?_))
    · refine r_if_n rfl (by decide) ?_
      refine r_aload_n rfl rfl ?_
      refine r_iload_n rfl rfl ?_
      refine r_callV1 rfl rfl (by first | assumption | exact hs.o rfl) rfl (c_cellOf (by omega) hs (by omega) ?_)
      refine r_iload_n rfl rfl ?_
      refine r_icmp_ne rfl (by omega) (by omega) (fun h22 => ?_) (fun h22 => ?_)
      · refine r_iinc (L' := [_, _, _]) rfl rfl rfl ?_
        refine r_goto rfl ?_
        exact l_carIn hd1 hs hm ho hc k1 k2 (k + 1) (by omega) (all_succ hno (by omega))
      · refine r_iload_n rfl rfl ?_
        refine r_iret rfl ?_
        first | exact k1 k (by omega) (by omega) | exact k2 (fun j hj => hno j (by omega))
    · refine r_if_y rfl (by decide) ?_
      refine r_iinc (L' := [_, _, _]) rfl rfl rfl ?_
      refine r_goto rfl ?_
      exact l_carIn hd1 hs hm ho hc k1 k2 (k + 1) (by omega) (all_succ hno (by omega))
termination_by 6 - k
theorem c_carIn (hd : 2 ≤ d) (hs : Sh σ g) (hm : MRd (f 229) rd) (ho : RdOk n m rd) {c : Int} (hc : 0 ≤ c ∧ c ≤ 100) (k1 : ∀ k : Nat, k < 6 → rd 0 k = c → Q (some (zi (k : Int))) σ f g) (k2 : rNo rd c → Q (some (zi (-1))) σ f g) : ZCt d 196 [zr (some 219), zi c] σ f g Q := by
  refine ZCt.of' (L0 := [_, _, _]) (by omega) rfl rfl rfl (fun d hd1 => ?_)
  refine r_iconst rfl ?_
  refine r_istore_n (L' := [_, _, _]) rfl rfl rfl ?_
  exact l_carIn (by omega) hs hm ho hc k1 k2 0 (by omega) (fun j hj => by omega)
theorem c_isFree (hd : 3 ≤ d) (hs : Sh σ g) (hm : MRd (f 229) rd) (ho : RdOk n m rd) {c : Int} (hc : 0 ≤ c ∧ c < 20) (k1 : rFree rd c → Q (some (zi 1)) σ f g) (k2 : ¬ rFree rd c → Q (some (zi 0)) σ f g) : ZCt d 204 [zr (some 219), zi c] σ f g Q := by
  refine ZCt.of' (L0 := [_, _]) (by omega) rfl rfl rfl (fun d hd1 => ?_)
  have hg1 := hm.2.2.2.2 c.toNat (by omega)
  have hg2 := ho.2.2.2.2.1 c.toNat (by omega)
  refine r_aload_n rfl rfl ?_
  refine r_getR rfl (by first | assumption | exact hs.o rfl) (by first | assumption | exact hs.g rfl) ?_
  refine r_bipush rfl ?_
  refine r_iload_n rfl rfl ?_
  refine r_iadd rfl ?_
  refine r_iald rfl (by first | assumption | exact hs.a rfl) (by omega) (by omega) (zix (n := 47 + c.toNat) (by omega)) ?_
  refine r_if_ne rfl (by omega) (fun hgap => ?_) (fun hgap => ?_)
  · refine r_iconst rfl ?_
    refine r_zret rfl (by omega) ?_
    first | exact k1 ⟨by omega, hno⟩ | exact k2 (fun q => by have := q.1; omega) | exact k2 (fun q => q.2 k hk hck) | (exfalso; omega)
  · refine r_aload_n rfl rfl ?_
    refine r_iload_n rfl rfl ?_
    refine r_callV1 rfl rfl (by first | assumption | exact hs.o rfl) rfl (c_carIn (by omega) hs hm ho (by omega) (fun k hk hck => ?_) (fun hno => ?_))
    · refine r_if_ge rfl (by omega) (fun h17 => ?_) (fun h17 => ?_)
      · refine r_iconst rfl ?_
        refine r_zret rfl (by omega) ?_
        first | exact k1 ⟨by omega, hno⟩ | exact k2 (fun q => by have := q.1; omega) | exact k2 (fun q => q.2 k hk hck) | (exfalso; omega)
      · refine r_iconst rfl ?_
        refine r_goto rfl ?_
        refine r_zret rfl (by omega) ?_
        first | exact k1 ⟨by omega, hno⟩ | exact k2 (fun q => by have := q.1; omega) | exact k2 (fun q => q.2 k hk hck) | (exfalso; omega)
    · refine r_if_n rfl (by decide) ?_
      refine r_iconst rfl ?_
      refine r_goto rfl ?_
      refine r_zret rfl (by omega) ?_
      first | exact k1 ⟨by omega, hno⟩ | exact k2 (fun q => by have := q.1; omega) | exact k2 (fun q => q.2 k hk hck) | (exfalso; omega)
end MSTEP
