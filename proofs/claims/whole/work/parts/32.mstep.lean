/-! One step of a roundabout, in numbers; the reference's methods that make it -/
abbrev rNo (rd : Rd) (c : Int) : Prop := ∀ k, k < 6 → rd 0 k ≠ c
abbrev rFree (rd : Rd) (c : Int) : Prop := rd 6 c.toNat = 0 ∧ rNo rd c
def rOff (rd : Rd) (k : Nat) : Rd := up2 (up2 (up2 (up2 (up2 rd 0 k (-1)) 1 k (-1)) 2 k 0) 3 k 0) 5 1 (rd 5 1 + 1)
def rGo (rd : Rd) (k : Nat) (c : Int) : Rd := up2 (up2 rd 0 k c) 2 k (rd 2 k - 1)
def rAge (rd : Rd) (k : Nat) : Rd := up2 rd 3 k (rd 3 k + 1)
def rOn (rd : Rd) (k : Nat) (c r fu : Int) : Rd := up2 (up2 (up2 (up2 rd 0 k c) 1 k r) 2 k fu) 3 k 0
def rOns (rd : Rd) : Nat → Int
  | 0 => 0
  | k + 1 => rOns rd k + (if rd 0 k = -1 then 0 else 1)
/-- how many cells behind c the next car is, looked for from d on -/
def rBehF (n : Int) (rd : Rd) (c : Int) : Nat → Nat → Int
  | 0, _ => n
  | j + 1, d => if rNo rd ((c + n - (d : Int)) % n) then rBehF n rd c j (d + 1) else (d : Int)
def rBeh (n : Int) (rd : Rd) (c : Int) : Int := rBehF n rd c (n.toNat - 1) 1
def u1 (s : Nat → Int) (i : Nat) (v : Int) : Nat → Int := fun j => if j = i then v else s j
theorem up2_u1 (f : ZF) (c i : Nat) (v : Int) : up2 f c i v c = u1 (f c) i v := by
  funext j
  unfold up2 u1
  by_cases h : j = i
  · rw [if_pos ⟨rfl, h⟩, if_pos h]
  · rw [if_neg (fun q => h q.2), if_neg h]
theorem up2_o (f : ZF) {c i b : Nat} (v : Int) (h : b ≠ c) : up2 f c i v b = f b := up2_row f v h
theorem all_succ {P : Nat → Prop} {k : Nat} (h : ∀ j, j < k → P j) (hk : P k) : ∀ j, j < k + 1 → P j := by
  intro j hj
  by_cases e : j = k
  · subst e; exact hk
  · exact h j (by omega)
section MSTEP
variable {d : Nat} {σ : ZS} {f : ZF} {g : ZG} {Q : ZQ} {n m N : Int} {rd : Rd}
/-- a car that is on, or isn't, with all that is known of it -/
theorem c_mOn (hd : 1 ≤ d) (hs : Sh σ g) (hm : MRd (f 229) rd) (ho : RdOk n m N rd) {k : Nat} (hk : k < 6)
    (k1 : ((0 ≤ rd 0 k ∧ rd 0 k < n ∧ n ≤ 20 ∧ m ≤ 5) ∧ (0 ≤ rd 1 k ∧ rd 1 k < m) ∧ (0 ≤ rd 2 k ∧ rd 2 k ≤ 99) ∧ (0 ≤ rd 3 k ∧ rd 3 k ≤ N ∧ N ≤ 1000000) ∧ f 229 (12 + 5 * k) = 1 ∧ f 229 (13 + 5 * k) = rd 0 k ∧ f 229 (14 + 5 * k) = rd 1 k ∧ f 229 (15 + 5 * k) = rd 2 k ∧ f 229 (16 + 5 * k) = rd 3 k) → Q (some (zi 1)) σ f g)
    (k2 : rd 0 k = -1 → Q (some (zi 0)) σ f g) : ZCt d 180 [zr (some 219), zi (k : Int)] σ f g Q := by
  have h1 := hm.2.2.1 k hk
  have h2 := ho.2.2.1 k hk
  have h3 := ho.1
  have h4 := ho.2.1
  have h5 := ho.2.2.2.2.2.2.2
  unfold MC at h1
  exact c_isOn hd hs hk (by omega) (fun h => k1 (by omega)) (fun h => k2 (by omega))
theorem l_carIn (hd1 : 1 ≤ d) (hs : Sh σ g) (hm : MRd (f 229) rd) (ho : RdOk n m N rd) {c : Int} (hc : 0 ≤ c ∧ c ≤ 100) (k1 : ∀ k : Nat, k < 6 → rd 0 k = c → Q (some (zi (k : Int))) σ f g) (k2 : rNo rd c → Q (some (zi (-1))) σ f g) (k : Nat) (hk : k ≤ 6) (hno : ∀ j, j < k → rd 0 j ≠ c) : ZWp d zt196 2 [zr (some 219), zi c, zi (k : Int)] [] σ f g Q := by
  refine r_iload_n rfl rfl ?_
  refine r_bipush rfl ?_
  refine r_icmp_ge rfl (by omega) (by omega) (fun hlt => ?_) (fun hlt => ?_)
  · refine r_iconst rfl ?_
    refine r_iret rfl ?_
    first | exact k1 k (by omega) (by omega) | exact k2 (fun j hj => hno j (by omega))
  · refine r_aload_n rfl rfl ?_
    refine r_iload_n rfl rfl ?_
    refine r_callV1 rfl rfl (by first | assumption | exact hs.o rfl) rfl (c_mOn (by omega) hs hm ho (by omega) (fun hon => ?_) (fun hon => ?_))
    · refine r_if_n rfl (by decide) ?_
      refine r_aload_n rfl rfl ?_
      refine r_iload_n rfl rfl ?_
      refine r_callV1 rfl rfl (by first | assumption | exact hs.o rfl) rfl (c_cellOf (by omega) hs (by omega) ?_)
      refine r_iload_n rfl rfl ?_
      refine r_icmp_ne rfl (by omega) (by omega) (fun h22 => ?_) (fun h22 => ?_)
      · refine r_iinc (L' := [_, _, _]) rfl rfl rfl ?_
        refine r_goto rfl ?_
        exact l_carIn hd1 hs hm ho hc k1 k2 (k + 1) (by omega) (all_succ hno (by omega))
      · refine r_iload_n rfl rfl ?_
        refine r_iret rfl ?_
        first | exact k1 k (by omega) (by omega) | exact k2 (fun j hj => hno j (by omega))
    · refine r_if_y rfl (by decide) ?_
      refine r_iinc (L' := [_, _, _]) rfl rfl rfl ?_
      refine r_goto rfl ?_
      exact l_carIn hd1 hs hm ho hc k1 k2 (k + 1) (by omega) (all_succ hno (by omega))
termination_by 6 - k
theorem c_carIn (hd : 2 ≤ d) (hs : Sh σ g) (hm : MRd (f 229) rd) (ho : RdOk n m N rd) {c : Int} (hc : 0 ≤ c ∧ c ≤ 100) (k1 : ∀ k : Nat, k < 6 → rd 0 k = c → Q (some (zi (k : Int))) σ f g) (k2 : rNo rd c → Q (some (zi (-1))) σ f g) : ZCt d 196 [zr (some 219), zi c] σ f g Q := by
  refine ZCt.of' (L0 := [_, _, _]) (by omega) rfl rfl rfl (fun d hd1 => ?_)
  refine r_iconst rfl ?_
  refine r_istore_n (L' := [_, _, _]) rfl rfl rfl ?_
  exact l_carIn (by omega) hs hm ho hc k1 k2 0 (by omega) (fun j hj => by omega)
theorem c_isFree (hd : 3 ≤ d) (hs : Sh σ g) (hm : MRd (f 229) rd) (ho : RdOk n m N rd) {c : Int} (hc : 0 ≤ c ∧ c < 20) (k1 : rFree rd c → Q (some (zi 1)) σ f g) (k2 : ¬ rFree rd c → Q (some (zi 0)) σ f g) : ZCt d 204 [zr (some 219), zi c] σ f g Q := by
  refine ZCt.of' (L0 := [_, _]) (by omega) rfl rfl rfl (fun d hd1 => ?_)
  have hg1 := hm.2.2.2.2 c.toNat (by omega)
  have hg2 := ho.2.2.2.2.1 c.toNat (by omega)
  refine r_aload_n rfl rfl ?_
  refine r_getR rfl (by first | assumption | exact hs.o rfl) (by first | assumption | exact hs.g rfl) ?_
  refine r_bipush rfl ?_
  refine r_iload_n rfl rfl ?_
  refine r_iadd rfl ?_
  refine r_iald rfl (by first | assumption | exact hs.a rfl) (by omega) (by omega) (zix (n := 47 + c.toNat) (by omega)) ?_
  refine r_if_ne rfl (by omega) (fun hgap => ?_) (fun hgap => ?_)
  · refine r_iconst rfl ?_
    refine r_zret rfl (by omega) ?_
    first | exact k1 ⟨by omega, hno⟩ | exact k2 (fun q => by have := q.1; omega) | exact k2 (fun q => q.2 k hk hck) | (exfalso; omega)
  · refine r_aload_n rfl rfl ?_
    refine r_iload_n rfl rfl ?_
    refine r_callV1 rfl rfl (by first | assumption | exact hs.o rfl) rfl (c_carIn (by omega) hs hm ho (by omega) (fun k hk hck => ?_) (fun hno => ?_))
    · refine r_if_ge rfl (by omega) (fun h17 => ?_) (fun h17 => ?_)
      · refine r_iconst rfl ?_
        refine r_zret rfl (by omega) ?_
        first | exact k1 ⟨by omega, hno⟩ | exact k2 (fun q => by have := q.1; omega) | exact k2 (fun q => q.2 k hk hck) | (exfalso; omega)
      · refine r_iconst rfl ?_
        refine r_goto rfl ?_
        refine r_zret rfl (by omega) ?_
        first | exact k1 ⟨by omega, hno⟩ | exact k2 (fun q => by have := q.1; omega) | exact k2 (fun q => q.2 k hk hck) | (exfalso; omega)
    · refine r_if_n rfl (by decide) ?_
      refine r_iconst rfl ?_
      refine r_goto rfl ?_
      refine r_zret rfl (by omega) ?_
      first | exact k1 ⟨by omega, hno⟩ | exact k2 (fun q => by have := q.1; omega) | exact k2 (fun q => q.2 k hk hck) | (exfalso; omega)
/-- what steps of the reference may change: the row 'said' where the state is, the stack, the words, top and isMoved -/
def FrM (f f' : ZF) : Prop := (∀ c, c ≠ 219 → c ≠ 227 → c ≠ 228 → c ≠ 229 → f' c = f c) ∧ (∀ i, i ≠ 18 → i ≠ 25 → f' 219 i = f 219 i) ∧ ∀ i, (i < 10 ∨ 67 ≤ i) → f' 229 i = f 229 i
theorem FrM.rf (f : ZF) : FrM f f := ⟨fun _ _ _ _ _ => rfl, fun _ _ _ => rfl, fun _ _ => rfl⟩
theorem FrM.trans {a b c : ZF} (h1 : FrM a b) (h2 : FrM b c) : FrM a c :=
  ⟨fun k q1 q2 q3 q4 => (h2.1 k q1 q2 q3 q4).trans (h1.1 k q1 q2 q3 q4), fun i q1 q2 => (h2.2.1 i q1 q2).trans (h1.2.1 i q1 q2), fun i q => (h2.2.2 i q).trans (h1.2.2 i q)⟩
theorem FrM.said {f f0 : ZF} {i : Nat} {v : Int} (h : FrM f0 f) (hi : 10 ≤ i ∧ i < 67) : FrM f0 (up2 f 229 i v) := by
  refine h.trans ⟨fun c _ _ _ q => up2_o f v q, fun j _ _ => by rw [up2_o f v (by omega)], fun j q => ?_⟩
  exact up2_ne f v (fun z => by omega)
theorem FrM.moved {f f0 : ZF} {v : Int} (h : FrM f0 f) : FrM f0 (up2 f 219 25 v) := by
  refine h.trans ⟨fun c q _ _ _ => up2_o f v q, fun j _ q => up2_ne f v (fun z => q z.2), fun j q => ?_⟩
  exact up2_ne f v (fun z => by omega)
theorem RdOk.mono {N' : Int} (h : RdOk n m N rd) (h1 : N ≤ N') (h2 : N' ≤ 1000000) : RdOk n m N' rd := by
  obtain ⟨a1, a2, a3, a4, a5, a6, a7, a8⟩ := h
  refine ⟨a1, a2, fun k hk => ?_, a4, a5, by omega, by omega, h2⟩
  have := a3 k hk
  omega
theorem RdOk.off (h : RdOk n m N rd) (hN : N + 1 ≤ 1000000) {k : Nat} (hk : k < 6) : RdOk n m (N + 1) (rOff rd k) := by
  obtain ⟨a1, a2, a3, a4, a5, a6, a7, a8⟩ := h
  refine ⟨a1, a2, fun j hj => ?_, fun j hj => ?_, fun j hj => ?_, ?_, ?_, hN⟩
  · have := a3 j hj
    simp only [rOff, up2]
    by_cases e : j = k
    · simp [e]
    · simp only [e, and_false, if_false, Nat.reduceEqDiff, false_and]
      omega
  · have := a4 j hj
    simpa [rOff, up2] using this
  · have := a5 j hj
    simpa [rOff, up2] using this
  · simp [rOff, up2]; omega
  · simp [rOff, up2]; omega
theorem RdOk.go (h : RdOk n m N rd) {k : Nat} (hk : k < 6) {c : Int} (hc : 0 ≤ c ∧ c < n) (h0 : rd 0 k ≠ -1) (h2 : 0 < rd 2 k) : RdOk n m N (rGo rd k c) := by
  obtain ⟨a1, a2, a3, a4, a5, a6, a7, a8⟩ := h
  refine ⟨a1, a2, fun j hj => ?_, fun j hj => ?_, fun j hj => ?_, ?_, ?_, a8⟩
  · have := a3 j hj
    simp only [rGo, up2]
    by_cases e : j = k
    · subst e
      simp
      omega
    · simp only [e, and_false, if_false, Nat.reduceEqDiff, false_and]
      omega
  · have := a4 j hj
    simpa [rGo, up2] using this
  · have := a5 j hj
    simpa [rGo, up2] using this
  · simp [rGo, up2]; omega
  · simp [rGo, up2]; omega
theorem RdOk.age (h : RdOk n m N rd) (hN : N + 1 ≤ 1000000) {k : Nat} (hk : k < 6) (h0 : rd 0 k ≠ -1) : RdOk n m (N + 1) (rAge rd k) := by
  obtain ⟨a1, a2, a3, a4, a5, a6, a7, a8⟩ := h
  refine ⟨a1, a2, fun j hj => ?_, fun j hj => ?_, fun j hj => ?_, ?_, ?_, hN⟩
  · have := a3 j hj
    simp only [rAge, up2]
    by_cases e : j = k
    · subst e
      simp
      omega
    · simp only [e, and_false, if_false, Nat.reduceEqDiff, false_and]
      omega
  · have := a4 j hj
    simpa [rAge, up2] using this
  · have := a5 j hj
    simpa [rAge, up2] using this
  · simp [rAge, up2]; omega
  · simp [rAge, up2]; omega
theorem RdOk.on (h : RdOk n m N rd) {k : Nat} (hk : k < 6) {c r fu : Int} (hc : 0 ≤ c ∧ c < n) (hr : 0 ≤ r ∧ r < m) (hf : 0 ≤ fu ∧ fu ≤ 99) : RdOk n m N (rOn rd k c r fu) := by
  obtain ⟨a1, a2, a3, a4, a5, a6, a7, a8⟩ := h
  refine ⟨a1, a2, fun j hj => ?_, fun j hj => ?_, fun j hj => ?_, ?_, ?_, a8⟩
  · have := a3 j hj
    simp only [rOn, up2]
    by_cases e : j = k
    · subst e
      simp
      omega
    · simp only [e, and_false, if_false, Nat.reduceEqDiff, false_and]
      omega
  · have := a4 j hj
    simpa [rOn, up2] using this
  · have := a5 j hj
    simpa [rOn, up2] using this
  · simp [rOn, up2]; omega
  · simp [rOn, up2]; omega
theorem RdOk.w (h : RdOk n m N rd) {j : Nat} (hj : j < 5) {x : Int} (hx : 0 ≤ x ∧ x ≤ 99) : RdOk n m N (up2 rd 4 j x) := by
  obtain ⟨a1, a2, a3, a4, a5, a6, a7, a8⟩ := h
  refine ⟨a1, a2, fun i hi => ?_, fun i hi => ?_, fun i hi => ?_, ?_, ?_, a8⟩
  · have := a3 i hi
    simpa [up2] using this
  · have := a4 i hi
    simp only [up2]
    by_cases e : i = j
    · simp [e]; omega
    · simp [e]; omega
  · have := a5 i hi
    simpa [up2] using this
  · simp [up2]; omega
  · simp [up2]; omega
theorem RdOk.t (h : RdOk n m N rd) (hN : N + 1 ≤ 1000000) : RdOk n m (N + 1) (up2 rd 5 0 (rd 5 0 + 1)) := by
  obtain ⟨a1, a2, a3, a4, a5, a6, a7, a8⟩ := h
  refine ⟨a1, a2, fun i hi => ?_, fun i hi => ?_, fun i hi => ?_, ?_, ?_, hN⟩
  · have := a3 i hi
    simp [up2]
    omega
  · have := a4 i hi
    simpa [up2] using this
  · have := a5 i hi
    simpa [up2] using this
  · simp [up2]; omega
  · simp [up2]; omega
theorem MRd.of {s : Nat → Int} {rd : Rd} (h0 : s 10 = rd 5 0) (h1 : s 11 = rd 5 1) (h2 : ∀ k, k < 6 → MC s rd k) (h3 : ∀ j, j < 5 → s (42 + j) = rd 4 j) (h4 : ∀ c, c < 20 → s (47 + c) = rd 6 c) : MRd s rd := ⟨h0, h1, h2, h3, h4⟩
theorem MC.same {s s' : Nat → Int} {rd rd' : Rd} {k : Nat} (h : MC s rd k) (hs : ∀ i, i < 5 → s' (12 + 5 * k + i) = s (12 + 5 * k + i)) (hr : ∀ i, i < 4 → rd' i k = rd i k) : MC s' rd' k := by
  have e0 := hs 0 (by omega)
  have e1 := hs 1 (by omega)
  have e2 := hs 2 (by omega)
  have e3 := hs 3 (by omega)
  have e4 := hs 4 (by omega)
  have f0 := hr 0 (by omega)
  have f1 := hr 1 (by omega)
  have f2 := hr 2 (by omega)
  have f3 := hr 3 (by omega)
  rw [show 12 + 5 * k + 0 = 12 + 5 * k by omega] at e0
  rw [show 12 + 5 * k + 1 = 13 + 5 * k by omega] at e1
  rw [show 12 + 5 * k + 2 = 14 + 5 * k by omega] at e2
  rw [show 12 + 5 * k + 3 = 15 + 5 * k by omega] at e3
  rw [show 12 + 5 * k + 4 = 16 + 5 * k by omega] at e4
  unfold MC at h ⊢
  rw [e0, e1, e2, e3, e4, f0, f1, f2, f3]
  exact h
def fSt (f : ZF) (k : Nat) (o c r u : Int) : ZF := up2 (up2 (up2 (up2 (up2 f 229 (12 + 5 * k) o) 229 (13 + 5 * k) c) 229 (14 + 5 * k) r) 229 (15 + 5 * k) u) 229 (16 + 5 * k) 0
theorem c_stands (hd : 1 ≤ d) (hs : Sh σ g) {k : Nat} (hk : k < 6) {o c r u : Int} (K : Q none σ (fSt f k o c r u) g) : ZCt d 174 [zr (some 219), zi (k : Int), zi o, zi c, zi r, zi u] σ f g Q := by
  refine ZCt.of' (L0 := [_, _, _, _, _, _, _]) (by omega) rfl rfl rfl (fun d hd1 => ?_)
  refine r_bipush rfl ?_
  refine r_iconst rfl ?_
  refine r_iload_n rfl rfl ?_
  refine r_imul rfl ?_
  refine r_iadd rfl ?_
  refine r_istore (L' := [_, _, _, _, _, _, _]) rfl rfl rfl ?_
  refine r_aload_n rfl rfl ?_
  refine r_getR rfl (by first | assumption | exact hs.o rfl) (by first | assumption | exact hs.g rfl) ?_
  refine r_iload rfl rfl ?_
  refine r_iload_n rfl rfl ?_
  refine r_iastN (12 + 5 * k) rfl (by first | assumption | exact hs.a rfl) (by omega) (by omega) (by omega) ?_
  refine r_aload_n rfl rfl ?_
  refine r_getR rfl (by first | assumption | exact hs.o rfl) (by first | assumption | exact hs.g rfl) ?_
  refine r_iload rfl rfl ?_
  refine r_iconst rfl ?_
  refine r_iadd rfl ?_
  refine r_iload_n rfl rfl ?_
  refine r_iastN (13 + 5 * k) rfl (by first | assumption | exact hs.a rfl) (by omega) (by omega) (by omega) ?_
  refine r_aload_n rfl rfl ?_
  refine r_getR rfl (by first | assumption | exact hs.o rfl) (by first | assumption | exact hs.g rfl) ?_
  refine r_iload rfl rfl ?_
  refine r_iconst rfl ?_
  refine r_iadd rfl ?_
  refine r_iload rfl rfl ?_
  refine r_iastN (14 + 5 * k) rfl (by first | assumption | exact hs.a rfl) (by omega) (by omega) (by omega) ?_
  refine r_aload_n rfl rfl ?_
  refine r_getR rfl (by first | assumption | exact hs.o rfl) (by first | assumption | exact hs.g rfl) ?_
  refine r_iload rfl rfl ?_
  refine r_iconst rfl ?_
  refine r_iadd rfl ?_
  refine r_iload rfl rfl ?_
  refine r_iastN (15 + 5 * k) rfl (by first | assumption | exact hs.a rfl) (by omega) (by omega) (by omega) ?_
  refine r_aload_n rfl rfl ?_
  refine r_getR rfl (by first | assumption | exact hs.o rfl) (by first | assumption | exact hs.g rfl) ?_
  refine r_iload rfl rfl ?_
  refine r_iconst rfl ?_
  refine r_iadd rfl ?_
  refine r_iconst rfl ?_
  refine r_iastN (16 + 5 * k) rfl (by first | assumption | exact hs.a rfl) (by omega) (by omega) (by omega) ?_
  refine r_ret rfl ?_
  exact K
theorem fSt_fr {f0 : ZF} {k : Nat} (hk : k < 6) {o c r u : Int} (h : FrM f0 f) : FrM f0 (fSt f k o c r u) := ((((h.said (by omega)).said (by omega)).said (by omega)).said (by omega)).said (by omega)
theorem fSt_at (f : ZF) {k : Nat} (o c r u : Int) (i : Nat) : fSt f k o c r u 229 i = if i = 16 + 5 * k then 0 else if i = 15 + 5 * k then u else if i = 14 + 5 * k then r else if i = 13 + 5 * k then c else if i = 12 + 5 * k then o else f 229 i := by
  simp [fSt, up2]
theorem mrd_off (hm : MRd (f 229) rd) {k : Nat} (hk : k < 6) : MRd ((up2 (fSt f k 0 0 0 0) 229 11 (f 229 11 + 1)) 229) (rOff rd k) := by
  have hat : ∀ i, (up2 (fSt f k 0 0 0 0) 229 11 (f 229 11 + 1)) 229 i = if i = 11 then f 229 11 + 1 else if 12 + 5 * k ≤ i ∧ i ≤ 16 + 5 * k then 0 else f 229 i := by
    intro i
    rw [up2_u1]
    unfold u1
    by_cases e : i = 11
    · rw [if_pos e, if_pos e]
    · rw [if_neg e, if_neg e, fSt_at]
      by_cases e2 : 12 + 5 * k ≤ i ∧ i ≤ 16 + 5 * k
      · rw [if_pos e2]
        repeat' split
        all_goals first | rfl | omega
      · rw [if_neg e2]
        rw [if_neg (by omega), if_neg (by omega), if_neg (by omega), if_neg (by omega), if_neg (by omega)]
  obtain ⟨h0, h1, h2, h3, h4⟩ := hm
  refine MRd.of ?_ ?_ (fun j hj => ?_) (fun j hj => ?_) (fun j hj => ?_)
  · rw [hat, if_neg (by omega), if_neg (by omega), h0]; simp [rOff, up2]
  · rw [hat, if_pos rfl, h1]; simp [rOff, up2]
  · by_cases e : j = k
    · subst e
      refine Or.inl ⟨by simp [rOff, up2], by simp [rOff, up2], by simp [rOff, up2], by simp [rOff, up2], ?_, ?_, ?_, ?_, ?_⟩ <;> rw [hat, if_neg (by omega), if_pos (by omega)]
    · refine (h2 j hj).same (fun i hi => ?_) (fun i hi => ?_)
      · rw [hat, if_neg (by omega), if_neg (by omega)]
      · simp [rOff, up2, e, show ¬ i = 5 by omega]
  · rw [hat, if_neg (by omega), if_neg (by omega), h3 j hj]; simp [rOff, up2]
  · rw [hat, if_neg (by omega), if_neg (by omega), h4 j hj]; simp [rOff, up2]
theorem c_leaves (hd : 2 ≤ d) (hs : Sh σ g) (hm : MRd (f 229) rd) {k : Nat} (hk : k < 6) (K : ∀ f', FrM f f' → MRd (f' 229) (rOff rd k) → Q none σ f' g) : ZCt d 203 [zr (some 219), zi (k : Int)] σ f g Q := by
  refine ZCt.of' (L0 := [_, _]) (by omega) rfl rfl rfl (fun d hd1 => ?_)
  refine r_aload_n rfl rfl ?_
  refine r_iload_n rfl rfl ?_
  refine r_iconst rfl ?_
  refine r_iconst rfl ?_
  refine r_iconst rfl ?_
  refine r_iconst rfl ?_
  refine r_callV5 rfl rfl (by first | assumption | exact hs.o rfl) rfl (c_stands (by omega) hs (by omega) ?_)
  refine r_aload_n rfl rfl ?_
  refine r_getR rfl (by first | assumption | exact hs.o rfl) (by first | assumption | exact hs.g rfl) ?_
  refine r_bipush rfl ?_
  refine r_dup2 rfl ?_
  refine r_iald rfl (by first | assumption | exact hs.a rfl) (by omega) (by omega) (zix (n := 11) rfl) ?_
  refine r_iconst rfl ?_
  refine r_iadd rfl ?_
  refine r_iastN (11) rfl (by first | assumption | exact hs.a rfl) (by omega) (by omega) (by omega) ?_
  refine r_ret rfl ?_
  refine K _ ((fSt_fr hk (FrM.rf f)).said (by omega)) ?_
  have e : fSt f k 0 0 0 0 229 11 = f 229 11 := by rw [fSt_at, if_neg (by omega), if_neg (by omega), if_neg (by omega), if_neg (by omega), if_neg (by omega)]
  rw [e]
  exact mrd_off hm hk
theorem mrd_w (hm : MRd (f 229) rd) {j : Nat} (hj : j < 5) {x : Int} : MRd ((up2 f 229 (42 + j) x) 229) (up2 rd 4 j x) := by
  rw [up2_u1]
  obtain ⟨h0, h1, h2, h3, h4⟩ := hm
  refine MRd.of ?_ ?_ (fun i hi => ?_) (fun i hi => ?_) (fun i hi => ?_)
  · simp only [u1]; rw [if_neg (by omega), h0]; simp [up2]
  · simp only [u1]; rw [if_neg (by omega), h1]; simp [up2]
  · refine (h2 i hi).same (fun a ha => ?_) (fun a ha => ?_)
    · simp only [u1]; rw [if_neg (by omega)]
    · simp [up2, show ¬ a = 4 by omega]
  · simp only [u1]
    by_cases e : i = j
    · rw [if_pos (by omega)]; simp [up2, e]
    · rw [if_neg (by omega), h3 i hi]; simp [up2, e]
  · simp only [u1]; rw [if_neg (by omega), h4 i hi]; simp [up2]
theorem c_waits (hd : 1 ≤ d) (hs : Sh σ g) (hm : MRd (f 229) rd) (ho : RdOk n m N rd) {j : Nat} (hj : j < 5) (k1 : rd 4 j < 99 → ∀ f', FrM f f' → MRd (f' 229) (up2 rd 4 j (rd 4 j + 1)) → f' 219 25 = f 219 25 → Q none σ f' g) (k2 : ¬ rd 4 j < 99 → Q none σ f g) : ZCt d 205 [zr (some 219), zi (j : Int)] σ f g Q := by
  refine ZCt.of' (L0 := [_, _]) (by omega) rfl rfl rfl (fun d hd1 => ?_)
  have hw4 := hm.2.2.2.1 j hj
  have hw5 := ho.2.2.2.1 j hj
  refine r_aload_n rfl rfl ?_
  refine r_getR rfl (by first | assumption | exact hs.o rfl) (by first | assumption | exact hs.g rfl) ?_
  refine r_bipush rfl ?_
  refine r_iload_n rfl rfl ?_
  refine r_iadd rfl ?_
  refine r_iald rfl (by first | assumption | exact hs.a rfl) (by omega) (by omega) (zix (n := 42 + j) (by omega)) ?_
  refine r_bipush rfl ?_
  refine r_icmp_ge rfl (by omega) (by omega) (fun hw => ?_) (fun hw => ?_)
  · refine r_ret rfl ?_
    first | exact k1 (by omega) _ ((FrM.rf f).said (by omega)) (by rw [hw4]; exact mrd_w hm hj) (by rw [up2_o _ _ (by omega)]) | exact k2 (by omega)
  · refine r_aload_n rfl rfl ?_
    refine r_getR rfl (by first | assumption | exact hs.o rfl) (by first | assumption | exact hs.g rfl) ?_
    refine r_bipush rfl ?_
    refine r_iload_n rfl rfl ?_
    refine r_iadd rfl ?_
    refine r_dup2 rfl ?_
    refine r_iald rfl (by first | assumption | exact hs.a rfl) (by omega) (by omega) (zix (n := 42 + j) (by omega)) ?_
    refine r_iconst rfl ?_
    refine r_iadd rfl ?_
    refine r_iastN (42 + j) rfl (by first | assumption | exact hs.a rfl) (by omega) (by omega) (by omega) ?_
    refine r_ret rfl ?_
    first | exact k1 (by omega) _ ((FrM.rf f).said (by omega)) (by rw [hw4]; exact mrd_w hm hj) (by rw [up2_o _ _ (by omega)]) | exact k2 (by omega)
theorem l_manyOn (hd1 : 1 ≤ d) (hs : Sh σ g) (hm : MRd (f 229) rd) (ho : RdOk n m N rd) (K : Q (some (zi (rOns rd 6))) σ f g) (k : Nat) (hk : k ≤ 6) {v : Int} (hv : v = rOns rd k) : ZWp d zt197 4 [zr (some 219), zi v, zi (k : Int)] [] σ f g Q := by
  refine r_iload_n rfl rfl ?_
  refine r_bipush rfl ?_
  refine r_icmp_ge rfl (by omega) (by omega) (fun hlt => ?_) (fun hlt => ?_)
  · refine r_iload_n rfl rfl ?_
    refine r_iret rfl ?_
    have e : k = 6 := by omega
    subst e
    rw [hv]
    exact K
  · refine r_iload_n rfl rfl ?_
    refine r_aload_n rfl rfl ?_
    refine r_iload_n rfl rfl ?_
    refine r_callV1 rfl rfl (by first | assumption | exact hs.o rfl) rfl (c_mOn (by omega) hs hm ho (by omega) (fun hon => ?_) (fun hon => ?_))
    · refine r_if_n rfl (by decide) ?_
      refine r_iconst rfl ?_
      refine r_goto rfl ?_
      refine r_iadd rfl ?_
      refine r_istore_n (L' := [_, _, _]) rfl rfl rfl ?_
      refine r_iinc (L' := [_, _, _]) rfl rfl rfl ?_
      refine r_goto rfl ?_
      exact l_manyOn hd1 hs hm ho K (k + 1) (by omega) (by simp only [rOns]; first | rw [if_pos (by omega)]; omega | rw [if_neg (by omega)]; omega)
    · refine r_if_y rfl (by decide) ?_
      refine r_iconst rfl ?_
      refine r_iadd rfl ?_
      refine r_istore_n (L' := [_, _, _]) rfl rfl rfl ?_
      refine r_iinc (L' := [_, _, _]) rfl rfl rfl ?_
      refine r_goto rfl ?_
      exact l_manyOn hd1 hs hm ho K (k + 1) (by omega) (by simp only [rOns]; first | rw [if_pos (by omega)]; omega | rw [if_neg (by omega)]; omega)
termination_by 6 - k
theorem c_manyOn (hd : 2 ≤ d) (hs : Sh σ g) (hm : MRd (f 229) rd) (ho : RdOk n m N rd) (K : Q (some (zi (rOns rd 6))) σ f g) : ZCt d 197 [zr (some 219)] σ f g Q := by
  refine ZCt.of' (L0 := [_, _, _]) (by omega) rfl rfl rfl (fun d hd1 => ?_)
  refine r_iconst rfl ?_
  refine r_istore_n (L' := [_, _, _]) rfl rfl rfl ?_
  refine r_iconst rfl ?_
  refine r_istore_n (L' := [_, _, _]) rfl rfl rfl ?_
  exact l_manyOn (by omega) hs hm ho K 0 (by omega) rfl
end MSTEP
