/-! Litres -/
def lkA (rd : Rd) (k : Nat) : Int := if rd 0 k = -1 then 0 else 99 - rd 2 k
def lkS (rd : Rd) : Nat → Int
  | 0 => 0
  | k + 1 => lkS rd k + lkA rd k
/-- what is left when each of the first k has its whole litres -/
def lkL (rd : Rd) (m al : Int) : Nat → Int
  | 0 => m
  | k + 1 => lkL rd m al k - (m * lkA rd k).tdiv al
def lkRem (rd : Rd) (m al : Int) (k : Nat) : Int := (m * lkA rd k).tmod al
abbrev lkAh (rd : Rd) (m al : Int) (c k : Nat) : Prop := lkRem rd m al c < lkRem rd m al k ∨ (lkRem rd m al k = lkRem rd m al c ∧ k < c)
/-- who is served ahead of c: as the class has it, and as the reference has it -/
def lkC (rd : Rd) (m al : Int) (c : Nat) : Nat → Int
  | 0 => 0
  | k + 1 => lkC rd m al c k + (if lkAh rd m al c k then 1 else 0)
def lkM (rd : Rd) (m al : Int) (c : Nat) : Nat → Int
  | 0 => 0
  | k + 1 => lkM rd m al c k + (if lkAh rd m al c k ∧ rd 0 k ≠ -1 then 1 else 0)
/-- how many have a rest -/
def lkP (rd : Rd) (m al : Int) : Nat → Int
  | 0 => 0
  | k + 1 => lkP rd m al k + (if 0 < lkRem rd m al k then 1 else 0)
def lkV (rd : Rd) (m : Int) (c : Nat) : Int := if lkS rd 6 = 0 ∨ rd 0 c = -1 then 0 else (m * lkA rd c).tdiv (lkS rd 6) + (if lkM rd m (lkS rd 6) c 6 < lkL rd m (lkS rd 6) 6 then 1 else 0)
def qLit (a : AS) (m c : Int) : Int := match a.w.pn with
  | none => -1
  | some _ => if (0 ≤ m ∧ m ≤ 9999) ∧ (0 ≤ c ∧ c < 6) then lkV a.w.rd m c.toNat else -1
section LITRES
variable {d : Nat} {σ : ZS} {f f0 f' : ZF} {g g' : ZG} {Q : ZQ} {n m N : Int} {rd rd' : Rd} {pl : Pl} {rd0 : Rd} {a : AS}
theorem lkA_rng (ho : RdOk n m N rd) {k : Nat} (hk : k < 6) : 0 ≤ lkA rd k ∧ lkA rd k ≤ 99 := by
  have := ho.2.2.1 k hk
  unfold lkA
  split <;> omega
theorem lkS_rng (ho : RdOk n m N rd) : ∀ k : Nat, k ≤ 6 → 0 ≤ lkS rd k ∧ lkS rd k ≤ 99 * (k : Int) := by
  intro k
  induction k with
  | zero => intro _; simp [lkS]
  | succ k ih =>
    intro hk
    have h1 := ih (by omega)
    have h2 := lkA_rng ho (show k < 6 by omega)
    simp only [lkS]
    omega
theorem mulr {m l : Int} (hm : 0 ≤ m ∧ m ≤ 9999) (hl : 0 ≤ l ∧ l ≤ 99) : 0 ≤ m * l ∧ m * l ≤ 989901 := by
  have h1 := Int.mul_nonneg hm.1 hl.1
  have h2 : m * l ≤ 9999 * 99 := Int.mul_le_mul hm.2 hl.2 hl.1 (by omega)
  omega
theorem divr {x al : Int} (hx : 0 ≤ x ∧ x ≤ 989901) (ha : 0 < al) : (0 ≤ x.tdiv al ∧ x.tdiv al ≤ 989901) ∧ (0 ≤ x.tmod al ∧ x.tmod al < al) ∧ al * x.tdiv al + x.tmod al = x := by
  rw [Int.tdiv_eq_ediv_of_nonneg hx.1, Int.tmod_eq_emod_of_nonneg hx.1]
  have h1 := Int.ediv_nonneg hx.1 (Int.le_of_lt ha)
  have h2 := Int.ediv_le_self al hx.1
  have h3 := Int.emod_nonneg x (Int.ne_of_gt ha)
  have h4 := Int.emod_lt_of_pos x ha
  have h5 := Int.mul_ediv_add_emod x al
  exact ⟨⟨h1, by omega⟩, ⟨h3, h4⟩, h5⟩
theorem lkL_rng (ho : RdOk n m N rd) {q al : Int} (hq : 0 ≤ q ∧ q ≤ 9999) (ha : 0 < al) : ∀ k : Nat, k ≤ 6 → -989901 * (k : Int) ≤ lkL rd q al k ∧ lkL rd q al k ≤ 9999 := by
  intro k
  induction k with
  | zero => intro _; simp [lkL]; omega
  | succ k ih =>
    intro hk
    have h1 := ih (by omega)
    have h2 := (divr (mulr hq (lkA_rng ho (show k < 6 by omega))) ha).1
    simp only [lkL]
    omega
/-- the rests add up to what is left, and each is less than all -/
theorem lk_sum (ho : RdOk n m N rd) {q al : Int} (hq : 0 ≤ q ∧ q ≤ 9999) (ha : 0 < al) : ∀ k : Nat, k ≤ 6 → q * lkS rd k ≤ al * (q - lkL rd q al k) + al * lkP rd q al k := by
  intro k
  induction k with
  | zero => intro _; simp [lkS, lkL, lkP]
  | succ k ih =>
    intro hk
    have h1 := ih (by omega)
    have h2 := divr (mulr hq (lkA_rng ho (show k < 6 by omega))) ha
    simp only [lkS, lkL, lkP]
    have e1 : q * (lkS rd k + lkA rd k) = q * lkS rd k + q * lkA rd k := Int.mul_add _ _ _
    have e2 : al * (q - (lkL rd q al k - (q * lkA rd k).tdiv al)) = al * (q - lkL rd q al k) + al * (q * lkA rd k).tdiv al := by rw [← Int.mul_add]; congr 1; omega
    rw [e1, e2]
    by_cases h : 0 < lkRem rd q al k
    · rw [if_pos h, Int.mul_add, Int.mul_one]
      have := h2.2.1
      omega
    · rw [if_neg h, Int.add_zero]
      have h3 := h2.2.1
      unfold lkRem at h
      omega
theorem lk_left (ho : RdOk n m N rd) {q : Int} (hq : 0 ≤ q ∧ q ≤ 9999) (ha : 0 < lkS rd 6) : lkL rd q (lkS rd 6) 6 ≤ lkP rd q (lkS rd 6) 6 := by
  have h := lk_sum ho hq ha 6 (Nat.le_refl 6)
  have e : lkS rd 6 * (q - lkL rd q (lkS rd 6) 6) + lkS rd 6 * lkP rd q (lkS rd 6) 6 = lkS rd 6 * (q - lkL rd q (lkS rd 6) 6 + lkP rd q (lkS rd 6) 6) := (Int.mul_add _ _ _).symm
  rw [e, Int.mul_comm q] at h
  have := Int.le_of_mul_le_mul_left h ha
  omega
theorem lk_off {k : Nat} (hk : rd 0 k = -1) {q al : Int} : lkRem rd q al k = 0 := by
  unfold lkRem lkA
  rw [if_pos hk, Int.mul_zero]
  exact Int.zero_tmod al
/-- where nothing is lost, all that have a rest are ahead, in both ways of counting -/
theorem lk_zero {q al : Int} {c : Nat} (h0 : lkRem rd q al c = 0) : ∀ k, lkP rd q al k ≤ lkC rd q al c k ∧ lkP rd q al k ≤ lkM rd q al c k := by
  intro k
  induction k with
  | zero => simp [lkP, lkC, lkM]
  | succ k ih =>
    simp only [lkP, lkC, lkM]
    by_cases h : 0 < lkRem rd q al k
    · have h1 : lkAh rd q al c k := Or.inl (by rw [h0]; exact h)
      have h2 : rd 0 k ≠ -1 := fun z => by rw [lk_off z] at h; omega
      rw [if_pos h, if_pos h1, if_pos ⟨h1, h2⟩]
      omega
    · rw [if_neg h]
      split <;> split <;> omega
theorem lk_pos (ho : RdOk n m N rd) {q al : Int} (hq : 0 ≤ q ∧ q ≤ 9999) (ha : 0 < al) {c : Nat} (h0 : 0 < lkRem rd q al c) : ∀ k, lkC rd q al c k = lkM rd q al c k := by
  intro k
  induction k with
  | zero => rfl
  | succ k ih =>
    simp only [lkC, lkM]
    rw [ih]
    by_cases h : rd 0 k = -1
    · have h1 : ¬ lkAh rd q al c k := by
        intro z
        have := lk_off (q := q) (al := al) h
        rcases z with z | z <;> omega
      rw [if_neg h1, if_neg (fun z => h1 z.1)]
    · by_cases h1 : lkAh rd q al c k
      · rw [if_pos h1, if_pos ⟨h1, h⟩]
      · rw [if_neg h1, if_neg (fun z => h1 z.1)]
theorem lkCM_rng {q al : Int} {c : Nat} : ∀ k : Nat, (0 ≤ lkC rd q al c k ∧ lkC rd q al c k ≤ (k : Int)) ∧ (0 ≤ lkM rd q al c k ∧ lkM rd q al c k ≤ (k : Int)) := by
  intro k
  induction k with
  | zero => simp [lkC, lkM]
  | succ k ih =>
    simp only [lkC, lkM]
    split <;> split <;> omega
/-- the class's answer is the reference's -/
theorem lk_same (ho : RdOk n m N rd) {q : Int} (hq : 0 ≤ q ∧ q ≤ 9999) {c : Nat} (hc : c < 6) (ha : 0 < lkS rd 6) : (q * lkA rd c).tdiv (lkS rd 6) + (if lkC rd q (lkS rd 6) c 6 < lkL rd q (lkS rd 6) 6 then 1 else 0) = lkV rd q c := by
  have hl := lk_left ho hq ha
  have hd := divr (mulr hq (lkA_rng ho hc)) ha
  by_cases hoff : rd 0 c = -1
  · have ev : lkV rd q c = 0 := if_pos (Or.inr hoff)
    rw [ev]
    have h0 := lk_off (q := q) (al := lkS rd 6) hoff
    have h1 := (lk_zero h0 6).1
    rw [if_neg (by omega)]
    have : lkA rd c = 0 := if_pos hoff
    rw [this, Int.mul_zero, Int.zero_tdiv]
    rfl
  · have ev : lkV rd q c = (q * lkA rd c).tdiv (lkS rd 6) + (if lkM rd q (lkS rd 6) c 6 < lkL rd q (lkS rd 6) 6 then 1 else 0) := if_neg (fun z => by rcases z with z | z; omega; exact hoff z)
    rw [ev]
    by_cases h0 : lkRem rd q (lkS rd 6) c = 0
    · have h1 := lk_zero h0 6
      rw [if_neg (by omega), if_neg (by omega)]
    · have hp : 0 < lkRem rd q (lkS rd 6) c := by have := hd.2.1; unfold lkRem at *; omega
      rw [lk_pos ho hq ha hp 6]
theorem qLit_no {q c : Int} (h : a.w.pn = none ∨ ¬ (0 ≤ q ∧ q ≤ 9999) ∨ ¬ (0 ≤ c ∧ c < 6)) : qLit a q c = -1 := by
  unfold qLit
  cases hp : a.w.pn with
  | none => rfl
  | some z => exact if_neg (by rcases h with h | h | h; rw [hp] at h; cases h; omega; omega)
theorem qLit_yes {q : Int} {c : Nat} (hp : a.w.pn = some (pl, rd0)) (h : (0 ≤ q ∧ q ≤ 9999) ∧ c < 6) : qLit a q (c : Int) = lkV a.w.rd q c := by
  unfold qLit
  rw [hp]
  simp only
  rw [if_pos (by omega), Int.toNat_natCast]
theorem k_lack (hd : 3 ≤ d) (hI : CI σ f g a) (hA : AOk N a) {k : Nat} (hk : k < 6) (K : Q (some (zi (lkA a.w.rd k))) σ f g) : ZCt d 112 [zr (some 0), zi (k : Int)] σ f g Q := by
  refine ZCt.of' (L0 := [_, _]) (by omega) rfl rfl rfl (fun d hd1 => ?_)
  have hs := hI.sh
  obtain ⟨oo, ⟨a1, a2, a3, a4, a5⟩, g0, g1, g2, g3, g4⟩ := hs.r3
  refine r_aload_n rfl rfl ?_
  refine r_iload_n rfl rfl ?_
  refine r_callV1 rfl rfl (by first | assumption | exact hs.o rfl) rfl (k_isOn (by omega) hI hA (x := (k : Int)) (by omega) (fun k' hxk hk6 hk0 => ?_) (fun hoff => ?_))
  · refine r_if_n rfl (by decide) ?_
    refine r_bipush rfl ?_
    refine r_aload_n rfl rfl ?_
    refine r_getR rfl (by first | assumption | exact hs.o rfl) (by first | assumption | exact hs.g rfl) ?_
    refine r_getR rfl (by first | assumption | exact hs.o rfl) (by first | assumption | exact hs.g rfl) ?_
    refine r_iload_n rfl rfl ?_
    have e : k' = k := by omega
    subst e
    have hc := hI.w.2.1.1 k' hk6
    refine r_iald rfl (by first | assumption | exact hs.a rfl) (by omega) (by omega) ((zix (n := k') (by omega)).trans hc.2.2.1) ?_
    refine r_isub rfl ?_
    refine r_goto rfl ?_
    refine r_iret rfl ?_
    rw [show lkA a.w.rd k' = 99 - a.w.rd 2 k' from if_neg (by omega)] at K
    exact K
  · refine r_if_y rfl (by decide) ?_
    refine r_iconst rfl ?_
    refine r_iret rfl ?_
    rw [show lkA a.w.rd k = 0 from if_pos (hoff k rfl hk)] at K
    exact K
theorem l_lkS (hd1 : 3 ≤ d) (hI : CI σ f g a) (hA : AOk N a)  {q c : Int} {x5 x6 x7 x8 : ZV} (K : ∀ x, ZWp d zt111 54 [zr (some 0), zi q, zi c, zi (lkS a.w.rd 6), x, x5, x6, x7, x8] [] σ f g Q) (k : Nat) (hk : k ≤ 6) : ZWp d zt111 32 [zr (some 0), zi q, zi c, zi (lkS a.w.rd k), zi (k : Int), x5, x6, x7, x8] [] σ f g Q := by
  have hs := hI.sh
  refine r_iload rfl rfl ?_
  refine r_bipush rfl ?_
  refine r_icmp_ge rfl (by omega) (by omega) (fun hge => ?_) (fun hge => ?_)
  · have e : k = 6 := by omega
    subst e
    exact K _
  · refine r_iload_n rfl rfl ?_
    refine r_aload_n rfl rfl ?_
    refine r_iload rfl rfl ?_
    refine r_callV1 rfl rfl (by first | assumption | exact hs.o rfl) rfl (k_lack (k := k) (by omega) hI hA (by omega) ?_)
    refine r_iadd rfl ?_
    refine r_istore_n (L' := [_, _, _, _, _, _, _, _, _]) rfl rfl rfl ?_
    refine r_iinc (L' := [_, _, _, _, _, _, _, _, _]) rfl rfl rfl ?_
    refine r_goto rfl ?_
    exact l_lkS hd1 hI hA K (k + 1) (by omega)
termination_by 6 - k
theorem l_lkC (hd1 : 3 ≤ d) (hI : CI σ f g a) (hA : AOk N a)  (ho : RdOk n m N a.w.rd) {q al : Int} (hq : 0 ≤ q ∧ q ≤ 9999) (hal : 0 < al) (hal2 : al ≤ 594) {c : Nat} (hc : c < 6) (K : ∀ x8, ZWp d zt111 143 [zr (some 0), zi q, zi (c : Int), zi al, zi (lkL a.w.rd q al 6), zi (lkC a.w.rd q al c 6), zi (lkRem a.w.rd q al c), zi ((6 : Nat) : Int), x8] [] σ f g Q) (k : Nat) (hk : k ≤ 6) (x8 : ZV) : ZWp d zt111 80 [zr (some 0), zi q, zi (c : Int), zi al, zi (lkL a.w.rd q al k), zi (lkC a.w.rd q al c k), zi (lkRem a.w.rd q al c), zi (k : Int), x8] [] σ f g Q := by
  have hs := hI.sh
  have hcr := (divr (mulr hq (lkA_rng ho hc)) hal).2.1
  change 0 ≤ lkRem a.w.rd q al c ∧ lkRem a.w.rd q al c < al at hcr
  refine r_iload rfl rfl ?_
  refine r_bipush rfl ?_
  refine r_icmp_ge rfl (by omega) (by omega) (fun hge => ?_) (fun hge => ?_)
  · have e : k = 6 := by omega
    subst e
    exact K _
  · refine r_iload rfl rfl ?_
    refine r_iload_n rfl rfl ?_
    refine r_aload_n rfl rfl ?_
    refine r_iload rfl rfl ?_
    refine r_callV1 rfl rfl (by first | assumption | exact hs.o rfl) rfl (k_lack (k := k) (by omega) hI hA (by omega) ?_)
    have hlk := lkA_rng ho (show k < 6 by omega)
    have hml := mulr hq hlk
    have hdv := divr hml hal
    have hL := lkL_rng ho hq hal k (by omega)
    refine r_imul rfl ?_
    refine r_iload_n rfl rfl ?_
    refine r_idiv rfl (by omega) (by omega) (by omega) ?_
    refine r_isub rfl ?_
    refine r_istore (L' := [_, _, _, _, _, _, _, _, _]) rfl rfl rfl ?_
    refine r_iload_n rfl rfl ?_
    refine r_aload_n rfl rfl ?_
    refine r_iload rfl rfl ?_
    refine r_callV1 rfl rfl (by first | assumption | exact hs.o rfl) rfl (k_lack (k := k) (by omega) hI hA (by omega) ?_)
    refine r_imul rfl ?_
    refine r_iload_n rfl rfl ?_
    refine r_irem rfl (by omega) (by omega) (by omega) ?_
    refine r_istore (L' := [_, _, _, _, _, _, _, _, _]) rfl rfl rfl ?_
    refine r_iload rfl rfl ?_
    refine r_iload rfl rfl ?_
    refine r_icmp_gt rfl (by omega) (by omega) (fun hgt => ?_) (fun hgt => ?_)
    · refine r_iinc (L' := [_, _, _, _, _, _, _, _, _]) rfl rfl rfl ?_
      refine r_iinc (L' := [_, _, _, _, _, _, _, _, _]) rfl rfl rfl ?_
      refine r_goto rfl ?_
      first
      | (have e1 : lkC a.w.rd q al c (k + 1) = lkC a.w.rd q al c k + 1 := by simp only [lkC]; rw [if_pos (show lkAh a.w.rd q al c k from Or.inl hgt)]
         have := l_lkC hd1 hI hA ho hq hal hal2 hc K (k + 1) (by omega)
         rw [e1] at this
         exact this _)
      | (have e1 : lkC a.w.rd q al c (k + 1) = lkC a.w.rd q al c k + 1 := by simp only [lkC]; rw [if_pos (show lkAh a.w.rd q al c k from Or.inr ⟨hne, by omega⟩)]
         have := l_lkC hd1 hI hA ho hq hal hal2 hc K (k + 1) (by omega)
         rw [e1] at this
         exact this _)
      | (have e1 : lkC a.w.rd q al c (k + 1) = lkC a.w.rd q al c k := by
           simp only [lkC]
           have er : lkRem a.w.rd q al k = (q * lkA a.w.rd k).tmod al := rfl
           rw [if_neg (fun z => by rcases z with z | z <;> omega), Int.add_zero]
         have := l_lkC hd1 hI hA ho hq hal hal2 hc K (k + 1) (by omega)
         rw [e1] at this
         exact this _)
    · refine r_iload rfl rfl ?_
      refine r_iload rfl rfl ?_
      refine r_icmp_ne rfl (by omega) (by omega) (fun hne => ?_) (fun hne => ?_)
      · refine r_iinc (L' := [_, _, _, _, _, _, _, _, _]) rfl rfl rfl ?_
        refine r_goto rfl ?_
        first
        | (have e1 : lkC a.w.rd q al c (k + 1) = lkC a.w.rd q al c k + 1 := by simp only [lkC]; rw [if_pos (show lkAh a.w.rd q al c k from Or.inl hgt)]
           have := l_lkC hd1 hI hA ho hq hal hal2 hc K (k + 1) (by omega)
           rw [e1] at this
           exact this _)
        | (have e1 : lkC a.w.rd q al c (k + 1) = lkC a.w.rd q al c k + 1 := by simp only [lkC]; rw [if_pos (show lkAh a.w.rd q al c k from Or.inr ⟨hne, by omega⟩)]
           have := l_lkC hd1 hI hA ho hq hal hal2 hc K (k + 1) (by omega)
           rw [e1] at this
           exact this _)
        | (have e1 : lkC a.w.rd q al c (k + 1) = lkC a.w.rd q al c k := by
             simp only [lkC]
             have er : lkRem a.w.rd q al k = (q * lkA a.w.rd k).tmod al := rfl
             rw [if_neg (fun z => by rcases z with z | z <;> omega), Int.add_zero]
           have := l_lkC hd1 hI hA ho hq hal hal2 hc K (k + 1) (by omega)
           rw [e1] at this
           exact this _)
      · refine r_iload rfl rfl ?_
        refine r_iload_n rfl rfl ?_
        refine r_icmp_ge rfl (by omega) (by omega) (fun hlt2 => ?_) (fun hlt2 => ?_)
        · refine r_iinc (L' := [_, _, _, _, _, _, _, _, _]) rfl rfl rfl ?_
          refine r_goto rfl ?_
          first
          | (have e1 : lkC a.w.rd q al c (k + 1) = lkC a.w.rd q al c k + 1 := by simp only [lkC]; rw [if_pos (show lkAh a.w.rd q al c k from Or.inl hgt)]
             have := l_lkC hd1 hI hA ho hq hal hal2 hc K (k + 1) (by omega)
             rw [e1] at this
             exact this _)
          | (have e1 : lkC a.w.rd q al c (k + 1) = lkC a.w.rd q al c k + 1 := by simp only [lkC]; rw [if_pos (show lkAh a.w.rd q al c k from Or.inr ⟨hne, by omega⟩)]
             have := l_lkC hd1 hI hA ho hq hal hal2 hc K (k + 1) (by omega)
             rw [e1] at this
             exact this _)
          | (have e1 : lkC a.w.rd q al c (k + 1) = lkC a.w.rd q al c k := by
               simp only [lkC]
               have er : lkRem a.w.rd q al k = (q * lkA a.w.rd k).tmod al := rfl
               rw [if_neg (fun z => by rcases z with z | z <;> omega), Int.add_zero]
             have := l_lkC hd1 hI hA ho hq hal hal2 hc K (k + 1) (by omega)
             rw [e1] at this
             exact this _)
        · refine r_iinc (L' := [_, _, _, _, _, _, _, _, _]) rfl rfl rfl ?_
          refine r_iinc (L' := [_, _, _, _, _, _, _, _, _]) rfl rfl rfl ?_
          refine r_goto rfl ?_
          first
          | (have e1 : lkC a.w.rd q al c (k + 1) = lkC a.w.rd q al c k + 1 := by simp only [lkC]; rw [if_pos (show lkAh a.w.rd q al c k from Or.inl hgt)]
             have := l_lkC hd1 hI hA ho hq hal hal2 hc K (k + 1) (by omega)
             rw [e1] at this
             exact this _)
          | (have e1 : lkC a.w.rd q al c (k + 1) = lkC a.w.rd q al c k + 1 := by simp only [lkC]; rw [if_pos (show lkAh a.w.rd q al c k from Or.inr ⟨hne, by omega⟩)]
             have := l_lkC hd1 hI hA ho hq hal hal2 hc K (k + 1) (by omega)
             rw [e1] at this
             exact this _)
          | (have e1 : lkC a.w.rd q al c (k + 1) = lkC a.w.rd q al c k := by
               simp only [lkC]
               have er : lkRem a.w.rd q al k = (q * lkA a.w.rd k).tmod al := rfl
               rw [if_neg (fun z => by rcases z with z | z <;> omega), Int.add_zero]
             have := l_lkC hd1 hI hA ho hq hal hal2 hc K (k + 1) (by omega)
             rw [e1] at this
             exact this _)
termination_by 6 - k
theorem k_litres (hd : 4 ≤ d) (hI : CI σ f g a) (hA : AOk N a)  {q c : Int} (hqi : IR q) (hci : IR c) (K : Q (some (zi (qLit a q c))) σ f g) : ZCt d 111 [zr (some 0), zi q, zi c] σ f g Q := by
  refine ZCt.of' (L0 := [_, _, _, _, _, _, _, _, _]) (by omega) rfl rfl rfl (fun d hd1 => ?_)
  have hs := hI.sh
  cases hp : a.w.pn with
  | none =>
    rw [qLit_no (Or.inl hp)] at K
    refine r_aload_n rfl rfl ?_
    refine r_getR rfl (by first | assumption | exact hs.o rfl) (hI.pln hp) ?_
    refine r_ifnullN rfl ?_
    refine r_iconst rfl ?_
    refine r_iret rfl ?_
    exact K
  | some z =>
    obtain ⟨pl, rd0⟩ := z
    obtain ⟨p0, gp, p240, po, hpc, hrc⟩ := hI.plS hp
    obtain ⟨hplo, hvr, hst⟩ := hA.plS hp
    have hSr := lkS_rng hvr.1 6 (Nat.le_refl 6)
    refine r_aload_n rfl rfl ?_
    refine r_getR rfl (by first | assumption | exact hs.o rfl) gp ?_
    refine r_ifnullS rfl ?_
    refine r_iload_n rfl rfl ?_
    refine r_iconst rfl ?_
    refine r_sipush rfl ?_
    refine r_callS3 rfl rfl rfl (k_within (by omega) hqi (by omega) (by omega) (fun hq => ?_) (fun hq => ?_))
    · refine r_if_n rfl (by decide) ?_
      refine r_iload_n rfl rfl ?_
      refine r_callS1 rfl rfl rfl (k_isCar (by omega) hci (fun hc => ?_) (fun hc => ?_))
      · refine r_if_y rfl (by decide) ?_
        refine r_iconst rfl ?_
        refine r_istore_n (L' := [_, _, _, _, _, _, _, _, _]) rfl rfl rfl ?_
        refine r_iconst rfl ?_
        refine r_istore (L' := [_, _, _, _, _, _, _, _, _]) rfl rfl rfl ?_
        obtain ⟨cc, rfl⟩ := Int.eq_ofNat_of_zero_le hc.1
        refine l_lkS (by omega) hI hA (fun x => ?_) 0 (by omega)
        refine r_iload_n rfl rfl ?_
        refine r_if_gt rfl (by omega) (fun hall => ?_) (fun hall => ?_)
        · refine r_iload_n rfl rfl ?_
          refine r_istore (L' := [_, _, _, _, _, _, _, _, _]) rfl rfl rfl ?_
          refine r_iconst rfl ?_
          refine r_istore (L' := [_, _, _, _, _, _, _, _, _]) rfl rfl rfl ?_
          refine r_iload_n rfl rfl ?_
          refine r_aload_n rfl rfl ?_
          refine r_iload_n rfl rfl ?_
          refine r_callV1 rfl rfl (by first | assumption | exact hs.o rfl) rfl (k_lack (k := cc) (by omega) hI hA (by omega) ?_)
          have hml := mulr hq (lkA_rng hvr.1 (show cc < 6 by omega))
          have hdv := divr hml (show 0 < lkS a.w.rd 6 by omega)
          refine r_imul rfl ?_
          refine r_iload_n rfl rfl ?_
          refine r_irem rfl (by omega) (by omega) (by omega) ?_
          refine r_istore (L' := [_, _, _, _, _, _, _, _, _]) rfl rfl rfl ?_
          refine r_iconst rfl ?_
          refine r_istore (L' := [_, _, _, _, _, _, _, _, _]) rfl rfl rfl ?_
          refine l_lkC (by omega) hI hA hvr.1 hq (by omega) (by omega) (by omega) (fun x8 => ?_) 0 (by omega) _
          have hL6 := lkL_rng hvr.1 hq (show 0 < lkS a.w.rd 6 by omega) 6 (Nat.le_refl 6)
          have hC6 := lkCM_rng (rd := a.w.rd) (q := q) (al := lkS a.w.rd 6) (c := cc) 6
          refine r_iload_n rfl rfl ?_
          refine r_aload_n rfl rfl ?_
          refine r_iload_n rfl rfl ?_
          refine r_callV1 rfl rfl (by first | assumption | exact hs.o rfl) rfl (k_lack (k := cc) (by omega) hI hA (by omega) ?_)
          refine r_imul rfl ?_
          refine r_iload_n rfl rfl ?_
          refine r_idiv rfl (by omega) (by omega) (by omega) ?_
          refine r_iload rfl rfl ?_
          refine r_iload rfl rfl ?_
          refine r_icmp_ge rfl (by omega) (by omega) (fun hsl => ?_) (fun hsl => ?_)
          · refine r_iconst rfl ?_
            refine r_iadd rfl ?_
            refine r_iret rfl ?_
            rw [qLit_yes hp (by omega), ← lk_same hvr.1 hq (by omega) (by omega)] at K
            first | (rw [if_pos hsl] at K; exact K) | (rw [if_neg (by omega)] at K; exact K)
          · refine r_iconst rfl ?_
            refine r_goto rfl ?_
            refine r_iadd rfl ?_
            refine r_iret rfl ?_
            rw [qLit_yes hp (by omega), ← lk_same hvr.1 hq (by omega) (by omega)] at K
            first | (rw [if_pos hsl] at K; exact K) | (rw [if_neg (by omega)] at K; exact K)
        · refine r_iconst rfl ?_
          refine r_iret rfl ?_
          rw [qLit_yes hp (by omega), show lkV a.w.rd q cc = 0 from if_pos (Or.inl (by omega))] at K
          exact K
      · refine r_if_n rfl (by decide) ?_
        refine r_iconst rfl ?_
        refine r_iret rfl ?_
        rw [qLit_no (by omega)] at K
        exact K
    · refine r_if_y rfl (by decide) ?_
      refine r_iconst rfl ?_
      refine r_iret rfl ?_
      rw [qLit_no (by omega)] at K
      exact K
theorem c_shortOf (hd : 2 ≤ d) (hs : Sh σ g) (hm : MRd (f 229) rd) (ho : RdOk n m N rd) {k : Nat} (hk : k < 6) (K : Q (some (zi (lkA rd k))) σ f g) : ZCt d 237 [zr (some 219), zi (k : Int)] σ f g Q := by
  refine ZCt.of' (L0 := [_, _]) (by omega) rfl rfl rfl (fun d hd1 => ?_)
  refine r_aload_n rfl rfl ?_
  refine r_iload_n rfl rfl ?_
  refine r_callV1 rfl rfl (by first | assumption | exact hs.o rfl) rfl (c_mOn (by omega) hs hm ho hk (fun hon => ?_) (fun hoff => ?_))
  · refine r_if_n rfl (by decide) ?_
    refine r_bipush rfl ?_
    refine r_aload_n rfl rfl ?_
    refine r_iload_n rfl rfl ?_
    refine r_callV1 rfl rfl (by first | assumption | exact hs.o rfl) rfl (c_fuelOf (by omega) hs hk ?_)
    rw [hon.2.2.2.2.2.2.2.1]
    refine r_isub rfl ?_
    refine r_goto rfl ?_
    refine r_iret rfl ?_
    rw [show lkA rd k = 99 - rd 2 k from if_neg (by omega)] at K
    exact K
  · refine r_if_y rfl (by decide) ?_
    refine r_iconst rfl ?_
    refine r_iret rfl ?_
    rw [show lkA rd k = 0 from if_pos hoff] at K
    exact K
theorem l_lkSM (hd1 : 2 ≤ d) (hs : Sh σ g) (hm : MRd (f 229) rd) (ho : RdOk n m N rd) {q c : Int} {x5 x6 x7 x8 x9 : ZV} (K : ∀ x, ZWp d zt236 49 [zr (some 219), zi q, zi c, zi (lkS rd 6), x, x5, x6, x7, x8, x9] [] σ f g Q) (k : Nat) (hk : k ≤ 6) : ZWp d zt236 27 [zr (some 219), zi q, zi c, zi (lkS rd k), zi (k : Int), x5, x6, x7, x8, x9] [] σ f g Q := by
  refine r_iload rfl rfl ?_
  refine r_bipush rfl ?_
  refine r_icmp_ge rfl (by omega) (by omega) (fun hge => ?_) (fun hge => ?_)
  · have e : k = 6 := by omega
    subst e
    exact K _
  · refine r_iload_n rfl rfl ?_
    refine r_aload_n rfl rfl ?_
    refine r_iload rfl rfl ?_
    refine r_callV1 rfl rfl (by first | assumption | exact hs.o rfl) rfl (c_shortOf (k := k) (by omega) hs hm ho (by omega) ?_)
    refine r_iadd rfl ?_
    refine r_istore_n (L' := [_, _, _, _, _, _, _, _, _, _]) rfl rfl rfl ?_
    refine r_iinc (L' := [_, _, _, _, _, _, _, _, _, _]) rfl rfl rfl ?_
    refine r_goto rfl ?_
    exact l_lkSM hd1 hs hm ho K (k + 1) (by omega)
termination_by 6 - k
theorem l_lkM (hd1 : 2 ≤ d) (hs : Sh σ g) (hm : MRd (f 229) rd) (ho : RdOk n m N rd) {q al : Int} (hq : 0 ≤ q ∧ q ≤ 9999) (hal : 0 < al) (hal2 : al ≤ 594) {c : Nat} (hc : c < 6) (K : ∀ x8 x9, ZWp d zt236 172 [zr (some 219), zi q, zi (c : Int), zi al, zi (q * lkA rd c), zi (lkL rd q al 6), zi (lkM rd q al c 6), zi ((6 : Nat) : Int), x8, x9] [] σ f g Q) (k : Nat) (hk : k ≤ 6) (x8 x9 : ZV) : ZWp d zt236 81 [zr (some 219), zi q, zi (c : Int), zi al, zi (q * lkA rd c), zi (lkL rd q al k), zi (lkM rd q al c k), zi (k : Int), x8, x9] [] σ f g Q := by
  have hmc := mulr hq (lkA_rng ho hc)
  have hcr := (divr hmc hal).2.1
  refine r_iload rfl rfl ?_
  refine r_bipush rfl ?_
  refine r_icmp_ge rfl (by omega) (by omega) (fun hge => ?_) (fun hge => ?_)
  · have e : k = 6 := by omega
    subst e
    exact K _ _
  · refine r_iload_n rfl rfl ?_
    refine r_aload_n rfl rfl ?_
    refine r_iload rfl rfl ?_
    refine r_callV1 rfl rfl (by first | assumption | exact hs.o rfl) rfl (c_shortOf (k := k) (by omega) hs hm ho (by omega) ?_)
    have hlk := lkA_rng ho (show k < 6 by omega)
    have hml := mulr hq hlk
    have hdv := divr hml hal
    have hL := lkL_rng ho hq hal k (by omega)
    refine r_imul rfl ?_
    refine r_istore (L' := [_, _, _, _, _, _, _, _, _, _]) rfl rfl rfl ?_
    refine r_iload rfl rfl ?_
    refine r_iload rfl rfl ?_
    refine r_iload_n rfl rfl ?_
    refine r_idiv rfl (by omega) (by omega) (by omega) ?_
    refine r_isub rfl ?_
    refine r_istore (L' := [_, _, _, _, _, _, _, _, _, _]) rfl rfl rfl ?_
    refine r_iload rfl rfl ?_
    refine r_iload_n rfl rfl ?_
    refine r_irem rfl (by omega) (by omega) (by omega) ?_
    refine r_iload rfl rfl ?_
    refine r_iload_n rfl rfl ?_
    refine r_irem rfl (by omega) (by omega) (by omega) ?_
    refine r_icmp_gt rfl (by omega) (by omega) (fun hgt => ?_) (fun hgt => ?_)
    · refine r_iconst rfl ?_
      refine r_goto rfl ?_
      refine r_istore (L' := [_, _, _, _, _, _, _, _, _, _]) rfl rfl rfl ?_
      refine r_iload rfl rfl ?_
      refine r_iload rfl rfl ?_
      refine r_if_n rfl (by decide) ?_
      refine r_aload_n rfl rfl ?_
      refine r_iload rfl rfl ?_
      refine r_callV1 rfl rfl (by first | assumption | exact hs.o rfl) rfl (c_mOn (by omega) hs hm ho (by omega) (fun hon => ?_) (fun hoff => ?_))
      · refine r_if_n rfl (by decide) ?_
        refine r_iconst rfl ?_
        refine r_goto rfl ?_
        refine r_iadd rfl ?_
        refine r_istore (L' := [_, _, _, _, _, _, _, _, _, _]) rfl rfl rfl ?_
        refine r_iinc (L' := [_, _, _, _, _, _, _, _, _, _]) rfl rfl rfl ?_
        refine r_goto rfl ?_
        first
        | (have e1 : lkM rd q al c (k + 1) = lkM rd q al c k + 1 := by simp only [lkM]; rw [if_pos (show lkAh rd q al c k ∧ rd 0 k ≠ -1 from ⟨Or.inl hgt, by omega⟩)]
           have := l_lkM hd1 hs hm ho hq hal hal2 hc K (k + 1) (by omega)
           rw [e1] at this
           exact this _ _)
        | (have e1 : lkM rd q al c (k + 1) = lkM rd q al c k + 1 := by simp only [lkM]; rw [if_pos (show lkAh rd q al c k ∧ rd 0 k ≠ -1 from ⟨Or.inr ⟨hne, by omega⟩, by omega⟩)]
           have := l_lkM hd1 hs hm ho hq hal hal2 hc K (k + 1) (by omega)
           rw [e1] at this
           exact this _ _)
        | (have e1 : lkM rd q al c (k + 1) = lkM rd q al c k + 0 := by simp only [lkM]; rw [if_neg (fun z => z.2 hoff)]
           have := l_lkM hd1 hs hm ho hq hal hal2 hc K (k + 1) (by omega)
           rw [e1] at this
           exact this _ _)
      · refine r_if_y rfl (by decide) ?_
        refine r_iconst rfl ?_
        refine r_iadd rfl ?_
        refine r_istore (L' := [_, _, _, _, _, _, _, _, _, _]) rfl rfl rfl ?_
        refine r_iinc (L' := [_, _, _, _, _, _, _, _, _, _]) rfl rfl rfl ?_
        refine r_goto rfl ?_
        first
        | (have e1 : lkM rd q al c (k + 1) = lkM rd q al c k + 1 := by simp only [lkM]; rw [if_pos (show lkAh rd q al c k ∧ rd 0 k ≠ -1 from ⟨Or.inl hgt, by omega⟩)]
           have := l_lkM hd1 hs hm ho hq hal hal2 hc K (k + 1) (by omega)
           rw [e1] at this
           exact this _ _)
        | (have e1 : lkM rd q al c (k + 1) = lkM rd q al c k + 1 := by simp only [lkM]; rw [if_pos (show lkAh rd q al c k ∧ rd 0 k ≠ -1 from ⟨Or.inr ⟨hne, by omega⟩, by omega⟩)]
           have := l_lkM hd1 hs hm ho hq hal hal2 hc K (k + 1) (by omega)
           rw [e1] at this
           exact this _ _)
        | (have e1 : lkM rd q al c (k + 1) = lkM rd q al c k + 0 := by simp only [lkM]; rw [if_neg (fun z => z.2 hoff)]
           have := l_lkM hd1 hs hm ho hq hal hal2 hc K (k + 1) (by omega)
           rw [e1] at this
           exact this _ _)
    · refine r_iload rfl rfl ?_
      refine r_iload_n rfl rfl ?_
      refine r_irem rfl (by omega) (by omega) (by omega) ?_
      refine r_iload rfl rfl ?_
      refine r_iload_n rfl rfl ?_
      refine r_irem rfl (by omega) (by omega) (by omega) ?_
      refine r_icmp_ne rfl (by omega) (by omega) (fun hne => ?_) (fun hne => ?_)
      · refine r_iconst rfl ?_
        refine r_istore (L' := [_, _, _, _, _, _, _, _, _, _]) rfl rfl rfl ?_
        refine r_iload rfl rfl ?_
        refine r_iload rfl rfl ?_
        refine r_if_y rfl (by decide) ?_
        refine r_iconst rfl ?_
        refine r_iadd rfl ?_
        refine r_istore (L' := [_, _, _, _, _, _, _, _, _, _]) rfl rfl rfl ?_
        refine r_iinc (L' := [_, _, _, _, _, _, _, _, _, _]) rfl rfl rfl ?_
        refine r_goto rfl ?_
        have e1 : lkM rd q al c (k + 1) = lkM rd q al c k + 0 := by
          simp only [lkM]
          have er : lkRem rd q al k = (q * lkA rd k).tmod al := rfl
          have ec : lkRem rd q al c = (q * lkA rd c).tmod al := rfl
          rw [if_neg (fun z => by rcases z.1 with z | z <;> omega)]
        have := l_lkM hd1 hs hm ho hq hal hal2 hc K (k + 1) (by omega)
        rw [e1] at this
        exact this _ _
      · refine r_iload rfl rfl ?_
        refine r_iload_n rfl rfl ?_
        refine r_icmp_ge rfl (by omega) (by omega) (fun hlt2 => ?_) (fun hlt2 => ?_)
        · refine r_iconst rfl ?_
          refine r_istore (L' := [_, _, _, _, _, _, _, _, _, _]) rfl rfl rfl ?_
          refine r_iload rfl rfl ?_
          refine r_iload rfl rfl ?_
          refine r_if_y rfl (by decide) ?_
          refine r_iconst rfl ?_
          refine r_iadd rfl ?_
          refine r_istore (L' := [_, _, _, _, _, _, _, _, _, _]) rfl rfl rfl ?_
          refine r_iinc (L' := [_, _, _, _, _, _, _, _, _, _]) rfl rfl rfl ?_
          refine r_goto rfl ?_
          have e1 : lkM rd q al c (k + 1) = lkM rd q al c k + 0 := by
            simp only [lkM]
            have er : lkRem rd q al k = (q * lkA rd k).tmod al := rfl
            have ec : lkRem rd q al c = (q * lkA rd c).tmod al := rfl
            rw [if_neg (fun z => by rcases z.1 with z | z <;> omega)]
          have := l_lkM hd1 hs hm ho hq hal hal2 hc K (k + 1) (by omega)
          rw [e1] at this
          exact this _ _
        · refine r_iconst rfl ?_
          refine r_goto rfl ?_
          refine r_istore (L' := [_, _, _, _, _, _, _, _, _, _]) rfl rfl rfl ?_
          refine r_iload rfl rfl ?_
          refine r_iload rfl rfl ?_
          refine r_if_n rfl (by decide) ?_
          refine r_aload_n rfl rfl ?_
          refine r_iload rfl rfl ?_
          refine r_callV1 rfl rfl (by first | assumption | exact hs.o rfl) rfl (c_mOn (by omega) hs hm ho (by omega) (fun hon => ?_) (fun hoff => ?_))
          · refine r_if_n rfl (by decide) ?_
            refine r_iconst rfl ?_
            refine r_goto rfl ?_
            refine r_iadd rfl ?_
            refine r_istore (L' := [_, _, _, _, _, _, _, _, _, _]) rfl rfl rfl ?_
            refine r_iinc (L' := [_, _, _, _, _, _, _, _, _, _]) rfl rfl rfl ?_
            refine r_goto rfl ?_
            first
            | (have e1 : lkM rd q al c (k + 1) = lkM rd q al c k + 1 := by simp only [lkM]; rw [if_pos (show lkAh rd q al c k ∧ rd 0 k ≠ -1 from ⟨Or.inl hgt, by omega⟩)]
               have := l_lkM hd1 hs hm ho hq hal hal2 hc K (k + 1) (by omega)
               rw [e1] at this
               exact this _ _)
            | (have e1 : lkM rd q al c (k + 1) = lkM rd q al c k + 1 := by simp only [lkM]; rw [if_pos (show lkAh rd q al c k ∧ rd 0 k ≠ -1 from ⟨Or.inr ⟨hne, by omega⟩, by omega⟩)]
               have := l_lkM hd1 hs hm ho hq hal hal2 hc K (k + 1) (by omega)
               rw [e1] at this
               exact this _ _)
            | (have e1 : lkM rd q al c (k + 1) = lkM rd q al c k + 0 := by simp only [lkM]; rw [if_neg (fun z => z.2 hoff)]
               have := l_lkM hd1 hs hm ho hq hal hal2 hc K (k + 1) (by omega)
               rw [e1] at this
               exact this _ _)
          · refine r_if_y rfl (by decide) ?_
            refine r_iconst rfl ?_
            refine r_iadd rfl ?_
            refine r_istore (L' := [_, _, _, _, _, _, _, _, _, _]) rfl rfl rfl ?_
            refine r_iinc (L' := [_, _, _, _, _, _, _, _, _, _]) rfl rfl rfl ?_
            refine r_goto rfl ?_
            first
            | (have e1 : lkM rd q al c (k + 1) = lkM rd q al c k + 1 := by simp only [lkM]; rw [if_pos (show lkAh rd q al c k ∧ rd 0 k ≠ -1 from ⟨Or.inl hgt, by omega⟩)]
               have := l_lkM hd1 hs hm ho hq hal hal2 hc K (k + 1) (by omega)
               rw [e1] at this
               exact this _ _)
            | (have e1 : lkM rd q al c (k + 1) = lkM rd q al c k + 1 := by simp only [lkM]; rw [if_pos (show lkAh rd q al c k ∧ rd 0 k ≠ -1 from ⟨Or.inr ⟨hne, by omega⟩, by omega⟩)]
               have := l_lkM hd1 hs hm ho hq hal hal2 hc K (k + 1) (by omega)
               rw [e1] at this
               exact this _ _)
            | (have e1 : lkM rd q al c (k + 1) = lkM rd q al c k + 0 := by simp only [lkM]; rw [if_neg (fun z => z.2 hoff)]
               have := l_lkM hd1 hs hm ho hq hal hal2 hc K (k + 1) (by omega)
               rw [e1] at this
               exact this _ _)
termination_by 6 - k
theorem c_litres (hd : 3 ≤ d) (hs : Sh σ g) (hM : MI f a) (hA : AOk N a) {q c : Int} (hqi : IR q) (hci : IR c) (K : Q (some (zi (qLit a q c))) σ f g) : ZCt d 236 [zr (some 219), zi q, zi c] σ f g Q := by
  refine ZCt.of' (L0 := [_, _, _, _, _, _, _, _, _, _]) (by omega) rfl rfl rfl (fun d hd1 => ?_)
  refine r_aload_n rfl rfl ?_
  refine r_iload_n rfl rfl ?_
  refine r_callV1 rfl rfl (by first | assumption | exact hs.o rfl) rfl (c_carA (by omega) hs hM hA hci (fun pl rd0 hp hc => ?_) (fun hnc => ?_))
  · refine r_if_n rfl (by decide) ?_
    refine r_iload_n rfl rfl ?_
    refine r_i2l rfl (by omega) ?_
    refine r_lconst rfl ?_
    refine r_ldc2 rfl ?_
    refine r_callS3 rfl rfl rfl (c_in (by omega) (by omega) (by omega) (by omega) (fun hq => ?_) (fun hq => ?_))
    · refine r_if_y rfl (by decide) ?_
      refine r_iconst rfl ?_
      refine r_istore_n (L' := [_, _, _, _, _, _, _, _, _, _]) rfl rfl rfl ?_
      refine r_iconst rfl ?_
      refine r_istore (L' := [_, _, _, _, _, _, _, _, _, _]) rfl rfl rfl ?_
      obtain ⟨cc, rfl⟩ := Int.eq_ofNat_of_zero_le hc.1
      obtain ⟨hplo, hvr, hst⟩ := hA.plS hp
      have hm := hM.w.2.1
      have ho := hvr.1
      have hSr := lkS_rng hvr.1 6 (Nat.le_refl 6)
      refine l_lkSM (by omega) hs hm ho (fun x => ?_) 0 (by omega)
      refine r_iload_n rfl rfl ?_
      refine r_if_eq rfl (by omega) (fun hall => ?_) (fun hall => ?_)
      · refine r_iconst rfl ?_
        refine r_iret rfl ?_
        first | (rw [qLit_yes hp (by omega), show lkV a.w.rd q cc = 0 from if_pos (Or.inl (by omega))] at K; exact K) | (rw [qLit_yes hp (by omega), show lkV a.w.rd q cc = 0 from if_pos (Or.inr hoff)] at K; exact K)
      · refine r_aload_n rfl rfl ?_
        refine r_iload_n rfl rfl ?_
        refine r_callV1 rfl rfl (by first | assumption | exact hs.o rfl) rfl (c_mOn (by omega) hs hm ho (by omega) (fun hon => ?_) (fun hoff => ?_))
        · refine r_if_y rfl (by decide) ?_
          refine r_iload_n rfl rfl ?_
          refine r_aload_n rfl rfl ?_
          refine r_iload_n rfl rfl ?_
          refine r_callV1 rfl rfl (by first | assumption | exact hs.o rfl) rfl (c_shortOf (k := cc) (by omega) hs hm ho (by omega) ?_)
          have hml := mulr hq (lkA_rng hvr.1 (show cc < 6 by omega))
          have hdv := divr hml (show 0 < lkS a.w.rd 6 by omega)
          refine r_imul rfl ?_
          refine r_istore (L' := [_, _, _, _, _, _, _, _, _, _]) rfl rfl rfl ?_
          refine r_iload_n rfl rfl ?_
          refine r_istore (L' := [_, _, _, _, _, _, _, _, _, _]) rfl rfl rfl ?_
          refine r_iconst rfl ?_
          refine r_istore (L' := [_, _, _, _, _, _, _, _, _, _]) rfl rfl rfl ?_
          refine r_iconst rfl ?_
          refine r_istore (L' := [_, _, _, _, _, _, _, _, _, _]) rfl rfl rfl ?_
          refine l_lkM (by omega) hs hm ho hq (by omega) (by omega) (by omega) (fun x8 x9 => ?_) 0 (by omega) _ _
          have hL6 := lkL_rng hvr.1 hq (show 0 < lkS a.w.rd 6 by omega) 6 (Nat.le_refl 6)
          have hC6 := lkCM_rng (rd := a.w.rd) (q := q) (al := lkS a.w.rd 6) (c := cc) 6
          refine r_iload rfl rfl ?_
          refine r_iload_n rfl rfl ?_
          refine r_idiv rfl (by omega) (by omega) (by omega) ?_
          refine r_iload rfl rfl ?_
          refine r_iload rfl rfl ?_
          refine r_icmp_ge rfl (by omega) (by omega) (fun hsl => ?_) (fun hsl => ?_)
          · refine r_iconst rfl ?_
            refine r_iadd rfl ?_
            refine r_iret rfl ?_
            have ev : lkV a.w.rd q cc = (q * lkA a.w.rd cc).tdiv (lkS a.w.rd 6) + (if lkM a.w.rd q (lkS a.w.rd 6) cc 6 < lkL a.w.rd q (lkS a.w.rd 6) 6 then 1 else 0) := if_neg (fun z => by omega)
            rw [qLit_yes hp (by omega), ev] at K
            first | (rw [if_pos hsl] at K; exact K) | (rw [if_neg (by omega)] at K; exact K)
          · refine r_iconst rfl ?_
            refine r_goto rfl ?_
            refine r_iadd rfl ?_
            refine r_iret rfl ?_
            have ev : lkV a.w.rd q cc = (q * lkA a.w.rd cc).tdiv (lkS a.w.rd 6) + (if lkM a.w.rd q (lkS a.w.rd 6) cc 6 < lkL a.w.rd q (lkS a.w.rd 6) 6 then 1 else 0) := if_neg (fun z => by omega)
            rw [qLit_yes hp (by omega), ev] at K
            first | (rw [if_pos hsl] at K; exact K) | (rw [if_neg (by omega)] at K; exact K)
        · refine r_if_n rfl (by decide) ?_
          refine r_iconst rfl ?_
          refine r_iret rfl ?_
          first | (rw [qLit_yes hp (by omega), show lkV a.w.rd q cc = 0 from if_pos (Or.inl (by omega))] at K; exact K) | (rw [qLit_yes hp (by omega), show lkV a.w.rd q cc = 0 from if_pos (Or.inr hoff)] at K; exact K)
    · refine r_if_n rfl (by decide) ?_
      refine r_iconst rfl ?_
      refine r_iret rfl ?_
      first | (rw [qLit_no (by omega)] at K; exact K) | (rw [qLit_no (by rcases hnc with h | h; exact Or.inl h; exact Or.inr (Or.inr h))] at K; exact K)
  · refine r_if_y rfl (by decide) ?_
    refine r_iconst rfl ?_
    refine r_iret rfl ?_
    first | (rw [qLit_no (by omega)] at K; exact K) | (rw [qLit_no (by rcases hnc with h | h; exact Or.inl h; exact Or.inr (Or.inr h))] at K; exact K)
end LITRES
