/-! What is checked, once and by computing, of each instruction of each method -/
def zln (i : Instr) : Nat := match i with
  | .bipush _ => 2
  | .sipush _ => 3
  | .ldc _ => 2
  | .ldc_w _ => 3
  | .ldc2_w _ => 3
  | .iload _ => 2
  | .lload _ => 2
  | .aload _ => 2
  | .istore _ => 2
  | .lstore _ => 2
  | .astore _ => 2
  | .iinc _ _ => 3
  | .goto _ => 3
  | .ifCond _ _ => 3
  | .if_icmp _ _ => 3
  | .ifnull _ => 3
  | .ifnonnull _ => 3
  | .getfield _ => 3
  | .putfield _ => 3
  | .new _ => 3
  | .newarray _ => 2
  | .anewarray _ => 3
  | .invokevirtual _ => 3
  | .invokestatic _ => 3
  | .invokespecial _ => 3
  | .checkcast _ => 3
  | _ => 1
/-- how many arguments a method's descriptor and kind give -/
def zna (y : Nat) : Option Nat := (parseMethodDescriptor (zM y).1.desc).map (fun d => d.parameters.length)
def zckI (o : Nat) (ini : Bool) (rc pc : Nat) (e : ZE) : Bool := match e with
  | (i, q, a, b, c, v) => match i with
    | .iload k | .lload k | .aload k | .istore k | .astore k | .lstore k => a == k && q == pc + 2
    | .iload_n k | .lload_n k | .aload_n k | .istore_n k | .astore_n k | .lstore_n k => a == k.val && q == pc + 1
    | .iinc k _ => a == k && q == pc + 3
    | .goto off => decide ((pc : Int) + off = (q : Int))
    | .ifCond _ off | .if_icmp _ off | .ifnull off | .ifnonnull off => decide ((pc : Int) + off = (a : Int)) && q == pc + 3
    | .tableswitch d _ _ offs => decide (0 ≤ (pc : Int) + d) && offs.toList.all (fun f => decide (0 ≤ (pc : Int) + f))
    | .lookupswitch d ps => (ps.toList.zip (ps.toList.drop 1)).all (fun (a, next) => a.1 < next.1) && decide (0 ≤ (pc : Int) + d) && ps.toList.all (fun f => decide (0 ≤ (pc : Int) + f.2))
    | .bipush n => q == pc + 2 && decide ((Int8.ofInt n).toInt32 = Int32.ofInt n)
    | .sipush n => q == pc + 3 && decide ((Int16.ofInt n).toInt32 = Int32.ofInt n)
    | .lconst k => q == pc + 1 && decide (v = (k.val : Int))
    | .ldc k => q == pc + 2 && (if b = 0 then (zCI o).elem (k, v) else (zCS o).elem (k, a - zX) && decide (zX ≤ a))
    | .ldc_w k => q == pc + 3 && (zCI o).elem (k, v)
    | .ldc2_w k => q == pc + 3 && (zCJ o).elem (k, v)
    | .getfield k => q == pc + 3 && decide (c < 12 ∧ a < znf c ∧ zft (ztX c a) = b) && (zFL o).elem (k, c, a)
    | .putfield k => q == pc + 3 && decide (c < 12 ∧ a < znf c ∧ zft (ztX c a) = b) && (zFL o).elem (k, c, a) && (!(zTX c a).2.2.2 || (ini && c == o))
    | .aaload | .aastore => q == pc + 1 && decide (110 ≤ a ∧ a < 122)
    | .new k => q == pc + 3 && decide (a < 12 ∧ b = znf a) && (zCL o).elem (k, a)
    | .newarray t => q == pc + 2 && (match t with
      | .int => a == 100
      | .byte => a == 101
      | .boolean => a == 102
      | .long => a == 103
      | _ => false)
    | .anewarray k => q == pc + 3 && decide (a = 111 ∨ a = 115 ∨ a = 117) && (zCL o).elem (k, a - 110)
    | .checkcast k => q == pc + 3 && o == 15 && k == 317
    | .invokevirtual k => q == pc + 3 && (if 1000 ≤ a then (a == 1004 && o == 15 && k == 316) || (zSL o).elem (k, a) else (zML o).elem (k, a, 0) && decide (c = (zM a).2.2.2.2 ∧ c < 12) && znth zVl a == some true && znth zIl a == some true && decide (a < 255) && zna a == some (b - 1) && decide (1 ≤ b))
    | .invokestatic k => q == pc + 3 && (if 1000 ≤ a then a == 1003 && (zAL o).elem k else (zML o).elem (k, a, 1) && znth zIl a == some false && decide (a < 255) && zna a == some b)
    | .invokespecial k => q == pc + 3 && (if 1000 ≤ a then a == 1000 && (zOL o).elem k else ((zML o).elem (k, a, 2) || (zML o).elem (k, a, 3)) && znth zIl a == some true && decide (a < 255) && zna a == some (b - 1) && decide (1 ≤ b) && (zM a).1.name == "<init>" && (zM a).2.2.2.1.isNone)
    | .return_ | .ireturn | .lreturn | .areturn => c == rc
    | _ => q == pc + 1
def zrc (t : Option FieldType) : Nat := match t with
  | none => 0
  | some .int => 1
  | some .boolean => 2
  | some .long => 3
  | some (.object _) => 4
  | some (.array _) => 4
  | _ => 9
/-- a switch -/
def zsw (i : Instr) : Bool := match i with
  | .tableswitch _ _ _ _ => true
  | .lookupswitch _ _ => true
  | _ => false
def zck (o : Nat) (ini : Bool) (rc : Nat) (cc : ByteArray) (pc : Nat) (e : ZE) : Bool := match decode cc pc with
  | .ok (i, ln) => decide (i = e.1) && (ln == zln i || zsw i) && zckI o ini rc pc e
  | _ => false
def zckR (o : Nat) (ini : Bool) (rc : Nat) (cc : ByteArray) : Nat → List (Option ZE) → Bool
  | _, [] => true
  | pc, none :: t => zckR o ini rc cc (pc + 1) t
  | pc, some e :: t => zck o ini rc cc pc e && zckR o ini rc cc (pc + 1) t
def zckT (o : Nat) (ini : Bool) (rc : Nat) (cc : ByteArray) : Nat → ZT → Bool
  | _, [] => true
  | pc, r :: t => (r.length == 16 || t.isEmpty) && zckR o ini rc cc pc r && zckT o ini rc cc (pc + 16) t
def zckM (y : Nat) : Bool := zckT (zM y).2.2.2.2 ((zM y).1.name == "<init>") (zrc (zM y).2.2.2.1) (zM y).2.1 0 (zP y).2 && (zP y).1 == (zM y).2.2.1
theorem zckR_at {o : Nat} {ini : Bool} {rc : Nat} {cc : ByteArray} : ∀ (r : List (Option ZE)) (pc k : Nat) (e : ZE), zckR o ini rc cc pc r = true → znth r k = some (some e) → zck o ini rc cc (pc + k) e = true := by
  intro r
  induction r with
  | nil => intro pc k e _ h; cases k <;> cases h
  | cons x t ih =>
    intro pc k e hr h
    cases k with
    | zero =>
      have hx : x = some e := Option.some.inj h
      subst hx
      simp only [zckR, Bool.and_eq_true] at hr
      exact hr.1
    | succ k =>
      have h' : znth t k = some (some e) := h
      have ht : zckR o ini rc cc (pc + 1) t = true := by
        cases x with
        | none => exact hr
        | some x => simp only [zckR, Bool.and_eq_true] at hr; exact hr.2
      have := ih (pc + 1) k e ht h'
      rwa [show pc + 1 + k = pc + (k + 1) by omega] at this
theorem zckT_at {o : Nat} {ini : Bool} {rc : Nat} {cc : ByteArray} : ∀ (T : ZT) (pc j : Nat) (r : List (Option ZE)), zckT o ini rc cc pc T = true → znth T j = some r → zckR o ini rc cc (pc + 16 * j) r = true := by
  intro T
  induction T with
  | nil => intro pc j r _ h; cases j <;> cases h
  | cons x t ih =>
    intro pc j r hT h
    simp only [zckT, Bool.and_eq_true] at hT
    cases j with
    | zero =>
      have hx : x = r := Option.some.inj h
      subst hx
      exact hT.1.2
    | succ j =>
      have := ih (pc + 16) j r hT.2 h
      rwa [show pc + 16 + 16 * j = pc + 16 * (j + 1) by omega] at this
theorem zck_at {o : Nat} {ini : Bool} {rc : Nat} {cc : ByteArray} {T : ZT} {pc : Nat} {e : ZE} (hT : zckT o ini rc cc 0 T = true) (h : zlk T pc = some e) : zck o ini rc cc pc e = true := by
  unfold zlk at h
  split at h
  · cases h
  · rename_i r hr
    split at h
    · cases h
    · rename_i x hx
      subst h
      have h1 := zckT_at T 0 (pc / 16) r hT hr
      have h2 := zckR_at r _ (pc % 16) e h1 hx
      rwa [show 0 + 16 * (pc / 16) + pc % 16 = pc by omega] at h2
theorem zck_any {o : Nat} {ini : Bool} {rc : Nat} {cc : ByteArray} {pc : Nat} {e : ZE} (h : zck o ini rc cc pc e = true) : ∃ ln, decode cc pc = .ok (e.1, ln) ∧ zckI o ini rc pc e = true := by
  unfold zck at h
  split at h
  · rename_i i ln hd
    simp only [Bool.and_eq_true, decide_eq_true_eq] at h
    exact ⟨ln, by rw [hd, h.1.1], h.2⟩
  · cases h
theorem zck_dec {o : Nat} {ini : Bool} {rc : Nat} {cc : ByteArray} {pc : Nat} {e : ZE} (h : zck o ini rc cc pc e = true) (hs : zsw e.1 = false) : decode cc pc = .ok (e.1, zln e.1) ∧ zckI o ini rc pc e = true := by
  unfold zck at h
  split at h
  · rename_i i ln hd
    simp only [Bool.and_eq_true, decide_eq_true_eq, Bool.or_eq_true, beq_iff_eq] at h
    obtain ⟨⟨h1, h2⟩, h3⟩ := h
    subst h1
    rw [hs] at h2
    refine ⟨?_, h3⟩
    rcases h2 with h2 | h2
    · rw [hd, h2]
    · cases h2
  · cases h
