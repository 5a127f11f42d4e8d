/-! A small machine of my own over numbers: what the bytecode does, said on lists, whole numbers and a heap of functions. -/
/-- a value: an int, a long, a reference, nothing -/
abbrev ZV : Type := Int ⊕ Int ⊕ Option Nat ⊕ Unit
abbrev zi (x : Int) : ZV := .inl x
abbrev zl (x : Int) : ZV := .inr (.inl x)
abbrev zr (x : Option Nat) : ZV := .inr (.inr (.inl x))
abbrev zu : ZV := .inr (.inr (.inr ()))
/-- sizes (cells, slots) and the kind and length of each cell -/
abbrev ZS : Type := (Nat × Nat) × (Nat → Nat × Nat)
abbrev ZF : Type := Nat → Nat → Int
abbrev ZG : Type := Nat → Nat → Option Nat
abbrev ZH : Type := ZS × ZF × ZG
def up2 {α : Type} (f : Nat → Nat → α) (a i : Nat) (v : α) : Nat → Nat → α := fun b j => if b = a ∧ j = i then v else f b j
theorem up2_same {α : Type} (f : Nat → Nat → α) (a i : Nat) (v : α) : up2 f a i v a i = v := by simp [up2]
theorem up2_ne {α : Type} (f : Nat → Nat → α) {a i b j : Nat} (v : α) (h : ¬ (b = a ∧ j = i)) : up2 f a i v b j = f b j := by simp [up2, h]
/-- cell k is an object of class c -/
def zO (σ : ZS) (k c : Nat) : Prop := k < σ.1.1 ∧ (σ.2 k).1 = c
/-- cell k is an array of kind t with n elements -/
def zA (σ : ZS) (k t n : Nat) : Prop := k < σ.1.1 ∧ σ.2 k = (t, n)
def zNewS (σ : ZS) (t n : Nat) : ZS := ((σ.1.1 + 1, σ.1.2 + n), fun k => if k = σ.1.1 then (t, n) else σ.2 k)
def zNewF (σ : ZS) (f : ZF) : ZF := fun k j => if k = σ.1.1 then 0 else f k j
def zNewG (σ : ZS) (g : ZG) : ZG := fun k j => if k = σ.1.1 then none else g k j
def wr (x : Int) : Int := (x + 2147483648) % 4294967296 - 2147483648
def wl (x : Int) : Int := (x + 9223372036854775808) % 18446744073709551616 - 9223372036854775808
theorem wr_id {x : Int} (h : -2147483648 ≤ x ∧ x ≤ 2147483647) : wr x = x := by unfold wr; omega
theorem wl_id {x : Int} (h : -9223372036854775808 ≤ x ∧ x ≤ 9223372036854775807) : wl x = x := by unfold wl; omega
def z_and (x y : Int) : Int := (Int32.ofInt x &&& Int32.ofInt y).toInt
def z_or (x y : Int) : Int := (Int32.ofInt x ||| Int32.ofInt y).toInt
def z_xor (x y : Int) : Int := (Int32.ofInt x ^^^ Int32.ofInt y).toInt
def z_shl (x y : Int) : Int := (Int32.ofInt x <<< (Int32.ofInt y &&& 31)).toInt
def z_shr (x y : Int) : Int := (Int32.ofInt x >>> (Int32.ofInt y &&& 31)).toInt
def z_ushr (x y : Int) : Int := ((Int32.ofInt x).toUInt32 >>> ((Int32.ofInt y).toUInt32 &&& Int32.toUInt32 31)).toInt32.toInt
def z_land (x y : Int) : Int := (Int64.ofInt x &&& Int64.ofInt y).toInt
def z_lor (x y : Int) : Int := (Int64.ofInt x ||| Int64.ofInt y).toInt
def z_lshl (x y : Int) : Int := (Int64.ofInt x <<< ((Int32.ofInt y).toInt64 &&& 63)).toInt
def z_div (x y : Int) : Int := (wr x).tdiv (wr y)
def z_rem (x y : Int) : Int := (wr x).tmod (wr y)
def z_ldiv (x y : Int) : Int := (wl x).tdiv (wl y)
def z_lrem (x y : Int) : Int := (wl x).tmod (wl y)
def z_cmp (x y : Int) : Int := if wl y < wl x then 1 else if wl x = wl y then 0 else -1
def z_b (x : Int) : Int := (x + 128) % 256 - 128
def z_cm (c : Jvm.ClassFile.Cond) (x y : Int) : Bool := match c with
  | .eq => decide (wr x = wr y)
  | .ne => decide (wr x ≠ wr y)
  | .lt => decide (wr x < wr y)
  | .ge => decide (wr y ≤ wr x)
  | .gt => decide (wr y < wr x)
  | .le => decide (wr x ≤ wr y)
def zget : List ZV → Nat → Option ZV
  | [], _ => none
  | u :: _, 0 => some u
  | _ :: t, n + 1 => zget t n
def zset : List ZV → Nat → ZV → List ZV
  | [], _, _ => []
  | _ :: t, 0, v => v :: t
  | u :: t, n + 1, v => u :: zset t n v
/-- what stays of a slot when the one behind it is written: a long goes -/
def zkeep (u : ZV) : ZV := match u with
  | .inr (.inl _) => zu
  | u => u
def zst1 : List ZV → Nat → ZV → List ZV
  | [], _, _ => []
  | _ :: t, 0, v => v :: t
  | u :: t, 1, v => zkeep u :: zset t 0 v
  | u :: t, n + 2, v => u :: zst1 t (n + 1) v
/-- a long into two slots -/
def zst2 : List ZV → Nat → ZV → List ZV
  | [], _, _ => []
  | _ :: t, 0, v => v :: zset t 0 zu
  | u :: t, 1, v => zkeep u :: zset (zset t 0 v) 1 zu
  | u :: t, n + 2, v => u :: zst2 t (n + 1) v
def zargs : List ZV → List ZV
  | [] => []
  | .inr (.inl x) :: t => zl x :: zu :: zargs t
  | v :: t => v :: zargs t
def zent (n : Nat) (as : List ZV) : List ZV := zargs as ++ List.replicate (n - (zargs as).length) zu
/-- an instruction: itself, the place behind it (or its goal), numbers that say what it means -/
abbrev ZE : Type := Instr × Nat × Nat × Nat × Nat × Int
abbrev ZO : Type := (Nat × List ZV × List ZV × ZH) ⊕ (Nat × List ZV × Nat × List ZV) ⊕ Option ZV
abbrev ZT : Type := List (List (Option ZE))
def zlk (T : ZT) (pc : Nat) : Option ZE := match znth T (pc / 16) with
  | none => none
  | some r => match znth r (pc % 16) with
    | none => none
    | some e => e
/-- the texts of the String constants -/
def zstr (k : Nat) : List Int := match k with
  | 0 => [115, 104, 111, 119, 32, 114, 111, 97, 100, 32, 99, 97, 114, 32, 103, 97, 112]
  | 1 => [110, 111, 116]
  | 2 => [97, 110, 100, 32, 111, 114]
  | 3 => [103, 111]
  | 4 => [105, 102]
  | _ => [99, 97, 114, 32, 114, 111, 97, 100, 32, 102, 117, 101, 108, 32, 119, 97, 105, 116, 105, 110, 103, 32, 98, 101, 104, 105, 110, 100, 32, 111, 110, 32, 111, 102, 102, 32, 114, 111, 117, 110, 100, 115, 32, 101, 118, 101, 114, 121, 32, 115, 116, 101, 112]
def zX : Nat := 10000000
def zcpy (f : ZF) (a0 a sp dp n : Nat) : ZF := fun k j => if k = a ∧ dp ≤ j ∧ j < dp + n then f a0 (sp + (j - dp)) else f k j
/-- how many words lie on the stack -/
def zwd : List ZV → Nat
  | [] => 0
  | .inr (.inl _) :: t => 2 + zwd t
  | _ :: t => 1 + zwd t
/-- jump -/
def zgo (q : Nat) (L st : List ZV) (h : ZH) : Option ZO := some (.inl (q, L, st, h))
def z_if (c : Bool) (t q : Nat) (L st : List ZV) (h : ZH) : Option ZO := if c = true then zgo t L st h else zgo q L st h
def z_get (q a b c : Nat) (L st : List ZV) (h : ZH) : Option ZO := match st with
  | .inr (.inr (.inl (some k))) :: st => if k < h.1.1.1 ∧ (h.1.2 k).1 = c then (if b = 1 then zgo q L (zl (h.2.1 k a) :: st) h else if b = 2 then zgo q L (zr (h.2.2 k a) :: st) h else zgo q L (zi (h.2.1 k a) :: st) h) else none
  | _ => none
def z_put (q a b c : Nat) (L st : List ZV) (h : ZH) : Option ZO := match st with
  | .inl x :: .inr (.inr (.inl (some k))) :: st => if (k < h.1.1.1 ∧ (h.1.2 k).1 = c) ∧ (b = 0 ∨ (b = 3 ∧ (x = 0 ∨ x = 1))) then zgo q L st (h.1, up2 h.2.1 k a x, h.2.2) else none
  | .inr (.inl x) :: .inr (.inr (.inl (some k))) :: st => if (k < h.1.1.1 ∧ (h.1.2 k).1 = c) ∧ b = 1 then zgo q L st (h.1, up2 h.2.1 k a x, h.2.2) else none
  | .inr (.inr (.inl x)) :: .inr (.inr (.inl (some k))) :: st => if (k < h.1.1.1 ∧ (h.1.2 k).1 = c) ∧ b = 2 then zgo q L st (h.1, h.2.1, up2 h.2.2 k a x) else none
  | _ => none
/-- array element read: kind t -/
def z_ald (t q : Nat) (L st : List ZV) (h : ZH) : Option ZO := match st with
  | .inl i :: .inr (.inr (.inl (some k))) :: st => if ((k < h.1.1.1 ∨ k = zX + 6) ∧ (h.1.2 k).1 = t) ∧ 0 ≤ i ∧ i < ((h.1.2 k).2 : Int) ∧ (h.1.2 k).2 ≤ 2147483647 then (if t = 103 then zgo q L (zl (h.2.1 k i.toNat) :: st) h else if 110 ≤ t then zgo q L (zr (h.2.2 k i.toNat) :: st) h else zgo q L (zi (h.2.1 k i.toNat) :: st) h) else none
  | _ => none
def z_ast (t q : Nat) (L st : List ZV) (h : ZH) : Option ZO := match st with
  | .inl x :: .inl i :: .inr (.inr (.inl (some k))) :: st => if ((k < h.1.1.1 ∧ (h.1.2 k).1 = t) ∧ 0 ≤ i ∧ i < ((h.1.2 k).2 : Int) ∧ (h.1.2 k).2 ≤ 2147483647) ∧ (t = 100 ∨ (t = 101 ∧ -128 ≤ x ∧ x ≤ 127) ∨ (t = 102 ∧ (x = 0 ∨ x = 1))) then zgo q L st (h.1, up2 h.2.1 k i.toNat x, h.2.2) else none
  | .inr (.inl x) :: .inl i :: .inr (.inr (.inl (some k))) :: st => if ((k < h.1.1.1 ∧ (h.1.2 k).1 = t) ∧ 0 ≤ i ∧ i < ((h.1.2 k).2 : Int) ∧ (h.1.2 k).2 ≤ 2147483647) ∧ t = 103 then zgo q L st (h.1, up2 h.2.1 k i.toNat x, h.2.2) else none
  | .inr (.inr (.inl (some x))) :: .inl i :: .inr (.inr (.inl (some k))) :: st => if ((k < h.1.1.1 ∧ (h.1.2 k).1 = t) ∧ 0 ≤ i ∧ i < ((h.1.2 k).2 : Int) ∧ (h.1.2 k).2 ≤ 2147483647) ∧ 110 ≤ t ∧ x < h.1.1.1 ∧ (h.1.2 x).1 + 110 = t then zgo q L st (h.1, h.2.1, up2 h.2.2 k i.toNat (some x)) else none
  | _ => none
/-- a new cell of kind t with n slots -/
def z_new (t n q : Nat) (L st : List ZV) (h : ZH) : Option ZO := if h.1.1.1 < 1000000 then zgo q L (zr (some h.1.1.1) :: st) (zNewS h.1 t n, zNewF h.1 h.2.1, zNewG h.1 h.2.2) else none
def z_newa (t q : Nat) (L st : List ZV) (h : ZH) : Option ZO := match st with
  | .inl n :: st => if 0 ≤ n ∧ n ≤ 100000 then z_new t n.toNat q L st h else none
  | _ => none
def z_len (q : Nat) (L st : List ZV) (h : ZH) : Option ZO := match st with
  | .inr (.inr (.inl (some k))) :: st => if (k < h.1.1.1 ∨ k = zX + 6) ∧ 100 ≤ (h.1.2 k).1 ∧ (h.1.2 k).2 ≤ 2147483647 then zgo q L (zi ((h.1.2 k).2 : Int) :: st) h else none
  | _ => none
/-- what is built in: Object's constructor, a text's length and signs, arraycopy, clone of an int array -/
def z_bi (d a q : Nat) (L st : List ZV) (h : ZH) : Option ZO := match a with
  | 1000 => (match st with
    | .inr (.inr (.inl (some _))) :: st => if zwd st ≤ 8 then zgo q L st h else none
    | _ => none)
  | 1001 => (match st with
    | .inr (.inr (.inl (some k))) :: st => if (zX ≤ k ∧ k < zX + 6) ∧ zwd st ≤ 8 ∧ 4 ≤ d then zgo q L (zi ((zstr (k - zX)).length : Int) :: st) h else none
    | _ => none)
  | 1002 => (match st with
    | .inl i :: .inr (.inr (.inl (some k))) :: st => if (zX ≤ k ∧ k < zX + 6) ∧ 0 ≤ i ∧ i < ((zstr (k - zX)).length : Int) ∧ zwd st ≤ 8 ∧ 4 ≤ d then zgo q L (zi ((zstr (k - zX)).getD i.toNat 0) :: st) h else none
    | _ => none)
  | 1004 => (match st with
    | .inr (.inr (.inl (some k))) :: st => if k < h.1.1.1 ∧ (h.1.2 k).1 = 100 ∧ h.1.1.1 < 1000000 ∧ zwd st ≤ 8 then zgo q L (zr (some h.1.1.1) :: st) (zNewS h.1 100 (h.1.2 k).2, (fun k' j => if k' = h.1.1.1 then h.2.1 k j else h.2.1 k' j), zNewG h.1 h.2.2) else none
    | _ => none)
  | 1003 => (match st with
    | .inl n :: .inl dp :: .inr (.inr (.inl (some k))) :: .inl sp :: .inr (.inr (.inl (some k0))) :: st => if zwd st ≤ 8 ∧ ((k < h.1.1.1 ∧ k0 < h.1.1.1) ∧ (h.1.2 k0).1 = (h.1.2 k).1 ∧ ((h.1.2 k).1 = 100 ∨ (h.1.2 k).1 = 101) ∧ (h.1.2 k).2 ≤ 2147483647 ∧ (h.1.2 k0).2 ≤ 2147483647) ∧ (0 ≤ sp ∧ 0 ≤ dp ∧ 0 ≤ n ∧ sp + n ≤ ((h.1.2 k0).2 : Int) ∧ dp + n ≤ ((h.1.2 k).2 : Int)) ∧ ((h.1.2 k).1 = 100 ∨ ∀ i, i < n.toNat → -128 ≤ h.2.1 k0 (sp.toNat + i) ∧ h.2.1 k0 (sp.toNat + i) ≤ 127) then zgo q L st (h.1, zcpy h.2.1 k0 k sp.toNat dp.toNat n.toNat, h.2.2) else none
    | _ => none)
  | _ => none
def zal (i : Instr) (st : List ZV) (v : Int) (a b : Nat) : Option (List ZV) := match i with
  | .iconst n => some (zi n :: st)
  | .bipush n => some (zi n :: st)
  | .sipush n => some (zi n :: st)
  | .lconst _ => some (zl v :: st)
  | .ldc _ => if b = 0 then some (zi v :: st) else some (zr (some a) :: st)
  | .ldc_w _ => some (zi v :: st)
  | .ldc2_w _ => some (zl v :: st)
  | .aconst_null => some (zr none :: st)
  | .iadd => (match st with | .inl y :: .inl x :: st => some (zi (x + y) :: st) | _ => none)
  | .isub => (match st with | .inl y :: .inl x :: st => some (zi (x - y) :: st) | _ => none)
  | .imul => (match st with | .inl y :: .inl x :: st => some (zi (x * y) :: st) | _ => none)
  | .idiv => (match st with | .inl y :: .inl x :: st => if wr y = 0 then none else some (zi (z_div x y) :: st) | _ => none)
  | .irem => (match st with | .inl y :: .inl x :: st => if wr y = 0 then none else some (zi (z_rem x y) :: st) | _ => none)
  | .iand => (match st with | .inl y :: .inl x :: st => some (zi (z_and x y) :: st) | _ => none)
  | .ior => (match st with | .inl y :: .inl x :: st => some (zi (z_or x y) :: st) | _ => none)
  | .ixor => (match st with | .inl y :: .inl x :: st => some (zi (z_xor x y) :: st) | _ => none)
  | .ishl => (match st with | .inl y :: .inl x :: st => some (zi (z_shl x y) :: st) | _ => none)
  | .ishr => (match st with | .inl y :: .inl x :: st => some (zi (z_shr x y) :: st) | _ => none)
  | .iushr => (match st with | .inl y :: .inl x :: st => some (zi (z_ushr x y) :: st) | _ => none)
  | .ladd => (match st with | .inr (.inl y) :: .inr (.inl x) :: st => some (zl (x + y) :: st) | _ => none)
  | .lsub => (match st with | .inr (.inl y) :: .inr (.inl x) :: st => some (zl (x - y) :: st) | _ => none)
  | .lmul => (match st with | .inr (.inl y) :: .inr (.inl x) :: st => some (zl (x * y) :: st) | _ => none)
  | .ldiv => (match st with | .inr (.inl y) :: .inr (.inl x) :: st => if wl y = 0 then none else some (zl (z_ldiv x y) :: st) | _ => none)
  | .lrem => (match st with | .inr (.inl y) :: .inr (.inl x) :: st => if wl y = 0 then none else some (zl (z_lrem x y) :: st) | _ => none)
  | .land => (match st with | .inr (.inl y) :: .inr (.inl x) :: st => some (zl (z_land x y) :: st) | _ => none)
  | .lor => (match st with | .inr (.inl y) :: .inr (.inl x) :: st => some (zl (z_lor x y) :: st) | _ => none)
  | .lshl => (match st with | .inl y :: .inr (.inl x) :: st => some (zl (z_lshl x y) :: st) | _ => none)
  | .lcmp => (match st with | .inr (.inl y) :: .inr (.inl x) :: st => some (zi (z_cmp x y) :: st) | _ => none)
  | .i2l => (match st with | .inl x :: st => some (zl (wr x) :: st) | _ => none)
  | .l2i => (match st with | .inr (.inl x) :: st => some (zi x :: st) | _ => none)
  | .i2b => (match st with | .inl x :: st => some (zi (z_b x) :: st) | _ => none)
  | .dup => (match st with | .inl x :: st => some (zi x :: zi x :: st) | .inr (.inr (.inl x)) :: st => some (zr x :: zr x :: st) | _ => none)
  | .dup2 => (match st with | .inl y :: .inr (.inr (.inl x)) :: st => some (zi y :: zr x :: zi y :: zr x :: st) | _ => none)
  | .pop => (match st with | .inl _ :: st => some st | .inr (.inr (.inl _)) :: st => some st | _ => none)
  | _ => none
/-- calls: of an object of class c, of no object, of a constructor -/
def z_cv (a b c q : Nat) (st : List ZV) (h : ZH) : Option ZO := match (st.take b).reverse with
  | .inr (.inr (.inl (some k))) :: As => if (b ≤ st.length ∧ zwd (st.drop b) ≤ 8) ∧ k < h.1.1.1 ∧ (h.1.2 k).1 = c then some (.inr (.inl (a, zr (some k) :: As, q, st.drop b))) else none
  | _ => none
def z_cs (a b q : Nat) (st : List ZV) : Option ZO := if b ≤ st.length ∧ zwd (st.drop b) ≤ 8 then some (.inr (.inl (a, (st.take b).reverse, q, st.drop b))) else none
def z_ci (a b q : Nat) (st : List ZV) (h : ZH) : Option ZO := match (st.take b).reverse with
  | .inr (.inr (.inl (some k))) :: As => if (b ≤ st.length ∧ zwd (st.drop b) ≤ 8) ∧ k < h.1.1.1 then some (.inr (.inl (a, zr (some k) :: As, q, st.drop b))) else none
  | _ => none
/-- one instruction -/
def zx (d : Nat) (e : ZE) (pc : Nat) (L st : List ZV) (h : ZH) : Option ZO := match e with
  | (i, q, a, b, c, v) => match i with
    | .iload _ | .iload_n _ => (match zget L a with
      | some (.inl x) => zgo q L (zi x :: st) h
      | _ => none)
    | .lload _ | .lload_n _ => (match zget L a with
      | some (.inr (.inl x)) => zgo q L (zl x :: st) h
      | _ => none)
    | .aload _ | .aload_n _ => (match zget L a with
      | some (.inr (.inr (.inl x))) => zgo q L (zr x :: st) h
      | _ => none)
    | .istore _ | .istore_n _ => (match st with
      | .inl x :: st => if a < L.length then zgo q (zst1 L a (zi x)) st h else none
      | _ => none)
    | .astore _ | .astore_n _ => (match st with
      | .inr (.inr (.inl x)) :: st => if a < L.length then zgo q (zst1 L a (zr x)) st h else none
      | _ => none)
    | .lstore _ | .lstore_n _ => (match st with
      | .inr (.inl x) :: st => if a + 1 < L.length then zgo q (zst2 L a (zl x)) st h else none
      | _ => none)
    | .iinc _ n => (match zget L a with
      | some (.inl x) => zgo q (zst1 L a (zi (x + n))) st h
      | _ => none)
    | .goto _ => zgo q L st h
    | .ifCond cm _ => (match st with
      | .inl x :: st => z_if (z_cm cm x 0) a q L st h
      | _ => none)
    | .if_icmp cm _ => (match st with
      | .inl y :: .inl x :: st => z_if (z_cm cm x y) a q L st h
      | _ => none)
    | .ifnull _ => (match st with
      | .inr (.inr (.inl x)) :: st => z_if x.isNone a q L st h
      | _ => none)
    | .ifnonnull _ => (match st with
      | .inr (.inr (.inl x)) :: st => z_if x.isSome a q L st h
      | _ => none)
    | .tableswitch dflt lo hi offs => (match st with
      | .inl x :: st => if wr x < lo ∨ hi < wr x then zgo ((pc : Int) + dflt).toNat L st h else (match offs.toList[(wr x - lo).toNat]? with
        | some off => zgo ((pc : Int) + off).toNat L st h
        | none => none)
      | _ => none)
    | .lookupswitch dflt ps => (match st with
      | .inl x :: st => zgo ((pc : Int) + Op.lookupswitch.offset ps.toList dflt (wr x)).toNat L st h
      | _ => none)
    | .getfield _ => z_get q a b c L st h
    | .putfield _ => z_put q a b c L st h
    | .iaload => z_ald 100 q L st h
    | .baload => z_ald (if a = 0 then 101 else 102) q L st h
    | .laload => z_ald 103 q L st h
    | .aaload => z_ald a q L st h
    | .iastore => z_ast 100 q L st h
    | .bastore => z_ast (if a = 0 then 101 else 102) q L st h
    | .lastore => z_ast 103 q L st h
    | .aastore => z_ast a q L st h
    | .arraylength => z_len q L st h
    | .checkcast _ => (match st with
      | .inr (.inr (.inl (some k))) :: _ => if k < h.1.1.1 ∧ (h.1.2 k).1 = 100 then zgo q L st h else none
      | _ => none)
    | .new _ => z_new a b q L st h
    | .newarray _ => z_newa a q L st h
    | .anewarray _ => z_newa a q L st h
    | .invokevirtual _ => if 1000 ≤ a then z_bi d a q L st h else z_cv a b c q st h
    | .invokestatic _ => if 1000 ≤ a then z_bi d a q L st h else z_cs a b q st
    | .invokespecial _ => if 1000 ≤ a then z_bi d a q L st h else z_ci a b q st h
    | .return_ => if c = 0 ∧ st = [] then some (.inr (.inr none)) else none
    | .ireturn => (match st with
      | [.inl x] => if c = 1 ∨ (c = 2 ∧ (x = 0 ∨ x = 1)) then some (.inr (.inr (some (zi x)))) else none
      | _ => none)
    | .lreturn => (match st with
      | [.inr (.inl x)] => if c = 3 then some (.inr (.inr (some (zl x)))) else none
      | _ => none)
    | .areturn => (match st with
      | [.inr (.inr (.inl x))] => if c = 4 then some (.inr (.inr (some (zr x)))) else none
      | _ => none)
    | i => (match zal i st v a b with
      | some st' => zgo q L st' h
      | none => none)
def zrun (d : Nat) (call : Nat → List ZV → ZH → Option (Option ZV × ZH)) (T : ZT) : Nat → Nat → List ZV → List ZV → ZH → Option (Option ZV × ZH)
  | 0, _, _, _, _ => none
  | n + 1, pc, L, st, h => match zlk T pc with
    | none => none
    | some e => match zx d e pc L st h with
      | none => none
      | some (.inl (q, L', st', h')) => zrun d call T n q L' st' h'
      | some (.inr (.inl (y, as, q, st'))) => (match call y as h with
        | none => none
        | some (r, h') => zrun d call T n q L (r.toList ++ st') h')
      | some (.inr (.inr r)) => some (r, h)
/-- method y's machine: at most d frames, each of at most n instructions -/
def zev (P : Nat → Nat × ZT) : Nat → Nat → Nat → List ZV → ZH → Option (Option ZV × ZH)
  | 0, _, _, _, _ => none
  | d + 1, n, y, as, h => if (zargs as).length ≤ (P y).1 then zrun d (zev P d n) (P y).2 n 0 (zent (P y).1 as) [] h else none
