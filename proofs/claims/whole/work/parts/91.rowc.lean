/-! The class's row -/
def qRow (a : AS) (n w : Int) : Int := match a.w.pn with
  | none => -1
  | some (pl, _) => if (1 ≤ n ∧ n ≤ 3) ∧ (0 ≤ w ∧ w ≤ 3) then (if w = 0 then (bF pl a.w.rd n.toNat (64 ^ n.toNat)).1 else if w ≤ n then (((dg n.toNat (bF pl a.w.rd n.toNat (64 ^ n.toNat)).2.toNat).getD (w.toNat - 1) 0 : Nat) : Int) else -2) else -1
/-- an array begins with these -/
def ArL (s : Nat → Int) (l : List Nat) : Prop := ∀ i, i < l.length → s i = ((l.getD i 0 : Nat) : Int)
/-- what a search from this depth on may change -/
def FrT (e : Nat) (f f' : ZF) : Prop := (∀ c, (c < 22 ∨ (28 ≤ c ∧ c < 35 + 6 * e) ∨ 46 < c) → f' c = f c) ∧ ∀ i, i < e → f' 27 i = f 27 i
theorem FrT.rf (e : Nat) (f : ZF) : FrT e f f := ⟨fun _ _ => rfl, fun _ _ => rfl⟩
theorem FrT.trans {e : Nat} {a b c : ZF} (h1 : FrT e a b) (h2 : FrT e b c) : FrT e a c := ⟨fun k q => (h2.1 k q).trans (h1.1 k q), fun i q => (h2.2 i q).trans (h1.2 i q)⟩
theorem FrT.up {e k i : Nat} {f0 f : ZF} {v : Int} (h : FrT e f0 f) (hk : (22 ≤ k ∧ k ≤ 26) ∨ (k = 27 ∧ e ≤ i)) : FrT e f0 (up2 f k i v) := ⟨fun c q => (up2_o _ _ (by omega)).trans (h.1 c q), fun j q => (up2_ne _ _ (by omega)).trans (h.2 j q)⟩
theorem FrT.c {e r : Nat} {f0 f f' : ZF} (h : FrT e f0 f) (h' : FrC r f f') (hr : 35 + 6 * e ≤ r ∧ r ≤ 41) : FrT e f0 f' := ⟨fun c q => (h'.1 c (by omega) (by omega) (by omega) (by omega)).trans (h.1 c q), fun j q => (congrFun (h'.1 27 (by omega) (by omega) (by omega) (by omega)) j).trans (h.2 j q)⟩
theorem FrT.r {e r : Nat} {f0 f f' : ZF} (h : FrT e f0 f) (h' : FrR r f f') (hr : 35 + 6 * e ≤ r ∧ r ≤ 41) : FrT e f0 f' := ⟨fun c q => (h' c (by omega)).trans (h.1 c q), fun j q => (congrFun (h' 27 (by omega)) j).trans (h.2 j q)⟩
theorem FrT.cp {e : Nat} {f0 f : ZF} (h : FrT e f0 f) : FrT e f0 (zcpy f 27 26 0 0 3) := ⟨fun c q => (zcpy_o (by omega)).trans (h.1 c q), fun j q => (congrFun (zcpy_o (by omega)) j).trans (h.2 j q)⟩
theorem FrT.deep {e : Nat} {f f' : ZF} (h : FrT (e + 1) f f') : FrT e f f' := ⟨fun c q => h.1 c (by omega), fun j q => h.2 j (by omega)⟩
theorem FrT.q {f f' : ZF} (h : FrT 0 f f') : FrQ f f' := fun c q => h.1 c (by omega)
theorem ArL.app {s : Nat → Int} {l : List Nat} {x : Nat} (h : ArL s l) (hx : s l.length = (x : Int)) : ArL s (l ++ [x]) := by
  intro i hi
  rw [List.length_append] at hi
  simp only [List.length_cons, List.length_nil] at hi
  by_cases e : i = l.length
  · subst e
    rw [hx]
    simp [List.getD]
  · rw [h i (by omega)]
    simp [List.getD, List.getElem?_append_left (show i < l.length by omega)]
theorem ArL.cg {s s' : Nat → Int} {l : List Nat} (h : ArL s l) (e : ∀ i, i < l.length → s' i = s i) : ArL s' l := fun i hi => (e i hi).trans (h i hi)
theorem rNf_y {P : Nat → Bool} {k : Nat} (h : P k = true) : rNf P (k + 1) = rNf P k ||| 2 ^ k := by
  show rNf P k ||| (if P k = true then 2 ^ k else 0) = _
  rw [if_pos h]
theorem rNf_n {P : Nat → Bool} {k : Nat} (h : ¬ P k = true) : rNf P (k + 1) = rNf P k := by
  show rNf P k ||| (if P k = true then 2 ^ k else 0) = rNf P k
  rw [if_neg h]
  exact Nat.or_zero _
theorem cS_rN (pl : Pl) (rd : Rd) : cnt (rN pl rd).testBit 20 = cS pl (rN pl rd) rd := by
  unfold cS
  refine cnt_congr 20 (fun i _ => ?_)
  rw [rN_bit]
  cases decide (i < 6) <;> cases rdy pl rd i <;> rfl
section ROWX
variable {pl : Pl} {rd : Rd}
theorem Upd.rng {g : Int} {pre : List Nat} {X : List Nat → Prop} {m m' : Int} {c c' : List Nat} {j : Nat} (h : Upd pl g pre rd X m c m' c') (hX : ∀ r, X r → r.length = j) : m ≤ m' ∧ (m' ≤ m ∨ m' ≤ g + 20 * (j : Int)) := by
  rcases h with ⟨⟨h1, _⟩, _⟩ | ⟨r, h1, _, h2, h3, _⟩
  · omega
  · have := (tot_nn (pl := pl) r rd).2
    rw [hX r h1] at this
    omega
theorem cand_one {r : List Nat} : (cand pl rd r ∧ r.length = 1) ↔ r = [rN pl rd] := by
  constructor
  · intro ⟨h1, h2⟩
    match r, h1, h2 with
    | [s], h1, _ => rw [h1.2.2.1 rfl]
  · intro h
    subst h
    exact ⟨⟨rN_lt pl rd, fun k hk q => by rw [rN_bit] at q; simp only [Bool.and_eq_true] at q; exact q.2, fun _ => rfl, trivial⟩, rfl⟩
theorem Upd.lf {g : Int} {pre : List Nat} {m : Int} {c : List Nat} (h : m < g + cS pl (rN pl rd) rd) : Upd pl g pre rd (fun r => cand pl rd r ∧ r.length = 1) m c (g + cS pl (rN pl rd) rd) (pre ++ [rN pl rd]) := by
  have e : tot pl rd [rN pl rd] = cS pl (rN pl rd) rd := by show cS pl (rN pl rd) rd + 0 = _; omega
  refine Or.inr ⟨[rN pl rd], cand_one.2 rfl, rfl, by rw [e], h, fun r2 hr => ?_, fun r2 hr hlt => ?_⟩
  · rw [cand_one.1 hr, e]; omega
  · rw [cand_one.1 hr] at hlt; omega
theorem Upd.ln {g : Int} {pre : List Nat} {m : Int} {c : List Nat} (h : g + cS pl (rN pl rd) rd ≤ m) : Upd pl g pre rd (fun r => cand pl rd r ∧ r.length = 1) m c m c := by
  have e : tot pl rd [rN pl rd] = cS pl (rN pl rd) rd := by show cS pl (rN pl rd) rd + 0 = _; omega
  refine Or.inl ⟨⟨rfl, rfl⟩, fun r hr => ?_⟩
  rw [cand_one.1 hr, e]; exact h
/-- rows that begin below s -/
def Hd (pl : Pl) (rd : Rd) (j s : Nat) (r : List Nat) : Prop := cand pl rd r ∧ r.length = j ∧ ∃ h t, r = h :: t ∧ h < s
theorem Hd.zero {j : Nat} {r : List Nat} : ¬ Hd pl rd j 0 r := by
  intro ⟨_, _, h, t, _, q⟩; omega
theorem Hd.all {j : Nat} (hj : 1 ≤ j) {r : List Nat} : Hd pl rd j 64 r ↔ (cand pl rd r ∧ r.length = j) := by
  constructor
  · intro h; exact ⟨h.1, h.2.1⟩
  · intro ⟨h1, h2⟩
    match r, h1, h2 with
    | [], _, h2 => simp at h2; omega
    | s :: t, h1, h2 => exact ⟨h1, h2, s, t, rfl, h1.1⟩
theorem Hd.no {j s : Nat} (h : ¬ ∀ k, k < 6 → s.testBit k = true → rdy pl rd k = true) {r : List Nat} : Hd pl rd j s r ↔ Hd pl rd j (s + 1) r := by
  constructor
  · intro ⟨a, b, x, t, e, q⟩; exact ⟨a, b, x, t, e, by omega⟩
  · intro ⟨a, b, x, t, e, q⟩
    refine ⟨a, b, x, t, e, ?_⟩
    by_cases q2 : x = s
    · subst q2; subst e; exact absurd a.2.1 h
    · omega
theorem Hd.yes {j s : Nat} (hs : s < 64) (hj : 1 ≤ j) (h : ∀ k, k < 6 → s.testBit k = true → rdy pl rd k = true) {r : List Nat} : (Hd pl rd (j + 1) s r ∨ ∃ r', r = s :: r' ∧ cand pl (tS pl s rd) r' ∧ r'.length = j) ↔ Hd pl rd (j + 1) (s + 1) r := by
  constructor
  · intro q
    rcases q with ⟨a, b, x, t, e, q⟩ | ⟨r', e, a, b⟩
    · exact ⟨a, b, x, t, e, by omega⟩
    · subst e
      exact ⟨⟨hs, h, fun q => by rw [q] at b; simp at b; omega, a⟩, by simp [b], s, r', rfl, by omega⟩
  · intro ⟨a, b, x, t, e, q⟩
    by_cases q2 : x = s
    · subst q2; subst e
      exact Or.inr ⟨t, rfl, a.2.2.2, by simpa using b⟩
    · exact Or.inl ⟨a, b, x, t, e, by omega⟩
theorem Hd.lt {j s : Nat} {a b : List Nat} (h1 : Hd pl rd (j + 1) s a) (h2 : ∃ r', b = s :: r' ∧ cand pl (tS pl s rd) r' ∧ r'.length = j) : cdR a < cdR b := by
  obtain ⟨c1, c2, x, t, rfl, q⟩ := h1
  obtain ⟨r', rfl, _, e2⟩ := h2
  have hl := cdR_lt t (fun y hy => cand.lt _ _ c1 y (List.mem_cons_of_mem _ hy))
  have el : t.length = j := by simpa using c2
  show x * 64 ^ t.length + cdR t < s * 64 ^ r'.length + cdR r'
  rw [el] at hl ⊢
  rw [e2]
  have : (x + 1) * 64 ^ j ≤ s * 64 ^ j := Nat.mul_le_mul_right _ q
  rw [Nat.add_mul, Nat.one_mul] at this
  omega
end ROWX
section ROWC
variable {d : Nat} {σ : ZS} {f f0 f' : ZF} {g g' : ZG} {Q : ZQ} {N : Int} {rd : Rd} {p : Nat} {pl : Pl} {rd0 : Rd} {al : Rd → Nat → Bool} {cl : Int} {a : AS} {r : Nat}
theorem l_ready (hd1 : 1 ≤ d) (ht : TR σ f g p pl al cl) (hk' : RrOk r) (hr : RO σ g r) (h : RC f r rd) (hv : RdOk pl.1 pl.2.1 N rd) (K : Q (some (zi ((rN pl rd : Nat) : Int))) σ f g) (k : Nat) (hk : k ≤ 6) : ZWp d zt101 4 [zr (some 22), zr (some r), zi ((rNf (rdy pl rd) k : Nat) : Int), zi (k : Int)] [] σ f g Q := by
  have hr' := hr
  obtain ⟨oo, ⟨a1, a2, a3, a4, a5⟩, g0, g1, g2, g3, g4⟩ := hr
  have hlt : rNf (rdy pl rd) k < 64 := Nat.lt_of_lt_of_le (rNf_lt _ k) (Nat.pow_le_pow_right (n := 2) (by omega) hk)
  refine r_iload_n rfl rfl ?_
  refine r_bipush rfl ?_
  refine r_icmp_ge rfl (by omega) (by omega) (fun hlt6 => ?_) (fun hlt6 => ?_)
  · have e : k = 6 := by omega
    subst e
    refine r_iload_n rfl rfl ?_
    refine r_iret rfl ?_
    exact K
  · refine r_aload_n rfl rfl ?_
    refine r_getR rfl (by first | assumption | exact hs.o rfl) g2 ?_
    refine r_iload_n rfl rfl ?_
    have hcr := h.1 k (by omega)
    have hok := hv.2.2.1 k (by omega)
    refine r_iald rfl (by first | assumption | exact hs.a rfl) (by omega) (by omega) ((zix (n := k) (by omega)).trans hcr.2.2.1) ?_
    refine r_if_le rfl (by omega) (fun hfu => ?_) (fun hfu => ?_)
    · refine r_iinc (L' := [_, _, _, _]) rfl rfl rfl ?_
      refine r_goto rfl ?_
      have := l_ready hd1 ht hk' hr' h hv K (k + 1) (by omega)
      rw [rNf_n (fun q => by have := of_decide_eq_true q; omega)] at this
      exact this
    · refine r_aload_n rfl rfl ?_
      refine r_aload_n rfl rfl ?_
      refine r_iload_n rfl rfl ?_
      refine r_callV2 rfl rfl ht.1.o rfl (k_isAt (by omega) hk' hr' ht.1.o ht.1.gp ht.1.po ht.1.p240 ht.2.1 ht.2.2.1 rfl rfl h hv (by omega) (fun q0 hat => ?_) (fun hnat => ?_))
      · refine r_if_n rfl (by decide) ?_
        refine r_iload_n rfl rfl ?_
        refine r_iconst rfl ?_
        refine r_iload_n rfl rfl ?_
        refine r_ishl rfl ?_
        refine r_ior rfl ?_
        refine r_istore_n (L' := [_, _, _, _]) rfl rfl rfl ?_
        refine r_iinc (L' := [_, _, _, _]) rfl rfl rfl ?_
        refine r_goto rfl ?_
        have := l_ready hd1 ht hk' hr' h hv K (k + 1) (by omega)
        rw [rNf_y (decide_eq_true ⟨by omega, by omega, hat⟩), ← z_or_nat (by omega) (Nat.lt_of_lt_of_le (Nat.pow_lt_pow_right (by omega) (show k < 31 by omega)) (by decide)), ← z_shl_one (by omega)] at this
        exact this
      · refine r_if_y rfl (by decide) ?_
        refine r_iinc (L' := [_, _, _, _]) rfl rfl rfl ?_
        refine r_goto rfl ?_
        have := l_ready hd1 ht hk' hr' h hv K (k + 1) (by omega)
        rw [rNf_n (fun q => by have := of_decide_eq_true q; exact hnat ⟨by omega, this.2.2⟩)] at this
        exact this
termination_by 6 - k
theorem k_ready (hd : 2 ≤ d) (ht : TR σ f g p pl al cl) (hk' : RrOk r) (hr : RO σ g r) (h : RC f r rd) (hv : RdOk pl.1 pl.2.1 N rd) (K : Q (some (zi ((rN pl rd : Nat) : Int))) σ f g) : ZCt d 101 [zr (some 22), zr (some r)] σ f g Q := by
  refine ZCt.of' (L0 := [_, _, _, _]) (by omega) rfl rfl rfl (fun d hd1 => ?_)
  refine r_iconst rfl ?_
  refine r_istore_n (L' := [_, _, _, _]) rfl rfl rfl ?_
  refine r_iconst rfl ?_
  refine r_istore_n (L' := [_, _, _, _]) rfl rfl rfl ?_
  exact l_ready (by omega) ht hk' hr h hv K 0 (by omega)
theorem k_keepIf (hd : 1 ≤ d) (hs : Sh σ g) {x m : Int} (hx : IR x) (hm : IR m) (h : f 25 0 = m) (k1 : x ≤ m → Q none σ f g) (k2 : m < x → Q none σ (zcpy (up2 f 25 0 x) 27 26 0 0 3) g) : ZCt d 102 [zr (some 25), zi x] σ f g Q := by
  refine ZCt.of' (L0 := [_, _]) (by omega) rfl rfl rfl (fun d hd1 => ?_)
  refine r_iload_n rfl rfl ?_
  refine r_aload_n rfl rfl ?_
  refine r_getI rfl (by first | assumption | exact hs.o rfl) h ?_
  refine r_icmp_le rfl (by omega) (by omega) (fun hle => ?_) (fun hle => ?_)
  · refine r_ret rfl ?_
    first | exact k1 (by omega) | exact k2 (by omega)
  · refine r_aload_n rfl rfl ?_
    refine r_iload_n rfl rfl ?_
    refine r_putI rfl (by first | assumption | exact hs.o rfl) ?_
    refine r_aload_n rfl rfl ?_
    refine r_getR rfl (by first | assumption | exact hs.o rfl) (by first | assumption | exact hs.g rfl) ?_
    refine r_iconst rfl ?_
    refine r_aload_n rfl rfl ?_
    refine r_getR rfl (by first | assumption | exact hs.o rfl) (by first | assumption | exact hs.g rfl) ?_
    refine r_iconst rfl ?_
    refine r_iconst rfl ?_
    refine r_acopy rfl rfl (by first | assumption | exact hs.a rfl) (by first | assumption | exact hs.a rfl) (by omega) (by omega) (by omega) (Or.inl rfl) ?_
    refine r_ret rfl ?_
    first | exact k1 (by omega) | exact k2 (by omega)
theorem rr25 : RrOk 25 := by unfold RrOk; omega
theorem rrT {e : Nat} (h : e ≤ 2) : RrOk (29 + 6 * e) := by unfold RrOk; omega
theorem TR.t27 {c i : Nat} {v : Int} (h : TR σ f g p pl al cl) (hc : 25 ≤ c ∧ c ≤ 30) : TR σ (up2 f c i v) g p pl al cl := h.fr rr25 ((FrC.rf 25 f).up rr25 (by omega))
theorem TR.cp (h : TR σ f g p pl al cl) : TR σ (zcpy f 27 26 0 0 3) g p pl al cl := h.fr rr25 ⟨fun c q1 q2 q3 q4 => zcpy_o (by omega), fun i q => congrFun (zcpy_o (by omega)) i⟩
/-- what is so while sets are tried -/
def TSt (σ : ZS) (f : ZF) (g : ZG) (p : Nat) (pl : Pl) (m : Int) (c : List Nat) : Prop := (∃ al, TR σ f g p pl al (-1)) ∧ f 25 0 = m ∧ ArL (f 26) c ∧ (-1 ≤ m ∧ m ≤ 100)
def TryP (σ : ZS) (g : ZG) (p : Nat) (pl : Pl) (n j : Nat) : Prop := ∀ (d e : Nat) (f : ZF) (Q : ZQ) (gg m : Int) (pre c : List Nat) (rd : Rd) (N : Int), 5 + j ≤ d → e + j = n → 1 ≤ j → TSt σ f g p pl m c → RC f (29 + 6 * e) rd → VS pl N (-1) rd → N + 7 * (j : Int) ≤ 1000000 → pre.length = e → ArL (f 27) pre → (0 ≤ gg ∧ gg ≤ 20 * (e : Int)) →
  (∀ f' m' c', Upd pl gg pre rd (fun r => cand pl rd r ∧ r.length = j) m c m' c' → TSt σ f' g p pl m' c' → FrT e f f' → Q none σ f' g) → ZCt d 100 [zr (some 25), zr (some 22), zi (e : Int), zi (n : Int), zi gg] σ f g Q
theorem l_sets {n j : Nat} (hs : Sh σ g) (hn : n ≤ 3) (hj : 1 ≤ j) (IH : TryP σ g p pl n j) (hd1 : 5 + j ≤ d) {e : Nat} (he : e + (j + 1) = n) {f0 : ZF} {gg m0 : Int} {pre c0 : List Nat} (h0 : RC f0 (29 + 6 * e) rd) (hv : VS pl N (-1) rd) (hN : N + 7 * ((j + 1 : Nat) : Int) ≤ 1000000) (hpl : pre.length = e) (hpre : ArL (f0 27) pre) (hgg : 0 ≤ gg ∧ gg ≤ 20 * (e : Int))
  (K : ∀ f' m' c', Upd pl gg pre rd (fun r => cand pl rd r ∧ r.length = j + 1) m0 c0 m' c' → TSt σ f' g p pl m' c' → FrT e f0 f' → Q none σ f' g) (s : Nat) (hs64 : s ≤ 64) (f : ZF) (m : Int) (c : List Nat) (x : ZV) (hU : Upd pl gg pre rd (Hd pl rd (j + 1) s) m0 c0 m c) (hT : TSt σ f g p pl m c) (hF : FrT e f0 f) : ZWp d zt100 54 [zr (some 25), zr (some 22), zi (e : Int), zi (n : Int), zi gg, zi ((rN pl rd : Nat) : Int), zi (s : Int), x] [] σ f g Q := by
  have hR := rN_lt pl rd
  have hr1 := (hs.rs (i := e) (by omega))
  have hr2 := (hs.rs (i := e + 1) (by omega))
  obtain ⟨z, ez, zle, zb⟩ := z_clr_nat (a := s) (b := rN pl rd) (by omega) (by omega)
  have hT' := hT
  obtain ⟨⟨al, ht⟩, hm, hca, hmr⟩ := hT
  have hrc : RC f (29 + 6 * e) rd := h0.fr (fun c q1 q2 => hF.1 c (by omega))
  refine r_iload rfl rfl ?_
  refine r_bipush rfl ?_
  refine r_icmp_ge rfl (by omega) (by omega) (fun h58 => ?_) (fun h58 => ?_)
  · have e1 : s = 64 := by omega
    subst e1
    refine r_ret rfl ?_
    exact K f m c (hU.cg (fun r => Hd.all (by omega))) hT' hF
  · refine r_iload rfl rfl ?_
    refine r_iload rfl rfl ?_
    refine r_iconst rfl ?_
    refine r_ixor rfl ?_
    refine r_iand rfl ?_
    rw [ez]
    refine r_if_ne rfl (by omega) (fun h68 => ?_) (fun h68 => ?_)
    · refine r_iinc (L' := [_, _, _, _, _, _, _, _]) rfl rfl rfl ?_
      refine r_goto rfl ?_
      have hns : ¬ ∀ k, k < 6 → s.testBit k = true → rdy pl rd k = true := fun q => by
        apply h68
        have hz : z = 0 := bits_eq (by omega) (by omega) (fun k hk => by
          rw [zb k, Nat.zero_testBit, rN_bit]
          cases hb : s.testBit k with
          | false => rfl
          | true => rw [q k hk hb]; simp [hk])
        omega
      exact l_sets hs hn hj IH hd1 he h0 hv hN hpl hpre hgg K (s + 1) (by omega) f m c _ (hU.cg (fun r => Hd.no hns)) hT' hF
    · refine r_aload_n rfl rfl ?_
      refine r_getR rfl (by first | assumption | exact hs.o rfl) (by first | assumption | exact hs.g rfl) ?_
      refine r_iload_n rfl rfl ?_
      refine r_iconst rfl ?_
      refine r_iadd rfl ?_
      refine r_aald rfl (by first | assumption | exact hs.a rfl) (by omega) (by omega) rfl ((congrArg (g 28) (show ((e : Int) + 1).toNat = e + 1 by omega)).trans (hs.rs (i := e + 1) (by omega)).1) ?_
      refine r_aload_n rfl rfl ?_
      refine r_getR rfl (by first | assumption | exact hs.o rfl) (by first | assumption | exact hs.g rfl) ?_
      refine r_iload_n rfl rfl ?_
      refine r_aald rfl (by first | assumption | exact hs.a rfl) (by omega) (by omega) rfl ((congrArg (g 28) (show ((e : Nat) : Int).toNat = e by omega)).trans (hs.rs (i := e) (by omega)).1) ?_
      refine r_callV1 rfl rfl hr2.2.1 rfl (k_copyFrom (rd := rd) (by omega) hr2.2 hr1.2 (by omega) hrc (fun f1 hf1 hc1 => ?_))
      have ht1 := ht.fr (rrT (e := e + 1) (by omega)) ((FrC.rf _ f).r (rrT (e := e + 1) (by omega)) hf1)
      have ht2 := ht1.set (s := (s : Int)) (by omega)
      refine r_aload_n rfl rfl ?_
      refine r_iload rfl rfl ?_
      refine r_putI rfl (by first | assumption | exact hs.o rfl) ?_
      refine r_aload_n rfl rfl ?_
      refine r_getR rfl (by first | assumption | exact hs.o rfl) (by first | assumption | exact hs.g rfl) ?_
      refine r_iload_n rfl rfl ?_
      refine r_iload rfl rfl ?_
      refine r_iastN (e) rfl (by first | assumption | exact hs.a rfl) (by omega) (by omega) (by omega) ?_
      refine r_aload_n rfl rfl ?_
      refine r_aload_n rfl rfl ?_
      refine r_getR rfl (by first | assumption | exact hs.o rfl) (by first | assumption | exact hs.g rfl) ?_
      refine r_iload_n rfl rfl ?_
      refine r_iconst rfl ?_
      refine r_iadd rfl ?_
      refine r_aald rfl (by first | assumption | exact hs.a rfl) (by omega) (by omega) rfl ((congrArg (g 28) (show ((e : Int) + 1).toNat = e + 1 by omega)).trans (hs.rs (i := e + 1) (by omega)).1) ?_
      have ht3 := ht2.t27 (c := 27) (i := e) (v := (s : Int)) (by omega)
      have hc3 : RC (up2 (up2 f1 22 3 (s : Int)) 27 e (s : Int)) (29 + 6 * (e + 1)) rd := hc1.fr (fun c q1 q2 => by rw [up2_o _ _ (by omega), up2_o _ _ (by omega)])
      refine r_callV1 rfl rfl ht.1.o rfl (k_drv (N := N) (by omega) ht3 (rrT (by omega)) hr2.2 hc3 hv (by omega) (fun f2 hf2 ht4 hc4 _ => ?_))
      refine r_istore (L' := [_, _, _, _, _, _, _, _]) rfl rfl rfl ?_
      refine r_aload_n rfl rfl ?_
      refine r_aload_n rfl rfl ?_
      refine r_iload_n rfl rfl ?_
      refine r_iconst rfl ?_
      refine r_iadd rfl ?_
      refine r_iload_n rfl rfl ?_
      refine r_iload rfl rfl ?_
      refine r_iload rfl rfl ?_
      refine r_callS1 rfl rfl rfl (c_bitCount (by omega) (tS_bits (by omega)) ?_)
      have hcs := cS_nn pl s rd
      refine r_iadd rfl ?_
      have hF2 : FrT e f0 f2 := FrT.c (((hF.r hf1 (by omega)).up (k := 22) (i := 3) (v := (s : Int)) (by omega)).up (k := 27) (i := e) (v := (s : Int)) (by omega)) hf2 (by omega)
      have e25 : f2 25 = f 25 := by rw [hf2.1 25 (by omega) (by omega) (by omega) (by omega), up2_o _ _ (by omega), up2_o _ _ (by omega), hf1 25 (by omega)]
      have e26 : f2 26 = f 26 := by rw [hf2.1 26 (by omega) (by omega) (by omega) (by omega), up2_o _ _ (by omega), up2_o _ _ (by omega), hf1 26 (by omega)]
      have e27 : f2 27 e = (s : Int) := by rw [hf2.1 27 (by omega) (by omega) (by omega) (by omega), up2_same]
      have hpre2 : ArL (f2 27) (pre ++ [s]) := ArL.app (hpre.cg (fun i hi => hF2.2 i (by omega))) (by rw [hpl]; exact e27)
      show ZWp _ _ _ _ (zi (gg + cS pl s rd) :: _) _ _ _ _
      rw [show ((e : Int) + 1) = ((e + 1 : Nat) : Int) by omega]
      refine r_callV4 rfl rfl (by first | assumption | exact hs.o rfl) rfl (IH _ (e + 1) f2 _ (gg + cS pl s rd) m (pre ++ [s]) c (tS pl s rd) (N + 7) (by omega) (by omega) hj ⟨⟨_, ht4⟩, (congrFun e25 0).trans hm, hca.cg (fun i _ => congrFun e26 i), hmr⟩ hc4 (hv.step ht.2.2.1 (by omega)) (by omega) (by simp [hpl]) hpre2 (by omega) (fun f3 m3 c3 hU3 hT3 hF3 => ?_))
      refine r_iinc (L' := [_, _, _, _, _, _, _, _]) rfl rfl rfl ?_
      refine r_goto rfl ?_
      have hsub : ∀ k, k < 6 → s.testBit k = true → rdy pl rd k = true := fun k hk q => by
        have hz : z = 0 := by omega
        have := zb k
        rw [hz, Nat.zero_testBit, q, rN_bit] at this
        revert this
        simp [hk]
      refine l_sets hs hn hj IH hd1 he h0 hv hN hpl hpre hgg K (s + 1) (by omega) f3 m3 c3 _ ((hU.app hU3.cons (fun a b q1 q2 => Hd.lt q1 q2)).cg (fun r => Hd.yes (by omega) hj hsub)) hT3 (hF2.trans hF3.deep)
termination_by 64 - s
theorem k_trySets {n : Nat} (hs : Sh σ g) (hn : n ≤ 3) : ∀ j : Nat, TryP σ g p pl n j := by
  intro j
  induction j with
  | zero => intro d e f Q gg m pre c rd N _ _ h1; omega
  | succ j IH =>
    intro d e f Q gg m pre c rd N hd he h1 hT hc hv hN hpl hpre hgg K
    have hT' := hT
    obtain ⟨⟨al, ht⟩, hm, hca, hmr⟩ := hT
    have hr1 := (hs.rs (i := e) (by omega))
    refine ZCt.of' (L0 := [_, _, _, _, _, _, _, _]) (by omega) rfl rfl rfl (fun d hd1 => ?_)
    refine r_iload_n rfl rfl ?_
    refine r_iload_n rfl rfl ?_
    refine r_icmp_ge rfl (by omega) (by omega) (fun h2 => ?_) (fun h2 => ?_)
    · exact absurd h2 (by omega)
    · refine r_iload_n rfl rfl ?_
      refine r_iconst rfl ?_
      refine r_icmp_lt rfl (by omega) (by omega) (fun h7 => ?_) (fun h7 => ?_)
      · refine r_aload_n rfl rfl ?_
        refine r_aload_n rfl rfl ?_
        refine r_getR rfl (by first | assumption | exact hs.o rfl) (by first | assumption | exact hs.g rfl) ?_
        refine r_iload_n rfl rfl ?_
        refine r_aald rfl (by first | assumption | exact hs.a rfl) (by omega) (by omega) rfl ((congrArg (g 28) (show ((e : Nat) : Int).toNat = e by omega)).trans (hs.rs (i := e) (by omega)).1) ?_
        refine r_callV1 rfl rfl ht.1.o rfl (k_ready (by omega) ht (rrT (by omega)) (hs.rs (i := e) (by omega)).2 hc hv.1 ?_)
        refine r_istore (L' := [_, _, _, _, _, _, _, _]) rfl rfl rfl ?_
        refine r_iload_n rfl rfl ?_
        refine r_iload_n rfl rfl ?_
        refine r_iconst rfl ?_
        refine r_isub rfl ?_
        refine r_icmp_ne rfl (by omega) (by omega) (fun h27 => ?_) (fun h27 => ?_)
        · refine r_iconst rfl ?_
          refine r_istore (L' := [_, _, _, _, _, _, _, _]) rfl rfl rfl ?_
          exact l_sets hs hn (by omega) IH (by omega) he hc hv hN hpl hpre hgg K 0 (by omega) f m c _ (Upd.none (fun r => Hd.zero)) hT' (FrT.rf e f)
        · refine r_aload_n rfl rfl ?_
          refine r_getR rfl (by first | assumption | exact hs.o rfl) (by first | assumption | exact hs.g rfl) ?_
          refine r_iload_n rfl rfl ?_
          refine r_iload rfl rfl ?_
          refine r_iastN (e) rfl (by first | assumption | exact hs.a rfl) (by omega) (by omega) (by omega) ?_
          refine r_aload_n rfl rfl ?_
          refine r_iload rfl rfl ?_
          refine r_iload rfl rfl ?_
          refine r_callS1 rfl rfl rfl (c_bitCountN (by omega) (Nat.lt_trans (rN_lt pl rd) (by decide)) ?_)
          rw [cS_rN]
          have hcs := cS_nn pl (rN pl rd) rd
          refine r_iadd rfl ?_
          refine r_callV1 rfl rfl (by first | assumption | exact hs.o rfl) rfl (k_keepIf (m := m) (by omega) hs (by unfold IR; omega) (by unfold IR; omega) ((congrFun (up2_o _ _ (by omega)) _).trans hm) (fun hle => ?_) (fun hlt => ?_)  )
          · refine r_ret rfl ?_
            have hj0 : j = 0 := by omega
            subst hj0
            exact K _ m c (Upd.ln hle) ⟨⟨_, ht.t27 (by omega)⟩, (congrFun (up2_o _ _ (by omega)) _).trans hm, hca.cg (fun i _ => congrFun (up2_o _ _ (by omega)) i), hmr⟩ ((FrT.rf e f).up (by omega))
          · refine r_ret rfl ?_
            have hj0 : j = 0 := by omega
            subst hj0
            have hl1 : (pre ++ [rN pl rd]).length ≤ 3 := by simp [hpl]; omega
            refine K _ (gg + cS pl (rN pl rd) rd) (pre ++ [rN pl rd]) (Upd.lf hlt) ⟨⟨_, TR.cp ((ht.t27 (by omega)).t27 (by omega))⟩, (congrFun (zcpy_o (by omega)) _).trans (up2_same _ _ _ _), ?_, by omega⟩ (FrT.cp (((FrT.rf e f).up (by omega)).up (by omega)))
            have hb : ArL ((up2 (up2 f 27 e ((rN pl rd : Nat) : Int)) 25 0 (gg + cS pl (rN pl rd) rd)) 27) (pre ++ [rN pl rd]) := by
              rw [up2_o _ _ (by omega)]
              refine ArL.app (hpre.cg (fun i hi => up2_ne _ _ (by omega))) ?_
              rw [hpl, up2_same]
            exact hb.cg (fun i hi => zcpy_at (by omega))
      · exact absurd h7 (by omega)
theorem k_search (hd : 9 ≤ d) (hs : Sh σ g) {n : Nat} (hn : 1 ≤ n ∧ n ≤ 3) (ht : TR σ f g p pl al (-1)) (hc : RC f 3 rd) (hv : VS pl N (-1) rd) (hN : N + 7 * (n : Int) ≤ 1000000) (K : ∀ f' m c, Upd pl 0 [] rd (fun r => cand pl rd r ∧ r.length = n) (-1) [] m c → f' 25 0 = m → ArL (f' 26) c → FrQ f f' → Q none σ f' g) : ZCt d 99 [zr (some 25), zr (some 22), zr (some 3), zi (n : Int)] σ f g Q := by
  refine ZCt.of' (L0 := [_, _, _, _]) (by omega) rfl rfl rfl (fun d hd1 => ?_)
  refine r_aload_n rfl rfl ?_
  refine r_iconst rfl ?_
  refine r_putI rfl (by first | assumption | exact hs.o rfl) ?_
  refine r_aload_n rfl rfl ?_
  refine r_getR rfl (by first | assumption | exact hs.o rfl) (by first | assumption | exact hs.g rfl) ?_
  refine r_iconst rfl ?_
  refine r_aald rfl (by first | assumption | exact hs.a rfl) (by omega) (by omega) rfl ((congrArg (g 28) (show (0 : Int).toNat = 0 by omega)).trans (hs.rs (i := 0) (by omega)).1) ?_
  refine r_aload_n rfl rfl ?_
  refine r_callV1 rfl rfl (hs.rs (i := 0) (by omega)).2.1 rfl (k_copyFrom (rd := rd) (by omega) (hs.rs (i := 0) (by omega)).2 hs.r3 (by omega) (hc.fr (fun c q1 q2 => up2_o _ _ (by omega))) (fun f1 hf1 hc1 => ?_))
  refine r_aload_n rfl rfl ?_
  refine r_aload_n rfl rfl ?_
  refine r_iconst rfl ?_
  refine r_iload_n rfl rfl ?_
  refine r_iconst rfl ?_
  refine r_callS2 rfl rfl rfl (c_min (by omega) (by unfold IR; omega) (by unfold IR; omega) ?_)
  rw [if_pos (show (n : Int) ≤ 3 by omega)]
  refine r_iconst rfl ?_
  refine r_callV4 rfl rfl (by first | assumption | exact hs.o rfl) rfl (k_trySets hs (by omega) n _ 0 f1 _ 0 (-1) [] [] rd N (by omega) (by omega) hn.1 ⟨⟨_, (ht.t27 (c := 25) (i := 0) (v := -1) (by omega)).fr (rrT (e := 0) (by omega)) ((FrC.rf _ _).r (rrT (e := 0) (by omega)) hf1)⟩, (congrFun (hf1 25 (by omega)) 0).trans (up2_same _ _ _ _), fun i hi => absurd hi (Nat.not_lt_zero i), by omega⟩ hc1 hv hN rfl (fun i hi => absurd hi (Nat.not_lt_zero i)) (by omega) (fun f2 m2 c2 hU2 hT2 hF2 => ?_))
  refine r_ret rfl ?_
  exact K f2 m2 c2 hU2 hT2.2.1 hT2.2.2.1 ((((FrQ.rf f).up (by omega)).r hf1 (by omega)).trans hF2.q)
theorem qRow_none {n w : Int} (hp : a.w.pn = none) : qRow a n w = -1 := by unfold qRow; rw [hp]
theorem qRow_no {n w : Int} (h : ¬ ((1 ≤ n ∧ n ≤ 3) ∧ (0 ≤ w ∧ w ≤ 3))) : qRow a n w = -1 := by
  unfold qRow
  cases a.w.pn with
  | none => rfl
  | some q => exact if_neg h
theorem qRow_gt {n w : Int} (hp : a.w.pn = some (pl, rd0)) (h : (1 ≤ n ∧ n ≤ 3) ∧ (0 ≤ w ∧ w ≤ 3)) (hw : n < w) : qRow a n w = -2 := by
  unfold qRow
  rw [hp]
  simp only
  rw [if_pos h, if_neg (by omega), if_neg (by omega)]
theorem qRow_yes {n w : Nat} (hp : a.w.pn = some (pl, rd0)) (h : 1 ≤ n ∧ n ≤ 3) (hw : w ≤ n) : qRow a (n : Int) (w : Int) = if w = 0 then (bF pl a.w.rd n (64 ^ n)).1 else (((dg n (bF pl a.w.rd n (64 ^ n)).2.toNat).getD (w - 1) 0 : Nat) : Int) := by
  unfold qRow
  rw [hp]
  simp only
  rw [if_pos (by omega), Int.toNat_natCast, Int.toNat_natCast]
  by_cases e : w = 0
  · rw [if_pos e, if_pos (by omega)]
  · rw [if_neg e, if_neg (by omega), if_pos (by omega)]
theorem k_row (hd : 10 ≤ d) (hI : CI σ f g a) (hA : AOk N a)  {n w : Int} (hni : IR n) (hwi : IR w) (K : ∀ f' g', FrQ f f' → FrG g g' → Q (some (zi (qRow a n w))) σ f' g') : ZCt d 98 [zr (some 0), zi n, zi w] σ f g Q := by
  refine ZCt.of' (L0 := [_, _, _]) (by omega) rfl rfl rfl (fun d hd1 => ?_)
  have hs := hI.sh
  cases hp : a.w.pn with
  | none =>
    rw [qRow_none hp] at K
    refine r_aload_n rfl rfl ?_
    refine r_getR rfl (by first | assumption | exact hs.o rfl) (hI.pln hp) ?_
    refine r_ifnullN rfl ?_
    refine r_iconst rfl ?_
    refine r_iret rfl ?_
    exact K f g (FrQ.rf f) (FrG.rf g)
  | some q =>
    obtain ⟨pl, rd0⟩ := q
    obtain ⟨p, gp, p240, po, hpc, hrc⟩ := hI.plS hp
    obtain ⟨hplo, hvr, hst⟩ := hA.plS hp
    have hN := hA.2.2.2.2.2.2.2
    have hvs := hvr.vs
    refine r_aload_n rfl rfl ?_
    refine r_getR rfl (by first | assumption | exact hs.o rfl) gp ?_
    refine r_ifnullS rfl ?_
    refine r_iload_n rfl rfl ?_
    refine r_iconst rfl ?_
    refine r_iconst rfl ?_
    refine r_callS3 rfl rfl rfl (k_within (by omega) hni (by omega) (by omega) (fun hn => ?_) (fun hn => ?_))
    · refine r_if_n rfl (by decide) ?_
      refine r_iload_n rfl rfl ?_
      refine r_iconst rfl ?_
      refine r_iconst rfl ?_
      refine r_callS3 rfl rfl rfl (k_within (by omega) hwi (by omega) (by omega) (fun hw => ?_) (fun hw => ?_))
      · refine r_if_y rfl (by decide) ?_
        refine r_iload_n rfl rfl ?_
        refine r_iload_n rfl rfl ?_
        refine r_icmp_le rfl (by omega) (by omega) (fun hwn => ?_) (fun hwn => ?_)
        · refine r_aload_n rfl rfl ?_
          refine r_aload_n rfl rfl ?_
          refine r_getI rfl (by first | assumption | exact hs.o rfl) hI.fo ?_
          refine r_callV1 rfl rfl (by first | assumption | exact hs.o rfl) rfl (k_setEngine (by omega) hI hA hA.2.2.2.1 (fun g1 hg1 e0 e1 e2 => ?_))
          have hs1 := hs.frg hg1
          have hfe : FrQ f (up2 (up2 f 22 2 (-1)) 22 3 (-1)) := ((FrQ.rf f).up (by omega)).up (by omega)
          have ht1 := tr_of hI hA hp hA.2.2.2.1 gp p240 po hpc hg1 e0 e1 e2
          obtain ⟨nn, rfl⟩ := Int.eq_ofNat_of_zero_le (show 0 ≤ n by omega)
          obtain ⟨ww, rfl⟩ := Int.eq_ofNat_of_zero_le (show 0 ≤ w by omega)
          refine r_aload_n rfl rfl ?_
          refine r_getR rfl (by first | assumption | exact hs.o rfl) (hs1.g rfl) ?_
          refine r_aload_n rfl rfl ?_
          refine r_getR rfl (by first | assumption | exact hs.o rfl) (hs1.g rfl) ?_
          refine r_aload_n rfl rfl ?_
          refine r_getR rfl (by first | assumption | exact hs.o rfl) (hs1.g rfl) ?_
          refine r_iload_n rfl rfl ?_
          refine r_callV3 rfl rfl (by first | assumption | exact hs.o rfl) rfl (k_search (n := nn) (by omega) hs1 (by omega) ht1 (hI.w.2.1.fr (fun c q1 q2 => hfe c (by omega))) hvs (by omega) (fun f2 m2 c2 hU hm hca hf2 => ?_))
          rw [qRow_yes hp (by omega) (by omega)] at K
          obtain ⟨b1, b2, b3, b4, b5⟩ := hU.best (by omega)
          refine r_iload_n rfl rfl ?_
          refine r_if_ne rfl (by omega) (fun hw0 => ?_) (fun hw0 => ?_)
          · refine r_aload_n rfl rfl ?_
            refine r_getR rfl (by first | assumption | exact hs.o rfl) (hs1.g rfl) ?_
            refine r_getR rfl (by first | assumption | exact hs.o rfl) (hs1.g rfl) ?_
            refine r_iload_n rfl rfl ?_
            refine r_iconst rfl ?_
            refine r_isub rfl ?_
            refine r_iald rfl (by first | assumption | exact hs.a rfl) (by omega) (by omega) ((zix (n := ww - 1) (by omega)).trans (hca (ww - 1) (by omega))) ?_
            refine r_iret rfl ?_
            first
            | (exfalso; omega)
            | (rw [qRow_no (by omega)] at K; exact K f g (FrQ.rf f) (FrG.rf g))
            | (rw [qRow_gt hp (by omega) (by omega)] at K; exact K f g (FrQ.rf f) (FrG.rf g))
            | (rw [if_pos (by omega)] at K; exact K f2 g1 (hfe.trans hf2) hg1)
            | (rw [if_neg (by omega), b2] at K; exact K f2 g1 (hfe.trans hf2) hg1)
          · refine r_aload_n rfl rfl ?_
            refine r_getR rfl (by first | assumption | exact hs.o rfl) (hs1.g rfl) ?_
            refine r_getI rfl (by first | assumption | exact hs.o rfl) (hm.trans b1) ?_
            refine r_goto rfl ?_
            refine r_iret rfl ?_
            first
            | (exfalso; omega)
            | (rw [qRow_no (by omega)] at K; exact K f g (FrQ.rf f) (FrG.rf g))
            | (rw [qRow_gt hp (by omega) (by omega)] at K; exact K f g (FrQ.rf f) (FrG.rf g))
            | (rw [if_pos (by omega)] at K; exact K f2 g1 (hfe.trans hf2) hg1)
            | (rw [if_neg (by omega), b2] at K; exact K f2 g1 (hfe.trans hf2) hg1)
        · refine r_bipush rfl ?_
          refine r_iret rfl ?_
          first
          | (exfalso; omega)
          | (rw [qRow_no (by omega)] at K; exact K f g (FrQ.rf f) (FrG.rf g))
          | (rw [qRow_gt hp (by omega) (by omega)] at K; exact K f g (FrQ.rf f) (FrG.rf g))
          | (rw [if_pos (by omega)] at K; exact K f2 g1 (hfe.trans hf2) hg1)
          | (rw [if_neg (by omega), b2] at K; exact K f2 g1 (hfe.trans hf2) hg1)
      · refine r_if_n rfl (by decide) ?_
        refine r_iconst rfl ?_
        refine r_iret rfl ?_
        first
        | (exfalso; omega)
        | (rw [qRow_no (by omega)] at K; exact K f g (FrQ.rf f) (FrG.rf g))
        | (rw [qRow_gt hp (by omega) (by omega)] at K; exact K f g (FrQ.rf f) (FrG.rf g))
        | (rw [if_pos (by omega)] at K; exact K f2 g1 (hfe.trans hf2) hg1)
        | (rw [if_neg (by omega), b2] at K; exact K f2 g1 (hfe.trans hf2) hg1)
    · refine r_if_y rfl (by decide) ?_
      refine r_iconst rfl ?_
      refine r_iret rfl ?_
      first
      | (exfalso; omega)
      | (rw [qRow_no (by omega)] at K; exact K f g (FrQ.rf f) (FrG.rf g))
      | (rw [qRow_gt hp (by omega) (by omega)] at K; exact K f g (FrQ.rf f) (FrG.rf g))
      | (rw [if_pos (by omega)] at K; exact K f2 g1 (hfe.trans hf2) hg1)
      | (rw [if_neg (by omega), b2] at K; exact K f2 g1 (hfe.trans hf2) hg1)
end ROWC
