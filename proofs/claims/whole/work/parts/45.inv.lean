/-! What holds between calls -/
abbrev AW : Type := Option (Pl × Rd) × Rd × Nat × (Nat → Nat → Int)
abbrev AW.pn (w : AW) : Option (Pl × Rd) := w.1
abbrev AW.rd (w : AW) : Rd := w.2.1
abbrev AW.ns (w : AW) : Nat := w.2.2.1
abbrev AW.nt (w : AW) : Nat → Nat → Int := w.2.2.2
abbrev AW.sRd (w : AW) (rd : Rd) : AW := (w.1, rd, w.2.2)
abbrev AS : Type := Nat × (Nat → Int) × Nat × (Nat → Cls) × AW × Int × Int × Nat × (Nat → Rd) × (Nat → Option (AW × Int × Int))
abbrev AS.tl (a : AS) : Nat := a.1
abbrev AS.tp (a : AS) : Nat → Int := a.2.1
abbrev AS.rk (a : AS) : Nat := a.2.2.1
abbrev AS.ru (a : AS) : Nat → Cls := a.2.2.2.1
abbrev AS.w (a : AS) : AW := a.2.2.2.2.1
abbrev AS.fo (a : AS) : Int := a.2.2.2.2.2.1
abbrev AS.x (a : AS) : Int := a.2.2.2.2.2.2.1
abbrev AS.uc (a : AS) : Nat := a.2.2.2.2.2.2.2.1
abbrev AS.us (a : AS) : Nat → Rd := a.2.2.2.2.2.2.2.2.1
abbrev AS.im (a : AS) : Nat → Option (AW × Int × Int) := a.2.2.2.2.2.2.2.2.2
abbrev AS.sT (a : AS) (tl : Nat) (tp : Nat → Int) : AS := (tl, tp, a.2.2)
abbrev AS.sRu (a : AS) (rk : Nat) (ru : Nat → Cls) : AS := (a.1, a.2.1, rk, ru, a.2.2.2.2)
abbrev AS.sW (a : AS) (w : AW) : AS := (a.1, a.2.1, a.2.2.1, a.2.2.2.1, w, a.2.2.2.2.2)
abbrev AS.sFo (a : AS) (fo : Int) : AS := (a.1, a.2.1, a.2.2.1, a.2.2.2.1, a.2.2.2.2.1, fo, a.2.2.2.2.2.2)
abbrev AS.sX (a : AS) (x : Int) : AS := (a.1, a.2.1, a.2.2.1, a.2.2.2.1, a.2.2.2.2.1, a.2.2.2.2.2.1, x, a.2.2.2.2.2.2.2)
abbrev AS.sU (a : AS) (uc : Nat) (us : Nat → Rd) : AS := (a.1, a.2.1, a.2.2.1, a.2.2.2.1, a.2.2.2.2.1, a.2.2.2.2.2.1, a.2.2.2.2.2.2.1, uc, us, a.2.2.2.2.2.2.2.2.2)
abbrev AS.sIm (a : AS) (im : Nat → Option (AW × Int × Int)) : AS := (a.1, a.2.1, a.2.2.1, a.2.2.2.1, a.2.2.2.2.1, a.2.2.2.2.2.1, a.2.2.2.2.2.2.1, a.2.2.2.2.2.2.2.1, a.2.2.2.2.2.2.2.2.1, im)
def rdI : Rd := fun i _ => if i ≤ 1 then -1 else 0
/-- a begin -/
def StOk (pl : Pl) (rd0 : Rd) : Prop := RdOk pl.1 pl.2.1 0 rd0 ∧ RdDj rd0 ∧ (∀ j, rd0 4 j = 0) ∧ (∀ k, k < 6 → (rd0 0 k = -1 ↔ pl.2.2.1 ≤ (k : Int)))
/-- nobody waits where no road is -/
def WZ (pl : Pl) (rd : Rd) : Prop := ∀ j : Nat, pl.2.1 ≤ (j : Int) → rd 4 j = 0
def VR (pl : Pl) (N : Int) (rd : Rd) : Prop := RdOk pl.1 pl.2.1 N rd ∧ RdDj rd ∧ rd 5 0 ≤ 999 ∧ WZ pl rd
def NtOk (w : AW) : Prop := w.ns ≤ 10 ∧ ∀ i, i < w.ns → (0 ≤ w.nt 0 i ∧ w.nt 0 i ≤ 60) ∧ (0 ≤ w.nt 1 i ∧ w.nt 1 i < 6) ∧ (-1 ≤ w.nt 2 i ∧ w.nt 2 i < 20)
def AWOk (N : Int) (w : AW) : Prop := NtOk w ∧ (match w.pn with
  | none => w.rd = rdI
  | some (pl, rd0) => PlOk pl ∧ VR pl N w.rd ∧ StOk pl rd0)
def AOk (N : Int) (a : AS) : Prop := (a.tl ≤ 400 ∧ a.rk ≤ 6 ∧ a.uc ≤ 20) ∧ (∀ i, i < a.rk → (a.ru i).length ≤ 12 ∧ ∀ x ∈ a.ru i, clOk x) ∧ AWOk N a.w ∧ (-1 ≤ a.fo ∧ a.fo < (a.rk : Int)) ∧ (0 ≤ a.x ∧ a.x ≤ 2147483647) ∧
  (match a.w.pn with
  | none => a.uc = 0
  | some (pl, _) => ∀ i, i < a.uc → VR pl N (a.us i)) ∧
  (∀ k, k < 4 → ∀ w fo x, a.im k = some (w, fo, x) → AWOk N w ∧ (-1 ≤ fo ∧ fo < (a.rk : Int)) ∧ (0 ≤ x ∧ x ≤ 2147483647)) ∧ (0 ≤ N ∧ N ≤ 900000)
/-- the class's world: its plan, a Round and Notes -/
def CW (σ : ZS) (f : ZF) (g : ZG) (gp : Option Nat) (r t : Nat) (w : AW) : Prop :=
  (match w.pn with
  | none => gp = none
  | some (pl, rd0) => ∃ p, gp = some p ∧ 240 ≤ p ∧ PO σ g p ∧ PC f p pl ∧ RC f (p + 3) rd0) ∧ RC f r w.rd ∧ f t 0 = (w.ns : Int) ∧ ∀ i, i < w.ns → f (t + 1) i = w.nt 0 i ∧ f (t + 2) i = w.nt 1 i ∧ f (t + 3) i = w.nt 2 i
/-- what the reference was told, from which it begins -/
def MT (s : Nat → Int) (rd0 : Rd) : Prop := (∀ k, k < 6 → rd0 0 k ≠ -1 → s (77 + 3 * k) = rd0 0 k ∧ s (78 + 3 * k) = rd0 1 k ∧ s (79 + 3 * k) = rd0 2 k) ∧ ∀ c, c < 20 → s (95 + c) = rd0 6 c
def MW (s : Nat → Int) (w : AW) : Prop :=
  (match w.pn with
  | none => s 0 = 0 ∧ s 1 = 0 ∧ s 2 = 0 ∧ s 3 = 0
  | some (pl, rd0) => MPl s pl ∧ MT s rd0) ∧ MRd s w.rd ∧ s 145 = (w.ns : Int) ∧ ∀ i, i < w.ns → s (115 + 3 * i) = w.nt 0 i ∧ s (116 + 3 * i) = w.nt 1 i ∧ s (117 + 3 * i) = w.nt 2 i
abbrev CI (σ : ZS) (f : ZF) (g : ZG) (a : AS) : Prop := (Sh σ g) ∧
  (f 0 1 = (a.tl : Int)) ∧
  (∀ i, i < 400 → -128 ≤ f 1 i ∧ f 1 i ≤ 127) ∧
  (∀ i, i < a.tl → f 1 i = a.tp i) ∧
  (f 0 3 = (a.rk : Int)) ∧
  (∀ i, i < a.rk → ∃ q c, g 2 i = some q ∧ 240 ≤ q ∧ RuC σ g q c (a.ru i) ∧ At (f c) 0 (cCodes (a.ru i))) ∧
  (CW σ f g (g 0 4) 3 9 a.w) ∧
  (f 0 6 = a.fo) ∧
  (f 0 7 = a.x) ∧
  (f 0 11 = (a.uc : Int)) ∧
  (∃ u : Nat, u < 20 ∧ f 0 12 = (u : Int) ∧ ∀ i, i < a.uc → RC f (99 + 6 * ((u + 19 - i) % 20)) (a.us i)) ∧
  (∀ k, k < 4 → match a.im k with
    | none => f (55 + 11 * k) 0 = 0
    | some (w, fo, x) => f (55 + 11 * k) 0 = 1 ∧ CW σ f g (g (55 + 11 * k) 1) (56 + 11 * k) (62 + 11 * k) w ∧ f (55 + 11 * k) 2 = fo ∧ f (55 + 11 * k) 3 = x)
theorem CI.sh {σ : ZS} {f : ZF} {g : ZG} {a : AS} (h : CI σ f g a) : Sh σ g := h.1
theorem CI.tl {σ : ZS} {f : ZF} {g : ZG} {a : AS} (h : CI σ f g a) : f 0 1 = (a.tl : Int) := h.2.1
theorem CI.tp {σ : ZS} {f : ZF} {g : ZG} {a : AS} (h : CI σ f g a) : ∀ i, i < 400 → -128 ≤ f 1 i ∧ f 1 i ≤ 127 := h.2.2.1
theorem CI.tq {σ : ZS} {f : ZF} {g : ZG} {a : AS} (h : CI σ f g a) : ∀ i, i < a.tl → f 1 i = a.tp i := h.2.2.2.1
theorem CI.rk {σ : ZS} {f : ZF} {g : ZG} {a : AS} (h : CI σ f g a) : f 0 3 = (a.rk : Int) := h.2.2.2.2.1
theorem CI.ru {σ : ZS} {f : ZF} {g : ZG} {a : AS} (h : CI σ f g a) : ∀ i, i < a.rk → ∃ q c, g 2 i = some q ∧ 240 ≤ q ∧ RuC σ g q c (a.ru i) ∧ At (f c) 0 (cCodes (a.ru i)) := h.2.2.2.2.2.1
theorem CI.w {σ : ZS} {f : ZF} {g : ZG} {a : AS} (h : CI σ f g a) : CW σ f g (g 0 4) 3 9 a.w := h.2.2.2.2.2.2.1
theorem CI.fo {σ : ZS} {f : ZF} {g : ZG} {a : AS} (h : CI σ f g a) : f 0 6 = a.fo := h.2.2.2.2.2.2.2.1
theorem CI.x {σ : ZS} {f : ZF} {g : ZG} {a : AS} (h : CI σ f g a) : f 0 7 = a.x := h.2.2.2.2.2.2.2.2.1
theorem CI.uc {σ : ZS} {f : ZF} {g : ZG} {a : AS} (h : CI σ f g a) : f 0 11 = (a.uc : Int) := h.2.2.2.2.2.2.2.2.2.1
theorem CI.un {σ : ZS} {f : ZF} {g : ZG} {a : AS} (h : CI σ f g a) : ∃ u : Nat, u < 20 ∧ f 0 12 = (u : Int) ∧ ∀ i, i < a.uc → RC f (99 + 6 * ((u + 19 - i) % 20)) (a.us i) := h.2.2.2.2.2.2.2.2.2.2.1
theorem CI.im {σ : ZS} {f : ZF} {g : ZG} {a : AS} (h : CI σ f g a) : ∀ k, k < 4 → match a.im k with
    | none => f (55 + 11 * k) 0 = 0
    | some (w, fo, x) => f (55 + 11 * k) 0 = 1 ∧ CW σ f g (g (55 + 11 * k) 1) (56 + 11 * k) (62 + 11 * k) w ∧ f (55 + 11 * k) 2 = fo ∧ f (55 + 11 * k) 3 = x := h.2.2.2.2.2.2.2.2.2.2.2
abbrev MI (f : ZF) (a : AS) : Prop := (f 219 1 = (a.tl : Int)) ∧
  (∀ i, i < a.tl → f 220 i = a.tp i) ∧
  (f 219 2 = (a.rk : Int)) ∧
  (∀ i, i < a.rk → f 224 i = ((a.ru i).length : Int) ∧ MAt f i 0 (a.ru i)) ∧
  (MW (f 229) a.w) ∧
  (f 219 21 = a.fo) ∧
  (f 219 22 = a.x) ∧
  (f 219 23 = -1) ∧
  (f 219 24 = -1) ∧
  (f 219 27 = (a.uc : Int)) ∧
  (∀ i, i < a.uc → MRd (fun j => f 230 (57 * (a.uc - 1 - i) + j - 10)) (a.us i)) ∧
  (∀ k, k < 4 → match a.im k with
    | none => f 239 k = 0
    | some (w, fo, x) => f 239 k = 1 ∧ MW (fun i => f 236 (146 * k + i)) w ∧ f 237 k = fo ∧ f 238 k = x)
theorem MI.tl {f : ZF} {a : AS} (h : MI f a) : f 219 1 = (a.tl : Int) := h.1
theorem MI.tq {f : ZF} {a : AS} (h : MI f a) : ∀ i, i < a.tl → f 220 i = a.tp i := h.2.1
theorem MI.rk {f : ZF} {a : AS} (h : MI f a) : f 219 2 = (a.rk : Int) := h.2.2.1
theorem MI.ru {f : ZF} {a : AS} (h : MI f a) : ∀ i, i < a.rk → f 224 i = ((a.ru i).length : Int) ∧ MAt f i 0 (a.ru i) := h.2.2.2.1
theorem MI.w {f : ZF} {a : AS} (h : MI f a) : MW (f 229) a.w := h.2.2.2.2.1
theorem MI.fo {f : ZF} {a : AS} (h : MI f a) : f 219 21 = a.fo := h.2.2.2.2.2.1
theorem MI.x {f : ZF} {a : AS} (h : MI f a) : f 219 22 = a.x := h.2.2.2.2.2.2.1
theorem MI.cl {f : ZF} {a : AS} (h : MI f a) : f 219 23 = -1 := h.2.2.2.2.2.2.2.1
theorem MI.pn {f : ZF} {a : AS} (h : MI f a) : f 219 24 = -1 := h.2.2.2.2.2.2.2.2.1
theorem MI.uc {f : ZF} {a : AS} (h : MI f a) : f 219 27 = (a.uc : Int) := h.2.2.2.2.2.2.2.2.2.1
theorem MI.un {f : ZF} {a : AS} (h : MI f a) : ∀ i, i < a.uc → MRd (fun j => f 230 (57 * (a.uc - 1 - i) + j - 10)) (a.us i) := h.2.2.2.2.2.2.2.2.2.2.1
theorem MI.im {f : ZF} {a : AS} (h : MI f a) : ∀ k, k < 4 → match a.im k with
    | none => f 239 k = 0
    | some (w, fo, x) => f 239 k = 1 ∧ MW (fun i => f 236 (146 * k + i)) w ∧ f 237 k = fo ∧ f 238 k = x := h.2.2.2.2.2.2.2.2.2.2.2
/-- the class's scratch: cells 13 .. 54 -/
def FrQ (f f' : ZF) : Prop := ∀ c, (c < 13 ∨ 54 < c) → f' c = f c
def FrG (g g' : ZG) : Prop := ∀ c a, ¬ (c = 22 ∧ a ≤ 1) → g' c a = g c a
theorem FrQ.rf (f : ZF) : FrQ f f := fun _ _ => rfl
theorem FrQ.trans {a b c : ZF} (h1 : FrQ a b) (h2 : FrQ b c) : FrQ a c := fun k q => (h2 k q).trans (h1 k q)
theorem FrQ.up {f0 f : ZF} {k i : Nat} {v : Int} (h : FrQ f0 f) (hk : 13 ≤ k ∧ k ≤ 54) : FrQ f0 (up2 f k i v) := fun c q => (up2_o _ _ (by omega)).trans (h c q)
theorem FrQ.c {f0 f f' : ZF} {r : Nat} (h : FrQ f0 f) (h' : FrC r f f') (hr : 13 ≤ r ∧ r + 5 ≤ 54) : FrQ f0 f' := fun c q => (h'.1 c (by omega) (by omega) (by omega) (by omega)).trans (h c q)
theorem FrQ.r {f0 f f' : ZF} {r : Nat} (h : FrQ f0 f) (h' : FrR r f f') (hr : 13 ≤ r ∧ r + 5 ≤ 54) : FrQ f0 f' := fun c q => (h' c (by omega)).trans (h c q)
theorem FrG.rf (g : ZG) : FrG g g := fun _ _ _ => rfl
theorem FrG.trans {a b c : ZG} (h1 : FrG a b) (h2 : FrG b c) : FrG a c := fun k i q => (h2 k i q).trans (h1 k i q)
theorem FrG.up {g0 g : ZG} {i : Nat} {v : Option Nat} (h : FrG g0 g) (hi : i ≤ 1) : FrG g0 (up2 g 22 i v) := fun c a q => (up2_ne g v (fun z => q ⟨z.1, by omega⟩)).trans (h c a q)
section INV
variable {σ : ZS} {f f' : ZF} {g g' : ZG} {a : AS}
theorem RO.frg {r : Nat} (h : RO σ g r) (hg : ∀ i, g' r i = g r i) : RO σ g' r := by
  unfold RO at *
  rw [hg, hg, hg, hg, hg]
  exact h
theorem PO.frg {r : Nat} (h : PO σ g r) (hg : ∀ i, g' r i = g r i) (hg3 : ∀ i, g' (r + 3) i = g (r + 3) i) : PO σ g' r := by
  obtain ⟨h1, h2, h3, h4⟩ := h
  refine ⟨h1, h2, ?_, h4.frg hg3⟩
  rw [hg, hg, hg]
  exact h3
theorem Sh.frg (h : Sh σ g) (hg : FrG g g') : Sh σ g' := by
  obtain ⟨h1, h2, h3, h4, h5, h6, h7, h8, h9⟩ := h
  refine ⟨h1, h2, fun k a r hr => ?_, fun i hi => ⟨?_, (h4 i hi).2.frg (fun j => hg _ _ (by omega))⟩, fun i hi => ⟨?_, ?_⟩, fun i hi => ⟨?_, (h6 i hi).2.frg (fun j => hg _ _ (by omega))⟩, h7.frg (fun j => hg _ _ (by omega)), h8.frg (fun j => hg _ _ (by omega)), ?_⟩
  · rw [hg k a (fun q => zG0_dyn hr (Or.inr (Or.inl q)))]
    exact h3 k a r hr
  · rw [hg _ _ (by omega)]; exact (h4 i hi).1
  · rw [hg _ _ (by omega)]; exact (h5 i hi).1
  · obtain ⟨q1, ⟨q2, q3⟩, q4, ⟨q5, q6, q7, q8, q9⟩⟩ := (h5 i hi).2
    refine ⟨q1, ⟨?_, ?_⟩, q4.frg (fun j => hg _ _ (by omega)), ⟨q5, q6, ?_, ?_, ?_⟩⟩ <;> rw [hg _ _ (by omega)] <;> assumption
  · rw [hg _ _ (by omega)]; exact (h6 i hi).1
  · obtain ⟨q5, q6, q7, q8, q9⟩ := h9
    refine ⟨q5, q6, ?_, ?_, ?_⟩ <;> rw [hg _ _ (by omega)] <;> assumption
theorem CW.fr {gp : Option Nat} {r t : Nat} {w : AW} (h : CW σ f g gp r t w) (hf : ∀ c, (240 ≤ c ∨ (r ≤ c ∧ c ≤ r + 5) ∨ (t ≤ c ∧ c ≤ t + 3)) → f' c = f c) (hg : ∀ c i, 240 ≤ c → g' c i = g c i) : CW σ f' g' gp r t w := by
  obtain ⟨h1, h2, h3, h4⟩ := h
  refine ⟨?_, h2.fr (fun c q1 q2 => hf c (by omega)), by rw [hf t (by omega)]; exact h3, fun i hi => by rw [hf (t + 1) (by omega), hf (t + 2) (by omega), hf (t + 3) (by omega)]; exact h4 i hi⟩
  cases hp : w.pn with
  | none => rw [hp] at h1; exact h1
  | some x =>
    obtain ⟨pl, rd0⟩ := x
    rw [hp] at h1
    obtain ⟨p, q1, q2, q3, q4, q5⟩ := h1
    refine ⟨p, q1, q2, q3.frg (fun i => hg _ _ (by omega)) (fun i => hg _ _ (by omega)), ?_, q5.fr (fun c q1 q2 => hf c (by omega))⟩
    unfold PC at *
    rw [hf p (by omega), hf (p + 1) (by omega), hf (p + 2) (by omega)]
    exact q4
theorem RuC.frg {q c : Nat} {cls : Cls} (h : RuC σ g q c cls) (hg : ∀ i, g' q i = g q i) : RuC σ g' q c cls := ⟨h.o, by rw [hg]; exact h.gc, h.a, h.l, h.c240, h.ok⟩
/-- nothing of it is in the scratch -/
theorem CI.fr (h : CI σ f g a) (hf : FrQ f f') (hg : FrG g g') : CI σ f' g' a := by
  obtain ⟨h1, h2, h3, h4, h5, h6, h7, h8, h9, h10, ⟨u, h11, h12, h13⟩, h14⟩ := h
  refine ⟨h1.frg hg, by rw [hf 0 (by omega)]; exact h2, by rw [hf 1 (by omega)]; exact h3, by rw [hf 1 (by omega)]; exact h4, by rw [hf 0 (by omega)]; exact h5, fun i hi => ?_, ?_, by rw [hf 0 (by omega)]; exact h8, by rw [hf 0 (by omega)]; exact h9, by rw [hf 0 (by omega)]; exact h10, ⟨u, h11, by rw [hf 0 (by omega)]; exact h12, fun i hi => (h13 i hi).fr (fun c q1 q2 => hf c (by omega))⟩, fun k hk => ?_⟩
  · obtain ⟨q, c, q1, q2, q3, q4⟩ := h6 i hi
    refine ⟨q, c, by rw [hg 2 i (by omega)]; exact q1, q2, q3.frg (fun j => hg _ _ (by omega)), by rw [hf c (by have := q3.c240; omega)]; exact q4⟩
  · rw [hg 0 4 (by omega)]
    exact h7.fr (fun c q => hf c (by omega)) (fun c i q => hg _ _ (by omega))
  · have := h14 k hk
    cases hi : a.im k with
    | none => rw [hi] at this; simp only at this ⊢; rw [hf _ (by omega)]; exact this
    | some x =>
      obtain ⟨w, fo, x⟩ := x
      rw [hi] at this
      obtain ⟨q1, q2, q3, q4⟩ := this
      simp only
      rw [hf (55 + 11 * k) (by omega), hg (55 + 11 * k) 1 (by omega)]
      exact ⟨q1, q2.fr (fun c q => hf c (by omega)) (fun c i q => hg _ _ (by omega)), q3, q4⟩
/-- the reference's scratch -/
def FrMQ (f f' : ZF) : Prop := (∀ c, c ≠ 219 → ¬ (227 ≤ c ∧ c ≤ 228) → ¬ (231 ≤ c ∧ c ≤ 235) → f' c = f c) ∧ ∀ i, i ≠ 18 → i ≠ 25 → i ≠ 29 → i ≠ 30 → i ≠ 35 → f' 219 i = f 219 i
theorem FrMQ.rf (f : ZF) : FrMQ f f := ⟨fun _ _ _ _ => rfl, fun _ _ _ _ _ _ => rfl⟩
theorem FrMQ.trans {a b c : ZF} (h1 : FrMQ a b) (h2 : FrMQ b c) : FrMQ a c := ⟨fun k q1 q2 q3 => (h2.1 k q1 q2 q3).trans (h1.1 k q1 q2 q3), fun i q1 q2 q3 q4 q5 => (h2.2 i q1 q2 q3 q4 q5).trans (h1.2 i q1 q2 q3 q4 q5)⟩
theorem MI.fr (h : MI f a) (hf : FrMQ f f') : MI f' a := by
  obtain ⟨h1, h2, h3, h4, h5, h6, h7, h8, h9, h10, h11, h12⟩ := h
  have e : ∀ c, c ≠ 219 → ¬ (227 ≤ c ∧ c ≤ 228) → ¬ (231 ≤ c ∧ c ≤ 235) → f' c = f c := hf.1
  refine ⟨by rw [hf.2 1 (by omega) (by omega) (by omega) (by omega) (by omega)]; exact h1, by rw [e 220 (by omega) (by omega) (by omega)]; exact h2, by rw [hf.2 2 (by omega) (by omega) (by omega) (by omega) (by omega)]; exact h3, fun i hi => ?_, by rw [e 229 (by omega) (by omega) (by omega)]; exact h5, by rw [hf.2 21 (by omega) (by omega) (by omega) (by omega) (by omega)]; exact h6, by rw [hf.2 22 (by omega) (by omega) (by omega) (by omega) (by omega)]; exact h7, by rw [hf.2 23 (by omega) (by omega) (by omega) (by omega) (by omega)]; exact h8, by rw [hf.2 24 (by omega) (by omega) (by omega) (by omega) (by omega)]; exact h9, by rw [hf.2 27 (by omega) (by omega) (by omega) (by omega) (by omega)]; exact h10, fun i hi => by rw [e 230 (by omega) (by omega) (by omega)]; exact h11 i hi, fun k hk => ?_⟩
  · rw [e 224 (by omega) (by omega) (by omega)]
    refine ⟨(h4 i hi).1, (h4 i hi).2.same _ _ (fun j _ _ => ?_) (fun j _ _ => ?_)⟩
    · rw [e 223 (by omega) (by omega) (by omega)]
    · rw [e 221 (by omega) (by omega) (by omega)]
  · rw [e 239 (by omega) (by omega) (by omega), e 236 (by omega) (by omega) (by omega), e 237 (by omega) (by omega) (by omega), e 238 (by omega) (by omega) (by omega)]
    exact h12 k hk
/-- the reference's cells lie apart from the class's -/
theorem MI.frk (h : MI f a) (hf : ∀ c, 219 ≤ c → c < 240 → f' c = f c) : MI f' a := by
  obtain ⟨h1, h2, h3, h4, h5, h6, h7, h8, h9, h10, h11, h12⟩ := h
  have e := hf
  refine ⟨by rw [e 219 (by omega) (by omega)]; exact h1, by rw [e 220 (by omega) (by omega)]; exact h2, by rw [e 219 (by omega) (by omega)]; exact h3, fun i hi => ?_, by rw [e 229 (by omega) (by omega)]; exact h5, by rw [e 219 (by omega) (by omega)]; exact h6, by rw [e 219 (by omega) (by omega)]; exact h7, by rw [e 219 (by omega) (by omega)]; exact h8, by rw [e 219 (by omega) (by omega)]; exact h9, by rw [e 219 (by omega) (by omega)]; exact h10, fun i hi => by rw [e 230 (by omega) (by omega)]; exact h11 i hi, fun k hk => ?_⟩
  · rw [e 224 (by omega) (by omega)]
    refine ⟨(h4 i hi).1, (h4 i hi).2.same _ _ (fun j _ _ => ?_) (fun j _ _ => ?_)⟩
    · rw [e 223 (by omega) (by omega)]
    · rw [e 221 (by omega) (by omega)]
  · rw [e 239 (by omega) (by omega), e 236 (by omega) (by omega), e 237 (by omega) (by omega), e 238 (by omega) (by omega)]
    exact h12 k hk
/-- and the other way round -/
theorem CI.frm (h : CI σ f g a) (hf : ∀ c, (c < 219 ∨ 240 ≤ c) → f' c = f c) : CI σ f' g a := by
  obtain ⟨h1, h2, h3, h4, h5, h6, h7, h8, h9, h10, ⟨u, h11, h12, h13⟩, h14⟩ := h
  refine ⟨h1, by rw [hf 0 (by omega)]; exact h2, by rw [hf 1 (by omega)]; exact h3, by rw [hf 1 (by omega)]; exact h4, by rw [hf 0 (by omega)]; exact h5, fun i hi => ?_, ?_, by rw [hf 0 (by omega)]; exact h8, by rw [hf 0 (by omega)]; exact h9, by rw [hf 0 (by omega)]; exact h10, ⟨u, h11, by rw [hf 0 (by omega)]; exact h12, fun i hi => (h13 i hi).fr (fun c q1 q2 => hf c (by omega))⟩, fun k hk => ?_⟩
  · obtain ⟨q, c, q1, q2, q3, q4⟩ := h6 i hi
    refine ⟨q, c, q1, q2, q3, by rw [hf c (by have := q3.c240; omega)]; exact q4⟩
  · exact h7.fr (fun c q => hf c (by omega)) (fun c i q => rfl)
  · have := h14 k hk
    cases hi : a.im k with
    | none => rw [hi] at this; simp only at this ⊢; rw [hf _ (by omega)]; exact this
    | some x =>
      obtain ⟨w, fo, x⟩ := x
      rw [hi] at this
      obtain ⟨q1, q2, q3, q4⟩ := this
      simp only
      rw [hf (55 + 11 * k) (by omega)]
      exact ⟨q1, q2.fr (fun c q => hf c (by omega)) (fun c i q => rfl), q3, q4⟩
theorem rdI_ok (n m N : Int) (hn : 3 ≤ n ∧ n ≤ 20) (hm : 0 ≤ m ∧ m ≤ 5) (hN : 0 ≤ N ∧ N ≤ 1000000) : RdOk n m N rdI := ⟨hn, hm, fun k _ => Or.inl ⟨rfl, rfl, rfl, rfl⟩, fun j _ => by simp [rdI], fun c _ => Or.inl rfl, by simp [rdI]; omega, by simp [rdI]; omega, hN.2⟩
theorem rdI_dj : RdDj rdI := fun j k _ _ h _ => by simp [rdI] at h
/-- whatever is told, what stands now is in order -/
theorem AWOk.rd {N : Int} {w : AW} (h : AWOk N w) (hN : 0 ≤ N ∧ N ≤ 1000000) : ∃ n m, RdOk n m N w.rd ∧ RdDj w.rd := by
  obtain ⟨h1, h2⟩ := h
  cases hp : w.pn with
  | none => rw [hp] at h2; simp only at h2; rw [h2]; exact ⟨3, 0, rdI_ok 3 0 N (by omega) (by omega) hN, rdI_dj⟩
  | some x =>
    obtain ⟨pl, rd0⟩ := x
    rw [hp] at h2
    exact ⟨_, _, h2.2.1.1, h2.2.1.2.1⟩
end INV
