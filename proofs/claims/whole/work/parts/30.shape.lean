/-! Where the objects lie: the class's at 0 .. 218, the reference's at 219 .. 239 -/
def zT0 : List (Nat × Nat) := [(10, 20), (101, 400), (117, 6), (5, 9), (100, 6), (100, 6), (100, 6), (100, 6), (100, 5), (2, 4), (100, 10), (100, 10), (100, 10), (111, 4), (115, 20), (9, 1), (4, 7), (101, 400), (8, 4), (4, 7), (101, 400), (100, 400), (0, 7), (103, 10), (103, 60), (6, 4), (100, 3), (100, 3), (115, 3), (5, 9), (100, 6), (100, 6), (100, 6), (100, 6), (100, 5), (5, 9), (100, 6), (100, 6), (100, 6), (100, 6), (100, 5), (5, 9), (100, 6), (100, 6), (100, 6), (100, 6), (100, 5), (5, 9), (100, 6), (100, 6), (100, 6), (100, 6), (100, 5), (100, 126), (103, 61), (1, 6), (5, 9), (100, 6), (100, 6), (100, 6), (100, 6), (100, 5), (2, 4), (100, 10), (100, 10), (100, 10), (1, 6), (5, 9), (100, 6), (100, 6), (100, 6), (100, 6), (100, 5), (2, 4), (100, 10), (100, 10), (100, 10), (1, 6), (5, 9), (100, 6), (100, 6), (100, 6), (100, 6), (100, 5), (2, 4), (100, 10), (100, 10), (100, 10), (1, 6), (5, 9), (100, 6), (100, 6), (100, 6), (100, 6), (100, 5), (2, 4), (100, 10), (100, 10), (100, 10), (5, 9), (100, 6), (100, 6), (100, 6), (100, 6), (100, 5), (5, 9), (100, 6), (100, 6), (100, 6), (100, 6), (100, 5), (5, 9), (100, 6), (100, 6), (100, 6), (100, 6), (100, 5), (5, 9), (100, 6), (100, 6), (100, 6), (100, 6), (100, 5), (5, 9), (100, 6), (100, 6), (100, 6), (100, 6), (100, 5), (5, 9), (100, 6), (100, 6), (100, 6), (100, 6), (100, 5), (5, 9), (100, 6), (100, 6), (100, 6), (100, 6), (100, 5), (5, 9), (100, 6), (100, 6), (100, 6), (100, 6), (100, 5), (5, 9), (100, 6), (100, 6), (100, 6), (100, 6), (100, 5), (5, 9), (100, 6), (100, 6), (100, 6), (100, 6), (100, 5), (5, 9), (100, 6), (100, 6), (100, 6), (100, 6), (100, 5), (5, 9), (100, 6), (100, 6), (100, 6), (100, 6), (100, 5), (5, 9), (100, 6), (100, 6), (100, 6), (100, 6), (100, 5), (5, 9), (100, 6), (100, 6), (100, 6), (100, 6), (100, 5), (5, 9), (100, 6), (100, 6), (100, 6), (100, 6), (100, 5), (5, 9), (100, 6), (100, 6), (100, 6), (100, 6), (100, 5), (5, 9), (100, 6), (100, 6), (100, 6), (100, 6), (100, 5), (5, 9), (100, 6), (100, 6), (100, 6), (100, 6), (100, 5), (5, 9), (100, 6), (100, 6), (100, 6), (100, 6), (100, 5), (5, 9), (100, 6), (100, 6), (100, 6), (100, 6), (100, 5), (11, 40), (101, 400), (100, 2400), (100, 7), (100, 288), (100, 6), (100, 115), (100, 400), (103, 64), (103, 10), (100, 146), (100, 1140), (100, 57), (100, 50), (100, 366), (102, 7), (100, 42), (100, 584), (100, 4), (100, 4), (102, 4)]
def zLO : List (Option Nat) := [some 1, none, some 2, none, none, some 3, none, none, some 9, some 13, some 14, none, none, some 15, some 18, some 22, some 25, some 47, some 53, some 54]
def zMO : List (Option Nat) := [some 220, none, none, some 221, some 222, some 223, some 224, some 225, none, none, none, none, none, none, none, some 226, none, some 227, none, some 228, some 229, none, none, none, none, none, some 230, none, some 231, none, none, some 232, some 233, some 234, some 235, none, some 236, some 237, some 238, some 239]
def zG0 (k a : Nat) : Option Nat := if k = 219 then (znth zMO a).getD none else if k = 0 then (znth zLO a).getD none else if k = 15 then (if a = 0 then some 16 else none) else if k = 16 then (if a = 3 then some 17 else none)
  else if k = 18 then (if a = 0 then some 19 else if a = 1 then some 21 else none) else if k = 19 then (if a = 3 then some 20 else none) else if k = 22 then (if a = 5 then some 23 else if a = 6 then some 24 else none)
  else if k = 25 then (if a = 1 then some 26 else if a = 2 then some 27 else if a = 3 then some 28 else none) else none
/-- a Round at r -/
def RO (σ : ZS) (g : ZG) (r : Nat) : Prop := zO σ r 5 ∧ (zA σ (r + 1) 100 6 ∧ zA σ (r + 2) 100 6 ∧ zA σ (r + 3) 100 6 ∧ zA σ (r + 4) 100 6 ∧ zA σ (r + 5) 100 5) ∧ (g r 0 = some (r + 1) ∧ g r 1 = some (r + 2) ∧ g r 2 = some (r + 3) ∧ g r 3 = some (r + 4) ∧ g r 4 = some (r + 5))
/-- Notes at n -/
def NO (σ : ZS) (g : ZG) (n : Nat) : Prop := zO σ n 2 ∧ (zA σ (n + 1) 100 10 ∧ zA σ (n + 2) 100 10 ∧ zA σ (n + 3) 100 10) ∧ (g n 1 = some (n + 1) ∧ g n 2 = some (n + 2) ∧ g n 3 = some (n + 3))
/-- an Image at b -/
def IO' (σ : ZS) (g : ZG) (b : Nat) : Prop := zO σ b 1 ∧ (g b 4 = some (b + 1) ∧ g b 5 = some (b + 7)) ∧ RO σ g (b + 1) ∧ NO σ g (b + 7)
/-- a Plan at p -/
def PO (σ : ZS) (g : ZG) (p : Nat) : Prop := zO σ p 3 ∧ (zA σ (p + 1) 100 5 ∧ zA σ (p + 2) 100 5) ∧ (g p 3 = some (p + 1) ∧ g p 4 = some (p + 2) ∧ g p 5 = some (p + 3)) ∧ RO σ g (p + 3)
def Sh (σ : ZS) (g : ZG) : Prop := 240 ≤ σ.1.1 ∧ (∀ k t, znth zT0 k = some t → σ.2 k = t) ∧ (∀ k a r, zG0 k a = some r → g k a = some r) ∧
  (∀ i, i < 20 → g 14 i = some (99 + 6 * i) ∧ RO σ g (99 + 6 * i)) ∧ (∀ i, i < 4 → g 13 i = some (55 + 11 * i) ∧ IO' σ g (55 + 11 * i)) ∧ (∀ i, i < 3 → g 28 i = some (29 + 6 * i) ∧ RO σ g (29 + 6 * i)) ∧ RO σ g 3 ∧ RO σ g 47 ∧ NO σ g 9
theorem znth_lt {α : Type} : ∀ (l : List α) (k : Nat) (x : α), znth l k = some x → k < l.length := by
  intro l
  induction l with
  | nil => intro k x h; cases k <;> cases h
  | cons a t ih =>
    intro k x h
    cases k with
    | zero => simp
    | succ k => have := ih k x h; simp; omega
theorem Sh.lt {σ : ZS} {g : ZG} (h : Sh σ g) {k : Nat} {t : Nat × Nat} (e : znth zT0 k = some t) : k < σ.1.1 := by
  have h1 := znth_lt zT0 k t e
  have h2 : zT0.length = 240 := rfl
  have h3 := h.1
  omega
theorem Sh.o {σ : ZS} {g : ZG} (h : Sh σ g) {k c n : Nat} (e : znth zT0 k = some (c, n)) : zO σ k c := ⟨h.lt e, by rw [h.2.1 k _ e]⟩
theorem Sh.a {σ : ZS} {g : ZG} (h : Sh σ g) {k t n : Nat} (e : znth zT0 k = some (t, n)) : zA σ k t n := ⟨h.lt e, h.2.1 k _ e⟩
theorem Sh.g {σ : ZS} {g : ZG} (h : Sh σ g) {k a r : Nat} (e : zG0 k a = some r) : g k a = some r := h.2.2.1 k a r e
theorem Sh.sz {σ : ZS} {g : ZG} (h : Sh σ g) : 240 ≤ σ.1.1 := h.1
theorem RO.upd {σ : ZS} {g : ZG} {r k a : Nat} {x : Option Nat} (h : RO σ g r) (hk : k ≠ r) : RO σ (up2 g k a x) r := by
  obtain ⟨h1, h2, g0, g1, g2, g3, g4⟩ := h
  refine ⟨h1, h2, ?_, ?_, ?_, ?_, ?_⟩ <;> rw [up2_ne g x (fun q => hk q.1.symm)] <;> assumption
theorem NO.upd {σ : ZS} {g : ZG} {r k a : Nat} {x : Option Nat} (h : NO σ g r) (hk : k ≠ r) : NO σ (up2 g k a x) r := by
  obtain ⟨h1, h2, g0, g1, g2⟩ := h
  refine ⟨h1, h2, ?_, ?_, ?_⟩ <;> rw [up2_ne g x (fun q => hk q.1.symm)] <;> assumption
theorem IO'.upd {σ : ZS} {g : ZG} {r k a : Nat} {x : Option Nat} (h : IO' σ g r) (hk : k ≠ r ∨ a = 1) (h1 : k ≠ r + 1) (h7 : k ≠ r + 7) : IO' σ (up2 g k a x) r := by
  obtain ⟨q1, ⟨q2, q3⟩, q4, q5⟩ := h
  refine ⟨q1, ⟨?_, ?_⟩, q4.upd h1, q5.upd h7⟩
  · rw [up2_ne g x (fun q => by omega)]; exact q2
  · rw [up2_ne g x (fun q => by omega)]; exact q3
theorem PO.upd {σ : ZS} {g : ZG} {r k a : Nat} {x : Option Nat} (h : PO σ g r) (hk : k ≠ r) (h3 : k ≠ r + 3) : PO σ (up2 g k a x) r := by
  obtain ⟨q1, q2, ⟨q3, q4, q5⟩, q6⟩ := h
  refine ⟨q1, q2, ⟨?_, ?_, ?_⟩, q6.upd h3⟩ <;> rw [up2_ne g x (fun q => hk q.1.symm)] <;> assumption
/-- the places that change: plan, the engine's plan and rule, the rules, an image's plan -/
def zDyn (k a : Nat) : Prop := (k = 0 ∧ a = 4) ∨ (k = 22 ∧ a ≤ 1) ∨ k = 2 ∨ (a = 1 ∧ (k = 55 ∨ k = 66 ∨ k = 77 ∨ k = 88)) ∨ 240 ≤ k
theorem zG0_dyn {k a r : Nat} (h : zG0 k a = some r) : ¬ zDyn k a := by
  intro hd
  unfold zDyn at hd
  unfold zG0 at h
  rcases hd with ⟨rfl, rfl⟩ | ⟨rfl, ha⟩ | rfl | ⟨rfl, rfl | rfl | rfl | rfl⟩ | hk
  · cases h
  · rw [if_neg (by omega), if_neg (by omega), if_neg (by omega), if_neg (by omega), if_neg (by omega), if_neg (by omega), if_pos rfl, if_neg (by omega), if_neg (by omega)] at h
    cases h
  · cases h
  · cases h
  · cases h
  · cases h
  · cases h
  · rw [if_neg (by omega), if_neg (by omega), if_neg (by omega), if_neg (by omega), if_neg (by omega), if_neg (by omega), if_neg (by omega), if_neg (by omega)] at h
    cases h
theorem Sh.upd {σ : ZS} {g : ZG} {k a : Nat} {x : Option Nat} (h : Sh σ g) (hd : zDyn k a) : Sh σ (up2 g k a x) := by
  obtain ⟨h1, h2, h3, h4, h5, h6, h7, h8, h9⟩ := h
  have hd' := hd
  unfold zDyn at hd'
  refine ⟨h1, h2, fun k' a' r hr => ?_, fun i hi => ⟨?_, (h4 i hi).2.upd (by omega)⟩, fun i hi => ⟨?_, (h5 i hi).2.upd (by omega) (by omega) (by omega)⟩, fun i hi => ⟨?_, (h6 i hi).2.upd (by omega)⟩, h7.upd (by omega), h8.upd (by omega), h9.upd (by omega)⟩
  · rw [up2_ne g x (fun q => zG0_dyn hr (by rw [q.1, q.2]; exact hd))]; exact h3 k' a' r hr
  · rw [up2_ne g x (fun q => by omega)]; exact (h4 i hi).1
  · rw [up2_ne g x (fun q => by omega)]; exact (h5 i hi).1
  · rw [up2_ne g x (fun q => by omega)]; exact (h6 i hi).1
section ZNEWS
variable {σ : ZS} {g : ZG} {t n : Nat}
theorem zO.new {k c : Nat} (h : zO σ k c) : zO (zNewS σ t n) k c := ⟨Nat.lt_succ_of_lt h.1, by show (if k = σ.1.1 then (t, n) else σ.2 k).1 = c; rw [if_neg (Nat.ne_of_lt h.1)]; exact h.2⟩
theorem zA.new {k t' n' : Nat} (h : zA σ k t' n') : zA (zNewS σ t n) k t' n' := ⟨Nat.lt_succ_of_lt h.1, by show (if k = σ.1.1 then (t, n) else σ.2 k) = (t', n'); rw [if_neg (Nat.ne_of_lt h.1)]; exact h.2⟩
theorem zG_new {k a : Nat} (h : k < σ.1.1) : zNewG σ g k a = g k a := by
  show (if k = σ.1.1 then none else g k a) = _
  rw [if_neg (Nat.ne_of_lt h)]
theorem zF_new {f : ZF} {k a : Nat} (h : k < σ.1.1) : zNewF σ f k a = f k a := by
  show (if k = σ.1.1 then 0 else f k a) = _
  rw [if_neg (Nat.ne_of_lt h)]
theorem RO.new {r : Nat} (h : RO σ g r) : RO (zNewS σ t n) (zNewG σ g) r := by
  obtain ⟨h1, ⟨a1, a2, a3, a4, a5⟩, g0, g1, g2, g3, g4⟩ := h
  refine ⟨h1.new, ⟨a1.new, a2.new, a3.new, a4.new, a5.new⟩, ?_, ?_, ?_, ?_, ?_⟩ <;> rw [zG_new h1.1] <;> assumption
theorem NO.new {r : Nat} (h : NO σ g r) : NO (zNewS σ t n) (zNewG σ g) r := by
  obtain ⟨h1, ⟨a1, a2, a3⟩, g0, g1, g2⟩ := h
  refine ⟨h1.new, ⟨a1.new, a2.new, a3.new⟩, ?_, ?_, ?_⟩ <;> rw [zG_new h1.1] <;> assumption
theorem IO'.new {r : Nat} (h : IO' σ g r) : IO' (zNewS σ t n) (zNewG σ g) r := by
  obtain ⟨h1, ⟨g0, g1⟩, h2, h3⟩ := h
  refine ⟨h1.new, ⟨?_, ?_⟩, h2.new, h3.new⟩ <;> rw [zG_new h1.1] <;> assumption
theorem PO.new {r : Nat} (h : PO σ g r) : PO (zNewS σ t n) (zNewG σ g) r := by
  obtain ⟨h1, ⟨a1, a2⟩, ⟨g0, g1, g2⟩, h2⟩ := h
  refine ⟨h1.new, ⟨a1.new, a2.new⟩, ⟨?_, ?_, ?_⟩, h2.new⟩ <;> rw [zG_new h1.1] <;> assumption
theorem Sh.new (h : Sh σ g) : Sh (zNewS σ t n) (zNewG σ g) := by
  have hT : ∀ {k : Nat} {x : Nat × Nat}, znth zT0 k = some x → k < σ.1.1 := fun e => h.lt e
  obtain ⟨h1, h2, h3, h4, h5, h6, h7, h8, h9⟩ := h
  have hG : ∀ k a r, zG0 k a = some r → k < 240 := by
    intro k a r hr
    apply Nat.lt_of_not_le
    intro hk
    exact zG0_dyn hr (Or.inr (Or.inr (Or.inr (Or.inr hk))))
  refine ⟨Nat.le_succ_of_le h1, fun k x e => ?_, fun k a r hr => ?_, fun i hi => ⟨?_, (h4 i hi).2.new⟩, fun i hi => ⟨?_, (h5 i hi).2.new⟩, fun i hi => ⟨?_, (h6 i hi).2.new⟩, h7.new, h8.new, h9.new⟩
  · show (if k = σ.1.1 then (t, n) else σ.2 k) = x
    rw [if_neg (Nat.ne_of_lt (hT e))]
    exact h2 k x e
  · rw [zG_new (by have := hG k a r hr; omega)]; exact h3 k a r hr
  · rw [zG_new (by omega)]; exact (h4 i hi).1
  · rw [zG_new (by omega)]; exact (h5 i hi).1
  · rw [zG_new (by omega)]; exact (h6 i hi).1
end ZNEWS
