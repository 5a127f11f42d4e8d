/-! More cells: what stood stands -/
def Ext (σ σ' : ZS) (f f' : ZF) (g g' : ZG) : Prop := σ.1.1 ≤ σ'.1.1 ∧ ∀ k, k < σ.1.1 → σ'.2 k = σ.2 k ∧ f' k = f k ∧ g' k = g k
section EXT
variable {σ σ' : ZS} {f f' : ZF} {g g' : ZG} {a : AS}
theorem Ext.rf (σ : ZS) (f : ZF) (g : ZG) : Ext σ σ f f g g := ⟨Nat.le_refl _, fun _ _ => ⟨rfl, rfl, rfl⟩⟩
theorem Ext.trans {σ'' : ZS} {f'' : ZF} {g'' : ZG} (h1 : Ext σ σ' f f' g g') (h2 : Ext σ' σ'' f' f'' g' g'') : Ext σ σ'' f f'' g g'' := ⟨Nat.le_trans h1.1 h2.1, fun k hk => by
  obtain ⟨a1, a2, a3⟩ := h1.2 k hk
  obtain ⟨b1, b2, b3⟩ := h2.2 k (Nat.lt_of_lt_of_le hk h1.1)
  exact ⟨b1.trans a1, b2.trans a2, b3.trans a3⟩⟩
theorem Ext.new (σ : ZS) (f : ZF) (g : ZG) (t n : Nat) : Ext σ (zNewS σ t n) f (zNewF σ f) g (zNewG σ g) := ⟨Nat.le_succ _, fun k hk => ⟨if_neg (Nat.ne_of_lt hk), funext (fun j => zF_new hk), funext (fun j => zG_new hk)⟩⟩
theorem Ext.upF {k i : Nat} {v : Int} (h : Ext σ σ' f f' g g') (hk : σ.1.1 ≤ k) : Ext σ σ' f (up2 f' k i v) g g' := ⟨h.1, fun c hc => by
  obtain ⟨a1, a2, a3⟩ := h.2 c hc
  exact ⟨a1, (up2_o _ _ (by omega)).trans a2, a3⟩⟩
theorem Ext.upG {k i : Nat} {v : Option Nat} (h : Ext σ σ' f f' g g') (hk : σ.1.1 ≤ k) : Ext σ σ' f f' g (up2 g' k i v) := ⟨h.1, fun c hc => by
  obtain ⟨a1, a2, a3⟩ := h.2 c hc
  refine ⟨a1, a2, ?_⟩
  rw [← a3]
  funext j
  exact up2_ne _ _ (fun q => by omega)⟩
theorem Ext.cpy {a0 k sp dp n : Nat} (h : Ext σ σ' f f' g g') (hk : σ.1.1 ≤ k) : Ext σ σ' f (zcpy f' a0 k sp dp n) g g' := ⟨h.1, fun c hc => by
  obtain ⟨a1, a2, a3⟩ := h.2 c hc
  exact ⟨a1, (zcpy_o (by omega)).trans a2, a3⟩⟩
theorem zO.ext {k c : Nat} (h : zO σ k c) (he : Ext σ σ' f f' g g') : zO σ' k c := ⟨Nat.lt_of_lt_of_le h.1 he.1, by rw [(he.2 k h.1).1]; exact h.2⟩
theorem zA.ext {k t n : Nat} (h : zA σ k t n) (he : Ext σ σ' f f' g g') : zA σ' k t n := ⟨Nat.lt_of_lt_of_le h.1 he.1, by rw [(he.2 k h.1).1]; exact h.2⟩
theorem RO.ext {r : Nat} (h : RO σ g r) (he : Ext σ σ' f f' g g') : RO σ' g' r := by
  obtain ⟨h1, ⟨a1, a2, a3, a4, a5⟩, h3⟩ := h
  refine ⟨h1.ext he, ⟨a1.ext he, a2.ext he, a3.ext he, a4.ext he, a5.ext he⟩, ?_⟩
  rw [(he.2 r h1.1).2.2]
  exact h3
theorem RO.lt {r : Nat} (h : RO σ g r) : r + 5 < σ.1.1 := h.2.1.2.2.2.2.1
theorem NO.ext {r : Nat} (h : NO σ g r) (he : Ext σ σ' f f' g g') : NO σ' g' r := by
  obtain ⟨h1, ⟨a1, a2, a3⟩, h3⟩ := h
  refine ⟨h1.ext he, ⟨a1.ext he, a2.ext he, a3.ext he⟩, ?_⟩
  rw [(he.2 r h1.1).2.2]
  exact h3
theorem IO'.ext {r : Nat} (h : IO' σ g r) (he : Ext σ σ' f f' g g') : IO' σ' g' r := by
  obtain ⟨h1, h2, h3, h4⟩ := h
  refine ⟨h1.ext he, ?_, h3.ext he, h4.ext he⟩
  rw [(he.2 r h1.1).2.2]
  exact h2
theorem PO.ext {r : Nat} (h : PO σ g r) (he : Ext σ σ' f f' g g') : PO σ' g' r := by
  obtain ⟨h1, ⟨a1, a2⟩, h3, h4⟩ := h
  refine ⟨h1.ext he, ⟨a1.ext he, a2.ext he⟩, ?_, h4.ext he⟩
  rw [(he.2 r h1.1).2.2]
  exact h3
theorem Sh.ext (h : Sh σ g) (he : Ext σ σ' f f' g g') : Sh σ' g' := by
  have hT : ∀ {k : Nat} {x : Nat × Nat}, znth zT0 k = some x → k < σ.1.1 := fun e => h.lt e
  obtain ⟨h1, h2, h3, h4, h5, h6, h7, h8, h9⟩ := h
  have hG : ∀ k a r, zG0 k a = some r → k < 240 := by
    intro k a r hr
    apply Nat.lt_of_not_le
    intro hk
    exact zG0_dyn hr (Or.inr (Or.inr (Or.inr (Or.inr hk))))
  refine ⟨Nat.le_trans h1 he.1, fun k x e => by rw [(he.2 k (hT e)).1]; exact h2 k x e, fun k a r hr => ?_, fun i hi => ⟨?_, (h4 i hi).2.ext he⟩, fun i hi => ⟨?_, (h5 i hi).2.ext he⟩, fun i hi => ⟨?_, (h6 i hi).2.ext he⟩, h7.ext he, h8.ext he, h9.ext he⟩
  · rw [(he.2 k (by have := hG k a r hr; omega)).2.2]; exact h3 k a r hr
  · rw [(he.2 14 (by omega)).2.2]; exact (h4 i hi).1
  · rw [(he.2 13 (by omega)).2.2]; exact (h5 i hi).1
  · rw [(he.2 28 (by omega)).2.2]; exact (h6 i hi).1
theorem CW.ext {gp : Option Nat} {r t : Nat} {w : AW} (h : CW σ f g gp r t w) (he : Ext σ σ' f f' g g') (hr : r + 5 < σ.1.1) (ht : t + 3 < σ.1.1) : CW σ' f' g' gp r t w := by
  obtain ⟨h1, h2, h3, h4⟩ := h
  have e : ∀ c, c < σ.1.1 → f' c = f c := fun c hc => (he.2 c hc).2.1
  refine ⟨?_, h2.fr (fun c q1 q2 => e c (by omega)), by rw [e t (by omega)]; exact h3, fun i hi => by rw [e (t + 1) (by omega), e (t + 2) (by omega), e (t + 3) (by omega)]; exact h4 i hi⟩
  cases hp : w.pn with
  | none => rw [hp] at h1; exact h1
  | some x =>
    obtain ⟨pl, rd0⟩ := x
    rw [hp] at h1
    obtain ⟨p, q1, q2, q3, q4, q5⟩ := h1
    have hlt := q3.2.2.2.lt
    refine ⟨p, q1, q2, q3.ext he, ?_, q5.fr (fun c q1 q2 => e c (by omega))⟩
    unfold PC at *
    rw [e p (by omega), e (p + 1) (by omega), e (p + 2) (by omega)]
    exact q4
theorem RuC.ext {q c : Nat} {cls : Cls} (h : RuC σ g q c cls) (he : Ext σ σ' f f' g g') : RuC σ' g' q c cls := ⟨h.o.ext he, by rw [(he.2 q h.o.1).2.2]; exact h.gc, h.a.ext he, h.l, h.c240, h.ok⟩
theorem CI.ext (h : CI σ f g a) (he : Ext σ σ' f f' g g') : CI σ' f' g' a := by
  obtain ⟨h1, h2, h3, h4, h5, h6, h7, h8, h9, h10, ⟨u, h11, h12, h13⟩, h14⟩ := h
  have hz := h1.sz
  have e : ∀ c, c < σ.1.1 → f' c = f c := fun c hc => (he.2 c hc).2.1
  have eg : ∀ c, c < σ.1.1 → g' c = g c := fun c hc => (he.2 c hc).2.2
  refine ⟨h1.ext he, by rw [e 0 (by omega)]; exact h2, by rw [e 1 (by omega)]; exact h3, by rw [e 1 (by omega)]; exact h4, by rw [e 0 (by omega)]; exact h5, fun i hi => ?_, ?_, by rw [e 0 (by omega)]; exact h8, by rw [e 0 (by omega)]; exact h9, by rw [e 0 (by omega)]; exact h10, ⟨u, h11, by rw [e 0 (by omega)]; exact h12, fun i hi => (h13 i hi).fr (fun c q1 q2 => e c (by omega))⟩, fun k hk => ?_⟩
  · obtain ⟨q, c, q1, q2, q3, q4⟩ := h6 i hi
    refine ⟨q, c, by rw [eg 2 (by omega)]; exact q1, q2, q3.ext he, by rw [e c q3.a.1]; exact q4⟩
  · rw [eg 0 (by omega)]
    exact h7.ext he (by omega) (by omega)
  · have := h14 k hk
    cases hi : a.im k with
    | none => rw [hi] at this; simp only at this ⊢; rw [e _ (by omega)]; exact this
    | some x =>
      obtain ⟨w, fo, x⟩ := x
      rw [hi] at this
      obtain ⟨q1, q2, q3, q4⟩ := this
      simp only
      rw [e (55 + 11 * k) (by omega), eg (55 + 11 * k) (by omega)]
      exact ⟨q1, q2.ext he (by omega) (by omega), q3, q4⟩
/-- a rule more -/
def ruAdd (a : AS) (cls : Cls) : AS := a.sRu (a.rk + 1) (fun i => if i = a.rk then cls else a.ru i)
theorem CI.rule (h : CI σ f g a) (hk : a.rk < 6) {q c : Nat} {cls : Cls} (hq : 240 ≤ q) (hr : RuC σ g q c cls) (hat : At (f c) 0 (cCodes cls)) (hf : ∀ k, k ≠ 0 → f' k = f k) (h0 : ∀ i, i ≠ 3 → f' 0 i = f 0 i) (h3 : f' 0 3 = (a.rk : Int) + 1) : CI σ f' (up2 g 2 a.rk (some q)) (ruAdd a cls) := by
  obtain ⟨k1, k2, k3, k4, k5, k6, k7, k8, k9, k10, ⟨u, k11, k12, k13⟩, k14⟩ := h
  have eg : ∀ b i, b ≠ 2 → up2 g 2 a.rk (some q) b i = g b i := fun b i hb => up2_ne _ _ (fun z => hb z.1)
  refine ⟨k1.upd (Or.inr (Or.inr (Or.inl rfl))), by rw [h0 1 (by omega)]; exact k2, by rw [hf 1 (by omega)]; exact k3, by rw [hf 1 (by omega)]; exact k4, by rw [h3]; rfl, fun i hi => ?_, ?_, by rw [h0 6 (by omega)]; exact k8, by rw [h0 7 (by omega)]; exact k9, by rw [h0 11 (by omega)]; exact k10, ⟨u, k11, by rw [h0 12 (by omega)]; exact k12, fun i hi => (k13 i hi).fr (fun c q1 q2 => hf c (by omega))⟩, fun k hk => ?_⟩
  · show ∃ q' c', up2 g 2 a.rk (some q) 2 i = some q' ∧ 240 ≤ q' ∧ RuC σ (up2 g 2 a.rk (some q)) q' c' (if i = a.rk then cls else a.ru i) ∧ At (f' c') 0 (cCodes (if i = a.rk then cls else a.ru i))
    by_cases e : i = a.rk
    · rw [if_pos e, e]
      exact ⟨q, c, up2_same _ _ _ _, hq, hr.frg (fun j => eg _ _ (by omega)), by rw [hf c (by have := hr.c240; omega)]; exact hat⟩
    · rw [if_neg e]
      have hi' : i < a.rk + 1 := hi
      obtain ⟨q', c', q1, q2, q3, q4⟩ := k6 i (by omega)
      exact ⟨q', c', by rw [up2_ne _ _ (fun z => e z.2)]; exact q1, q2, q3.frg (fun j => eg _ _ (by omega)), by rw [hf c' (by have := q3.c240; omega)]; exact q4⟩
  · rw [eg 0 4 (by omega)]
    exact k7.fr (fun c q => hf c (by omega)) (fun c i q => eg _ _ (by omega))
  · have := k14 k hk
    show (match a.im k with
      | none => f' (55 + 11 * k) 0 = 0
      | some (w, fo, x) => f' (55 + 11 * k) 0 = 1 ∧ CW σ f' (up2 g 2 a.rk (some q)) (up2 g 2 a.rk (some q) (55 + 11 * k) 1) (56 + 11 * k) (62 + 11 * k) w ∧ f' (55 + 11 * k) 2 = fo ∧ f' (55 + 11 * k) 3 = x)
    cases hi : a.im k with
    | none => rw [hi] at this; simp only at this ⊢; rw [hf _ (by omega)]; exact this
    | some x =>
      obtain ⟨w, fo, x⟩ := x
      rw [hi] at this
      obtain ⟨q1, q2, q3, q4⟩ := this
      simp only
      rw [hf (55 + 11 * k) (by omega), eg (55 + 11 * k) 1 (by omega)]
      exact ⟨q1, q2.fr (fun c q => hf c (by omega)) (fun c i q => eg _ _ (by omega)), q3, q4⟩
end EXT
