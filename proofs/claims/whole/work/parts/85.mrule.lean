/-! The reference reads a whole RULE -/
def xs (x : List Tk × Option (List Tk)) : List Int := match x.2 with
  | none => x.1.map tsign
  | some e => x.1.map tsign ++ e.map tsign
def sgs : Cls → List Int
  | [] => []
  | x :: r => xs x ++ sgs r
/-- a CLAUSE's row: where its signs begin and end -/
def RowX (f : ZF) (tx c b : Nat) (x : List Tk × Option (List Tk)) : Prop := f 223 (48 * tx + 4 * c) = (b : Int) ∧ f 223 (48 * tx + 4 * c + 1) = ((b + x.1.length : Nat) : Int) ∧ (match x.2 with
  | none => f 223 (48 * tx + 4 * c + 2) = -1
  | some e => f 223 (48 * tx + 4 * c + 2) = ((b + x.1.length : Nat) : Int) ∧ f 223 (48 * tx + 4 * c + 3) = ((b + x.1.length + e.length : Nat) : Int))
def CR (f : ZF) (tx : Nat) : Nat → Nat → Cls → Prop
  | _, _, [] => True
  | c, b, x :: r => RowX f tx c b x ∧ CR f tx (c + 1) (b + (xs x).length) r
theorem CR.mat {f : ZF} {tx : Nat} : ∀ (cls : Cls) (c b : Nat), CR f tx c b cls → At (f 221) (400 * tx + b) (sgs cls) → b + (sgs cls).length ≤ 400 → MAt f tx c cls := by
  intro cls
  induction cls with
  | nil => intro c b _ _ _; exact trivial
  | cons x r ih =>
    obtain ⟨s, o⟩ := x
    intro c b h ha hl
    obtain ⟨⟨h1, h2, h3⟩, h4⟩ := h
    have ha' := (At.app (xs (s, o)) (sgs r) _).1 ha
    have hl' : b + ((xs (s, o)).length + (sgs r).length) ≤ 400 := by rw [← List.length_append]; exact hl
    have hr := ih (c + 1) (b + (xs (s, o)).length) h4 (by rw [← Nat.add_assoc]; exact ha'.2) (by omega)
    cases o with
    | none =>
      have e : (xs (s, none)).length = s.length := by show (s.map tsign).length = _; simp
      exact ⟨⟨b, h1, h2, by omega, ha'.1⟩, h3, hr⟩
    | some e =>
      have e1 : (xs (s, some e)).length = s.length + e.length := by show (s.map tsign ++ e.map tsign).length = _; simp
      have ha2 := (At.app (s.map tsign) (e.map tsign) _).1 ha'.1
      refine ⟨⟨b, h1, h2, by omega, ha2.1⟩, ⟨b + s.length, h3.1, h3.2, by omega, ?_⟩, hr⟩
      have := ha2.2
      rw [List.length_map] at this
      rw [← Nat.add_assoc]
      exact this
theorem RowX.fr {f f' : ZF} {tx c b : Nat} {x : List Tk × Option (List Tk)} (h : RowX f tx c b x) (e : ∀ i, i < 48 * tx + 4 * (c + 1) → f' 223 i = f 223 i) : RowX f' tx c b x := by
  obtain ⟨s, o⟩ := x
  obtain ⟨h1, h2, h3⟩ := h
  refine ⟨by rw [e _ (by omega)]; exact h1, by rw [e _ (by omega)]; exact h2, ?_⟩
  cases o with
  | none => show f' 223 _ = -1; rw [e _ (by omega)]; exact h3
  | some z => exact ⟨by rw [e _ (by omega)]; exact h3.1, by rw [e _ (by omega)]; exact h3.2⟩
/-- what reading a RULE from CLAUSE c on may change -/
def FrZ (tx c : Nat) (f f' : ZF) : Prop := (∀ k, k ≠ 219 → ¬ (221 ≤ k ∧ k ≤ 224) → k ≠ 226 → f' k = f k) ∧ (∀ i, i ≠ 1 → ¬ (8 ≤ i ∧ i ≤ 10) → ¬ (12 ≤ i ∧ i ≤ 14) → i ≠ 16 → f' 219 i = f 219 i) ∧ (∀ i, i < 400 * tx → f' 221 i = f 221 i) ∧ (∀ i, i < 48 * tx + 4 * c → f' 223 i = f 223 i) ∧ (∀ i, i ≠ tx → f' 224 i = f 224 i)
theorem FrZ.rf (tx c : Nat) (f : ZF) : FrZ tx c f f := ⟨fun _ _ _ _ => rfl, fun _ _ _ _ _ => rfl, fun _ _ => rfl, fun _ _ => rfl, fun _ _ => rfl⟩
theorem FrZ.trans {tx c c' : Nat} {a b e : ZF} (h1 : FrZ tx c a b) (h2 : FrZ tx c' b e) (hc : c ≤ c') : FrZ tx c a e := ⟨fun k q1 q2 q3 => (h2.1 k q1 q2 q3).trans (h1.1 k q1 q2 q3), fun i q1 q2 q3 q4 => (h2.2.1 i q1 q2 q3 q4).trans (h1.2.1 i q1 q2 q3 q4), fun i q => (h2.2.2.1 i q).trans (h1.2.2.1 i q), fun i q => (h2.2.2.2.1 i (by omega)).trans (h1.2.2.2.1 i q), fun i q => (h2.2.2.2.2 i q).trans (h1.2.2.2.2 i q)⟩
theorem FrZ.v {tx c : Nat} {a b e : ZF} (h1 : FrZ tx c a b) (h2 : FrV tx b e) : FrZ tx c a e := h1.trans (c' := c) ⟨fun k q1 q2 q3 => h2.1 k q1 (by omega) (by omega), fun i q1 q2 q3 q4 => h2.2.1 i (by omega) (by omega) (by omega) (by omega), h2.2.2.1, fun i _ => by rw [h2.1 223 (by omega) (by omega) (by omega)], fun i _ => by rw [h2.1 224 (by omega) (by omega) (by omega)]⟩ (Nat.le_refl c)
theorem FrZ.w {tx c : Nat} {a b e : ZF} (h1 : FrZ tx c a b) (h2 : FrW tx b e) : FrZ tx c a e := h1.trans (c' := c) ⟨fun k q1 q2 q3 => h2.1 k q1 (by omega) (by omega) q3, fun i q1 q2 q3 q4 => h2.2.1 i (by omega) (by omega) (by omega) (by omega) (by omega) q4, h2.2.2.1, fun i _ => by rw [h2.1 223 (by omega) (by omega) (by omega) (by omega)], fun i _ => by rw [h2.1 224 (by omega) (by omega) (by omega) (by omega)]⟩ (Nat.le_refl c)
theorem FrZ.up {tx c i : Nat} {a b : ZF} {v : Int} (h1 : FrZ tx c a b) (hi : i = 1 ∨ (8 ≤ i ∧ i ≤ 10) ∨ (12 ≤ i ∧ i ≤ 14) ∨ i = 16) : FrZ tx c a (up2 b 219 i v) := h1.trans (c' := c) ⟨fun k q1 q2 q3 => up2_o _ _ q1, fun j q1 q2 q3 q4 => up2_ne _ _ (by omega), fun j _ => by rw [up2_o _ _ (by omega)], fun j _ => by rw [up2_o _ _ (by omega)], fun j _ => by rw [up2_o _ _ (by omega)]⟩ (Nat.le_refl c)
theorem FrZ.row {tx c i : Nat} {a b : ZF} {v : Int} (h1 : FrZ tx c a b) (hi : 48 * tx + 4 * c ≤ i) : FrZ tx c a (up2 b 223 i v) := h1.trans (c' := c) ⟨fun k q1 q2 q3 => up2_o _ _ (by omega), fun j _ _ _ _ => by rw [up2_o _ _ (by omega)], fun j _ => by rw [up2_o _ _ (by omega)], fun j q => up2_ne _ _ (by omega), fun j _ => by rw [up2_o _ _ (by omega)]⟩ (Nat.le_refl c)
theorem FrZ.cnt {tx c : Nat} {a b : ZF} {v : Int} (h1 : FrZ tx c a b) : FrZ tx c a (up2 b 224 tx v) := h1.trans (c' := c) ⟨fun k q1 q2 q3 => up2_o _ _ (by omega), fun j _ _ _ _ => by rw [up2_o _ _ (by omega)], fun j _ => by rw [up2_o _ _ (by omega)], fun j q => by rw [up2_o _ _ (by omega)], fun j q => up2_ne _ _ (by omega)⟩ (Nat.le_refl c)
theorem MG.k {f : ZF} {t : Tx} {tx p n k i : Nat} {l : List Int} {v : Int} (h : MG f t tx p n l) (hk : k = 223 ∨ k = 224) : MG (up2 f k i v) t tx p n l := by
  obtain ⟨⟨⟨m1, m2⟩, x, h8, hx, hp⟩, h2, h3, h4, h5, h6, h7⟩ := h
  exact ⟨⟨⟨by rw [up2_o _ _ (by omega)]; exact m1, by rw [up2_o _ _ (by omega)]; exact m2⟩, x, by rw [up2_o _ _ (by omega)]; exact h8, hx, hp⟩, by rw [up2_o _ _ (by omega)]; exact h2, by rw [up2_o _ _ (by omega)]; exact h3, by rw [up2_o _ _ (by omega)]; exact h4, h5, by rw [up2_o _ _ (by omega)]; exact h6, by rw [up2_o _ _ (by omega)]; exact h7⟩
theorem MG.l {f : ZF} {t : Tx} {tx p n : Nat} {l : List Int} {v : Int} (h : MG f t tx p n l) : MG (up2 f 219 14 v) t tx p n l := by
  obtain ⟨⟨hm, x, h8, hx, hp⟩, h2, h3, h4, h5, h6, h7⟩ := h
  exact ⟨⟨hm.up (by omega), x, (up2_ne _ _ (by omega)).trans h8, hx, hp⟩, (up2_ne _ _ (by omega)).trans h2, (up2_ne _ _ (by omega)).trans h3, (up2_ne _ _ (by omega)).trans h4, h5, by rw [up2_o _ _ (by omega)]; exact h6, by rw [up2_o _ _ (by omega)]; exact h7⟩
theorem wOk_go : wOk wGo := by
  have h : (∀ i, i < wGo.length → 1 ≤ wGo.getD i 0 ∧ wGo.getD i 0 ≤ 255) ∧ wGo.length < 8 ∧ 0 < wGo.length := by decide
  exact h
theorem wOk_if : wOk wIf := by
  have h : (∀ i, i < wIf.length → 1 ≤ wIf.getD i 0 ∧ wIf.getD i 0 ≤ 255) ∧ wIf.length < 8 ∧ 0 < wIf.length := by decide
  exact h
section MRULE
variable {d : Nat} {σ : ZS} {f : ZF} {g : ZG} {Q : ZQ} {p n tx c : Nat} {t : Tx} {l : List Int} {a : AS} {N : Int}
theorem c_isGoHere (hd : 11 ≤ d) (hs : Sh σ g) (hT : TxOk t) (htx : tx < 6) (h : MG f t tx p n l) (hl : l.length ≤ p) (h8 : f 219 8 = (p : Int)) (hc : f 224 tx = (c : Int)) (hc12 : c < 12) (hw : wIs t p wGo = true) (k1 : ∀ p' n' x, dGo t c p n = .inr (p', n', x) → ∀ f', FrZ tx c f f' → MG f' t tx p' n' (l ++ xs x) → RowX f' tx c l.length x → f' 224 tx = (c : Int) + 1 → f' 219 14 = f 219 14 → Q (some (zi 1)) σ f' g) (k2 : ∀ e, dGo t c p n = .inl e → ∀ f', FrZ tx c f f' → f' 219 9 = e → (1 ≤ e ∧ e ≤ 4000) → Q (some (zi 0)) σ f' g) : ZCt d 156 [zr (some 219)] σ f g Q := by
  refine ZCt.of' (L0 := [_, _]) (by omega) rfl rfl rfl (fun d hd1 => ?_)
  have hT1 := hT.1
  have hp := h.1.le
  have hLl := lE_le hp
  have hLg := lE_ge t p
  have hsg := sk_ge t (lE t p)
  have hsk := sk_le hLl
  refine r_aload_n rfl rfl ?_
  refine r_callV0 rfl rfl (by first | assumption | exact hs.o rfl) rfl (c_passWord (q := p) (by omega) hs hT h.1.mx h8 h.1.le ?_)
  have h1 := h.at hLl
  refine r_bipush rfl ?_
  refine r_aload_n rfl rfl ?_
  refine r_getI rfl (by first | assumption | exact hs.o rfl) h1.2.2.1 ?_
  refine r_imul rfl ?_
  refine r_iconst rfl ?_
  refine r_aload_n rfl rfl ?_
  refine r_getR rfl (by first | assumption | exact hs.o rfl) (by first | assumption | exact hs.g rfl) ?_
  refine r_aload_n rfl rfl ?_
  refine r_getI rfl (by first | assumption | exact hs.o rfl) h1.2.2.1 ?_
  refine r_iald rfl (by first | assumption | exact hs.a rfl) (by omega) (by omega) ((zix (n := tx) (by omega)).trans ((congrFun (up2_o _ _ (by omega)) _).trans hc)) ?_
  refine r_imul rfl ?_
  refine r_iadd rfl ?_
  refine r_istore_n (L' := [_, _]) rfl rfl rfl ?_
  refine r_aload_n rfl rfl ?_
  refine r_getR rfl (by first | assumption | exact hs.o rfl) (by first | assumption | exact hs.g rfl) ?_
  refine r_iload_n rfl rfl ?_
  refine r_aload_n rfl rfl ?_
  refine r_getR rfl (by first | assumption | exact hs.o rfl) (by first | assumption | exact hs.g rfl) ?_
  refine r_aload_n rfl rfl ?_
  refine r_getI rfl (by first | assumption | exact hs.o rfl) h1.2.2.1 ?_
  refine r_iald rfl (by first | assumption | exact hs.a rfl) (by omega) (by omega) ((zix (n := tx) (by omega)).trans h1.2.2.2.2.2.1) ?_
  refine r_iastN (48 * tx + 4 * c) rfl (by first | assumption | exact hs.a rfl) (by omega) (by omega) (by omega) ?_
  refine r_aload_n rfl rfl ?_
  refine r_callV0 rfl rfl (by first | assumption | exact hs.o rfl) rfl (c_sum (by omega) hs hT htx (h1.k (Or.inl rfl)) (by omega) ⟨fun p2 n2 m2 e2 f2 hf2 h2 => ?_, fun e2 he2 f2 hf2 h9 hr9 => ?_⟩)
  · refine r_if_y rfl (by decide) ?_
    refine r_aload_n rfl rfl ?_
    refine r_getR rfl (by first | assumption | exact hs.o rfl) (by first | assumption | exact hs.g rfl) ?_
    refine r_iload_n rfl rfl ?_
    refine r_iconst rfl ?_
    refine r_iadd rfl ?_
    refine r_aload_n rfl rfl ?_
    refine r_getR rfl (by first | assumption | exact hs.o rfl) (by first | assumption | exact hs.g rfl) ?_
    refine r_aload_n rfl rfl ?_
    refine r_getI rfl (by first | assumption | exact hs.o rfl) h2.2.2.1 ?_
    refine r_iald rfl (by first | assumption | exact hs.a rfl) (by omega) (by omega) ((zix (n := tx) (by omega)).trans h2.2.2.2.2.2.1) ?_
    refine r_iastN (48 * tx + 4 * c + 1) rfl (by first | assumption | exact hs.a rfl) (by omega) (by omega) (by omega) ?_
    refine r_aload_n rfl rfl ?_
    refine r_getR rfl (by first | assumption | exact hs.o rfl) (by first | assumption | exact hs.g rfl) ?_
    refine r_iload_n rfl rfl ?_
    refine r_iconst rfl ?_
    refine r_iadd rfl ?_
    refine r_iconst rfl ?_
    refine r_iastN (48 * tx + 4 * c + 2) rfl (by first | assumption | exact hs.a rfl) (by omega) (by omega) (by omega) ?_
    refine r_aload_n rfl rfl ?_
    refine r_ldc2 rfl ?_
    have h3 := (h2.k (k := 223) (i := 48 * tx + 4 * c + 1) (v := ((l ++ m2.map tsign).length : Int)) (Or.inl rfl)).k (k := 223) (i := 48 * tx + 4 * c + 2) (v := -1) (Or.inl rfl)
    obtain ⟨g1, g2, g3⟩ := dSum_ok t _ _ _ _ _ e2
    have hp2 := h2.1.le
    have hgr : (l ++ m2.map tsign).length ≤ p2 := by simp only [List.length_append, List.length_map]; omega
    have h223 : f2 223 = up2 (up2 f 219 8 ((lE t p : Nat) : Int)) 223 (48 * tx + 4 * c) (l.length : Int) 223 := hf2.1 223 (by omega) (by omega) (by omega)
    have h2n : f2 219 14 = f 219 14 := (hf2.2.1 14 (by omega) (by omega) (by omega) (by omega)).trans ((congrFun (up2_o _ _ (by omega)) 14).trans (up2_ne _ _ (by omega)))
    have h224 : f2 224 = f 224 := (hf2.1 224 (by omega) (by omega) (by omega)).trans ((up2_o _ _ (by omega)).trans (up2_o _ _ (by omega)))
    refine r_callV1 rfl rfl (by first | assumption | exact hs.o rfl) rfl (c_takesWord (wd := wIf) (by omega) hs hT wOk_if rfl h3.1 (fun hif => ?_) (fun hif => ?_))
    · refine r_if_n rfl (by decide) ?_
      refine r_aload_n rfl rfl ?_
      refine r_getR rfl (by first | assumption | exact hs.o rfl) (by first | assumption | exact hs.g rfl) ?_
      refine r_iload_n rfl rfl ?_
      refine r_iconst rfl ?_
      refine r_iadd rfl ?_
      refine r_aload_n rfl rfl ?_
      refine r_getR rfl (by first | assumption | exact hs.o rfl) (by first | assumption | exact hs.g rfl) ?_
      refine r_aload_n rfl rfl ?_
      refine r_getI rfl (by first | assumption | exact hs.o rfl) (h3.at (lE_le hp2)).2.2.1 ?_
      refine r_iald rfl (by first | assumption | exact hs.a rfl) (by omega) (by omega) ((zix (n := tx) (by omega)).trans (h3.at (lE_le hp2)).2.2.2.2.2.1) ?_
      refine r_iastN (48 * tx + 4 * c + 2) rfl (by first | assumption | exact hs.a rfl) (by omega) (by omega) (by omega) ?_
      refine r_aload_n rfl rfl ?_
      refine r_callV0 rfl rfl (by first | assumption | exact hs.o rfl) rfl (c_tested (by omega) hs hT htx ((h3.at (lE_le hp2)).k (Or.inl rfl)) (by have := sk_ge t (lE t p2); have := lE_ge t p2; omega) ⟨fun p5 n5 m5 e5 f5 hf5 h5 => ?_, fun e5 he5 f5 hf5 h9 hr9 => ?_⟩)
      · refine r_if_y rfl (by decide) ?_
        refine r_aload_n rfl rfl ?_
        refine r_getR rfl (by first | assumption | exact hs.o rfl) (by first | assumption | exact hs.g rfl) ?_
        refine r_iload_n rfl rfl ?_
        refine r_iconst rfl ?_
        refine r_iadd rfl ?_
        refine r_aload_n rfl rfl ?_
        refine r_getR rfl (by first | assumption | exact hs.o rfl) (by first | assumption | exact hs.g rfl) ?_
        refine r_aload_n rfl rfl ?_
        refine r_getI rfl (by first | assumption | exact hs.o rfl) h5.2.2.1 ?_
        refine r_iald rfl (by first | assumption | exact hs.a rfl) (by omega) (by omega) ((zix (n := tx) (by omega)).trans h5.2.2.2.2.2.1) ?_
        refine r_iastN (48 * tx + 4 * c + 3) rfl (by first | assumption | exact hs.a rfl) (by omega) (by omega) (by omega) ?_
        refine r_aload_n rfl rfl ?_
        refine r_getR rfl (by first | assumption | exact hs.o rfl) (by first | assumption | exact hs.g rfl) ?_
        refine r_aload_n rfl rfl ?_
        refine r_getI rfl (by first | assumption | exact hs.o rfl) (show _ = (tx : Int) from by rw [up2_o _ _ (by omega)]; exact h5.2.2.1) ?_
        refine r_dup2 rfl ?_
        refine r_iald rfl (by first | assumption | exact hs.a rfl) (by omega) (by omega) ((zix (n := tx) (by omega)).trans (show _ = (c : Int) from by rw [up2_o _ _ (by omega), hf5.1 224 (by omega) (by omega) (by omega) (by omega), up2_o _ _ (by omega), up2_o _ _ (by omega), up2_o _ _ (by omega), up2_o _ _ (by omega), h224]; exact hc)) ?_
        refine r_iconst rfl ?_
        refine r_iadd rfl ?_
        refine r_iastN (tx) rfl (by first | assumption | exact hs.a rfl) (by omega) (by omega) (by omega) ?_
        refine r_iconst rfl ?_
        refine r_zret rfl (by omega) ?_
        have e223 : f5 223 = _ := hf5.1 223 (by omega) (by omega) (by omega) (by omega)
        refine k1 p5 n5 (m2, some m5) (by unfold dGo; rw [if_pos hw, if_neg (by omega), e2]; simp only; rw [if_pos hif, e5]) _ ((((((((((FrZ.rf tx c f).up (by omega)).row (Nat.le_refl _)).v hf2).row (by omega)).row (by omega)).up (by omega)).row (by omega)).w hf5).row (by omega) |>.cnt) ?_ ⟨?_, ?_, ?_, ?_⟩ ?_ ?_
        · show MG _ t tx p5 n5 (l ++ (m2.map tsign ++ m5.map tsign))
          rw [← List.append_assoc]
          exact (h5.k (Or.inl rfl)).k (Or.inr rfl)
        · rw [up2_o _ _ (by omega), up2_ne _ _ (by omega), e223, up2_ne _ _ (by omega), up2_o _ _ (by omega), up2_ne _ _ (by omega), up2_ne _ _ (by omega), h223, up2_same]
        · rw [up2_o _ _ (by omega), up2_ne _ _ (by omega), e223, up2_ne _ _ (by omega), up2_o _ _ (by omega), up2_ne _ _ (by omega), up2_same]
          simp
        · rw [up2_o _ _ (by omega), up2_ne _ _ (by omega), e223, up2_same]
          simp
        · rw [up2_o _ _ (by omega), up2_same]
          simp <;> omega
        · rw [up2_same]
        · rw [up2_o _ _ (by omega), up2_o _ _ (by omega), hf5.2.1 14 (by omega) (by omega) (by omega) (by omega) (by omega) (by omega), up2_o _ _ (by omega), up2_ne _ _ (by omega), up2_o _ _ (by omega), up2_o _ _ (by omega), h2n]
      · refine r_if_n rfl (by decide) ?_
        refine r_iconst rfl ?_
        refine r_zret rfl (by omega) ?_
        exact k2 e5 (by unfold dGo; rw [if_pos hw, if_neg (by omega), e2]; simp only; rw [if_pos hif, he5]) f5 ((((((((FrZ.rf tx c f).up (by omega)).row (Nat.le_refl _)).v hf2).row (by omega)).row (by omega)).up (by omega)).row (by omega) |>.w hf5) h9 hr9
    · refine r_if_y rfl (by decide) ?_
      refine r_aload_n rfl rfl ?_
      refine r_getR rfl (by first | assumption | exact hs.o rfl) (by first | assumption | exact hs.g rfl) ?_
      refine r_iload_n rfl rfl ?_
      refine r_iconst rfl ?_
      refine r_iadd rfl ?_
      refine r_aload_n rfl rfl ?_
      refine r_getR rfl (by first | assumption | exact hs.o rfl) (by first | assumption | exact hs.g rfl) ?_
      refine r_aload_n rfl rfl ?_
      refine r_getI rfl (by first | assumption | exact hs.o rfl) h3.now.2.2.1 ?_
      refine r_iald rfl (by first | assumption | exact hs.a rfl) (by omega) (by omega) ((zix (n := tx) (by omega)).trans h3.now.2.2.2.2.2.1) ?_
      refine r_iastN (48 * tx + 4 * c + 3) rfl (by first | assumption | exact hs.a rfl) (by omega) (by omega) (by omega) ?_
      refine r_aload_n rfl rfl ?_
      refine r_getR rfl (by first | assumption | exact hs.o rfl) (by first | assumption | exact hs.g rfl) ?_
      refine r_aload_n rfl rfl ?_
      refine r_getI rfl (by first | assumption | exact hs.o rfl) (show _ = (tx : Int) from by rw [up2_o _ _ (by omega)]; exact h3.now.2.2.1) ?_
      refine r_dup2 rfl ?_
      refine r_iald rfl (by first | assumption | exact hs.a rfl) (by omega) (by omega) ((zix (n := tx) (by omega)).trans (show _ = (c : Int) from by rw [up2_o _ _ (by omega), up2_o _ _ (by omega), up2_o _ _ (by omega), up2_o _ _ (by omega), h224]; exact hc)) ?_
      refine r_iconst rfl ?_
      refine r_iadd rfl ?_
      refine r_iastN (tx) rfl (by first | assumption | exact hs.a rfl) (by omega) (by omega) (by omega) ?_
      refine r_iconst rfl ?_
      refine r_zret rfl (by omega) ?_
      refine k1 p2 n2 (m2, none) (by unfold dGo; rw [if_pos hw, if_neg (by omega), e2]; simp only; rw [if_neg hif]) _ ((((((((FrZ.rf tx c f).up (by omega)).row (Nat.le_refl _)).v hf2).row (by omega)).row (by omega)).up (by omega)).row (by omega) |>.cnt) ((h3.now.k (Or.inl rfl)).k (Or.inr rfl)) ⟨?_, ?_, ?_⟩ ?_ ?_
      · rw [up2_o _ _ (by omega), up2_ne _ _ (by omega), up2_o _ _ (by omega), up2_ne _ _ (by omega), up2_ne _ _ (by omega), h223, up2_same]
      · rw [up2_o _ _ (by omega), up2_ne _ _ (by omega), up2_o _ _ (by omega), up2_ne _ _ (by omega), up2_same]
        simp
      · show _ = -1
        rw [up2_o _ _ (by omega), up2_ne _ _ (by omega), up2_o _ _ (by omega), up2_same]
      · rw [up2_same]
      · rw [up2_o _ _ (by omega), up2_o _ _ (by omega), up2_ne _ _ (by omega), up2_o _ _ (by omega), up2_o _ _ (by omega), h2n]
  · refine r_if_n rfl (by decide) ?_
    refine r_iconst rfl ?_
    refine r_zret rfl (by omega) ?_
    exact k2 e2 (by unfold dGo; rw [if_pos hw, if_neg (by omega), he2]) f2 ((((FrZ.rf tx c f).up (by omega)).row (Nat.le_refl _)).v hf2) h9 hr9
theorem c_clauseHere (hd : 12 ≤ d) (hs : Sh σ g) (hT : TxOk t) (htx : tx < 6) (h : MG f t tx p n l) (hl : l.length ≤ p) (hln : f 219 14 = (c : Int)) (hc : f 224 tx = (c : Int)) (hc12 : c ≤ 12) (k1 : ∀ p' n' x, dGo t c p n = .inr (p', n', x) → ∀ f', FrZ tx c f f' → MG f' t tx p' n' (l ++ xs x) → RowX f' tx c l.length x → f' 224 tx = (c : Int) + 1 → f' 219 14 = (c : Int) + 1 → Q (some (zi 1)) σ f' g) (k2 : ∀ e, dGo t c p n = .inl e → ∀ f', FrZ tx c f f' → f' 219 9 = e → (1 ≤ e ∧ e ≤ 4000) → Q (some (zi 0)) σ f' g) : ZCt d 138 [zr (some 219)] σ f g Q := by
  refine ZCt.of' (L0 := [_, _, _]) (by omega) rfl rfl rfl (fun d hd1 => ?_)
  have hp := h.1.le
  refine r_aload_n rfl rfl ?_
  refine r_callV0 rfl rfl (by first | assumption | exact hs.o rfl) rfl (c_see (by omega) hs hT h.1 ?_)
  refine r_popi rfl ?_
  refine r_aload_n rfl rfl ?_
  refine r_getI rfl (by first | assumption | exact hs.o rfl) (up2_same _ _ _ _) ?_
  refine r_istore_n (L' := [_, _, _]) rfl rfl rfl ?_
  refine r_aload_n rfl rfl ?_
  refine r_getI rfl (by first | assumption | exact hs.o rfl) h.now.2.2.1 ?_
  refine r_bipush rfl ?_
  refine r_icmp_ne rfl (by omega) (by omega) (fun h16 => ?_) (fun h16 => ?_)
  · refine r_iconst rfl ?_
    refine r_istore_n (L' := [_, _, _]) rfl rfl rfl ?_
    refine r_iload_n rfl rfl ?_
    refine r_if_y rfl (by decide) ?_
    refine r_aload_n rfl rfl ?_
    refine r_ldc2 rfl ?_
    refine r_callV1 rfl rfl (by first | assumption | exact hs.o rfl) rfl (c_isWord (wd := wGo) (by omega) hs hT wOk_go rfl h.now.1 (fun hw => ?_) (fun hw => ?_))
    · refine r_if_y rfl (by decide) ?_
      refine r_aload_n rfl rfl ?_
      rw [up2_up2]
      refine r_getI rfl (by first | assumption | exact hs.o rfl) ((up2_ne _ _ (by omega)).trans hln) ?_
      refine r_iload_n rfl rfl ?_
      refine r_if_y rfl (by decide) ?_
      refine r_bipush rfl ?_
      refine r_icmp_ne rfl (by omega) (by omega) (fun h71 => ?_) (fun h71 => ?_)
      · refine r_aload_n rfl rfl ?_
        refine r_dupr rfl ?_
        refine r_getI rfl (by first | assumption | exact hs.o rfl) ((up2_ne _ _ (by omega)).trans hln) ?_
        refine r_iconst rfl ?_
        refine r_iadd rfl ?_
        refine r_putI rfl (by first | assumption | exact hs.o rfl) ?_
        refine r_iload_n rfl rfl ?_
        refine r_if_y rfl (by decide) ?_
        refine r_aload_n rfl rfl ?_
        refine r_callV0 rfl rfl (by first | assumption | exact hs.o rfl) rfl (c_isGoHere (c := c) (by omega) hs hT htx h.now.l hl ((up2_ne _ _ (by omega)).trans (up2_same _ _ _ _)) (by rw [up2_o _ _ (by omega), up2_o _ _ (by omega)]; exact hc) (by omega) hw (fun p' n' x e f' hf' h' hrow h4 h14 => ?_) (fun e he f' hf' h9 hr9 => ?_))
        · refine r_zret rfl (by omega) ?_
          exact k1 p' n' x e f' ((((FrZ.rf tx c f).up (by omega)).up (by omega)).trans hf' (Nat.le_refl c)) h' hrow h4 (h14.trans (up2_same _ _ _ _))
        · refine r_zret rfl (by omega) ?_
          exact k2 e he f' ((((FrZ.rf tx c f).up (by omega)).up (by omega)).trans hf' (Nat.le_refl c)) h9 hr9
      · refine r_aload_n rfl rfl ?_
        refine r_iconst rfl ?_
        refine r_iload_n rfl rfl ?_
        refine r_callV2 rfl rfl (by first | assumption | exact hs.o rfl) rfl (c_fails (p := p) (by omega) hs h.now.2.1 ?_)
        refine r_zret rfl (by omega) ?_
        exact k2 _ (by unfold dGo; rw [if_pos hw, if_pos (by omega)]) _ (((FrZ.rf tx c f).up (by omega)).up (by omega)) (up2_same _ _ _ _) (err_rng hT hp (by omega))
    · refine r_if_n rfl (by decide) ?_
      refine r_aload_n rfl rfl ?_
      refine r_iconst rfl ?_
      refine r_iload_n rfl rfl ?_
      rw [up2_up2]
      refine r_callV2 rfl rfl (by first | assumption | exact hs.o rfl) rfl (c_fails (p := p) (by omega) hs h.now.2.1 ?_)
      refine r_zret rfl (by omega) ?_
      exact k2 _ (by unfold dGo; rw [if_neg hw]) _ (((FrZ.rf tx c f).up (by omega)).up (by omega)) (up2_same _ _ _ _) (err_rng hT hp (by omega))
  · exfalso; omega
end MRULE
