/-! The reference reads TESTs, with a row of what is still due -/
def str (s : Nat) : Nat := if s = 13 then 1 else if s = 12 then 2 else if s = 11 then 3 else 0
def StN (s : Nat → Int) : List Nat → Prop
  | [] => True
  | x :: S => s S.length = (x : Int) ∧ StN s S
theorem StN.same {s s' : Nat → Int} : ∀ (S : List Nat), StN s S → (∀ i, i < S.length → s' i = s i) → StN s' S := by
  intro S
  induction S with
  | nil => intro _ _; exact trivial
  | cons x S ih =>
    intro h e
    exact ⟨by rw [e _ (by simp)]; exact h.1, ih h.2 (fun i hi => e i (by simp only [List.length_cons]; omega))⟩
theorem StN.mem {s : Nat → Int} : ∀ (S : List Nat), StN s S → (∀ i, i < S.length → ∃ x ∈ S, s i = (x : Int)) ∧ (∀ x ∈ S, ∃ i, i < S.length ∧ s i = (x : Int)) := by
  intro S
  induction S with
  | nil => intro _; exact ⟨fun i hi => absurd hi (by simp), fun x hx => by cases hx⟩
  | cons y S ih =>
    intro h
    obtain ⟨h1, h2⟩ := ih h.2
    refine ⟨fun i hi => ?_, fun x hx => ?_⟩
    · by_cases e : i = S.length
      · exact ⟨y, List.mem_cons_self, by rw [e]; exact h.1⟩
      · obtain ⟨x, q1, q2⟩ := h1 i (by simp only [List.length_cons] at hi; omega)
        exact ⟨x, List.mem_cons_of_mem _ q1, q2⟩
    · rcases List.mem_cons.1 hx with q | q
      · exact ⟨S.length, by simp, by rw [q]; exact h.1⟩
      · obtain ⟨i, q1, q2⟩ := h2 x q
        exact ⟨i, by simp only [List.length_cons]; omega, q2⟩
def dpt : List Nat → Nat
  | [] => 0
  | x :: S => (if x = 11 ∨ x = 91 then 1 else 0) + dpt S
def pend : List Nat → Nat
  | [] => 0
  | x :: S => (if x = 91 then 0 else 1) + pend S
abbrev Ent (x : Nat) : Prop := x = 11 ∨ x = 12 ∨ x = 13 ∨ x = 91
def FrW (tx : Nat) (f f' : ZF) : Prop := (∀ c, c ≠ 219 → c ≠ 221 → c ≠ 222 → c ≠ 226 → f' c = f c) ∧ (∀ i, i ≠ 8 → i ≠ 9 → i ≠ 10 → i ≠ 12 → i ≠ 13 → i ≠ 16 → f' 219 i = f 219 i) ∧ (∀ i, i < 400 * tx → f' 221 i = f 221 i) ∧ (∀ i, i ≠ tx → f' 222 i = f 222 i)
theorem FrW.rf (tx : Nat) (f : ZF) : FrW tx f f := ⟨fun _ _ _ _ _ => rfl, fun _ _ _ _ _ _ _ => rfl, fun _ _ => rfl, fun _ _ => rfl⟩
theorem FrW.v {tx : Nat} {f0 f f' : ZF} (h : FrW tx f0 f) (h' : FrV tx f f') : FrW tx f0 f' := ⟨fun k q1 q2 q3 q4 => (h'.1 k q1 q2 q3).trans (h.1 k q1 q2 q3 q4), fun i q1 q2 q3 q4 q5 q6 => (h'.2.1 i q1 q2 q3 q4).trans (h.2.1 i q1 q2 q3 q4 q5 q6), fun i q => (h'.2.2.1 i q).trans (h.2.2.1 i q), fun i q => (h'.2.2.2 i q).trans (h.2.2.2 i q)⟩
theorem FrW.up {tx i : Nat} {f0 f : ZF} {v : Int} (h : FrW tx f0 f) (hi : i = 8 ∨ i = 9 ∨ i = 10 ∨ i = 12 ∨ i = 13 ∨ i = 16) : FrW tx f0 (up2 f 219 i v) := ⟨fun c q1 q2 q3 q4 => (up2_o _ _ q1).trans (h.1 c q1 q2 q3 q4), fun j q1 q2 q3 q4 q5 q6 => (up2_ne _ _ (by omega)).trans (h.2.1 j q1 q2 q3 q4 q5 q6), fun j q => by rw [up2_o _ _ (by omega)]; exact h.2.2.1 j q, fun j q => by rw [up2_o _ _ (by omega)]; exact h.2.2.2 j q⟩
theorem FrW.op {tx i : Nat} {f0 f : ZF} {v : Int} (h : FrW tx f0 f) : FrW tx f0 (up2 f 226 i v) := ⟨fun c q1 q2 q3 q4 => (up2_o _ _ q4).trans (h.1 c q1 q2 q3 q4), fun j q1 q2 q3 q4 q5 q6 => by rw [up2_o _ _ (by omega)]; exact h.2.1 j q1 q2 q3 q4 q5 q6, fun j q => by rw [up2_o _ _ (by omega)]; exact h.2.2.1 j q, fun j q => by rw [up2_o _ _ (by omega)]; exact h.2.2.2 j q⟩
/-- the row of what is due -/
def OS (f : ZF) (S : List Nat) : Prop := f 219 16 = (S.length : Int) ∧ f 219 13 = (dpt S : Int) ∧ StN (f 226) S
def TG (f0 : ZF) (t : Tx) (tx : Nat) (f : ZF) (S : List Nat) (p n : Nat) (l : List Int) : Prop := FrW tx f0 f ∧ MG f t tx p n l ∧ OS f S ∧ S.length ≤ 40 ∧ (∀ x ∈ S, Ent x) ∧ l.length + pend S ≤ p
theorem OS.v {tx : Nat} {f f' : ZF} {S : List Nat} (h : OS f S) (hf : FrV tx f f') : OS f' S := ⟨by rw [hf.2.1 16 (by omega) (by omega) (by omega) (by omega)]; exact h.1, by rw [hf.2.1 13 (by omega) (by omega) (by omega) (by omega)]; exact h.2.1, by rw [hf.1 226 (by omega) (by omega) (by omega)]; exact h.2.2⟩
theorem OS.n8 {f : ZF} {S : List Nat} {v : Int} (h : OS f S) : OS (up2 f 219 8 v) S := ⟨(up2_ne _ _ (by omega)).trans h.1, (up2_ne _ _ (by omega)).trans h.2.1, by rw [up2_o _ _ (by omega)]; exact h.2.2⟩
theorem MG.o {f : ZF} {t : Tx} {tx p n i : Nat} {l : List Int} {v : Int} (h : MG f t tx p n l) (hi : i = 13 ∨ i = 16) : MG (up2 f 219 i v) t tx p n l := by
  obtain ⟨⟨hm, x, h8, hx, hp⟩, h2, h3, h4, h5, h6, h7⟩ := h
  exact ⟨⟨hm.up (by omega), x, (up2_ne _ _ (by omega)).trans h8, hx, hp⟩, (up2_ne _ _ (by omega)).trans h2, (up2_ne _ _ (by omega)).trans h3, (up2_ne _ _ (by omega)).trans h4, h5, by rw [up2_o _ _ (by omega)]; exact h6, by rw [up2_o _ _ (by omega)]; exact h7⟩
theorem MG.op {f : ZF} {t : Tx} {tx p n i : Nat} {l : List Int} {v : Int} (h : MG f t tx p n l) : MG (up2 f 226 i v) t tx p n l := by
  obtain ⟨⟨⟨m1, m2⟩, x, h8, hx, hp⟩, h2, h3, h4, h5, h6, h7⟩ := h
  exact ⟨⟨⟨by rw [up2_o _ _ (by omega)]; exact m1, by rw [up2_o _ _ (by omega)]; exact m2⟩, x, by rw [up2_o _ _ (by omega)]; exact h8, hx, hp⟩, by rw [up2_o _ _ (by omega)]; exact h2, by rw [up2_o _ _ (by omega)]; exact h3, by rw [up2_o _ _ (by omega)]; exact h4, h5, by rw [up2_o _ _ (by omega)]; exact h6, by rw [up2_o _ _ (by omega)]; exact h7⟩
section MTEST
variable {d : Nat} {σ : ZS} {f f0 : ZF} {g : ZG} {Q : ZQ} {p n tx : Nat} {t : Tx} {l : List Int} {S : List Nat}
theorem TG.now (h : TG f0 t tx f S p n l) : TG f0 t tx (up2 f 219 8 (p : Int)) S p n l := ⟨h.1.up (by omega), h.2.1.now, h.2.2.1.n8, h.2.2.2⟩
theorem TG.at (h : TG f0 t tx f S p n l) {q : Nat} (hq : q ≤ t.2) (hpq : p ≤ q) : TG f0 t tx (up2 f 219 8 (q : Int)) S (sk t q) n l := ⟨h.1.up (by omega), h.2.1.at hq, h.2.2.1.n8, h.2.2.2.1, h.2.2.2.2.1, by have := sk_ge t q; have := h.2.2.2.2.2; omega⟩
theorem TG.len (h : TG f0 t tx f S p n l) (hT : TxOk t) : l.length + pend S ≤ 400 := by have := h.2.2.2.2.2; have := h.2.1.1.le; have := hT.1; omega
theorem Ent.s {x : Nat} (h : Ent x) : (x = 91 ∧ str x = 0) ∨ (x = 11 ∧ str x = 3) ∨ (x = 12 ∧ str x = 2) ∨ (x = 13 ∧ str x = 1) := by
  rcases h with rfl | rfl | rfl | rfl <;> decide
theorem c_strength (hd : 1 ≤ d) {x : Nat} (hx : Ent x) (K : Q (some (zi ((str x : Nat) : Int))) σ f g) : ZCt d 170 [zi (x : Int)] σ f g Q := by
  refine ZCt.of' (L0 := [_]) (by omega) rfl rfl rfl (fun d hd1 => ?_)
  have hxr := hx
  refine r_iload_n rfl rfl ?_
  refine r_bipush rfl ?_
  refine r_icmp_ne rfl (by omega) (by omega) (fun h3 => ?_) (fun h3 => ?_)
  · refine r_iload_n rfl rfl ?_
    refine r_bipush rfl ?_
    refine r_icmp_ne rfl (by omega) (by omega) (fun h13 => ?_) (fun h13 => ?_)
    · refine r_iload_n rfl rfl ?_
      refine r_bipush rfl ?_
      refine r_icmp_ne rfl (by omega) (by omega) (fun h23 => ?_) (fun h23 => ?_)
      · refine r_iconst rfl ?_
        refine r_iret rfl ?_
        rcases hx.s with ⟨q1, q2⟩ | ⟨q1, q2⟩ | ⟨q1, q2⟩ | ⟨q1, q2⟩ <;> first | (exfalso; omega) | (rw [q2] at K; exact K)
      · refine r_iconst rfl ?_
        refine r_goto rfl ?_
        refine r_iret rfl ?_
        rcases hx.s with ⟨q1, q2⟩ | ⟨q1, q2⟩ | ⟨q1, q2⟩ | ⟨q1, q2⟩ <;> first | (exfalso; omega) | (rw [q2] at K; exact K)
    · refine r_iconst rfl ?_
      refine r_goto rfl ?_
      refine r_iret rfl ?_
      rcases hx.s with ⟨q1, q2⟩ | ⟨q1, q2⟩ | ⟨q1, q2⟩ | ⟨q1, q2⟩ <;> first | (exfalso; omega) | (rw [q2] at K; exact K)
  · refine r_iconst rfl ?_
    refine r_goto rfl ?_
    refine r_iret rfl ?_
    rcases hx.s with ⟨q1, q2⟩ | ⟨q1, q2⟩ | ⟨q1, q2⟩ | ⟨q1, q2⟩ <;> first | (exfalso; omega) | (rw [q2] at K; exact K)
theorem l_lyP (hd1 : 1 ≤ d) (hs : Sh σ g) (hT : TxOk t) (htx : tx < 6) {x : Nat} (hx : Ent x) (h91 : x ≠ 91) {k : Nat} (hk : k ≤ str x) (h : TG f0 t tx f (x :: S) p n l) (K : ∀ f', f' 219 8 = f 219 8 → TG f0 t tx f' S p n (l ++ [(x : Int) + 16 * 0]) → ZWp d zt169 0 [zr (some 219), zi (k : Int)] [] σ f' g Q) : ZWp d zt169 0 [zr (some 219), zi (k : Int)] [] σ f g Q := by
  have hlen := h.len hT
  have hinv := h.2.2.2.2.2
  have hp := h.2.1.1.le
  have hT1 := hT.1
  have hsl := h.2.2.2.1
  have hss := hx.s
  have hpe : pend (x :: S) = 1 + pend S := by show (if x = 91 then 0 else 1) + pend S = _; rw [if_neg h91]
  have hcl : (x :: S).length = S.length + 1 := rfl
  simp only [List.length_cons] at hsl
  refine r_aload_n rfl rfl ?_
  refine r_getI rfl (by first | assumption | exact hs.o rfl) h.2.2.1.1 ?_
  refine r_if_le rfl (by omega) (fun h4 => ?_) (fun h4 => ?_)
  · exfalso; simp only [List.length_cons] at h4; omega
  · refine r_aload_n rfl rfl ?_
    refine r_getR rfl (by first | assumption | exact hs.o rfl) (by first | assumption | exact hs.g rfl) ?_
    refine r_aload_n rfl rfl ?_
    refine r_getI rfl (by first | assumption | exact hs.o rfl) h.2.2.1.1 ?_
    refine r_iconst rfl ?_
    refine r_isub rfl ?_
    refine r_iald rfl (by first | assumption | exact hs.a rfl) (by omega) (by simp only [List.length_cons]; omega) ((zix (n := S.length) (by simp only [List.length_cons]; omega)).trans h.2.2.1.2.2.1) ?_
    refine r_callS1 rfl rfl rfl (c_strength (x := x) (by omega) hx ?_)
    refine r_iload_n rfl rfl ?_
    refine r_icmp_lt rfl (by omega) (by omega) (fun h22 => ?_) (fun h22 => ?_)
    · exfalso; omega
    · refine r_aload_n rfl rfl ?_
      refine r_dupr rfl ?_
      refine r_getI rfl (by first | assumption | exact hs.o rfl) h.2.2.1.1 ?_
      refine r_iconst rfl ?_
      refine r_isub rfl ?_
      refine r_putI rfl (by first | assumption | exact hs.o rfl) ?_
      refine r_aload_n rfl rfl ?_
      refine r_aload_n rfl rfl ?_
      refine r_getR rfl (by first | assumption | exact hs.o rfl) (by first | assumption | exact hs.g rfl) ?_
      refine r_aload_n rfl rfl ?_
      refine r_getI rfl (by first | assumption | exact hs.o rfl) (up2_same _ _ _ _) ?_
      refine r_iald rfl (by first | assumption | exact hs.a rfl) (by omega) (by simp only [List.length_cons]; omega) ((zix (n := S.length) (by simp only [List.length_cons]; omega)).trans ((congrFun (up2_o _ _ (by omega)) _).trans h.2.2.1.2.2.1)) ?_
      refine r_iconst rfl ?_
      refine r_callV2 rfl rfl (by first | assumption | exact hs.o rfl) rfl (c_putsX (by omega) hs htx (h.2.1.o (by omega)) (by omega) (fun f1 h219 hf1 h1 => ?_))
      refine r_aload_n rfl rfl ?_
      refine r_getR rfl (by first | assumption | exact hs.o rfl) (by first | assumption | exact hs.g rfl) ?_
      refine r_aload_n rfl rfl ?_
      refine r_getI rfl (by first | assumption | exact hs.o rfl) ((hf1.2.1 16 (by omega) (by omega) (by omega) (by omega)).trans (up2_same _ _ _ _)) ?_
      refine r_iald rfl (by first | assumption | exact hs.a rfl) (by omega) (by simp only [List.length_cons]; omega) ((zix (n := S.length) (by simp only [List.length_cons]; omega)).trans ((congrFun (hf1.1 226 (by omega) (by omega) (by omega)) _).trans ((congrFun (up2_o _ _ (by omega)) _).trans h.2.2.1.2.2.1))) ?_
      refine r_bipush rfl ?_
      refine r_icmp_ne rfl (by omega) (by omega) (fun h60 => ?_) (fun h60 => ?_)
      · have hS1 : f1 219 16 = (S.length : Int) := (hf1.2.1 16 (by omega) (by omega) (by omega) (by omega)).trans ((up2_same _ _ _ _).trans (by simp only [List.length_cons]; omega))
        have hS2 : StN (f1 226) S := by rw [hf1.1 226 (by omega) (by omega) (by omega), up2_o _ _ (by omega)]; exact h.2.2.1.2.2.2
        have hS3 : f1 219 13 = (dpt (x :: S) : Int) := (hf1.2.1 13 (by omega) (by omega) (by omega) (by omega)).trans ((up2_ne _ _ (by omega)).trans h.2.2.1.2.1)
        have hL : S.length ≤ 40 := by have := h.2.2.2.1; simp only [List.length_cons] at this; omega
        have hE : ∀ y ∈ S, Ent y := fun y hy => h.2.2.2.2.1 y (List.mem_cons_of_mem _ hy)
        have hW : FrW tx f0 f1 := (h.1.up (by omega)).v hf1
        exact K f1 (by rw [h219]; exact up2_ne _ _ (by omega)) ⟨hW, h1, ⟨hS1, by rw [hS3]; show (((if x = 11 ∨ x = 91 then 1 else 0) + dpt S : Nat) : Int) = _; rw [if_neg (by omega)]; omega, hS2⟩, hL, hE, by simp only [List.length_append, List.length_cons, List.length_nil]; omega⟩
      · refine r_aload_n rfl rfl ?_
        refine r_dupr rfl ?_
        refine r_getI rfl (by first | assumption | exact hs.o rfl) ((hf1.2.1 13 (by omega) (by omega) (by omega) (by omega)).trans ((up2_ne _ _ (by omega)).trans h.2.2.1.2.1)) ?_
        refine r_iconst rfl ?_
        refine r_isub rfl ?_
        refine r_putI rfl (by first | assumption | exact hs.o rfl) ?_
        refine r_goto rfl ?_
        have hS1 : f1 219 16 = (S.length : Int) := (hf1.2.1 16 (by omega) (by omega) (by omega) (by omega)).trans ((up2_same _ _ _ _).trans (by simp only [List.length_cons]; omega))
        have hS2 : StN (f1 226) S := by rw [hf1.1 226 (by omega) (by omega) (by omega), up2_o _ _ (by omega)]; exact h.2.2.1.2.2.2
        have hS3 : f1 219 13 = (dpt (x :: S) : Int) := (hf1.2.1 13 (by omega) (by omega) (by omega) (by omega)).trans ((up2_ne _ _ (by omega)).trans h.2.2.1.2.1)
        have hL : S.length ≤ 40 := by have := h.2.2.2.1; simp only [List.length_cons] at this; omega
        have hE : ∀ y ∈ S, Ent y := fun y hy => h.2.2.2.2.1 y (List.mem_cons_of_mem _ hy)
        have hW : FrW tx f0 f1 := (h.1.up (by omega)).v hf1
        refine K _ (by rw [up2_ne _ _ (by omega), h219]; exact up2_ne _ _ (by omega)) ⟨hW.up (by omega), h1.o (by omega), ⟨(up2_ne _ _ (by omega)).trans hS1, ?_, by rw [up2_o _ _ (by omega)]; exact hS2⟩, hL, hE, by simp only [List.length_append, List.length_cons, List.length_nil]; omega⟩
        rw [up2_same]
        show (((if x = 11 ∨ x = 91 then 1 else 0) + dpt S : Nat) : Int) - 1 = _
        rw [if_pos (by omega)]
        omega
theorem l_lyE (hd1 : 1 ≤ d) (hs : Sh σ g) {k : Nat} (hk : k ≤ 3) (hst : ∀ x, S.head? = some x → str x < k) (h : TG f0 t tx f S p n l) (K : Q none σ f g) : ZWp d zt169 0 [zr (some 219), zi (k : Int)] [] σ f g Q := by
  have hsl := h.2.2.2.1
  cases S with
  | nil =>
    refine r_aload_n rfl rfl ?_
    refine r_getI rfl (by first | assumption | exact hs.o rfl) h.2.2.1.1 ?_
    refine r_if_le rfl (by omega) (fun h4 => ?_) (fun h4 => ?_)
    · refine r_ret rfl ?_
      exact K
    · exfalso; simp at h4
  | cons x S =>
    refine r_aload_n rfl rfl ?_
    refine r_getI rfl (by first | assumption | exact hs.o rfl) h.2.2.1.1 ?_
    refine r_if_le rfl (by omega) (fun h4 => ?_) (fun h4 => ?_)
    · refine r_ret rfl ?_
      exact K
    · refine r_aload_n rfl rfl ?_
      refine r_getR rfl (by first | assumption | exact hs.o rfl) (by first | assumption | exact hs.g rfl) ?_
      refine r_aload_n rfl rfl ?_
      refine r_getI rfl (by first | assumption | exact hs.o rfl) h.2.2.1.1 ?_
      refine r_iconst rfl ?_
      refine r_isub rfl ?_
      refine r_iald rfl (by first | assumption | exact hs.a rfl) (by omega) (by simp only [List.length_cons] at hsl ⊢; omega) ((zix (n := S.length) (by simp only [List.length_cons]; omega)).trans h.2.2.1.2.2.1) ?_
      refine r_callS1 rfl rfl rfl (c_strength (x := x) (by omega) (h.2.2.2.2.1 x List.mem_cons_self) ?_)
      refine r_iload_n rfl rfl ?_
      refine r_icmp_lt rfl (by have := (h.2.2.2.2.1 x List.mem_cons_self).s; omega) (by omega) (fun h22 => ?_) (fun h22 => ?_)
      · refine r_ret rfl ?_
        exact K
      · exfalso; have := hst x rfl; omega
def cdX (X : List Nat) : List Int := X.map (fun (s : Nat) => (s : Int) + 16 * 0)
theorem l_lyX (hd1 : 1 ≤ d) (hs : Sh σ g) (hT : TxOk t) (htx : tx < 6) {k : Nat} (hk : k ≤ 3) {B : List Nat} (hst : ∀ x, B.head? = some x → str x < k) : ∀ (X : List Nat) (f : ZF) (l : List Int), (∀ x ∈ X, x ≠ 91 ∧ k ≤ str x) → TG f0 t tx f (X ++ B) p n l → (∀ f', f' 219 8 = f 219 8 → TG f0 t tx f' B p n (l ++ cdX X) → Q none σ f' g) → ZWp d zt169 0 [zr (some 219), zi (k : Int)] [] σ f g Q := by
  intro X
  induction X with
  | nil =>
    intro f l _ h K
    refine l_lyE hd1 hs hk hst h (K f rfl ?_)
    rw [show l ++ cdX [] = l from List.append_nil l]
    exact h
  | cons x X ih =>
    intro f l hX h K
    obtain ⟨q1, q2⟩ := hX x List.mem_cons_self
    refine l_lyP hd1 hs hT htx (h.2.2.2.2.1 x List.mem_cons_self) q1 q2 h (fun f' h8 h' => ih f' _ (fun y hy => hX y (List.mem_cons_of_mem _ hy)) h' (fun f'' h8' h'' => K f'' (h8'.trans h8) ?_))
    rw [show l ++ cdX (x :: X) = l ++ [(x : Int) + 16 * 0] ++ cdX X by simp [cdX]]
    exact h'' 
theorem l_ins (hs : Sh σ g) (ho : OS f S) (hE : ∀ x ∈ S, Ent x) (hL : S.length ≤ 40) (k1 : 91 ∈ S → Q (some (zi 1)) σ f g) (k2 : ¬ 91 ∈ S → Q (some (zi 0)) σ f g) (k : Nat) (hk : k ≤ S.length) (hno : ∀ i, i < k → f 226 i ≠ 91) : ZWp d zt171 2 [zr (some 219), zi (k : Int)] [] σ f g Q := by
  refine r_iload_n rfl rfl ?_
  refine r_aload_n rfl rfl ?_
  refine r_getI rfl (by first | assumption | exact hs.o rfl) ho.1 ?_
  refine r_icmp_ge rfl (by omega) (by omega) (fun h7 => ?_) (fun h7 => ?_)
  · refine r_iconst rfl ?_
    refine r_zret rfl (by omega) ?_
    refine k2 (fun q => ?_)
    obtain ⟨i, q1, q2⟩ := (ho.2.2.mem).2 91 q
    exact hno i (by omega) (by omega)
  · refine r_aload_n rfl rfl ?_
    refine r_getR rfl (by first | assumption | exact hs.o rfl) (by first | assumption | exact hs.g rfl) ?_
    refine r_iload_n rfl rfl ?_
    refine r_iald rfl (by first | assumption | exact hs.a rfl) (by omega) (by omega) (zix (n := k) (by omega)) ?_
    refine r_bipush rfl ?_
    refine r_icmp_ne rfl (by obtain ⟨x, q1, q2⟩ := (ho.2.2.mem).1 k (by omega); have := (hE x q1); omega) (by omega) (fun h18 => ?_) (fun h18 => ?_)
    · refine r_iinc (L' := [_, _]) rfl rfl rfl ?_
      refine r_goto rfl ?_
      exact l_ins hs ho hE hL k1 k2 (k + 1) (by omega) (all_succ hno (by omega))
    · refine r_iconst rfl ?_
      refine r_zret rfl (by omega) ?_
      obtain ⟨x, q1, q2⟩ := (ho.2.2.mem).1 k (by omega)
      exact k1 (by rw [show (91 : Nat) = x by omega]; exact q1)
termination_by S.length - k
theorem c_isInside (hd : 1 ≤ d) (hs : Sh σ g) (h : TG f0 t tx f S p n l) (k1 : 91 ∈ S → Q (some (zi 1)) σ f g) (k2 : ¬ 91 ∈ S → Q (some (zi 0)) σ f g) : ZCt d 171 [zr (some 219)] σ f g Q := by
  refine ZCt.of' (L0 := [_, _]) (by omega) rfl rfl rfl (fun d hd1 => ?_)
  refine r_iconst rfl ?_
  refine r_istore_n (L' := [_, _]) rfl rfl rfl ?_
  exact l_ins hs h.2.2.1 h.2.2.2.2.1 h.2.2.2.1 k1 k2 0 (by omega) (fun i hi => absurd hi (by omega))
/-- as TG, one sign of the text still to be passed -/
def TH (f0 : ZF) (t : Tx) (tx : Nat) (f : ZF) (S : List Nat) (p n : Nat) (l : List Int) : Prop := FrW tx f0 f ∧ MG f t tx p n l ∧ OS f S ∧ S.length ≤ 40 ∧ (∀ x ∈ S, Ent x) ∧ l.length + pend S ≤ p + 1
theorem c_opens (hd : 2 ≤ d) (hs : Sh σ g) (h : TG f0 t tx f S p n l) (h8 : f 219 8 = (p : Int)) (hL : S.length < 40) (hdp : dpt S ≤ 10) {x : Nat} (hx : x = 11 ∨ x = 91) (k1 : dpt S < 10 → ∀ f', TH f0 t tx f' (x :: S) p n l → f' 219 8 = (p : Int) → Q (some (zi 1)) σ f' g) (k2 : dpt S = 10 → Q (some (zi 0)) σ (up2 f 219 9 (err p 2)) g) : ZCt d 166 [zr (some 219), zi (x : Int)] σ f g Q := by
  refine ZCt.of' (L0 := [_, _]) (by omega) rfl rfl rfl (fun d hd1 => ?_)
  refine r_aload_n rfl rfl ?_
  refine r_getI rfl (by first | assumption | exact hs.o rfl) h.2.2.1.2.1 ?_
  refine r_bipush rfl ?_
  refine r_icmp_ne rfl (by omega) (by omega) (fun h6 => ?_) (fun h6 => ?_)
  · refine r_aload_n rfl rfl ?_
    refine r_dupr rfl ?_
    refine r_getI rfl (by first | assumption | exact hs.o rfl) h.2.2.1.2.1 ?_
    refine r_iconst rfl ?_
    refine r_iadd rfl ?_
    refine r_putI rfl (by first | assumption | exact hs.o rfl) ?_
    refine r_aload_n rfl rfl ?_
    refine r_getR rfl (by first | assumption | exact hs.o rfl) (by first | assumption | exact hs.g rfl) ?_
    refine r_aload_n rfl rfl ?_
    refine r_getI rfl (by first | assumption | exact hs.o rfl) ((up2_ne _ _ (by omega)).trans h.2.2.1.1) ?_
    refine r_iload_n rfl rfl ?_
    refine r_iastN (S.length) rfl (by first | assumption | exact hs.a rfl) (by omega) (by omega) (by omega) ?_
    refine r_aload_n rfl rfl ?_
    refine r_dupr rfl ?_
    refine r_getI rfl (by first | assumption | exact hs.o rfl) ((congrFun (up2_o _ _ (by omega)) _).trans ((up2_ne _ _ (by omega)).trans h.2.2.1.1)) ?_
    refine r_iconst rfl ?_
    refine r_iadd rfl ?_
    refine r_putI rfl (by first | assumption | exact hs.o rfl) ?_
    refine r_iconst rfl ?_
    refine r_zret rfl (by omega) ?_
    have hsl := h.2.2.2.1
    refine k1 (by omega) _ ⟨((h.1.up (by omega)).op).up (by omega), (((h.2.1.o (by omega)).op).o (by omega)), ⟨?_, ?_, ?_⟩, by simp only [List.length_cons]; omega, fun y hy => ?_, ?_⟩ ?_
    · rw [up2_same]; simp
    · rw [up2_ne _ _ (by omega), up2_o _ _ (by omega), up2_same]
      show _ = (((if x = 11 ∨ x = 91 then 1 else 0) + dpt S : Nat) : Int)
      rw [if_pos hx]
      omega
    · rw [up2_o _ _ (by omega)]
      exact ⟨up2_same _ _ _ _, h.2.2.1.2.2.same S (fun i hi => by rw [up2_ne _ _ (by omega), up2_o _ _ (by omega)])⟩
    · rcases List.mem_cons.1 hy with q | q
      · rw [q]; rcases hx with r | r <;> omega
      · exact h.2.2.2.2.1 y q
    · show l.length + ((if x = 91 then 0 else 1) + pend S) ≤ p + 1
      have := h.2.2.2.2.2
      split <;> omega
    · rw [up2_ne _ _ (by omega), up2_o _ _ (by omega), up2_ne _ _ (by omega)]; exact h8
  · refine r_aload_n rfl rfl ?_
    refine r_iconst rfl ?_
    refine r_aload_n rfl rfl ?_
    refine r_getI rfl (by first | assumption | exact hs.o rfl) h8 ?_
    refine r_callV2 rfl rfl (by first | assumption | exact hs.o rfl) rfl (c_fails (p := p) (by omega) hs h.2.1.2.1 ?_)
    refine r_zret rfl (by omega) ?_
    exact k2 (by omega)
theorem TH.at (h : TH f0 t tx f S p n l) {q : Nat} (hq : q ≤ t.2) (hpq : p + 1 ≤ q) : TG f0 t tx (up2 f 219 8 (q : Int)) S (sk t q) n l := ⟨h.1.up (by omega), h.2.1.at hq, h.2.2.1.n8, h.2.2.2.1, h.2.2.2.2.1, by have := sk_ge t q; have := h.2.2.2.2.2; omega⟩
end MTEST
