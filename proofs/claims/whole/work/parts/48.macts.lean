/-! Acts by hand: the reference -/
def FrX (f f' : ZF) : Prop := ∀ c, (c < 219 ∨ 240 ≤ c) → f' c = f c
theorem FrX.rf (f : ZF) : FrX f f := fun _ _ => rfl
theorem FrX.trans {a b c : ZF} (h1 : FrX a b) (h2 : FrX b c) : FrX a c := fun k q => (h2 k q).trans (h1 k q)
theorem FrX.up {f0 f : ZF} {k i : Nat} {v : Int} (h : FrX f0 f) (hk : 219 ≤ k ∧ k < 240) : FrX f0 (up2 f k i v) := fun c q => (up2_o _ _ (by omega)).trans (h c q)
theorem FrM.x {f f' : ZF} (h : FrM f f') : FrX f f' := fun c q => h.1 c (by omega) (by omega) (by omega) (by omega)
theorem FrMQ.x {f f' : ZF} (h : FrMQ f f') : FrX f f' := fun c q => h.1 c (by omega) (by omega) (by omega)
theorem MRd.congr {s s' : Nat → Int} {rd : Rd} (h : MRd s rd) (e : ∀ i, 10 ≤ i → i < 67 → s' i = s i) : MRd s' rd := by
  obtain ⟨h0, h1, h2, h3, h4⟩ := h
  refine MRd.of ?_ ?_ (fun k hk => (h2 k hk).same (fun i hi => e _ (by omega) (by omega)) (fun i hi => rfl)) (fun j hj => ?_) (fun c hc => ?_)
  · rw [e 10 (by omega) (by omega)]; exact h0
  · rw [e 11 (by omega) (by omega)]; exact h1
  · rw [e (42 + j) (by omega) (by omega)]; exact h3 j hj
  · rw [e (47 + c) (by omega) (by omega)]; exact h4 c hc
section MACTS
variable {d : Nat} {σ : ZS} {f f' : ZF} {g : ZG} {Q : ZQ} {N : Int} {rd : Rd} {pl : Pl} {rd0 : Rd} {al : Rd → Nat → Bool} {cl : Int} {a : AS}
theorem MI.plS (hM : MI f a) (hp : a.w.pn = some (pl, rd0)) : MPl (f 229) pl ∧ MT (f 229) rd0 := by
  have h := hM.w.1
  rw [hp] at h
  exact h
theorem MI.pln (hM : MI f a) (hp : a.w.pn = none) : f 229 0 = 0 ∧ f 229 1 = 0 ∧ f 229 2 = 0 ∧ f 229 3 = 0 := by
  have h := hM.w.1
  rw [hp] at h
  exact h
theorem MW.now {s s' : Nat → Int} {w : AW} (h : MW s w) (e : ∀ i, (i < 10 ∨ 67 ≤ i) → s' i = s i) (hr : MRd s' rd) : MW s' (w.sRd rd) := by
  obtain ⟨h1, h2, h3, h4⟩ := h
  refine ⟨?_, hr, by rw [e 145 (by omega)]; exact h3, fun i hi => by rw [e (115 + 3 * i) (by omega), e (116 + 3 * i) (by omega), e (117 + 3 * i) (by omega)]; exact h4 i hi⟩
  show (match w.pn with
    | none => s' 0 = 0 ∧ s' 1 = 0 ∧ s' 2 = 0 ∧ s' 3 = 0
    | some (pl, rd0) => MPl s' pl ∧ MT s' rd0)
  cases hp : w.pn with
  | none => rw [hp] at h1; simp only at h1 ⊢; rw [e 0 (by omega), e 1 (by omega), e 2 (by omega), e 3 (by omega)]; exact h1
  | some x =>
    obtain ⟨pl, rd0⟩ := x
    rw [hp] at h1
    obtain ⟨⟨q0, q1, q2, q3, q4⟩, q5, q6⟩ := h1
    refine ⟨⟨?_, ?_, ?_, ?_, fun j hj => ?_⟩, fun k hk hne => ?_, fun c hc => ?_⟩
    · rw [e 0 (by omega)]; exact q0
    · rw [e 1 (by omega)]; exact q1
    · rw [e 2 (by omega)]; exact q2
    · rw [e 3 (by omega)]; exact q3
    · rw [e (67 + j) (by omega), e (72 + j) (by omega)]; exact q4 j hj
    · rw [e (77 + 3 * k) (by omega), e (78 + 3 * k) (by omega), e (79 + 3 * k) (by omega)]; exact q5 k hk hne
    · rw [e (95 + c) (by omega)]; exact q6 c hc
theorem MI.now (h : MI f a) (hf : FrM f f') (hr : MRd (f' 229) rd) : MI f' (setRd a rd) := by
  obtain ⟨h1, h2, h3, h4, h5, h6, h7, h8, h9, h10, h11, h12⟩ := h
  have e : ∀ c, c ≠ 219 → c ≠ 227 → c ≠ 228 → c ≠ 229 → f' c = f c := hf.1
  refine ⟨by rw [hf.2.1 1 (by omega) (by omega)]; exact h1, by rw [e 220 (by omega) (by omega) (by omega) (by omega)]; exact h2, by rw [hf.2.1 2 (by omega) (by omega)]; exact h3, fun i hi => ?_, h5.now hf.2.2 hr, by rw [hf.2.1 21 (by omega) (by omega)]; exact h6, by rw [hf.2.1 22 (by omega) (by omega)]; exact h7, by rw [hf.2.1 23 (by omega) (by omega)]; exact h8, by rw [hf.2.1 24 (by omega) (by omega)]; exact h9, by rw [hf.2.1 27 (by omega) (by omega)]; exact h10, fun i hi => by rw [e 230 (by omega) (by omega) (by omega) (by omega)]; exact h11 i hi, fun k hk => ?_⟩
  · rw [e 224 (by omega) (by omega) (by omega) (by omega)]
    refine ⟨(h4 i hi).1, (h4 i hi).2.same _ _ (fun j _ _ => ?_) (fun j _ _ => ?_)⟩
    · rw [e 223 (by omega) (by omega) (by omega) (by omega)]
    · rw [e 221 (by omega) (by omega) (by omega) (by omega)]
  · rw [e 239 (by omega) (by omega) (by omega) (by omega), e 236 (by omega) (by omega) (by omega) (by omega), e 237 (by omega) (by omega) (by omega) (by omega), e 238 (by omega) (by omega) (by omega) (by omega)]
    exact h12 k hk
theorem MI.undo (h : MI f a) {b : AS} (hb : b.tl = a.tl ∧ b.tp = a.tp ∧ b.rk = a.rk ∧ b.ru = a.ru ∧ b.w = a.w ∧ b.fo = a.fo ∧ b.x = a.x ∧ b.im = a.im) (hf : ∀ c, c ≠ 219 → c ≠ 230 → f' c = f c) (h0 : ∀ i, i ≠ 27 → f' 219 i = f 219 i) (huc : f' 219 27 = (b.uc : Int)) (hun : ∀ i, i < b.uc → MRd (fun j => f' 230 (57 * (b.uc - 1 - i) + j - 10)) (b.us i)) : MI f' b := by
  obtain ⟨h1, h2, h3, h4, h5, h6, h7, h8, h9, h10, h11, h12⟩ := h
  obtain ⟨b1, b2, b3, b4, b5, b6, b7, b8⟩ := hb
  refine ⟨by rw [h0 1 (by omega), b1]; exact h1, by rw [hf 220 (by omega) (by omega), b1, b2]; exact h2, by rw [h0 2 (by omega), b3]; exact h3, fun i hi => ?_, by rw [hf 229 (by omega) (by omega), b5]; exact h5, by rw [h0 21 (by omega), b6]; exact h6, by rw [h0 22 (by omega), b7]; exact h7, by rw [h0 23 (by omega)]; exact h8, by rw [h0 24 (by omega)]; exact h9, huc, hun, fun k hk => ?_⟩
  · rw [hf 224 (by omega) (by omega), b4]
    have := h4 i (by rw [← b3]; exact hi)
    refine ⟨this.1, this.2.same _ _ (fun j _ _ => ?_) (fun j _ _ => ?_)⟩
    · rw [hf 223 (by omega) (by omega)]
    · rw [hf 221 (by omega) (by omega)]
  · rw [hf 239 (by omega) (by omega), hf 236 (by omega) (by omega), hf 237 (by omega) (by omega), hf 238 (by omega) (by omega), b8]
    exact h12 k hk
theorem c_shown (hd : 1 ≤ d) (hs : Sh σ g) (hM : MI f a) (hA : AOk N a)  (k1 : ∀ pl rd0, a.w.pn = some (pl, rd0) → Q (some (zi 1)) σ f g) (k2 : a.w.pn = none → Q (some (zi 0)) σ f g) : ZCt d 179 [zr (some 219)] σ f g Q := by
  cases hp : a.w.pn with
  | none =>
    have h := hM.pln hp
    exact c_isShow hd hs (by omega) (fun q => by omega) (fun q => k2 hp)
  | some x =>
    obtain ⟨pl, rd0⟩ := x
    have h := (hM.plS hp).1.1
    exact c_isShow hd hs (by omega) (fun q => k1 pl rd0 hp) (fun q => absurd h q)
theorem c_cellA (hd : 1 ≤ d) (hs : Sh σ g) (hM : MI f a) (hA : AOk N a)  {x : Int} (hx : IR x) (k1 : ∀ pl rd0, a.w.pn = some (pl, rd0) → 0 ≤ x ∧ x < pl.1 → Q (some (zi 1)) σ f g) (k2 : (∀ pl rd0, a.w.pn = some (pl, rd0) → ¬ (0 ≤ x ∧ x < pl.1)) → Q (some (zi 0)) σ f g) : ZCt d 184 [zr (some 219), zi x] σ f g Q := by
  cases hp : a.w.pn with
  | none =>
    have h := hM.pln hp
    exact c_isCell hd hs hx (by omega) (fun q => by omega) (fun q => k2 (fun pl rd0 z => by rw [hp] at z; cases z))
  | some q =>
    obtain ⟨pl, rd0⟩ := q
    have h := (hM.plS hp).1.2.1
    have hplo := (hA.plS hp).1.1
    exact c_isCell hd hs hx (by omega) (fun q => k1 pl rd0 hp (by omega)) (fun q => k2 (fun pl' rd0' z => by rw [hp] at z; cases z; omega))
theorem c_roadA (hd : 1 ≤ d) (hs : Sh σ g) (hM : MI f a) (hA : AOk N a)  {x : Int} (hx : IR x) (k1 : ∀ pl rd0, a.w.pn = some (pl, rd0) → 0 ≤ x ∧ x < pl.2.1 → Q (some (zi 1)) σ f g) (k2 : (∀ pl rd0, a.w.pn = some (pl, rd0) → ¬ (0 ≤ x ∧ x < pl.2.1)) → Q (some (zi 0)) σ f g) : ZCt d 182 [zr (some 219), zi x] σ f g Q := by
  cases hp : a.w.pn with
  | none =>
    have h := hM.pln hp
    exact c_isRoad hd hs hx (by omega) (fun q => by omega) (fun q => k2 (fun pl rd0 z => by rw [hp] at z; cases z))
  | some q =>
    obtain ⟨pl, rd0⟩ := q
    have h := (hM.plS hp).1.2.2.1
    have hplo := (hA.plS hp).1.2.1
    exact c_isRoad hd hs hx (by omega) (fun q => k1 pl rd0 hp (by omega)) (fun q => k2 (fun pl' rd0' z => by rw [hp] at z; cases z; omega))
theorem c_carA (hd : 2 ≤ d) (hs : Sh σ g) (hM : MI f a) (hA : AOk N a) {x : Int} (hx : IR x) (k1 : ∀ pl rd0, a.w.pn = some (pl, rd0) → 0 ≤ x ∧ x < 6 → Q (some (zi 1)) σ f g) (k2 : (a.w.pn = none ∨ ¬ (0 ≤ x ∧ x < 6)) → Q (some (zi 0)) σ f g) : ZCt d 178 [zr (some 219), zi x] σ f g Q := by
  refine ZCt.of' (L0 := [_, _]) (by omega) rfl rfl rfl (fun d hd1 => ?_)
  refine r_aload_n rfl rfl ?_
  refine r_callV0 rfl rfl (by first | assumption | exact hs.o rfl) rfl (c_shown (by omega) hs hM hA (fun pl rd0 hp => ?_) (fun hn => ?_))
  · refine r_if_n rfl (by decide) ?_
    refine r_iload_n rfl rfl ?_
    refine r_i2l rfl (by omega) ?_
    refine r_lconst rfl ?_
    refine r_ldc2 rfl ?_
    refine r_callS3 rfl rfl rfl (c_in (by omega) (by omega) (by omega) (by omega) (fun hc => ?_) (fun hc => ?_))
    · refine r_if_n rfl (by decide) ?_
      refine r_iconst rfl ?_
      refine r_goto rfl ?_
      refine r_zret rfl (by omega) ?_
      exact k1 pl rd0 hp (by omega)
    · refine r_if_y rfl (by decide) ?_
      refine r_iconst rfl ?_
      refine r_zret rfl (by omega) ?_
      first | exact k2 (Or.inl hn) | exact k2 (Or.inr (by omega))
  · refine r_if_y rfl (by decide) ?_
    refine r_iconst rfl ?_
    refine r_zret rfl (by omega) ?_
    first | exact k2 (Or.inl hn) | exact k2 (Or.inr (by omega))
theorem c_carOnA (hd : 3 ≤ d) (hs : Sh σ g) (hM : MI f a) (hA : AOk N a) {x : Int} (hx : IR x) (k1 : ∀ k : Nat, x = (k : Int) → k < 6 → 0 ≤ a.w.rd 0 k → Q (some (zi 1)) σ f g) (k2 : (∀ k : Nat, x = (k : Int) → k < 6 → a.w.rd 0 k = -1) → Q (some (zi 0)) σ f g) : ZCt d 208 [zr (some 219), zi x] σ f g Q := by
  refine ZCt.of' (L0 := [_, _]) (by omega) rfl rfl rfl (fun d hd1 => ?_)
  refine r_aload_n rfl rfl ?_
  refine r_iload_n rfl rfl ?_
  refine r_callV1 rfl rfl (by first | assumption | exact hs.o rfl) rfl (c_carA (by omega) hs hM hA hx (fun pl rd0 hp hc => ?_) (fun hn => ?_))
  · refine r_if_n rfl (by decide) ?_
    refine r_aload_n rfl rfl ?_
    refine r_iload_n rfl rfl ?_
    obtain ⟨k, rfl⟩ := Int.eq_ofNat_of_zero_le hc.1
    have ho := (hA.plS hp).2.1.1
    refine r_callV1 rfl rfl (by first | assumption | exact hs.o rfl) rfl (c_mOn (by omega) hs hM.w.2.1 ho (by omega) (fun hon => ?_) (fun hoff => ?_))
    · refine r_if_n rfl (by decide) ?_
      refine r_iconst rfl ?_
      refine r_goto rfl ?_
      refine r_zret rfl (by omega) ?_
      exact k1 k rfl (by omega) (by omega)
    · refine r_if_y rfl (by decide) ?_
      refine r_iconst rfl ?_
      refine r_zret rfl (by omega) ?_
      first | exact k2 (fun k' q1 q2 => by rcases hn with hn | hn; rw [hA.pln hn]; rfl; omega) | exact k2 (fun k' q1 q2 => by have e : k' = k := (by omega); subst e; exact hoff)
  · refine r_if_y rfl (by decide) ?_
    refine r_iconst rfl ?_
    refine r_zret rfl (by omega) ?_
    first | exact k2 (fun k' q1 q2 => by rcases hn with hn | hn; rw [hA.pln hn]; rfl; omega) | exact k2 (fun k' q1 q2 => by have e : k' = k := (by omega); subst e; exact hoff)
theorem l_kaS (hd1 : 0 ≤ d) (hs : Sh σ g) {f0 : ZF} (K : ∀ f, (∀ c, c ≠ 230 → f c = f0 c) → (∀ i, i + 57 < 1140 → f 230 i = f0 230 (i + 57)) → ∀ x, ZWp d zt187 40 [zr (some 219), x] [] σ f g Q) (k : Nat) (hk : 57 ≤ k ∧ k ≤ 1140) (f : ZF) (hf : ∀ c, c ≠ 230 → f c = f0 c) (hsh : ∀ i, f 230 i = if i + 57 < k then f0 230 (i + 57) else f0 230 i) : ZWp d zt187 12 [zr (some 219), zi (k : Int)] [] σ f g Q := by
  refine r_iload_n rfl rfl ?_
  refine r_sipush rfl ?_
  refine r_icmp_ge rfl (by omega) (by omega) (fun hlt => ?_) (fun hlt => ?_)
  · have e : k = 1140 := by omega
    subst e
    exact K f hf (fun i hi => (hsh i).trans (if_pos hi)) _
  · refine r_aload_n rfl rfl ?_
    refine r_getR rfl (by first | assumption | exact hs.o rfl) (by first | assumption | exact hs.g rfl) ?_
    refine r_iload_n rfl rfl ?_
    refine r_bipush rfl ?_
    refine r_isub rfl ?_
    refine r_aload_n rfl rfl ?_
    refine r_getR rfl (by first | assumption | exact hs.o rfl) (by first | assumption | exact hs.g rfl) ?_
    refine r_iload_n rfl rfl ?_
    refine r_iald rfl (by first | assumption | exact hs.a rfl) (by omega) (by omega) (zix (n := k) (by omega)) ?_
    refine r_iastN (k - 57) rfl (by first | assumption | exact hs.a rfl) (by omega) (by omega) (by omega) ?_
    refine r_iinc (L' := [_, _]) rfl rfl rfl ?_
    refine r_goto rfl ?_
    refine l_kaS hd1 hs K (k + 1) (by omega) _ (fun c q => (up2_o _ _ q).trans (hf c q)) (fun i => ?_)
    rw [up2_u1]
    unfold u1
    by_cases e : i = k - 57
    · rw [if_pos e, if_pos (by omega), hsh k, if_neg (by omega), e, show k - 57 + 57 = k by omega]
    · rw [if_neg e, hsh i]
      by_cases e2 : i + 57 < k
      · rw [if_pos e2, if_pos (by omega)]
      · rw [if_neg e2, if_neg (by omega)]
termination_by 1140 - k
theorem l_kaC (hd1 : 0 ≤ d) (hs : Sh σ g) {f0 : ZF} {u : Nat} (hu : f0 219 27 = (u : Int)) (hu20 : u < 20) (K : ∀ f, (∀ c, c ≠ 230 → f c = f0 c) → (∀ i, i < 57 → f 230 (57 * u + i) = f0 229 (10 + i)) → (∀ i, i < 57 * u → f 230 i = f0 230 i) → ∀ x, ZWp d zt187 87 [zr (some 219), x] [] σ f g Q) (k : Nat) (hk : k ≤ 57) (f : ZF) (hf : ∀ c, c ≠ 230 → f c = f0 c) (hcp : ∀ i, (i < k → f 230 (57 * u + i) = f0 229 (10 + i)) ∧ (i < 57 * u → f 230 i = f0 230 i)) : ZWp d zt187 52 [zr (some 219), zi (k : Int)] [] σ f g Q := by
  refine r_iload_n rfl rfl ?_
  refine r_bipush rfl ?_
  refine r_icmp_ge rfl (by omega) (by omega) (fun hlt => ?_) (fun hlt => ?_)
  · have e : k = 57 := by omega
    subst e
    exact K f hf (fun i hi => (hcp i).1 hi) (fun i hi => (hcp i).2 (by omega)) _
  · refine r_aload_n rfl rfl ?_
    refine r_getR rfl (by first | assumption | exact hs.o rfl) (by first | assumption | exact hs.g rfl) ?_
    refine r_bipush rfl ?_
    refine r_aload_n rfl rfl ?_
    refine r_getI rfl (by first | assumption | exact hs.o rfl) ((congrFun (hf 219 (by omega)) _).trans hu) ?_
    refine r_imul rfl ?_
    refine r_iload_n rfl rfl ?_
    refine r_iadd rfl ?_
    refine r_aload_n rfl rfl ?_
    refine r_getR rfl (by first | assumption | exact hs.o rfl) (by first | assumption | exact hs.g rfl) ?_
    refine r_bipush rfl ?_
    refine r_iload_n rfl rfl ?_
    refine r_iadd rfl ?_
    refine r_iald rfl (by first | assumption | exact hs.a rfl) (by omega) (by omega) ((zix (n := 10 + k) (by omega)).trans (congrFun (hf 229 (by omega)) _)) ?_
    refine r_iastN (57 * u + k) rfl (by first | assumption | exact hs.a rfl) (by omega) (by omega) (by omega) ?_
    refine r_iinc (L' := [_, _]) rfl rfl rfl ?_
    refine r_goto rfl ?_
    refine l_kaC hd1 hs hu hu20 K (k + 1) (by omega) _ (fun c q => (up2_o _ _ q).trans (hf c q)) (fun i => ⟨fun hi => ?_, fun hi => ?_⟩)
    · by_cases e : i = k
      · subst e; exact up2_same _ _ _ _
      · rw [up2_ne _ _ (by omega)]; exact (hcp i).1 (by omega)
    · rw [up2_ne _ _ (by omega)]; exact (hcp i).2 (by omega)
termination_by 57 - k
/-- the end of it: a row more is kept -/
theorem ka_end (hd1 : 0 ≤ d) (hs : Sh σ g) (hM : MI f a) (hA : AOk N a)  {f0 : ZF} {u : Nat} (hu : f0 219 27 = (u : Int)) (huu : u + 1 = min 20 (a.uc + 1)) (hf0 : ∀ c, c ≠ 230 → c ≠ 219 → f0 c = f c) (h9 : ∀ i, i ≠ 27 → f0 219 i = f 219 i) (hrow : ∀ i, i < 57 * u → f0 230 i = f 230 (i + 57 * (a.uc - u)))
    (K : ∀ f', MI f' (aKeep a) → FrX f f' → (∀ c, c ≠ 219 → c ≠ 230 → f' c = f c) → Q none σ f' g) (x : ZV) : ZWp d zt187 50 [zr (some 219), x] [] σ f0 g Q := by
  refine r_iconst rfl ?_
  refine r_istore_n (L' := [_, _]) rfl rfl rfl ?_
  refine l_kaC (by omega) hs hu (by omega) (fun f1 h1 h2 h3 x => ?_) 0 (by omega) f0 (fun c _ => rfl) (fun i => ⟨fun q => by omega, fun _ => rfl⟩)
  refine r_aload_n rfl rfl ?_
  refine r_dupr rfl ?_
  refine r_getI rfl (by first | assumption | exact hs.o rfl) ((congrFun (h1 219 (by omega)) _).trans hu) ?_
  refine r_iconst rfl ?_
  refine r_iadd rfl ?_
  refine r_putI rfl (by first | assumption | exact hs.o rfl) ?_
  refine r_ret rfl ?_
  have hx : ∀ c, c ≠ 219 → c ≠ 230 → up2 f1 219 27 ((u : Int) + 1) c = f c := fun c q1 q2 => by rw [up2_o _ _ q1, h1 c q2, hf0 c q2 q1]
  refine K _ (hM.undo (b := aKeep a) ⟨rfl, rfl, rfl, rfl, rfl, rfl, rfl, rfl⟩ hx (fun i q => by rw [up2_ne _ _ (fun z => q z.2), h1 219 (by omega), h9 i q]) ?_ (fun i hi => ?_)) (fun c q => hx c (by omega) (by omega)) hx
  · rw [up2_same]
    show (u : Int) + 1 = ((min 20 (a.uc + 1) : Nat) : Int)
    omega
  · have hi' : i < min 20 (a.uc + 1) := hi
    rw [up2_o _ _ (by omega)]
    show MRd (fun j => f1 230 (57 * (min 20 (a.uc + 1) - 1 - i) + j - 10)) (if i = 0 then a.w.rd else a.us (i - 1))
    by_cases e : i = 0
    · subst e
      rw [if_pos rfl]
      refine hM.w.2.1.congr (fun j q1 q2 => ?_)
      show f1 230 (57 * (min 20 (a.uc + 1) - 1 - 0) + j - 10) = f 229 j
      rw [show 57 * (min 20 (a.uc + 1) - 1 - 0) + j - 10 = 57 * u + (j - 10) by omega, h2 (j - 10) (by omega), show 10 + (j - 10) = j by omega, hf0 229 (by omega) (by omega)]
    · rw [if_neg e]
      refine (hM.un (i - 1) (by omega)).congr (fun j q1 q2 => ?_)
      show f1 230 (57 * (min 20 (a.uc + 1) - 1 - i) + j - 10) = f 230 (57 * (a.uc - 1 - (i - 1)) + j - 10)
      rw [h3 _ (by omega), hrow _ (by omega)]
      rw [show 57 * (min 20 (a.uc + 1) - 1 - i) + j - 10 + 57 * (a.uc - u) = 57 * (a.uc - 1 - (i - 1)) + j - 10 by omega]
theorem c_keepsAct (hd : 1 ≤ d) (hs : Sh σ g) (hM : MI f a) (hA : AOk N a) (K : ∀ f', MI f' (aKeep a) → FrX f f' → (∀ c, c ≠ 219 → c ≠ 230 → f' c = f c) → Q none σ f' g) : ZCt d 187 [zr (some 219)] σ f g Q := by
  refine ZCt.of' (L0 := [_, _]) (by omega) rfl rfl rfl (fun d hd1 => ?_)
  have hA1 := hA.1
  refine r_aload_n rfl rfl ?_
  refine r_getI rfl (by first | assumption | exact hs.o rfl) hM.uc ?_
  refine r_bipush rfl ?_
  refine r_icmp_ne rfl (by omega) (by omega) (fun h20 => ?_) (fun h20 => ?_)
  · exact ka_end (by omega) hs hM hA hM.uc (by omega) (fun _ _ _ => rfl) (fun _ _ => rfl) (fun i hi => by rw [show a.uc - a.uc = 0 by omega]; rfl) K _
  · refine r_bipush rfl ?_
    refine r_istore_n (L' := [_, _]) rfl rfl rfl ?_
    refine l_kaS (by omega) hs (fun f1 h1 h2 x => ?_) 57 (by omega) f (fun _ _ => rfl) (fun i => by rw [if_neg (by omega)])
    refine r_aload_n rfl rfl ?_
    refine r_dupr rfl ?_
    refine r_getI rfl (by first | assumption | exact hs.o rfl) ((congrFun (h1 219 (by omega)) _).trans hM.uc) ?_
    refine r_iconst rfl ?_
    refine r_isub rfl ?_
    refine r_putI rfl (by first | assumption | exact hs.o rfl) ?_
    refine ka_end (by omega) hs hM hA (u := 19) ?_ (by omega) (fun c q1 q2 => by rw [up2_o _ _ q2, h1 c q1]) (fun i q => by rw [up2_ne _ _ (fun z => q z.2), h1 219 (by omega)]) (fun i hi => ?_) K _
    · rw [up2_same]; omega
    · rw [up2_o _ _ (by omega), h2 i (by omega), show a.uc = 20 by omega]
/-- the reference's engine -/
def TM (σ : ZS) (f : ZF) (g : ZG) (pl : Pl) (al : Rd → Nat → Bool) (cl : Int) : Prop := MPl (f 229) pl ∧ PlOk pl ∧ f 219 23 = cl ∧ (-1 ≤ cl ∧ cl ≤ 5) ∧ ∃ E : ZF → Prop, (∀ f f', FrM f f' → E f → E f') ∧ ALm 8 σ g E pl.1 pl.2.1 al ∧ (∀ f f', (∀ c, c ≠ 219 → (c < 229 ∨ 235 < c) → f' c = f c) → (∀ i, i < 10 ∨ 67 ≤ i → f' 229 i = f 229 i) → (∀ i, i = 21 ∨ i = 24 → f' 219 i = f 219 i) → E f → E f') ∧ E f
theorem TM.fr (h : TM σ f g pl al cl) (hf : FrM f f') : TM σ f' g pl al cl := by
  obtain ⟨h1, h2, h3, h4, E, h5, h6, h7, h8⟩ := h
  exact ⟨h1.fr hf, h2, (hf.2.1 23 (by omega) (by omega)).trans h3, h4, E, h5, h6, h7, h5 f f' hf h8⟩
/-- also where rows are kept, and the state is laid back -/
theorem TM.fr2 (h : TM σ f g pl al cl) (h1 : ∀ c, c ≠ 219 → (c < 229 ∨ 235 < c) → f' c = f c) (h2 : ∀ i, i < 10 ∨ 67 ≤ i → f' 229 i = f 229 i) (h3 : ∀ i, i = 21 ∨ i = 24 → f' 219 i = f 219 i) {c : Int} (hc : -1 ≤ c ∧ c ≤ 5) (h4 : f' 219 23 = c) : TM σ f' g pl al c := by
  obtain ⟨q1, q2, q3, q4, E, q5, q6, q7, q8⟩ := h
  refine ⟨?_, q2, h4, hc, E, q5, q6, q7, q7 f f' h1 h2 h3 q8⟩
  obtain ⟨p0, p1, p2, p3, p4⟩ := q1
  refine ⟨by rw [h2 0 (by omega)]; exact p0, by rw [h2 1 (by omega)]; exact p1, by rw [h2 2 (by omega)]; exact p2, by rw [h2 3 (by omega)]; exact p3, fun j hj => ?_⟩
  rw [h2 (67 + j) (by omega), h2 (72 + j) (by omega)]
  exact p4 j hj
theorem c_psv (hd : 10 ≤ d) (hs : Sh σ g) (ht : TM σ f g pl al cl) (hm : MRd (f 229) rd) (ho : RdOk pl.1 pl.2.1 N rd) (hN : N + 7 ≤ 1000000)
    (K : ∀ f', FrM f f' → TM σ f' g pl al cl → MRd (f' 229) (rStep pl al cl rd).1 → (f' 219 25 = if (rStep pl al cl rd).2.2 = true then 1 else 0) → Q (some (zi (rStep pl al cl rd).2.1)) σ f' g) : ZCt d 188 [zr (some 219)] σ f g Q := by
  have ht' := ht
  obtain ⟨q1, q2, q3, q4, E, q5, q6, q7, q8⟩ := ht
  exact c_passes hd hs q5 q6 (q5 _ _ (FrM.rf f).moved q8) q1 q2 rfl rfl hm ho hN q3 q4 (fun f' h1 h2 h3 => K f' h1 (ht'.fr h1) h2 h3)
theorem MPl.fr2 {s s' : Nat → Int} (h : MPl s pl) (h2 : ∀ i, i < 10 ∨ 67 ≤ i → s' i = s i) : MPl s' pl := by
  obtain ⟨p0, p1, p2, p3, p4⟩ := h
  refine ⟨by rw [h2 0 (by omega)]; exact p0, by rw [h2 1 (by omega)]; exact p1, by rw [h2 2 (by omega)]; exact p2, by rw [h2 3 (by omega)]; exact p3, fun j hj => ?_⟩
  rw [h2 (67 + j) (by omega), h2 (72 + j) (by omega)]
  exact p4 j hj
theorem tm_of {f1 : ZF} (hs : Sh σ g) (hM : MI f a) (hA : AOk N a)  (hp : a.w.pn = some (pl, rd0)) {rl : Int} (hr : -1 ≤ rl ∧ rl < (a.rk : Int)) (h1 : ∀ c, c ≠ 219 → (c < 229 ∨ 235 < c) → f1 c = f c) (h2 : ∀ i, i < 10 ∨ 67 ≤ i → f1 229 i = f 229 i) (h3 : f1 219 21 = rl) (h4 : f1 219 24 = -1) (h5 : f1 219 23 = -1) : TM σ f1 g pl (AL a rl pl) (-1) := by
  have hplo := (hA.plS hp).1
  have hmp := (hM.plS hp).1.fr2 h2
  refine ⟨hmp, hplo, h5, by omega, ?_⟩
  unfold AL
  by_cases q : rl < 0
  · rw [if_pos q]
    exact ⟨_, fun f f' hf e => ⟨(hf.2.1 24 (by omega) (by omega)).trans e.1, (hf.2.1 21 (by omega) (by omega)).trans e.2⟩, alm_none hs, fun f f' _ _ z e => ⟨(z 24 (by omega)).trans e.1, (z 21 (by omega)).trans e.2⟩, h4, by omega⟩
  · rw [if_neg q]
    have hru := hM.ru rl.toNat (by omega)
    have hok := hA.2.1 rl.toNat (by omega)
    refine ⟨_, fun f f' hf e => ⟨(hf.2.1 24 (by omega) (by omega)).trans e.1, (hf.2.1 21 (by omega) (by omega)).trans e.2.1, by rw [hf.1 224 (by omega) (by omega) (by omega) (by omega)]; exact e.2.2.1, e.2.2.2.1.same _ _ (fun i _ _ => by rw [hf.1 223 (by omega) (by omega) (by omega) (by omega)]) (fun i _ _ => by rw [hf.1 221 (by omega) (by omega) (by omega) (by omega)]), e.2.2.2.2.fr hf⟩, alm_rule (t := rl.toNat) hs hplo (by have := hA.1; omega) hok.1 rfl hok.2, fun f f' z1 z2 z3 e => ⟨(z3 24 (by omega)).trans e.1, (z3 21 (by omega)).trans e.2.1, by rw [z1 224 (by omega) (by omega)]; exact e.2.2.1, e.2.2.2.1.same _ _ (fun i _ _ => by rw [z1 223 (by omega) (by omega)]) (fun i _ _ => by rw [z1 221 (by omega) (by omega)]), e.2.2.2.2.fr2 z2⟩, h4, by omega, by rw [h1 224 (by omega) (by omega)]; exact hru.1, hru.2.same _ _ (fun i _ _ => by rw [h1 223 (by omega) (by omega)]) (fun i _ _ => by rw [h1 221 (by omega) (by omega)]), hmp⟩
theorem c_step (hd : 12 ≤ d) (hs : Sh σ g) (hM : MI f a) (hA : AOk N a)  (K : ∀ f', MI f' (sStep a).2 → FrX f f' → Q (some (zi (sStep a).1)) σ f' g) : ZCt d 186 [zr (some 219)] σ f g Q := by
  refine ZCt.of' (L0 := [_]) (by omega) rfl rfl rfl (fun d hd1 => ?_)
  refine r_aload_n rfl rfl ?_
  refine r_callV0 rfl rfl (by first | assumption | exact hs.o rfl) rfl (c_shown (by omega) hs hM hA (fun pl rd0 hp => ?_) (fun hn => ?_))
  · refine r_if_n rfl (by decide) ?_
    refine r_aload_n rfl rfl ?_
    refine r_getR rfl (by first | assumption | exact hs.o rfl) (by first | assumption | exact hs.g rfl) ?_
    refine r_bipush rfl ?_
    obtain ⟨hplo, hvr, hst⟩ := hA.plS hp
    have hN := hA.2.2.2.2.2.2.2
    have h50 := hvr.1.2.2.2.2.2.1
    have h999 := hvr.2.2.1
    refine r_iald rfl (by first | assumption | exact hs.a rfl) (by omega) (by omega) ((zix (n := 10) rfl).trans hM.w.2.1.1) ?_
    refine r_sipush rfl ?_
    refine r_icmp_ne rfl (by omega) (by omega) (fun hne => ?_) (fun hne => ?_)
    · refine r_aload_n rfl rfl ?_
      refine r_callV0 rfl rfl (by first | assumption | exact hs.o rfl) rfl (c_keepsAct (by omega) hs hM hA (fun f1 hM1 hx1 hs1 => ?_))
      have hAk : AOk N (aKeep a) := hA.keep (by rw [hp]; exact fun q => by cases q)
      refine r_aload_n rfl rfl ?_
      refine r_callV0 rfl rfl (by first | assumption | exact hs.o rfl) rfl (c_psv (rd := a.w.rd) (by omega) hs (tm_of (a := aKeep a) hs hM1 hAk (show (aKeep a).w.pn = some (pl, rd0) from hp) hA.2.2.2.1 (fun _ _ _ => rfl) (fun _ _ => rfl) hM1.fo hM1.pn hM1.cl) hM1.w.2.1 hvr.1 (by omega) (fun f2 hf2 ht2 hm2 hv2 => ?_))
      refine r_iret rfl ?_
      have e : sStep a = ((rStep pl (AL a a.fo pl) (-1) a.w.rd).2.1, setRd (aKeep a) (rStep pl (AL a a.fo pl) (-1) a.w.rd).1) := by unfold sStep; rw [hp]; exact if_neg (by omega)
      rw [e] at K
      exact K f2 (hM1.now hf2 hm2) (hx1.trans hf2.x)
    · refine r_iconst rfl ?_
      refine r_iret rfl ?_
      (have e : sStep a = (-1, a) := (by unfold sStep; first | (rw [hn]) | (rw [hp]; exact if_pos (by omega))); rw [e] at K; exact K f hM (FrX.rf f))
  · refine r_if_y rfl (by decide) ?_
    refine r_iconst rfl ?_
    refine r_iret rfl ?_
    (have e : sStep a = (-1, a) := (by unfold sStep; first | (rw [hn]) | (rw [hp]; exact if_pos (by omega))); rw [e] at K; exact K f hM (FrX.rf f))
theorem FrM.up1 {f0 : ZF} {k : Nat} {v : Int} (h : FrM f0 f) (hk : 10 ≤ k ∧ k < 67) : FrM f0 (up2 f 229 k v) := h.said hk
theorem mrd_fuel (hm : MRd (f 229) rd) {k : Nat} (hk : k < 6) (h0 : 0 ≤ rd 0 k) {x : Int} : MRd ((up2 f 229 (15 + 5 * k) x) 229) (up2 rd 2 k x) := by
  rw [up2_u1]
  obtain ⟨h0', h1, h2, h3, h4⟩ := hm
  refine MRd.of ?_ ?_ (fun i hi => ?_) (fun i hi => ?_) (fun i hi => ?_)
  · simp only [u1]; rw [if_neg (by omega), h0']; simp [up2]
  · simp only [u1]; rw [if_neg (by omega), h1]; simp [up2]
  · by_cases e : i = k
    · subst e
      have := h2 i hi
      unfold MC at this ⊢
      simp only [u1]
      refine Or.inr ⟨by simpa [up2] using h0, ?_, ?_, ?_, ?_, ?_⟩
      · rw [if_neg (by omega)]; omega
      · rw [if_neg (by omega)]; simp [up2]; omega
      · rw [if_neg (by omega)]; simp [up2]; omega
      · simp [up2]
      · rw [if_neg (by omega)]; simp [up2]; omega
    · refine (h2 i hi).same (fun a ha => ?_) (fun a ha => ?_)
      · simp only [u1]; rw [if_neg (by omega)]
      · simp [up2, e]
  · simp only [u1]; rw [if_neg (by omega), h3 i hi]; simp [up2]
  · simp only [u1]; rw [if_neg (by omega), h4 i hi]; simp [up2]
theorem mrd_want (hm : MRd (f 229) rd) {k : Nat} (hk : k < 6) (h0 : 0 ≤ rd 0 k) {x : Int} : MRd ((up2 f 229 (14 + 5 * k) x) 229) (up2 rd 1 k x) := by
  rw [up2_u1]
  obtain ⟨h0', h1, h2, h3, h4⟩ := hm
  refine MRd.of ?_ ?_ (fun i hi => ?_) (fun i hi => ?_) (fun i hi => ?_)
  · simp only [u1]; rw [if_neg (by omega), h0']; simp [up2]
  · simp only [u1]; rw [if_neg (by omega), h1]; simp [up2]
  · by_cases e : i = k
    · subst e
      have := h2 i hi
      unfold MC at this ⊢
      simp only [u1]
      refine Or.inr ⟨by simpa [up2] using h0, ?_, ?_, ?_, ?_, ?_⟩
      · rw [if_neg (by omega)]; omega
      · rw [if_neg (by omega)]; simp [up2]; omega
      · simp [up2]
      · rw [if_neg (by omega)]; simp [up2]; omega
      · rw [if_neg (by omega)]; simp [up2]; omega
    · refine (h2 i hi).same (fun a ha => ?_) (fun a ha => ?_)
      · simp only [u1]; rw [if_neg (by omega)]
      · simp [up2, e]
  · simp only [u1]; rw [if_neg (by omega), h3 i hi]; simp [up2]
  · simp only [u1]; rw [if_neg (by omega), h4 i hi]; simp [up2]
theorem mrd_gap (hm : MRd (f 229) rd) {c : Nat} (hc : c < 20) {x : Int} : MRd ((up2 f 229 (47 + c) x) 229) (up2 rd 6 c x) := by
  rw [up2_u1]
  obtain ⟨h0', h1, h2, h3, h4⟩ := hm
  refine MRd.of ?_ ?_ (fun i hi => ?_) (fun i hi => ?_) (fun i hi => ?_)
  · simp only [u1]; rw [if_neg (by omega), h0']; simp [up2]
  · simp only [u1]; rw [if_neg (by omega), h1]; simp [up2]
  · refine (h2 i hi).same (fun a ha => ?_) (fun a ha => ?_)
    · simp only [u1]; rw [if_neg (by omega)]
    · simp [up2, show ¬ a = 6 by omega]
  · simp only [u1]; rw [if_neg (by omega), h3 i hi]; simp [up2]
  · simp only [u1]
    by_cases e : i = c
    · subst e; rw [if_pos rfl]; simp [up2]
    · rw [if_neg (by omega), h4 i hi]; simp [up2, e]
theorem mc_on (hm : MRd (f 229) rd) {k : Nat} (hk : k < 6) (h0 : 0 ≤ rd 0 k) : f 229 (13 + 5 * k) = rd 0 k ∧ f 229 (14 + 5 * k) = rd 1 k ∧ f 229 (15 + 5 * k) = rd 2 k ∧ f 229 (16 + 5 * k) = rd 3 k ∧ f 229 (12 + 5 * k) = 1 := by
  have := hm.2.2.1 k hk
  unfold MC at this
  omega
theorem c_pole (hd : 4 ≤ d) (hs : Sh σ g) (hM : MI f a) (hA : AOk N a)  {x y : Int} (hx : IR x) (hy : IR y) (K : ∀ f', MI f' (sPole a x y).2 → FrX f f' → Q (some (zi (sPole a x y).1)) σ f' g) : ZCt d 207 [zr (some 219), zi x, zi y] σ f g Q := by
  refine ZCt.of' (L0 := [_, _, _, _]) (by omega) rfl rfl rfl (fun d hd1 => ?_)
  have no : ¬ (isOnA a x ∧ 1 ≤ y ∧ y ≤ 20) → Q (some (zi (-1))) σ f g := by
    intro q
    have e : sPole a x y = (-1, a) := if_neg q
    rw [e] at K
    exact K f hM (FrX.rf f)
  refine r_aload_n rfl rfl ?_
  refine r_iload_n rfl rfl ?_
  refine r_callV1 rfl rfl (by first | assumption | exact hs.o rfl) rfl (c_carOnA (by omega) hs hM hA hx (fun k hxk hk6 hk0 => ?_) (fun hoff => ?_))
  · refine r_if_n rfl (by decide) ?_
    refine r_iload_n rfl rfl ?_
    refine r_i2l rfl (by omega) ?_
    refine r_lconst rfl ?_
    refine r_ldc2 rfl ?_
    refine r_callS3 rfl rfl rfl (c_in (by omega) (by omega) (by omega) (by omega) (fun hw => ?_) (fun hw => ?_))
    · refine r_if_y rfl (by decide) ?_
      refine r_aload_n rfl rfl ?_
      refine r_callV0 rfl rfl (by first | assumption | exact hs.o rfl) rfl (c_keepsAct (by omega) hs hM hA (fun f1 hM1 hx1 hs1 => ?_))
      subst hxk
      have hm1 : MRd (f1 229) a.w.rd := hM1.w.2.1
      have hcar := mc_on hm1 hk6 hk0
      obtain ⟨pl, rd0, hp⟩ := hA.onPl hk6 (by omega)
      obtain ⟨hplo, hvr, hst⟩ := hA.plS hp
      have hok := hvr.1.2.2.1 k hk6
      have ho1 := hvr.1.1
      have ho2 := hvr.1.2.1
      refine r_aload_n rfl rfl ?_
      refine r_iload_n rfl rfl ?_
      refine r_callV1 rfl rfl (by first | assumption | exact hs.o rfl) rfl (c_fuelOf (by omega) hs hk6 ?_)
      rw [hcar.2.2.1]
      refine r_iload_n rfl rfl ?_
      refine r_iadd rfl ?_
      refine r_istore_n (L' := [_, _, _, _]) rfl rfl rfl ?_
      refine r_aload_n rfl rfl ?_
      refine r_getR rfl (by first | assumption | exact hs.o rfl) (by first | assumption | exact hs.g rfl) ?_
      refine r_bipush rfl ?_
      refine r_iconst rfl ?_
      refine r_iload_n rfl rfl ?_
      refine r_imul rfl ?_
      refine r_iadd rfl ?_
      refine r_iconst rfl ?_
      refine r_iadd rfl ?_
      refine r_iload_n rfl rfl ?_
      refine r_bipush rfl ?_
      refine r_icmp_le rfl (by omega) (by omega) (fun h99 => ?_) (fun h99 => ?_)
      · refine r_iload_n rfl rfl ?_
        refine r_iastN (15 + 5 * k) rfl (by first | assumption | exact hs.a rfl) (by omega) (by omega) (by omega) ?_
        refine r_aload_n rfl rfl ?_
        refine r_iload_n rfl rfl ?_
        refine r_callV1 rfl rfl (by first | assumption | exact hs.o rfl) rfl (c_fuelOf (by omega) hs hk6 ?_)
        rw [up2_same]
        refine r_iret rfl ?_
        have e : sPole a (k : Int) y = (poleV a (k : Int) y, setRd (aKeep a) (up2 a.w.rd 2 k (poleV a (k : Int) y))) := if_pos ⟨⟨by omega, by omega, by rw [Int.toNat_natCast]; omega⟩, by omega⟩
        rw [e] at K
        first
        | (have e2 : poleV a (k : Int) y = a.w.rd 2 k + y := (by show (if 99 ≤ a.w.rd 2 k + y then (99 : Int) else a.w.rd 2 k + y) = _; split <;> omega)
           rw [e2] at K
           exact K _ (hM1.now ((FrM.rf f1).said (by omega)) (mrd_fuel hm1 hk6 hk0)) (hx1.up (by omega)))
        | (have e2 : poleV a (k : Int) y = 99 := (by show (if 99 ≤ a.w.rd 2 k + y then (99 : Int) else a.w.rd 2 k + y) = _; split <;> omega)
           rw [e2] at K
           exact K _ (hM1.now ((FrM.rf f1).said (by omega)) (mrd_fuel hm1 hk6 hk0)) (hx1.up (by omega)))
      · refine r_bipush rfl ?_
        refine r_goto rfl ?_
        refine r_iastN (15 + 5 * k) rfl (by first | assumption | exact hs.a rfl) (by omega) (by omega) (by omega) ?_
        refine r_aload_n rfl rfl ?_
        refine r_iload_n rfl rfl ?_
        refine r_callV1 rfl rfl (by first | assumption | exact hs.o rfl) rfl (c_fuelOf (by omega) hs hk6 ?_)
        rw [up2_same]
        refine r_iret rfl ?_
        have e : sPole a (k : Int) y = (poleV a (k : Int) y, setRd (aKeep a) (up2 a.w.rd 2 k (poleV a (k : Int) y))) := if_pos ⟨⟨by omega, by omega, by rw [Int.toNat_natCast]; omega⟩, by omega⟩
        rw [e] at K
        first
        | (have e2 : poleV a (k : Int) y = a.w.rd 2 k + y := (by show (if 99 ≤ a.w.rd 2 k + y then (99 : Int) else a.w.rd 2 k + y) = _; split <;> omega)
           rw [e2] at K
           exact K _ (hM1.now ((FrM.rf f1).said (by omega)) (mrd_fuel hm1 hk6 hk0)) (hx1.up (by omega)))
        | (have e2 : poleV a (k : Int) y = 99 := (by show (if 99 ≤ a.w.rd 2 k + y then (99 : Int) else a.w.rd 2 k + y) = _; split <;> omega)
           rw [e2] at K
           exact K _ (hM1.now ((FrM.rf f1).said (by omega)) (mrd_fuel hm1 hk6 hk0)) (hx1.up (by omega)))
    · refine r_if_n rfl (by decide) ?_
      refine r_iconst rfl ?_
      refine r_iret rfl ?_
      exact no (fun q => by first | omega | (have := hoff x.toNat (by omega) (by omega); omega))
  · refine r_if_y rfl (by decide) ?_
    refine r_iconst rfl ?_
    refine r_iret rfl ?_
    exact no (fun q => by first | omega | (have := hoff x.toNat (by omega) (by omega); omega))
theorem c_crosses (hd : 3 ≤ d) (hs : Sh σ g) (hm : MRd (f 229) rd) {k : Nat} (hk : k < 6) (h0 : 0 ≤ rd 0 k ∧ rd 0 k < 20) (K : ∀ f', FrM f f' → MRd (f' 229) (rCross rd k) → Q none σ f' g) : ZCt d 210 [zr (some 219), zi (k : Int)] σ f g Q := by
  refine ZCt.of' (L0 := [_, _]) (by omega) rfl rfl rfl (fun d hd1 => ?_)
  have hc := (mc_on hm hk h0.1).1
  refine r_aload_n rfl rfl ?_
  refine r_getR rfl (by first | assumption | exact hs.o rfl) (by first | assumption | exact hs.g rfl) ?_
  refine r_bipush rfl ?_
  refine r_aload_n rfl rfl ?_
  refine r_iload_n rfl rfl ?_
  refine r_callV1 rfl rfl (by first | assumption | exact hs.o rfl) rfl (c_cellOf (by omega) hs hk ?_)
  rw [hc]
  refine r_iadd rfl ?_
  refine r_iconst rfl ?_
  refine r_iastN (47 + (rd 0 k).toNat) rfl (by first | assumption | exact hs.a rfl) (by omega) (by omega) (by omega) ?_
  refine r_aload_n rfl rfl ?_
  refine r_iload_n rfl rfl ?_
  refine r_callV1 rfl rfl (by first | assumption | exact hs.o rfl) rfl (c_leaves (rd := up2 rd 6 (rd 0 k).toNat 1) (by omega) hs (mrd_gap hm (by omega)) hk (fun f2 hf2 hm2 => ?_))
  refine r_ret rfl ?_
  exact K f2 (((FrM.rf f).said (by omega)).trans hf2) hm2
theorem c_grass (hd : 5 ≤ d) (hs : Sh σ g) (hM : MI f a) (hA : AOk N a)  {x : Int} (hx : IR x) (K : ∀ f', MI f' (sGrass a x).2 → FrX f f' → Q (some (zi (sGrass a x).1)) σ f' g) : ZCt d 209 [zr (some 219), zi x] σ f g Q := by
  refine ZCt.of' (L0 := [_, _, _]) (by omega) rfl rfl rfl (fun d hd1 => ?_)
  have no : ¬ (isOnA a x) → Q (some (zi (-1))) σ f g := by
    intro q
    have e : sGrass a x = (-1, a) := if_neg q
    rw [e] at K
    exact K f hM (FrX.rf f)
  refine r_aload_n rfl rfl ?_
  refine r_iload_n rfl rfl ?_
  refine r_callV1 rfl rfl (by first | assumption | exact hs.o rfl) rfl (c_carOnA (by omega) hs hM hA hx (fun k hxk hk6 hk0 => ?_) (fun hoff => ?_))
  · refine r_if_y rfl (by decide) ?_
    refine r_aload_n rfl rfl ?_
    refine r_callV0 rfl rfl (by first | assumption | exact hs.o rfl) rfl (c_keepsAct (by omega) hs hM hA (fun f1 hM1 hx1 hs1 => ?_))
    subst hxk
    have hm1 : MRd (f1 229) a.w.rd := hM1.w.2.1
    have hcar := mc_on hm1 hk6 hk0
    obtain ⟨pl, rd0, hp⟩ := hA.onPl hk6 (by omega)
    obtain ⟨hplo, hvr, hst⟩ := hA.plS hp
    have hok := hvr.1.2.2.1 k hk6
    have ho1 := hvr.1.1
    have ho2 := hvr.1.2.1
    refine r_aload_n rfl rfl ?_
    refine r_iload_n rfl rfl ?_
    refine r_callV1 rfl rfl (by first | assumption | exact hs.o rfl) rfl (c_cellOf (by omega) hs hk6 ?_)
    rw [hcar.1]
    refine r_istore_n (L' := [_, _, _]) rfl rfl rfl ?_
    refine r_aload_n rfl rfl ?_
    refine r_iload_n rfl rfl ?_
    refine r_callV1 rfl rfl (by first | assumption | exact hs.o rfl) rfl (c_crosses (by omega) hs hm1 hk6 (by omega) (fun f2 hf2 hm2 => ?_))
    refine r_iload_n rfl rfl ?_
    refine r_iret rfl ?_
    have e : sGrass a (k : Int) = (a.w.rd 0 k, setRd (aKeep a) (rCross a.w.rd k)) := if_pos ⟨by omega, by omega, by rw [Int.toNat_natCast]; omega⟩
    rw [e] at K
    exact K f2 (hM1.now hf2 hm2) (hx1.trans hf2.x)
  · refine r_if_n rfl (by decide) ?_
    refine r_iconst rfl ?_
    refine r_iret rfl ?_
    exact no (fun q => by have := hoff x.toNat (by omega) (by omega); omega)
theorem c_wish (hd : 4 ≤ d) (hs : Sh σ g) (hM : MI f a) (hA : AOk N a)  {x y : Int} (hx : IR x) (hy : IR y) (K : ∀ f', MI f' (sWish a x y).2 → FrX f f' → Q (some (zi (sWish a x y).1)) σ f' g) : ZCt d 213 [zr (some 219), zi x, zi y] σ f g Q := by
  refine ZCt.of' (L0 := [_, _, _, _]) (by omega) rfl rfl rfl (fun d hd1 => ?_)
  have no : ¬ (isOnA a x ∧ isRoadA a y ∧ a.w.rd 1 x.toNat ≠ y) → Q (some (zi (-1))) σ f g := by
    intro q
    have e : sWish a x y = (-1, a) := if_neg q
    rw [e] at K
    exact K f hM (FrX.rf f)
  refine r_aload_n rfl rfl ?_
  refine r_iload_n rfl rfl ?_
  refine r_callV1 rfl rfl (by first | assumption | exact hs.o rfl) rfl (c_carOnA (by omega) hs hM hA hx (fun k hxk hk6 hk0 => ?_) (fun hoff => ?_))
  · refine r_if_n rfl (by decide) ?_
    refine r_aload_n rfl rfl ?_
    refine r_iload_n rfl rfl ?_
    refine r_callV1 rfl rfl (by first | assumption | exact hs.o rfl) rfl (c_roadA (by omega) hs hM hA hy (fun pl1 rd1 hp1 hroad => ?_) (fun hnr => ?_))
    · refine r_if_n rfl (by decide) ?_
      refine r_aload_n rfl rfl ?_
      refine r_iload_n rfl rfl ?_
      subst hxk
      have hokk := (hA.plS hp1).2.1.1.2.2.1 k hk6
      have hmm := (hA.plS hp1).2.1.1.2.1
      refine r_callV1 rfl rfl (by first | assumption | exact hs.o rfl) rfl (c_roadOf (by omega) hs hk6 ?_)
      rw [(mc_on hM.w.2.1 hk6 hk0).2.1]
      refine r_iload_n rfl rfl ?_
      refine r_icmp_ne rfl (by omega) (by omega) (fun hne => ?_) (fun hne => ?_)
      · refine r_aload_n rfl rfl ?_
        refine r_callV0 rfl rfl (by first | assumption | exact hs.o rfl) rfl (c_keepsAct (by omega) hs hM hA (fun f1 hM1 hx1 hs1 => ?_))
        have hm1 : MRd (f1 229) a.w.rd := hM1.w.2.1
        have hcar := mc_on hm1 hk6 hk0
        obtain ⟨pl, rd0, hp⟩ := hA.onPl hk6 (by omega)
        obtain ⟨hplo, hvr, hst⟩ := hA.plS hp
        have hok := hvr.1.2.2.1 k hk6
        have ho1 := hvr.1.1
        have ho2 := hvr.1.2.1
        refine r_aload_n rfl rfl ?_
        refine r_iload_n rfl rfl ?_
        refine r_callV1 rfl rfl (by first | assumption | exact hs.o rfl) rfl (c_roadOf (by omega) hs hk6 ?_)
        rw [hcar.2.1]
        refine r_istore_n (L' := [_, _, _, _]) rfl rfl rfl ?_
        refine r_aload_n rfl rfl ?_
        refine r_getR rfl (by first | assumption | exact hs.o rfl) (by first | assumption | exact hs.g rfl) ?_
        refine r_bipush rfl ?_
        refine r_iconst rfl ?_
        refine r_iload_n rfl rfl ?_
        refine r_imul rfl ?_
        refine r_iadd rfl ?_
        refine r_iconst rfl ?_
        refine r_iadd rfl ?_
        refine r_iload_n rfl rfl ?_
        refine r_iastN (14 + 5 * k) rfl (by first | assumption | exact hs.a rfl) (by omega) (by omega) (by omega) ?_
        refine r_iload_n rfl rfl ?_
        refine r_iret rfl ?_
        have e : sWish a (k : Int) y = (a.w.rd 1 k, setRd (aKeep a) (up2 a.w.rd 1 k y)) := if_pos ⟨⟨by omega, by omega, by rw [Int.toNat_natCast]; omega⟩, by show 0 ≤ y ∧ y < roadsN a; rw [roads1 hp1]; exact hroad, by rw [Int.toNat_natCast]; exact hne⟩
        rw [e] at K
        exact K _ (hM1.now ((FrM.rf f1).said (by omega)) (mrd_want hm1 hk6 hk0)) (hx1.up (by omega))
      · refine r_iconst rfl ?_
        refine r_iret rfl ?_
        first
        | exact no (fun q => by have := hoff x.toNat (by omega) (by omega); omega)
        | exact no (fun q => q.2.2 (by rw [Int.toNat_natCast]; omega))
        | (refine no (fun q => ?_)
           have q2 : 0 ≤ y ∧ y < roadsN a := q.2.1
           cases hpp : a.w.pn with
           | none => rw [roads0 hpp] at q2; omega
           | some z => rw [roads1 (pl := z.1) (rd0 := z.2) hpp] at q2; exact hnr z.1 z.2 hpp q2)
    · refine r_if_y rfl (by decide) ?_
      refine r_iconst rfl ?_
      refine r_iret rfl ?_
      first
      | exact no (fun q => by have := hoff x.toNat (by omega) (by omega); omega)
      | exact no (fun q => q.2.2 (by rw [Int.toNat_natCast]; omega))
      | (refine no (fun q => ?_)
         have q2 : 0 ≤ y ∧ y < roadsN a := q.2.1
         cases hpp : a.w.pn with
         | none => rw [roads0 hpp] at q2; omega
         | some z => rw [roads1 (pl := z.1) (rd0 := z.2) hpp] at q2; exact hnr z.1 z.2 hpp q2)
  · refine r_if_y rfl (by decide) ?_
    refine r_iconst rfl ?_
    refine r_iret rfl ?_
    first
    | exact no (fun q => by have := hoff x.toNat (by omega) (by omega); omega)
    | exact no (fun q => q.2.2 (by rw [Int.toNat_natCast]; omega))
    | (refine no (fun q => ?_)
       have q2 : 0 ≤ y ∧ y < roadsN a := q.2.1
       cases hpp : a.w.pn with
       | none => rw [roads0 hpp] at q2; omega
       | some z => rw [roads1 (pl := z.1) (rd0 := z.2) hpp] at q2; exact hnr z.1 z.2 hpp q2)
theorem gap_step (ho : ∀ c, c < 20 → rd 6 c = 0 ∨ rd 6 c = 1) {k : Nat} (hk : k < 20) : cnt (fun c => decide (rd 6 c = 1)) (k + 1) = cnt (fun c => decide (rd 6 c = 1)) k + rd 6 k := by
  simp only [cnt]
  rcases ho k hk with h | h <;> simp [h]
theorem l_gaps (hd1 : 0 ≤ d) (hs : Sh σ g) (hm : MRd (f 229) rd) (ho : ∀ c, c < 20 → rd 6 c = 0 ∨ rd 6 c = 1) (K : Q (some (zi (gapN rd))) σ f g) (k : Nat) (hk : k ≤ 20) {v : Int} (hv : v = cnt (fun c => decide (rd 6 c = 1)) k) : ZWp d zt212 4 [zr (some 219), zi v, zi (k : Int)] [] σ f g Q := by
  refine r_iload_n rfl rfl ?_
  refine r_bipush rfl ?_
  refine r_icmp_ge rfl (by omega) (by omega) (fun hlt => ?_) (fun hlt => ?_)
  · refine r_iload_n rfl rfl ?_
    refine r_iret rfl ?_
    have e : k = 20 := by omega
    subst e
    rw [hv]
    exact K
  · refine r_iload_n rfl rfl ?_
    refine r_aload_n rfl rfl ?_
    refine r_getR rfl (by first | assumption | exact hs.o rfl) (by first | assumption | exact hs.g rfl) ?_
    refine r_bipush rfl ?_
    refine r_iload_n rfl rfl ?_
    refine r_iadd rfl ?_
    refine r_iald rfl (by first | assumption | exact hs.a rfl) (by omega) (by omega) ((zix (n := 47 + k) (by omega)).trans (hm.2.2.2.2 k (by omega))) ?_
    refine r_iadd rfl ?_
    refine r_istore_n (L' := [_, _, _]) rfl rfl rfl ?_
    refine r_iinc (L' := [_, _, _]) rfl rfl rfl ?_
    refine r_goto rfl ?_
    exact l_gaps hd1 hs hm ho K (k + 1) (by omega) (by rw [gap_step ho (by omega), hv])
termination_by 20 - k
theorem c_gaps (hd : 1 ≤ d) (hs : Sh σ g) (hm : MRd (f 229) rd) (ho : ∀ c, c < 20 → rd 6 c = 0 ∨ rd 6 c = 1) (K : Q (some (zi (gapN rd))) σ f g) : ZCt d 212 [zr (some 219)] σ f g Q := by
  refine ZCt.of' (L0 := [_, _, _]) (by omega) rfl rfl rfl (fun d hd1 => ?_)
  refine r_iconst rfl ?_
  refine r_istore_n (L' := [_, _, _]) rfl rfl rfl ?_
  refine r_iconst rfl ?_
  refine r_istore_n (L' := [_, _, _]) rfl rfl rfl ?_
  exact l_gaps (by omega) hs hm ho K 0 (by omega) rfl
theorem c_fill (hd : 4 ≤ d) (hs : Sh σ g) (hM : MI f a) (hA : AOk N a)  {x : Int} (hx : IR x) (K : ∀ f', MI f' (sFill a x).2 → FrX f f' → Q (some (zi (sFill a x).1)) σ f' g) : ZCt d 211 [zr (some 219), zi x] σ f g Q := by
  refine ZCt.of' (L0 := [_, _]) (by omega) rfl rfl rfl (fun d hd1 => ?_)
  have no : (∀ pl rd0, a.w.pn = some (pl, rd0) → ¬ ((0 ≤ x ∧ x < pl.1) ∧ a.w.rd 6 x.toNat = 1)) → Q (some (zi (-1))) σ f g := by
    intro q
    have e : sFill a x = (-1, a) := by
      unfold sFill
      cases hp : a.w.pn with
      | none => rfl
      | some z => exact if_neg (q z.1 z.2 hp)
    rw [e] at K
    exact K f hM (FrX.rf f)
  refine r_aload_n rfl rfl ?_
  refine r_iload_n rfl rfl ?_
  refine r_callV1 rfl rfl (by first | assumption | exact hs.o rfl) rfl (c_cellA (by omega) hs hM hA hx (fun pl rd0 hp hcell => ?_) (fun hnc => ?_))
  · refine r_if_n rfl (by decide) ?_
    refine r_aload_n rfl rfl ?_
    refine r_getR rfl (by first | assumption | exact hs.o rfl) (by first | assumption | exact hs.g rfl) ?_
    refine r_bipush rfl ?_
    refine r_iload_n rfl rfl ?_
    refine r_iadd rfl ?_
    obtain ⟨hplo, hvr, hst⟩ := hA.plS hp
    have hp1 := hplo.1
    obtain ⟨c, rfl⟩ := Int.eq_ofNat_of_zero_le hcell.1
    have hg := hvr.1.2.2.2.2.1 c (by omega)
    refine r_iald rfl (by first | assumption | exact hs.a rfl) (by omega) (by omega) ((zix (n := 47 + c) (by omega)).trans (hM.w.2.1.2.2.2.2 c (by omega))) ?_
    refine r_if_ne rfl (by omega) (fun hgap => ?_) (fun hgap => ?_)
    · refine r_aload_n rfl rfl ?_
      refine r_callV0 rfl rfl (by first | assumption | exact hs.o rfl) rfl (c_keepsAct (by omega) hs hM hA (fun f1 hM1 hx1 hs1 => ?_))
      have hm1 : MRd (f1 229) a.w.rd := hM1.w.2.1
      refine r_aload_n rfl rfl ?_
      refine r_getR rfl (by first | assumption | exact hs.o rfl) (by first | assumption | exact hs.g rfl) ?_
      refine r_bipush rfl ?_
      refine r_iload_n rfl rfl ?_
      refine r_iadd rfl ?_
      refine r_iconst rfl ?_
      refine r_iastN (47 + c) rfl (by first | assumption | exact hs.a rfl) (by omega) (by omega) (by omega) ?_
      refine r_aload_n rfl rfl ?_
      refine r_callV0 rfl rfl (by first | assumption | exact hs.o rfl) rfl (c_gaps (rd := up2 a.w.rd 6 c 0) (by omega) hs (mrd_gap hm1 (by omega)) (fun i hi => ?_) ?_)
      · have := hvr.1.2.2.2.2.1 i hi
        by_cases e : i = c
        · simp [up2, e]
        · simpa [up2, e] using this
      refine r_iret rfl ?_
      have e : sFill a (c : Int) = (gapN (up2 a.w.rd 6 c 0), setRd (aKeep a) (up2 a.w.rd 6 c 0)) := by
        unfold sFill
        rw [hp]
        exact if_pos ⟨hcell, by rw [Int.toNat_natCast]; omega⟩
      rw [e] at K
      exact K _ (hM1.now ((FrM.rf f1).said (by omega)) (mrd_gap hm1 (by omega))) (hx1.up (by omega))
    · refine r_iconst rfl ?_
      refine r_iret rfl ?_
      first
      | exact no (fun pl' rd0' q z => hnc pl' rd0' q z.1)
      | exact no (fun pl' rd0' q z => by have := z.2; rw [Int.toNat_natCast] at this; omega)
  · refine r_if_y rfl (by decide) ?_
    refine r_iconst rfl ?_
    refine r_iret rfl ?_
    first
    | exact no (fun pl' rd0' q z => hnc pl' rd0' q z.1)
    | exact no (fun pl' rd0' q z => by have := z.2; rw [Int.toNat_natCast] at this; omega)
theorem l_unC (hd1 : 0 ≤ d) (hs : Sh σ g) {f0 : ZF} {u : Nat} (hu : f0 219 27 = (u : Int)) (hu20 : u < 20) (K : ∀ f, (∀ c, c ≠ 229 → f c = f0 c) → (∀ i, i < 57 → f 229 (10 + i) = f0 230 (57 * u + i)) → (∀ i, (i < 10 ∨ 67 ≤ i) → f 229 i = f0 229 i) → ∀ x, ZWp d zt185 56 [zr (some 219), x] [] σ f g Q) (k : Nat) (hk : k ≤ 57) (f : ZF) (hf : ∀ c, c ≠ 229 → f c = f0 c) (hcp : ∀ i, (i < k → f 229 (10 + i) = f0 230 (57 * u + i)) ∧ ((i < 10 ∨ 67 ≤ i) → f 229 i = f0 229 i)) : ZWp d zt185 21 [zr (some 219), zi (k : Int)] [] σ f g Q := by
  refine r_iload_n rfl rfl ?_
  refine r_bipush rfl ?_
  refine r_icmp_ge rfl (by omega) (by omega) (fun hlt => ?_) (fun hlt => ?_)
  · have e : k = 57 := by omega
    subst e
    exact K f hf (fun i hi => (hcp i).1 hi) (fun i hi => (hcp i).2 hi) _
  · refine r_aload_n rfl rfl ?_
    refine r_getR rfl (by first | assumption | exact hs.o rfl) (by first | assumption | exact hs.g rfl) ?_
    refine r_bipush rfl ?_
    refine r_iload_n rfl rfl ?_
    refine r_iadd rfl ?_
    refine r_aload_n rfl rfl ?_
    refine r_getR rfl (by first | assumption | exact hs.o rfl) (by first | assumption | exact hs.g rfl) ?_
    refine r_bipush rfl ?_
    refine r_aload_n rfl rfl ?_
    refine r_getI rfl (by first | assumption | exact hs.o rfl) ((congrFun (hf 219 (by omega)) _).trans hu) ?_
    refine r_imul rfl ?_
    refine r_iload_n rfl rfl ?_
    refine r_iadd rfl ?_
    refine r_iald rfl (by first | assumption | exact hs.a rfl) (by omega) (by omega) ((zix (n := 57 * u + k) (by omega)).trans (congrFun (hf 230 (by omega)) _)) ?_
    refine r_iastN (10 + k) rfl (by first | assumption | exact hs.a rfl) (by omega) (by omega) (by omega) ?_
    refine r_iinc (L' := [_, _]) rfl rfl rfl ?_
    refine r_goto rfl ?_
    refine l_unC hd1 hs hu hu20 K (k + 1) (by omega) _ (fun c q => (up2_o _ _ q).trans (hf c q)) (fun i => ⟨fun hi => ?_, fun hi => ?_⟩)
    · by_cases e : i = k
      · subst e; exact up2_same _ _ _ _
      · rw [up2_ne _ _ (by omega)]; exact (hcp i).1 (by omega)
    · rw [up2_ne _ _ (by omega)]; exact (hcp i).2 (by omega)
termination_by 57 - k
theorem c_undo (hd : 2 ≤ d) (hs : Sh σ g) (hM : MI f a) (hA : AOk N a)  (K : ∀ f', MI f' (sUndo a).2 → FrX f f' → Q (some (zi (sUndo a).1)) σ f' g) : ZCt d 185 [zr (some 219)] σ f g Q := by
  refine ZCt.of' (L0 := [_, _]) (by omega) rfl rfl rfl (fun d hd1 => ?_)
  have hA1 := hA.1
  refine r_aload_n rfl rfl ?_
  refine r_getI rfl (by first | assumption | exact hs.o rfl) hM.uc ?_
  refine r_if_ne rfl (by omega) (fun h0 => ?_) (fun h0 => ?_)
  · refine r_aload_n rfl rfl ?_
    refine r_dupr rfl ?_
    refine r_getI rfl (by first | assumption | exact hs.o rfl) hM.uc ?_
    refine r_iconst rfl ?_
    refine r_isub rfl ?_
    refine r_putI rfl (by first | assumption | exact hs.o rfl) ?_
    refine r_iconst rfl ?_
    refine r_istore_n (L' := [_, _]) rfl rfl rfl ?_
    refine l_unC (u := a.uc - 1) (by omega) hs (by rw [up2_same]; omega) (by omega) (fun f1 h1 h2 h3 x => ?_) 0 (by omega) _ (fun _ _ => rfl) (fun i => ⟨fun q => by omega, fun _ => rfl⟩)
    refine r_aload_n rfl rfl ?_
    refine r_getI rfl (by first | assumption | exact hs.o rfl) ((congrFun (h1 219 (by omega)) _).trans (up2_same _ _ _ _)) ?_
    refine r_iret rfl ?_
    have e : sUndo a = ((a.uc : Int) - 1, (setRd a (a.us 0)).sU (a.uc - 1) (fun i => a.us (i + 1))) := if_neg (by omega)
    rw [e] at K
    have hx : MI (up2 f 219 27 ((a.uc : Int) - 1)) (a.sU (a.uc - 1) (fun i => a.us (i + 1))) := by
      refine hM.undo (b := (a.sU (a.uc - 1) (fun i => a.us (i + 1)))) ⟨rfl, rfl, rfl, rfl, rfl, rfl, rfl, rfl⟩ (fun c q1 q2 => up2_o _ _ q1) (fun i q1 => up2_ne _ _ (fun z => q1 z.2)) ?_ (fun i hi => ?_)
      · rw [up2_same]
        show (a.uc : Int) - 1 = ((a.uc - 1 : Nat) : Int)
        omega
      · have hi' : i < a.uc - 1 := hi
        rw [up2_o _ _ (by omega)]
        show MRd (fun j => f 230 (57 * (a.uc - 1 - 1 - i) + j - 10)) (a.us (i + 1))
        have := hM.un (i + 1) (by omega)
        rw [show a.uc - 1 - 1 - i = a.uc - 1 - (i + 1) by omega]
        exact this
    refine K f1 (hx.now ⟨fun c _ _ _ q => h1 c q, fun i _ _ => congrFun (h1 219 (by omega)) i, h3⟩ ?_) ((FrX.rf f).up (by omega) |>.trans (fun c q => h1 c (by omega)))
    refine (hM.un 0 (by omega)).congr (fun j q1 q2 => ?_)
    show f1 229 j = f 230 (57 * (a.uc - 1 - 0) + j - 10)
    have := h2 (j - 10) (by omega)
    rw [show 10 + (j - 10) = j by omega] at this
    rw [this, up2_o _ _ (by omega), show 57 * (a.uc - 1) + (j - 10) = 57 * (a.uc - 1 - 0) + j - 10 by omega]
  · refine r_iconst rfl ?_
    refine r_iret rfl ?_
    have e : sUndo a = (-1, a) := if_pos (by omega)
    rw [e] at K
    exact K f hM (FrX.rf f)
end MACTS
