/-! New Rounds and Plans; what a SHOW tells is in order -/
def ExB (b : Nat) (σ σ' : ZS) (f f' : ZF) (g g' : ZG) : Prop := σ.1.1 ≤ σ'.1.1 ∧ ∀ k, k < b → σ'.2 k = σ.2 k ∧ f' k = f k ∧ g' k = g k
theorem ExB.ext {σ σ' : ZS} {f f' : ZF} {g g' : ZG} (h : ExB σ.1.1 σ σ' f f' g g') : Ext σ σ' f f' g g' := h
section EXB
variable {b : Nat} {σ σ' : ZS} {f f' : ZF} {g g' : ZG}
theorem ExB.rf (b : Nat) (σ : ZS) (f : ZF) (g : ZG) : ExB b σ σ f f g g := ⟨Nat.le_refl _, fun _ _ => ⟨rfl, rfl, rfl⟩⟩
theorem ExB.new {t n : Nat} (h : ExB b σ σ' f f' g g') (hb : b ≤ σ'.1.1) : ExB b σ (zNewS σ' t n) f (zNewF σ' f') g (zNewG σ' g') := ⟨Nat.le_succ_of_le h.1, fun k hk => by
  obtain ⟨a1, a2, a3⟩ := h.2 k hk
  exact ⟨(if_neg (by omega)).trans a1, (funext (fun j => zF_new (by omega))).trans a2, (funext (fun j => zG_new (by omega))).trans a3⟩⟩
theorem ExB.upF {k i : Nat} {v : Int} (h : ExB b σ σ' f f' g g') (hk : b ≤ k) : ExB b σ σ' f (up2 f' k i v) g g' := ⟨h.1, fun c hc => by
  obtain ⟨a1, a2, a3⟩ := h.2 c hc
  exact ⟨a1, (up2_o _ _ (by omega)).trans a2, a3⟩⟩
theorem ExB.upG {k i : Nat} {v : Option Nat} (h : ExB b σ σ' f f' g g') (hk : b ≤ k) : ExB b σ σ' f f' g (up2 g' k i v) := ⟨h.1, fun c hc => by
  obtain ⟨a1, a2, a3⟩ := h.2 c hc
  refine ⟨a1, a2, ?_⟩
  rw [← a3]
  funext j
  exact up2_ne _ _ (fun q => by omega)⟩
theorem ExB.trans {σ'' : ZS} {f'' : ZF} {g'' : ZG} (h1 : ExB b σ σ' f f' g g') (h2 : ExB b σ' σ'' f' f'' g' g'') : ExB b σ σ'' f f'' g g'' := ⟨Nat.le_trans h1.1 h2.1, fun k hk => by
  obtain ⟨a1, a2, a3⟩ := h1.2 k hk
  obtain ⟨b1, b2, b3⟩ := h2.2 k hk
  exact ⟨b1.trans a1, b2.trans a2, b3.trans a3⟩⟩
theorem ExB.low {b' : Nat} (h : ExB b σ σ' f f' g g') (hb : b' ≤ b) : ExB b' σ σ' f f' g g' := ⟨h.1, fun k hk => h.2 k (by omega)⟩
theorem zO.exb {k c : Nat} (h : zO σ k c) (he : ExB b σ σ' f f' g g') (hk : k < b) : zO σ' k c := ⟨Nat.lt_of_lt_of_le h.1 he.1, by rw [(he.2 k hk).1]; exact h.2⟩
theorem zA.exb {k t n : Nat} (h : zA σ k t n) (he : ExB b σ σ' f f' g g') (hk : k < b) : zA σ' k t n := ⟨Nat.lt_of_lt_of_le h.1 he.1, by rw [(he.2 k hk).1]; exact h.2⟩
end EXB
theorem zA_top (σ : ZS) (t n : Nat) : zA (zNewS σ t n) σ.1.1 t n := ⟨Nat.lt_succ_self _, if_pos rfl⟩
theorem zO_top (σ : ZS) (t n : Nat) : zO (zNewS σ t n) σ.1.1 t := ⟨Nat.lt_succ_self _, by show (if σ.1.1 = σ.1.1 then (t, n) else σ.2 σ.1.1).1 = t; rw [if_pos rfl]⟩
theorem rNo_I (c : Int) (hc : 0 ≤ c) : rNo rdI c := fun k _ => by
  simp only [rdI]
  rw [if_pos (by omega)]
  omega
theorem rOc_I (c : Nat) : rOc rdI c = false := decide_eq_false_iff_not.2 (fun q => q (rNo_I _ (by omega)))
section PLAN
variable {d : Nat} {σ : ZS} {f : ZF} {g : ZG} {Q : ZQ} {N : Int}
/-- an array of six, with -1 in each -/
def m6 (f : ZF) (k : Nat) : ZF := up2 (up2 (up2 (up2 (up2 (up2 f k 0 (-1)) k 1 (-1)) k 2 (-1)) k 3 (-1)) k 4 (-1)) k 5 (-1)
theorem m6_at (f : ZF) (k i : Nat) (h : i < 6) : m6 f k k i = -1 := by
  have : i = 0 ∨ i = 1 ∨ i = 2 ∨ i = 3 ∨ i = 4 ∨ i = 5 := by omega
  unfold m6
  rcases this with rfl | rfl | rfl | rfl | rfl | rfl <;> simp [up2]
theorem m6_o (f : ZF) {k b : Nat} (h : b ≠ k) : m6 f k b = f b := by
  unfold m6
  rw [up2_o _ _ h, up2_o _ _ h, up2_o _ _ h, up2_o _ _ h, up2_o _ _ h, up2_o _ _ h]
theorem l_ri1 (hd1 : 0 ≤ d) {r : Nat} (ho : zO σ r 5) (hN : σ.1.1 < 1000000) (K : ZWp d zt1 36 [zr (some r)] [] (zNewS σ 100 6) (m6 (zNewF σ f) σ.1.1) (up2 (zNewG σ g) r 0 (some σ.1.1)) Q) : ZWp d zt1 4 [zr (some r)] [] σ f g Q := by
  refine r_aload_n rfl rfl ?_
  refine r_bipush rfl ?_
  refine r_newa rfl (by omega) (by omega) ?_
  refine r_dupr rfl ?_
  refine r_iconst rfl ?_
  refine r_iconst rfl ?_
  refine r_iastN (0) rfl (zA_top _ _ _) (by omega) (by omega) (by omega) ?_
  refine r_dupr rfl ?_
  refine r_iconst rfl ?_
  refine r_iconst rfl ?_
  refine r_iastN (1) rfl (zA_top _ _ _) (by omega) (by omega) (by omega) ?_
  refine r_dupr rfl ?_
  refine r_iconst rfl ?_
  refine r_iconst rfl ?_
  refine r_iastN (2) rfl (zA_top _ _ _) (by omega) (by omega) (by omega) ?_
  refine r_dupr rfl ?_
  refine r_iconst rfl ?_
  refine r_iconst rfl ?_
  refine r_iastN (3) rfl (zA_top _ _ _) (by omega) (by omega) (by omega) ?_
  refine r_dupr rfl ?_
  refine r_iconst rfl ?_
  refine r_iconst rfl ?_
  refine r_iastN (4) rfl (zA_top _ _ _) (by omega) (by omega) (by omega) ?_
  refine r_dupr rfl ?_
  refine r_iconst rfl ?_
  refine r_iconst rfl ?_
  refine r_iastN (5) rfl (zA_top _ _ _) (by omega) (by omega) (by omega) ?_
  refine r_putR rfl ho.new ?_
  exact K
theorem l_ri2 (hd1 : 0 ≤ d) {r : Nat} (ho : zO σ r 5) (hN : σ.1.1 < 1000000) (K : ZWp d zt1 68 [zr (some r)] [] (zNewS σ 100 6) (m6 (zNewF σ f) σ.1.1) (up2 (zNewG σ g) r 1 (some σ.1.1)) Q) : ZWp d zt1 36 [zr (some r)] [] σ f g Q := by
  refine r_aload_n rfl rfl ?_
  refine r_bipush rfl ?_
  refine r_newa rfl (by omega) (by omega) ?_
  refine r_dupr rfl ?_
  refine r_iconst rfl ?_
  refine r_iconst rfl ?_
  refine r_iastN (0) rfl (zA_top _ _ _) (by omega) (by omega) (by omega) ?_
  refine r_dupr rfl ?_
  refine r_iconst rfl ?_
  refine r_iconst rfl ?_
  refine r_iastN (1) rfl (zA_top _ _ _) (by omega) (by omega) (by omega) ?_
  refine r_dupr rfl ?_
  refine r_iconst rfl ?_
  refine r_iconst rfl ?_
  refine r_iastN (2) rfl (zA_top _ _ _) (by omega) (by omega) (by omega) ?_
  refine r_dupr rfl ?_
  refine r_iconst rfl ?_
  refine r_iconst rfl ?_
  refine r_iastN (3) rfl (zA_top _ _ _) (by omega) (by omega) (by omega) ?_
  refine r_dupr rfl ?_
  refine r_iconst rfl ?_
  refine r_iconst rfl ?_
  refine r_iastN (4) rfl (zA_top _ _ _) (by omega) (by omega) (by omega) ?_
  refine r_dupr rfl ?_
  refine r_iconst rfl ?_
  refine r_iconst rfl ?_
  refine r_iastN (5) rfl (zA_top _ _ _) (by omega) (by omega) (by omega) ?_
  refine r_putR rfl ho.new ?_
  exact K
theorem l_ri3 (hd1 : 0 ≤ d) {r : Nat} (ho : zO σ r 5) (hN : σ.1.1 < 1000000) (K : ZWp d zt1 76 [zr (some r)] [] (zNewS σ 100 6) (zNewF σ f) (up2 (zNewG σ g) r 2 (some σ.1.1)) Q) : ZWp d zt1 68 [zr (some r)] [] σ f g Q := by
  refine r_aload_n rfl rfl ?_
  refine r_bipush rfl ?_
  refine r_newa rfl (by omega) (by omega) ?_
  refine r_putR rfl ho.new ?_
  exact K
theorem l_ri4 (hd1 : 0 ≤ d) {r : Nat} (ho : zO σ r 5) (hN : σ.1.1 < 1000000) (K : ZWp d zt1 84 [zr (some r)] [] (zNewS σ 100 6) (zNewF σ f) (up2 (zNewG σ g) r 3 (some σ.1.1)) Q) : ZWp d zt1 76 [zr (some r)] [] σ f g Q := by
  refine r_aload_n rfl rfl ?_
  refine r_bipush rfl ?_
  refine r_newa rfl (by omega) (by omega) ?_
  refine r_putR rfl ho.new ?_
  exact K
theorem l_ri5 (hd1 : 0 ≤ d) {r : Nat} (ho : zO σ r 5) (hN : σ.1.1 < 1000000) (K : ZWp d zt1 91 [zr (some r)] [] (zNewS σ 100 5) (zNewF σ f) (up2 (zNewG σ g) r 4 (some σ.1.1)) Q) : ZWp d zt1 84 [zr (some r)] [] σ f g Q := by
  refine r_aload_n rfl rfl ?_
  refine r_iconst rfl ?_
  refine r_newa rfl (by omega) (by omega) ?_
  refine r_putR rfl ho.new ?_
  exact K
theorem l_ri6 (hd1 : 0 ≤ d) {r : Nat} (ho : zO σ r 5) (K : Q none σ (up2 (up2 (up2 (up2 f r 5 0) r 6 0) r 7 0) r 8 0) g) : ZWp d zt1 91 [zr (some r)] [] σ f g Q := by
  refine r_aload_n rfl rfl ?_
  refine r_iconst rfl ?_
  refine r_putI rfl ho ?_
  refine r_aload_n rfl rfl ?_
  refine r_iconst rfl ?_
  refine r_putI rfl ho ?_
  refine r_aload_n rfl rfl ?_
  refine r_iconst rfl ?_
  refine r_putI rfl ho ?_
  refine r_aload_n rfl rfl ?_
  refine r_iconst rfl ?_
  refine r_putI rfl ho ?_
  refine r_ret rfl ?_
  exact K
/-- what is known while a Round is made: its arrays up to j -/
def RI (r j : Nat) (σ0 σ : ZS) (f0 f : ZF) (g0 g : ZG) : Prop := ExB r σ0 σ f0 f g0 g ∧ zO σ r 5 ∧ σ.1.1 = r + 1 + j ∧ (1 ≤ j → zA σ (r + 1) 100 6 ∧ g r 0 = some (r + 1) ∧ ∀ i, i < 6 → f (r + 1) i = -1) ∧ (2 ≤ j → zA σ (r + 2) 100 6 ∧ g r 1 = some (r + 2) ∧ ∀ i, i < 6 → f (r + 2) i = -1) ∧ (3 ≤ j → zA σ (r + 3) 100 6 ∧ g r 2 = some (r + 3) ∧ ∀ i, i < 6 → f (r + 3) i = 0) ∧ (4 ≤ j → zA σ (r + 4) 100 6 ∧ g r 3 = some (r + 4) ∧ ∀ i, i < 6 → f (r + 4) i = 0)
theorem RI.s1 {r : Nat} {σ0 : ZS} {f0 : ZF} {g0 : ZG} (h : RI r 0 σ0 σ f0 f g0 g) : RI r 1 σ0 (zNewS σ 100 6) f0 (m6 (zNewF σ f) σ.1.1) g0 (up2 (zNewG σ g) r 0 (some σ.1.1)) := by
  obtain ⟨h1, h2, h3, q1, q2, q3, q4⟩ := h
  have ef : ∀ k, k ≠ σ.1.1 → k < σ.1.1 → (m6 (zNewF σ f) σ.1.1) k = f k := fun k hk hl => (m6_o _ (by omega)).trans (funext (fun j => zF_new (by omega)))
  have eg : ∀ i, i ≠ 0 → up2 (zNewG σ g) r 0 (some σ.1.1) r i = g r i := fun i hi => (up2_ne _ _ (by omega)).trans (zG_new (by omega))
  refine ⟨⟨Nat.le_succ_of_le h1.1, fun k hk => ?_⟩, h2.new, ?_, ?_, ?_, ?_, ?_⟩
  · have b1 := ((h1.new (t := 100) (n := 6) (by omega)).upG (k := r) (i := 0) (v := some σ.1.1) (Nat.le_refl r)).2 k hk
    exact ⟨b1.1, (m6_o _ (by omega)).trans b1.2.1, b1.2.2⟩
  · show σ.1.1 + 1 = _
    omega
  · intro _
    rw [show r + 1 = σ.1.1 by omega]
    exact ⟨zA_top σ 100 6, up2_same _ _ _ _, fun i hi => m6_at _ _ i hi⟩
  · intro q; omega
  · intro q; omega
  · intro q; omega
theorem RI.s2 {r : Nat} {σ0 : ZS} {f0 : ZF} {g0 : ZG} (h : RI r 1 σ0 σ f0 f g0 g) : RI r 2 σ0 (zNewS σ 100 6) f0 (m6 (zNewF σ f) σ.1.1) g0 (up2 (zNewG σ g) r 1 (some σ.1.1)) := by
  obtain ⟨h1, h2, h3, q1, q2, q3, q4⟩ := h
  have ef : ∀ k, k ≠ σ.1.1 → k < σ.1.1 → (m6 (zNewF σ f) σ.1.1) k = f k := fun k hk hl => (m6_o _ (by omega)).trans (funext (fun j => zF_new (by omega)))
  have eg : ∀ i, i ≠ 1 → up2 (zNewG σ g) r 1 (some σ.1.1) r i = g r i := fun i hi => (up2_ne _ _ (by omega)).trans (zG_new (by omega))
  refine ⟨⟨Nat.le_succ_of_le h1.1, fun k hk => ?_⟩, h2.new, ?_, ?_, ?_, ?_, ?_⟩
  · have b1 := ((h1.new (t := 100) (n := 6) (by omega)).upG (k := r) (i := 1) (v := some σ.1.1) (Nat.le_refl r)).2 k hk
    exact ⟨b1.1, (m6_o _ (by omega)).trans b1.2.1, b1.2.2⟩
  · show σ.1.1 + 1 = _
    omega
  · intro _
    obtain ⟨z1, z2, z3⟩ := q1 (by omega)
    exact ⟨z1.new, (eg 0 (by omega)).trans z2, fun i hi => by rw [ef _ (by omega) (by omega)]; exact z3 i hi⟩
  · intro _
    rw [show r + 2 = σ.1.1 by omega]
    exact ⟨zA_top σ 100 6, up2_same _ _ _ _, fun i hi => m6_at _ _ i hi⟩
  · intro q; omega
  · intro q; omega
theorem RI.s3 {r : Nat} {σ0 : ZS} {f0 : ZF} {g0 : ZG} (h : RI r 2 σ0 σ f0 f g0 g) : RI r 3 σ0 (zNewS σ 100 6) f0 (zNewF σ f) g0 (up2 (zNewG σ g) r 2 (some σ.1.1)) := by
  obtain ⟨h1, h2, h3, q1, q2, q3, q4⟩ := h
  have ef : ∀ k, k ≠ σ.1.1 → k < σ.1.1 → (zNewF σ f) k = f k := fun k hk hl => funext (fun j => zF_new (by omega))
  have eg : ∀ i, i ≠ 2 → up2 (zNewG σ g) r 2 (some σ.1.1) r i = g r i := fun i hi => (up2_ne _ _ (by omega)).trans (zG_new (by omega))
  refine ⟨⟨Nat.le_succ_of_le h1.1, fun k hk => ?_⟩, h2.new, ?_, ?_, ?_, ?_, ?_⟩
  · have b1 := ((h1.new (t := 100) (n := 6) (by omega)).upG (k := r) (i := 2) (v := some σ.1.1) (Nat.le_refl r)).2 k hk
    exact ⟨b1.1, b1.2.1, b1.2.2⟩
  · show σ.1.1 + 1 = _
    omega
  · intro _
    obtain ⟨z1, z2, z3⟩ := q1 (by omega)
    exact ⟨z1.new, (eg 0 (by omega)).trans z2, fun i hi => by rw [ef _ (by omega) (by omega)]; exact z3 i hi⟩
  · intro _
    obtain ⟨z1, z2, z3⟩ := q2 (by omega)
    exact ⟨z1.new, (eg 1 (by omega)).trans z2, fun i hi => by rw [ef _ (by omega) (by omega)]; exact z3 i hi⟩
  · intro _
    rw [show r + 3 = σ.1.1 by omega]
    exact ⟨zA_top σ 100 6, up2_same _ _ _ _, fun i hi => if_pos rfl⟩
  · intro q; omega
theorem RI.s4 {r : Nat} {σ0 : ZS} {f0 : ZF} {g0 : ZG} (h : RI r 3 σ0 σ f0 f g0 g) : RI r 4 σ0 (zNewS σ 100 6) f0 (zNewF σ f) g0 (up2 (zNewG σ g) r 3 (some σ.1.1)) := by
  obtain ⟨h1, h2, h3, q1, q2, q3, q4⟩ := h
  have ef : ∀ k, k ≠ σ.1.1 → k < σ.1.1 → (zNewF σ f) k = f k := fun k hk hl => funext (fun j => zF_new (by omega))
  have eg : ∀ i, i ≠ 3 → up2 (zNewG σ g) r 3 (some σ.1.1) r i = g r i := fun i hi => (up2_ne _ _ (by omega)).trans (zG_new (by omega))
  refine ⟨⟨Nat.le_succ_of_le h1.1, fun k hk => ?_⟩, h2.new, ?_, ?_, ?_, ?_, ?_⟩
  · have b1 := ((h1.new (t := 100) (n := 6) (by omega)).upG (k := r) (i := 3) (v := some σ.1.1) (Nat.le_refl r)).2 k hk
    exact ⟨b1.1, b1.2.1, b1.2.2⟩
  · show σ.1.1 + 1 = _
    omega
  · intro _
    obtain ⟨z1, z2, z3⟩ := q1 (by omega)
    exact ⟨z1.new, (eg 0 (by omega)).trans z2, fun i hi => by rw [ef _ (by omega) (by omega)]; exact z3 i hi⟩
  · intro _
    obtain ⟨z1, z2, z3⟩ := q2 (by omega)
    exact ⟨z1.new, (eg 1 (by omega)).trans z2, fun i hi => by rw [ef _ (by omega) (by omega)]; exact z3 i hi⟩
  · intro _
    obtain ⟨z1, z2, z3⟩ := q3 (by omega)
    exact ⟨z1.new, (eg 2 (by omega)).trans z2, fun i hi => by rw [ef _ (by omega) (by omega)]; exact z3 i hi⟩
  · intro _
    rw [show r + 4 = σ.1.1 by omega]
    exact ⟨zA_top σ 100 6, up2_same _ _ _ _, fun i hi => if_pos rfl⟩
theorem RI.fin {r : Nat} {σ0 : ZS} {f0 : ZF} {g0 : ZG} (h : RI r 4 σ0 σ f0 f g0 g) : ExB r σ0 (zNewS σ 100 5) f0 (up2 (up2 (up2 (up2 (zNewF σ f) r 5 0) r 6 0) r 7 0) r 8 0) g0 (up2 (zNewG σ g) r 4 (some σ.1.1)) ∧ RO (zNewS σ 100 5) (up2 (zNewG σ g) r 4 (some σ.1.1)) r ∧ RC (up2 (up2 (up2 (up2 (zNewF σ f) r 5 0) r 6 0) r 7 0) r 8 0) r rdI ∧ (zNewS σ 100 5).1.1 = r + 6 := by
  obtain ⟨h1, h2, h3, q1, q2, q3, q4⟩ := h
  obtain ⟨a1, a2, a3⟩ := q1 (by omega)
  obtain ⟨b1, b2, b3⟩ := q2 (by omega)
  obtain ⟨c1, c2, c3⟩ := q3 (by omega)
  obtain ⟨e1, e2, e3⟩ := q4 (by omega)
  have ef : ∀ k, k < r + 5 → zNewF σ f k = f k := fun k hk => funext (fun j => zF_new (by omega))
  have eg : ∀ i, i ≠ 4 → up2 (zNewG σ g) r 4 (some σ.1.1) r i = g r i := fun i hi => (up2_ne _ _ (by omega)).trans (zG_new (by omega))
  have eo : ∀ k, k ≠ r → up2 (up2 (up2 (up2 (zNewF σ f) r 5 0) r 6 0) r 7 0) r 8 0 k = zNewF σ f k := fun k hk => by rw [up2_o _ _ hk, up2_o _ _ hk, up2_o _ _ hk, up2_o _ _ hk]
  refine ⟨?_, ⟨h2.new, ⟨a1.new, b1.new, c1.new, e1.new, by rw [show r + 5 = σ.1.1 by omega]; exact zA_top σ 100 5⟩, (eg 0 (by omega)).trans a2, (eg 1 (by omega)).trans b2, (eg 2 (by omega)).trans c2, (eg 3 (by omega)).trans e2, by rw [up2_same, show σ.1.1 = r + 5 by omega]⟩, ⟨fun k hk => ?_, fun j hj => ?_, ?_, ?_, ?_, ?_⟩, by show σ.1.1 + 1 = _; omega⟩
  · exact (((((h1.new (t := 100) (n := 5) (by omega)).upG (k := r) (Nat.le_refl r)).upF (Nat.le_refl r)).upF (Nat.le_refl r)).upF (Nat.le_refl r)).upF (Nat.le_refl r)
  · rw [eo _ (by omega), eo _ (by omega), eo _ (by omega), eo _ (by omega), ef _ (by omega), ef _ (by omega), ef _ (by omega), ef _ (by omega)]
    exact ⟨a3 k hk, b3 k hk, c3 k hk, e3 k hk⟩
  · rw [eo _ (by omega), show r + 5 = σ.1.1 by omega]
    exact if_pos rfl
  · simp [up2, rdI]
  · simp [up2, rdI]
  · rw [show up2 (up2 (up2 (up2 (zNewF σ f) r 5 0) r 6 0) r 7 0) r 8 0 r 6 = 0 by simp [up2]]
    exact Bits.zero.imp (fun c _ => (decide_eq_false_iff_not.2 (by simp [rdI])).symm)
  · rw [show up2 (up2 (up2 (up2 (zNewF σ f) r 5 0) r 6 0) r 7 0) r 8 0 r 5 = 0 by simp [up2]]
    exact Bits.zero.imp (fun c _ => (rOc_I c).symm)
theorem k_roundInit (hd : 1 ≤ d) {r : Nat} (ho : zO σ r 5) (hr : σ.1.1 = r + 1) (hN : σ.1.1 < 999990) (K : ∀ σ' f' g', ExB r σ σ' f f' g g' → RO σ' g' r → RC f' r rdI → σ'.1.1 = r + 6 → σ'.1.2 = σ.1.2 + 29 → Q none σ' f' g') : ZCt d 1 [zr (some r)] σ f g Q := by
  refine ZCt.of' (L0 := [_]) (by omega) rfl rfl rfl (fun d hd1 => ?_)
  refine r_aload_n rfl rfl ?_
  refine r_obj rfl rfl ?_
  have i0 : RI r 0 σ σ f f g g := ⟨ExB.rf r σ f g, ho, by omega, fun q => by omega, fun q => by omega, fun q => by omega, fun q => by omega⟩
  refine l_ri1 (by omega) i0.2.1 (by have := i0.2.2.1; omega) ?_
  have i1 := i0.s1
  refine l_ri2 (by omega) i1.2.1 (by have := i1.2.2.1; omega) ?_
  have i2 := i1.s2
  refine l_ri3 (by omega) i2.2.1 (by have := i2.2.2.1; omega) ?_
  have i3 := i2.s3
  refine l_ri4 (by omega) i3.2.1 (by have := i3.2.2.1; omega) ?_
  have i4 := i3.s4
  refine l_ri5 (by omega) i4.2.1 (by have := i4.2.2.1; omega) ?_
  refine l_ri6 (by omega) i4.2.1.new ?_
  obtain ⟨z1, z2, z3, z4⟩ := i4.fin
  exact K _ _ _ z1 z2 z3 z4 (by show σ.1.2 + 6 + 6 + 6 + 6 + 5 = _; omega)
def pl0 : Pl := (0, 0, 0, fun _ => 0, fun _ => 0)
theorem k_planInit (hd : 2 ≤ d) {p : Nat} (ho : zO σ p 3) (hp : σ.1.1 = p + 1) (hN : σ.1.1 < 999980) (K : ∀ σ' f' g', ExB p σ σ' f f' g g' → PO σ' g' p → PC f' p pl0 → RC f' (p + 3) rdI → σ'.1.1 = p + 9 → σ'.1.2 = σ.1.2 + 48 → Q none σ' f' g') : ZCt d 14 [zr (some p)] σ f g Q := by
  refine ZCt.of' (L0 := [_]) (by omega) rfl rfl rfl (fun d hd1 => ?_)
  refine r_aload_n rfl rfl ?_
  refine r_obj rfl rfl ?_
  refine r_aload_n rfl rfl ?_
  refine r_iconst rfl ?_
  refine r_putI rfl ho ?_
  refine r_aload_n rfl rfl ?_
  refine r_iconst rfl ?_
  refine r_putI rfl ho ?_
  refine r_aload_n rfl rfl ?_
  refine r_iconst rfl ?_
  refine r_putI rfl ho ?_
  refine r_aload_n rfl rfl ?_
  refine r_iconst rfl ?_
  refine r_newa rfl (by omega) (by omega) ?_
  refine r_putR rfl ho.new ?_
  refine r_aload_n rfl rfl ?_
  refine r_iconst rfl ?_
  refine r_newa rfl (by omega) (by show σ.1.1 + 1 < 1000000; omega) ?_
  refine r_putR rfl ho.new.new ?_
  refine r_aload_n rfl rfl ?_
  refine r_new rfl (by show σ.1.1 + 1 + 1 < 1000000; omega) ?_
  refine r_dupr rfl ?_
  refine r_callI0 rfl rfl (by show σ.1.1 + 1 + 1 < σ.1.1 + 1 + 1 + 1; omega) rfl (k_roundInit (r := σ.1.1 + 1 + 1) (by omega) (zO_top _ _ _) rfl (by show σ.1.1 + 1 + 1 + 1 < 999990; omega) (fun σ3 f3 g3 hx hro hrc hsz hsl => ?_))
  refine r_putR rfl (ho.new.new.new.exb hx (by omega)) ?_
  refine r_ret rfl ?_
  have hb : ExB p σ σ3 f f3 g (up2 g3 p 5 (some (σ.1.1 + 1 + 1))) := ((((((((((ExB.rf p σ f g).upF (Nat.le_refl p)).upF (Nat.le_refl p)).upF (Nat.le_refl p)).new (t := 100) (n := 5) (by omega)).upG (i := 3) (v := some σ.1.1) (Nat.le_refl p)).new (t := 100) (n := 5) (by show p ≤ σ.1.1 + 1; omega)).upG (i := 4) (v := some (σ.1.1 + 1)) (Nat.le_refl p)).new (t := 5) (n := 9) (by show p ≤ σ.1.1 + 1 + 1; omega)).trans (hx.low (by omega))).upG (Nat.le_refl p)
  have eg : ∀ k i, k < σ.1.1 + 1 + 1 → g3 k i = _ := fun k i hk => congrFun (hx.2 k hk).2.2 i
  have ef : ∀ k i, k < σ.1.1 + 1 + 1 → f3 k i = _ := fun k i hk => congrFun (hx.2 k hk).2.1 i
  have es : ∀ k, k < σ.1.1 + 1 + 1 → σ3.2 k = _ := fun k hk => (hx.2 k hk).1
  have e3 : p + 3 = σ.1.1 + 1 + 1 := by omega
  refine K σ3 f3 _ hb ⟨ho.new.new.new.exb hx (by omega), ⟨?_, ?_⟩, ⟨?_, ?_, ?_⟩, ?_⟩ ⟨?_, ?_, ?_, fun j hj => ⟨?_, ?_⟩⟩ (by rw [e3]; exact hrc) (by omega) ?_
  · rw [show p + 1 = σ.1.1 by omega]
    exact ((zA_top σ 100 5).new.new).exb hx (by omega)
  · rw [show p + 2 = σ.1.1 + 1 by omega]
    exact ((zA_top (zNewS σ 100 5) 100 5).new).exb hx (by show σ.1.1 + 1 < σ.1.1 + 1 + 1; omega)
  · rw [up2_ne _ _ (by omega), eg p 3 (by omega), zG_new (by show p < σ.1.1 + 1 + 1; omega), up2_ne _ _ (by omega), zG_new (by show p < σ.1.1 + 1; omega), up2_same, hp]
  · rw [up2_ne _ _ (by omega), eg p 4 (by omega), zG_new (by show p < σ.1.1 + 1 + 1; omega), up2_same]
    show some (σ.1.1 + 1) = _
    rw [hp]
  · rw [up2_same, e3]
    rfl
  · rw [e3]
    exact hro.frg (fun i => up2_ne _ _ (by omega))
  · rw [ef p 0 (by omega), zF_new (by show p < σ.1.1 + 1 + 1; omega), zF_new (by show p < σ.1.1 + 1; omega), zF_new (by omega)]
    simp [up2, pl0]
  · rw [ef p 1 (by omega), zF_new (by show p < σ.1.1 + 1 + 1; omega), zF_new (by show p < σ.1.1 + 1; omega), zF_new (by omega)]
    simp [up2, pl0]
  · rw [ef p 2 (by omega), zF_new (by show p < σ.1.1 + 1 + 1; omega), zF_new (by show p < σ.1.1 + 1; omega), zF_new (by omega)]
    simp [up2, pl0]
  · rw [ef (p + 1) j (by omega), zF_new (by show p + 1 < σ.1.1 + 1 + 1; omega), zF_new (by show p + 1 < σ.1.1 + 1; omega), show p + 1 = σ.1.1 by omega]
    exact if_pos rfl
  · rw [ef (p + 2) j (by omega), zF_new (by show p + 2 < σ.1.1 + 1 + 1; omega), show p + 2 = σ.1.1 + 1 by omega]
    exact if_pos rfl
  · rw [hsl]
    show σ.1.2 + 5 + 5 + 9 + 29 = _
    omega
end PLAN
