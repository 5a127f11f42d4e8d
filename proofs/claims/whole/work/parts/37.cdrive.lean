/-! The class's STEP -/
def PC (f : ZF) (p : Nat) (pl : Pl) : Prop := f p 0 = pl.1 ∧ f p 1 = pl.2.1 ∧ f p 2 = pl.2.2.1 ∧ ∀ j, j < 5 → f (p + 1) j = pl.2.2.2.1 j ∧ f (p + 2) j = pl.2.2.2.2 j
def RrOk (r : Nat) : Prop := (r + 5 < 22 ∨ 24 < r) ∧ r + 5 < 219
/-- what steps of the class may change -/
def FrC (r : Nat) (f f' : ZF) : Prop := (∀ c, c ≠ 22 → c ≠ 23 → c ≠ 24 → (c < r ∨ r + 5 < c) → f' c = f c) ∧ ∀ i, i ≠ 4 → f' 22 i = f 22 i
theorem FrC.rf (r : Nat) (f : ZF) : FrC r f f := ⟨fun _ _ _ _ _ => rfl, fun _ _ => rfl⟩
theorem FrC.trans {r : Nat} {a b c : ZF} (h1 : FrC r a b) (h2 : FrC r b c) : FrC r a c := ⟨fun k q1 q2 q3 q4 => (h2.1 k q1 q2 q3 q4).trans (h1.1 k q1 q2 q3 q4), fun i q => (h2.2 i q).trans (h1.2 i q)⟩
theorem FrC.r {r : Nat} {f0 f f' : ZF} (hk : RrOk r) (h : FrC r f0 f) (h' : FrR r f f') : FrC r f0 f' := h.trans ⟨fun c q1 q2 q3 q4 => h' c q4, fun i q => congrFun (h' 22 (by unfold RrOk at hk; omega)) i⟩
theorem FrC.st {r : Nat} {f0 f : ZF} {v : Int} (h : FrC r f0 f) : FrC r f0 (up2 f 22 4 v) := h.trans ⟨fun c q1 q2 q3 q4 => up2_o _ _ q1, fun i q => up2_ne _ _ (fun z => q z.2)⟩
theorem FrC.up {r k i : Nat} {f0 f : ZF} {v : Int} (h : FrC r f0 f) (hk : RrOk r) (hk' : r ≤ k ∧ k ≤ r + 5) : FrC r f0 (up2 f k i v) := h.r hk ((FrR.rf r f).up hk')
section CDRIVE
variable {d : Nat} {σ : ZS} {f : ZF} {g : ZG} {Q : ZQ} {n m N : Int} {rd : Rd} {r p : Nat} {pl : Pl} {al : Rd → Nat → Bool} {cl : Int}
theorem PC.fr {f' : ZF} (h : PC f p pl) (hp : 240 ≤ p) (hk : RrOk r) (hf : FrC r f f') : PC f' p pl := by
  unfold PC RrOk at *
  rw [hf.1 p (by omega) (by omega) (by omega) (by omega), hf.1 (p + 1) (by omega) (by omega) (by omega) (by omega), hf.1 (p + 2) (by omega) (by omega) (by omega) (by omega)]
  exact h
theorem RC.st (hk : RrOk r) {v : Int} (h : RC f r rd) : RC (up2 f 22 4 v) r rd := h.fr (fun c q1 q2 => up2_o _ _ (by unfold RrOk at hk; omega))
theorem rCar_dj (hn : pl.1 = n) (ho : RdOk n m N rd) (hdj : RdDj rd) (k : Nat) : RdDj (rCar pl al rd k).1 := by
  unfold rCar
  split
  · exact hdj
  · split
    · split
      · exact hdj.off
      · split
        · rename_i h
          exact (hdj.go h.2).same (fun j _ => rAge0 _ k j)
        · exact hdj.same (fun j _ => rAge0 rd k j)
    · exact hdj.same (fun j _ => rAge0 rd k j)
theorem rCars_dj (hn : pl.1 = n) (ho : RdOk n m N rd) (hdj : RdDj rd) : ∀ k : Nat, k ≤ 6 → N + (k : Int) ≤ 1000000 → RdDj (rCars pl al rd k).1 := by
  intro k
  induction k with
  | zero => intro _ _; exact hdj
  | succ k ih => intro h1 h2; exact rCar_dj hn (rCars_ok (al := al) hn ho k (by omega) (by omega)) (ih (by omega) (by omega)) k
theorem rWait_dj (hdj : RdDj rd) (j : Nat) : RdDj (rWait pl cl rd j) := by
  unfold rWait
  split
  · exact hdj.same (fun k _ => by simp [up2])
  · exact hdj
theorem rCome_dj (hdj : RdDj rd) (j : Nat) : RdDj (rCome pl rd j).1 := by
  unfold rCome
  split
  · exact hdj
  · rename_i h
    have h1 : rFree rd (pl.2.2.2.1 j) := Decidable.of_not_not (fun q => h (Or.inr (Or.inl q)))
    exact (hdj.on (k := rFst rd) (x := rNx pl.2.1 (j : Int)) (y := 20) h1.2).same (fun k _ => by simp [up2])
theorem rRoads_dj (hdj : RdDj rd) : ∀ j : Nat, RdDj (rRoads pl cl rd j).1 := by
  intro j
  induction j with
  | zero => exact hdj
  | succ j ih => exact rCome_dj (rWait_dj ih j) j
theorem rStep_dj (hn : pl.1 = n) (ho : RdOk n m N rd) (hN : N + 7 ≤ 1000000) (hdj : RdDj rd) : RdDj (rStep pl al cl rd).1 :=
  (rRoads_dj (pl := pl) (cl := cl) (rCars_dj (al := al) hn ho hdj 6 (by omega) (by omega)) pl.2.1.toNat).same (fun k _ => by simp [rStep, up2])
/-- nobody waits at a closed road -/
def ClZ (cl : Int) (rd : Rd) : Prop := ∀ j : Nat, (j : Int) = cl → rd 4 j = 0
theorem ClZ.same {rd' : Rd} (h : ClZ cl rd) (e : ∀ j, rd' 4 j = rd 4 j) : ClZ cl rd' := fun j q => by rw [e]; exact h j q
theorem rCar_w (k j : Nat) : (rCar pl al rd k).1 4 j = rd 4 j := by
  unfold rCar
  split
  · rfl
  · split
    · split
      · simp [rOff, up2]
      · split
        · simp [rAge, rGo, up2]
        · simp [rAge, up2]
    · simp [rAge, up2]
theorem rCars_w (j : Nat) : ∀ k, (rCars pl al rd k).1 4 j = rd 4 j := by
  intro k
  induction k with
  | zero => rfl
  | succ k ih => simp only [rCars]; rw [rCar_w, ih]
theorem rRoads_cl (h : ClZ cl rd) : ∀ j : Nat, ClZ cl (rRoads pl cl rd j).1 := by
  intro j
  induction j with
  | zero => exact h
  | succ j ih =>
    intro i hi
    simp only [rRoads]
    have h1 : rWait pl cl (rRoads pl cl rd j).1 j 4 i = 0 := by
      unfold rWait
      split
      · rename_i q
        have : i ≠ j := fun z => q.1 (by rw [← z]; exact hi)
        simp [up2, this]
        exact ih i hi
      · exact ih i hi
    unfold rCome
    split
    · exact h1
    · rename_i q
      by_cases e : i = j
      · subst e
        exact absurd (Or.inl h1) q
      · simp [up2, rOn, e]
        exact h1
theorem rStep_cl (h : ClZ cl rd) : ClZ cl (rStep pl al cl rd).1 := (rRoads_cl (pl := pl) (h.same (fun j => rCars_w (pl := pl) (al := al) j 6)) pl.2.1.toNat).same (fun j => by simp [rStep, up2])
theorem rCome_cl {j : Nat} (h : rd 4 j = 0) : rCome pl rd j = (rd, false) := by
  unfold rCome
  rw [if_pos (Or.inl h)]
theorem rWait_cl {j : Nat} (h : (j : Int) = cl) : rWait pl cl rd j = rd := by
  unfold rWait
  rw [if_neg (fun q => q.1 h)]
theorem k_isAt (hd : 1 ≤ d) (hk' : RrOk r) (hr : RO σ g r) (hO : zO σ 22 0) (hgp : g 22 0 = some p) (hpO : PO σ g p) (hp : 240 ≤ p) (hpc : PC f p pl) (hpl : PlOk pl) (hn : pl.1 = n) (hm : pl.2.1 = m) (h : RC f r rd) (ho : RdOk n m N rd) {k : Nat} (hk : k < 6) (k1 : 0 ≤ rd 0 k → pl.2.2.2.1 (rd 1 k).toNat = rd 0 k → Q (some (zi 1)) σ f g) (k2 : ¬ (0 ≤ rd 0 k ∧ pl.2.2.2.1 (rd 1 k).toNat = rd 0 k) → Q (some (zi 0)) σ f g) : ZCt d 63 [zr (some 22), zr (some r), zi (k : Int)] σ f g Q := by
  refine ZCt.of' (L0 := [_, _, _, _]) (by omega) rfl rfl rfl (fun d hd1 => ?_)
  have hr' := hr
  obtain ⟨oo, ⟨a1, a2, a3, a4, a5⟩, g0, g1, g2, g3, g4⟩ := hr
  have hpo' := hpO
  obtain ⟨po, ⟨pa1, pa2⟩, ⟨pg3, pg4, pg5⟩, -⟩ := hpO
  have hc := h.1 k hk
  have hok := ho.2.2.1 k hk
  have ho1 := ho.1
  have ho2 := ho.2.1
  refine r_aload_n rfl rfl ?_
  refine r_getR rfl (by first | assumption | exact hs.o rfl) (by first | assumption | exact hs.g rfl) ?_
  refine r_iload_n rfl rfl ?_
  refine r_iald rfl (by first | assumption | exact hs.a rfl) (by omega) (by omega) ((zix (n := k) (by omega)).trans hc.2.1) ?_
  refine r_istore_n (L' := [_, _, _, _]) rfl rfl rfl ?_
  refine r_aload_n rfl rfl ?_
  refine r_getR rfl (by first | assumption | exact hs.o rfl) (by first | assumption | exact hs.g rfl) ?_
  refine r_ifnullS rfl ?_
  refine r_iload_n rfl rfl ?_
  refine r_if_lt rfl (by omega) (fun hlt => ?_) (fun hlt => ?_)
  · refine r_iconst rfl ?_
    refine r_zret rfl (by omega) ?_
    exact k2 (by omega)
  · refine r_iload_n rfl rfl ?_
    refine r_aload_n rfl rfl ?_
    refine r_getR rfl (by first | assumption | exact hs.o rfl) (by first | assumption | exact hs.g rfl) ?_
    refine r_getI rfl (by first | assumption | exact hs.o rfl) hpc.2.1 ?_
    refine r_icmp_ge rfl (by omega) (by omega) (fun hlm => ?_) (fun hlm => ?_)
    · refine r_iconst rfl ?_
      refine r_zret rfl (by omega) ?_
      exact k2 (by omega)
    · refine r_aload_n rfl rfl ?_
      refine r_getR rfl (by first | assumption | exact hs.o rfl) (by first | assumption | exact hs.g rfl) ?_
      refine r_getR rfl (by first | assumption | exact hs.o rfl) (by first | assumption | exact hs.g rfl) ?_
      refine r_iload_n rfl rfl ?_
      refine r_iald rfl (by first | assumption | exact hs.a rfl) (by omega) (by omega) ((zix (n := (rd 1 k).toNat) (by omega)).trans (hpc.2.2.2 (rd 1 k).toNat (by omega)).1) ?_
      refine r_aload_n rfl rfl ?_
      refine r_getR rfl (by first | assumption | exact hs.o rfl) (by first | assumption | exact hs.g rfl) ?_
      refine r_iload_n rfl rfl ?_
      refine r_iald rfl (by first | assumption | exact hs.a rfl) (by omega) (by omega) ((zix (n := k) (by omega)).trans hc.1) ?_
      refine r_icmp_ne rfl (by have := hpl.2.2.2 (rd 1 k).toNat (by omega); omega) (by omega) (fun he => ?_) (fun he => ?_)
      · refine r_iconst rfl ?_
        refine r_zret rfl (by omega) ?_
        exact k2 (by omega)
      · refine r_iconst rfl ?_
        refine r_goto rfl ?_
        refine r_zret rfl (by omega) ?_
        exact k1 (by omega) (by omega)
/-- what goesOff answers, whatever decides it -/
def ALc (dd : Nat) (σ : ZS) (g : ZG) (E : ZF → Prop) (p : Nat) (pl : Pl) (al : Rd → Nat → Bool) : Prop := ∀ (d : Nat) (f : ZF) (rd : Rd) (N : Int) (k r : Nat) (Q : ZQ), dd ≤ d → k < 6 → RrOk r → RO σ g r → E f → PC f p pl → RC f r rd → RdOk pl.1 pl.2.1 N rd → RdDj rd → 0 ≤ rd 0 k →
  (∀ f', FrC r f f' → (∀ c, r ≤ c → c ≤ r + 5 → f' c = f c) → f' 22 4 = f 22 4 → ((pl.2.2.2.1 (rd 1 k).toNat = rd 0 k ∧ al rd k = true) → Q (some (zi 1)) σ f' g) ∧ (¬ (pl.2.2.2.1 (rd 1 k).toNat = rd 0 k ∧ al rd k = true) → Q (some (zi 0)) σ f' g)) → ZCt d 62 [zr (some 22), zr (some r), zi (k : Int)] σ f g Q
theorem k_goOnIf (hd : 2 ≤ d) (hk' : RrOk r) (hr : RO σ g r) (hO : zO σ 22 0) (hgp : g 22 0 = some p) (hpO : PO σ g p) (hp : 240 ≤ p) (hpc : PC f p pl) (hpl : PlOk pl) (hn : pl.1 = n) (hm : pl.2.1 = m) (h : RC f r rd) (ho : RdOk n m N rd) (hdj : RdDj rd) {k : Nat} (hk : k < 6) (h0 : 0 ≤ rd 0 k) (k1 : 0 < rd 2 k ∧ rFree rd (rNx pl.1 (rd 0 k)) → ∀ f', FrC r f f' → RC f' r (rGo rd k (rNx pl.1 (rd 0 k))) → f' 22 4 = 1 → Q none σ f' g) (k2 : ¬ (0 < rd 2 k ∧ rFree rd (rNx pl.1 (rd 0 k))) → Q none σ f g) : ZCt d 71 [zr (some 22), zr (some r), zi (k : Int)] σ f g Q := by
  refine ZCt.of' (L0 := [_, _, _, _]) (by omega) rfl rfl rfl (fun d hd1 => ?_)
  have hr' := hr
  obtain ⟨oo, ⟨a1, a2, a3, a4, a5⟩, g0, g1, g2, g3, g4⟩ := hr
  have hpo' := hpO
  obtain ⟨po, ⟨pa1, pa2⟩, ⟨pg3, pg4, pg5⟩, -⟩ := hpO
  have hc := h.1 k hk
  have hok := ho.2.2.1 k hk
  have ho1 := ho.1
  have ho2 := ho.2.1
  have hnx := rNx_rng (n := pl.1) (c := rd 0 k) (by omega)
  have step2 : ZWp d zt71 30 [zr (some 22), zr (some r), zi (k : Int), zu] [zi (rNx pl.1 (rd 0 k))] σ f g Q := by
    refine r_istore_n (L' := [_, _, _, _]) rfl rfl rfl ?_
    refine r_aload_n rfl rfl ?_
    refine r_getR rfl (by first | assumption | exact hs.o rfl) (by first | assumption | exact hs.g rfl) ?_
    refine r_iload_n rfl rfl ?_
    refine r_iald rfl (by first | assumption | exact hs.a rfl) (by omega) (by omega) ((zix (n := k) (by omega)).trans hc.2.2.1) ?_
    refine r_if_le rfl (by omega) (fun hfu => ?_) (fun hfu => ?_)
    · refine r_ret rfl ?_
      exact k2 (fun q => by omega)
    · refine r_aload_n rfl rfl ?_
      refine r_iload_n rfl rfl ?_
      refine r_callV1 rfl rfl (by first | assumption | exact hs.o rfl) rfl (k_isFree (by omega) hr' h ho (by omega) (fun hfree => ?_) (fun hfree => ?_))
      · refine r_if_n rfl (by decide) ?_
        refine r_aload_n rfl rfl ?_
        refine r_iload_n rfl rfl ?_
        refine r_iload_n rfl rfl ?_
        refine r_callV2 rfl rfl (by first | assumption | exact hs.o rfl) rfl (k_goOn (by omega) hr' h hk (by omega) hdj (by omega) (fun f1 hf1 hc1 => ?_))
        refine r_aload_n rfl rfl ?_
        refine r_iconst rfl ?_
        refine r_putZ rfl (by first | assumption | exact hs.o rfl) (by omega) ?_
        refine r_ret rfl ?_
        exact k1 ⟨by omega, hfree⟩ _ (((FrC.rf r f).r hk' hf1).st) (hc1.st hk') (up2_same _ _ _ _)
      · refine r_if_y rfl (by decide) ?_
        refine r_ret rfl ?_
        exact k2 (fun q => hfree q.2)
  refine r_aload_n rfl rfl ?_
  refine r_getR rfl (by first | assumption | exact hs.o rfl) (by first | assumption | exact hs.g rfl) ?_
  refine r_iload_n rfl rfl ?_
  refine r_iald rfl (by first | assumption | exact hs.a rfl) (by omega) (by omega) ((zix (n := k) (by omega)).trans hc.1) ?_
  refine r_iconst rfl ?_
  refine r_iadd rfl ?_
  refine r_aload_n rfl rfl ?_
  refine r_getR rfl (by first | assumption | exact hs.o rfl) (by first | assumption | exact hs.g rfl) ?_
  refine r_getI rfl (by first | assumption | exact hs.o rfl) hpc.1 ?_
  refine r_icmp_lt rfl (by omega) (by omega) (fun hx => ?_) (fun hx => ?_)
  · refine r_aload_n rfl rfl ?_
    refine r_getR rfl (by first | assumption | exact hs.o rfl) (by first | assumption | exact hs.g rfl) ?_
    refine r_iload_n rfl rfl ?_
    refine r_iald rfl (by first | assumption | exact hs.a rfl) (by omega) (by omega) ((zix (n := k) (by omega)).trans hc.1) ?_
    refine r_iconst rfl ?_
    refine r_iadd rfl ?_
    (have e := step2; unfold rNx at e; first | (rw [if_neg (by omega)] at e; exact e) | (rw [if_pos (by omega)] at e; exact e))
  · refine r_iconst rfl ?_
    refine r_goto rfl ?_
    (have e := step2; unfold rNx at e; first | (rw [if_neg (by omega)] at e; exact e) | (rw [if_pos (by omega)] at e; exact e))
theorem k_come2 (hd : 1 ≤ d) (hk' : RrOk r) (hr : RO σ g r) (hO : zO σ 22 0) (hgp : g 22 0 = some p) (hpO : PO σ g p) (hp : 240 ≤ p) (hpc : PC f p pl) (hpl : PlOk pl) (hn : pl.1 = n) (hm : pl.2.1 = m) (h : RC f r rd) (ho : RdOk n m N rd) (hdj : RdDj rd) {j : Nat} (hj : (j : Int) < m) {ev : Int} (K : ∀ f', FrC r f f' → RC f' r (rCome pl rd j).1 → (f' 22 4 = if (rCome pl rd j).2 = true then 1 else f 22 4) → Q none σ f' g) : ZWp d zt74 44 [zr (some 22), zr (some r), zi (j : Int), zi ev, zu, zu] [] σ f g Q := by
  have hr' := hr
  obtain ⟨oo, ⟨a1, a2, a3, a4, a5⟩, g0, g1, g2, g3, g4⟩ := hr
  have hpo' := hpO
  obtain ⟨po, ⟨pa1, pa2⟩, ⟨pg3, pg4, pg5⟩, -⟩ := hpO
  have ho1 := ho.1
  have ho2 := ho.2.1
  have hw := h.2.1 j (by omega)
  have hw2 := ho.2.2.2.1 j (by omega)
  have hrc := hpc.2.2.2 j (by omega)
  have hpj := hpl.2.2.2 j (by omega)
  have hnx := rNx_rng (n := pl.2.1) (c := (j : Int)) (by omega)
  have no : (rd 4 j = 0 ∨ ¬ rFree rd (pl.2.2.2.1 j) ∨ rOns rd 6 = 6) → Q none σ f g := by
    intro q
    have e : rCome pl rd j = (rd, false) := by unfold rCome; rw [if_pos q]
    exact K f (FrC.rf r f) (by rw [e]; exact h) (by rw [e]; simp)
  have step2 : ∀ k : Nat, k < 6 → rd 0 k = -1 → (∀ t, t < k → rd 0 t ≠ -1) → rd 4 j ≠ 0 → rFree rd (pl.2.2.2.1 j) → ZWp d zt74 101 [zr (some 22), zr (some r), zi (j : Int), zi ev, zi (k : Int), zu] [zi (rNx pl.2.1 (j : Int))] σ f g Q := by
    intro k hk hk0 hkf hwz hfree
    have hok := ho.2.2.1 k hk
    refine r_istore (L' := [_, _, _, _, _, _]) rfl rfl rfl ?_
    refine r_aload_n rfl rfl ?_
    refine r_iload rfl rfl ?_
    refine r_aload_n rfl rfl ?_
    refine r_getR rfl (by first | assumption | exact hs.o rfl) (by first | assumption | exact hs.g rfl) ?_
    refine r_getR rfl (by first | assumption | exact hs.o rfl) (by first | assumption | exact hs.g rfl) ?_
    refine r_iload_n rfl rfl ?_
    refine r_iald rfl (by first | assumption | exact hs.a rfl) (by omega) (by omega) ((zix (n := j) (by omega)).trans hrc.1) ?_
    refine r_iload rfl rfl ?_
    refine r_bipush rfl ?_
    refine r_callV4 rfl rfl (by first | assumption | exact hs.o rfl) rfl (k_comeOn (by omega) hr' h hk hk0 (by omega) (by omega) (fun f1 hf1 hc1 => ?_))
    have hw1 := hc1.2.1 j (by omega)
    have hw3 : rOn rd k (pl.2.2.2.1 j) (rNx pl.2.1 (j : Int)) 20 4 j = rd 4 j := by simp [rOn, up2]
    refine r_aload_n rfl rfl ?_
    refine r_getR rfl (by first | assumption | exact hs.o rfl) (by first | assumption | exact hs.g rfl) ?_
    refine r_iload_n rfl rfl ?_
    refine r_dup2 rfl ?_
    refine r_iald rfl (by first | assumption | exact hs.a rfl) (by omega) (by omega) ((zix (n := j) (by omega)).trans hw1) ?_
    refine r_iconst rfl ?_
    refine r_isub rfl ?_
    refine r_iastN (j) rfl (by first | assumption | exact hs.a rfl) (by omega) (by omega) (by omega) ?_
    refine r_aload_n rfl rfl ?_
    refine r_iconst rfl ?_
    refine r_putZ rfl (by first | assumption | exact hs.o rfl) (by omega) ?_
    refine r_ret rfl ?_
    have e : rCome pl rd j = (up2 (rOn rd (rFst rd) (pl.2.2.2.1 j) (rNx pl.2.1 (j : Int)) 20) 4 j (rd 4 j - 1), true) := by
      unfold rCome
      rw [if_neg (fun q => by rcases q with q | q | q; exact hwz q; exact q hfree; exact rOns_all 6 q k hk hk0)]
    rw [hw3]
    refine K _ (((((FrC.rf r f).r hk' hf1).up hk' (by omega))).st) ?_ ?_
    · rw [e, rFst_eq hk hk0 hkf]
      exact (hc1.w (by omega)).st hk'
    · rw [e, up2_same]; rfl
  refine r_aload_n rfl rfl ?_
  refine r_callV0 rfl rfl (by first | assumption | exact hs.o rfl) rfl (k_firstNotOn (by omega) hr' h ho (fun k hk hk0 hkf => ?_) (fun hall => ?_))
  · refine r_istore (L' := [_, _, _, _, _, _]) rfl rfl rfl ?_
    refine r_aload_n rfl rfl ?_
    refine r_getR rfl (by first | assumption | exact hs.o rfl) (by first | assumption | exact hs.g rfl) ?_
    refine r_iload_n rfl rfl ?_
    refine r_iald rfl (by first | assumption | exact hs.a rfl) (by omega) (by omega) ((zix (n := j) (by omega)).trans hw) ?_
    refine r_if_le rfl (by omega) (fun hwz => ?_) (fun hwz => ?_)
    · refine r_ret rfl ?_
      first | exact no (Or.inl (by omega)) | exact no (Or.inr (Or.inl hfree)) | exact no (Or.inr (Or.inr (rOns_of 6 hall))) | (exfalso; omega)
    · refine r_aload_n rfl rfl ?_
      refine r_aload_n rfl rfl ?_
      refine r_getR rfl (by first | assumption | exact hs.o rfl) (by first | assumption | exact hs.g rfl) ?_
      refine r_getR rfl (by first | assumption | exact hs.o rfl) (by first | assumption | exact hs.g rfl) ?_
      refine r_iload_n rfl rfl ?_
      refine r_iald rfl (by first | assumption | exact hs.a rfl) (by omega) (by omega) ((zix (n := j) (by omega)).trans hrc.1) ?_
      refine r_callV1 rfl rfl (by first | assumption | exact hs.o rfl) rfl (k_isFree (by omega) hr' h ho (by omega) (fun hfree => ?_) (fun hfree => ?_))
      · refine r_if_n rfl (by decide) ?_
        refine r_iload rfl rfl ?_
        refine r_iconst rfl ?_
        refine r_icmp_eq rfl (by omega) (by omega) (fun hkn => ?_) (fun hkn => ?_)
        · refine r_ret rfl ?_
          first | exact no (Or.inl (by omega)) | exact no (Or.inr (Or.inl hfree)) | exact no (Or.inr (Or.inr (rOns_of 6 hall))) | (exfalso; omega)
        · refine r_iload_n rfl rfl ?_
          refine r_iconst rfl ?_
          refine r_iadd rfl ?_
          refine r_aload_n rfl rfl ?_
          refine r_getR rfl (by first | assumption | exact hs.o rfl) (by first | assumption | exact hs.g rfl) ?_
          refine r_getI rfl (by first | assumption | exact hs.o rfl) hpc.2.1 ?_
          refine r_icmp_lt rfl (by omega) (by omega) (fun hx => ?_) (fun hx => ?_)
          · refine r_iload_n rfl rfl ?_
            refine r_iconst rfl ?_
            refine r_iadd rfl ?_
            first | (have e := step2 k hk hk0 hkf (by omega) hfree; unfold rNx at e; first | (rw [if_neg (by omega)] at e; exact e) | (rw [if_pos (by omega)] at e; exact e)) | (exfalso; omega)
          · refine r_iconst rfl ?_
            refine r_goto rfl ?_
            first | (have e := step2 k hk hk0 hkf (by omega) hfree; unfold rNx at e; first | (rw [if_neg (by omega)] at e; exact e) | (rw [if_pos (by omega)] at e; exact e)) | (exfalso; omega)
      · refine r_if_y rfl (by decide) ?_
        refine r_ret rfl ?_
        first | exact no (Or.inl (by omega)) | exact no (Or.inr (Or.inl hfree)) | exact no (Or.inr (Or.inr (rOns_of 6 hall))) | (exfalso; omega)
  · refine r_istore (L' := [_, _, _, _, _, _]) rfl rfl rfl ?_
    refine r_aload_n rfl rfl ?_
    refine r_getR rfl (by first | assumption | exact hs.o rfl) (by first | assumption | exact hs.g rfl) ?_
    refine r_iload_n rfl rfl ?_
    refine r_iald rfl (by first | assumption | exact hs.a rfl) (by omega) (by omega) ((zix (n := j) (by omega)).trans hw) ?_
    refine r_if_le rfl (by omega) (fun hwz => ?_) (fun hwz => ?_)
    · refine r_ret rfl ?_
      first | exact no (Or.inl (by omega)) | exact no (Or.inr (Or.inl hfree)) | exact no (Or.inr (Or.inr (rOns_of 6 hall))) | (exfalso; omega)
    · refine r_aload_n rfl rfl ?_
      refine r_aload_n rfl rfl ?_
      refine r_getR rfl (by first | assumption | exact hs.o rfl) (by first | assumption | exact hs.g rfl) ?_
      refine r_getR rfl (by first | assumption | exact hs.o rfl) (by first | assumption | exact hs.g rfl) ?_
      refine r_iload_n rfl rfl ?_
      refine r_iald rfl (by first | assumption | exact hs.a rfl) (by omega) (by omega) ((zix (n := j) (by omega)).trans hrc.1) ?_
      refine r_callV1 rfl rfl (by first | assumption | exact hs.o rfl) rfl (k_isFree (by omega) hr' h ho (by omega) (fun hfree => ?_) (fun hfree => ?_))
      · refine r_if_n rfl (by decide) ?_
        refine r_iload rfl rfl ?_
        refine r_iconst rfl ?_
        refine r_icmp_eq rfl (by omega) (by omega) (fun hkn => ?_) (fun hkn => ?_)
        · refine r_ret rfl ?_
          first | exact no (Or.inl (by omega)) | exact no (Or.inr (Or.inl hfree)) | exact no (Or.inr (Or.inr (rOns_of 6 hall))) | (exfalso; omega)
        · refine r_iload_n rfl rfl ?_
          refine r_iconst rfl ?_
          refine r_iadd rfl ?_
          refine r_aload_n rfl rfl ?_
          refine r_getR rfl (by first | assumption | exact hs.o rfl) (by first | assumption | exact hs.g rfl) ?_
          refine r_getI rfl (by first | assumption | exact hs.o rfl) hpc.2.1 ?_
          refine r_icmp_lt rfl (by omega) (by omega) (fun hx => ?_) (fun hx => ?_)
          · refine r_iload_n rfl rfl ?_
            refine r_iconst rfl ?_
            refine r_iadd rfl ?_
            first | (have e := step2 k hk hk0 hkf (by omega) hfree; unfold rNx at e; first | (rw [if_neg (by omega)] at e; exact e) | (rw [if_pos (by omega)] at e; exact e)) | (exfalso; omega)
          · refine r_iconst rfl ?_
            refine r_goto rfl ?_
            first | (have e := step2 k hk hk0 hkf (by omega) hfree; unfold rNx at e; first | (rw [if_neg (by omega)] at e; exact e) | (rw [if_pos (by omega)] at e; exact e)) | (exfalso; omega)
      · refine r_if_y rfl (by decide) ?_
        refine r_ret rfl ?_
        first | exact no (Or.inl (by omega)) | exact no (Or.inr (Or.inl hfree)) | exact no (Or.inr (Or.inr (rOns_of 6 hall))) | (exfalso; omega)
theorem k_letCome (hd : 2 ≤ d) (hk' : RrOk r) (hr : RO σ g r) (hO : zO σ 22 0) (hgp : g 22 0 = some p) (hpO : PO σ g p) (hp : 240 ≤ p) (hpc : PC f p pl) (hpl : PlOk pl) (hn : pl.1 = n) (hm : pl.2.1 = m) (h : RC f r rd) (ho : RdOk n m N rd) (hdj : RdDj rd) {j : Nat} (hj : (j : Int) < m) (hcl : (j : Int) ≠ cl) (K : ∀ f', FrC r f f' → RC f' r (rCome pl (rWait pl cl rd j) j).1 → (f' 22 4 = if (rCome pl (rWait pl cl rd j) j).2 = true then 1 else f 22 4) → Q none σ f' g) : ZCt d 74 [zr (some 22), zr (some r), zi (j : Int)] σ f g Q := by
  refine ZCt.of' (L0 := [_, _, _, _, _, _]) (by omega) rfl rfl rfl (fun d hd1 => ?_)
  have hr' := hr
  obtain ⟨oo, ⟨a1, a2, a3, a4, a5⟩, g0, g1, g2, g3, g4⟩ := hr
  have hpo' := hpO
  obtain ⟨po, ⟨pa1, pa2⟩, ⟨pg3, pg4, pg5⟩, -⟩ := hpO
  have ho1 := ho.1
  have ho2 := ho.2.1
  have hw := h.2.1 j (by omega)
  have hw2 := ho.2.2.2.1 j (by omega)
  have hrc := hpc.2.2.2 j (by omega)
  have hpj := hpl.2.2.2 j (by omega)
  have h10 := ho.2.2.2.2.2.1
  have h10b := ho.2.2.2.2.2.2.2
  refine r_aload_n rfl rfl ?_
  refine r_getR rfl (by first | assumption | exact hs.o rfl) (by first | assumption | exact hs.g rfl) ?_
  refine r_getR rfl (by first | assumption | exact hs.o rfl) (by first | assumption | exact hs.g rfl) ?_
  refine r_iload_n rfl rfl ?_
  refine r_iald rfl (by first | assumption | exact hs.a rfl) (by omega) (by omega) ((zix (n := j) (by omega)).trans hrc.2) ?_
  refine r_istore_n (L' := [_, _, _, _, _, _]) rfl rfl rfl ?_
  refine r_iload_n rfl rfl ?_
  refine r_if_le rfl (by omega) (fun hev => ?_) (fun hev => ?_)
  · have e : rWait pl cl rd j = rd := by unfold rWait; rw [if_neg (fun q => by have := q.2.1; have := q.2.2; omega)]
    rw [e] at K
    exact k_come2 (by omega) hk' hr' hO hgp hpo' hp hpc hpl hn hm h ho hdj hj K
  · refine r_aload_n rfl rfl ?_
    refine r_getI rfl (by first | assumption | exact hs.o rfl) h.2.2.1 ?_
    refine r_iload_n rfl rfl ?_
    refine r_irem rfl (by omega) (by omega) (by omega) ?_
    refine r_if_ne rfl (by have := tm_rng (x := rd 5 0) (y := pl.2.2.2.2 j) (by omega) (by omega); omega) (fun hz => ?_) (fun hz => ?_)
    · have e : rWait pl cl rd j = rd := by unfold rWait; rw [if_neg (fun q => hz q.2.1)]
      rw [e] at K
      exact k_come2 (by omega) hk' hr' hO hgp hpo' hp hpc hpl hn hm h ho hdj hj K
    · refine r_aload_n rfl rfl ?_
      refine r_getR rfl (by first | assumption | exact hs.o rfl) (by first | assumption | exact hs.g rfl) ?_
      refine r_iload_n rfl rfl ?_
      refine r_iald rfl (by first | assumption | exact hs.a rfl) (by omega) (by omega) ((zix (n := j) (by omega)).trans hw) ?_
      refine r_bipush rfl ?_
      refine r_icmp_ge rfl (by omega) (by omega) (fun h99 => ?_) (fun h99 => ?_)
      · have e : rWait pl cl rd j = rd := by unfold rWait; rw [if_neg (fun q => by have := q.2.1; have := q.2.2; omega)]
        rw [e] at K
        exact k_come2 (by omega) hk' hr' hO hgp hpo' hp hpc hpl hn hm h ho hdj hj K
      · refine r_aload_n rfl rfl ?_
        refine r_getR rfl (by first | assumption | exact hs.o rfl) (by first | assumption | exact hs.g rfl) ?_
        refine r_iload_n rfl rfl ?_
        refine r_dup2 rfl ?_
        refine r_iald rfl (by first | assumption | exact hs.a rfl) (by omega) (by omega) ((zix (n := j) (by omega)).trans hw) ?_
        refine r_iconst rfl ?_
        refine r_iadd rfl ?_
        refine r_iastN (j) rfl (by first | assumption | exact hs.a rfl) (by omega) (by omega) (by omega) ?_
        have e : rWait pl cl rd j = up2 rd 4 j (rd 4 j + 1) := by unfold rWait; rw [if_pos ⟨hcl, hz, by omega⟩]
        rw [e] at K
        refine k_come2 (by omega) hk' hr' hO hgp hpo' hp (hpc.fr hp hk' ((FrC.rf r f).up hk' (by omega))) hpl hn hm (h.w (by omega)) (ho.w (by omega) (by omega)) (hdj.same (fun k _ => by simp [up2])) hj ?_
        intro f1 hf1 hc1 hv1
        exact K f1 (((FrC.rf r f).up hk' (by omega)).trans hf1) hc1 (by rw [hv1, up2_o _ _ (by unfold RrOk at hk'; omega)])
end CDRIVE
