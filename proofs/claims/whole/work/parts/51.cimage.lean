/-! Images and the tape: the class -/
theorem zcpy_o {f : ZF} {a0 a sp dp n c : Nat} (h : c ≠ a) : zcpy f a0 a sp dp n c = f c := by
  funext j
  unfold zcpy
  rw [if_neg (fun q => h q.1)]
theorem zcpy_at {f : ZF} {a0 a n j : Nat} (h : j < n) : zcpy f a0 a 0 0 n a j = f a0 j := by
  unfold zcpy
  rw [if_pos ⟨rfl, by omega, by omega⟩, show 0 + (j - 0) = j by omega]
section CIMAGE
variable {d : Nat} {σ : ZS} {f f' : ZF} {g g' : ZG} {Q : ZQ} {N : Int} {rd : Rd} {pl : Pl} {rd0 : Rd} {a : AS}
theorem CI.img (h : CI σ f g a) {k : Nat} (hk : k < 4) (hf : ∀ c, ¬ (55 + 11 * k ≤ c ∧ c ≤ 65 + 11 * k) → f' c = f c) (hg : ∀ c i, ¬ (c = 55 + 11 * k ∧ i = 1) → g' c i = g c i) (hsh : Sh σ g') {w : AW} {fo x : Int} (h0 : f' (55 + 11 * k) 0 = 1) (hw : CW σ f' g' (g' (55 + 11 * k) 1) (56 + 11 * k) (62 + 11 * k) w) (h2 : f' (55 + 11 * k) 2 = fo) (h3 : f' (55 + 11 * k) 3 = x) : CI σ f' g' (a.sIm (fun i => if i = k then some (w, fo, x) else a.im i)) := by
  obtain ⟨k1, k2, k3, k4, k5, k6, k7, k8, k9, k10, ⟨u, k11, k12, k13⟩, k14⟩ := h
  have e0 := hf 0 (by omega)
  have e1 := hf 1 (by omega)
  refine ⟨hsh, by rw [e0]; exact k2, by rw [e1]; exact k3, by rw [e1]; exact k4, by rw [e0]; exact k5, fun i hi => ?_, ?_, by rw [e0]; exact k8, by rw [e0]; exact k9, by rw [e0]; exact k10, ⟨u, k11, by rw [e0]; exact k12, fun i hi => ?_⟩, fun j hj => ?_⟩
  · obtain ⟨q, c, q1, q2, q3, q4⟩ := k6 i hi
    exact ⟨q, c, by rw [hg 2 i (by omega)]; exact q1, q2, q3.frg (fun j => hg _ _ (by omega)), by rw [hf c (by have := q3.c240; omega)]; exact q4⟩
  · rw [hg 0 4 (by omega)]
    exact k7.fr (fun c q => hf c (by omega)) (fun c i q => hg _ _ (by omega))
  · exact (k13 i hi).fr (fun c q1 q2 => hf c (by omega))
  · show (match (if j = k then some (w, fo, x) else a.im j) with
      | none => f' (55 + 11 * j) 0 = 0
      | some (w, fo, x) => f' (55 + 11 * j) 0 = 1 ∧ CW σ f' g' (g' (55 + 11 * j) 1) (56 + 11 * j) (62 + 11 * j) w ∧ f' (55 + 11 * j) 2 = fo ∧ f' (55 + 11 * j) 3 = x)
    by_cases e : j = k
    · subst e
      rw [if_pos rfl]
      exact ⟨h0, hw, h2, h3⟩
    · rw [if_neg e]
      have := k14 j hj
      cases hi : a.im j with
      | none => rw [hi] at this; simp only at this ⊢; rw [hf _ (by omega)]; exact this
      | some x =>
        obtain ⟨w, fo, x⟩ := x
        rw [hi] at this
        obtain ⟨q1, q2, q3, q4⟩ := this
        simp only
        rw [hf (55 + 11 * j) (by omega), hg (55 + 11 * j) 1 (by omega)]
        exact ⟨q1, q2.fr (fun c q => hf c (by omega)) (fun c i q => hg _ _ (by omega)), q3, q4⟩
theorem CI.bck (h : CI σ f g a) (hf : ∀ c, c ≠ 0 → ¬ (3 ≤ c ∧ c ≤ 12) → f' c = f c) (hg : ∀ c i, ¬ (c = 0 ∧ i = 4) → g' c i = g c i) (hsh : Sh σ g') {w : AW} {fo x : Int} (h0 : ∀ i, i = 1 ∨ i = 3 ∨ i = 12 → f' 0 i = f 0 i) (hw : CW σ f' g' (g' 0 4) 3 9 w) (h6 : f' 0 6 = fo) (h7 : f' 0 7 = x) (h11 : f' 0 11 = 0) : CI σ f' g' (backTo a w fo x) := by
  obtain ⟨k1, k2, k3, k4, k5, k6, k7, k8, k9, k10, ⟨u, k11, k12, k13⟩, k14⟩ := h
  have e1 := hf 1 (by omega) (by omega)
  refine ⟨hsh, by rw [h0 1 (by omega)]; exact k2, by rw [e1]; exact k3, by rw [e1]; exact k4, by rw [h0 3 (by omega)]; exact k5, fun i hi => ?_, hw, h6, h7, h11, ⟨u, k11, by rw [h0 12 (by omega)]; exact k12, fun i hi => absurd hi (Nat.not_lt_zero i)⟩, fun j hj => ?_⟩
  · obtain ⟨q, c, q1, q2, q3, q4⟩ := k6 i hi
    exact ⟨q, c, by rw [hg 2 i (by omega)]; exact q1, q2, q3.frg (fun j => hg _ _ (by omega)), by rw [hf c (by have := q3.c240; omega) (by have := q3.c240; omega)]; exact q4⟩
  · show (match a.im j with
      | none => f' (55 + 11 * j) 0 = 0
      | some (w, fo, x) => f' (55 + 11 * j) 0 = 1 ∧ CW σ f' g' (g' (55 + 11 * j) 1) (56 + 11 * j) (62 + 11 * j) w ∧ f' (55 + 11 * j) 2 = fo ∧ f' (55 + 11 * j) 3 = x)
    have := k14 j hj
    cases hi : a.im j with
    | none => rw [hi] at this; simp only at this ⊢; rw [hf _ (by omega) (by omega)]; exact this
    | some x =>
      obtain ⟨w, fo, x⟩ := x
      rw [hi] at this
      obtain ⟨q1, q2, q3, q4⟩ := this
      simp only
      rw [hf (55 + 11 * j) (by omega) (by omega), hg (55 + 11 * j) 1 (by omega)]
      exact ⟨q1, q2.fr (fun c q => hf c (by omega) (by omega)) (fun c i q => hg _ _ (by omega)), q3, q4⟩
/-- a world laid elsewhere -/
theorem CW.cpy {gp : Option Nat} {r t r' t' : Nat} {w : AW} (h : CW σ f g gp r t w) (hf : ∀ c, 240 ≤ c → f' c = f c) (hg : ∀ c i, 240 ≤ c → g' c i = g c i) (hr : RC f' r' w.rd) (h0 : f' t' 0 = f t 0) (hn : ∀ i, i < 10 → f' (t' + 1) i = f (t + 1) i ∧ f' (t' + 2) i = f (t + 2) i ∧ f' (t' + 3) i = f (t + 3) i) (hns : w.ns ≤ 10) : CW σ f' g' gp r' t' w := by
  obtain ⟨h1, h2, h3, h4⟩ := h
  refine ⟨?_, hr, h0.trans h3, fun i hi => ?_⟩
  · cases hp : w.pn with
    | none => rw [hp] at h1; exact h1
    | some x =>
      obtain ⟨pl, rd0⟩ := x
      rw [hp] at h1
      obtain ⟨p, q1, q2, q3, q4, q5⟩ := h1
      refine ⟨p, q1, q2, q3.frg (fun i => hg _ _ (by omega)) (fun i => hg _ _ (by omega)), ?_, q5.fr (fun c q1 q2 => hf c (by omega))⟩
      unfold PC at *
      rw [hf p (by omega), hf (p + 1) (by omega), hf (p + 2) (by omega)]
      exact q4
  · have := hn i (by omega)
    rw [this.1, this.2.1, this.2.2]
    exact h4 i hi
theorem k_copyNotes (hd : 1 ≤ d) {t t0 : Nat} (ht : NO σ g t) (ht0 : NO σ g t0) (hdis : t + 3 < t0 ∨ t0 + 3 < t) (K : ∀ f', (∀ c, (c < t ∨ t + 3 < c) → f' c = f c) → f' t 0 = f t0 0 → (∀ i, i < 10 → f' (t + 1) i = f (t0 + 1) i ∧ f' (t + 2) i = f (t0 + 2) i ∧ f' (t + 3) i = f (t0 + 3) i) → Q none σ f' g) : ZCt d 130 [zr (some t), zr (some t0)] σ f g Q := by
  refine ZCt.of' (L0 := [_, _]) (by omega) rfl rfl rfl (fun d hd1 => ?_)
  obtain ⟨no, ⟨na1, na2, na3⟩, ng1, ng2, ng3⟩ := ht
  obtain ⟨mo, ⟨ma1, ma2, ma3⟩, mg1, mg2, mg3⟩ := ht0
  refine r_aload_n rfl rfl ?_
  refine r_aload_n rfl rfl ?_
  refine r_getI rfl (by first | assumption | exact hs.o rfl) rfl ?_
  refine r_putI rfl (by first | assumption | exact hs.o rfl) ?_
  refine r_aload_n rfl rfl ?_
  refine r_getR rfl (by first | assumption | exact hs.o rfl) (by first | assumption | exact hs.g rfl) ?_
  refine r_iconst rfl ?_
  refine r_aload_n rfl rfl ?_
  refine r_getR rfl (by first | assumption | exact hs.o rfl) (by first | assumption | exact hs.g rfl) ?_
  refine r_iconst rfl ?_
  refine r_bipush rfl ?_
  refine r_acopy rfl rfl (by assumption) (by assumption) (by omega) (by omega) (by omega) (Or.inl rfl) ?_
  refine r_aload_n rfl rfl ?_
  refine r_getR rfl (by first | assumption | exact hs.o rfl) (by first | assumption | exact hs.g rfl) ?_
  refine r_iconst rfl ?_
  refine r_aload_n rfl rfl ?_
  refine r_getR rfl (by first | assumption | exact hs.o rfl) (by first | assumption | exact hs.g rfl) ?_
  refine r_iconst rfl ?_
  refine r_bipush rfl ?_
  refine r_acopy rfl rfl (by assumption) (by assumption) (by omega) (by omega) (by omega) (Or.inl rfl) ?_
  refine r_aload_n rfl rfl ?_
  refine r_getR rfl (by first | assumption | exact hs.o rfl) (by first | assumption | exact hs.g rfl) ?_
  refine r_iconst rfl ?_
  refine r_aload_n rfl rfl ?_
  refine r_getR rfl (by first | assumption | exact hs.o rfl) (by first | assumption | exact hs.g rfl) ?_
  refine r_iconst rfl ?_
  refine r_bipush rfl ?_
  refine r_acopy rfl rfl (by assumption) (by assumption) (by omega) (by omega) (by omega) (Or.inl rfl) ?_
  refine r_ret rfl ?_
  refine K _ (fun c q => ?_) ?_ (fun i hi => ⟨?_, ?_, ?_⟩)
  · rw [zcpy_o (by omega), zcpy_o (by omega), zcpy_o (by omega), up2_o _ _ (by omega)]
  · rw [zcpy_o (by omega), zcpy_o (by omega), zcpy_o (by omega), up2_same]
  · rw [zcpy_o (by omega), zcpy_o (by omega)]; refine (zcpy_at hi).trans ?_; rw [up2_o _ _ (by omega)]
  · rw [zcpy_o (by omega)]; refine (zcpy_at hi).trans ?_; rw [zcpy_o (by omega), up2_o _ _ (by omega)]
  · refine (zcpy_at hi).trans ?_; rw [zcpy_o (by omega), zcpy_o (by omega), up2_o _ _ (by omega)]
theorem k_image (hd : 2 ≤ d) (hI : CI σ f g a) (hA : AOk N a)  {x : Int} (hx : IR x) (K : ∀ f' g', CI σ f' g' (sImage a x).2 → FrK f f' → Q (some (zi (sImage a x).1)) σ f' g') : ZCt d 129 [zr (some 0), zi x] σ f g Q := by
  refine ZCt.of' (L0 := [_, _, _]) (by omega) rfl rfl rfl (fun d hd1 => ?_)
  have hs := hI.sh
  have no : ¬ (0 ≤ x ∧ x < 4) → Q (some (zi (-1))) σ f g := by
    intro q
    rw [show sImage a x = (-1, a) from if_neg q] at K
    exact K f g hI (FrK.rf f)
  refine r_iload_n rfl rfl ?_
  refine r_if_lt rfl (by omega) (fun h1 => ?_) (fun h1 => ?_)
  · refine r_iconst rfl ?_
    refine r_iret rfl ?_
    exact no (by omega)
  · refine r_iload_n rfl rfl ?_
    refine r_iconst rfl ?_
    refine r_icmp_lt rfl (by omega) (by omega) (fun h6 => ?_) (fun h6 => ?_)
    · refine r_aload_n rfl rfl ?_
      refine r_getR rfl (by first | assumption | exact hs.o rfl) (by first | assumption | exact hs.g rfl) ?_
      refine r_iload_n rfl rfl ?_
      obtain ⟨k, rfl⟩ := Int.eq_ofNat_of_zero_le (show 0 ≤ x by omega)
      have hi := hs.is (show k < 4 by omega)
      obtain ⟨io, ⟨ig4, ig5⟩, ir, ino⟩ := hi.2
      have hgn : ∀ c i, ¬ (c = 55 + 11 * k ∧ i = 1) → up2 g (55 + 11 * k) 1 (g 0 4) c i = g c i := fun c i q => up2_ne _ _ q
      have hsh : Sh σ (up2 g (55 + 11 * k) 1 (g 0 4)) := hs.upd (Or.inr (Or.inr (Or.inr (Or.inl ⟨rfl, by omega⟩))))
      obtain ⟨oo, ⟨a1, a2, a3, a4, a5⟩, g0, g1, g2, g3, g4⟩ := hsh.r3
      refine r_aald rfl (hs.a rfl) (by omega) (by omega) rfl ((congrArg (g 13) (show ((k : Nat) : Int).toNat = k by omega)).trans hi.1) ?_
      refine r_astore_n (L' := [_, _, _]) rfl rfl rfl ?_
      refine r_aload_n rfl rfl ?_
      refine r_iconst rfl ?_
      refine r_putZ rfl (by first | assumption | exact hs.o rfl) (by omega) ?_
      refine r_aload_n rfl rfl ?_
      refine r_aload_n rfl rfl ?_
      refine r_getR rfl (by first | assumption | exact hs.o rfl) rfl ?_
      refine r_putR rfl (by first | assumption | exact hs.o rfl) ?_
      refine r_aload_n rfl rfl ?_
      refine r_getR rfl (by first | assumption | exact hs.o rfl) ((hgn _ _ (by omega)).trans ig4) ?_
      refine r_aload_n rfl rfl ?_
      refine r_getR rfl (by first | assumption | exact hs.o rfl) (hsh.g rfl) ?_
      refine r_callV1 rfl rfl (ir.frg (fun i => hgn _ _ (by omega))).1 rfl (k_copyFrom (rd := a.w.rd) (by omega) (ir.frg (fun i => hgn _ _ (by omega))) hsh.r3 (by omega) (hI.w.2.1.fr (fun c q1 q2 => up2_o _ _ (by omega))) (fun f1 hf1 hc1 => ?_))
      have e1 : f1 0 = f 0 := by rw [hf1 0 (by omega), up2_o _ _ (by omega)]
      refine r_aload_n rfl rfl ?_
      refine r_aload_n rfl rfl ?_
      refine r_getI rfl (by first | assumption | exact hs.o rfl) ((congrFun e1 _).trans hI.fo) ?_
      refine r_putI rfl (by first | assumption | exact hs.o rfl) ?_
      refine r_aload_n rfl rfl ?_
      refine r_aload_n rfl rfl ?_
      refine r_getI rfl (by first | assumption | exact hs.o rfl) ((congrFun (up2_o _ _ (by omega)) _).trans ((congrFun e1 _).trans hI.x)) ?_
      refine r_putI rfl (by first | assumption | exact hs.o rfl) ?_
      refine r_aload_n rfl rfl ?_
      refine r_getR rfl (by first | assumption | exact hs.o rfl) ((hgn _ _ (by omega)).trans ig5) ?_
      refine r_aload_n rfl rfl ?_
      refine r_getR rfl (by first | assumption | exact hs.o rfl) (hsh.g rfl) ?_
      refine r_callV1 rfl rfl ino.1 rfl (k_copyNotes (t := 55 + 11 * k + 7) (t0 := 9) (by omega) (by obtain ⟨n1, n2, n3, n4, n5⟩ := ino; exact ⟨n1, n2, (hgn _ _ (by omega)).trans n3, (hgn _ _ (by omega)).trans n4, (hgn _ _ (by omega)).trans n5⟩) hsh.n9 (by omega) (fun f2 h2 h20 h21 => ?_))
      have eo : ∀ c, ¬ (55 + 11 * k ≤ c ∧ c ≤ 65 + 11 * k) → f2 c = f c := fun c q => by rw [h2 c (by omega), up2_o _ _ (by omega), up2_o _ _ (by omega), hf1 c (by omega), up2_o _ _ (by omega)]
      refine r_aload_n rfl rfl ?_
      refine r_getR rfl (by first | assumption | exact hs.o rfl) (hsh.g rfl) ?_
      refine r_getI rfl (by first | assumption | exact hs.o rfl) ((congrFun (eo 3 (by omega)) _).trans hI.w.2.1.2.2.1) ?_
      refine r_iret rfl ?_
      have e : sImage a (k : Int) = (a.w.rd 5 0, a.sIm (fun i => if i = k then some (a.w, a.fo, a.x) else a.im i)) := if_pos (by omega)
      rw [e] at K
      have eb : f2 (55 + 11 * k) = up2 (up2 f1 (55 + 11 * k) 2 a.fo) (55 + 11 * k) 3 a.x (55 + 11 * k) := h2 _ (by omega)
      have eb1 : f1 (55 + 11 * k) 0 = 1 := by rw [hf1 _ (by omega), up2_same]
      refine K f2 _ (hI.img (by omega) eo hgn hsh ?_ ?_ ?_ ?_) (fun c q1 q2 => eo c (by omega))
      · rw [eb, up2_ne _ _ (by omega), up2_ne _ _ (by omega)]; exact eb1
      · rw [up2_same, show 62 + 11 * k = 55 + 11 * k + 7 by omega]
        refine hI.w.cpy (fun c q => eo c (by omega)) (fun c i q => hgn _ _ (by omega)) (by rw [show 56 + 11 * k = 55 + 11 * k + 1 by omega]; exact hc1.fr (fun c q1 q2 => by rw [h2 c (by omega), up2_o _ _ (by omega), up2_o _ _ (by omega)])) ?_ (fun i hi => ?_) hA.2.2.1.1.1
        · refine h20.trans ?_
          rw [up2_o _ _ (by omega), up2_o _ _ (by omega), hf1 9 (by omega), up2_o _ _ (by omega)]
        · have := h21 i hi
          rw [up2_o _ _ (by omega), up2_o _ _ (by omega), up2_o _ _ (by omega), up2_o _ _ (by omega), up2_o _ _ (by omega), up2_o _ _ (by omega), hf1 (9 + 1) (by omega), hf1 (9 + 2) (by omega), hf1 (9 + 3) (by omega), up2_o _ _ (by omega), up2_o _ _ (by omega), up2_o _ _ (by omega)] at this
          exact this
      · rw [eb, up2_ne _ _ (by omega), up2_same]
      · rw [eb, up2_same]
    · refine r_iconst rfl ?_
      refine r_iret rfl ?_
      exact no (by omega)
theorem k_back (hd : 2 ≤ d) (hI : CI σ f g a) (hA : AOk N a)  {x : Int} (hx : IR x) (K : ∀ f' g', CI σ f' g' (sBack a x).2 → FrK f f' → Q (some (zi (sBack a x).1)) σ f' g') : ZCt d 131 [zr (some 0), zi x] σ f g Q := by
  refine ZCt.of' (L0 := [_, _, _]) (by omega) rfl rfl rfl (fun d hd1 => ?_)
  have hs := hI.sh
  by_cases hr : 0 ≤ x ∧ x < 4
  · obtain ⟨k, rfl⟩ := Int.eq_ofNat_of_zero_le hr.1
    have hi := hs.is (show k < 4 by omega)
    obtain ⟨io, ⟨ig4, ig5⟩, ir, ino⟩ := hi.2
    have him := hI.im k (by omega)
    have hgi : g 13 ((k : Nat) : Int).toNat = some (55 + 11 * k) := by rw [Int.toNat_natCast]; exact hi.1
    cases hm : a.im k with
    | none =>
      rw [hm] at him
      have e : sBack a (k : Int) = (-1, a) := by unfold sBack; rw [if_pos hr, Int.toNat_natCast, hm]
      rw [e] at K
      refine r_iload_n rfl rfl ?_
      refine r_if_lt rfl (by omega) (fun h1 => ?_) (fun h1 => ?_)
      · exfalso; omega
      · refine r_iload_n rfl rfl ?_
        refine r_iconst rfl ?_
        refine r_icmp_ge rfl (by omega) (by omega) (fun h6 => ?_) (fun h6 => ?_)
        · exfalso; omega
        · refine r_aload_n rfl rfl ?_
          refine r_getR rfl (by first | assumption | exact hs.o rfl) (by first | assumption | exact hs.g rfl) ?_
          refine r_iload_n rfl rfl ?_
          refine r_aald rfl (hs.a rfl) (by omega) (by omega) rfl hgi ?_
          refine r_getZ rfl io him ?_
          refine r_if_n rfl (by decide) ?_
          refine r_iconst rfl ?_
          refine r_iret rfl ?_
          exact K f g hI (FrK.rf f)
    | some z =>
      obtain ⟨w, fo, xx⟩ := z
      rw [hm] at him
      obtain ⟨m0, mw, m2, m3⟩ := him
      have hAi := hA.2.2.2.2.2.2.1 k (by omega) w fo xx hm
      have e : sBack a (k : Int) = (w.rd 5 0, backTo a w fo xx) := by unfold sBack; rw [if_pos hr, Int.toNat_natCast, hm]
      rw [e] at K
      have hgn : ∀ c i, ¬ (c = 0 ∧ i = 4) → up2 g 0 4 (g (55 + 11 * k) 1) c i = g c i := fun c i q => up2_ne _ _ q
      have hsh : Sh σ (up2 g 0 4 (g (55 + 11 * k) 1)) := hs.upd (Or.inl ⟨rfl, rfl⟩)
      obtain ⟨oo, ⟨a1, a2, a3, a4, a5⟩, g0, g1, g2, g3, g4⟩ := hsh.r3
      refine r_iload_n rfl rfl ?_
      refine r_if_lt rfl (by omega) (fun h1 => ?_) (fun h1 => ?_)
      · exfalso; omega
      · refine r_iload_n rfl rfl ?_
        refine r_iconst rfl ?_
        refine r_icmp_ge rfl (by omega) (by omega) (fun h6 => ?_) (fun h6 => ?_)
        · exfalso; omega
        · refine r_aload_n rfl rfl ?_
          refine r_getR rfl (by first | assumption | exact hs.o rfl) (by first | assumption | exact hs.g rfl) ?_
          refine r_iload_n rfl rfl ?_
          refine r_aald rfl (hs.a rfl) (by omega) (by omega) rfl hgi ?_
          refine r_getZ rfl io m0 ?_
          refine r_if_y rfl (by decide) ?_
          refine r_aload_n rfl rfl ?_
          refine r_getR rfl (by first | assumption | exact hs.o rfl) (by first | assumption | exact hs.g rfl) ?_
          refine r_iload_n rfl rfl ?_
          refine r_aald rfl (hs.a rfl) (by omega) (by omega) rfl hgi ?_
          refine r_astore_n (L' := [_, _, _]) rfl rfl rfl ?_
          refine r_aload_n rfl rfl ?_
          refine r_aload_n rfl rfl ?_
          refine r_getR rfl (by first | assumption | exact hs.o rfl) rfl ?_
          refine r_putR rfl (by first | assumption | exact hs.o rfl) ?_
          refine r_aload_n rfl rfl ?_
          refine r_getR rfl (by first | assumption | exact hs.o rfl) (hsh.g rfl) ?_
          refine r_aload_n rfl rfl ?_
          refine r_getR rfl (by first | assumption | exact hs.o rfl) ((hgn _ _ (by omega)).trans ig4) ?_
          refine r_callV1 rfl rfl (by first | assumption | exact hs.o rfl) rfl (k_copyFrom (rd := w.rd) (by omega) hsh.r3 (ir.frg (fun i => hgn _ _ (by omega))) (by omega) (by rw [show 55 + 11 * k + 1 = 56 + 11 * k by omega]; exact mw.2.1) (fun f1 hf1 hc1 => ?_))
          refine r_aload_n rfl rfl ?_
          refine r_aload_n rfl rfl ?_
          refine r_getI rfl (by first | assumption | exact hs.o rfl) ((congrFun (hf1 _ (by omega)) _).trans m2) ?_
          refine r_putI rfl (by first | assumption | exact hs.o rfl) ?_
          refine r_aload_n rfl rfl ?_
          refine r_aload_n rfl rfl ?_
          refine r_getI rfl (by first | assumption | exact hs.o rfl) ((congrFun (up2_o _ _ (by omega)) _).trans ((congrFun (hf1 _ (by omega)) _).trans m3)) ?_
          refine r_putI rfl (by first | assumption | exact hs.o rfl) ?_
          refine r_aload_n rfl rfl ?_
          refine r_getR rfl (by first | assumption | exact hs.o rfl) (hsh.g rfl) ?_
          refine r_aload_n rfl rfl ?_
          refine r_getR rfl (by first | assumption | exact hs.o rfl) ((hgn _ _ (by omega)).trans ig5) ?_
          refine r_callV1 rfl rfl hsh.n9.1 rfl (k_copyNotes (t := 9) (t0 := 55 + 11 * k + 7) (by omega) hsh.n9 (by obtain ⟨n1, n2, n3, n4, n5⟩ := ino; exact ⟨n1, n2, (hgn _ _ (by omega)).trans n3, (hgn _ _ (by omega)).trans n4, (hgn _ _ (by omega)).trans n5⟩) (by omega) (fun f2 h2 h20 h21 => ?_))
          refine r_aload_n rfl rfl ?_
          refine r_iconst rfl ?_
          refine r_putI rfl (by first | assumption | exact hs.o rfl) ?_
          refine r_aload_n rfl rfl ?_
          refine r_getR rfl (by first | assumption | exact hs.o rfl) (hsh.g rfl) ?_
          refine r_getI rfl (by first | assumption | exact hs.o rfl) ((congrFun ((up2_o _ _ (by omega)).trans ((h2 3 (by omega)).trans ((up2_o _ _ (by omega)).trans (up2_o _ _ (by omega))))) _).trans hc1.2.2.1) ?_
          refine r_iret rfl ?_
          have eo : ∀ c, c ≠ 0 → ¬ (3 ≤ c ∧ c ≤ 12) → up2 f2 0 11 0 c = f c := fun c q1 q2 => by rw [up2_o _ _ q1, h2 c (by omega), up2_o _ _ q1, up2_o _ _ q1, hf1 c (by omega)]
          have e0 : f2 0 = up2 (up2 f1 0 6 fo) 0 7 xx 0 := h2 0 (by omega)
          refine K _ _ (hI.bck eo hgn hsh (fun i hi => ?_) ?_ ?_ ?_ (up2_same _ _ _ _)) (fun c q1 q2 => eo c (by omega) (by omega))
          · rw [up2_ne _ _ (by omega), e0, up2_ne _ _ (by omega), up2_ne _ _ (by omega), hf1 0 (by omega)]
          · rw [up2_same]
            refine mw.cpy (fun c q => eo c (by omega) (by omega)) (fun c i q => hgn _ _ (by omega)) (hc1.fr (fun c q1 q2 => by rw [up2_o _ _ (by omega), h2 c (by omega), up2_o _ _ (by omega), up2_o _ _ (by omega)])) ?_ (fun i hi => ?_) hAi.1.1.1
            · rw [up2_o _ _ (by omega)]
              refine h20.trans ?_
              rw [up2_o _ _ (by omega), up2_o _ _ (by omega), hf1 _ (by omega), show 55 + 11 * k + 7 = 62 + 11 * k by omega]
            · have := h21 i hi
              rw [up2_o _ _ (by omega), up2_o _ _ (by omega), up2_o _ _ (by omega), up2_o _ _ (by omega), up2_o _ _ (by omega), up2_o _ _ (by omega), hf1 _ (by omega), hf1 _ (by omega), hf1 _ (by omega)] at this
              rw [up2_o _ _ (by omega), up2_o _ _ (by omega), up2_o _ _ (by omega)]
              rw [show 62 + 11 * k = 55 + 11 * k + 7 by omega]
              exact this
          · rw [up2_ne _ _ (by omega), e0, up2_ne _ _ (by omega), up2_same]
          · rw [up2_ne _ _ (by omega), e0, up2_same]
  · have e : sBack a x = (-1, a) := if_neg hr
    rw [e] at K
    refine r_iload_n rfl rfl ?_
    refine r_if_lt rfl (by omega) (fun h1 => ?_) (fun h1 => ?_)
    · refine r_iconst rfl ?_
      refine r_iret rfl ?_
      exact K f g hI (FrK.rf f)
    · refine r_iload_n rfl rfl ?_
      refine r_iconst rfl ?_
      refine r_icmp_ge rfl (by omega) (by omega) (fun h6 => ?_) (fun h6 => ?_)
      · refine r_iconst rfl ?_
        refine r_iret rfl ?_
        exact K f g hI (FrK.rf f)
      · exfalso; omega
theorem l_pb (hd1 : 0 ≤ d) (hs : Sh σ g) {n : Nat} (hn : f 0 1 = (n : Int)) (hn4 : n < 400) {v s : Int} (h0 : 0 ≤ s ∧ s ≤ 24) (K : ZWp d zt10 3 [zr (some 0), zi v, zi (s + -8)] [] σ (up2 (up2 f 1 n (z_b (z_shr v s))) 0 1 ((n : Int) + 1)) g Q) : ZWp d zt10 3 [zr (some 0), zi v, zi s] [] σ f g Q := by
  refine r_iload_n rfl rfl ?_
  refine r_if_lt rfl (by omega) (fun h4 => ?_) (fun h4 => ?_)
  · exfalso; omega
  · refine r_aload_n rfl rfl ?_
    refine r_getI rfl (by first | assumption | exact hs.o rfl) hn ?_
    refine r_sipush rfl ?_
    refine r_icmp_ge rfl (by omega) (by omega) (fun h14 => ?_) (fun h14 => ?_)
    · exfalso; omega
    · refine r_aload_n rfl rfl ?_
      refine r_getR rfl (by first | assumption | exact hs.o rfl) (by first | assumption | exact hs.g rfl) ?_
      refine r_aload_n rfl rfl ?_
      refine r_getI rfl (by first | assumption | exact hs.o rfl) hn ?_
      refine r_iload_n rfl rfl ?_
      refine r_iload_n rfl rfl ?_
      refine r_ishr rfl ?_
      refine r_i2b rfl ?_
      refine r_bastN (n) rfl (by first | assumption | exact hs.a rfl) (by omega) (by omega) (by omega) (z_b_rng _) ?_
      refine r_aload_n rfl rfl ?_
      refine r_dupr rfl ?_
      refine r_getI rfl (by first | assumption | exact hs.o rfl) ((congrFun (up2_o _ _ (by omega)) _).trans hn) ?_
      refine r_iconst rfl ?_
      refine r_iadd rfl ?_
      refine r_putI rfl (by first | assumption | exact hs.o rfl) ?_
      refine r_iinc (L' := [_, _, _]) rfl rfl rfl ?_
      refine r_goto rfl ?_
      exact K
theorem k_putBytes (hd : 1 ≤ d) (hs : Sh σ g) {n : Nat} (hn : f 0 1 = (n : Int)) (hn4 : n + 4 ≤ 400) {v : Int} (K : ∀ f', (∀ c, c ≠ 0 → c ≠ 1 → f' c = f c) → (∀ i, i ≠ 1 → f' 0 i = f 0 i) → f' 0 1 = ((n + 4 : Nat) : Int) → f' 1 = (put4 (n, f 1) v).2 → Q none σ f' g) : ZCt d 10 [zr (some 0), zi v] σ f g Q := by
  refine ZCt.of' (L0 := [_, _, _]) (by omega) rfl rfl rfl (fun d hd1 => ?_)
  refine r_bipush rfl ?_
  refine r_istore_n (L' := [_, _, _]) rfl rfl rfl ?_
  refine l_pb (n := n + 0) (by omega) hs hn (by omega) (by omega) ?_
  refine l_pb (n := n + 1) (by omega) hs (by rw [up2_same]; omega) (by omega) (by omega) ?_
  refine l_pb (n := n + 2) (by omega) hs (by rw [up2_same]; omega) (by omega) (by omega) ?_
  refine l_pb (n := n + 3) (by omega) hs (by rw [up2_same]; omega) (by omega) (by omega) ?_
  refine r_iload_n rfl rfl ?_
  refine r_if_lt rfl (by omega) (fun h4 => ?_) (fun h4 => ?_)
  · refine r_ret rfl ?_
    refine K _ (fun c q1 q2 => ?_) (fun i q => ?_) (by rw [up2_same]; omega) ?_
    · simp only [up2_o _ _ q1, up2_o _ _ q2]
    · simp only [up2_ne _ _ (show ¬ (0 = 0 ∧ i = 1) from fun z => q z.2), up2_o _ _ (show (0 : Nat) ≠ 1 by omega)]
    · rw [up2_o _ _ (by omega), up2_u1, up2_o _ _ (by omega), up2_u1, up2_o _ _ (by omega), up2_u1, up2_o _ _ (by omega), up2_u1]
      rfl
  · exfalso; omega
theorem put4_rng {t : Nat → Int} {n : Nat} {v : Int} (h : ∀ i, i < 400 → -128 ≤ t i ∧ t i ≤ 127) : ∀ i, i < 400 → -128 ≤ (put4 (n, t) v).2 i ∧ (put4 (n, t) v).2 i ≤ 127 := by
  intro i hi
  have h24 := z_b_rng (z_shr v 24)
  have h16 := z_b_rng (z_shr v 16)
  have h8 := z_b_rng (z_shr v 8)
  have h0 := z_b_rng (z_shr v 0)
  have ht := h i hi
  unfold put4 u1
  simp only
  repeat' split
  all_goals assumption
theorem put4_old {t t' : Nat → Int} {n i : Nat} {v : Int} (h : ∀ j, j < n → t j = t' j) (hi : i < n + 4) : (put4 (n, t) v).2 i = (put4 (n, t') v).2 i := by
  unfold put4 u1
  simp only
  repeat' split
  all_goals first | rfl | exact h i (by omega)
theorem k_feed (hd : 2 ≤ d) (hI : CI σ f g a) (hA : AOk N a) {v1 v2 v3 v4 v5 : Int} (K : ∀ f' g', CI σ f' g' (sFeed a v1 v2 v3 v4 v5).2 → FrK f f' → Q (some (zi (sFeed a v1 v2 v3 v4 v5).1)) σ f' g') : ZCt d 9 [zr (some 0), zi v1, zi v2, zi v3, zi v4, zi v5] σ f g Q := by
  refine ZCt.of' (L0 := [_, _, _, _, _, _]) (by omega) rfl rfl rfl (fun d hd1 => ?_)
  have hs := hI.sh
  have htl := hA.1.1
  refine r_aload_n rfl rfl ?_
  refine r_getI rfl (by first | assumption | exact hs.o rfl) hI.tl ?_
  refine r_bipush rfl ?_
  refine r_iadd rfl ?_
  refine r_sipush rfl ?_
  refine r_icmp_le rfl (by omega) (by omega) (fun h10 => ?_) (fun h10 => ?_)
  · refine r_aload_n rfl rfl ?_
    refine r_iload_n rfl rfl ?_
    refine r_callV1 rfl rfl (by first | assumption | exact hs.o rfl) rfl (k_putBytes (n := a.tl + 0) (by omega) hs hI.tl (by omega) (fun f1 x1 y1 n1 t1 => ?_))
    refine r_aload_n rfl rfl ?_
    refine r_iload_n rfl rfl ?_
    refine r_callV1 rfl rfl (by first | assumption | exact hs.o rfl) rfl (k_putBytes (n := a.tl + 4) (by omega) hs n1 (by omega) (fun f2 x2 y2 n2 t2 => ?_))
    refine r_aload_n rfl rfl ?_
    refine r_iload_n rfl rfl ?_
    refine r_callV1 rfl rfl (by first | assumption | exact hs.o rfl) rfl (k_putBytes (n := a.tl + 8) (by omega) hs n2 (by omega) (fun f3 x3 y3 n3 t3 => ?_))
    refine r_aload_n rfl rfl ?_
    refine r_iload rfl rfl ?_
    refine r_callV1 rfl rfl (by first | assumption | exact hs.o rfl) rfl (k_putBytes (n := a.tl + 12) (by omega) hs n3 (by omega) (fun f4 x4 y4 n4 t4 => ?_))
    refine r_aload_n rfl rfl ?_
    refine r_iload rfl rfl ?_
    refine r_callV1 rfl rfl (by first | assumption | exact hs.o rfl) rfl (k_putBytes (n := a.tl + 16) (by omega) hs n4 (by omega) (fun f5 x5 y5 n5 t5 => ?_))
    refine r_aload_n rfl rfl ?_
    refine r_getI rfl (by first | assumption | exact hs.o rfl) n5 ?_
    refine r_iret rfl ?_
    rw [show sFeed a v1 v2 v3 v4 v5 = ((a.tl : Int) + 20, a.sT (a.tl + 20) (put4 (put4 (put4 (put4 (put4 (a.tl, a.tp) v1) v2) v3) v4) v5).2) from if_pos (by omega)] at K
    have ex : ∀ c, c ≠ 0 → c ≠ 1 → f5 c = f c := fun c q1 q2 => by rw [x5 c q1 q2, x4 c q1 q2, x3 c q1 q2, x2 c q1 q2, x1 c q1 q2]
    have ey : ∀ i, i ≠ 1 → f5 0 i = f 0 i := fun i q => by rw [y5 i q, y4 i q, y3 i q, y2 i q, y1 i q]
    rw [show ((a.tl + 16 + 4 : Nat) : Int) = (a.tl : Int) + 20 by omega]
    refine K f5 g (hI.c0 (b := a.sT (a.tl + 20) (put4 (put4 (put4 (put4 (put4 (a.tl, a.tp) v1) v2) v3) v4) v5).2) ⟨rfl, rfl, rfl, rfl, rfl, Nat.le_refl _⟩ ex (ey 3 (by omega)) (ey 12 (by omega)) n5 ?_ ?_ ((ey 6 (by omega)).trans hI.fo) ((ey 7 (by omega)).trans hI.x) ((ey 11 (by omega)).trans hI.uc)) (fun c q1 q2 => ex c (by omega) (by omega))
    · rw [t5, t4, t3, t2, t1]
      exact put4_rng (put4_rng (put4_rng (put4_rng (put4_rng hI.tp))))
    · intro i hi
      rw [t5, t4, t3, t2, t1]
      exact put4_old (fun j hj => put4_old (fun j hj => put4_old (fun j hj => put4_old (fun j hj => put4_old (fun j hj => hI.tq j hj) hj) hj) hj) hj) hi
  · refine r_iconst rfl ?_
    refine r_iret rfl ?_
    rw [show sFeed a v1 v2 v3 v4 v5 = (-1, a) from if_neg (by omega)] at K
    exact K f g hI (FrK.rf f)
end CIMAGE
