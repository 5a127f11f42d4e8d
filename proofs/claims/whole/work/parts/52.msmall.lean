/-! Small calls: the reference -/
section MSMALL
variable {d : Nat} {σ : ZS} {f f' : ZF} {g : ZG} {Q : ZQ} {n m N : Int} {rd : Rd} {pl : Pl} {rd0 : Rd} {a : AS}
/-- rows of the reference that agree tell the same world -/
theorem MW.congr {s s' : Nat → Int} {w : AW} (hns : w.ns ≤ 10) (h : MW s w) (e : ∀ i, i < 146 → s' i = s i) : MW s' w := by
  obtain ⟨h1, h2, h3, h4⟩ := h
  refine ⟨?_, h2.congr (fun i q1 q2 => e i (by omega)), by rw [e 145 (by omega)]; exact h3, fun i hi => by rw [e (115 + 3 * i) (by omega), e (116 + 3 * i) (by omega), e (117 + 3 * i) (by omega)]; exact h4 i hi⟩
  cases hp : w.pn with
  | none => rw [hp] at h1; simp only at h1 ⊢; rw [e 0 (by omega), e 1 (by omega), e 2 (by omega), e 3 (by omega)]; exact h1
  | some x =>
    obtain ⟨pl, rd0⟩ := x
    rw [hp] at h1
    obtain ⟨⟨q0, q1, q2, q3, q4⟩, q5, q6⟩ := h1
    refine ⟨⟨?_, ?_, ?_, ?_, fun j hj => ?_⟩, fun k hk hne => ?_, fun c hc => ?_⟩
    · rw [e 0 (by omega)]; exact q0
    · rw [e 1 (by omega)]; exact q1
    · rw [e 2 (by omega)]; exact q2
    · rw [e 3 (by omega)]; exact q3
    · rw [e (67 + j) (by omega), e (72 + j) (by omega)]; exact q4 j hj
    · rw [e (77 + 3 * k) (by omega), e (78 + 3 * k) (by omega), e (79 + 3 * k) (by omega)]; exact q5 k hk hne
    · rw [e (95 + c) (by omega)]; exact q6 c hc
theorem MI.c0 (h : MI f a) {b : AS} (hb : b.rk = a.rk ∧ b.ru = a.ru ∧ b.w = a.w ∧ b.us = a.us ∧ b.im = a.im ∧ b.uc = a.uc) (hf : ∀ c, c ≠ 219 → c ≠ 220 → f' c = f c) (h2 : ∀ i, i = 2 ∨ i = 23 ∨ i = 24 → f' 219 i = f 219 i) (h1 : f' 219 1 = (b.tl : Int)) (hq : ∀ i, i < b.tl → f' 220 i = b.tp i) (h21 : f' 219 21 = b.fo) (h22 : f' 219 22 = b.x) (h27 : f' 219 27 = (b.uc : Int)) : MI f' b := by
  obtain ⟨k1, k2, k3, k4, k5, k6, k7, k8, k9, k10, k11, k12⟩ := h
  obtain ⟨b1, b2, b3, b4, b5, b6⟩ := hb
  refine ⟨h1, hq, by rw [h2 2 (by omega), b1]; exact k3, fun i hi => ?_, by rw [hf 229 (by omega) (by omega), b3]; exact k5, h21, h22, by rw [h2 23 (by omega)]; exact k8, by rw [h2 24 (by omega)]; exact k9, h27, fun i hi => ?_, fun k hk => ?_⟩
  · rw [hf 224 (by omega) (by omega), b2]
    have := k4 i (by rw [← b1]; exact hi)
    refine ⟨this.1, this.2.same _ _ (fun j _ _ => ?_) (fun j _ _ => ?_)⟩
    · rw [hf 223 (by omega) (by omega)]
    · rw [hf 221 (by omega) (by omega)]
  · rw [hf 230 (by omega) (by omega), b4, b6]
    exact k11 i (by rw [← b6]; exact hi)
  · rw [hf 239 (by omega) (by omega), hf 236 (by omega) (by omega), hf 237 (by omega) (by omega), hf 238 (by omega) (by omega), b5]
    exact k12 k hk
theorem MI.wd (h : MI f a) {w' : AW} (hf : ∀ c, c ≠ 229 → f' c = f c) (hw : MW (f' 229) w') : MI f' (a.sW w') := by
  obtain ⟨k1, k2, k3, k4, k5, k6, k7, k8, k9, k10, k11, k12⟩ := h
  have e := hf 219 (by omega)
  refine ⟨by rw [e]; exact k1, by rw [hf 220 (by omega)]; exact k2, by rw [e]; exact k3, fun i hi => ?_, hw, by rw [e]; exact k6, by rw [e]; exact k7, by rw [e]; exact k8, by rw [e]; exact k9, by rw [e]; exact k10, fun i hi => by rw [hf 230 (by omega)]; exact k11 i hi, fun k hk => ?_⟩
  · rw [hf 224 (by omega)]
    refine ⟨(k4 i hi).1, (k4 i hi).2.same _ _ (fun j _ _ => ?_) (fun j _ _ => ?_)⟩
    · rw [hf 223 (by omega)]
    · rw [hf 221 (by omega)]
  · rw [hf 239 (by omega), hf 236 (by omega), hf 237 (by omega), hf 238 (by omega)]
    exact k12 k hk
theorem MI.img (h : MI f a) {k : Nat} (hk : k < 4) (hf : ∀ c, ¬ (236 ≤ c ∧ c ≤ 239) → f' c = f c) {w : AW} {fo x : Int} (h9 : ∀ i, i < 4 → f' 239 i = if i = k then 1 else f 239 i) (h7 : ∀ i, i < 4 → f' 237 i = if i = k then fo else f 237 i) (h8 : ∀ i, i < 4 → f' 238 i = if i = k then x else f 238 i) (hns : ∀ j, j < 4 → ∀ w fo x, a.im j = some (w, fo, x) → w.ns ≤ 10) (h6 : ∀ j, j < 4 → j ≠ k → ∀ i, i < 146 → f' 236 (146 * j + i) = f 236 (146 * j + i)) (hw : MW (fun i => f' 236 (146 * k + i)) w) : MI f' (a.sIm (fun i => if i = k then some (w, fo, x) else a.im i)) := by
  obtain ⟨k1, k2, k3, k4, k5, k6, k7, k8, k9, k10, k11, k12⟩ := h
  have e := hf 219 (by omega)
  refine ⟨by rw [e]; exact k1, by rw [hf 220 (by omega)]; exact k2, by rw [e]; exact k3, fun i hi => ?_, by rw [hf 229 (by omega)]; exact k5, by rw [e]; exact k6, by rw [e]; exact k7, by rw [e]; exact k8, by rw [e]; exact k9, by rw [e]; exact k10, fun i hi => by rw [hf 230 (by omega)]; exact k11 i hi, fun j hj => ?_⟩
  · rw [hf 224 (by omega)]
    refine ⟨(k4 i hi).1, (k4 i hi).2.same _ _ (fun j _ _ => ?_) (fun j _ _ => ?_)⟩
    · rw [hf 223 (by omega)]
    · rw [hf 221 (by omega)]
  · show (match (if j = k then some (w, fo, x) else a.im j) with
      | none => f' 239 j = 0
      | some (w, fo, x) => f' 239 j = 1 ∧ MW (fun i => f' 236 (146 * j + i)) w ∧ f' 237 j = fo ∧ f' 238 j = x)
    by_cases q : j = k
    · subst q
      rw [if_pos rfl]
      exact ⟨by rw [h9 j hj, if_pos rfl], hw, by rw [h7 j hj, if_pos rfl], by rw [h8 j hj, if_pos rfl]⟩
    · rw [if_neg q]
      have := k12 j hj
      rw [h9 j hj, if_neg q, h7 j hj, if_neg q, h8 j hj, if_neg q]
      cases hi : a.im j with
      | none => rw [hi] at this; exact this
      | some z =>
        obtain ⟨w, fo, x⟩ := z
        rw [hi] at this
        exact ⟨this.1, MW.congr (hns j hj w fo x hi) this.2.1 (fun i hi => h6 j hj q i hi), this.2.2⟩
theorem MI.bck (h : MI f a) (hf : ∀ c, c ≠ 219 → c ≠ 229 → f' c = f c) (h0 : ∀ i, i = 1 ∨ i = 2 ∨ i = 23 ∨ i = 24 → f' 219 i = f 219 i) {w : AW} {fo x : Int} (hw : MW (f' 229) w) (h21 : f' 219 21 = fo) (h22 : f' 219 22 = x) (h27 : f' 219 27 = 0) : MI f' (backTo a w fo x) := by
  obtain ⟨k1, k2, k3, k4, k5, k6, k7, k8, k9, k10, k11, k12⟩ := h
  refine ⟨by rw [h0 1 (by omega)]; exact k1, by rw [hf 220 (by omega) (by omega)]; exact k2, by rw [h0 2 (by omega)]; exact k3, fun i hi => ?_, hw, h21, h22, by rw [h0 23 (by omega)]; exact k8, by rw [h0 24 (by omega)]; exact k9, h27, fun i hi => absurd hi (Nat.not_lt_zero i), fun k hk => ?_⟩
  · rw [hf 224 (by omega) (by omega)]
    refine ⟨(k4 i hi).1, (k4 i hi).2.same _ _ (fun j _ _ => ?_) (fun j _ _ => ?_)⟩
    · rw [hf 223 (by omega) (by omega)]
    · rw [hf 221 (by omega) (by omega)]
  · rw [hf 239 (by omega) (by omega), hf 236 (by omega) (by omega), hf 237 (by omega) (by omega), hf 238 (by omega) (by omega)]
    exact k12 k hk
theorem c_isRule (hd : 1 ≤ d) (hs : Sh σ g) (hM : MI f a) (hA : AOk N a) {x : Int} (hx : IR x) (k1 : 0 ≤ x ∧ x < (a.rk : Int) → Q (some (zi 1)) σ f g) (k2 : ¬ (0 ≤ x ∧ x < (a.rk : Int)) → Q (some (zi 0)) σ f g) : ZCt d 176 [zr (some 219), zi x] σ f g Q := by
  refine ZCt.of' (L0 := [_, _]) (by omega) rfl rfl rfl (fun d hd1 => ?_)
  have hrk := hA.1.2.1
  refine r_iload_n rfl rfl ?_
  refine r_if_lt rfl (by omega) (fun h1 => ?_) (fun h1 => ?_)
  · refine r_iconst rfl ?_
    refine r_zret rfl (by omega) ?_
    exact k2 (by omega)
  · refine r_iload_n rfl rfl ?_
    refine r_aload_n rfl rfl ?_
    refine r_getI rfl (by first | assumption | exact hs.o rfl) hM.rk ?_
    refine r_icmp_ge rfl (by omega) (by omega) (fun h9 => ?_) (fun h9 => ?_)
    · refine r_iconst rfl ?_
      refine r_zret rfl (by omega) ?_
      exact k2 (by omega)
    · refine r_iconst rfl ?_
      refine r_goto rfl ?_
      refine r_zret rfl (by omega) ?_
      exact k1 (by omega)
theorem c_force (hd : 2 ≤ d) (hs : Sh σ g) (hM : MI f a) (hA : AOk N a) {x : Int} (hx : IR x) (K : ∀ f', MI f' (sForce a x).2 → FrX f f' → Q (some (zi (sForce a x).1)) σ f' g) : ZCt d 175 [zr (some 219), zi x] σ f g Q := by
  refine ZCt.of' (L0 := [_, _, _]) (by omega) rfl rfl rfl (fun d hd1 => ?_)
  have hrk := hA.1.2.1
  refine r_iload_n rfl rfl ?_
  refine r_iconst rfl ?_
  refine r_icmp_eq rfl (by omega) (by omega) (fun h2 => ?_) (fun h2 => ?_)
  · refine r_aload_n rfl rfl ?_
    refine r_getI rfl (by first | assumption | exact hs.o rfl) hM.fo ?_
    refine r_istore_n (L' := [_, _, _]) rfl rfl rfl ?_
    refine r_aload_n rfl rfl ?_
    refine r_iload_n rfl rfl ?_
    refine r_putI rfl (by first | assumption | exact hs.o rfl) ?_
    refine r_iload_n rfl rfl ?_
    refine r_iret rfl ?_
    rw [show sForce a x = (a.fo, a.sFo x) from if_pos (by omega)] at K
    exact K _ (hM.c0 (b := a.sFo x) ⟨rfl, rfl, rfl, rfl, rfl, rfl⟩ (fun c q1 q2 => up2_o _ _ q1) (fun i q => up2_ne _ _ (by omega)) ((up2_ne _ _ (by omega)).trans hM.tl) (fun i hi => by rw [up2_o _ _ (by omega)]; exact hM.tq i hi) (up2_same _ _ _ _) ((up2_ne _ _ (by omega)).trans hM.x) ((up2_ne _ _ (by omega)).trans hM.uc)) ((FrX.rf f).up (by omega))
  · refine r_aload_n rfl rfl ?_
    refine r_iload_n rfl rfl ?_
    refine r_callV1 rfl rfl (by first | assumption | exact hs.o rfl) rfl (c_isRule (by omega) hs hM hA hx (fun hr => ?_) (fun hr => ?_))
    · refine r_if_y rfl (by decide) ?_
      refine r_aload_n rfl rfl ?_
      refine r_getI rfl (by first | assumption | exact hs.o rfl) hM.fo ?_
      refine r_istore_n (L' := [_, _, _]) rfl rfl rfl ?_
      refine r_aload_n rfl rfl ?_
      refine r_iload_n rfl rfl ?_
      refine r_putI rfl (by first | assumption | exact hs.o rfl) ?_
      refine r_iload_n rfl rfl ?_
      refine r_iret rfl ?_
      rw [show sForce a x = (a.fo, a.sFo x) from if_pos (by omega)] at K
      exact K _ (hM.c0 (b := a.sFo x) ⟨rfl, rfl, rfl, rfl, rfl, rfl⟩ (fun c q1 q2 => up2_o _ _ q1) (fun i q => up2_ne _ _ (by omega)) ((up2_ne _ _ (by omega)).trans hM.tl) (fun i hi => by rw [up2_o _ _ (by omega)]; exact hM.tq i hi) (up2_same _ _ _ _) ((up2_ne _ _ (by omega)).trans hM.x) ((up2_ne _ _ (by omega)).trans hM.uc)) ((FrX.rf f).up (by omega))
    · refine r_if_n rfl (by decide) ?_
      refine r_bipush rfl ?_
      refine r_iret rfl ?_
      rw [show sForce a x = (-2, a) from if_neg (by omega)] at K
      exact K f hM (FrX.rf f)
theorem c_seed (hd : 1 ≤ d) (hs : Sh σ g) (hM : MI f a) (hA : AOk N a) {x : Int} (hx : IR x) (K : ∀ f', MI f' (sSeed a x).2 → FrX f f' → Q (some (zi (sSeed a x).1)) σ f' g) : ZCt d 247 [zr (some 219), zi x] σ f g Q := by
  refine ZCt.of' (L0 := [_, _, _]) (by omega) rfl rfl rfl (fun d hd1 => ?_)
  refine r_iload_n rfl rfl ?_
  refine r_if_ge rfl (by omega) (fun h1 => ?_) (fun h1 => ?_)
  · refine r_aload_n rfl rfl ?_
    refine r_getI rfl (by first | assumption | exact hs.o rfl) hM.x ?_
    refine r_istore_n (L' := [_, _, _]) rfl rfl rfl ?_
    refine r_aload_n rfl rfl ?_
    refine r_iload_n rfl rfl ?_
    refine r_putI rfl (by first | assumption | exact hs.o rfl) ?_
    refine r_iload_n rfl rfl ?_
    refine r_iret rfl ?_
    rw [show sSeed a x = (a.x, a.sX x) from if_neg (by omega)] at K
    exact K _ (hM.c0 (b := a.sX x) ⟨rfl, rfl, rfl, rfl, rfl, rfl⟩ (fun c q1 q2 => up2_o _ _ q1) (fun i q => up2_ne _ _ (by omega)) ((up2_ne _ _ (by omega)).trans hM.tl) (fun i hi => by rw [up2_o _ _ (by omega)]; exact hM.tq i hi) ((up2_ne _ _ (by omega)).trans hM.fo) (up2_same _ _ _ _) ((up2_ne _ _ (by omega)).trans hM.uc)) ((FrX.rf f).up (by omega))
  · refine r_iconst rfl ?_
    refine r_iret rfl ?_
    rw [show sSeed a x = (-1, a) from if_pos (by omega)] at K
    exact K f hM (FrX.rf f)
theorem c_end (hd : 1 ≤ d) (hs : Sh σ g) (hM : MI f a) (hA : AOk N a) {x : Int} (hx : IR x) (K : ∀ f', MI f' (sEnd a x).2 → FrX f f' → Q (some (zi (sEnd a x).1)) σ f' g) : ZCt d 135 [zr (some 219), zi x] σ f g Q := by
  refine ZCt.of' (L0 := [_, _]) (by omega) rfl rfl rfl (fun d hd1 => ?_)
  have htl := hA.1.1
  refine r_iload_n rfl rfl ?_
  refine r_if_lt rfl (by omega) (fun h1 => ?_) (fun h1 => ?_)
  · refine r_iconst rfl ?_
    refine r_iret rfl ?_
    rw [show sEnd a x = (-1, a) from if_neg (by omega)] at K
    exact K f hM (FrX.rf f)
  · refine r_iload_n rfl rfl ?_
    refine r_aload_n rfl rfl ?_
    refine r_getI rfl (by first | assumption | exact hs.o rfl) hM.tl ?_
    refine r_icmp_le rfl (by omega) (by omega) (fun h9 => ?_) (fun h9 => ?_)
    · refine r_aload_n rfl rfl ?_
      refine r_iload_n rfl rfl ?_
      refine r_putI rfl (by first | assumption | exact hs.o rfl) ?_
      refine r_iload_n rfl rfl ?_
      refine r_iret rfl ?_
      rw [show sEnd a x = (x, a.sT x.toNat a.tp) from if_pos (by omega)] at K
      exact K _ (hM.c0 (b := a.sT x.toNat a.tp) ⟨rfl, rfl, rfl, rfl, rfl, rfl⟩ (fun c q1 q2 => up2_o _ _ q1) (fun i q => up2_ne _ _ (by omega)) (by rw [up2_same]; show x = ((x.toNat : Nat) : Int); omega) (fun i hi => by rw [up2_o _ _ (by omega)]; exact hM.tq i (by have hi : i < x.toNat := hi; omega)) ((up2_ne _ _ (by omega)).trans hM.fo) ((up2_ne _ _ (by omega)).trans hM.x) ((up2_ne _ _ (by omega)).trans hM.uc)) ((FrX.rf f).up (by omega))
    · refine r_iconst rfl ?_
      refine r_iret rfl ?_
      rw [show sEnd a x = (-1, a) from if_neg (by omega)] at K
      exact K f hM (FrX.rf f)
theorem qCar_no {x y : Int} (h : a.w.pn = none ∨ ¬ (0 ≤ x ∧ x < 6) ∨ ¬ (0 ≤ y ∧ y ≤ 3)) : qCar a x y = -2 := by
  unfold qCar
  cases hp : a.w.pn with
  | none => rfl
  | some z => exact if_neg (by rcases h with h | h | h; rw [hp] at h; cases h; omega; omega)
theorem qCar_yes {x y : Int} (hp : a.w.pn = some (pl, rd0)) (h1 : 0 ≤ x ∧ x < 6) (h2 : 0 ≤ y ∧ y ≤ 3) : qCar a x y = a.w.rd y.toNat x.toNat := by
  unfold qCar
  rw [hp]
  exact if_pos ⟨h1, h2⟩
theorem c_car (hd : 3 ≤ d) (hs : Sh σ g) (hM : MI f a) (hA : AOk N a) {x y : Int} (hx : IR x) (hy : IR y) (K : Q (some (zi (qCar a x y))) σ f g) : ZCt d 177 [zr (some 219), zi x, zi y] σ f g Q := by
  refine ZCt.of' (L0 := [_, _, _]) (by omega) rfl rfl rfl (fun d hd1 => ?_)
  refine r_aload_n rfl rfl ?_
  refine r_iload_n rfl rfl ?_
  refine r_callV1 rfl rfl (by first | assumption | exact hs.o rfl) rfl (c_carA (by omega) hs hM hA hx (fun pl rd0 hp hc => ?_) (fun hn => ?_))
  · refine r_if_n rfl (by decide) ?_
    refine r_iload_n rfl rfl ?_
    refine r_i2l rfl (by omega) ?_
    refine r_lconst rfl ?_
    refine r_ldc2 rfl ?_
    refine r_callS3 rfl rfl rfl (c_in (by omega) (by omega) (by omega) (by omega) (fun hin => ?_) (fun hin => ?_))
    · refine r_if_y rfl (by decide) ?_
      refine r_aload_n rfl rfl ?_
      refine r_iload_n rfl rfl ?_
      obtain ⟨k, rfl⟩ := Int.eq_ofNat_of_zero_le hc.1
      have ho := (hA.plS hp).2.1.1
      have hcar := ho.2.2.1 k (by omega)
      rw [qCar_yes hp hc hin, Int.toNat_natCast] at K
      refine r_callV1 rfl rfl (by first | assumption | exact hs.o rfl) rfl (c_mOn (by omega) hs hM.w.2.1 ho (by omega) (fun hon => ?_) (fun hoff => ?_))
      · refine r_if_y rfl (by decide) ?_
        refine r_aload_n rfl rfl ?_
        refine r_getR rfl (by first | assumption | exact hs.o rfl) (by first | assumption | exact hs.g rfl) ?_
        refine r_bipush rfl ?_
        refine r_iconst rfl ?_
        refine r_iload_n rfl rfl ?_
        refine r_imul rfl ?_
        refine r_iadd rfl ?_
        refine r_iconst rfl ?_
        refine r_iadd rfl ?_
        refine r_iload_n rfl rfl ?_
        refine r_iadd rfl ?_
        rcases (show y = 0 ∨ y = 1 ∨ y = 2 ∨ y = 3 by omega) with rfl | rfl | rfl | rfl
        · refine r_iald rfl (by first | assumption | exact hs.a rfl) (by omega) (by omega) ((zix (n := 13 + 5 * k) (by omega)).trans hon.2.2.2.2.2.1) ?_
          refine r_iret rfl ?_
          exact K
        · refine r_iald rfl (by first | assumption | exact hs.a rfl) (by omega) (by omega) ((zix (n := 14 + 5 * k) (by omega)).trans hon.2.2.2.2.2.2.1) ?_
          refine r_iret rfl ?_
          exact K
        · refine r_iald rfl (by first | assumption | exact hs.a rfl) (by omega) (by omega) ((zix (n := 15 + 5 * k) (by omega)).trans hon.2.2.2.2.2.2.2.1) ?_
          refine r_iret rfl ?_
          exact K
        · refine r_iald rfl (by first | assumption | exact hs.a rfl) (by omega) (by omega) ((zix (n := 16 + 5 * k) (by omega)).trans hon.2.2.2.2.2.2.2.2) ?_
          refine r_iret rfl ?_
          exact K
      · refine r_if_n rfl (by decide) ?_
        refine r_iload_n rfl rfl ?_
        refine r_iconst rfl ?_
        refine r_icmp_ge rfl (by omega) (by omega) (fun h33 => ?_) (fun h33 => ?_)
        · refine r_iconst rfl ?_
          refine r_iret rfl ?_
          first | (rw [qCar_no (by omega)] at K; exact K) | (rw [qCar_no (by rcases hn with hn | hn; exact Or.inl hn; exact Or.inr (Or.inl hn))] at K; exact K) | (rcases (show y = 0 ∨ y = 1 by omega) with rfl | rfl; (rw [show a.w.rd (0 : Int).toNat k = -1 by show a.w.rd 0 k = -1; omega] at K; exact K); (rw [show a.w.rd (1 : Int).toNat k = -1 by show a.w.rd 1 k = -1; omega] at K; exact K)) | (rcases (show y = 2 ∨ y = 3 by omega) with rfl | rfl; (rw [show a.w.rd (2 : Int).toNat k = 0 by show a.w.rd 2 k = 0; omega] at K; exact K); (rw [show a.w.rd (3 : Int).toNat k = 0 by show a.w.rd 3 k = 0; omega] at K; exact K))
        · refine r_iconst rfl ?_
          refine r_goto rfl ?_
          refine r_iret rfl ?_
          first | (rw [qCar_no (by omega)] at K; exact K) | (rw [qCar_no (by rcases hn with hn | hn; exact Or.inl hn; exact Or.inr (Or.inl hn))] at K; exact K) | (rcases (show y = 0 ∨ y = 1 by omega) with rfl | rfl; (rw [show a.w.rd (0 : Int).toNat k = -1 by show a.w.rd 0 k = -1; omega] at K; exact K); (rw [show a.w.rd (1 : Int).toNat k = -1 by show a.w.rd 1 k = -1; omega] at K; exact K)) | (rcases (show y = 2 ∨ y = 3 by omega) with rfl | rfl; (rw [show a.w.rd (2 : Int).toNat k = 0 by show a.w.rd 2 k = 0; omega] at K; exact K); (rw [show a.w.rd (3 : Int).toNat k = 0 by show a.w.rd 3 k = 0; omega] at K; exact K))
    · refine r_if_n rfl (by decide) ?_
      refine r_bipush rfl ?_
      refine r_iret rfl ?_
      first | (rw [qCar_no (by omega)] at K; exact K) | (rw [qCar_no (by rcases hn with hn | hn; exact Or.inl hn; exact Or.inr (Or.inl hn))] at K; exact K) | (rcases (show y = 0 ∨ y = 1 by omega) with rfl | rfl; (rw [show a.w.rd (0 : Int).toNat k = -1 by show a.w.rd 0 k = -1; omega] at K; exact K); (rw [show a.w.rd (1 : Int).toNat k = -1 by show a.w.rd 1 k = -1; omega] at K; exact K)) | (rcases (show y = 2 ∨ y = 3 by omega) with rfl | rfl; (rw [show a.w.rd (2 : Int).toNat k = 0 by show a.w.rd 2 k = 0; omega] at K; exact K); (rw [show a.w.rd (3 : Int).toNat k = 0 by show a.w.rd 3 k = 0; omega] at K; exact K))
  · refine r_if_y rfl (by decide) ?_
    refine r_bipush rfl ?_
    refine r_iret rfl ?_
    first | (rw [qCar_no (by omega)] at K; exact K) | (rw [qCar_no (by rcases hn with hn | hn; exact Or.inl hn; exact Or.inr (Or.inl hn))] at K; exact K) | (rcases (show y = 0 ∨ y = 1 by omega) with rfl | rfl; (rw [show a.w.rd (0 : Int).toNat k = -1 by show a.w.rd 0 k = -1; omega] at K; exact K); (rw [show a.w.rd (1 : Int).toNat k = -1 by show a.w.rd 1 k = -1; omega] at K; exact K)) | (rcases (show y = 2 ∨ y = 3 by omega) with rfl | rfl; (rw [show a.w.rd (2 : Int).toNat k = 0 by show a.w.rd 2 k = 0; omega] at K; exact K); (rw [show a.w.rd (3 : Int).toNat k = 0 by show a.w.rd 3 k = 0; omega] at K; exact K))
theorem qRoad_no {x y : Int} (h : ∀ pl rd0, a.w.pn = some (pl, rd0) → ¬ ((0 ≤ x ∧ x < pl.2.1) ∧ 0 ≤ y ∧ y ≤ 2)) : qRoad a x y = -1 := by
  unfold qRoad
  cases hp : a.w.pn with
  | none => rfl
  | some z =>
    have := h z.1 z.2 hp
    simp only
    by_cases q : 0 ≤ x ∧ x < z.1.2.1
    · rw [if_pos q, if_neg (by omega), if_neg (by omega), if_neg (by omega)]
    · rw [if_neg q]
theorem qRoad_yes {x y : Int} (hp : a.w.pn = some (pl, rd0)) (h1 : 0 ≤ x ∧ x < pl.2.1) : qRoad a x y = (if y = 0 then pl.2.2.2.1 x.toNat else if y = 1 then pl.2.2.2.2 x.toNat else if y = 2 then a.w.rd 4 x.toNat else -1) := by
  unfold qRoad
  rw [hp]
  exact if_pos h1
theorem c_road (hd : 2 ≤ d) (hs : Sh σ g) (hM : MI f a) (hA : AOk N a) {x y : Int} (hx : IR x) (hy : IR y) (K : Q (some (zi (qRoad a x y))) σ f g) : ZCt d 181 [zr (some 219), zi x, zi y] σ f g Q := by
  refine ZCt.of' (L0 := [_, _, _]) (by omega) rfl rfl rfl (fun d hd1 => ?_)
  refine r_aload_n rfl rfl ?_
  refine r_iload_n rfl rfl ?_
  refine r_callV1 rfl rfl (by first | assumption | exact hs.o rfl) rfl (c_roadA (by omega) hs hM hA hx (fun pl rd0 hp hr => ?_) (fun hn => ?_))
  · refine r_if_n rfl (by decide) ?_
    refine r_iload_n rfl rfl ?_
    refine r_i2l rfl (by omega) ?_
    refine r_lconst rfl ?_
    refine r_ldc2 rfl ?_
    refine r_callS3 rfl rfl rfl (c_in (by omega) (by omega) (by omega) (by omega) (fun hin => ?_) (fun hin => ?_))
    · refine r_if_y rfl (by decide) ?_
      refine r_iload_n rfl rfl ?_
      obtain ⟨k, rfl⟩ := Int.eq_ofNat_of_zero_le hr.1
      have hplo := (hA.plS hp).1.2.1
      have hmp := (hM.plS hp).1.2.2.2.2 k (by omega)
      have hmw := hM.w.2.1.2.2.2.1 k (by omega)
      rw [qRoad_yes hp hr, Int.toNat_natCast] at K
      refine r_if_ne rfl (by omega) (fun h23 => ?_) (fun h23 => ?_)
      · refine r_iload_n rfl rfl ?_
        refine r_iconst rfl ?_
        refine r_icmp_ne rfl (by omega) (by omega) (fun h40 => ?_) (fun h40 => ?_)
        · refine r_aload_n rfl rfl ?_
          refine r_getR rfl (by first | assumption | exact hs.o rfl) (by first | assumption | exact hs.g rfl) ?_
          refine r_bipush rfl ?_
          refine r_iload_n rfl rfl ?_
          refine r_iadd rfl ?_
          refine r_iald rfl (by first | assumption | exact hs.a rfl) (by omega) (by omega) ((zix (n := 42 + k) (by omega)).trans hmw) ?_
          refine r_iret rfl ?_
          first | (rw [if_pos (by omega)] at K; exact K) | (rw [if_neg (by omega), if_pos (by omega)] at K; exact K) | (rw [if_neg (by omega), if_neg (by omega), if_pos (by omega)] at K; exact K) | (rw [qRoad_no (fun pl' rd0' q z => by omega)] at K; exact K) | (rw [qRoad_no (fun pl' rd0' q z => hn pl' rd0' q z.1)] at K; exact K)
        · refine r_aload_n rfl rfl ?_
          refine r_getR rfl (by first | assumption | exact hs.o rfl) (by first | assumption | exact hs.g rfl) ?_
          refine r_bipush rfl ?_
          refine r_iload_n rfl rfl ?_
          refine r_iadd rfl ?_
          refine r_iald rfl (by first | assumption | exact hs.a rfl) (by omega) (by omega) ((zix (n := 72 + k) (by omega)).trans hmp.2) ?_
          refine r_goto rfl ?_
          refine r_iret rfl ?_
          first | (rw [if_pos (by omega)] at K; exact K) | (rw [if_neg (by omega), if_pos (by omega)] at K; exact K) | (rw [if_neg (by omega), if_neg (by omega), if_pos (by omega)] at K; exact K) | (rw [qRoad_no (fun pl' rd0' q z => by omega)] at K; exact K) | (rw [qRoad_no (fun pl' rd0' q z => hn pl' rd0' q z.1)] at K; exact K)
      · refine r_aload_n rfl rfl ?_
        refine r_getR rfl (by first | assumption | exact hs.o rfl) (by first | assumption | exact hs.g rfl) ?_
        refine r_bipush rfl ?_
        refine r_iload_n rfl rfl ?_
        refine r_iadd rfl ?_
        refine r_iald rfl (by first | assumption | exact hs.a rfl) (by omega) (by omega) ((zix (n := 67 + k) (by omega)).trans hmp.1) ?_
        refine r_goto rfl ?_
        refine r_iret rfl ?_
        first | (rw [if_pos (by omega)] at K; exact K) | (rw [if_neg (by omega), if_pos (by omega)] at K; exact K) | (rw [if_neg (by omega), if_neg (by omega), if_pos (by omega)] at K; exact K) | (rw [qRoad_no (fun pl' rd0' q z => by omega)] at K; exact K) | (rw [qRoad_no (fun pl' rd0' q z => hn pl' rd0' q z.1)] at K; exact K)
    · refine r_if_n rfl (by decide) ?_
      refine r_iconst rfl ?_
      refine r_iret rfl ?_
      first | (rw [if_pos (by omega)] at K; exact K) | (rw [if_neg (by omega), if_pos (by omega)] at K; exact K) | (rw [if_neg (by omega), if_neg (by omega), if_pos (by omega)] at K; exact K) | (rw [qRoad_no (fun pl' rd0' q z => by omega)] at K; exact K) | (rw [qRoad_no (fun pl' rd0' q z => hn pl' rd0' q z.1)] at K; exact K)
  · refine r_if_y rfl (by decide) ?_
    refine r_iconst rfl ?_
    refine r_iret rfl ?_
    first | (rw [if_pos (by omega)] at K; exact K) | (rw [if_neg (by omega), if_pos (by omega)] at K; exact K) | (rw [if_neg (by omega), if_neg (by omega), if_pos (by omega)] at K; exact K) | (rw [qRoad_no (fun pl' rd0' q z => by omega)] at K; exact K) | (rw [qRoad_no (fun pl' rd0' q z => hn pl' rd0' q z.1)] at K; exact K)
theorem c_gapIn (hd : 2 ≤ d) (hs : Sh σ g) (hM : MI f a) (hA : AOk N a) {x : Int} (hx : IR x) (K : Q (some (zi (qGap a x))) σ f g) : ZCt d 183 [zr (some 219), zi x] σ f g Q := by
  refine ZCt.of' (L0 := [_, _]) (by omega) rfl rfl rfl (fun d hd1 => ?_)
  refine r_aload_n rfl rfl ?_
  refine r_iload_n rfl rfl ?_
  refine r_callV1 rfl rfl (by first | assumption | exact hs.o rfl) rfl (c_cellA (by omega) hs hM hA hx (fun pl rd0 hp hcell => ?_) (fun hnc => ?_))
  · refine r_if_n rfl (by decide) ?_
    refine r_aload_n rfl rfl ?_
    refine r_getR rfl (by first | assumption | exact hs.o rfl) (by first | assumption | exact hs.g rfl) ?_
    refine r_bipush rfl ?_
    refine r_iload_n rfl rfl ?_
    refine r_iadd rfl ?_
    obtain ⟨hplo, hvr, hst⟩ := hA.plS hp
    have hp1 := hplo.1
    obtain ⟨c, rfl⟩ := Int.eq_ofNat_of_zero_le hcell.1
    have e : qGap a (c : Int) = a.w.rd 6 c := by unfold qGap; rw [hp]; exact if_pos hcell
    rw [e] at K
    refine r_iald rfl (by first | assumption | exact hs.a rfl) (by omega) (by omega) ((zix (n := 47 + c) (by omega)).trans (hM.w.2.1.2.2.2.2 c (by omega))) ?_
    refine r_goto rfl ?_
    refine r_iret rfl ?_
    exact K
  · refine r_if_y rfl (by decide) ?_
    refine r_iconst rfl ?_
    refine r_iret rfl ?_
    have e : qGap a x = -1 := by
      unfold qGap
      cases hp : a.w.pn with
      | none => rfl
      | some z => exact if_neg (hnc z.1 z.2 hp)
    rw [e] at K
    exact K
theorem rSet_bits {rd : Rd} : ∀ k, k ≤ 6 → Bits (rSet rd k) (fun i => decide (i < k ∧ rd 0 i ≠ -1)) := by
  intro k
  induction k with
  | zero => intro _; exact Bits.zero.imp (fun c hc => by simp)
  | succ k ih =>
    intro hk
    simp only [rSet]
    by_cases e : rd 0 k = -1
    · rw [if_pos e]
      refine (ih (by omega)).imp (fun c hc => ?_)
      by_cases q : c = k
      · subst q; simp [e]
      · simp only [decide_eq_decide]; constructor <;> intro z <;> exact ⟨by omega, z.2⟩
    · rw [if_neg e]
      refine ((ih (by omega)).set (show k < 20 by omega)).imp (fun c hc => ?_)
      by_cases q : c = k
      · subst q; simp [e]
      · have q' : (c == k) = false := by simp [q]
        simp only [q', Bool.or_false, decide_eq_decide]; constructor <;> intro z <;> exact ⟨by omega, z.2⟩
theorem Bits.or0 {x : Int} {p : Nat → Bool} (h : Bits x p) : z_or x 0 = x := by
  obtain ⟨n, rfl, h1, h2⟩ := h
  have := z_or_nat (a := n) (b := 0) (by omega) (by omega)
  rw [show ((0 : Nat) : Int) = 0 from rfl] at this
  rw [this]
  simp
theorem l_onesOn (hd1 : 1 ≤ d) (hs : Sh σ g) (hm : MRd (f 229) rd) (ho : RdOk n m N rd) (K : Q (some (zi (rSet rd 6))) σ f g) (k : Nat) (hk : k ≤ 6) {v : Int} (hv : v = rSet rd k) : ZWp d zt252 4 [zr (some 219), zi v, zi (k : Int)] [] σ f g Q := by
  refine r_iload_n rfl rfl ?_
  refine r_bipush rfl ?_
  refine r_icmp_ge rfl (by omega) (by omega) (fun hlt => ?_) (fun hlt => ?_)
  · have e : k = 6 := by omega
    subst e
    subst hv
    refine r_iload_n rfl rfl ?_
    refine r_iret rfl ?_
    exact K
  · refine r_iload_n rfl rfl ?_
    refine r_aload_n rfl rfl ?_
    refine r_iload_n rfl rfl ?_
    refine r_callV1 rfl rfl (by first | assumption | exact hs.o rfl) rfl (c_mOn (by omega) hs hm ho (by omega) (fun hon => ?_) (fun hoff => ?_))
    · refine r_if_n rfl (by decide) ?_
      refine r_iconst rfl ?_
      refine r_iload_n rfl rfl ?_
      refine r_ishl rfl ?_
      refine r_goto rfl ?_
      refine r_ior rfl ?_
      refine r_istore_n (L' := [_, _, _]) rfl rfl rfl ?_
      refine r_iinc (L' := [_, _, _]) rfl rfl rfl ?_
      refine r_goto rfl ?_
      first | exact l_onesOn hd1 hs hm ho K (k + 1) (by omega) (by rw [hv]; simp only [rSet]; rw [if_neg (by omega)]) | (rw [show z_or v 0 = v by rw [hv]; exact (rSet_bits k (by omega)).or0]; exact l_onesOn hd1 hs hm ho K (k + 1) (by omega) (by rw [hv]; simp only [rSet]; rw [if_pos hoff]))
    · refine r_if_y rfl (by decide) ?_
      refine r_iconst rfl ?_
      refine r_ior rfl ?_
      refine r_istore_n (L' := [_, _, _]) rfl rfl rfl ?_
      refine r_iinc (L' := [_, _, _]) rfl rfl rfl ?_
      refine r_goto rfl ?_
      first | exact l_onesOn hd1 hs hm ho K (k + 1) (by omega) (by rw [hv]; simp only [rSet]; rw [if_neg (by omega)]) | (rw [show z_or v 0 = v by rw [hv]; exact (rSet_bits k (by omega)).or0]; exact l_onesOn hd1 hs hm ho K (k + 1) (by omega) (by rw [hv]; simp only [rSet]; rw [if_pos hoff]))
termination_by 6 - k
theorem c_onesOn (hd : 2 ≤ d) (hs : Sh σ g) (hm : MRd (f 229) rd) (ho : RdOk n m N rd) (K : Q (some (zi (rSet rd 6))) σ f g) : ZCt d 252 [zr (some 219)] σ f g Q := by
  refine ZCt.of' (L0 := [_, _, _]) (by omega) rfl rfl rfl (fun d hd1 => ?_)
  refine r_iconst rfl ?_
  refine r_istore_n (L' := [_, _, _]) rfl rfl rfl ?_
  refine r_iconst rfl ?_
  refine r_istore_n (L' := [_, _, _]) rfl rfl rfl ?_
  exact l_onesOn (by omega) hs hm ho K 0 (by omega) rfl
theorem l_waitAll (hd1 : 0 ≤ d) (hs : Sh σ g) {r : Nat} (h2 : f 229 2 = (r : Int)) (hr : r ≤ 5) (hw : ∀ j, j < 5 → f 229 (42 + j) = rd 4 j) (K : Q (some (zi (rAllW rd r))) σ f g) (k : Nat) (hk : k ≤ r) {v : Int} (hv : v = rAllW rd k) : ZWp d zt250 4 [zr (some 219), zi v, zi (k : Int)] [] σ f g Q := by
  refine r_iload_n rfl rfl ?_
  refine r_aload_n rfl rfl ?_
  refine r_getR rfl (by first | assumption | exact hs.o rfl) (by first | assumption | exact hs.g rfl) ?_
  refine r_iconst rfl ?_
  refine r_iald rfl (by first | assumption | exact hs.a rfl) (by omega) (by omega) ((zix (n := 2) rfl).trans h2) ?_
  refine r_icmp_ge rfl (by omega) (by omega) (fun hlt => ?_) (fun hlt => ?_)
  · have e : k = r := by omega
    subst e
    subst hv
    refine r_iload_n rfl rfl ?_
    refine r_iret rfl ?_
    exact K
  · refine r_iload_n rfl rfl ?_
    refine r_aload_n rfl rfl ?_
    refine r_getR rfl (by first | assumption | exact hs.o rfl) (by first | assumption | exact hs.g rfl) ?_
    refine r_bipush rfl ?_
    refine r_iload_n rfl rfl ?_
    refine r_iadd rfl ?_
    refine r_iald rfl (by first | assumption | exact hs.a rfl) (by omega) (by omega) ((zix (n := 42 + k) (by omega)).trans (hw k (by omega))) ?_
    refine r_iadd rfl ?_
    refine r_istore_n (L' := [_, _, _]) rfl rfl rfl ?_
    refine r_iinc (L' := [_, _, _]) rfl rfl rfl ?_
    refine r_goto rfl ?_
    exact l_waitAll hd1 hs h2 hr hw K (k + 1) (by omega) (by rw [hv]; rfl)
termination_by r - k
theorem c_waitAll (hd : 1 ≤ d) (hs : Sh σ g) {r : Nat} (h2 : f 229 2 = (r : Int)) (hr : r ≤ 5) (hw : ∀ j, j < 5 → f 229 (42 + j) = rd 4 j) (K : Q (some (zi (rAllW rd r))) σ f g) : ZCt d 250 [zr (some 219)] σ f g Q := by
  refine ZCt.of' (L0 := [_, _, _]) (by omega) rfl rfl rfl (fun d hd1 => ?_)
  refine r_iconst rfl ?_
  refine r_istore_n (L' := [_, _, _]) rfl rfl rfl ?_
  refine r_iconst rfl ?_
  refine r_istore_n (L' := [_, _, _]) rfl rfl rfl ?_
  exact l_waitAll (by omega) hs h2 hr hw K 0 (by omega) rfl
theorem rAllW_z {r : Nat} (hz : ∀ j, r ≤ j → rd 4 j = 0) : ∀ k, r ≤ k → rAllW rd k = rAllW rd r := by
  intro k
  induction k with
  | zero => intro h; rw [show r = 0 by omega]
  | succ k ih =>
    intro h
    by_cases e : r = k + 1
    · rw [e]
    · simp only [rAllW]
      rw [ih (by omega), hz k (by omega), Int.add_zero]
theorem c_waitsA (hd : 1 ≤ d) (hs : Sh σ g) (hM : MI f a) (hA : AOk N a)  (K : Q (some (zi (rAllW a.w.rd 5))) σ f g) : ZCt d 250 [zr (some 219)] σ f g Q := by
  cases hp : a.w.pn with
  | none =>
    refine c_waitAll (rd := a.w.rd) (r := 0) hd hs (hM.pln hp).2.2.1 (by omega) hM.w.2.1.2.2.2.1 ?_
    rw [← rAllW_z (rd := a.w.rd) (r := 0) (fun j _ => by rw [hA.pln hp]; rfl) 5 (by omega)]
    exact K
  | some q =>
    obtain ⟨pl, rd0⟩ := q
    have hv := (hA.plS hp).2.1
    have h2 := (hA.plS hp).1.2.1
    refine c_waitAll (rd := a.w.rd) (r := pl.2.1.toNat) hd hs (by rw [(hM.plS hp).1.2.2.1]; omega) (by omega) hM.w.2.1.2.2.2.1 ?_
    rw [← rAllW_z (rd := a.w.rd) (r := pl.2.1.toNat) (fun j q => hv.2.2.2 j (by omega)) 5 (by omega)]
    exact K
theorem c_count (hd : 3 ≤ d) (hs : Sh σ g) (hM : MI f a) (hA : AOk N a)  {y : Int} (hy : IR y) (K : Q (some (zi (qCount a y))) σ f g) : ZCt d 251 [zr (some 219), zi y] σ f g Q := by
  refine ZCt.of' (L0 := [_, _]) (by omega) rfl rfl rfl (fun d hd1 => ?_)
  obtain ⟨n, m, ho, hdj⟩ := hA.2.2.1.rd (by have := hA.2.2.2.2.2.2.2; omega)
  have hm := hM.w.2.1
  have hcr : f 229 1 = cellsN a ∧ f 229 2 = roadsN a ∧ f 229 3 = toldN a := by
    cases hp : a.w.pn with
    | none => rw [cells0 hp, roads0 hp, told0 hp]; exact (hM.pln hp).2
    | some q =>
      obtain ⟨pl, rd0⟩ := q
      have := (hM.plS hp).1
      rw [cells1 hp, roads1 hp, told1 hp]
      exact ⟨this.2.1, this.2.2.1, this.2.2.2.1⟩
  refine r_iload_n rfl rfl ?_
  refine r_tsw rfl (by omega) rfl (And.intro (fun s1_0 => ?_) (fun s1n0 => (And.intro (fun s1_1 => ?_) (fun s1n1 => (And.intro (fun s1_2 => ?_) (fun s1n2 => (And.intro (fun s1_3 => ?_) (fun s1n3 => (And.intro (fun s1_4 => ?_) (fun s1n4 => (And.intro (fun s1_5 => ?_) (fun s1n5 => (And.intro (fun s1_6 => ?_) (fun s1n6 => (And.intro (fun s1_7 => ?_) (fun s1n7 => (And.intro (fun s1_8 => ?_) (fun s1n8 => (And.intro (fun s1_9 => ?_) (fun s1n9 => (And.intro (fun s1_10 => ?_) (fun s1n10 => (And.intro (fun s1_11 => ?_) (fun s1n11 => (And.intro (fun s1_12 => ?_) (fun s1n12 => (And.intro (fun s1_13 => ?_) (fun s1n13 => ?_))))))))))))))))))))))))))))
  · refine r_aload_n rfl rfl ?_
    refine r_getR rfl (by first | assumption | exact hs.o rfl) (by first | assumption | exact hs.g rfl) ?_
    refine r_iload_n rfl rfl ?_
    refine r_iconst rfl ?_
    refine r_iadd rfl ?_
    refine r_iald rfl (by first | assumption | exact hs.a rfl) (by omega) (by omega) ((zix (n := 1) (by omega)).trans hcr.1) ?_
    refine r_iret rfl ?_
    have e : y = 0 := by omega
    subst e
    exact K
  · refine r_aload_n rfl rfl ?_
    refine r_getR rfl (by first | assumption | exact hs.o rfl) (by first | assumption | exact hs.g rfl) ?_
    refine r_iload_n rfl rfl ?_
    refine r_iconst rfl ?_
    refine r_iadd rfl ?_
    refine r_iald rfl (by first | assumption | exact hs.a rfl) (by omega) (by omega) ((zix (n := 2) (by omega)).trans hcr.2.1) ?_
    refine r_iret rfl ?_
    have e : y = 1 := by omega
    subst e
    exact K
  · refine r_aload_n rfl rfl ?_
    refine r_getR rfl (by first | assumption | exact hs.o rfl) (by first | assumption | exact hs.g rfl) ?_
    refine r_iload_n rfl rfl ?_
    refine r_iconst rfl ?_
    refine r_iadd rfl ?_
    refine r_iald rfl (by first | assumption | exact hs.a rfl) (by omega) (by omega) ((zix (n := 3) (by omega)).trans hcr.2.2) ?_
    refine r_iret rfl ?_
    have e : y = 2 := by omega
    subst e
    exact K
  · refine r_aload_n rfl rfl ?_
    refine r_getI rfl (by first | assumption | exact hs.o rfl) hM.rk ?_
    refine r_iret rfl ?_
    have e : y = 3 := by omega
    subst e
    exact K
  · refine r_aload_n rfl rfl ?_
    refine r_getI rfl (by first | assumption | exact hs.o rfl) hM.fo ?_
    refine r_iret rfl ?_
    have e : y = 4 := by omega
    subst e
    exact K
  · refine r_aload_n rfl rfl ?_
    refine r_getR rfl (by first | assumption | exact hs.o rfl) (by first | assumption | exact hs.g rfl) ?_
    refine r_bipush rfl ?_
    refine r_iald rfl (by first | assumption | exact hs.a rfl) (by omega) (by omega) ((zix (n := 10) rfl).trans hm.1) ?_
    refine r_iret rfl ?_
    have e : y = 5 := by omega
    subst e
    exact K
  · refine r_aload_n rfl rfl ?_
    refine r_callV0 rfl rfl (by first | assumption | exact hs.o rfl) rfl (c_onesOn (by omega) hs hm ho ?_)
    refine r_iret rfl ?_
    have e : y = 6 := by omega
    subst e
    exact K
  · refine r_aload_n rfl rfl ?_
    refine r_getR rfl (by first | assumption | exact hs.o rfl) (by first | assumption | exact hs.g rfl) ?_
    refine r_bipush rfl ?_
    refine r_iald rfl (by first | assumption | exact hs.a rfl) (by omega) (by omega) ((zix (n := 11) rfl).trans hm.2.1) ?_
    refine r_iret rfl ?_
    have e : y = 7 := by omega
    subst e
    exact K
  · refine r_aload_n rfl rfl ?_
    refine r_callV0 rfl rfl (by first | assumption | exact hs.o rfl) rfl (c_gaps (by omega) hs hm ho.2.2.2.2.1 ?_)
    refine r_iret rfl ?_
    have e : y = 8 := by omega
    subst e
    exact K
  · refine r_aload_n rfl rfl ?_
    refine r_callV0 rfl rfl (by first | assumption | exact hs.o rfl) rfl (c_waitsA (by omega) hs hM hA ?_)
    refine r_iret rfl ?_
    have e : y = 9 := by omega
    subst e
    exact K
  · refine r_aload_n rfl rfl ?_
    refine r_getR rfl (by first | assumption | exact hs.o rfl) (by first | assumption | exact hs.g rfl) ?_
    refine r_sipush rfl ?_
    refine r_iald rfl (by first | assumption | exact hs.a rfl) (by omega) (by omega) ((zix (n := 145) rfl).trans hM.w.2.2.1) ?_
    refine r_iret rfl ?_
    have e : y = 10 := by omega
    subst e
    exact K
  · refine r_aload_n rfl rfl ?_
    refine r_getI rfl (by first | assumption | exact hs.o rfl) hM.uc ?_
    refine r_iret rfl ?_
    have e : y = 11 := by omega
    subst e
    exact K
  · refine r_aload_n rfl rfl ?_
    refine r_getI rfl (by first | assumption | exact hs.o rfl) hM.x ?_
    refine r_iret rfl ?_
    have e : y = 12 := by omega
    subst e
    exact K
  · refine r_aload_n rfl rfl ?_
    refine r_getI rfl (by first | assumption | exact hs.o rfl) hM.tl ?_
    refine r_iret rfl ?_
    have e : y = 13 := by omega
    subst e
    exact K
  · refine r_iconst rfl ?_
    refine r_iret rfl ?_
    have e : qCount a y = -1 := by
      unfold qCount
      rw [if_neg (by omega), if_neg (by omega), if_neg (by omega), if_neg (by omega), if_neg (by omega), if_neg (by omega), if_neg (by omega), if_neg (by omega), if_neg (by omega), if_neg (by omega), if_neg (by omega), if_neg (by omega), if_neg (by omega), if_neg (by omega)]
    rw [e] at K
    exact K
theorem MW.nt {s s' : Nat → Int} {w : AW} {ns : Nat} {nt : Nat → Nat → Int} (h : MW s w) (e : ∀ i, i < 115 → s' i = s i) (h1 : s' 145 = (ns : Int)) (h2 : ∀ i, i < ns → s' (115 + 3 * i) = nt 0 i ∧ s' (116 + 3 * i) = nt 1 i ∧ s' (117 + 3 * i) = nt 2 i) : MW s' (w.sNt ns nt) := by
  obtain ⟨k1, k2, k3, k4⟩ := h
  refine ⟨?_, k2.congr (fun i q1 q2 => e i (by omega)), h1, h2⟩
  show (match w.pn with
    | none => s' 0 = 0 ∧ s' 1 = 0 ∧ s' 2 = 0 ∧ s' 3 = 0
    | some (pl, rd0) => MPl s' pl ∧ MT s' rd0)
  cases hp : w.pn with
  | none => rw [hp] at k1; simp only at k1 ⊢; rw [e 0 (by omega), e 1 (by omega), e 2 (by omega), e 3 (by omega)]; exact k1
  | some x =>
    obtain ⟨pl, rd0⟩ := x
    rw [hp] at k1
    obtain ⟨⟨q0, q1, q2, q3, q4⟩, q5, q6⟩ := k1
    refine ⟨⟨?_, ?_, ?_, ?_, fun j hj => ?_⟩, fun k hk hne => ?_, fun c hc => ?_⟩
    · rw [e 0 (by omega)]; exact q0
    · rw [e 1 (by omega)]; exact q1
    · rw [e 2 (by omega)]; exact q2
    · rw [e 3 (by omega)]; exact q3
    · rw [e (67 + j) (by omega), e (72 + j) (by omega)]; exact q4 j hj
    · rw [e (77 + 3 * k) (by omega), e (78 + 3 * k) (by omega), e (79 + 3 * k) (by omega)]; exact q5 k hk hne
    · rw [e (95 + c) (by omega)]; exact q6 c hc
theorem c_note (hd : 3 ≤ d) (hs : Sh σ g) (hM : MI f a) (hA : AOk N a)  {n c e : Int} (hn : IR n) (hc : IR c) (he : IR e) (K : ∀ f', MI f' (sNote a n c e).2 → FrX f f' → Q (some (zi (sNote a n c e).1)) σ f' g) : ZCt d 238 [zr (some 219), zi n, zi c, zi e] σ f g Q := by
  refine ZCt.of' (L0 := [_, _, _, _, _]) (by omega) rfl rfl rfl (fun d hd1 => ?_)
  have hns := hA.2.2.1.1.1
  have h145 := hM.w.2.2.1
  have no' : n ≠ -1 → ¬ ((0 ≤ n ∧ n ≤ 60) ∧ (0 ≤ c ∧ c < 6) ∧ (e = -1 ∨ (0 ≤ e ∧ e < cellsN a)) ∧ (0 < cellsN a) ∧ a.w.ns < 10) → Q (some (zi (-2))) σ f g := by
    intro q1 q2
    rw [show sNote a n c e = (-2, a) from (if_neg q1).trans (if_neg q2)] at K
    exact K f hM (FrX.rf f)
  refine r_iload_n rfl rfl ?_
  refine r_iconst rfl ?_
  refine r_icmp_ne rfl (by omega) (by omega) (fun hm1 => ?_) (fun hm1 => ?_)
  · refine r_iload_n rfl rfl ?_
    refine r_i2l rfl (by omega) ?_
    refine r_lconst rfl ?_
    refine r_ldc2 rfl ?_
    refine r_callS3 rfl rfl rfl (c_in (by omega) (by omega) (by omega) (by omega) (fun hw => ?_) (fun hw => ?_))
    · refine r_if_n rfl (by decide) ?_
      refine r_aload_n rfl rfl ?_
      refine r_iload_n rfl rfl ?_
      refine r_callV1 rfl rfl (by first | assumption | exact hs.o rfl) rfl (c_carA (by omega) hs hM hA hc (fun pl rd0 hp hcar => ?_) (fun hnc => ?_))
      · refine r_if_n rfl (by decide) ?_
        refine r_iload_n rfl rfl ?_
        refine r_iconst rfl ?_
        have hplo := (hA.plS hp).1.1
        have ec := cells1 hp
        refine r_icmp_eq rfl (by omega) (by omega) (fun he1 => ?_) (fun he1 => ?_)
        · refine r_aload_n rfl rfl ?_
          refine r_getR rfl (by first | assumption | exact hs.o rfl) (by first | assumption | exact hs.g rfl) ?_
          refine r_sipush rfl ?_
          refine r_iald rfl (by first | assumption | exact hs.a rfl) (by omega) (by omega) ((zix (n := 145) rfl).trans h145) ?_
          refine r_bipush rfl ?_
          refine r_icmp_ne rfl (by omega) (by omega) (fun hfull => ?_) (fun hfull => ?_)
          · refine r_bipush rfl ?_
            refine r_iconst rfl ?_
            refine r_aload_n rfl rfl ?_
            refine r_getR rfl (by first | assumption | exact hs.o rfl) (by first | assumption | exact hs.g rfl) ?_
            refine r_sipush rfl ?_
            refine r_iald rfl (by first | assumption | exact hs.a rfl) (by omega) (by omega) ((zix (n := 145) rfl).trans h145) ?_
            refine r_imul rfl ?_
            refine r_iadd rfl ?_
            refine r_istore (L' := [_, _, _, _, _]) rfl rfl rfl ?_
            refine r_aload_n rfl rfl ?_
            refine r_getR rfl (by first | assumption | exact hs.o rfl) (by first | assumption | exact hs.g rfl) ?_
            refine r_iload rfl rfl ?_
            refine r_iload_n rfl rfl ?_
            refine r_iastN (115 + 3 * a.w.ns) rfl (by first | assumption | exact hs.a rfl) (by omega) (by omega) (by omega) ?_
            refine r_aload_n rfl rfl ?_
            refine r_getR rfl (by first | assumption | exact hs.o rfl) (by first | assumption | exact hs.g rfl) ?_
            refine r_iload rfl rfl ?_
            refine r_iconst rfl ?_
            refine r_iadd rfl ?_
            refine r_iload_n rfl rfl ?_
            refine r_iastN (116 + 3 * a.w.ns) rfl (by first | assumption | exact hs.a rfl) (by omega) (by omega) (by omega) ?_
            refine r_aload_n rfl rfl ?_
            refine r_getR rfl (by first | assumption | exact hs.o rfl) (by first | assumption | exact hs.g rfl) ?_
            refine r_iload rfl rfl ?_
            refine r_iconst rfl ?_
            refine r_iadd rfl ?_
            refine r_iload_n rfl rfl ?_
            refine r_iastN (117 + 3 * a.w.ns) rfl (by first | assumption | exact hs.a rfl) (by omega) (by omega) (by omega) ?_
            refine r_aload_n rfl rfl ?_
            refine r_getR rfl (by first | assumption | exact hs.o rfl) (by first | assumption | exact hs.g rfl) ?_
            refine r_sipush rfl ?_
            refine r_dup2 rfl ?_
            refine r_iald rfl (by first | assumption | exact hs.a rfl) (by omega) (by omega) ((zix (n := 145) rfl).trans ((up2_ne _ _ (by omega)).trans ((up2_ne _ _ (by omega)).trans ((up2_ne _ _ (by omega)).trans h145)))) ?_
            refine r_iconst rfl ?_
            refine r_iadd rfl ?_
            refine r_iastN (145) rfl (by first | assumption | exact hs.a rfl) (by omega) (by omega) (by omega) ?_
            refine r_aload_n rfl rfl ?_
            refine r_getR rfl (by first | assumption | exact hs.o rfl) (by first | assumption | exact hs.g rfl) ?_
            refine r_sipush rfl ?_
            refine r_iald rfl (by first | assumption | exact hs.a rfl) (by omega) (by omega) ((zix (n := 145) rfl).trans (up2_same _ _ _ _)) ?_
            refine r_iret rfl ?_
            have hcond : (0 ≤ n ∧ n ≤ 60) ∧ (0 ≤ c ∧ c < 6) ∧ (e = -1 ∨ (0 ≤ e ∧ e < cellsN a)) ∧ (0 < cellsN a) ∧ a.w.ns < 10 := by
              rw [ec]
              first
              | omega
              | (rw [hp] at hp1; cases hp1; omega)
            rw [show sNote a n c e = ((a.w.ns : Int) + 1, a.sW (ntAdd a.w n c e)) from (if_neg hm1).trans (if_pos hcond)] at K
            refine K _ (hM.wd (fun c q => by rw [up2_o _ _ q, up2_o _ _ q, up2_o _ _ q, up2_o _ _ q]) (hM.w.nt (fun i hi => ?_) ?_ (fun i hi => ?_))) (((((FrX.rf f).up (by omega)).up (by omega)).up (by omega)).up (by omega))
            · rw [up2_ne _ _ (by omega), up2_ne _ _ (by omega), up2_ne _ _ (by omega), up2_ne _ _ (by omega)]
            · rw [up2_same]; omega
            · rw [up2_ne _ _ (show ¬ (229 = 229 ∧ 115 + 3 * i = 145) by omega), up2_ne _ _ (show ¬ (229 = 229 ∧ 116 + 3 * i = 145) by omega), up2_ne _ _ (show ¬ (229 = 229 ∧ 117 + 3 * i = 145) by omega)]
              by_cases q : i = a.w.ns
              · subst q
                refine ⟨?_, ?_, ?_⟩
                · rw [up2_ne _ _ (by omega), up2_ne _ _ (by omega), up2_same]; simp [up2]
                · rw [up2_ne _ _ (by omega), up2_same]; simp [up2]
                · rw [up2_same]; simp [up2]
              · have := hM.w.2.2.2 i (by omega)
                refine ⟨?_, ?_, ?_⟩
                · rw [up2_ne _ _ (by omega), up2_ne _ _ (by omega), up2_ne _ _ (by omega), this.1]; simp [up2, q]
                · rw [up2_ne _ _ (by omega), up2_ne _ _ (by omega), up2_ne _ _ (by omega), this.2.1]; simp [up2, q]
                · rw [up2_ne _ _ (by omega), up2_ne _ _ (by omega), up2_ne _ _ (by omega), this.2.2]; simp [up2, q]
          · refine r_bipush rfl ?_
            refine r_iret rfl ?_
            refine no' hm1 (fun q => ?_)
            first
            | omega
            | (rcases hnc with hnc | hnc
               · rw [cells0 hnc] at q; omega
               · omega)
            | (rw [ec] at q; have := hncl pl rd0 hp; omega)
        · refine r_aload_n rfl rfl ?_
          refine r_iload_n rfl rfl ?_
          refine r_callV1 rfl rfl (by first | assumption | exact hs.o rfl) rfl (c_cellA (by omega) hs hM hA he (fun pl1 rd1 hp1 hcell => ?_) (fun hncl => ?_))
          · refine r_if_n rfl (by decide) ?_
            refine r_aload_n rfl rfl ?_
            refine r_getR rfl (by first | assumption | exact hs.o rfl) (by first | assumption | exact hs.g rfl) ?_
            refine r_sipush rfl ?_
            refine r_iald rfl (by first | assumption | exact hs.a rfl) (by omega) (by omega) ((zix (n := 145) rfl).trans h145) ?_
            refine r_bipush rfl ?_
            refine r_icmp_ne rfl (by omega) (by omega) (fun hfull => ?_) (fun hfull => ?_)
            · refine r_bipush rfl ?_
              refine r_iconst rfl ?_
              refine r_aload_n rfl rfl ?_
              refine r_getR rfl (by first | assumption | exact hs.o rfl) (by first | assumption | exact hs.g rfl) ?_
              refine r_sipush rfl ?_
              refine r_iald rfl (by first | assumption | exact hs.a rfl) (by omega) (by omega) ((zix (n := 145) rfl).trans h145) ?_
              refine r_imul rfl ?_
              refine r_iadd rfl ?_
              refine r_istore (L' := [_, _, _, _, _]) rfl rfl rfl ?_
              refine r_aload_n rfl rfl ?_
              refine r_getR rfl (by first | assumption | exact hs.o rfl) (by first | assumption | exact hs.g rfl) ?_
              refine r_iload rfl rfl ?_
              refine r_iload_n rfl rfl ?_
              refine r_iastN (115 + 3 * a.w.ns) rfl (by first | assumption | exact hs.a rfl) (by omega) (by omega) (by omega) ?_
              refine r_aload_n rfl rfl ?_
              refine r_getR rfl (by first | assumption | exact hs.o rfl) (by first | assumption | exact hs.g rfl) ?_
              refine r_iload rfl rfl ?_
              refine r_iconst rfl ?_
              refine r_iadd rfl ?_
              refine r_iload_n rfl rfl ?_
              refine r_iastN (116 + 3 * a.w.ns) rfl (by first | assumption | exact hs.a rfl) (by omega) (by omega) (by omega) ?_
              refine r_aload_n rfl rfl ?_
              refine r_getR rfl (by first | assumption | exact hs.o rfl) (by first | assumption | exact hs.g rfl) ?_
              refine r_iload rfl rfl ?_
              refine r_iconst rfl ?_
              refine r_iadd rfl ?_
              refine r_iload_n rfl rfl ?_
              refine r_iastN (117 + 3 * a.w.ns) rfl (by first | assumption | exact hs.a rfl) (by omega) (by omega) (by omega) ?_
              refine r_aload_n rfl rfl ?_
              refine r_getR rfl (by first | assumption | exact hs.o rfl) (by first | assumption | exact hs.g rfl) ?_
              refine r_sipush rfl ?_
              refine r_dup2 rfl ?_
              refine r_iald rfl (by first | assumption | exact hs.a rfl) (by omega) (by omega) ((zix (n := 145) rfl).trans ((up2_ne _ _ (by omega)).trans ((up2_ne _ _ (by omega)).trans ((up2_ne _ _ (by omega)).trans h145)))) ?_
              refine r_iconst rfl ?_
              refine r_iadd rfl ?_
              refine r_iastN (145) rfl (by first | assumption | exact hs.a rfl) (by omega) (by omega) (by omega) ?_
              refine r_aload_n rfl rfl ?_
              refine r_getR rfl (by first | assumption | exact hs.o rfl) (by first | assumption | exact hs.g rfl) ?_
              refine r_sipush rfl ?_
              refine r_iald rfl (by first | assumption | exact hs.a rfl) (by omega) (by omega) ((zix (n := 145) rfl).trans (up2_same _ _ _ _)) ?_
              refine r_iret rfl ?_
              have hcond : (0 ≤ n ∧ n ≤ 60) ∧ (0 ≤ c ∧ c < 6) ∧ (e = -1 ∨ (0 ≤ e ∧ e < cellsN a)) ∧ (0 < cellsN a) ∧ a.w.ns < 10 := by
                rw [ec]
                first
                | omega
                | (rw [hp] at hp1; cases hp1; omega)
              rw [show sNote a n c e = ((a.w.ns : Int) + 1, a.sW (ntAdd a.w n c e)) from (if_neg hm1).trans (if_pos hcond)] at K
              refine K _ (hM.wd (fun c q => by rw [up2_o _ _ q, up2_o _ _ q, up2_o _ _ q, up2_o _ _ q]) (hM.w.nt (fun i hi => ?_) ?_ (fun i hi => ?_))) (((((FrX.rf f).up (by omega)).up (by omega)).up (by omega)).up (by omega))
              · rw [up2_ne _ _ (by omega), up2_ne _ _ (by omega), up2_ne _ _ (by omega), up2_ne _ _ (by omega)]
              · rw [up2_same]; omega
              · rw [up2_ne _ _ (show ¬ (229 = 229 ∧ 115 + 3 * i = 145) by omega), up2_ne _ _ (show ¬ (229 = 229 ∧ 116 + 3 * i = 145) by omega), up2_ne _ _ (show ¬ (229 = 229 ∧ 117 + 3 * i = 145) by omega)]
                by_cases q : i = a.w.ns
                · subst q
                  refine ⟨?_, ?_, ?_⟩
                  · rw [up2_ne _ _ (by omega), up2_ne _ _ (by omega), up2_same]; simp [up2]
                  · rw [up2_ne _ _ (by omega), up2_same]; simp [up2]
                  · rw [up2_same]; simp [up2]
                · have := hM.w.2.2.2 i (by omega)
                  refine ⟨?_, ?_, ?_⟩
                  · rw [up2_ne _ _ (by omega), up2_ne _ _ (by omega), up2_ne _ _ (by omega), this.1]; simp [up2, q]
                  · rw [up2_ne _ _ (by omega), up2_ne _ _ (by omega), up2_ne _ _ (by omega), this.2.1]; simp [up2, q]
                  · rw [up2_ne _ _ (by omega), up2_ne _ _ (by omega), up2_ne _ _ (by omega), this.2.2]; simp [up2, q]
            · refine r_bipush rfl ?_
              refine r_iret rfl ?_
              refine no' hm1 (fun q => ?_)
              first
              | omega
              | (rcases hnc with hnc | hnc
                 · rw [cells0 hnc] at q; omega
                 · omega)
              | (rw [ec] at q; have := hncl pl rd0 hp; omega)
          · refine r_if_y rfl (by decide) ?_
            refine r_bipush rfl ?_
            refine r_iret rfl ?_
            refine no' hm1 (fun q => ?_)
            first
            | omega
            | (rcases hnc with hnc | hnc
               · rw [cells0 hnc] at q; omega
               · omega)
            | (rw [ec] at q; have := hncl pl rd0 hp; omega)
      · refine r_if_y rfl (by decide) ?_
        refine r_bipush rfl ?_
        refine r_iret rfl ?_
        refine no' hm1 (fun q => ?_)
        first
        | omega
        | (rcases hnc with hnc | hnc
           · rw [cells0 hnc] at q; omega
           · omega)
        | (rw [ec] at q; have := hncl pl rd0 hp; omega)
    · refine r_if_y rfl (by decide) ?_
      refine r_bipush rfl ?_
      refine r_iret rfl ?_
      refine no' hm1 (fun q => ?_)
      first
      | omega
      | (rcases hnc with hnc | hnc
         · rw [cells0 hnc] at q; omega
         · omega)
      | (rw [ec] at q; have := hncl pl rd0 hp; omega)
  · refine r_aload_n rfl rfl ?_
    refine r_getR rfl (by first | assumption | exact hs.o rfl) (by first | assumption | exact hs.g rfl) ?_
    refine r_sipush rfl ?_
    refine r_iconst rfl ?_
    refine r_iastN (145) rfl (by first | assumption | exact hs.a rfl) (by omega) (by omega) (by omega) ?_
    refine r_iconst rfl ?_
    refine r_iret rfl ?_
    rw [show sNote a n c e = (0, a.sW (a.w.sNt 0 a.w.nt)) from if_pos (by omega)] at K
    refine K _ (hM.wd (fun c q => up2_o _ _ q) (hM.w.nt (fun i hi => up2_ne _ _ (by omega)) (up2_same _ _ _ _) (fun i hi => absurd hi (Nat.not_lt_zero i)))) ((FrX.rf f).up (by omega))
theorem l_imgC (hd1 : 0 ≤ d) (hs : Sh σ g) {f0 : ZF} {u : Nat} (hu : u < 4) (K : ∀ f, (∀ c, c ≠ 236 → f c = f0 c) → (∀ i, i < 146 → f 236 (146 * u + i) = f0 229 i) → (∀ i, ¬ (146 * u ≤ i ∧ i < 146 * u + 146) → f 236 i = f0 236 i) → ∀ x, ZWp d zt253 74 [zr (some 219), zi (u : Int), x] [] σ f g Q) (k : Nat) (hk : k ≤ 146) (f : ZF) (hf : ∀ c, c ≠ 236 → f c = f0 c) (hcp : ∀ i, (i < k → f 236 (146 * u + i) = f0 229 i) ∧ (¬ (146 * u ≤ i ∧ i < 146 * u + 146) → f 236 i = f0 236 i)) : ZWp d zt253 43 [zr (some 219), zi (u : Int), zi (k : Int)] [] σ f g Q := by
  refine r_iload_n rfl rfl ?_
  refine r_sipush rfl ?_
  refine r_icmp_ge rfl (by omega) (by omega) (fun hlt => ?_) (fun hlt => ?_)
  · have e : k = 146 := by omega
    subst e
    exact K f hf (fun i hi => (hcp i).1 hi) (fun i hi => (hcp i).2 hi) _
  · refine r_aload_n rfl rfl ?_
    refine r_getR rfl (by first | assumption | exact hs.o rfl) (by first | assumption | exact hs.g rfl) ?_
    refine r_sipush rfl ?_
    refine r_iload_n rfl rfl ?_
    refine r_imul rfl ?_
    refine r_iload_n rfl rfl ?_
    refine r_iadd rfl ?_
    refine r_aload_n rfl rfl ?_
    refine r_getR rfl (by first | assumption | exact hs.o rfl) (by first | assumption | exact hs.g rfl) ?_
    refine r_iload_n rfl rfl ?_
    refine r_iald rfl (by first | assumption | exact hs.a rfl) (by omega) (by omega) ((zix (n := k) (by omega)).trans (congrFun (hf 229 (by omega)) _)) ?_
    refine r_iastN (146 * u + k) rfl (by first | assumption | exact hs.a rfl) (by omega) (by omega) (by omega) ?_
    refine r_iinc (L' := [_, _, _]) rfl rfl rfl ?_
    refine r_goto rfl ?_
    refine l_imgC hd1 hs hu K (k + 1) (by omega) _ (fun c q => (up2_o _ _ q).trans (hf c q)) (fun i => ⟨fun hi => ?_, fun hi => ?_⟩)
    · by_cases e : i = k
      · subst e; exact up2_same _ _ _ _
      · rw [up2_ne _ _ (by omega)]; exact (hcp i).1 (by omega)
    · rw [up2_ne _ _ (by omega)]; exact (hcp i).2 (by omega)
termination_by 146 - k
theorem c_image (hd : 2 ≤ d) (hs : Sh σ g) (hM : MI f a) (hA : AOk N a)  {x : Int} (hx : IR x) (K : ∀ f', MI f' (sImage a x).2 → FrX f f' → Q (some (zi (sImage a x).1)) σ f' g) : ZCt d 253 [zr (some 219), zi x] σ f g Q := by
  refine ZCt.of' (L0 := [_, _, _]) (by omega) rfl rfl rfl (fun d hd1 => ?_)
  have no : ¬ (0 ≤ x ∧ x < 4) → Q (some (zi (-1))) σ f g := by
    intro q
    rw [show sImage a x = (-1, a) from if_neg q] at K
    exact K f hM (FrX.rf f)
  refine r_iload_n rfl rfl ?_
  refine r_i2l rfl (by omega) ?_
  refine r_lconst rfl ?_
  refine r_ldc2 rfl ?_
  refine r_callS3 rfl rfl rfl (c_in (by omega) (by omega) (by omega) (by omega) (fun hin => ?_) (fun hin => ?_))
  · refine r_if_y rfl (by decide) ?_
    refine r_aload_n rfl rfl ?_
    refine r_getR rfl (by first | assumption | exact hs.o rfl) (by first | assumption | exact hs.g rfl) ?_
    refine r_iload_n rfl rfl ?_
    refine r_iconst rfl ?_
    obtain ⟨k, rfl⟩ := Int.eq_ofNat_of_zero_le hin.1
    refine r_zastN (k) rfl (by first | assumption | exact hs.a rfl) (by omega) (by omega) (by omega) (by omega) ?_
    refine r_aload_n rfl rfl ?_
    refine r_getR rfl (by first | assumption | exact hs.o rfl) (by first | assumption | exact hs.g rfl) ?_
    refine r_iload_n rfl rfl ?_
    refine r_aload_n rfl rfl ?_
    refine r_getI rfl (by first | assumption | exact hs.o rfl) ((congrFun (up2_o _ _ (by omega)) _).trans hM.fo) ?_
    refine r_iastN (k) rfl (by first | assumption | exact hs.a rfl) (by omega) (by omega) (by omega) ?_
    refine r_aload_n rfl rfl ?_
    refine r_getR rfl (by first | assumption | exact hs.o rfl) (by first | assumption | exact hs.g rfl) ?_
    refine r_iload_n rfl rfl ?_
    refine r_aload_n rfl rfl ?_
    refine r_getI rfl (by first | assumption | exact hs.o rfl) ((congrFun (up2_o _ _ (by omega)) _).trans ((congrFun (up2_o _ _ (by omega)) _).trans hM.x)) ?_
    refine r_iastN (k) rfl (by first | assumption | exact hs.a rfl) (by omega) (by omega) (by omega) ?_
    refine r_iconst rfl ?_
    refine r_istore_n (L' := [_, _, _]) rfl rfl rfl ?_
    refine l_imgC (u := k) (by omega) hs (by omega) (fun f1 h1 h2 h3 x => ?_) 0 (by omega) _ (fun _ _ => rfl) (fun i => ⟨fun q => by omega, fun _ => rfl⟩)
    have e3 : ∀ c, ¬ (236 ≤ c ∧ c ≤ 239) → f1 c = f c := fun c q => by rw [h1 c (by omega), up2_o _ _ (by omega), up2_o _ _ (by omega), up2_o _ _ (by omega)]
    refine r_aload_n rfl rfl ?_
    refine r_getR rfl (by first | assumption | exact hs.o rfl) (by first | assumption | exact hs.g rfl) ?_
    refine r_bipush rfl ?_
    refine r_iald rfl (by first | assumption | exact hs.a rfl) (by omega) (by omega) ((zix (n := 10) rfl).trans ((congrFun (e3 229 (by omega)) _).trans hM.w.2.1.1)) ?_
    refine r_iret rfl ?_
    have e : sImage a (k : Int) = (a.w.rd 5 0, a.sIm (fun i => if i = k then some (a.w, a.fo, a.x) else a.im i)) := if_pos (by omega)
    rw [e] at K
    refine K f1 (hM.img (k := k) (by omega) e3 (fun i hi => ?_) (fun i hi => ?_) (fun i hi => ?_) (fun j hj w fo x hz => (hA.2.2.2.2.2.2.1 j hj w fo x hz).1.1.1) (fun j hj hne i hi => ?_) (MW.congr hA.2.2.1.1.1 hM.w (fun i hi => ?_))) (fun c q => e3 c (by omega))
    · rw [h1 239 (by omega), up2_o _ _ (by omega), up2_o _ _ (by omega), up2_u1]; rfl
    · rw [h1 237 (by omega), up2_o _ _ (by omega), up2_u1, up2_o _ _ (by omega)]; rfl
    · rw [h1 238 (by omega), up2_u1, up2_o _ _ (by omega), up2_o _ _ (by omega)]; rfl
    · rw [h3 _ (by omega), up2_o _ _ (by omega), up2_o _ _ (by omega), up2_o _ _ (by omega)]
    · rw [h2 i hi, up2_o _ _ (by omega), up2_o _ _ (by omega), up2_o _ _ (by omega)]
  · refine r_if_n rfl (by decide) ?_
    refine r_iconst rfl ?_
    refine r_iret rfl ?_
    exact no (by omega)
theorem l_bckC (hd1 : 0 ≤ d) (hs : Sh σ g) {f0 : ZF} {u : Nat} (hu : u < 4) (K : ∀ f, (∀ c, c ≠ 229 → f c = f0 c) → (∀ i, i < 146 → f 229 i = f0 236 (146 * u + i)) → ∀ x, ZWp d zt254 81 [zr (some 219), zi (u : Int), x] [] σ f g Q) (k : Nat) (hk : k ≤ 146) (f : ZF) (hf : ∀ c, c ≠ 229 → f c = f0 c) (hcp : ∀ i, i < k → f 229 i = f0 236 (146 * u + i)) : ZWp d zt254 50 [zr (some 219), zi (u : Int), zi (k : Int)] [] σ f g Q := by
  refine r_iload_n rfl rfl ?_
  refine r_sipush rfl ?_
  refine r_icmp_ge rfl (by omega) (by omega) (fun hlt => ?_) (fun hlt => ?_)
  · have e : k = 146 := by omega
    subst e
    exact K f hf hcp _
  · refine r_aload_n rfl rfl ?_
    refine r_getR rfl (by first | assumption | exact hs.o rfl) (by first | assumption | exact hs.g rfl) ?_
    refine r_iload_n rfl rfl ?_
    refine r_aload_n rfl rfl ?_
    refine r_getR rfl (by first | assumption | exact hs.o rfl) (by first | assumption | exact hs.g rfl) ?_
    refine r_sipush rfl ?_
    refine r_iload_n rfl rfl ?_
    refine r_imul rfl ?_
    refine r_iload_n rfl rfl ?_
    refine r_iadd rfl ?_
    refine r_iald rfl (by first | assumption | exact hs.a rfl) (by omega) (by omega) ((zix (n := 146 * u + k) (by omega)).trans (congrFun (hf 236 (by omega)) _)) ?_
    refine r_iastN (k) rfl (by first | assumption | exact hs.a rfl) (by omega) (by omega) (by omega) ?_
    refine r_iinc (L' := [_, _, _]) rfl rfl rfl ?_
    refine r_goto rfl ?_
    refine l_bckC hd1 hs hu K (k + 1) (by omega) _ (fun c q => (up2_o _ _ q).trans (hf c q)) (fun i hi => ?_)
    by_cases e : i = k
    · subst e; exact up2_same _ _ _ _
    · rw [up2_ne _ _ (by omega)]; exact hcp i (by omega)
termination_by 146 - k
theorem c_back (hd : 2 ≤ d) (hs : Sh σ g) (hM : MI f a) (hA : AOk N a)  {x : Int} (hx : IR x) (K : ∀ f', MI f' (sBack a x).2 → FrX f f' → Q (some (zi (sBack a x).1)) σ f' g) : ZCt d 254 [zr (some 219), zi x] σ f g Q := by
  refine ZCt.of' (L0 := [_, _, _]) (by omega) rfl rfl rfl (fun d hd1 => ?_)
  have no : sBack a x = (-1, a) → Q (some (zi (-1))) σ f g := by
    intro q
    rw [q] at K
    exact K f hM (FrX.rf f)
  refine r_iload_n rfl rfl ?_
  refine r_i2l rfl (by omega) ?_
  refine r_lconst rfl ?_
  refine r_ldc2 rfl ?_
  refine r_callS3 rfl rfl rfl (c_in (by omega) (by omega) (by omega) (by omega) (fun hin => ?_) (fun hin => ?_))
  · refine r_if_n rfl (by decide) ?_
    refine r_aload_n rfl rfl ?_
    refine r_getR rfl (by first | assumption | exact hs.o rfl) (by first | assumption | exact hs.g rfl) ?_
    refine r_iload_n rfl rfl ?_
    obtain ⟨k, rfl⟩ := Int.eq_ofNat_of_zero_le hin.1
    have him := hM.im k (by omega)
    have h01 : f 239 k = 0 ∨ f 239 k = 1 := by
      cases hz : a.im k with
      | none => rw [hz] at him; exact Or.inl him
      | some z => rw [hz] at him; exact Or.inr him.1
    refine r_zald rfl (by first | assumption | exact hs.a rfl) (by omega) (by omega) (zix (n := k) (by omega)) ?_
    refine r_if_ne rfl (by omega) (fun hmade => ?_) (fun hmade => ?_)
    · refine r_aload_n rfl rfl ?_
      refine r_aload_n rfl rfl ?_
      refine r_getR rfl (by first | assumption | exact hs.o rfl) (by first | assumption | exact hs.g rfl) ?_
      refine r_iload_n rfl rfl ?_
      refine r_iald rfl (by first | assumption | exact hs.a rfl) (by omega) (by omega) (zix (n := k) (by omega)) ?_
      refine r_putI rfl (by first | assumption | exact hs.o rfl) ?_
      refine r_aload_n rfl rfl ?_
      refine r_aload_n rfl rfl ?_
      refine r_getR rfl (by first | assumption | exact hs.o rfl) (by first | assumption | exact hs.g rfl) ?_
      refine r_iload_n rfl rfl ?_
      refine r_iald rfl (by first | assumption | exact hs.a rfl) (by omega) (by omega) ((zix (n := k) (by omega)).trans (congrFun (up2_o _ _ (by omega)) _)) ?_
      refine r_putI rfl (by first | assumption | exact hs.o rfl) ?_
      refine r_aload_n rfl rfl ?_
      refine r_iconst rfl ?_
      refine r_putI rfl (by first | assumption | exact hs.o rfl) ?_
      refine r_iconst rfl ?_
      refine r_istore_n (L' := [_, _, _]) rfl rfl rfl ?_
      obtain ⟨w, fo, xx, hz⟩ : ∃ w fo xx, a.im k = some (w, fo, xx) := by
        cases hz : a.im k with
        | none => rw [hz] at him; simp only at him; omega
        | some z => exact ⟨z.1, z.2.1, z.2.2, rfl⟩
      rw [hz] at him
      obtain ⟨m0, mw, m2, m3⟩ := him
      have hAi := hA.2.2.2.2.2.2.1 k (by omega) w fo xx hz
      refine l_bckC (u := k) (by omega) hs (by omega) (fun f1 h1 h2 x => ?_) 0 (by omega) _ (fun _ _ => rfl) (fun i q => by omega)
      have hw1 : MW (f1 229) w := MW.congr hAi.1.1.1 mw (fun i hi => by rw [h2 i hi, up2_o _ _ (by omega), up2_o _ _ (by omega), up2_o _ _ (by omega)])
      have e9 : f1 219 = _ := h1 219 (by omega)
      refine r_aload_n rfl rfl ?_
      refine r_getR rfl (by first | assumption | exact hs.o rfl) (by first | assumption | exact hs.g rfl) ?_
      refine r_bipush rfl ?_
      refine r_iald rfl (by first | assumption | exact hs.a rfl) (by omega) (by omega) ((zix (n := 10) rfl).trans hw1.2.1.1) ?_
      refine r_iret rfl ?_
      have e : sBack a (k : Int) = (w.rd 5 0, backTo a w fo xx) := by unfold sBack; rw [if_pos (by omega), Int.toNat_natCast, hz]
      rw [e] at K
      refine K f1 (hM.bck (fun c q1 q2 => by rw [h1 c q2, up2_o _ _ q1, up2_o _ _ q1, up2_o _ _ q1]) (fun i q => ?_) hw1 ?_ ?_ ?_) (fun c q => by rw [h1 c (by omega), up2_o _ _ (by omega), up2_o _ _ (by omega), up2_o _ _ (by omega)])
      · rw [e9, up2_ne _ _ (by omega), up2_ne _ _ (by omega), up2_ne _ _ (by omega)]
      · rw [e9, up2_ne _ _ (by omega), up2_ne _ _ (by omega), up2_same]; exact m2
      · rw [e9, up2_ne _ _ (by omega), up2_same]; exact m3
      · rw [e9, up2_same]
    · refine r_iconst rfl ?_
      refine r_iret rfl ?_
      first
      | exact no (if_neg (by omega))
      | (refine no ?_
         unfold sBack
         rw [if_pos (by omega), Int.toNat_natCast]
         cases hz : a.im k with
         | none => rfl
         | some z => rw [hz] at him; have := him.1; omega)
  · refine r_if_y rfl (by decide) ?_
    refine r_iconst rfl ?_
    refine r_iret rfl ?_
    first
    | exact no (if_neg (by omega))
    | (refine no ?_
       unfold sBack
       rw [if_pos (by omega), Int.toNat_natCast]
       cases hz : a.im k with
       | none => rfl
       | some z => rw [hz] at him; have := him.1; omega)
theorem l_four (hd1 : 0 ≤ d) (hs : Sh σ g) {n : Nat} (hn : f 219 1 = (n : Int)) (hn4 : n < 400) {v s : Int} (h0 : 0 ≤ s ∧ s ≤ 24) (K : ZWp d zt134 3 [zr (some 219), zi v, zi (s + -8)] [] σ (up2 (up2 f 220 n (z_b (z_shr v s))) 219 1 ((n : Int) + 1)) g Q) : ZWp d zt134 3 [zr (some 219), zi v, zi s] [] σ f g Q := by
  refine r_iload_n rfl rfl ?_
  refine r_if_lt rfl (by omega) (fun h4 => ?_) (fun h4 => ?_)
  · exfalso; omega
  · refine r_aload_n rfl rfl ?_
    refine r_getR rfl (by first | assumption | exact hs.o rfl) (by first | assumption | exact hs.g rfl) ?_
    refine r_aload_n rfl rfl ?_
    refine r_getI rfl (by first | assumption | exact hs.o rfl) hn ?_
    refine r_iload_n rfl rfl ?_
    refine r_iload_n rfl rfl ?_
    refine r_ishr rfl ?_
    refine r_i2b rfl ?_
    refine r_bastN (n) rfl (by first | assumption | exact hs.a rfl) (by omega) (by omega) (by omega) (z_b_rng _) ?_
    refine r_aload_n rfl rfl ?_
    refine r_dupr rfl ?_
    refine r_getI rfl (by first | assumption | exact hs.o rfl) ((congrFun (up2_o _ _ (by omega)) _).trans hn) ?_
    refine r_iconst rfl ?_
    refine r_iadd rfl ?_
    refine r_putI rfl (by first | assumption | exact hs.o rfl) ?_
    refine r_iinc (L' := [_, _, _]) rfl rfl rfl ?_
    refine r_goto rfl ?_
    exact K
theorem c_four (hd : 1 ≤ d) (hs : Sh σ g) {n : Nat} (hn : f 219 1 = (n : Int)) (hn4 : n + 4 ≤ 400) {v : Int} (K : ∀ f', (∀ c, c ≠ 219 → c ≠ 220 → f' c = f c) → (∀ i, i ≠ 1 → f' 219 i = f 219 i) → f' 219 1 = ((n + 4 : Nat) : Int) → f' 220 = (put4 (n, f 220) v).2 → Q none σ f' g) : ZCt d 134 [zr (some 219), zi v] σ f g Q := by
  refine ZCt.of' (L0 := [_, _, _]) (by omega) rfl rfl rfl (fun d hd1 => ?_)
  refine r_bipush rfl ?_
  refine r_istore_n (L' := [_, _, _]) rfl rfl rfl ?_
  refine l_four (n := n + 0) (by omega) hs hn (by omega) (by omega) ?_
  refine l_four (n := n + 1) (by omega) hs (by rw [up2_same]; omega) (by omega) (by omega) ?_
  refine l_four (n := n + 2) (by omega) hs (by rw [up2_same]; omega) (by omega) (by omega) ?_
  refine l_four (n := n + 3) (by omega) hs (by rw [up2_same]; omega) (by omega) (by omega) ?_
  refine r_iload_n rfl rfl ?_
  refine r_if_lt rfl (by omega) (fun h4 => ?_) (fun h4 => ?_)
  · refine r_ret rfl ?_
    refine K _ (fun c q1 q2 => ?_) (fun i q => ?_) (by rw [up2_same]; omega) ?_
    · simp only [up2_o _ _ q1, up2_o _ _ q2]
    · simp only [up2_ne _ _ (show ¬ (219 = 219 ∧ i = 1) from fun z => q z.2), up2_o _ _ (show (219 : Nat) ≠ 220 by omega)]
    · rw [up2_o _ _ (by omega), up2_u1, up2_o _ _ (by omega), up2_u1, up2_o _ _ (by omega), up2_u1, up2_o _ _ (by omega), up2_u1]
      rfl
  · exfalso; omega
theorem c_feed (hd : 2 ≤ d) (hs : Sh σ g) (hM : MI f a) (hA : AOk N a) {v1 v2 v3 v4 v5 : Int} (K : ∀ f', MI f' (sFeed a v1 v2 v3 v4 v5).2 → FrX f f' → Q (some (zi (sFeed a v1 v2 v3 v4 v5).1)) σ f' g) : ZCt d 133 [zr (some 219), zi v1, zi v2, zi v3, zi v4, zi v5] σ f g Q := by
  refine ZCt.of' (L0 := [_, _, _, _, _, _]) (by omega) rfl rfl rfl (fun d hd1 => ?_)
  have htl := hA.1.1
  refine r_aload_n rfl rfl ?_
  refine r_getI rfl (by first | assumption | exact hs.o rfl) hM.tl ?_
  refine r_bipush rfl ?_
  refine r_iadd rfl ?_
  refine r_sipush rfl ?_
  refine r_icmp_le rfl (by omega) (by omega) (fun h10 => ?_) (fun h10 => ?_)
  · refine r_aload_n rfl rfl ?_
    refine r_iload_n rfl rfl ?_
    refine r_callV1 rfl rfl (by first | assumption | exact hs.o rfl) rfl (c_four (n := a.tl + 0) (by omega) hs hM.tl (by omega) (fun f1 x1 y1 n1 t1 => ?_))
    refine r_aload_n rfl rfl ?_
    refine r_iload_n rfl rfl ?_
    refine r_callV1 rfl rfl (by first | assumption | exact hs.o rfl) rfl (c_four (n := a.tl + 4) (by omega) hs n1 (by omega) (fun f2 x2 y2 n2 t2 => ?_))
    refine r_aload_n rfl rfl ?_
    refine r_iload_n rfl rfl ?_
    refine r_callV1 rfl rfl (by first | assumption | exact hs.o rfl) rfl (c_four (n := a.tl + 8) (by omega) hs n2 (by omega) (fun f3 x3 y3 n3 t3 => ?_))
    refine r_aload_n rfl rfl ?_
    refine r_iload rfl rfl ?_
    refine r_callV1 rfl rfl (by first | assumption | exact hs.o rfl) rfl (c_four (n := a.tl + 12) (by omega) hs n3 (by omega) (fun f4 x4 y4 n4 t4 => ?_))
    refine r_aload_n rfl rfl ?_
    refine r_iload rfl rfl ?_
    refine r_callV1 rfl rfl (by first | assumption | exact hs.o rfl) rfl (c_four (n := a.tl + 16) (by omega) hs n4 (by omega) (fun f5 x5 y5 n5 t5 => ?_))
    refine r_aload_n rfl rfl ?_
    refine r_getI rfl (by first | assumption | exact hs.o rfl) n5 ?_
    refine r_iret rfl ?_
    rw [show sFeed a v1 v2 v3 v4 v5 = ((a.tl : Int) + 20, a.sT (a.tl + 20) (put4 (put4 (put4 (put4 (put4 (a.tl, a.tp) v1) v2) v3) v4) v5).2) from if_pos (by omega)] at K
    have ex : ∀ c, c ≠ 219 → c ≠ 220 → f5 c = f c := fun c q1 q2 => by rw [x5 c q1 q2, x4 c q1 q2, x3 c q1 q2, x2 c q1 q2, x1 c q1 q2]
    have ey : ∀ i, i ≠ 1 → f5 219 i = f 219 i := fun i q => by rw [y5 i q, y4 i q, y3 i q, y2 i q, y1 i q]
    rw [show ((a.tl + 16 + 4 : Nat) : Int) = (a.tl : Int) + 20 by omega]
    refine K f5 (hM.c0 (b := a.sT (a.tl + 20) (put4 (put4 (put4 (put4 (put4 (a.tl, a.tp) v1) v2) v3) v4) v5).2) ⟨rfl, rfl, rfl, rfl, rfl, rfl⟩ ex (fun i q => ey i (by omega)) n5 ?_ ((ey 21 (by omega)).trans hM.fo) ((ey 22 (by omega)).trans hM.x) ((ey 27 (by omega)).trans hM.uc)) (fun c q => ex c (by omega) (by omega))
    intro i hi
    rw [t5, t4, t3, t2, t1]
    exact put4_old (fun j hj => put4_old (fun j hj => put4_old (fun j hj => put4_old (fun j hj => put4_old (fun j hj => hM.tq j hj) hj) hj) hj) hj) hi
  · refine r_iconst rfl ?_
    refine r_iret rfl ?_
    rw [show sFeed a v1 v2 v3 v4 v5 = (-1, a) from if_neg (by omega)] at K
    exact K f hM (FrX.rf f)
end MSMALL
