/-! Small calls: what they do; the class does it -/
abbrev AW.sNt (w : AW) (ns : Nat) (nt : Nat → Nat → Int) : AW := (w.1, w.2.1, ns, nt)
def sForce (a : AS) (r : Int) : Int × AS := if -1 ≤ r ∧ r < (a.rk : Int) then (a.fo, a.sFo r) else (-2, a)
def sSeed (a : AS) (v : Int) : Int × AS := if v < 0 then (-1, a) else (a.x, a.sX v)
def sEnd (a : AS) (n : Int) : Int × AS := if 0 ≤ n ∧ n ≤ (a.tl : Int) then (n, a.sT n.toNat a.tp) else (-1, a)
def cellsN (a : AS) : Int := match a.w.pn with
  | none => 0
  | some (pl, _) => pl.1
def toldN (a : AS) : Int := match a.w.pn with
  | none => 0
  | some (pl, _) => pl.2.2.1
def qCar (a : AS) (x y : Int) : Int := match a.w.pn with
  | none => -2
  | some _ => if (0 ≤ x ∧ x < 6) ∧ (0 ≤ y ∧ y ≤ 3) then a.w.rd y.toNat x.toNat else -2
def qRoad (a : AS) (x y : Int) : Int := match a.w.pn with
  | none => -1
  | some (pl, _) => if 0 ≤ x ∧ x < pl.2.1 then (if y = 0 then pl.2.2.2.1 x.toNat else if y = 1 then pl.2.2.2.2 x.toNat else if y = 2 then a.w.rd 4 x.toNat else -1) else -1
def qGap (a : AS) (x : Int) : Int := match a.w.pn with
  | none => -1
  | some (pl, _) => if 0 ≤ x ∧ x < pl.1 then a.w.rd 6 x.toNat else -1
def qCount (a : AS) (y : Int) : Int := if y = 0 then cellsN a else if y = 1 then roadsN a else if y = 2 then toldN a else if y = 3 then (a.rk : Int) else if y = 4 then a.fo else if y = 5 then a.w.rd 5 0 else if y = 6 then rSet a.w.rd 6 else if y = 7 then a.w.rd 5 1 else if y = 8 then gapN a.w.rd else if y = 9 then rAllW a.w.rd 5 else if y = 10 then (a.w.ns : Int) else if y = 11 then (a.uc : Int) else if y = 12 then a.x else if y = 13 then (a.tl : Int) else -1
abbrev noteOk (a : AS) (n c e : Int) : Prop := (0 ≤ n ∧ n ≤ 60) ∧ (0 ≤ c ∧ c < 6) ∧ (e = -1 ∨ (0 ≤ e ∧ e < cellsN a)) ∧ a.w.pn ≠ none ∧ a.w.ns < 10
def ntAdd (w : AW) (n c e : Int) : AW := w.sNt (w.ns + 1) (up2 (up2 (up2 w.nt 0 w.ns n) 1 w.ns c) 2 w.ns e)
def sNote (a : AS) (n c e : Int) : Int × AS := if n = -1 then (0, a.sW (a.w.sNt 0 a.w.nt)) else if (0 ≤ n ∧ n ≤ 60) ∧ (0 ≤ c ∧ c < 6) ∧ (e = -1 ∨ (0 ≤ e ∧ e < cellsN a)) ∧ (0 < cellsN a) ∧ a.w.ns < 10 then ((a.w.ns : Int) + 1, a.sW (ntAdd a.w n c e)) else (-2, a)
def sImage (a : AS) (k : Int) : Int × AS := if 0 ≤ k ∧ k < 4 then (a.w.rd 5 0, a.sIm (fun i => if i = k.toNat then some (a.w, a.fo, a.x) else a.im i)) else (-1, a)
def backTo (a : AS) (w : AW) (fo x : Int) : AS := (((a.sW w).sFo fo).sX x).sU 0 a.us
def sBack (a : AS) (k : Int) : Int × AS := if 0 ≤ k ∧ k < 4 then (match a.im k.toNat with
  | none => (-1, a)
  | some (w, fo, x) => (w.rd 5 0, backTo a w fo x)) else (-1, a)
/-- four bytes more -/
def put4 (t : Nat × (Nat → Int)) (v : Int) : Nat × (Nat → Int) := (t.1 + 4, u1 (u1 (u1 (u1 t.2 t.1 (z_b (z_shr v 24))) (t.1 + 1) (z_b (z_shr v 16))) (t.1 + 2) (z_b (z_shr v 8))) (t.1 + 3) (z_b (z_shr v 0)))
def sFeed (a : AS) (v1 v2 v3 v4 v5 : Int) : Int × AS := if a.tl + 20 ≤ 400 then ((a.tl : Int) + 20, a.sT (a.tl + 20) (put4 (put4 (put4 (put4 (put4 (a.tl, a.tp) v1) v2) v3) v4) v5).2) else (-1, a)
theorem z_b_rng (x : Int) : -128 ≤ z_b x ∧ z_b x ≤ 127 := by
  unfold z_b
  have h1 := Int8.le_toInt (Int8.ofInt x)
  have h2 := Int8.toInt_lt (Int8.ofInt x)
  omega
section CSMALL
variable {d : Nat} {σ : ZS} {f f' : ZF} {g g' : ZG} {Q : ZQ} {N : Int} {rd : Rd} {pl : Pl} {rd0 : Rd} {a : AS}
theorem cells0 (h : a.w.pn = none) : cellsN a = 0 := by unfold cellsN; rw [h]
theorem cells1 (h : a.w.pn = some (pl, rd0)) : cellsN a = pl.1 := by unfold cellsN; rw [h]
theorem told0 (h : a.w.pn = none) : toldN a = 0 := by unfold toldN; rw [h]
theorem told1 (h : a.w.pn = some (pl, rd0)) : toldN a = pl.2.2.1 := by unfold toldN; rw [h]
theorem CI.c0 (h : CI σ f g a) {b : AS} (hb : b.rk = a.rk ∧ b.ru = a.ru ∧ b.w = a.w ∧ b.us = a.us ∧ b.im = a.im ∧ b.uc ≤ a.uc) (hf : ∀ c, c ≠ 0 → c ≠ 1 → f' c = f c) (h3 : f' 0 3 = f 0 3) (h12 : f' 0 12 = f 0 12) (h1 : f' 0 1 = (b.tl : Int)) (ht : ∀ i, i < 400 → -128 ≤ f' 1 i ∧ f' 1 i ≤ 127) (hq : ∀ i, i < b.tl → f' 1 i = b.tp i) (h6 : f' 0 6 = b.fo) (h7 : f' 0 7 = b.x) (h11 : f' 0 11 = (b.uc : Int)) : CI σ f' g b := by
  obtain ⟨k1, k2, k3, k4, k5, k6, k7, k8, k9, k10, ⟨u, k11, k12, k13⟩, k14⟩ := h
  obtain ⟨b1, b2, b3, b4, b5, b6⟩ := hb
  refine ⟨k1, h1, ht, hq, by rw [h3, b1]; exact k5, fun i hi => ?_, ?_, h6, h7, h11, ⟨u, k11, by rw [h12]; exact k12, fun i hi => ?_⟩, fun k hk => ?_⟩
  · rw [b2]
    obtain ⟨q, c, q1, q2, q3, q4⟩ := k6 i (by rw [← b1]; exact hi)
    exact ⟨q, c, q1, q2, q3, by rw [hf c (by have := q3.c240; omega) (by have := q3.c240; omega)]; exact q4⟩
  · rw [b3]
    exact k7.fr (fun c q => hf c (by omega) (by omega)) (fun c i q => rfl)
  · rw [b4]
    exact (k13 i (by omega)).fr (fun c q1 q2 => hf c (by omega) (by omega))
  · rw [b5]
    have := k14 k hk
    cases hi : a.im k with
    | none => rw [hi] at this; simp only at this ⊢; rw [hf _ (by omega) (by omega)]; exact this
    | some x =>
      obtain ⟨w, fo, x⟩ := x
      rw [hi] at this
      obtain ⟨q1, q2, q3, q4⟩ := this
      simp only
      rw [hf (55 + 11 * k) (by omega) (by omega)]
      exact ⟨q1, q2.fr (fun c q => hf c (by omega) (by omega)) (fun c i q => rfl), q3, q4⟩
theorem CI.wd (h : CI σ f g a) {w' : AW} (hf : ∀ c, ¬ (9 ≤ c ∧ c ≤ 12) → f' c = f c) (hw : CW σ f' g (g 0 4) 3 9 w') : CI σ f' g (a.sW w') := by
  obtain ⟨k1, k2, k3, k4, k5, k6, k7, k8, k9, k10, ⟨u, k11, k12, k13⟩, k14⟩ := h
  have e0 := hf 0 (by omega)
  have e1 := hf 1 (by omega)
  refine ⟨k1, by rw [e0]; exact k2, by rw [e1]; exact k3, by rw [e1]; exact k4, by rw [e0]; exact k5, fun i hi => ?_, hw, by rw [e0]; exact k8, by rw [e0]; exact k9, by rw [e0]; exact k10, ⟨u, k11, by rw [e0]; exact k12, fun i hi => ?_⟩, fun k hk => ?_⟩
  · obtain ⟨q, c, q1, q2, q3, q4⟩ := k6 i hi
    exact ⟨q, c, q1, q2, q3, by rw [hf c (by have := q3.c240; omega)]; exact q4⟩
  · exact (k13 i hi).fr (fun c q1 q2 => hf c (by omega))
  · have := k14 k hk
    show (match a.im k with
      | none => f' (55 + 11 * k) 0 = 0
      | some (w, fo, x) => f' (55 + 11 * k) 0 = 1 ∧ CW σ f' g (g (55 + 11 * k) 1) (56 + 11 * k) (62 + 11 * k) w ∧ f' (55 + 11 * k) 2 = fo ∧ f' (55 + 11 * k) 3 = x)
    cases hi : a.im k with
    | none => rw [hi] at this; simp only at this ⊢; rw [hf _ (by omega)]; exact this
    | some x =>
      obtain ⟨w, fo, x⟩ := x
      rw [hi] at this
      obtain ⟨q1, q2, q3, q4⟩ := this
      simp only
      rw [hf (55 + 11 * k) (by omega)]
      exact ⟨q1, q2.fr (fun c q => hf c (by omega)) (fun c i q => rfl), q3, q4⟩
theorem k_force (hd : 1 ≤ d) (hI : CI σ f g a) (hA : AOk N a) {x : Int} (hx : IR x) (K : ∀ f' g', CI σ f' g' (sForce a x).2 → FrK f f' → Q (some (zi (sForce a x).1)) σ f' g') : ZCt d 46 [zr (some 0), zi x] σ f g Q := by
  refine ZCt.of' (L0 := [_, _, _]) (by omega) rfl rfl rfl (fun d hd1 => ?_)
  have hs := hI.sh
  have hrk := hA.1.2.1
  refine r_iload_n rfl rfl ?_
  refine r_iconst rfl ?_
  refine r_icmp_lt rfl (by omega) (by omega) (fun h2 => ?_) (fun h2 => ?_)
  · refine r_bipush rfl ?_
    refine r_iret rfl ?_
    rw [show sForce a x = (-2, a) from if_neg (by omega)] at K
    exact K f g hI (FrK.rf f)
  · refine r_iload_n rfl rfl ?_
    refine r_aload_n rfl rfl ?_
    refine r_getI rfl (by first | assumption | exact hs.o rfl) hI.rk ?_
    refine r_icmp_lt rfl (by omega) (by omega) (fun h10 => ?_) (fun h10 => ?_)
    · refine r_aload_n rfl rfl ?_
      refine r_getI rfl (by first | assumption | exact hs.o rfl) hI.fo ?_
      refine r_istore_n (L' := [_, _, _]) rfl rfl rfl ?_
      refine r_aload_n rfl rfl ?_
      refine r_iload_n rfl rfl ?_
      refine r_putI rfl (by first | assumption | exact hs.o rfl) ?_
      refine r_iload_n rfl rfl ?_
      refine r_iret rfl ?_
      rw [show sForce a x = (a.fo, a.sFo x) from if_pos (by omega)] at K
      exact K _ g (hI.c0 (b := a.sFo x) ⟨rfl, rfl, rfl, rfl, rfl, Nat.le_refl _⟩ (fun c q1 q2 => up2_o _ _ q1) (up2_ne _ _ (by omega)) (up2_ne _ _ (by omega)) ((up2_ne _ _ (by omega)).trans hI.tl) (by rw [up2_o _ _ (by omega)]; exact hI.tp) (fun i hi => by rw [up2_o _ _ (by omega)]; exact hI.tq i hi) (up2_same _ _ _ _) ((up2_ne _ _ (by omega)).trans hI.x) ((up2_ne _ _ (by omega)).trans hI.uc)) ((FrK.rf f).up (by omega))
    · refine r_bipush rfl ?_
      refine r_iret rfl ?_
      rw [show sForce a x = (-2, a) from if_neg (by omega)] at K
      exact K f g hI (FrK.rf f)
theorem k_seed (hd : 1 ≤ d) (hI : CI σ f g a) (hA : AOk N a) {x : Int} (hx : IR x) (K : ∀ f' g', CI σ f' g' (sSeed a x).2 → FrK f f' → Q (some (zi (sSeed a x).1)) σ f' g') : ZCt d 125 [zr (some 0), zi x] σ f g Q := by
  refine ZCt.of' (L0 := [_, _, _]) (by omega) rfl rfl rfl (fun d hd1 => ?_)
  have hs := hI.sh
  refine r_iload_n rfl rfl ?_
  refine r_if_ge rfl (by omega) (fun h1 => ?_) (fun h1 => ?_)
  · refine r_aload_n rfl rfl ?_
    refine r_getI rfl (by first | assumption | exact hs.o rfl) hI.x ?_
    refine r_istore_n (L' := [_, _, _]) rfl rfl rfl ?_
    refine r_aload_n rfl rfl ?_
    refine r_iload_n rfl rfl ?_
    refine r_putI rfl (by first | assumption | exact hs.o rfl) ?_
    refine r_iload_n rfl rfl ?_
    refine r_iret rfl ?_
    rw [show sSeed a x = (a.x, a.sX x) from if_neg (by omega)] at K
    exact K _ g (hI.c0 (b := a.sX x) ⟨rfl, rfl, rfl, rfl, rfl, Nat.le_refl _⟩ (fun c q1 q2 => up2_o _ _ q1) (up2_ne _ _ (by omega)) (up2_ne _ _ (by omega)) ((up2_ne _ _ (by omega)).trans hI.tl) (by rw [up2_o _ _ (by omega)]; exact hI.tp) (fun i hi => by rw [up2_o _ _ (by omega)]; exact hI.tq i hi) ((up2_ne _ _ (by omega)).trans hI.fo) (up2_same _ _ _ _) ((up2_ne _ _ (by omega)).trans hI.uc)) ((FrK.rf f).up (by omega))
  · refine r_iconst rfl ?_
    refine r_iret rfl ?_
    rw [show sSeed a x = (-1, a) from if_pos (by omega)] at K
    exact K f g hI (FrK.rf f)
theorem k_end (hd : 1 ≤ d) (hI : CI σ f g a) (hA : AOk N a) {x : Int} (hx : IR x) (K : ∀ f' g', CI σ f' g' (sEnd a x).2 → FrK f f' → Q (some (zi (sEnd a x).1)) σ f' g') : ZCt d 11 [zr (some 0), zi x] σ f g Q := by
  refine ZCt.of' (L0 := [_, _]) (by omega) rfl rfl rfl (fun d hd1 => ?_)
  have hs := hI.sh
  have htl := hA.1.1
  refine r_iload_n rfl rfl ?_
  refine r_if_lt rfl (by omega) (fun h1 => ?_) (fun h1 => ?_)
  · refine r_iconst rfl ?_
    refine r_iret rfl ?_
    rw [show sEnd a x = (-1, a) from if_neg (by omega)] at K
    exact K f g hI (FrK.rf f)
  · refine r_iload_n rfl rfl ?_
    refine r_aload_n rfl rfl ?_
    refine r_getI rfl (by first | assumption | exact hs.o rfl) hI.tl ?_
    refine r_icmp_le rfl (by omega) (by omega) (fun h9 => ?_) (fun h9 => ?_)
    · refine r_aload_n rfl rfl ?_
      refine r_iload_n rfl rfl ?_
      refine r_putI rfl (by first | assumption | exact hs.o rfl) ?_
      refine r_iload_n rfl rfl ?_
      refine r_iret rfl ?_
      rw [show sEnd a x = (x, a.sT x.toNat a.tp) from if_pos (by omega)] at K
      exact K _ g (hI.c0 (b := a.sT x.toNat a.tp) ⟨rfl, rfl, rfl, rfl, rfl, Nat.le_refl _⟩ (fun c q1 q2 => up2_o _ _ q1) (up2_ne _ _ (by omega)) (up2_ne _ _ (by omega)) (by rw [up2_same]; show x = ((x.toNat : Nat) : Int); omega) (by rw [up2_o _ _ (by omega)]; exact hI.tp) (fun i hi => by rw [up2_o _ _ (by omega)]; exact hI.tq i (by have hi : i < x.toNat := hi; omega)) ((up2_ne _ _ (by omega)).trans hI.fo) ((up2_ne _ _ (by omega)).trans hI.x) ((up2_ne _ _ (by omega)).trans hI.uc)) ((FrK.rf f).up (by omega))
    · refine r_iconst rfl ?_
      refine r_iret rfl ?_
      rw [show sEnd a x = (-1, a) from if_neg (by omega)] at K
      exact K f g hI (FrK.rf f)
theorem k_car (hd : 2 ≤ d) (hI : CI σ f g a) (hA : AOk N a)  {x y : Int} (hx : IR x) (hy : IR y) (K : Q (some (zi (qCar a x y))) σ f g) : ZCt d 47 [zr (some 0), zi x, zi y] σ f g Q := by
  refine ZCt.of' (L0 := [_, _, _]) (by omega) rfl rfl rfl (fun d hd1 => ?_)
  have hs := hI.sh
  obtain ⟨oo, ⟨a1, a2, a3, a4, a5⟩, g0, g1, g2, g3, g4⟩ := hs.r3
  have hc := hI.w.2.1.1
  cases hp : a.w.pn with
  | none =>
    have e : qCar a x y = -2 := by unfold qCar; rw [hp]
    rw [e] at K
    refine r_aload_n rfl rfl ?_
    refine r_getR rfl (by first | assumption | exact hs.o rfl) (hI.pln hp) ?_
    refine r_ifnullN rfl ?_
    refine r_bipush rfl ?_
    refine r_iret rfl ?_
    exact K
  | some q =>
    obtain ⟨pl, rd0⟩ := q
    obtain ⟨p, gp, p240, po, hpc, hrc⟩ := hI.plS hp
    have e : qCar a x y = if (0 ≤ x ∧ x < 6) ∧ (0 ≤ y ∧ y ≤ 3) then a.w.rd y.toNat x.toNat else -2 := by unfold qCar; rw [hp]
    rw [e] at K
    refine r_aload_n rfl rfl ?_
    refine r_getR rfl (by first | assumption | exact hs.o rfl) gp ?_
    refine r_ifnullS rfl ?_
    refine r_iload_n rfl rfl ?_
    refine r_callS1 rfl rfl rfl (k_isCar (by omega) hx (fun hcar => ?_) (fun hcar => ?_))
    · refine r_if_y rfl (by decide) ?_
      refine r_iload_n rfl rfl ?_
      refine r_tsw rfl (by omega) rfl (And.intro (fun s18_0 => ?_) (fun s18n0 => (And.intro (fun s18_1 => ?_) (fun s18n1 => (And.intro (fun s18_2 => ?_) (fun s18n2 => (And.intro (fun s18_3 => ?_) (fun s18n3 => ?_))))))))
      · refine r_aload_n rfl rfl ?_
        refine r_getR rfl (by first | assumption | exact hs.o rfl) (by first | assumption | exact hs.g rfl) ?_
        refine r_getR rfl (by first | assumption | exact hs.o rfl) (by first | assumption | exact hs.g rfl) ?_
        refine r_iload_n rfl rfl ?_
        refine r_iald rfl (by first | assumption | exact hs.a rfl) (by omega) (by omega) (hc x.toNat (by omega)).1 ?_
        refine r_iret rfl ?_
        rw [if_pos (by omega)] at K
        first | (rw [show y.toNat = 0 by omega] at K; exact K) | (rw [show y.toNat = 1 by omega] at K; exact K) | (rw [show y.toNat = 2 by omega] at K; exact K) | (rw [show y.toNat = 3 by omega] at K; exact K)
      · refine r_aload_n rfl rfl ?_
        refine r_getR rfl (by first | assumption | exact hs.o rfl) (by first | assumption | exact hs.g rfl) ?_
        refine r_getR rfl (by first | assumption | exact hs.o rfl) (by first | assumption | exact hs.g rfl) ?_
        refine r_iload_n rfl rfl ?_
        refine r_iald rfl (by first | assumption | exact hs.a rfl) (by omega) (by omega) (hc x.toNat (by omega)).2.1 ?_
        refine r_iret rfl ?_
        rw [if_pos (by omega)] at K
        first | (rw [show y.toNat = 0 by omega] at K; exact K) | (rw [show y.toNat = 1 by omega] at K; exact K) | (rw [show y.toNat = 2 by omega] at K; exact K) | (rw [show y.toNat = 3 by omega] at K; exact K)
      · refine r_aload_n rfl rfl ?_
        refine r_getR rfl (by first | assumption | exact hs.o rfl) (by first | assumption | exact hs.g rfl) ?_
        refine r_getR rfl (by first | assumption | exact hs.o rfl) (by first | assumption | exact hs.g rfl) ?_
        refine r_iload_n rfl rfl ?_
        refine r_iald rfl (by first | assumption | exact hs.a rfl) (by omega) (by omega) (hc x.toNat (by omega)).2.2.1 ?_
        refine r_iret rfl ?_
        rw [if_pos (by omega)] at K
        first | (rw [show y.toNat = 0 by omega] at K; exact K) | (rw [show y.toNat = 1 by omega] at K; exact K) | (rw [show y.toNat = 2 by omega] at K; exact K) | (rw [show y.toNat = 3 by omega] at K; exact K)
      · refine r_aload_n rfl rfl ?_
        refine r_getR rfl (by first | assumption | exact hs.o rfl) (by first | assumption | exact hs.g rfl) ?_
        refine r_getR rfl (by first | assumption | exact hs.o rfl) (by first | assumption | exact hs.g rfl) ?_
        refine r_iload_n rfl rfl ?_
        refine r_iald rfl (by first | assumption | exact hs.a rfl) (by omega) (by omega) (hc x.toNat (by omega)).2.2.2 ?_
        refine r_iret rfl ?_
        rw [if_pos (by omega)] at K
        first | (rw [show y.toNat = 0 by omega] at K; exact K) | (rw [show y.toNat = 1 by omega] at K; exact K) | (rw [show y.toNat = 2 by omega] at K; exact K) | (rw [show y.toNat = 3 by omega] at K; exact K)
      · refine r_bipush rfl ?_
        refine r_iret rfl ?_
        rw [if_neg (by omega)] at K
        exact K
    · refine r_if_n rfl (by decide) ?_
      refine r_bipush rfl ?_
      refine r_iret rfl ?_
      rw [if_neg (by omega)] at K
      exact K
theorem k_road (hd : 2 ≤ d) (hI : CI σ f g a) (hA : AOk N a)  {x y : Int} (hx : IR x) (hy : IR y) (K : Q (some (zi (qRoad a x y))) σ f g) : ZCt d 49 [zr (some 0), zi x, zi y] σ f g Q := by
  refine ZCt.of' (L0 := [_, _, _]) (by omega) rfl rfl rfl (fun d hd1 => ?_)
  have hs := hI.sh
  obtain ⟨oo, ⟨a1, a2, a3, a4, a5⟩, g0, g1, g2, g3, g4⟩ := hs.r3
  have hc := hI.w.2.1.2.1
  cases hp : a.w.pn with
  | none =>
    have e : qRoad a x y = -1 := by unfold qRoad; rw [hp]
    rw [e] at K
    refine r_aload_n rfl rfl ?_
    refine r_getR rfl (by first | assumption | exact hs.o rfl) (hI.pln hp) ?_
    refine r_ifnullN rfl ?_
    refine r_iconst rfl ?_
    refine r_iret rfl ?_
    exact K
  | some q =>
    obtain ⟨pl, rd0⟩ := q
    obtain ⟨p, gp, p240, po, hpc, hrc⟩ := hI.plS hp
    have hplo := (hA.plS hp).1.2.1
    obtain ⟨po1, ⟨pa1, pa2⟩, ⟨pg3, pg4, pg5⟩, po4⟩ := po
    have e : qRoad a x y = if 0 ≤ x ∧ x < pl.2.1 then (if y = 0 then pl.2.2.2.1 x.toNat else if y = 1 then pl.2.2.2.2 x.toNat else if y = 2 then a.w.rd 4 x.toNat else -1) else -1 := by unfold qRoad; rw [hp]
    rw [e] at K
    refine r_aload_n rfl rfl ?_
    refine r_getR rfl (by first | assumption | exact hs.o rfl) gp ?_
    refine r_ifnullS rfl ?_
    refine r_aload_n rfl rfl ?_
    refine r_iload_n rfl rfl ?_
    refine r_callV1 rfl rfl (by first | assumption | exact hs.o rfl) rfl (k_isRoad (by omega) hI hA hx (fun pl1 rd1 hp1 hroad => ?_) (fun hnr => ?_))
    · refine r_if_y rfl (by decide) ?_
      rw [hp] at hp1
      cases hp1
      rw [if_pos hroad] at K
      refine r_iload_n rfl rfl ?_
      refine r_tsw rfl (by omega) rfl (And.intro (fun s18_0 => ?_) (fun s18n0 => (And.intro (fun s18_1 => ?_) (fun s18n1 => (And.intro (fun s18_2 => ?_) (fun s18n2 => ?_))))))
      · refine r_aload_n rfl rfl ?_
        refine r_getR rfl (by first | assumption | exact hs.o rfl) gp ?_
        refine r_getR rfl (by first | assumption | exact hs.o rfl) (by first | assumption | exact hs.g rfl) ?_
        refine r_iload_n rfl rfl ?_
        refine r_iald rfl (by first | assumption | exact hs.a rfl) (by omega) (by omega) (hpc.2.2.2 x.toNat (by omega)).1 ?_
        refine r_iret rfl ?_
        first | (rw [if_pos (by omega)] at K; exact K) | (rw [if_neg (by omega), if_pos (by omega)] at K; exact K) | (rw [if_neg (by omega), if_neg (by omega), if_pos (by omega)] at K; exact K)
      · refine r_aload_n rfl rfl ?_
        refine r_getR rfl (by first | assumption | exact hs.o rfl) gp ?_
        refine r_getR rfl (by first | assumption | exact hs.o rfl) (by first | assumption | exact hs.g rfl) ?_
        refine r_iload_n rfl rfl ?_
        refine r_iald rfl (by first | assumption | exact hs.a rfl) (by omega) (by omega) (hpc.2.2.2 x.toNat (by omega)).2 ?_
        refine r_iret rfl ?_
        first | (rw [if_pos (by omega)] at K; exact K) | (rw [if_neg (by omega), if_pos (by omega)] at K; exact K) | (rw [if_neg (by omega), if_neg (by omega), if_pos (by omega)] at K; exact K)
      · refine r_aload_n rfl rfl ?_
        refine r_getR rfl (by first | assumption | exact hs.o rfl) (by first | assumption | exact hs.g rfl) ?_
        refine r_getR rfl (by first | assumption | exact hs.o rfl) (by first | assumption | exact hs.g rfl) ?_
        refine r_iload_n rfl rfl ?_
        refine r_iald rfl (by first | assumption | exact hs.a rfl) (by omega) (by omega) (hc x.toNat (by omega)) ?_
        refine r_iret rfl ?_
        first | (rw [if_pos (by omega)] at K; exact K) | (rw [if_neg (by omega), if_pos (by omega)] at K; exact K) | (rw [if_neg (by omega), if_neg (by omega), if_pos (by omega)] at K; exact K)
      · refine r_iconst rfl ?_
        refine r_iret rfl ?_
        first | (rw [if_neg (hnr pl rd0 hp)] at K; exact K) | (rw [if_neg (by omega), if_neg (by omega), if_neg (by omega)] at K; exact K)
    · refine r_if_n rfl (by decide) ?_
      refine r_iconst rfl ?_
      refine r_iret rfl ?_
      first | (rw [if_neg (hnr pl rd0 hp)] at K; exact K) | (rw [if_neg (by omega), if_neg (by omega), if_neg (by omega)] at K; exact K)
theorem k_gapIn (hd : 2 ≤ d) (hI : CI σ f g a) (hA : AOk N a) {x : Int} (hx : IR x) (K : Q (some (zi (qGap a x))) σ f g) : ZCt d 51 [zr (some 0), zi x] σ f g Q := by
  refine ZCt.of' (L0 := [_, _]) (by omega) rfl rfl rfl (fun d hd1 => ?_)
  have hs := hI.sh
  refine r_aload_n rfl rfl ?_
  refine r_iload_n rfl rfl ?_
  refine r_callV1 rfl rfl (by first | assumption | exact hs.o rfl) rfl (k_isCell (by omega) hI hA hx (fun pl rd0 hp hcell => ?_) (fun hnc => ?_))
  · refine r_if_y rfl (by decide) ?_
    refine r_aload_n rfl rfl ?_
    refine r_getR rfl (by first | assumption | exact hs.o rfl) (by first | assumption | exact hs.g rfl) ?_
    refine r_iload_n rfl rfl ?_
    obtain ⟨hplo, hvr, hst⟩ := hA.plS hp
    have hp1 := hplo.1
    obtain ⟨c, rfl⟩ := Int.eq_ofNat_of_zero_le hcell.1
    have hg01 := hvr.1.2.2.2.2.1 c (by omega)
    have e : qGap a (c : Int) = a.w.rd 6 c := by unfold qGap; rw [hp]; exact if_pos hcell
    rw [e] at K
    refine r_callV1 rfl rfl (by first | assumption | exact hs.o rfl) rfl (k_hasGap (by omega) hs.r3 hI.w.2.1 (c := c) (by omega) (fun hgap => ?_) (fun hgap => ?_))
    · refine r_if_n rfl (by decide) ?_
      refine r_iconst rfl ?_
      refine r_goto rfl ?_
      refine r_iret rfl ?_
      rw [hgap] at K
      exact K
    · refine r_if_y rfl (by decide) ?_
      refine r_iconst rfl ?_
      refine r_iret rfl ?_
      rw [show a.w.rd 6 c = 0 by omega] at K
      exact K
  · refine r_if_n rfl (by decide) ?_
    refine r_iconst rfl ?_
    refine r_iret rfl ?_
    have e : qGap a x = -1 := by
      unfold qGap
      cases hp : a.w.pn with
      | none => rfl
      | some z => exact if_neg (hnc z.1 z.2 hp)
    rw [e] at K
    exact K
theorem k_count (hd : 2 ≤ d) (hI : CI σ f g a) (hA : AOk N a)  {y : Int} (hy : IR y) (K : Q (some (zi (qCount a y))) σ f g) : ZCt d 54 [zr (some 0), zi y] σ f g Q := by
  refine ZCt.of' (L0 := [_, _]) (by omega) rfl rfl rfl (fun d hd1 => ?_)
  have hs := hI.sh
  obtain ⟨oo, ⟨a1, a2, a3, a4, a5⟩, g0, g1, g2, g3, g4⟩ := hs.r3
  have hc := hI.w.2.1
  have hn9 := hs.n9
  obtain ⟨n, m, ho, hdj⟩ := hA.2.2.1.rd (by have := hA.2.2.2.2.2.2.2; omega)
  cases hp : a.w.pn with
  | none =>
    have ec := cells0 hp
    have er := roads0 hp
    have et := told0 hp
    refine r_iload_n rfl rfl ?_
    refine r_tsw rfl (by omega) rfl (And.intro (fun s1_0 => ?_) (fun s1n0 => (And.intro (fun s1_1 => ?_) (fun s1n1 => (And.intro (fun s1_2 => ?_) (fun s1n2 => (And.intro (fun s1_3 => ?_) (fun s1n3 => (And.intro (fun s1_4 => ?_) (fun s1n4 => (And.intro (fun s1_5 => ?_) (fun s1n5 => (And.intro (fun s1_6 => ?_) (fun s1n6 => (And.intro (fun s1_7 => ?_) (fun s1n7 => (And.intro (fun s1_8 => ?_) (fun s1n8 => (And.intro (fun s1_9 => ?_) (fun s1n9 => (And.intro (fun s1_10 => ?_) (fun s1n10 => (And.intro (fun s1_11 => ?_) (fun s1n11 => (And.intro (fun s1_12 => ?_) (fun s1n12 => (And.intro (fun s1_13 => ?_) (fun s1n13 => ?_))))))))))))))))))))))))))))
    · refine r_aload_n rfl rfl ?_
      refine r_getR rfl (by first | assumption | exact hs.o rfl) (hI.pln hp) ?_
      refine r_ifnonnullN rfl ?_
      refine r_iconst rfl ?_
      refine r_goto rfl ?_
      refine r_iret rfl ?_
      have e : y = 0 := by omega
      subst e
      rw [show qCount a 0 = _ from ec] at K
      exact K
    · refine r_aload_n rfl rfl ?_
      refine r_getR rfl (by first | assumption | exact hs.o rfl) (hI.pln hp) ?_
      refine r_ifnonnullN rfl ?_
      refine r_iconst rfl ?_
      refine r_goto rfl ?_
      refine r_iret rfl ?_
      have e : y = 1 := by omega
      subst e
      rw [show qCount a 1 = _ from er] at K
      exact K
    · refine r_aload_n rfl rfl ?_
      refine r_getR rfl (by first | assumption | exact hs.o rfl) (hI.pln hp) ?_
      refine r_ifnonnullN rfl ?_
      refine r_iconst rfl ?_
      refine r_goto rfl ?_
      refine r_iret rfl ?_
      have e : y = 2 := by omega
      subst e
      rw [show qCount a 2 = _ from et] at K
      exact K
    · refine r_aload_n rfl rfl ?_
      refine r_getI rfl (by first | assumption | exact hs.o rfl) hI.rk ?_
      refine r_iret rfl ?_
      have e : y = 3 := by omega
      subst e
      exact K
    · refine r_aload_n rfl rfl ?_
      refine r_getI rfl (by first | assumption | exact hs.o rfl) hI.fo ?_
      refine r_iret rfl ?_
      have e : y = 4 := by omega
      subst e
      exact K
    · refine r_aload_n rfl rfl ?_
      refine r_getR rfl (by first | assumption | exact hs.o rfl) (by first | assumption | exact hs.g rfl) ?_
      refine r_getI rfl (by first | assumption | exact hs.o rfl) hc.2.2.1 ?_
      refine r_iret rfl ?_
      have e : y = 5 := by omega
      subst e
      exact K
    · refine r_aload_n rfl rfl ?_
      refine r_getR rfl (by first | assumption | exact hs.o rfl) (by first | assumption | exact hs.g rfl) ?_
      refine r_callV0 rfl rfl (by first | assumption | exact hs.o rfl) rfl (k_carsOn (by omega) hs.r3 hc ho ?_)
      refine r_iret rfl ?_
      have e : y = 6 := by omega
      subst e
      exact K
    · refine r_aload_n rfl rfl ?_
      refine r_getR rfl (by first | assumption | exact hs.o rfl) (by first | assumption | exact hs.g rfl) ?_
      refine r_getI rfl (by first | assumption | exact hs.o rfl) hc.2.2.2.1 ?_
      refine r_iret rfl ?_
      have e : y = 7 := by omega
      subst e
      exact K
    · refine r_aload_n rfl rfl ?_
      refine r_getR rfl (by first | assumption | exact hs.o rfl) (by first | assumption | exact hs.g rfl) ?_
      refine r_getI rfl (by first | assumption | exact hs.o rfl) rfl ?_
      refine r_callS1 rfl rfl rfl (c_bitCount (by omega) hc.gaps ?_)
      refine r_iret rfl ?_
      have e : y = 8 := by omega
      subst e
      exact K
    · refine r_aload_n rfl rfl ?_
      refine r_getR rfl (by first | assumption | exact hs.o rfl) (by first | assumption | exact hs.g rfl) ?_
      refine r_callV0 rfl rfl (by first | assumption | exact hs.o rfl) rfl (k_allWaiting (by omega) hs.r3 hc ?_)
      refine r_iret rfl ?_
      have e : y = 9 := by omega
      subst e
      exact K
    · refine r_aload_n rfl rfl ?_
      refine r_getR rfl (by first | assumption | exact hs.o rfl) (by first | assumption | exact hs.g rfl) ?_
      refine r_getI rfl hn9.1 hI.w.2.2.1 ?_
      refine r_iret rfl ?_
      have e : y = 10 := by omega
      subst e
      exact K
    · refine r_aload_n rfl rfl ?_
      refine r_getI rfl (by first | assumption | exact hs.o rfl) hI.uc ?_
      refine r_iret rfl ?_
      have e : y = 11 := by omega
      subst e
      exact K
    · refine r_aload_n rfl rfl ?_
      refine r_getI rfl (by first | assumption | exact hs.o rfl) hI.x ?_
      refine r_iret rfl ?_
      have e : y = 12 := by omega
      subst e
      exact K
    · refine r_aload_n rfl rfl ?_
      refine r_getI rfl (by first | assumption | exact hs.o rfl) hI.tl ?_
      refine r_iret rfl ?_
      have e : y = 13 := by omega
      subst e
      exact K
    · refine r_iconst rfl ?_
      refine r_iret rfl ?_
      have e : qCount a y = -1 := by
        unfold qCount
        rw [if_neg (by omega), if_neg (by omega), if_neg (by omega), if_neg (by omega), if_neg (by omega), if_neg (by omega), if_neg (by omega), if_neg (by omega), if_neg (by omega), if_neg (by omega), if_neg (by omega), if_neg (by omega), if_neg (by omega), if_neg (by omega)]
      rw [e] at K
      exact K
  | some q =>
    obtain ⟨pl, rd0⟩ := q
    obtain ⟨p, gp, p240, po, hpc, hrc⟩ := hI.plS hp
    have ec := cells1 hp
    have er := roads1 hp
    have et := told1 hp
    refine r_iload_n rfl rfl ?_
    refine r_tsw rfl (by omega) rfl (And.intro (fun s1_0 => ?_) (fun s1n0 => (And.intro (fun s1_1 => ?_) (fun s1n1 => (And.intro (fun s1_2 => ?_) (fun s1n2 => (And.intro (fun s1_3 => ?_) (fun s1n3 => (And.intro (fun s1_4 => ?_) (fun s1n4 => (And.intro (fun s1_5 => ?_) (fun s1n5 => (And.intro (fun s1_6 => ?_) (fun s1n6 => (And.intro (fun s1_7 => ?_) (fun s1n7 => (And.intro (fun s1_8 => ?_) (fun s1n8 => (And.intro (fun s1_9 => ?_) (fun s1n9 => (And.intro (fun s1_10 => ?_) (fun s1n10 => (And.intro (fun s1_11 => ?_) (fun s1n11 => (And.intro (fun s1_12 => ?_) (fun s1n12 => (And.intro (fun s1_13 => ?_) (fun s1n13 => ?_))))))))))))))))))))))))))))
    · refine r_aload_n rfl rfl ?_
      refine r_getR rfl (by first | assumption | exact hs.o rfl) gp ?_
      refine r_ifnonnullS rfl ?_
      refine r_aload_n rfl rfl ?_
      refine r_getR rfl (by first | assumption | exact hs.o rfl) gp ?_
      refine r_getI rfl po.1 hpc.1 ?_
      refine r_iret rfl ?_
      have e : y = 0 := by omega
      subst e
      rw [show qCount a 0 = _ from ec] at K
      exact K
    · refine r_aload_n rfl rfl ?_
      refine r_getR rfl (by first | assumption | exact hs.o rfl) gp ?_
      refine r_ifnonnullS rfl ?_
      refine r_aload_n rfl rfl ?_
      refine r_getR rfl (by first | assumption | exact hs.o rfl) gp ?_
      refine r_getI rfl po.1 hpc.2.1 ?_
      refine r_iret rfl ?_
      have e : y = 1 := by omega
      subst e
      rw [show qCount a 1 = _ from er] at K
      exact K
    · refine r_aload_n rfl rfl ?_
      refine r_getR rfl (by first | assumption | exact hs.o rfl) gp ?_
      refine r_ifnonnullS rfl ?_
      refine r_aload_n rfl rfl ?_
      refine r_getR rfl (by first | assumption | exact hs.o rfl) gp ?_
      refine r_getI rfl po.1 hpc.2.2.1 ?_
      refine r_iret rfl ?_
      have e : y = 2 := by omega
      subst e
      rw [show qCount a 2 = _ from et] at K
      exact K
    · refine r_aload_n rfl rfl ?_
      refine r_getI rfl (by first | assumption | exact hs.o rfl) hI.rk ?_
      refine r_iret rfl ?_
      have e : y = 3 := by omega
      subst e
      exact K
    · refine r_aload_n rfl rfl ?_
      refine r_getI rfl (by first | assumption | exact hs.o rfl) hI.fo ?_
      refine r_iret rfl ?_
      have e : y = 4 := by omega
      subst e
      exact K
    · refine r_aload_n rfl rfl ?_
      refine r_getR rfl (by first | assumption | exact hs.o rfl) (by first | assumption | exact hs.g rfl) ?_
      refine r_getI rfl (by first | assumption | exact hs.o rfl) hc.2.2.1 ?_
      refine r_iret rfl ?_
      have e : y = 5 := by omega
      subst e
      exact K
    · refine r_aload_n rfl rfl ?_
      refine r_getR rfl (by first | assumption | exact hs.o rfl) (by first | assumption | exact hs.g rfl) ?_
      refine r_callV0 rfl rfl (by first | assumption | exact hs.o rfl) rfl (k_carsOn (by omega) hs.r3 hc ho ?_)
      refine r_iret rfl ?_
      have e : y = 6 := by omega
      subst e
      exact K
    · refine r_aload_n rfl rfl ?_
      refine r_getR rfl (by first | assumption | exact hs.o rfl) (by first | assumption | exact hs.g rfl) ?_
      refine r_getI rfl (by first | assumption | exact hs.o rfl) hc.2.2.2.1 ?_
      refine r_iret rfl ?_
      have e : y = 7 := by omega
      subst e
      exact K
    · refine r_aload_n rfl rfl ?_
      refine r_getR rfl (by first | assumption | exact hs.o rfl) (by first | assumption | exact hs.g rfl) ?_
      refine r_getI rfl (by first | assumption | exact hs.o rfl) rfl ?_
      refine r_callS1 rfl rfl rfl (c_bitCount (by omega) hc.gaps ?_)
      refine r_iret rfl ?_
      have e : y = 8 := by omega
      subst e
      exact K
    · refine r_aload_n rfl rfl ?_
      refine r_getR rfl (by first | assumption | exact hs.o rfl) (by first | assumption | exact hs.g rfl) ?_
      refine r_callV0 rfl rfl (by first | assumption | exact hs.o rfl) rfl (k_allWaiting (by omega) hs.r3 hc ?_)
      refine r_iret rfl ?_
      have e : y = 9 := by omega
      subst e
      exact K
    · refine r_aload_n rfl rfl ?_
      refine r_getR rfl (by first | assumption | exact hs.o rfl) (by first | assumption | exact hs.g rfl) ?_
      refine r_getI rfl hn9.1 hI.w.2.2.1 ?_
      refine r_iret rfl ?_
      have e : y = 10 := by omega
      subst e
      exact K
    · refine r_aload_n rfl rfl ?_
      refine r_getI rfl (by first | assumption | exact hs.o rfl) hI.uc ?_
      refine r_iret rfl ?_
      have e : y = 11 := by omega
      subst e
      exact K
    · refine r_aload_n rfl rfl ?_
      refine r_getI rfl (by first | assumption | exact hs.o rfl) hI.x ?_
      refine r_iret rfl ?_
      have e : y = 12 := by omega
      subst e
      exact K
    · refine r_aload_n rfl rfl ?_
      refine r_getI rfl (by first | assumption | exact hs.o rfl) hI.tl ?_
      refine r_iret rfl ?_
      have e : y = 13 := by omega
      subst e
      exact K
    · refine r_iconst rfl ?_
      refine r_iret rfl ?_
      have e : qCount a y = -1 := by
        unfold qCount
        rw [if_neg (by omega), if_neg (by omega), if_neg (by omega), if_neg (by omega), if_neg (by omega), if_neg (by omega), if_neg (by omega), if_neg (by omega), if_neg (by omega), if_neg (by omega), if_neg (by omega), if_neg (by omega), if_neg (by omega), if_neg (by omega)]
      rw [e] at K
      exact K
theorem k_addNote (hd : 1 ≤ d) (hno : NO σ g 9) {i : Nat} (hi : i < 10) (hn : f 9 0 = (i : Int)) {n c e : Int} (K : Q none σ (up2 (up2 (up2 (up2 f 10 i n) 11 i c) 12 i e) 9 0 ((i : Int) + 1)) g) : ZCt d 114 [zr (some 9), zi n, zi c, zi e] σ f g Q := by
  refine ZCt.of' (L0 := [_, _, _, _]) (by omega) rfl rfl rfl (fun d hd1 => ?_)
  obtain ⟨no, ⟨na1, na2, na3⟩, ng1, ng2, ng3⟩ := hno
  refine r_aload_n rfl rfl ?_
  refine r_getI rfl (by first | assumption | exact hs.o rfl) hn ?_
  refine r_bipush rfl ?_
  refine r_icmp_ge rfl (by omega) (by omega) (fun h6 => ?_) (fun h6 => ?_)
  · exfalso; omega
  · refine r_aload_n rfl rfl ?_
    refine r_getR rfl (by first | assumption | exact hs.o rfl) (by first | assumption | exact hs.g rfl) ?_
    refine r_aload_n rfl rfl ?_
    refine r_getI rfl (by first | assumption | exact hs.o rfl) hn ?_
    refine r_iload_n rfl rfl ?_
    refine r_iastN (i) rfl (by first | assumption | exact hs.a rfl) (by omega) (by omega) (by omega) ?_
    refine r_aload_n rfl rfl ?_
    refine r_getR rfl (by first | assumption | exact hs.o rfl) (by first | assumption | exact hs.g rfl) ?_
    refine r_aload_n rfl rfl ?_
    refine r_getI rfl (by first | assumption | exact hs.o rfl) ((congrFun (up2_o _ _ (by omega)) _).trans hn) ?_
    refine r_iload_n rfl rfl ?_
    refine r_iastN (i) rfl (by first | assumption | exact hs.a rfl) (by omega) (by omega) (by omega) ?_
    refine r_aload_n rfl rfl ?_
    refine r_getR rfl (by first | assumption | exact hs.o rfl) (by first | assumption | exact hs.g rfl) ?_
    refine r_aload_n rfl rfl ?_
    refine r_getI rfl (by first | assumption | exact hs.o rfl) ((congrFun (up2_o _ _ (by omega)) _).trans ((congrFun (up2_o _ _ (by omega)) _).trans hn)) ?_
    refine r_iload_n rfl rfl ?_
    refine r_iastN (i) rfl (by first | assumption | exact hs.a rfl) (by omega) (by omega) (by omega) ?_
    refine r_aload_n rfl rfl ?_
    refine r_dupr rfl ?_
    refine r_getI rfl (by first | assumption | exact hs.o rfl) ((congrFun (up2_o _ _ (by omega)) _).trans ((congrFun (up2_o _ _ (by omega)) _).trans ((congrFun (up2_o _ _ (by omega)) _).trans hn))) ?_
    refine r_iconst rfl ?_
    refine r_iadd rfl ?_
    refine r_putI rfl (by first | assumption | exact hs.o rfl) ?_
    refine r_ret rfl ?_
    exact K
theorem k_note (hd : 3 ≤ d) (hI : CI σ f g a) (hA : AOk N a)  {n c e : Int} (hn : IR n) (hc : IR c) (he : IR e) (K : ∀ f' g', CI σ f' g' (sNote a n c e).2 → FrK f f' → Q (some (zi (sNote a n c e).1)) σ f' g') : ZCt d 113 [zr (some 0), zi n, zi c, zi e] σ f g Q := by
  refine ZCt.of' (L0 := [_, _, _, _, _]) (by omega) rfl rfl rfl (fun d hd1 => ?_)
  have hs := hI.sh
  have hn9 := hs.n9
  have hn9' := hs.n9
  obtain ⟨no, ⟨na1, na2, na3⟩, ng1, ng2, ng3⟩ := hn9'
  have hns := hA.2.2.1.1.1
  have no' : n ≠ -1 → ¬ ((0 ≤ n ∧ n ≤ 60) ∧ (0 ≤ c ∧ c < 6) ∧ (e = -1 ∨ (0 ≤ e ∧ e < cellsN a)) ∧ (0 < cellsN a) ∧ a.w.ns < 10) → Q (some (zi (-2))) σ f g := by
    intro q1 q2
    rw [show sNote a n c e = (-2, a) from (if_neg q1).trans (if_neg q2)] at K
    exact K f g hI (FrK.rf f)
  have go : n ≠ -1 → ((0 ≤ n ∧ n ≤ 60) ∧ (0 ≤ c ∧ c < 6) ∧ (e = -1 ∨ (0 ≤ e ∧ e < cellsN a)) ∧ (0 < cellsN a) ∧ a.w.ns < 10) → Q (some (zi ((a.w.ns : Int) + 1))) σ (up2 (up2 (up2 (up2 f 10 a.w.ns n) 11 a.w.ns c) 12 a.w.ns e) 9 0 ((a.w.ns : Int) + 1)) g := by
    intro q1 q2
    rw [show sNote a n c e = ((a.w.ns : Int) + 1, a.sW (ntAdd a.w n c e)) from (if_neg q1).trans (if_pos q2)] at K
    refine K _ g (hI.wd (fun c q => by rw [up2_o _ _ (by omega), up2_o _ _ (by omega), up2_o _ _ (by omega), up2_o _ _ (by omega)]) ?_) (((((FrK.rf f).up (by omega)).up (by omega)).up (by omega)).up (by omega))
    obtain ⟨w1, w2, w3, w4⟩ := hI.w
    have eo : ∀ c', ¬ (9 ≤ c' ∧ c' ≤ 12) → (up2 (up2 (up2 (up2 f 10 a.w.ns n) 11 a.w.ns c) 12 a.w.ns e) 9 0 ((a.w.ns : Int) + 1)) c' = f c' := fun c' q => by rw [up2_o _ _ (by omega), up2_o _ _ (by omega), up2_o _ _ (by omega), up2_o _ _ (by omega)]
    refine ⟨?_, w2.fr (fun c q1 q2 => eo c (by omega)), by rw [up2_same]; show (a.w.ns : Int) + 1 = ((a.w.ns + 1 : Nat) : Int); omega, fun i hi => ?_⟩
    · show (match a.w.pn with
        | none => g 0 4 = none
        | some (pl, rd0) => ∃ p, g 0 4 = some p ∧ 240 ≤ p ∧ PO σ g p ∧ PC _ p pl ∧ RC _ (p + 3) rd0)
      cases hp : a.w.pn with
      | none => rw [hp] at w1; exact w1
      | some x =>
        obtain ⟨pl, rd0⟩ := x
        rw [hp] at w1
        obtain ⟨p, q1, q2, q3, q4, q5⟩ := w1
        refine ⟨p, q1, q2, q3, ?_, q5.fr (fun c z1 z2 => eo c (by omega))⟩
        unfold PC at *
        rw [eo p (by omega), eo (p + 1) (by omega), eo (p + 2) (by omega)]
        exact q4
    · have hi' : i < a.w.ns + 1 := hi
      rw [up2_o _ _ (show 9 + 1 ≠ 9 by omega), up2_o _ _ (show 9 + 2 ≠ 9 by omega), up2_o _ _ (show 9 + 3 ≠ 9 by omega), up2_o _ _ (show 9 + 1 ≠ 12 by omega), up2_o _ _ (show 9 + 2 ≠ 12 by omega), up2_o _ _ (show 9 + 1 ≠ 11 by omega)]
      show _ = up2 (up2 (up2 a.w.nt 0 a.w.ns n) 1 a.w.ns c) 2 a.w.ns e 0 i ∧ _ = up2 (up2 (up2 a.w.nt 0 a.w.ns n) 1 a.w.ns c) 2 a.w.ns e 1 i ∧ _ = up2 (up2 (up2 a.w.nt 0 a.w.ns n) 1 a.w.ns c) 2 a.w.ns e 2 i
      by_cases q : i = a.w.ns
      · subst q
        simp [up2]
      · have := w4 i (by omega)
        simp [up2, q]
        simpa using this
  refine r_iload_n rfl rfl ?_
  refine r_iconst rfl ?_
  refine r_icmp_ne rfl (by omega) (by omega) (fun hm1 => ?_) (fun hm1 => ?_)
  · refine r_iload_n rfl rfl ?_
    refine r_iconst rfl ?_
    refine r_bipush rfl ?_
    refine r_callS3 rfl rfl rfl (k_within (by omega) hn (by omega) (by omega) (fun hw => ?_) (fun hw => ?_))
    · refine r_if_n rfl (by decide) ?_
      refine r_iload_n rfl rfl ?_
      refine r_callS1 rfl rfl rfl (k_isCar (by omega) hc (fun hcar => ?_) (fun hcar => ?_))
      · refine r_if_n rfl (by decide) ?_
        refine r_iload_n rfl rfl ?_
        refine r_iconst rfl ?_
        refine r_icmp_eq rfl (by omega) (by omega) (fun he1 => ?_) (fun he1 => ?_)
        · refine r_iconst rfl ?_
          refine r_goto rfl ?_
          cases hp : a.w.pn with
          | none =>
            refine r_istore (L' := [_, _, _, _, _]) rfl rfl rfl ?_
            refine r_aload_n rfl rfl ?_
            refine r_getR rfl (by first | assumption | exact hs.o rfl) (hI.pln hp) ?_
            refine r_ifnullN rfl ?_
            refine r_bipush rfl ?_
            refine r_iret rfl ?_
            exact no' hm1 (fun q => by rw [cells0 hp] at q; omega)
          | some z =>
            obtain ⟨pl, rd0⟩ := z
            obtain ⟨p, gp, p240, po, hpc, hrc⟩ := hI.plS hp
            have hplo := (hA.plS hp).1.1
            have ec := cells1 hp
            refine r_istore (L' := [_, _, _, _, _]) rfl rfl rfl ?_
            refine r_aload_n rfl rfl ?_
            refine r_getR rfl (by first | assumption | exact hs.o rfl) gp ?_
            refine r_ifnullS rfl ?_
            refine r_iload rfl rfl ?_
            refine r_if_n rfl (by decide) ?_
            refine r_aload_n rfl rfl ?_
            refine r_getR rfl (by first | assumption | exact hs.o rfl) (by first | assumption | exact hs.g rfl) ?_
            refine r_getI rfl no hI.w.2.2.1 ?_
            refine r_bipush rfl ?_
            refine r_icmp_lt rfl (by omega) (by omega) (fun hfull => ?_) (fun hfull => ?_)
            · refine r_aload_n rfl rfl ?_
              refine r_getR rfl (by first | assumption | exact hs.o rfl) (by first | assumption | exact hs.g rfl) ?_
              refine r_iload_n rfl rfl ?_
              refine r_iload_n rfl rfl ?_
              refine r_iload_n rfl rfl ?_
              refine r_callV3 rfl rfl (by first | assumption | exact hs.o rfl) rfl (k_addNote (by omega) hn9 (i := a.w.ns) (by omega) hI.w.2.2.1 ?_)
              refine r_aload_n rfl rfl ?_
              refine r_getR rfl (by first | assumption | exact hs.o rfl) (by first | assumption | exact hs.g rfl) ?_
              refine r_getI rfl no (up2_same _ _ _ _) ?_
              refine r_iret rfl ?_
              exact go hm1 (by rw [ec]; omega)
            · refine r_bipush rfl ?_
              refine r_iret rfl ?_
              exact no' hm1 (fun q => by rw [ec] at q; omega)
        · refine r_aload_n rfl rfl ?_
          refine r_iload_n rfl rfl ?_
          refine r_callV1 rfl rfl (by first | assumption | exact hs.o rfl) rfl (k_isCell (by omega) hI hA he (fun pl1 rd1 hp1 hcell => ?_) (fun hnc => ?_))
          · refine r_if_n rfl (by decide) ?_
            refine r_iconst rfl ?_
            refine r_goto rfl ?_
            cases hp : a.w.pn with
            | none =>
              refine r_istore (L' := [_, _, _, _, _]) rfl rfl rfl ?_
              refine r_aload_n rfl rfl ?_
              refine r_getR rfl (by first | assumption | exact hs.o rfl) (hI.pln hp) ?_
              refine r_ifnullN rfl ?_
              refine r_bipush rfl ?_
              refine r_iret rfl ?_
              exact no' hm1 (fun q => by rw [cells0 hp] at q; omega)
            | some z =>
              obtain ⟨pl, rd0⟩ := z
              obtain ⟨p, gp, p240, po, hpc, hrc⟩ := hI.plS hp
              have hplo := (hA.plS hp).1.1
              have ec := cells1 hp
              rw [hp] at hp1
              cases hp1
              refine r_istore (L' := [_, _, _, _, _]) rfl rfl rfl ?_
              refine r_aload_n rfl rfl ?_
              refine r_getR rfl (by first | assumption | exact hs.o rfl) gp ?_
              refine r_ifnullS rfl ?_
              refine r_iload rfl rfl ?_
              refine r_if_n rfl (by decide) ?_
              refine r_aload_n rfl rfl ?_
              refine r_getR rfl (by first | assumption | exact hs.o rfl) (by first | assumption | exact hs.g rfl) ?_
              refine r_getI rfl no hI.w.2.2.1 ?_
              refine r_bipush rfl ?_
              refine r_icmp_lt rfl (by omega) (by omega) (fun hfull => ?_) (fun hfull => ?_)
              · refine r_aload_n rfl rfl ?_
                refine r_getR rfl (by first | assumption | exact hs.o rfl) (by first | assumption | exact hs.g rfl) ?_
                refine r_iload_n rfl rfl ?_
                refine r_iload_n rfl rfl ?_
                refine r_iload_n rfl rfl ?_
                refine r_callV3 rfl rfl (by first | assumption | exact hs.o rfl) rfl (k_addNote (by omega) hn9 (i := a.w.ns) (by omega) hI.w.2.2.1 ?_)
                refine r_aload_n rfl rfl ?_
                refine r_getR rfl (by first | assumption | exact hs.o rfl) (by first | assumption | exact hs.g rfl) ?_
                refine r_getI rfl no (up2_same _ _ _ _) ?_
                refine r_iret rfl ?_
                exact go hm1 (by rw [ec]; omega)
              · refine r_bipush rfl ?_
                refine r_iret rfl ?_
                exact no' hm1 (fun q => by rw [ec] at q; omega)
          · refine r_if_y rfl (by decide) ?_
            refine r_iconst rfl ?_
            cases hp : a.w.pn with
            | none =>
              refine r_istore (L' := [_, _, _, _, _]) rfl rfl rfl ?_
              refine r_aload_n rfl rfl ?_
              refine r_getR rfl (by first | assumption | exact hs.o rfl) (hI.pln hp) ?_
              refine r_ifnullN rfl ?_
              refine r_bipush rfl ?_
              refine r_iret rfl ?_
              exact no' hm1 (fun q => by rw [cells0 hp] at q; omega)
            | some z =>
              obtain ⟨pl, rd0⟩ := z
              obtain ⟨p, gp, p240, po, hpc, hrc⟩ := hI.plS hp
              have hplo := (hA.plS hp).1.1
              have ec := cells1 hp
              have hnc2 := hnc pl rd0 hp
              refine r_istore (L' := [_, _, _, _, _]) rfl rfl rfl ?_
              refine r_aload_n rfl rfl ?_
              refine r_getR rfl (by first | assumption | exact hs.o rfl) gp ?_
              refine r_ifnullS rfl ?_
              refine r_iload rfl rfl ?_
              refine r_if_y rfl (by decide) ?_
              refine r_bipush rfl ?_
              refine r_iret rfl ?_
              exact no' hm1 (fun q => by rw [ec] at q; omega)
      · refine r_if_y rfl (by decide) ?_
        refine r_iconst rfl ?_
        cases hp : a.w.pn with
        | none =>
          refine r_istore (L' := [_, _, _, _, _]) rfl rfl rfl ?_
          refine r_aload_n rfl rfl ?_
          refine r_getR rfl (by first | assumption | exact hs.o rfl) (hI.pln hp) ?_
          refine r_ifnullN rfl ?_
          refine r_bipush rfl ?_
          refine r_iret rfl ?_
          exact no' hm1 (fun q => by rw [cells0 hp] at q; omega)
        | some z =>
          obtain ⟨pl, rd0⟩ := z
          obtain ⟨p, gp, p240, po, hpc, hrc⟩ := hI.plS hp
          have hplo := (hA.plS hp).1.1
          have ec := cells1 hp
          refine r_istore (L' := [_, _, _, _, _]) rfl rfl rfl ?_
          refine r_aload_n rfl rfl ?_
          refine r_getR rfl (by first | assumption | exact hs.o rfl) gp ?_
          refine r_ifnullS rfl ?_
          refine r_iload rfl rfl ?_
          refine r_if_y rfl (by decide) ?_
          refine r_bipush rfl ?_
          refine r_iret rfl ?_
          exact no' hm1 (fun q => by rw [ec] at q; omega)
    · refine r_if_y rfl (by decide) ?_
      refine r_iconst rfl ?_
      cases hp : a.w.pn with
      | none =>
        refine r_istore (L' := [_, _, _, _, _]) rfl rfl rfl ?_
        refine r_aload_n rfl rfl ?_
        refine r_getR rfl (by first | assumption | exact hs.o rfl) (hI.pln hp) ?_
        refine r_ifnullN rfl ?_
        refine r_bipush rfl ?_
        refine r_iret rfl ?_
        exact no' hm1 (fun q => by rw [cells0 hp] at q; omega)
      | some z =>
        obtain ⟨pl, rd0⟩ := z
        obtain ⟨p, gp, p240, po, hpc, hrc⟩ := hI.plS hp
        have hplo := (hA.plS hp).1.1
        have ec := cells1 hp
        refine r_istore (L' := [_, _, _, _, _]) rfl rfl rfl ?_
        refine r_aload_n rfl rfl ?_
        refine r_getR rfl (by first | assumption | exact hs.o rfl) gp ?_
        refine r_ifnullS rfl ?_
        refine r_iload rfl rfl ?_
        refine r_if_y rfl (by decide) ?_
        refine r_bipush rfl ?_
        refine r_iret rfl ?_
        exact no' hm1 (fun q => by rw [ec] at q; omega)
  · refine r_aload_n rfl rfl ?_
    refine r_getR rfl (by first | assumption | exact hs.o rfl) (by first | assumption | exact hs.g rfl) ?_
    refine r_iconst rfl ?_
    refine r_putI rfl (by first | assumption | exact hs.o rfl) ?_
    refine r_iconst rfl ?_
    refine r_iret rfl ?_
    rw [show sNote a n c e = (0, a.sW (a.w.sNt 0 a.w.nt)) from if_pos (by omega)] at K
    refine K _ g (hI.wd (fun c q => up2_o _ _ (by omega)) ?_) ((FrK.rf f).up (by omega))
    obtain ⟨w1, w2, w3, w4⟩ := hI.w
    refine ⟨?_, w2.fr (fun c q1 q2 => up2_o _ _ (by omega)), up2_same _ _ _ _, fun i hi => absurd hi (Nat.not_lt_zero i)⟩
    show (match a.w.pn with
      | none => g 0 4 = none
      | some (pl, rd0) => ∃ p, g 0 4 = some p ∧ 240 ≤ p ∧ PO σ g p ∧ PC _ p pl ∧ RC _ (p + 3) rd0)
    cases hp : a.w.pn with
    | none => rw [hp] at w1; exact w1
    | some x =>
      obtain ⟨pl, rd0⟩ := x
      rw [hp] at w1
      obtain ⟨p, q1, q2, q3, q4, q5⟩ := w1
      refine ⟨p, q1, q2, q3, ?_, q5.fr (fun c z1 z2 => up2_o _ _ (by omega))⟩
      unfold PC at *
      rw [up2_o _ _ (by omega), up2_o _ _ (by omega), up2_o _ _ (by omega)]
      exact q4
end CSMALL
