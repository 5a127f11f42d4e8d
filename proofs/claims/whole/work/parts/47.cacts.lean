/-! Acts by hand: what they do; the class does it -/
def setRd (a : AS) (rd : Rd) : AS := a.sW (a.w.sRd rd)
def aKeep (a : AS) : AS := a.sU (min 20 (a.uc + 1)) (fun i => if i = 0 then a.w.rd else a.us (i - 1))
abbrev isOnA (a : AS) (x : Int) : Prop := 0 ≤ x ∧ x < 6 ∧ a.w.rd 0 x.toNat ≠ -1
def roadsN (a : AS) : Int := match a.w.pn with
  | none => 0
  | some (pl, _) => pl.2.1
abbrev isRoadA (a : AS) (x : Int) : Prop := 0 ≤ x ∧ x < roadsN a
theorem roads0 {a : AS} (h : a.w.pn = none) : roadsN a = 0 := by unfold roadsN; rw [h]
theorem roads1 {a : AS} {pl : Pl} {rd0 : Rd} (h : a.w.pn = some (pl, rd0)) : roadsN a = pl.2.1 := by unfold roadsN; rw [h]
def gapN (rd : Rd) : Int := cnt (fun c => decide (rd 6 c = 1)) 20
def sStep (a : AS) : Int × AS := match a.w.pn with
  | none => (-1, a)
  | some (pl, _) => if 999 ≤ a.w.rd 5 0 then (-1, a) else ((rStep pl (AL a a.fo pl) (-1) a.w.rd).2.1, setRd (aKeep a) (rStep pl (AL a a.fo pl) (-1) a.w.rd).1)
def poleV (a : AS) (x y : Int) : Int := if 99 ≤ a.w.rd 2 x.toNat + y then 99 else a.w.rd 2 x.toNat + y
def sPole (a : AS) (x y : Int) : Int × AS := if isOnA a x ∧ 1 ≤ y ∧ y ≤ 20 then (poleV a x y, setRd (aKeep a) (up2 a.w.rd 2 x.toNat (poleV a x y))) else (-1, a)
def rCross (rd : Rd) (k : Nat) : Rd := rOff (up2 rd 6 (rd 0 k).toNat 1) k
def sGrass (a : AS) (x : Int) : Int × AS := if isOnA a x then (a.w.rd 0 x.toNat, setRd (aKeep a) (rCross a.w.rd x.toNat)) else (-1, a)
def sFill (a : AS) (x : Int) : Int × AS := match a.w.pn with
  | none => (-1, a)
  | some (pl, _) => if (0 ≤ x ∧ x < pl.1) ∧ a.w.rd 6 x.toNat = 1 then (gapN (up2 a.w.rd 6 x.toNat 0), setRd (aKeep a) (up2 a.w.rd 6 x.toNat 0)) else (-1, a)
def sWish (a : AS) (x y : Int) : Int × AS := if isOnA a x ∧ isRoadA a y ∧ a.w.rd 1 x.toNat ≠ y then (a.w.rd 1 x.toNat, setRd (aKeep a) (up2 a.w.rd 1 x.toNat y)) else (-1, a)
def sUndo (a : AS) : Int × AS := if a.uc = 0 then (-1, a) else ((a.uc : Int) - 1, (setRd a (a.us 0)).sU (a.uc - 1) (fun i => a.us (i + 1)))
def FrK (f f' : ZF) : Prop := ∀ c, 219 ≤ c → c < 240 → f' c = f c
theorem FrK.rf (f : ZF) : FrK f f := fun _ _ _ => rfl
theorem FrK.trans {a b c : ZF} (h1 : FrK a b) (h2 : FrK b c) : FrK a c := fun k q1 q2 => (h2 k q1 q2).trans (h1 k q1 q2)
theorem FrK.r {f0 f f' : ZF} {r : Nat} (h : FrK f0 f) (h' : FrR r f f') (hr : r + 5 < 219) : FrK f0 f' := fun c q1 q2 => (h' c (by omega)).trans (h c q1 q2)
theorem FrK.c {f0 f f' : ZF} {r : Nat} (h : FrK f0 f) (h' : FrC r f f') (hr : r + 5 < 219) : FrK f0 f' := fun c q1 q2 => (h'.1 c (by omega) (by omega) (by omega) (by omega)).trans (h c q1 q2)
theorem FrK.up {f0 f : ZF} {k i : Nat} {v : Int} (h : FrK f0 f) (hk : k < 219 ∨ 240 ≤ k) : FrK f0 (up2 f k i v) := fun c q1 q2 => (up2_o _ _ (by omega)).trans (h c q1 q2)
theorem FrQ.k {f f' : ZF} (h : FrQ f f') : FrK f f' := fun c q1 q2 => h c (by omega)
section CACTS
variable {d : Nat} {σ : ZS} {f f' : ZF} {g g' : ZG} {Q : ZQ} {N : Int} {rd : Rd} {pl : Pl} {rd0 : Rd} {a : AS}
theorem CI.now (h : CI σ f g a) (hf : ∀ c, ¬ (3 ≤ c ∧ c ≤ 8) → (c < 13 ∨ 54 < c) → f' c = f c) (hg : FrG g g') (hrc : RC f' 3 rd) : CI σ f' g' (setRd a rd) := by
  obtain ⟨h1, h2, h3, h4, h5, h6, h7, h8, h9, h10, ⟨u, h11, h12, h13⟩, h14⟩ := h
  refine ⟨h1.frg hg, by rw [hf 0 (by omega) (by omega)]; exact h2, by rw [hf 1 (by omega) (by omega)]; exact h3, by rw [hf 1 (by omega) (by omega)]; exact h4, by rw [hf 0 (by omega) (by omega)]; exact h5, fun i hi => ?_, ?_, by rw [hf 0 (by omega) (by omega)]; exact h8, by rw [hf 0 (by omega) (by omega)]; exact h9, by rw [hf 0 (by omega) (by omega)]; exact h10, ⟨u, h11, by rw [hf 0 (by omega) (by omega)]; exact h12, fun i hi => (h13 i hi).fr (fun c q1 q2 => hf c (by omega) (by omega))⟩, fun k hk => ?_⟩
  · obtain ⟨q, c, q1, q2, q3, q4⟩ := h6 i hi
    refine ⟨q, c, by rw [hg 2 i (by omega)]; exact q1, q2, q3.frg (fun j => hg _ _ (by omega)), by rw [hf c (by have := q3.c240; omega) (by have := q3.c240; omega)]; exact q4⟩
  · rw [hg 0 4 (by omega)]
    obtain ⟨w1, w2, w3, w4⟩ := h7
    refine ⟨?_, hrc, by rw [hf 9 (by omega) (by omega)]; exact w3, fun i hi => by rw [hf 10 (by omega) (by omega), hf 11 (by omega) (by omega), hf 12 (by omega) (by omega)]; exact w4 i hi⟩
    show (match a.w.pn with
      | none => g 0 4 = none
      | some (pl, rd0) => ∃ p, g 0 4 = some p ∧ 240 ≤ p ∧ PO σ g' p ∧ PC f' p pl ∧ RC f' (p + 3) rd0)
    cases hp : a.w.pn with
    | none => rw [hp] at w1; exact w1
    | some x =>
      obtain ⟨pl, rd0⟩ := x
      rw [hp] at w1
      obtain ⟨p, q1, q2, q3, q4, q5⟩ := w1
      refine ⟨p, q1, q2, q3.frg (fun i => hg _ _ (by omega)) (fun i => hg _ _ (by omega)), ?_, q5.fr (fun c q1 q2 => hf c (by omega) (by omega))⟩
      unfold PC at *
      rw [hf p (by omega) (by omega), hf (p + 1) (by omega) (by omega), hf (p + 2) (by omega) (by omega)]
      exact q4
  · have := h14 k hk
    show (match a.im k with
      | none => f' (55 + 11 * k) 0 = 0
      | some (w, fo, x) => f' (55 + 11 * k) 0 = 1 ∧ CW σ f' g' (g' (55 + 11 * k) 1) (56 + 11 * k) (62 + 11 * k) w ∧ f' (55 + 11 * k) 2 = fo ∧ f' (55 + 11 * k) 3 = x)
    cases hi : a.im k with
    | none => rw [hi] at this; simp only at this ⊢; rw [hf _ (by omega) (by omega)]; exact this
    | some x =>
      obtain ⟨w, fo, x⟩ := x
      rw [hi] at this
      obtain ⟨q1, q2, q3, q4⟩ := this
      simp only
      rw [hf (55 + 11 * k) (by omega) (by omega), hg (55 + 11 * k) 1 (by omega)]
      exact ⟨q1, q2.fr (fun c q => hf c (by omega) (by omega)) (fun c i q => hg _ _ (by omega)), q3, q4⟩
theorem CI.nowR (h : CI σ f g a) (hf : FrR 3 f f') (hrc : RC f' 3 rd) : CI σ f' g (setRd a rd) := h.now (fun c q1 _ => hf c (by omega)) (FrG.rf g) hrc
/-- the fields of the object itself, and the Rounds to undo -/
theorem CI.undo (h : CI σ f g a) {b : AS} (hb : b.tl = a.tl ∧ b.tp = a.tp ∧ b.rk = a.rk ∧ b.ru = a.ru ∧ b.w = a.w ∧ b.fo = a.fo ∧ b.x = a.x ∧ b.im = a.im) (hf : ∀ c, c ≠ 0 → ¬ (99 ≤ c ∧ c < 219) → f' c = f c) (h0 : ∀ i, i ≠ 11 → i ≠ 12 → f' 0 i = f 0 i) (huc : f' 0 11 = (b.uc : Int)) (hun : ∃ u : Nat, u < 20 ∧ f' 0 12 = (u : Int) ∧ ∀ i, i < b.uc → RC f' (99 + 6 * ((u + 19 - i) % 20)) (b.us i)) : CI σ f' g b := by
  obtain ⟨h1, h2, h3, h4, h5, h6, h7, h8, h9, h10, -, h14⟩ := h
  obtain ⟨b1, b2, b3, b4, b5, b6, b7, b8⟩ := hb
  refine ⟨h1, by rw [h0 1 (by omega) (by omega), b1]; exact h2, by rw [hf 1 (by omega) (by omega)]; exact h3, by rw [hf 1 (by omega) (by omega), b1, b2]; exact h4, by rw [h0 3 (by omega) (by omega), b3]; exact h5, fun i hi => ?_, ?_, by rw [h0 6 (by omega) (by omega), b6]; exact h8, by rw [h0 7 (by omega) (by omega), b7]; exact h9, huc, hun, fun k hk => ?_⟩
  · rw [b4]
    obtain ⟨q, c, q1, q2, q3, q4⟩ := h6 i (by rw [← b3]; exact hi)
    exact ⟨q, c, q1, q2, q3, by rw [hf c (by have := q3.c240; omega) (by have := q3.c240; omega)]; exact q4⟩
  · rw [b5]
    exact h7.fr (fun c q => hf c (by omega) (by omega)) (fun c i q => rfl)
  · rw [b8]
    have := h14 k hk
    cases hi : a.im k with
    | none => rw [hi] at this; simp only at this ⊢; rw [hf _ (by omega) (by omega)]; exact this
    | some x =>
      obtain ⟨w, fo, x⟩ := x
      rw [hi] at this
      obtain ⟨q1, q2, q3, q4⟩ := this
      simp only
      rw [hf (55 + 11 * k) (by omega) (by omega)]
      exact ⟨q1, q2.fr (fun c q => hf c (by omega) (by omega)) (fun c i q => rfl), q3, q4⟩
theorem k_keep (hd : 2 ≤ d) (hI : CI σ f g a) (hA : AOk N a) (K : ∀ f', CI σ f' g (aKeep a) → FrK f f' → Q none σ f' g) : ZCt d 59 [zr (some 0)] σ f g Q := by
  refine ZCt.of' (L0 := [_]) (by omega) rfl rfl rfl (fun d hd1 => ?_)
  have hs := hI.sh
  have hA1 := hA.1
  obtain ⟨u, hu20, hu12, huR⟩ := hI.un
  have hus := hs.us hu20
  refine r_aload_n rfl rfl ?_
  refine r_getR rfl (by first | assumption | exact hs.o rfl) (by first | assumption | exact hs.g rfl) ?_
  refine r_aload_n rfl rfl ?_
  refine r_getI rfl (by first | assumption | exact hs.o rfl) hu12 ?_
  refine r_aald rfl (hs.a rfl) (by omega) (by omega) rfl ((congrArg (g 14) (show ((u : Nat) : Int).toNat = u by omega)).trans hus.1) ?_
  refine r_aload_n rfl rfl ?_
  refine r_getR rfl (by first | assumption | exact hs.o rfl) (by first | assumption | exact hs.g rfl) ?_
  refine r_callV1 rfl rfl hus.2.1 rfl (k_copyFrom (rd := a.w.rd) (by omega) hus.2 hs.r3 (by omega) hI.w.2.1 (fun f1 hf1 hc1 => ?_))
  have e12 : f1 0 12 = (u : Int) := (congrFun (hf1 0 (by omega)) _).trans hu12
  have e11 : f1 0 11 = (a.uc : Int) := (congrFun (hf1 0 (by omega)) _).trans hI.uc
  refine r_aload_n rfl rfl ?_
  refine r_aload_n rfl rfl ?_
  refine r_getI rfl (by first | assumption | exact hs.o rfl) e12 ?_
  refine r_iconst rfl ?_
  refine r_iadd rfl ?_
  refine r_bipush rfl ?_
  refine r_irem rfl (by omega) (by omega) (by omega) ?_
  rw [show ((u : Int) + 1).tmod 20 = (((u + 1) % 20 : Nat) : Int) by rw [Int.tmod_eq_emod_of_nonneg (by omega)]; omega]
  refine r_putI rfl (by first | assumption | exact hs.o rfl) ?_
  refine r_aload_n rfl rfl ?_
  refine r_bipush rfl ?_
  refine r_aload_n rfl rfl ?_
  refine r_getI rfl (by first | assumption | exact hs.o rfl) ((up2_ne _ _ (by omega)).trans e11) ?_
  refine r_iconst rfl ?_
  refine r_iadd rfl ?_
  refine r_callS2 rfl rfl rfl (c_min (by omega) (by omega) (by omega) ?_)
  rw [show (if (20 : Int) ≤ (a.uc : Int) + 1 then (20 : Int) else (a.uc : Int) + 1) = ((min 20 (a.uc + 1) : Nat) : Int) by split <;> omega]
  refine r_putI rfl (by first | assumption | exact hs.o rfl) ?_
  refine r_ret rfl ?_
  refine K _ ?_ (((FrK.rf f).r hf1 (by omega)).up (by omega) |>.up (by omega))
  refine hI.undo (b := aKeep a) ⟨rfl, rfl, rfl, rfl, rfl, rfl, rfl, rfl⟩ (fun c q1 q2 => by rw [up2_o _ _ q1, up2_o _ _ q1]; exact hf1 c (by omega)) (fun i q1 q2 => by rw [up2_ne _ _ (by omega), up2_ne _ _ (by omega)]; exact congrFun (hf1 0 (by omega)) i) (up2_same _ _ _ _) ?_
  refine ⟨(u + 1) % 20, Nat.mod_lt _ (by omega), by rw [up2_ne _ _ (by omega), up2_same], fun i hi => ?_⟩
  refine RC.fr (f := f1) ?_ (fun c q1 q2 => by rw [up2_o _ _ (by omega), up2_o _ _ (by omega)])
  have hi' : i < min 20 (a.uc + 1) := hi
  by_cases e : i = 0
  · subst e
    rw [show ((u + 1) % 20 + 19 - 0) % 20 = u by omega]
    exact hc1
  · rw [show ((u + 1) % 20 + 19 - i) % 20 = (u + 19 - (i - 1)) % 20 by omega]
    show RC f1 _ (if i = 0 then a.w.rd else a.us (i - 1))
    rw [if_neg e]
    have hne : (u + 19 - (i - 1)) % 20 ≠ u := by omega
    exact (huR (i - 1) (by omega)).fr (fun c q1 q2 => hf1 c (by omega))
theorem AOk.keep (hA : AOk N a) (hps : a.w.pn ≠ none) : AOk N (aKeep a) := by
  obtain ⟨h1, h2, h3, h4, h5, h6, h7, h8⟩ := hA
  refine ⟨⟨h1.1, h1.2.1, by show min 20 (a.uc + 1) ≤ 20; omega⟩, h2, h3, h4, h5, ?_, h7, h8⟩
  show (match a.w.pn with
    | none => min 20 (a.uc + 1) = 0
    | some (pl, _) => ∀ i, i < min 20 (a.uc + 1) → VR pl N (if i = 0 then a.w.rd else a.us (i - 1)))
  cases hp : a.w.pn with
  | none => exact absurd hp hps
  | some x =>
    obtain ⟨pl, rd0⟩ := x
    rw [hp] at h6
    intro i hi
    have h3' := h3.2
    rw [hp] at h3'
    by_cases e : i = 0
    · rw [if_pos e]; exact h3'.2.1
    · rw [if_neg e]; exact h6 (i - 1) (by omega)
theorem k_step (hd : 8 ≤ d) (hI : CI σ f g a) (hA : AOk N a)  (K : ∀ f' g', CI σ f' g' (sStep a).2 → FrK f f' → Q (some (zi (sStep a).1)) σ f' g') : ZCt d 58 [zr (some 0)] σ f g Q := by
  refine ZCt.of' (L0 := [_]) (by omega) rfl rfl rfl (fun d hd1 => ?_)
  have hs := hI.sh
  cases hp : a.w.pn with
  | none =>
    have e : sStep a = (-1, a) := by unfold sStep; rw [hp]
    rw [e] at K
    refine r_aload_n rfl rfl ?_
    refine r_getR rfl (by first | assumption | exact hs.o rfl) (hI.pln hp) ?_
    refine r_ifnullN rfl ?_
    refine r_iconst rfl ?_
    refine r_iret rfl ?_
    exact K f g hI (FrK.rf f)
  | some q =>
    obtain ⟨pl, rd0⟩ := q
    obtain ⟨p, gp, p240, po, hpc, hrc⟩ := hI.plS hp
    obtain ⟨hplo, hvr, hst⟩ := hA.plS hp
    have hN := hA.2.2.2.2.2.2.2
    have h50 := hvr.1.2.2.2.2.2.1
    have hr3 := hs.r3
    obtain ⟨oo, ⟨a1, a2, a3, a4, a5⟩, g0, g1, g2, g3, g4⟩ := hs.r3
    have hAk : AOk N (aKeep a) := hA.keep (by rw [hp]; exact fun q => by cases q)
    refine r_aload_n rfl rfl ?_
    refine r_getR rfl (by first | assumption | exact hs.o rfl) gp ?_
    refine r_ifnullS rfl ?_
    refine r_aload_n rfl rfl ?_
    refine r_getR rfl (by first | assumption | exact hs.o rfl) (by first | assumption | exact hs.g rfl) ?_
    refine r_getI rfl (by first | assumption | exact hs.o rfl) hI.w.2.1.2.2.1 ?_
    refine r_sipush rfl ?_
    refine r_icmp_lt rfl (by omega) (by omega) (fun h999 => ?_) (fun h999 => ?_)
    · refine r_aload_n rfl rfl ?_
      refine r_callV0 rfl rfl (by first | assumption | exact hs.o rfl) rfl (k_keep (by omega) hI hA (fun f1 hI1 hk1 => ?_))
      obtain ⟨p', gp', p240', po', hpc', hrc'⟩ := hI1.plS (show (aKeep a).w.pn = some (pl, rd0) from hp)
      refine r_aload_n rfl rfl ?_
      refine r_aload_n rfl rfl ?_
      refine r_getI rfl (by first | assumption | exact hs.o rfl) hI1.fo ?_
      refine r_callV1 rfl rfl (by first | assumption | exact hs.o rfl) rfl (k_setEngine (by omega) hI1 (N := N) hAk hA.2.2.2.1 (fun g2 hg2 e0 e1 e2 => ?_))
      have hs2 := hs.frg hg2
      have ht := tr_of hI1 (N := N) hAk (show (aKeep a).w.pn = some (pl, rd0) from hp) hA.2.2.2.1 gp' p240' po' hpc' hg2 e0 e1 e2
      refine r_aload_n rfl rfl ?_
      refine r_getR rfl (by first | assumption | exact hs.o rfl) (hs2.g rfl) ?_
      refine r_aload_n rfl rfl ?_
      refine r_getR rfl (by first | assumption | exact hs.o rfl) (hs2.g rfl) ?_
      refine r_callV1 rfl rfl (by first | assumption | exact hs.o rfl) rfl (k_drv (rd := a.w.rd) (by omega) ht (by unfold RrOk; omega) hs2.r3 (hI1.w.2.1.fr (fun c q1 q2 => by rw [up2_o _ _ (by omega), up2_o _ _ (by omega)])) hvr.vs (by omega) (fun f3 hf3 ht3 hc3 hst3 => ?_))
      refine r_iret rfl ?_
      have e : sStep a = ((rStep pl (AL a a.fo pl) (-1) a.w.rd).2.1, setRd (aKeep a) (rStep pl (AL a a.fo pl) (-1) a.w.rd).1) := by unfold sStep; rw [hp]; exact if_neg (by omega)
      rw [e] at K
      refine K f3 g2 (hI1.now (fun c q1 q2 => ?_) hg2 hc3) (hk1.trans (fun c q1 q2 => ?_))
      · rw [hf3.1 c (by omega) (by omega) (by omega) (by omega), up2_o _ _ (by omega), up2_o _ _ (by omega)]
      · rw [hf3.1 c (by omega) (by omega) (by omega) (by omega), up2_o _ _ (by omega), up2_o _ _ (by omega)]
    · refine r_iconst rfl ?_
      refine r_iret rfl ?_
      have e : sStep a = (-1, a) := by unfold sStep; rw [hp]; exact if_pos (by omega)
      rw [e] at K
      exact K f g hI (FrK.rf f)
theorem AOk.onPl (hA : AOk N a) {k : Nat} (hk : k < 6) (h0 : a.w.rd 0 k ≠ -1) : ∃ pl rd0, a.w.pn = some (pl, rd0) := by
  cases hp : a.w.pn with
  | none => exact absurd (by rw [hA.pln hp]; rfl) h0
  | some x => exact ⟨x.1, x.2, rfl⟩
theorem k_pole (hd : 4 ≤ d) (hI : CI σ f g a) (hA : AOk N a)  {x y : Int} (hx : IR x) (hy : IR y) (K : ∀ f' g', CI σ f' g' (sPole a x y).2 → FrK f f' → Q (some (zi (sPole a x y).1)) σ f' g') : ZCt d 76 [zr (some 0), zi x, zi y] σ f g Q := by
  refine ZCt.of' (L0 := [_, _, _]) (by omega) rfl rfl rfl (fun d hd1 => ?_)
  have hs := hI.sh
  obtain ⟨oo, ⟨a1, a2, a3, a4, a5⟩, g0, g1, g2, g3, g4⟩ := hs.r3
  have no : ¬ (isOnA a x ∧ 1 ≤ y ∧ y ≤ 20) → Q (some (zi (-1))) σ f g := by
    intro q
    have e : sPole a x y = (-1, a) := if_neg q
    rw [e] at K
    exact K f g hI (FrK.rf f)
  refine r_aload_n rfl rfl ?_
  refine r_iload_n rfl rfl ?_
  refine r_callV1 rfl rfl (by first | assumption | exact hs.o rfl) rfl (k_isOn (by omega) hI hA hx (fun k hxk hk6 hk0 => ?_) (fun hoff => ?_))
  · refine r_if_n rfl (by decide) ?_
    refine r_iload_n rfl rfl ?_
    refine r_iconst rfl ?_
    refine r_bipush rfl ?_
    refine r_callS3 rfl rfl rfl (k_within (by omega) hy (by omega) (by omega) (fun hw => ?_) (fun hw => ?_))
    · refine r_if_y rfl (by decide) ?_
      refine r_aload_n rfl rfl ?_
      refine r_callV0 rfl rfl (by first | assumption | exact hs.o rfl) rfl (k_keep (by omega) hI hA (fun f1 hI1 hk1 => ?_))
      subst hxk
      have hc1 := hI1.w.2.1
      have hcar := hc1.1 k hk6
      obtain ⟨pl, rd0, hp⟩ := hA.onPl hk6 (by omega)
      obtain ⟨hplo, hvr, hst⟩ := hA.plS hp
      have hok := hvr.1.2.2.1 k hk6
      have ho1 := hvr.1.1
      have ho2 := hvr.1.2.1
      refine r_aload_n rfl rfl ?_
      refine r_getR rfl (by first | assumption | exact hs.o rfl) (by first | assumption | exact hs.g rfl) ?_
      refine r_getR rfl (by first | assumption | exact hs.o rfl) (by first | assumption | exact hs.g rfl) ?_
      refine r_iload_n rfl rfl ?_
      refine r_bipush rfl ?_
      refine r_aload_n rfl rfl ?_
      refine r_getR rfl (by first | assumption | exact hs.o rfl) (by first | assumption | exact hs.g rfl) ?_
      refine r_getR rfl (by first | assumption | exact hs.o rfl) (by first | assumption | exact hs.g rfl) ?_
      refine r_iload_n rfl rfl ?_
      refine r_iald rfl (by first | assumption | exact hs.a rfl) (by omega) (by omega) ((zix (n := k) (by omega)).trans hcar.2.2.1) ?_
      refine r_iload_n rfl rfl ?_
      refine r_iadd rfl ?_
      refine r_callS2 rfl rfl rfl (c_min (by omega) (by omega) (by change _ ≤ a.w.rd 2 k + y ∧ a.w.rd 2 k + y ≤ _; omega) ?_)
      refine r_iastN (k) rfl (by first | assumption | exact hs.a rfl) (by omega) (by omega) (by omega) ?_
      refine r_aload_n rfl rfl ?_
      refine r_getR rfl (by first | assumption | exact hs.o rfl) (by first | assumption | exact hs.g rfl) ?_
      refine r_getR rfl (by first | assumption | exact hs.o rfl) (by first | assumption | exact hs.g rfl) ?_
      refine r_iload_n rfl rfl ?_
      refine r_iald rfl (by first | assumption | exact hs.a rfl) (by omega) (by omega) ((zix (n := k) (by omega)).trans (up2_same _ _ _ _)) ?_
      refine r_iret rfl ?_
      have e : sPole a (k : Int) y = (poleV a (k : Int) y, setRd (aKeep a) (up2 a.w.rd 2 k (poleV a (k : Int) y))) := if_pos ⟨⟨by omega, by omega, by rw [Int.toNat_natCast]; omega⟩, by omega⟩
      rw [e] at K
      exact K _ g (hI1.nowR ((FrR.rf 3 f1).up (by omega)) (hc1.fuel hk6)) (hk1.up (by omega))
    · refine r_if_n rfl (by decide) ?_
      refine r_iconst rfl ?_
      refine r_iret rfl ?_
      exact no (fun q => by first | omega | (have := hoff x.toNat (by omega) (by omega); omega))
  · refine r_if_y rfl (by decide) ?_
    refine r_iconst rfl ?_
    refine r_iret rfl ?_
    exact no (fun q => by first | omega | (have := hoff x.toNat (by omega) (by omega); omega))
theorem k_grass (hd : 5 ≤ d) (hI : CI σ f g a) (hA : AOk N a)  {x : Int} (hx : IR x) (K : ∀ f' g', CI σ f' g' (sGrass a x).2 → FrK f f' → Q (some (zi (sGrass a x).1)) σ f' g') : ZCt d 79 [zr (some 0), zi x] σ f g Q := by
  refine ZCt.of' (L0 := [_, _, _]) (by omega) rfl rfl rfl (fun d hd1 => ?_)
  have hs := hI.sh
  obtain ⟨oo, ⟨a1, a2, a3, a4, a5⟩, g0, g1, g2, g3, g4⟩ := hs.r3
  have no : ¬ (isOnA a x) → Q (some (zi (-1))) σ f g := by
    intro q
    have e : sGrass a x = (-1, a) := if_neg q
    rw [e] at K
    exact K f g hI (FrK.rf f)
  refine r_aload_n rfl rfl ?_
  refine r_iload_n rfl rfl ?_
  refine r_callV1 rfl rfl (by first | assumption | exact hs.o rfl) rfl (k_isOn (by omega) hI hA hx (fun k hxk hk6 hk0 => ?_) (fun hoff => ?_))
  · refine r_if_y rfl (by decide) ?_
    refine r_aload_n rfl rfl ?_
    refine r_callV0 rfl rfl (by first | assumption | exact hs.o rfl) rfl (k_keep (by omega) hI hA (fun f1 hI1 hk1 => ?_))
    subst hxk
    have hc1 := hI1.w.2.1
    have hcar := hc1.1 k hk6
    obtain ⟨pl, rd0, hp⟩ := hA.onPl hk6 (by omega)
    obtain ⟨hplo, hvr, hst⟩ := hA.plS hp
    have hok := hvr.1.2.2.1 k hk6
    have ho1 := hvr.1.1
    have ho2 := hvr.1.2.1
    refine r_aload_n rfl rfl ?_
    refine r_getR rfl (by first | assumption | exact hs.o rfl) (by first | assumption | exact hs.g rfl) ?_
    refine r_getR rfl (by first | assumption | exact hs.o rfl) (by first | assumption | exact hs.g rfl) ?_
    refine r_iload_n rfl rfl ?_
    refine r_iald rfl (by first | assumption | exact hs.a rfl) (by omega) (by omega) ((zix (n := k) (by omega)).trans hcar.1) ?_
    refine r_istore_n (L' := [_, _, _]) rfl rfl rfl ?_
    refine r_aload_n rfl rfl ?_
    refine r_getR rfl (by first | assumption | exact hs.o rfl) (by first | assumption | exact hs.g rfl) ?_
    refine r_iload_n rfl rfl ?_
    refine r_callV1 rfl rfl (by first | assumption | exact hs.o rfl) rfl (k_goOverGrass (by omega) hs.r3 hc1 hk6 (by change 0 ≤ a.w.rd 0 k ∧ a.w.rd 0 k < 20; omega) hvr.2.1 (fun f2 hf2 hc2 => ?_))
    refine r_iload_n rfl rfl ?_
    refine r_iret rfl ?_
    have e : sGrass a (k : Int) = (a.w.rd 0 k, setRd (aKeep a) (rCross a.w.rd k)) := if_pos ⟨by omega, by omega, by rw [Int.toNat_natCast]; omega⟩
    rw [e] at K
    exact K f2 g (hI1.nowR hf2 hc2) (hk1.r hf2 (by omega))
  · refine r_if_n rfl (by decide) ?_
    refine r_iconst rfl ?_
    refine r_iret rfl ?_
    exact no (fun q => by have := hoff x.toNat (by omega) (by omega); omega)
theorem k_wish (hd : 4 ≤ d) (hI : CI σ f g a) (hA : AOk N a)  {x y : Int} (hx : IR x) (hy : IR y) (K : ∀ f' g', CI σ f' g' (sWish a x y).2 → FrK f f' → Q (some (zi (sWish a x y).1)) σ f' g') : ZCt d 83 [zr (some 0), zi x, zi y] σ f g Q := by
  refine ZCt.of' (L0 := [_, _, _, _]) (by omega) rfl rfl rfl (fun d hd1 => ?_)
  have hs := hI.sh
  obtain ⟨oo, ⟨a1, a2, a3, a4, a5⟩, g0, g1, g2, g3, g4⟩ := hs.r3
  have no : ¬ (isOnA a x ∧ isRoadA a y ∧ a.w.rd 1 x.toNat ≠ y) → Q (some (zi (-1))) σ f g := by
    intro q
    have e : sWish a x y = (-1, a) := if_neg q
    rw [e] at K
    exact K f g hI (FrK.rf f)
  refine r_aload_n rfl rfl ?_
  refine r_iload_n rfl rfl ?_
  refine r_callV1 rfl rfl (by first | assumption | exact hs.o rfl) rfl (k_isOn (by omega) hI hA hx (fun k hxk hk6 hk0 => ?_) (fun hoff => ?_))
  · refine r_if_n rfl (by decide) ?_
    refine r_aload_n rfl rfl ?_
    refine r_iload_n rfl rfl ?_
    refine r_callV1 rfl rfl (by first | assumption | exact hs.o rfl) rfl (k_isRoad (by omega) hI hA hy (fun pl1 rd1 hp1 hroad => ?_) (fun hnr => ?_))
    · refine r_if_n rfl (by decide) ?_
      refine r_aload_n rfl rfl ?_
      refine r_getR rfl (by first | assumption | exact hs.o rfl) (by first | assumption | exact hs.g rfl) ?_
      refine r_getR rfl (by first | assumption | exact hs.o rfl) (by first | assumption | exact hs.g rfl) ?_
      refine r_iload_n rfl rfl ?_
      have hokk := (hA.plS hp1).2.1.1.2.2.1 k hk6
      have hmm := (hA.plS hp1).2.1.1.2.1
      refine r_iald rfl (by first | assumption | exact hs.a rfl) (by omega) (by omega) ((zix (n := k) (by omega)).trans (hI.w.2.1.1 k hk6).2.1) ?_
      refine r_iload_n rfl rfl ?_
      refine r_icmp_ne rfl (by omega) (by omega) (fun hne => ?_) (fun hne => ?_)
      · refine r_aload_n rfl rfl ?_
        refine r_callV0 rfl rfl (by first | assumption | exact hs.o rfl) rfl (k_keep (by omega) hI hA (fun f1 hI1 hk1 => ?_))
        subst hxk
        have hc1 := hI1.w.2.1
        have hcar := hc1.1 k hk6
        obtain ⟨pl, rd0, hp⟩ := hA.onPl hk6 (by omega)
        obtain ⟨hplo, hvr, hst⟩ := hA.plS hp
        have hok := hvr.1.2.2.1 k hk6
        have ho1 := hvr.1.1
        have ho2 := hvr.1.2.1
        refine r_aload_n rfl rfl ?_
        refine r_getR rfl (by first | assumption | exact hs.o rfl) (by first | assumption | exact hs.g rfl) ?_
        refine r_getR rfl (by first | assumption | exact hs.o rfl) (by first | assumption | exact hs.g rfl) ?_
        refine r_iload_n rfl rfl ?_
        refine r_iald rfl (by first | assumption | exact hs.a rfl) (by omega) (by omega) ((zix (n := k) (by omega)).trans hcar.2.1) ?_
        refine r_istore_n (L' := [_, _, _, _]) rfl rfl rfl ?_
        refine r_aload_n rfl rfl ?_
        refine r_getR rfl (by first | assumption | exact hs.o rfl) (by first | assumption | exact hs.g rfl) ?_
        refine r_getR rfl (by first | assumption | exact hs.o rfl) (by first | assumption | exact hs.g rfl) ?_
        refine r_iload_n rfl rfl ?_
        refine r_iload_n rfl rfl ?_
        refine r_iastN (k) rfl (by first | assumption | exact hs.a rfl) (by omega) (by omega) (by omega) ?_
        refine r_iload_n rfl rfl ?_
        refine r_iret rfl ?_
        have e : sWish a (k : Int) y = (a.w.rd 1 k, setRd (aKeep a) (up2 a.w.rd 1 k y)) := if_pos ⟨⟨by omega, by omega, by rw [Int.toNat_natCast]; omega⟩, by show 0 ≤ y ∧ y < roadsN a; rw [roads1 hp1]; exact hroad, by rw [Int.toNat_natCast]; exact hne⟩
        rw [e] at K
        exact K _ g (hI1.nowR ((FrR.rf 3 f1).up (by omega)) (hc1.want hk6)) (hk1.up (by omega))
      · refine r_iconst rfl ?_
        refine r_iret rfl ?_
        first
        | exact no (fun q => by have := hoff x.toNat (by omega) (by omega); omega)
        | exact no (fun q => q.2.2 (by subst hxk; rw [Int.toNat_natCast]; omega))
        | (refine no (fun q => ?_)
           have q2 : 0 ≤ y ∧ y < roadsN a := q.2.1
           cases hpp : a.w.pn with
           | none => rw [roads0 hpp] at q2; omega
           | some z => rw [roads1 (pl := z.1) (rd0 := z.2) hpp] at q2; exact hnr z.1 z.2 hpp q2)
    · refine r_if_y rfl (by decide) ?_
      refine r_iconst rfl ?_
      refine r_iret rfl ?_
      first
      | exact no (fun q => by have := hoff x.toNat (by omega) (by omega); omega)
      | exact no (fun q => q.2.2 (by subst hxk; rw [Int.toNat_natCast]; omega))
      | (refine no (fun q => ?_)
         have q2 : 0 ≤ y ∧ y < roadsN a := q.2.1
         cases hpp : a.w.pn with
         | none => rw [roads0 hpp] at q2; omega
         | some z => rw [roads1 (pl := z.1) (rd0 := z.2) hpp] at q2; exact hnr z.1 z.2 hpp q2)
  · refine r_if_y rfl (by decide) ?_
    refine r_iconst rfl ?_
    refine r_iret rfl ?_
    first
    | exact no (fun q => by have := hoff x.toNat (by omega) (by omega); omega)
    | exact no (fun q => q.2.2 (by subst hxk; rw [Int.toNat_natCast]; omega))
    | (refine no (fun q => ?_)
       have q2 : 0 ≤ y ∧ y < roadsN a := q.2.1
       cases hpp : a.w.pn with
       | none => rw [roads0 hpp] at q2; omega
       | some z => rw [roads1 (pl := z.1) (rd0 := z.2) hpp] at q2; exact hnr z.1 z.2 hpp q2)
theorem k_fill (hd : 4 ≤ d) (hI : CI σ f g a) (hA : AOk N a)  {x : Int} (hx : IR x) (K : ∀ f' g', CI σ f' g' (sFill a x).2 → FrK f f' → Q (some (zi (sFill a x).1)) σ f' g') : ZCt d 81 [zr (some 0), zi x] σ f g Q := by
  refine ZCt.of' (L0 := [_, _]) (by omega) rfl rfl rfl (fun d hd1 => ?_)
  have hs := hI.sh
  obtain ⟨oo, ⟨a1, a2, a3, a4, a5⟩, g0, g1, g2, g3, g4⟩ := hs.r3
  have no : (∀ pl rd0, a.w.pn = some (pl, rd0) → ¬ ((0 ≤ x ∧ x < pl.1) ∧ a.w.rd 6 x.toNat = 1)) → Q (some (zi (-1))) σ f g := by
    intro q
    have e : sFill a x = (-1, a) := by
      unfold sFill
      cases hp : a.w.pn with
      | none => rfl
      | some z => exact if_neg (q z.1 z.2 hp)
    rw [e] at K
    exact K f g hI (FrK.rf f)
  refine r_aload_n rfl rfl ?_
  refine r_iload_n rfl rfl ?_
  refine r_callV1 rfl rfl (by first | assumption | exact hs.o rfl) rfl (k_isCell (by omega) hI hA hx (fun pl rd0 hp hcell => ?_) (fun hnc => ?_))
  · refine r_if_n rfl (by decide) ?_
    refine r_aload_n rfl rfl ?_
    refine r_getR rfl (by first | assumption | exact hs.o rfl) (by first | assumption | exact hs.g rfl) ?_
    refine r_iload_n rfl rfl ?_
    obtain ⟨hplo, hvr, hst⟩ := hA.plS hp
    have hp1 := hplo.1
    obtain ⟨c, rfl⟩ := Int.eq_ofNat_of_zero_le hcell.1
    refine r_callV1 rfl rfl (by first | assumption | exact hs.o rfl) rfl (k_hasGap (by omega) hs.r3 hI.w.2.1 (c := c) (by omega) (fun hgap => ?_) (fun hgap => ?_))
    · refine r_if_y rfl (by decide) ?_
      refine r_aload_n rfl rfl ?_
      refine r_callV0 rfl rfl (by first | assumption | exact hs.o rfl) rfl (k_keep (by omega) hI hA (fun f1 hI1 hk1 => ?_))
      refine r_aload_n rfl rfl ?_
      refine r_getR rfl (by first | assumption | exact hs.o rfl) (by first | assumption | exact hs.g rfl) ?_
      refine r_iload_n rfl rfl ?_
      refine r_callV1 rfl rfl (by first | assumption | exact hs.o rfl) rfl (k_closeGap (by omega) hs.r3 hI1.w.2.1 (c := c) (by omega) (fun f2 hf2 hc2 => ?_))
      refine r_aload_n rfl rfl ?_
      refine r_getR rfl (by first | assumption | exact hs.o rfl) (by first | assumption | exact hs.g rfl) ?_
      refine r_getI rfl (by first | assumption | exact hs.o rfl) rfl ?_
      refine r_callS1 rfl rfl rfl (c_bitCount (by omega) hc2.gaps ?_)
      refine r_iret rfl ?_
      have e : sFill a (c : Int) = (gapN (up2 a.w.rd 6 c 0), setRd (aKeep a) (up2 a.w.rd 6 c 0)) := by
        unfold sFill
        rw [hp]
        exact if_pos ⟨hcell, by rw [Int.toNat_natCast]; exact hgap⟩
      rw [e] at K
      exact K f2 g (hI1.nowR hf2 hc2) (hk1.r hf2 (by omega))
    · refine r_if_n rfl (by decide) ?_
      refine r_iconst rfl ?_
      refine r_iret rfl ?_
      first
      | exact no (fun pl' rd0' q z => hnc pl' rd0' q z.1)
      | exact no (fun pl' rd0' q z => hgap (by have := z.2; rwa [Int.toNat_natCast] at this))
  · refine r_if_y rfl (by decide) ?_
    refine r_iconst rfl ?_
    refine r_iret rfl ?_
    first
    | exact no (fun pl' rd0' q z => hnc pl' rd0' q z.1)
    | exact no (fun pl' rd0' q z => hgap (by have := z.2; rwa [Int.toNat_natCast] at this))
theorem z_xor_rng (x y : Int) : -2147483648 ≤ z_xor x y ∧ z_xor x y ≤ 2147483647 := by
  unfold z_xor
  have h1 := Int32.le_toInt (Int32.ofInt x ^^^ Int32.ofInt y)
  have h2 := Int32.toInt_lt (Int32.ofInt x ^^^ Int32.ofInt y)
  omega
theorem fm20 : ∀ u, u < 20 → (0 ≤ z_xor ((u : Nat) - 1 : Int) 20 ↔ 1 ≤ u) := by decide +kernel
theorem c_floorMod20 (hd : 1 ≤ d) {u : Nat} (hu : u < 20) (K : Q (some (zi (((u + 19) % 20 : Nat) : Int))) σ f g) : ZCt d 85 [zi ((u : Int) - 1), zi 20] σ f g Q := by
  refine ZCt.of' (L0 := [_, _, _]) (by omega) rfl rfl rfl (fun d hd1 => ?_)
  have hfm := fm20 u hu
  have ht : ((u : Int) - 1).tmod 20 = (u : Int) - 1 := by
    by_cases h : u = 0
    · subst h; decide
    · rw [Int.tmod_eq_emod_of_nonneg (by omega)]; omega
  refine r_iload_n rfl rfl ?_
  refine r_iload_n rfl rfl ?_
  refine r_irem rfl (by omega) (by omega) (by omega) ?_
  rw [ht]
  refine r_istore_n (L' := [_, _, _]) rfl rfl rfl ?_
  refine r_iload_n rfl rfl ?_
  refine r_iload_n rfl rfl ?_
  refine r_ixor rfl ?_
  refine r_if_ge rfl (z_xor_rng _ _) (fun hxr => ?_) (fun hxr => ?_)
  · refine r_iload_n rfl rfl ?_
    refine r_iret rfl ?_
    first | (rw [show (((u + 19) % 20 : Nat) : Int) = (u : Int) - 1 + 20 by omega] at K; exact K) | (rw [show (((u + 19) % 20 : Nat) : Int) = (u : Int) - 1 by omega] at K; exact K)
  · refine r_iload_n rfl rfl ?_
    refine r_if_eq rfl (by omega) (fun h11 => ?_) (fun h11 => ?_)
    · refine r_iload_n rfl rfl ?_
      refine r_iret rfl ?_
      first | (rw [show (((u + 19) % 20 : Nat) : Int) = (u : Int) - 1 + 20 by omega] at K; exact K) | (rw [show (((u + 19) % 20 : Nat) : Int) = (u : Int) - 1 by omega] at K; exact K)
    · refine r_iload_n rfl rfl ?_
      refine r_iload_n rfl rfl ?_
      refine r_iadd rfl ?_
      refine r_iret rfl ?_
      first | (rw [show (((u + 19) % 20 : Nat) : Int) = (u : Int) - 1 + 20 by omega] at K; exact K) | (rw [show (((u + 19) % 20 : Nat) : Int) = (u : Int) - 1 by omega] at K; exact K)
theorem k_undo (hd : 3 ≤ d) (hI : CI σ f g a) (hA : AOk N a)  (K : ∀ f' g', CI σ f' g' (sUndo a).2 → FrK f f' → Q (some (zi (sUndo a).1)) σ f' g') : ZCt d 84 [zr (some 0)] σ f g Q := by
  refine ZCt.of' (L0 := [_]) (by omega) rfl rfl rfl (fun d hd1 => ?_)
  have hs := hI.sh
  have hA1 := hA.1
  obtain ⟨u, hu20, hu12, huR⟩ := hI.un
  have hus := hs.us (show (u + 19) % 20 < 20 from Nat.mod_lt _ (by omega))
  refine r_aload_n rfl rfl ?_
  refine r_getI rfl (by first | assumption | exact hs.o rfl) hI.uc ?_
  refine r_if_ne rfl (by omega) (fun h0 => ?_) (fun h0 => ?_)
  · refine r_aload_n rfl rfl ?_
    refine r_dupr rfl ?_
    refine r_getI rfl (by first | assumption | exact hs.o rfl) hI.uc ?_
    refine r_iconst rfl ?_
    refine r_isub rfl ?_
    refine r_putI rfl (by first | assumption | exact hs.o rfl) ?_
    refine r_aload_n rfl rfl ?_
    refine r_aload_n rfl rfl ?_
    refine r_getI rfl (by first | assumption | exact hs.o rfl) ((up2_ne _ _ (by omega)).trans hu12) ?_
    refine r_iconst rfl ?_
    refine r_isub rfl ?_
    refine r_bipush rfl ?_
    refine r_callS2 rfl rfl rfl (c_floorMod20 (by omega) hu20 ?_)
    refine r_putI rfl (by first | assumption | exact hs.o rfl) ?_
    refine r_aload_n rfl rfl ?_
    refine r_getR rfl (by first | assumption | exact hs.o rfl) (by first | assumption | exact hs.g rfl) ?_
    refine r_aload_n rfl rfl ?_
    refine r_getR rfl (by first | assumption | exact hs.o rfl) (by first | assumption | exact hs.g rfl) ?_
    refine r_aload_n rfl rfl ?_
    refine r_getI rfl (by first | assumption | exact hs.o rfl) (up2_same _ _ _ _) ?_
    refine r_aald rfl (hs.a rfl) (by omega) (by omega) rfl ((congrArg (g 14) (show (((u + 19) % 20 : Nat) : Int).toNat = (u + 19) % 20 by omega)).trans hus.1) ?_
    refine r_callV1 rfl rfl (by first | assumption | exact hs.o rfl) rfl (k_copyFrom (rd := a.us 0) (by omega) hs.r3 hus.2 (by omega) ((huR 0 (by omega)).fr (fun c q1 q2 => by rw [up2_o _ _ (by omega), up2_o _ _ (by omega)])) (fun f1 hf1 hc1 => ?_))
    have e11 : f1 0 11 = (a.uc : Int) - 1 := (congrFun (hf1 0 (by omega)) _).trans ((up2_ne _ _ (by omega)).trans (up2_same _ _ _ _))
    refine r_aload_n rfl rfl ?_
    refine r_getI rfl (by first | assumption | exact hs.o rfl) e11 ?_
    refine r_iret rfl ?_
    have e : sUndo a = ((a.uc : Int) - 1, (setRd a (a.us 0)).sU (a.uc - 1) (fun i => a.us (i + 1))) := if_neg (by omega)
    rw [e] at K
    refine K f1 g ?_ (((((FrK.rf f).up (by omega)).up (by omega))).r hf1 (by omega))
    have hx : CI σ (up2 (up2 f 0 11 ((a.uc : Int) - 1)) 0 12 (((u + 19) % 20 : Nat) : Int)) g (a.sU (a.uc - 1) (fun i => a.us (i + 1))) := by
      refine hI.undo (b := (a.sU (a.uc - 1) (fun i => a.us (i + 1)))) ⟨rfl, rfl, rfl, rfl, rfl, rfl, rfl, rfl⟩ (fun c q1 q2 => by rw [up2_o _ _ q1, up2_o _ _ q1]) (fun i q1 q2 => by rw [up2_ne _ _ (by omega), up2_ne _ _ (by omega)]) ?_ ?_
      · rw [up2_ne _ _ (by omega), up2_same]
        show (a.uc : Int) - 1 = ((a.uc - 1 : Nat) : Int)
        omega
      · refine ⟨(u + 19) % 20, Nat.mod_lt _ (by omega), up2_same _ _ _ _, fun i hi => ?_⟩
        have hi' : i < a.uc - 1 := hi
        refine RC.fr (f := f) ?_ (fun c q1 q2 => by rw [up2_o _ _ (by omega), up2_o _ _ (by omega)])
        rw [show ((u + 19) % 20 + 19 - i) % 20 = (u + 19 - (i + 1)) % 20 by omega]
        exact huR (i + 1) (by omega)
    exact hx.nowR hf1 hc1
  · refine r_iconst rfl ?_
    refine r_iret rfl ?_
    have e : sUndo a = (-1, a) := if_pos (by omega)
    rw [e] at K
    exact K f g hI (FrK.rf f)
end CACTS
