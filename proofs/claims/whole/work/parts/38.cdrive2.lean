/-! The class's STEP whole -/
theorem bif2 : ∀ a c : Bool, (if c = true then (1 : Int) else if a = true then 1 else 0) = if (a || c) = true then 1 else 0 := by
  intro a c
  cases a <;> cases c <;> rfl
theorem bif0 : ∀ a b c : Bool, c = false → (if (a || b) = true then (1 : Int) else 0) = if (a || (b || c)) = true then 1 else 0 := by
  intro a b c h
  cases a <;> cases b <;> cases c <;> first | rfl | cases h
section CDRIVE2
variable {d : Nat} {σ : ZS} {f : ZF} {g : ZG} {Q : ZQ} {n m N : Int} {rd : Rd} {r p : Nat} {pl : Pl} {al : Rd → Nat → Bool} {cl : Int}
theorem l_kcars {dd : Nat} (hd1 : dd ≤ d) (hd2 : 3 ≤ d) (hk' : RrOk r) (hr : RO σ g r) (hO : zO σ 22 0) (hgp : g 22 0 = some p) (hpO : PO σ g p) (hp : 240 ≤ p) {E : ZF → Prop} (hE : ∀ f f', FrC r f f' → E f → E f') (hal : ALc dd σ g E p pl al) {f0 : ZF} (hE0 : E f0) (hpc : PC f0 p pl) (hpl : PlOk pl) (hn : pl.1 = n) (hm : pl.2.1 = m) (ho : RdOk n m N rd) (hdj : RdDj rd) (hN : N + 7 ≤ 1000000)
    (K : ∀ f', FrC r f0 f' → RC f' r (rCars pl al rd 6).1 → (f' 22 4 = if (rCars pl al rd 6).2.2 = true then 1 else 0) → ∀ x, ZWp d zt61 96 [zr (some 22), zr (some r), zi (rCars pl al rd 6).2.1, x] [] σ f' g Q)
    (k : Nat) (hk6 : k ≤ 6) (f : ZF) (hf : FrC r f0 f) (h : RC f r (rCars pl al rd k).1) (hv : f 22 4 = if (rCars pl al rd k).2.2 = true then 1 else 0) {v : Int} (hset : v = (rCars pl al rd k).2.1) : ZWp d zt61 18 [zr (some 22), zr (some r), zi v, zi (k : Int)] [] σ f g Q := by
  have hok : RdOk n m (N + (k : Int)) (rCars pl al rd k).1 := rCars_ok (al := al) hn ho k hk6 (by omega)
  have hdjX : RdDj (rCars pl al rd k).1 := rCars_dj (al := al) hn ho hdj k hk6 (by omega)
  have next : ∀ (hk : k < 6) (f1 : ZF) (v1 : Int), FrC r f0 f1 → RC f1 r (rCar pl al (rCars pl al rd k).1 k).1 → (f1 22 4 = if (rCar pl al (rCars pl al rd k).1 k).2.2 = true then 1 else f 22 4) → v1 = (if (rCar pl al (rCars pl al rd k).1 k).2.1 = true then z_or v (z_shl 1 (k : Int)) else v) → ZWp d zt61 90 [zr (some 22), zr (some r), zi v1, zi (k : Int)] [] σ f1 g Q := by
    intro hk f1 v1 h1 h2 h3 h4
    refine r_iinc (L' := [_, _, _, _]) rfl rfl rfl ?_
    refine r_goto rfl ?_
    refine l_kcars hd1 hd2 hk' hr hO hgp hpO hp hE hal hE0 hpc hpl hn hm ho hdj hN K (k + 1) (by omega) f1 h1 h2 ?_ (by rw [h4, hset]; rfl)
    rw [h3, hv]
    simp only [rCars]
    exact bif2 _ _
  have hr' := hr
  obtain ⟨oo, ⟨a1, a2, a3, a4, a5⟩, g0, g1, g2, g3, g4⟩ := hr
  have age : ∀ (hk : k < 6) (f1 : ZF), FrC r f0 f1 → RC f1 r (rCars pl al rd k).1 → f1 22 4 = f 22 4 → 0 ≤ (rCars pl al rd k).1 0 k → ¬ (0 < (rCars pl al rd k).1 2 k ∧ (pl.2.2.2.1 ((rCars pl al rd k).1 1 k).toNat = (rCars pl al rd k).1 0 k ∧ al (rCars pl al rd k).1 k = true)) → ZWp d zt61 74 [zr (some 22), zr (some r), zi v, zi (k : Int)] [] σ f1 g Q := by
    intro hk f1 h1 h2 h3 h4 h5
    refine r_aload_n rfl rfl ?_
    refine r_aload_n rfl rfl ?_
    refine r_iload_n rfl rfl ?_
    refine r_callV2 rfl rfl (by first | assumption | exact hs.o rfl) rfl (k_goOnIf (by omega) hk' hr' hO hgp hpO hp (hpc.fr hp hk' h1) hpl hn hm h2 hok hdjX hk h4 (fun hy f2 hf2 hc2 hv2 => ?_) (fun hy => ?_))
    · refine r_aload_n rfl rfl ?_
      refine r_getR rfl (by first | assumption | exact hs.o rfl) (by first | assumption | exact hs.g rfl) ?_
      refine r_iload_n rfl rfl ?_
      refine r_dup2 rfl ?_
      refine r_iald rfl (by first | assumption | exact hs.a rfl) (by omega) (by omega) (zix (n := k) (by omega)) ?_
      refine r_iconst rfl ?_
      refine r_iadd rfl ?_
      refine r_iastN (k) rfl (by first | assumption | exact hs.a rfl) (by omega) (by omega) (by omega) ?_
      have hag : f2 (r + 4) k = rGo (rCars pl al rd k).1 k (rNx pl.1 ((rCars pl al rd k).1 0 k)) 3 k := (hc2.1 k hk).2.2.2
      have e : rCar pl al (rCars pl al rd k).1 k = (rAge (rGo (rCars pl al rd k).1 k (rNx pl.1 ((rCars pl al rd k).1 0 k))) k, false, true) := by
        unfold rCar
        rw [if_neg (by omega), if_pos hy.1, if_neg (fun q => h5 ⟨hy.1, q⟩), if_pos hy.2]
      refine next hk _ v ((h1.trans hf2).up hk' (by omega)) ?_ ?_ ?_
      · rw [e]; exact hc2.age hk hag
      · rw [e, up2_o _ _ (by unfold RrOk at hk'; omega), hv2]; rfl
      · rw [e]; rfl
    · refine r_aload_n rfl rfl ?_
      refine r_getR rfl (by first | assumption | exact hs.o rfl) (by first | assumption | exact hs.g rfl) ?_
      refine r_iload_n rfl rfl ?_
      refine r_dup2 rfl ?_
      refine r_iald rfl (by first | assumption | exact hs.a rfl) (by omega) (by omega) (zix (n := k) (by omega)) ?_
      refine r_iconst rfl ?_
      refine r_iadd rfl ?_
      refine r_iastN (k) rfl (by first | assumption | exact hs.a rfl) (by omega) (by omega) (by omega) ?_
      have hag : f1 (r + 4) k = (rCars pl al rd k).1 3 k := (h2.1 k hk).2.2.2
      have e : rCar pl al (rCars pl al rd k).1 k = (rAge (rCars pl al rd k).1 k, false, false) := by
        unfold rCar
        rw [if_neg (by omega)]
        by_cases q : 0 < (rCars pl al rd k).1 2 k
        · rw [if_pos q, if_neg (fun z => h5 ⟨q, z⟩), if_neg (fun z => hy ⟨q, z⟩)]
        · rw [if_neg q]
      refine next hk _ v (h1.up hk' (by omega)) ?_ ?_ ?_
      · rw [e]; exact h2.age hk hag
      · rw [e, up2_o _ _ (by unfold RrOk at hk'; omega), h3]; simp
      · rw [e]; rfl
  refine r_iload_n rfl rfl ?_
  refine r_bipush rfl ?_
  refine r_icmp_ge rfl (by omega) (by omega) (fun hlt => ?_) (fun hlt => ?_)
  · have e : k = 6 := by omega
    subst e
    rw [hset]
    exact K f hf h hv _
  · refine r_aload_n rfl rfl ?_
    refine r_getR rfl (by first | assumption | exact hs.o rfl) (by first | assumption | exact hs.g rfl) ?_
    refine r_iload_n rfl rfl ?_
    have hc := h.1 k (by omega)
    have hkk := hok.2.2.1 k (by omega)
    have ho1 := ho.1
    refine r_iald rfl (by first | assumption | exact hs.a rfl) (by omega) (by omega) ((zix (n := k) (by omega)).trans hc.1) ?_
    refine r_iconst rfl ?_
    refine r_icmp_ne rfl (by omega) (by omega) (fun hon => ?_) (fun hon => ?_)
    · refine r_aload_n rfl rfl ?_
      refine r_getR rfl (by first | assumption | exact hs.o rfl) (by first | assumption | exact hs.g rfl) ?_
      refine r_iload_n rfl rfl ?_
      refine r_iald rfl (by first | assumption | exact hs.a rfl) (by omega) (by omega) ((zix (n := k) (by omega)).trans hc.2.2.1) ?_
      refine r_if_le rfl (by omega) (fun hfu => ?_) (fun hfu => ?_)
      · exact age (by omega) f hf h rfl (by omega) (fun q => by omega)
      · refine r_aload_n rfl rfl ?_
        refine r_aload_n rfl rfl ?_
        refine r_iload_n rfl rfl ?_
        refine r_callV2 rfl rfl (by first | assumption | exact hs.o rfl) rfl (hal d f _ (N + (k : Int)) k r _ hd1 (by omega) hk' hr' (hE _ _ hf hE0) (hpc.fr hp hk' hf) h (by rw [hn, hm]; exact hok) hdjX (by omega) (fun f1 hf1 hsame hst => ⟨fun hyes => ?_, fun hno => ?_⟩)  )
        · refine r_if_n rfl (by decide) ?_
          refine r_aload_n rfl rfl ?_
          refine r_iload_n rfl rfl ?_
          refine r_callV1 rfl rfl (by first | assumption | exact hs.o rfl) rfl (k_goOff (by omega) hr' (h.fr hsame) (by omega) (by omega) hdjX (fun f2 hf2 hc2 => ?_))
          refine r_aload_n rfl rfl ?_
          refine r_iconst rfl ?_
          refine r_putZ rfl (by first | assumption | exact hs.o rfl) (by omega) ?_
          refine r_iload_n rfl rfl ?_
          refine r_iconst rfl ?_
          refine r_iload_n rfl rfl ?_
          refine r_ishl rfl ?_
          refine r_ior rfl ?_
          refine r_istore_n (L' := [_, _, _, _]) rfl rfl rfl ?_
          refine r_goto rfl ?_
          have e : rCar pl al (rCars pl al rd k).1 k = (rOff (rCars pl al rd k).1 k, true, true) := by unfold rCar; rw [if_neg (by omega), if_pos (by omega), if_pos hyes]
          exact next (by omega) _ _ (((hf.trans hf1).r hk' hf2).st) (by rw [e]; exact hc2.st hk') (by rw [e, up2_same]; rfl) (by rw [e]; rfl)
        · refine r_if_y rfl (by decide) ?_
          exact age (by omega) f1 (hf.trans hf1) (h.fr hsame) hst (by omega) (fun q => hno q.2)
    · refine r_goto rfl ?_
      have e : rCar pl al (rCars pl al rd k).1 k = ((rCars pl al rd k).1, false, false) := by unfold rCar; rw [if_pos (by omega)]
      exact next (by omega) f v hf (by rw [e]; exact h) (by rw [e]; simp) (by rw [e]; simp)
termination_by 6 - k
theorem l_kroads (hd1 : 2 ≤ d) (hk' : RrOk r) (hr : RO σ g r) (hO : zO σ 22 0) (hgp : g 22 0 = some p) (hpO : PO σ g p) (hp : 240 ≤ p) {f0 : ZF} (hpc : PC f0 p pl) (hpl : PlOk pl) (hn : pl.1 = n) (hm : pl.2.1 = m) (ho : RdOk n m N rd) (hdj : RdDj rd) (hcl : f0 22 2 = cl) (hcr : -1 ≤ cl ∧ cl ≤ 5) (hz : ClZ cl rd) {mv : Bool} {w : Int}
    (K : ∀ f', FrC r f0 f' → RC f' r (rRoads pl cl rd m.toNat).1 → (f' 22 4 = if (mv || (rRoads pl cl rd m.toNat).2) = true then 1 else 0) → ∀ x, ZWp d zt61 129 [zr (some 22), zr (some r), zi w, x] [] σ f' g Q)
    (j : Nat) (hj : (j : Int) ≤ m) (f : ZF) (hf : FrC r f0 f) (h : RC f r (rRoads pl cl rd j).1) (hv : f 22 4 = if (mv || (rRoads pl cl rd j).2) = true then 1 else 0) : ZWp d zt61 98 [zr (some 22), zr (some r), zi w, zi (j : Int)] [] σ f g Q := by
  have hok := rRoads_ok (cl := cl) hpl hn hm ho j hj
  have hdjX : RdDj (rRoads pl cl rd j).1 := rRoads_dj hdj j
  have ho2 := ho.2.1
  have hzX := rRoads_cl (pl := pl) hz j
  have hr' := hr
  obtain ⟨oo, ⟨a1, a2, a3, a4, a5⟩, g0, g1, g2, g3, g4⟩ := hr
  have hpo' := hpO
  obtain ⟨po, ⟨pa1, pa2⟩, ⟨pg3, pg4, pg5⟩, -⟩ := hpO
  refine r_iload_n rfl rfl ?_
  refine r_aload_n rfl rfl ?_
  refine r_getR rfl (by first | assumption | exact hs.o rfl) (by first | assumption | exact hs.g rfl) ?_
  refine r_getI rfl (by first | assumption | exact hs.o rfl) ((hpc.fr hp hk' hf).2.1.trans hm) ?_
  refine r_icmp_ge rfl (by omega) (by omega) (fun hlt => ?_) (fun hlt => ?_)
  · have e : j = m.toNat := by omega
    subst e
    exact K f hf h hv _
  · refine r_iload_n rfl rfl ?_
    refine r_aload_n rfl rfl ?_
    refine r_getI rfl (by first | assumption | exact hs.o rfl) ((hf.2 2 (by omega)).trans hcl) ?_
    refine r_icmp_eq rfl (by omega) (by omega) (fun hc => ?_) (fun hc => ?_)
    · refine r_iinc (L' := [_, _, _, _]) rfl rfl rfl ?_
      refine r_goto rfl ?_
      have e : rCome pl (rWait pl cl (rRoads pl cl rd j).1 j) j = ((rRoads pl cl rd j).1, false) := by rw [rWait_cl hc, rCome_cl (hzX j hc)]
      refine l_kroads hd1 hk' hr' hO hgp hpo' hp hpc hpl hn hm ho hdj hcl hcr hz K (j + 1) (by omega) f hf (by simp only [rRoads]; rw [e]; exact h) ?_
      rw [hv]
      simp only [rRoads]
      exact bif0 _ _ _ (by rw [e])
    · refine r_aload_n rfl rfl ?_
      refine r_aload_n rfl rfl ?_
      refine r_iload_n rfl rfl ?_
      refine r_callV2 rfl rfl (by first | assumption | exact hs.o rfl) rfl (k_letCome (cl := cl) (by omega) hk' hr' hO hgp hpo' hp (hpc.fr hp hk' hf) hpl hn hm h hok hdjX (by omega) hc (fun f1 hf1 hc1 hv1 => ?_))
      refine r_iinc (L' := [_, _, _, _]) rfl rfl rfl ?_
      refine r_goto rfl ?_
      refine l_kroads hd1 hk' hr' hO hgp hpo' hp hpc hpl hn hm ho hdj hcl hcr hz K (j + 1) (by omega) f1 (hf.trans hf1) hc1 ?_
      rw [hv1, hv]
      simp only [rRoads]
      exact bif3 _ _ _
termination_by m.toNat - j
theorem k_drive {dd : Nat} (hd1 : dd + 1 ≤ d) (hd2 : 4 ≤ d) (hk' : RrOk r) (hr : RO σ g r) (hO : zO σ 22 0) (hgp : g 22 0 = some p) (hpO : PO σ g p) (hp : 240 ≤ p) {E : ZF → Prop} (hE : ∀ f f', FrC r f f' → E f → E f') (hal : ALc dd σ g E p pl al) (hE0 : E f) (hpc : PC f p pl) (hpl : PlOk pl) (hn : pl.1 = n) (hm : pl.2.1 = m) (h : RC f r rd) (ho : RdOk n m N rd) (hdj : RdDj rd) (hN : N + 7 ≤ 1000000) (hcl : f 22 2 = cl) (hcr : -1 ≤ cl ∧ cl ≤ 5) (hz : ClZ cl rd)
    (K : ∀ f', FrC r f f' → RC f' r (rStep pl al cl rd).1 → (f' 22 4 = if (rStep pl al cl rd).2.2 = true then 1 else 0) → Q (some (zi (rStep pl al cl rd).2.1)) σ f' g) : ZCt d 61 [zr (some 22), zr (some r)] σ f g Q := by
  refine ZCt.of' (L0 := [_, _, _, _]) (by omega) rfl rfl rfl (fun d hd1 => ?_)
  have ho2 := ho.2.1
  have hf0 : FrC r f (up2 f 22 4 0) := (FrC.rf r f).st
  have hok := rCars_ok (al := al) (pl := pl) hn ho 6 (by omega) (by omega)
  have hdjC := rCars_dj (al := al) (pl := pl) hn ho hdj 6 (by omega) (by omega)
  refine r_iconst rfl ?_
  refine r_istore_n (L' := [_, _, _, _]) rfl rfl rfl ?_
  refine r_aload_n rfl rfl ?_
  refine r_iconst rfl ?_
  refine r_putZ rfl (by first | assumption | exact hs.o rfl) (by omega) ?_
  refine r_aload_n rfl rfl ?_
  refine r_getR rfl (by first | assumption | exact hs.o rfl) (by first | assumption | exact hs.g rfl) ?_
  refine r_ifnonnullS rfl ?_
  refine r_iconst rfl ?_
  refine r_istore_n (L' := [_, _, _, _]) rfl rfl rfl ?_
  refine l_kcars (dd := dd) (by omega) (by omega) hk' hr hO hgp hpO hp hE hal (hE _ _ hf0 hE0) (hpc.fr hp hk' hf0) hpl hn hm ho hdj hN ?_ 0 (by omega) _ (FrC.rf r _) (h.st hk') (by rw [up2_same]; rfl) rfl
  intro f1 hf1 hm1 hv1 x
  refine r_iconst rfl ?_
  refine r_istore_n (L' := [_, _, _, _]) rfl rfl rfl ?_
  have hf01 := hf0.trans hf1
  refine l_kroads (mv := (rCars pl al rd 6).2.2) (by omega) hk' hr hO hgp hpO hp (f0 := f1) (hpc.fr hp hk' hf01) hpl hn hm hok hdjC (cl := cl) (by rw [hf01.2 2 (by omega)]; exact hcl) hcr (hz.same (fun j => rCars_w j 6)) ?_ 0 (by omega) f1 (FrC.rf r _) hm1 (by rw [hv1]; simp [rRoads])
  intro f2 hf2 hm2 hv2 x
  have hr' := hr
  obtain ⟨oo, ⟨a1, a2, a3, a4, a5⟩, g0, g1, g2, g3, g4⟩ := hr
  refine r_aload_n rfl rfl ?_
  refine r_dupr rfl ?_
  refine r_getI rfl (by first | assumption | exact hs.o rfl) rfl ?_
  refine r_iconst rfl ?_
  refine r_iadd rfl ?_
  refine r_putI rfl (by first | assumption | exact hs.o rfl) ?_
  refine r_iload_n rfl rfl ?_
  refine r_iret rfl ?_
  refine K _ ((hf01.trans hf2).up hk' (by omega)) ?_ ?_
  · have e := hm2.t rfl
    rw [← hm2.2.2.1] at e
    unfold rStep
    rw [hm, ← hm2.2.2.1]
    exact e
  · rw [up2_o _ _ (by unfold RrOk at hk'; omega), hv2]
    unfold rStep
    rw [hm]
end CDRIVE2
