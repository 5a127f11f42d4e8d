/-! The reference's step whole -/
theorem tm_rng {x y : Int} (hx : 0 ≤ x ∧ x ≤ 1000000) (hy : 1 ≤ y ∧ y ≤ 1000000) : 0 ≤ x.tmod y ∧ x.tmod y ≤ 1000000 := by
  rw [Int.tmod_eq_emod_of_nonneg hx.1]
  have h1 := Int.emod_nonneg x (show y ≠ 0 by omega)
  have h2 := Int.emod_lt_of_pos x (show 0 < y by omega)
  omega
theorem bif3 : ∀ a b c : Bool, (if c = true then (1 : Int) else if (a || b) = true then 1 else 0) = if (a || (b || c)) = true then 1 else 0 := by
  intro a b c
  cases a <;> cases b <;> cases c <;> rfl
section MPASS2
variable {d : Nat} {σ : ZS} {f : ZF} {g : ZG} {Q : ZQ} {n m N : Int} {rd : Rd} {pl : Pl} {al : Rd → Nat → Bool} {cl : Int}
theorem l_roads (hd1 : 4 ≤ d) (hs : Sh σ g) {f0 : ZF} (hp : MPl (f0 229) pl) (hpo : PlOk pl) (hn : pl.1 = n) (hmm : pl.2.1 = m) (ho : RdOk n m N rd) (hcl : f0 219 23 = cl) (hcr : -1 ≤ cl ∧ cl ≤ 5) {mv : Bool} {w : Int}
    (K : ∀ f', FrM f0 f' → MRd (f' 229) (rRoads pl cl rd m.toNat).1 → (f' 219 25 = if (mv || (rRoads pl cl rd m.toNat).2) = true then 1 else 0) → ∀ x, ZWp d zt188 130 [zr (some 219), zi w, x] [] σ f' g Q)
    (j : Nat) (hj : (j : Int) ≤ m) (f : ZF) (hf : FrM f0 f) (hm : MRd (f 229) (rRoads pl cl rd j).1) (hmv : f 219 25 = if (mv || (rRoads pl cl rd j).2) = true then 1 else 0) : ZWp d zt188 76 [zr (some 219), zi w, zi (j : Int)] [] σ f g Q := by
  have hok := rRoads_ok (cl := cl) hpo hn hmm ho j hj
  have ho2 := ho.2.1
  have hp1 := hp.fr hf
  have e2 : f 229 2 = m := by rw [hp1.2.2.1]; exact hmm
  have ecl : f 219 23 = cl := by rw [hf.2.1 23 (by omega) (by omega)]; exact hcl
  have next : ∀ (f1 : ZF) (hjm : (j : Int) < m), FrM f0 f1 → MRd (f1 229) (rWait pl cl (rRoads pl cl rd j).1 j) → f1 219 25 = f 219 25 → ZWp d zt188 119 [zr (some 219), zi w, zi (j : Int)] [] σ f1 g Q := by
    intro f1 hjm h1 h2 h3
    refine r_aload_n rfl rfl ?_
    refine r_iload_n rfl rfl ?_
    refine r_callV1 rfl rfl (hs.o rfl) rfl (c_comesOn (by omega) hs (hp.fr h1) hpo hn hmm h2 (rWait_ok hok (by omega)) hjm (fun f2 hf2 hm2 hv2 => ?_))
    refine r_iinc (L' := [_, _, _]) rfl rfl rfl ?_
    refine r_goto rfl ?_
    refine l_roads hd1 hs hp hpo hn hmm ho hcl hcr K (j + 1) (by omega) f2 (h1.trans hf2) hm2 ?_
    rw [hv2, h3, hmv]
    simp only [rRoads]
    exact bif3 _ _ _
  refine r_iload_n rfl rfl ?_
  refine r_aload_n rfl rfl ?_
  refine r_getR rfl (by first | assumption | exact hs.o rfl) (by first | assumption | exact hs.g rfl) ?_
  refine r_iconst rfl ?_
  refine r_iald rfl (by first | assumption | exact hs.a rfl) (by omega) (by omega) ((zix (n := 2) rfl).trans e2) ?_
  refine r_icmp_ge rfl (by omega) (by omega) (fun hlt => ?_) (fun hlt => ?_)
  · have e : j = m.toNat := by omega
    subst e
    exact K f hf hm hmv _
  · refine r_iload_n rfl rfl ?_
    refine r_aload_n rfl rfl ?_
    refine r_getI rfl (by first | assumption | exact hs.o rfl) ecl ?_
    have h4 := hok.2.2.2.1 j (by omega)
    have hre := hpo.2.2.2 j (by omega)
    have h10 := hok.2.2.2.2.2.1
    have h10b := hok.2.2.2.2.2.2.2
    refine r_icmp_eq rfl (by omega) (by omega) (fun hc => ?_) (fun hc => ?_)
    · refine next f (by omega) hf ?_ rfl
      unfold rWait
      rw [if_neg (fun q => q.1 hc)]
      exact hm
    · refine r_aload_n rfl rfl ?_
      refine r_getR rfl (by first | assumption | exact hs.o rfl) (by first | assumption | exact hs.g rfl) ?_
      refine r_bipush rfl ?_
      refine r_iald rfl (by first | assumption | exact hs.a rfl) (by omega) (by omega) ((zix (n := 10) rfl).trans hm.1) ?_
      refine r_aload_n rfl rfl ?_
      refine r_getR rfl (by first | assumption | exact hs.o rfl) (by first | assumption | exact hs.g rfl) ?_
      refine r_bipush rfl ?_
      refine r_iload_n rfl rfl ?_
      refine r_iadd rfl ?_
      refine r_iald rfl (by first | assumption | exact hs.a rfl) (by omega) (by omega) ((zix (n := 72 + j) (by omega)).trans (hp1.2.2.2.2 j (by omega)).2) ?_
      refine r_irem rfl (by omega) (by omega) (by omega) ?_
      refine r_if_ne rfl (by have := tm_rng (x := (rRoads pl cl rd j).1 5 0) (y := pl.2.2.2.2 j) (by omega) (by omega); omega) (fun hz => ?_) (fun hz => ?_)
      · refine next f (by omega) hf ?_ rfl
        unfold rWait
        rw [if_neg (fun q => hz q.2.1)]
        exact hm
      · refine r_aload_n rfl rfl ?_
        refine r_iload_n rfl rfl ?_
        refine r_callV1 rfl rfl (by first | assumption | exact hs.o rfl) rfl (c_waits (by omega) hs hm hok (by omega) (fun hw f1 hf1 hm1 hv1 => ?_) (fun hw => ?_))
        · refine next f1 (by omega) (hf.trans hf1) ?_ hv1
          unfold rWait
          rw [if_pos ⟨hc, hz, hw⟩]
          exact hm1
        · refine next f (by omega) hf ?_ rfl
          unfold rWait
          rw [if_neg (fun q => hw q.2.2)]
          exact hm
termination_by m.toNat - j
theorem c_passes (hd : 10 ≤ d) (hs : Sh σ g) {E : ZF → Prop} (hE : ∀ f f', FrM f f' → E f → E f') (hal : ALm 8 σ g E n m al) (hE0 : E (up2 f 219 25 0)) (hp : MPl (f 229) pl) (hpo : PlOk pl) (hn : pl.1 = n) (hmm : pl.2.1 = m) (hm : MRd (f 229) rd) (ho : RdOk n m N rd) (hN : N + 7 ≤ 1000000) (hcl : f 219 23 = cl) (hcr : -1 ≤ cl ∧ cl ≤ 5)
    (K : ∀ f', FrM f f' → MRd (f' 229) (rStep pl al cl rd).1 → (f' 219 25 = if (rStep pl al cl rd).2.2 = true then 1 else 0) → Q (some (zi (rStep pl al cl rd).2.1)) σ f' g) : ZCt d 188 [zr (some 219)] σ f g Q := by
  refine ZCt.of' (L0 := [_, _, _]) (by omega) rfl rfl rfl (fun d hd1 => ?_)
  have ho2 := ho.2.1
  have hf0 : FrM f (up2 f 219 25 0) := (FrM.rf f).moved
  have e229 : up2 f 219 25 0 229 = f 229 := up2_o _ _ (by omega)
  have hok := rCars_ok (al := al) (pl := pl) hn ho 6 (by omega) (by omega)
  refine r_iconst rfl ?_
  refine r_istore_n (L' := [_, _, _]) rfl rfl rfl ?_
  refine r_aload_n rfl rfl ?_
  refine r_iconst rfl ?_
  refine r_putZ rfl (by first | assumption | exact hs.o rfl) (by omega) ?_
  refine r_iconst rfl ?_
  refine r_istore_n (L' := [_, _, _]) rfl rfl rfl ?_
  refine l_cars (by omega) hs hE hal hE0 (by rw [e229]; exact hp) hpo hn hmm ho hN ?_ 0 (by omega) _ (FrM.rf _) (by rw [e229]; exact hm) (by rw [up2_same]; rfl)
  intro f1 hf1 hm1 hv1 x
  refine r_iconst rfl ?_
  refine r_istore_n (L' := [_, _, _]) rfl rfl rfl ?_
  have hf01 := hf0.trans hf1
  refine l_roads (mv := (rCars pl al rd 6).2.2) (by omega) hs (f0 := f1) (hp.fr hf01) hpo hn hmm hok (cl := cl) (by rw [hf01.2.1 23 (by omega) (by omega)]; exact hcl) hcr ?_ 0 (by omega) f1 (FrM.rf _) hm1 (by rw [hv1]; simp [rRoads])
  intro f2 hf2 hm2 hv2 x
  refine r_aload_n rfl rfl ?_
  refine r_getR rfl (by first | assumption | exact hs.o rfl) (by first | assumption | exact hs.g rfl) ?_
  refine r_bipush rfl ?_
  refine r_dup2 rfl ?_
  refine r_iald rfl (by first | assumption | exact hs.a rfl) (by omega) (by omega) (zix (n := 10) rfl) ?_
  refine r_iconst rfl ?_
  refine r_iadd rfl ?_
  refine r_iastN (10) rfl (by first | assumption | exact hs.a rfl) (by omega) (by omega) (by omega) ?_
  refine r_iload_n rfl rfl ?_
  refine r_iret rfl ?_
  refine K _ ((hf01.trans hf2).said (by omega)) ?_ ?_
  · have e := mrd_t hm2
    unfold rStep
    rw [hmm]
    exact e
  · rw [up2_o _ _ (by omega), hv2]
    unfold rStep
    rw [hmm]
end MPASS2
