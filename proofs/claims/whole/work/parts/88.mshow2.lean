/-! The reference reads a SHOW: cars, gaps, the whole -/
section MSHOW2
variable {d : Nat} {σ : ZS} {f f' : ZF} {g : ZG} {Q : ZQ} {p c : Nat} {t : Tx} {pl : Pl} {rd : Rd} {z : Int} {a : AS} {N : Int}
theorem c_isCarHere (hd : 4 ≤ d) (hs : Sh σ g) (hT : TxOk t) (h : SN f t p) (h8 : f 219 8 = (p : Int)) (hr : RdA (f 225) 1 pl rd) (hpl : PlOk pl) (hst : StOk pl rd) (h6 : pl.2.2.1 < 6) {x : Int} (K : SMK Q σ g f t (sCar t pl rd (sk t (lE t p)))) : ZCt d 153 [zr (some 219), zi x] σ f g Q := by
  refine ZCt.of' (L0 := [_, _, _, _]) (by omega) rfl rfl rfl (fun d hd1 => ?_)
  have hp := h.1.le
  have hLl := lE_le hp
  have hp1 := hpl.1
  have hp2 := hpl.2.1
  have hp3 := hpl.2.2.1
  obtain ⟨m, hm⟩ := Int.eq_ofNat_of_zero_le hp2.1
  obtain ⟨u, hu⟩ := Int.eq_ofNat_of_zero_le hp3.1
  obtain ⟨a1, a2, a3, a4, a5, a6, a7⟩ := hr
  have hsk := sk_le hLl
  refine r_aload_n rfl rfl ?_
  refine r_getR rfl (by first | assumption | exact hs.o rfl) (by first | assumption | exact hs.g rfl) ?_
  refine r_iconst rfl ?_
  refine r_iald rfl (by first | assumption | exact hs.a rfl) (by omega) (by omega) ((zix (n := 3) rfl).trans (a4.trans hu)) ?_
  refine r_bipush rfl ?_
  refine r_icmp_ne rfl (by omega) (by omega) (fun h8x => ?_) (fun h8x => ?_)
  · refine r_aload_n rfl rfl ?_
    refine r_callV0 rfl rfl (by first | assumption | exact hs.o rfl) rfl (c_passWord (q := p) (by omega) hs hT h.1.mx h8 h.1.le ?_)
    refine r_aload_n rfl rfl ?_
    refine r_callV0 rfl rfl (by first | assumption | exact hs.o rfl) rfl (c_see (by omega) hs hT (h.at hLl).1 ?_)
    rw [up2_up2]
    have h1 := (h.at hLl).now
    rw [up2_up2] at h1
    refine r_popi rfl ?_
    refine r_aload_n rfl rfl ?_
    refine r_getI rfl (by first | assumption | exact hs.o rfl) (up2_same _ _ _ _) ?_
    refine r_istore_n (L' := [_, _, _, _]) rfl rfl rfl ?_
    refine r_bipush rfl ?_
    refine r_iconst rfl ?_
    refine r_aload_n rfl rfl ?_
    refine r_getR rfl (by first | assumption | exact hs.o rfl) (by first | assumption | exact hs.g rfl) ?_
    refine r_iconst rfl ?_
    refine r_iald rfl (by first | assumption | exact hs.a rfl) (by omega) (by omega) ((zix (n := 3) rfl).trans ((congrFun (up2_o _ _ (by omega)) _).trans (a4.trans hu))) ?_
    refine r_imul rfl ?_
    refine r_iadd rfl ?_
    refine r_istore_n (L' := [_, _, _, _]) rfl rfl rfl ?_
    refine r_aload_n rfl rfl ?_
    refine r_iload_n rfl rfl ?_
    refine r_iconst rfl ?_
    refine r_aload_n rfl rfl ?_
    refine r_getR rfl (by first | assumption | exact hs.o rfl) (by first | assumption | exact hs.g rfl) ?_
    refine r_iconst rfl ?_
    refine r_iald rfl (by first | assumption | exact hs.a rfl) (by omega) (by omega) ((zix (n := 1) rfl).trans ((congrFun (up2_o _ _ (by omega)) _).trans a2)) ?_
    refine r_iconst rfl ?_
    refine r_isub rfl ?_
    rw [show ((77 : Int) + 3 * (u : Int)) = ((77 + 3 * u : Nat) : Int) by omega]
    refine r_callV3 rfl rfl (by first | assumption | exact hs.o rfl) rfl (c_cellHere (i := 77 + 3 * u) (by omega) hs hT h1 (by omega) (by omega) (by omega) (fun p2 v2 n2 f2 hf2 h2 h102 h252 h142 => ?_) (fun e2 n2 f2 hf2 h92 hr2 => ?_))
    · refine r_if_y rfl (by decide) ?_
      refine r_aload_n rfl rfl ?_
      refine r_aload_n rfl rfl ?_
      refine r_getI rfl (by first | assumption | exact hs.o rfl) h102 ?_
      have q2 := dNum_inr n2 hsk
      have e2 : ∀ j, j ≠ 77 + 3 * u → f2 225 j = f 225 j := fun j hj => by rw [h252 j, if_neg hj, up2_o _ _ (by omega)]
      have hcn : ∀ b, exB (fun j => decide (rd 0 j = v2)) u = b → carInP rd v2 = b := fun b hb => by rw [← exB_car (m := u) (by omega) (fun k q1 q2 => (hst.2.2.2 k q2).2 (by omega)) (by omega)]; exact hb
      obtain ⟨vc, hvc⟩ := Int.eq_ofNat_of_zero_le (show 0 ≤ v2 by omega)
      have hg01 := hst.1.2.2.2.2.1 vc (by omega)
      have hgp : gapInP rd v2 = decide (rd 6 vc = 1) := by unfold gapInP; rw [show v2.toNat = vc by omega]
      refine r_callV1 rfl rfl (by first | assumption | exact hs.o rfl) rfl (c_isCarIn (s := rd 0) (m := u) (by omega) hs (by rw [e2 3 (by omega)]; exact a4.trans hu) (fun j hj => by rw [e2 (77 + 3 * j) (by omega)]; exact (a6 j (by omega)).1) (fun j hj => by have q1 := hst.1.2.2.1 j (by omega); have q2 := hst.2.2.2 j (by omega); have q3 := hst.1.1; omega) (by omega) (by omega) (fun hin => ?_) (fun hin => ?_))
      · refine r_if_y rfl (by decide) ?_
        refine r_aload_n rfl rfl ?_
        refine r_iconst rfl ?_
        refine r_iload_n rfl rfl ?_
        refine r_callV2 rfl rfl (by first | assumption | exact hs.o rfl) rfl (c_fails (p := sk t (lE t p)) (by omega) hs h2.2.1 ?_)
        refine r_zret rfl (by omega) ?_
        exact K.2 _ (by unfold sCar; rw [dNum_b1 n2, if_pos (by rw [hcn true hin, Bool.true_or])]) _ ((((FrE.rf f).up (by omega)).trans hf2).up (by omega)) (up2_same _ _ _ _) (err_rng hT hsk (by omega))
      · refine r_if_n rfl (by decide) ?_
        refine r_aload_n rfl rfl ?_
        refine r_getR rfl (by first | assumption | exact hs.o rfl) (by first | assumption | exact hs.g rfl) ?_
        refine r_bipush rfl ?_
        refine r_aload_n rfl rfl ?_
        refine r_getI rfl (by first | assumption | exact hs.o rfl) h102 ?_
        refine r_iadd rfl ?_
        refine r_iald rfl (by first | assumption | exact hs.a rfl) (by omega) (by omega) (show _ = rd 6 vc from by rw [show ((95 : Int) + v2).toNat = 95 + vc by omega, e2 (95 + vc) (by omega)]; exact a7 vc (by omega)) ?_
        refine r_iconst rfl ?_
        refine r_icmp_ne rfl (by omega) (by omega) (fun h87 => ?_) (fun h87 => ?_)
        · refine r_aload_n rfl rfl ?_
          refine r_iload_n rfl rfl ?_
          refine r_iconst rfl ?_
          refine r_iadd rfl ?_
          refine r_iconst rfl ?_
          refine r_aload_n rfl rfl ?_
          refine r_getR rfl (by first | assumption | exact hs.o rfl) (by first | assumption | exact hs.g rfl) ?_
          refine r_iconst rfl ?_
          refine r_iald rfl (by first | assumption | exact hs.a rfl) (by omega) (by omega) ((zix (n := 2) rfl).trans ((e2 2 (by omega)).trans a3)) ?_
          refine r_iconst rfl ?_
          refine r_isub rfl ?_
          have ebf : (carInP rd v2 || gapInP rd v2) = false := by
            rw [hgp, decide_eq_false_iff_not.2 h87, Bool.or_false]
            refine hcn false ?_
            cases hz : exB (fun j => decide (rd 0 j = v2)) u with
            | false => rfl
            | true => exact absurd hz hin
          have n2b := (dNum_b1 (bar := fun c => carInP rd c || gapInP rd c) n2).trans (if_neg (by rw [ebf]; decide))
          rw [show (((77 + 3 * u : Nat) : Int) + 1) = ((77 + 3 * u + 1 : Nat) : Int) by omega]
          refine r_callV3 rfl rfl (by first | assumption | exact hs.o rfl) rfl (c_cellHere (i := 77 + 3 * u + 1) (by omega) hs hT h2 (by omega) (by omega) (by omega) (fun p3 v3 n3 f3 hf3 h3 h103 h253 h143 => ?_) (fun e3 n3 f3 hf3 h93 hr3 => ?_))
          · refine r_if_n rfl (by decide) ?_
            refine r_aload_n rfl rfl ?_
            refine r_iload_n rfl rfl ?_
            refine r_iconst rfl ?_
            refine r_iadd rfl ?_
            refine r_iconst rfl ?_
            refine r_bipush rfl ?_
            have q3 := dNum_inr n3 q2.1
            rw [show (((77 + 3 * u : Nat) : Int) + 2) = ((77 + 3 * u + 2 : Nat) : Int) by omega]
            refine r_callV3 rfl rfl (by first | assumption | exact hs.o rfl) rfl (c_cellHere (i := 77 + 3 * u + 2) (by omega) hs hT h3 (by omega) (by omega) (by omega) (fun p4 v4 n4 f4 hf4 h4 h104 h254 h144 => ?_) (fun e4 n4 f4 hf4 h94 hr4 => ?_))
            · refine r_if_y rfl (by decide) ?_
              refine r_aload_n rfl rfl ?_
              refine r_getR rfl (by first | assumption | exact hs.o rfl) (by first | assumption | exact hs.g rfl) ?_
              refine r_iconst rfl ?_
              refine r_dup2 rfl ?_
              refine r_iald rfl (by first | assumption | exact hs.a rfl) (by omega) (by omega) ((zix (n := 3) rfl).trans (show _ = (u : Int) from by rw [h254 3, if_neg (by omega), h253 3, if_neg (by omega), e2 3 (by omega)]; exact a4.trans hu)) ?_
              refine r_iconst rfl ?_
              refine r_iadd rfl ?_
              refine r_iastN (3) rfl (by first | assumption | exact hs.a rfl) (by omega) (by omega) (by omega) ?_
              refine r_iconst rfl ?_
              refine r_zret rfl (by omega) ?_
              have e25 : ∀ j, up2 f4 225 3 ((u : Int) + 1) 225 j = if j = 3 then (u : Int) + 1 else if j = 77 + 3 * u + 2 then v4 else if j = 77 + 3 * u + 1 then v3 else if j = 77 + 3 * u then v2 else f 225 j := fun j => by
                by_cases q : j = 3
                · rw [q, up2_same, if_pos rfl]
                · rw [up2_ne _ _ (by omega), if_neg q, h254 j, h253 j, h252 j, up2_o _ _ (by omega)]
              refine K.1 p4 _ _ (by unfold sCar; rw [n2b]; simp only; rw [n3]; simp only; rw [n4]) _ ((((((FrE.rf f).up (by omega)).trans hf2).trans hf3).trans hf4).rd) h4.rd ⟨?_, ?_, ?_, ?_, fun j hj => ?_, fun k hk => ?_, fun c hc => ?_⟩ ?_
              · rw [e25, if_neg (by omega), if_neg (by omega), if_neg (by omega), if_neg (by omega)]; exact a1
              · rw [e25, if_neg (by omega), if_neg (by omega), if_neg (by omega), if_neg (by omega)]; exact a2
              · rw [e25, if_neg (by omega), if_neg (by omega), if_neg (by omega), if_neg (by omega)]; exact a3
              · rw [e25, if_pos rfl]; show _ = pl.2.2.1 + 1; omega
              · rw [e25, e25, if_neg (by omega), if_neg (by omega), if_neg (by omega), if_neg (by omega), if_neg (by omega), if_neg (by omega), if_neg (by omega), if_neg (by omega)]; exact a5 j hj
              · have hk' : (k : Int) < pl.2.2.1 + 1 := hk
                rw [show pl.2.2.1.toNat = u by omega]
                by_cases q : k = u
                · subst q
                  refine ⟨?_, ?_, ?_⟩
                  · rw [e25, if_neg (by omega), if_neg (by omega), if_neg (by omega), if_pos rfl]; simp [rOn, up2]
                  · rw [show 78 + 3 * k = 77 + 3 * k + 1 by omega, e25, if_neg (by omega), if_neg (by omega), if_pos rfl]; simp [rOn, up2]
                  · rw [show 79 + 3 * k = 77 + 3 * k + 2 by omega, e25, if_neg (by omega), if_pos rfl]; simp [rOn, up2]
                · have := a6 k (by omega)
                  rw [e25, e25, e25, if_neg (by omega), if_neg (by omega), if_neg (by omega), if_neg (by omega), if_neg (by omega), if_neg (by omega), if_neg (by omega), if_neg (by omega), if_neg (by omega), if_neg (by omega), if_neg (by omega), if_neg (by omega)]
                  simp only [rOn, up2, q, and_false, if_false, Nat.reduceEqDiff, false_and]
                  exact this
              · rw [e25, if_neg (by omega), if_neg (by omega), if_neg (by omega), if_neg (by omega)]
                have := a7 c hc
                simp only [rOn, up2, Nat.reduceEqDiff, false_and, if_false]
                exact this
              · rw [up2_o _ _ (by omega), h144, h143, h142]; exact up2_ne _ _ (by omega)
            · refine r_if_n rfl (by decide) ?_
              refine r_iconst rfl ?_
              refine r_zret rfl (by omega) ?_
              exact K.2 e4 (by unfold sCar; rw [n2b]; simp only; rw [n3]; simp only; rw [n4]) f4 (((((FrE.rf f).up (by omega)).trans hf2).trans hf3).trans hf4) h94 hr4
          · refine r_if_y rfl (by decide) ?_
            refine r_iconst rfl ?_
            refine r_zret rfl (by omega) ?_
            exact K.2 e3 (by unfold sCar; rw [n2b]; simp only; rw [n3]) f3 ((((FrE.rf f).up (by omega)).trans hf2).trans hf3) h93 hr3
        · refine r_aload_n rfl rfl ?_
          refine r_iconst rfl ?_
          refine r_iload_n rfl rfl ?_
          refine r_callV2 rfl rfl (by first | assumption | exact hs.o rfl) rfl (c_fails (p := sk t (lE t p)) (by omega) hs h2.2.1 ?_)
          refine r_zret rfl (by omega) ?_
          exact K.2 _ (by unfold sCar; rw [dNum_b1 n2, if_pos (by rw [hgp, decide_eq_true_iff.2 h87, Bool.or_true])]) _ ((((FrE.rf f).up (by omega)).trans hf2).up (by omega)) (up2_same _ _ _ _) (err_rng hT hsk (by omega))
    · refine r_if_n rfl (by decide) ?_
      refine r_iconst rfl ?_
      refine r_zret rfl (by omega) ?_
      exact K.2 e2 (by unfold sCar; rw [dNum_b0 n2]) f2 (((FrE.rf f).up (by omega)).trans hf2) h92 hr2
  · exfalso; omega
theorem c_isGapHere (hd : 4 ≤ d) (hs : Sh σ g) (hT : TxOk t) (h : SN f t p) (h8 : f 219 8 = (p : Int)) (hr : RdA (f 225) 1 pl rd) (hpl : PlOk pl) (hst : StOk pl rd) (K : SMK Q σ g f t (sGap t pl rd (sk t (lE t p)))) : ZCt d 155 [zr (some 219)] σ f g Q := by
  refine ZCt.of' (L0 := [_, _]) (by omega) rfl rfl rfl (fun d hd1 => ?_)
  have hp := h.1.le
  have hLl := lE_le hp
  have hp1 := hpl.1
  have hp2 := hpl.2.1
  have hp3 := hpl.2.2.1
  obtain ⟨m, hm⟩ := Int.eq_ofNat_of_zero_le hp2.1
  obtain ⟨u, hu⟩ := Int.eq_ofNat_of_zero_le hp3.1
  obtain ⟨a1, a2, a3, a4, a5, a6, a7⟩ := hr
  have hsk := sk_le hLl
  refine r_aload_n rfl rfl ?_
  refine r_callV0 rfl rfl (by first | assumption | exact hs.o rfl) rfl (c_passWord (q := p) (by omega) hs hT h.1.mx h8 h.1.le ?_)
  refine r_aload_n rfl rfl ?_
  refine r_callV0 rfl rfl (by first | assumption | exact hs.o rfl) rfl (c_see (by omega) hs hT (h.at hLl).1 ?_)
  rw [up2_up2]
  have h1 := (h.at hLl).now
  rw [up2_up2] at h1
  refine r_popi rfl ?_
  refine r_aload_n rfl rfl ?_
  refine r_getI rfl (by first | assumption | exact hs.o rfl) (up2_same _ _ _ _) ?_
  refine r_istore_n (L' := [_, _]) rfl rfl rfl ?_
  refine r_aload_n rfl rfl ?_
  refine r_iconst rfl ?_
  refine r_aload_n rfl rfl ?_
  refine r_getR rfl (by first | assumption | exact hs.o rfl) (by first | assumption | exact hs.g rfl) ?_
  refine r_iconst rfl ?_
  refine r_iald rfl (by first | assumption | exact hs.a rfl) (by omega) (by omega) ((zix (n := 1) rfl).trans ((congrFun (up2_o _ _ (by omega)) _).trans a2)) ?_
  refine r_iconst rfl ?_
  refine r_isub rfl ?_
  refine r_callV2 rfl rfl (by first | assumption | exact hs.o rfl) rfl (c_numberHere (by omega) hs hT h1.1 h1.2.1 (by omega) (by omega) (fun p2 v2 n2 f2 hf2 h2 h102 => ?_) (fun e2 n2 f2 hf2 h92 => ?_))
  · refine r_if_y rfl (by decide) ?_
    refine r_aload_n rfl rfl ?_
    refine r_aload_n rfl rfl ?_
    refine r_getI rfl (by first | assumption | exact hs.o rfl) h102 ?_
    have q2 := dNum_inr n2 hsk
    have e2 : ∀ j, j ≠ 100000 → f2 225 j = f 225 j := fun j _ => by rw [hf2.1 225 (by omega), up2_o _ _ (by omega)]
    have hfe : FrE f f2 := ((FrE.rf f).up (by omega)).trans ⟨fun c q1 _ => hf2.1 c q1, fun i q1 q2 q3 _ => hf2.2 i q1 q3⟩
    have hcn : ∀ b, exB (fun j => decide (rd 0 j = v2)) u = b → carInP rd v2 = b := fun b hb => by rw [← exB_car (m := u) (by omega) (fun k q1 q2 => (hst.2.2.2 k q2).2 (by omega)) (by omega)]; exact hb
    refine r_callV1 rfl rfl (by first | assumption | exact hs.o rfl) rfl (c_isCarIn (s := rd 0) (m := u) (by omega) hs (by rw [e2 3 (by omega)]; exact a4.trans hu) (fun j hj => by rw [e2 (77 + 3 * j) (by omega)]; exact (a6 j (by omega)).1) (fun j hj => by have q1 := hst.1.2.2.1 j (by omega); have q2 := hst.2.2.2 j (by omega); have q3 := hst.1.1; omega) (by omega) (by omega) (fun hin => ?_) (fun hin => ?_))
    · refine r_if_n rfl (by decide) ?_
      refine r_aload_n rfl rfl ?_
      refine r_iconst rfl ?_
      refine r_iload_n rfl rfl ?_
      refine r_callV2 rfl rfl (by first | assumption | exact hs.o rfl) rfl (c_fails (p := sk t (lE t p)) (by omega) hs ((hf2.2 9 (by omega) (by omega)).trans h1.2.1) ?_)
      refine r_zret rfl (by omega) ?_
      exact K.2 _ (by unfold sGap; rw [dNum_b1 n2, if_pos (hcn true hin)]) _ (hfe.up (by omega)) (up2_same _ _ _ _) (err_rng hT hsk (by omega))
    · refine r_if_y rfl (by decide) ?_
      refine r_aload_n rfl rfl ?_
      refine r_getR rfl (by first | assumption | exact hs.o rfl) (by first | assumption | exact hs.g rfl) ?_
      refine r_bipush rfl ?_
      refine r_aload_n rfl rfl ?_
      refine r_getI rfl (by first | assumption | exact hs.o rfl) h102 ?_
      refine r_iadd rfl ?_
      refine r_iconst rfl ?_
      obtain ⟨vc, hvc⟩ := Int.eq_ofNat_of_zero_le (show 0 ≤ v2 by omega)
      refine r_iastN (95 + vc) rfl (by first | assumption | exact hs.a rfl) (by omega) (by omega) (by omega) ?_
      refine r_iconst rfl ?_
      refine r_zret rfl (by omega) ?_
      have ebf := hcn false (by cases hz : exB (fun j => decide (rd 0 j = v2)) u with
        | false => rfl
        | true => exact absurd hz hin)
      have n2b := (dNum_b1 (bar := carInP rd) n2).trans (if_neg (by rw [ebf]; decide))
      have e25 : ∀ j, up2 f2 225 (95 + vc) 1 225 j = if j = 95 + vc then 1 else f 225 j := fun j => by
        by_cases q : j = 95 + vc
        · rw [q, up2_same, if_pos rfl]
        · rw [up2_ne _ _ (by omega), if_neg q, hf2.1 225 (by omega), up2_o _ _ (by omega)]
      refine K.1 p2 pl (up2 rd 6 vc 1) (by unfold sGap; rw [n2b]; simp only; rw [show v2.toNat = vc by omega]) _ hfe.rd (SN.rd ⟨h2, (hf2.2 9 (by omega) (by omega)).trans h1.2.1, (hf2.2 11 (by omega) (by omega)).trans h1.2.2⟩) ⟨?_, ?_, ?_, ?_, fun j hj => ?_, fun k hk => ?_, fun c hc => ?_⟩ ?_
      · rw [e25, if_neg (by omega)]; exact a1
      · rw [e25, if_neg (by omega)]; exact a2
      · rw [e25, if_neg (by omega)]; exact a3
      · rw [e25, if_neg (by omega)]; exact a4
      · rw [e25, e25, if_neg (by omega), if_neg (by omega)]; exact a5 j hj
      · rw [e25, e25, e25, if_neg (by omega), if_neg (by omega), if_neg (by omega)]
        have := a6 k hk
        simpa [up2] using this
      · rw [e25]
        have := a7 c hc
        by_cases q : c = vc
        · rw [if_pos (by omega), q]; simp [up2]
        · rw [if_neg (by omega)]; simp [up2, q]; exact this
      · rw [up2_o _ _ (by omega), hf2.2 14 (by omega) (by omega)]; exact up2_ne _ _ (by omega)
  · refine r_if_n rfl (by decide) ?_
    refine r_iconst rfl ?_
    refine r_zret rfl (by omega) ?_
    exact K.2 e2 (by unfold sGap; rw [dNum_b0 n2]) f2 (((FrE.rf f).up (by omega)).trans ⟨fun c q1 _ => hf2.1 c q1, fun i q1 q2 q3 _ => hf2.2 i q1 q3 q2⟩) h92 (dNum_er hT hsk n2)
theorem c_isShowWord (hd : 3 ≤ d) (hs : Sh σ g) (hT : TxOk t) (h : NX f t p) (k1 : ∀ v : Nat, woL t p wShows 0 = (v : Int) → Q (some (zi 1)) σ (up2 f 219 8 (p : Int)) g) (k2 : woL t p wShows 0 = -1 → Q (some (zi 0)) σ (up2 f 219 8 (p : Int)) g) : ZCt d 140 [zr (some 219)] σ f g Q := by
  refine ZCt.of' (L0 := [_]) (by omega) rfl rfl rfl (fun d hd1 => ?_)
  refine r_aload_n rfl rfl ?_
  refine r_ldc2 rfl ?_
  refine r_callV1 rfl rfl (by first | assumption | exact hs.o rfl) rfl (c_isWord (wd := wShow) (by omega) hs hT (wOk_S _ (by decide)) rfl h (fun w0 => ?_) (fun w0 => ?_))
  · refine r_if_y rfl (by decide) ?_
    refine r_iconst rfl ?_
    refine r_goto rfl ?_
    refine r_zret rfl (by omega) ?_
    exact k1 0 (if_pos w0)
  · refine r_if_n rfl (by decide) ?_
    refine r_aload_n rfl rfl ?_
    refine r_ldc2 rfl ?_
    refine r_callV1 rfl rfl (by first | assumption | exact hs.o rfl) rfl (c_isWord (wd := wRoad) (by omega) hs hT (wOk_S _ (by decide)) rfl h.now (fun w1 => ?_) (fun w1 => ?_))
    · refine r_if_y rfl (by decide) ?_
      refine r_iconst rfl ?_
      refine r_goto rfl ?_
      refine r_zret rfl (by omega) ?_
      rw [up2_up2]
      exact k1 1 ((if_neg w0).trans (if_pos w1))
    · refine r_if_n rfl (by decide) ?_
      refine r_aload_n rfl rfl ?_
      refine r_ldc2 rfl ?_
      rw [up2_up2]
      refine r_callV1 rfl rfl (by first | assumption | exact hs.o rfl) rfl (c_isWord (wd := wCar) (by omega) hs hT (wOk_S _ (by decide)) rfl h.now (fun w2 => ?_) (fun w2 => ?_))
      · refine r_if_y rfl (by decide) ?_
        refine r_iconst rfl ?_
        refine r_goto rfl ?_
        refine r_zret rfl (by omega) ?_
        rw [up2_up2]
        exact k1 2 ((if_neg w0).trans ((if_neg w1).trans (if_pos w2)))
      · refine r_if_n rfl (by decide) ?_
        refine r_aload_n rfl rfl ?_
        refine r_ldc2 rfl ?_
        rw [up2_up2]
        refine r_callV1 rfl rfl (by first | assumption | exact hs.o rfl) rfl (c_isWord (wd := wGap) (by omega) hs hT (wOk_S _ (by decide)) rfl h.now (fun w3 => ?_) (fun w3 => ?_))
        · refine r_if_n rfl (by decide) ?_
          refine r_iconst rfl ?_
          refine r_goto rfl ?_
          refine r_zret rfl (by omega) ?_
          rw [up2_up2]
          exact k1 3 ((if_neg w0).trans ((if_neg w1).trans ((if_neg w2).trans (if_pos w3))))
        · refine r_if_y rfl (by decide) ?_
          refine r_iconst rfl ?_
          refine r_zret rfl (by omega) ?_
          rw [up2_up2]
          exact k2 ((if_neg w0).trans ((if_neg w1).trans ((if_neg w2).trans (if_neg w3))))
theorem woS_0 (h : wIs t p wShow = true) : woL t p wShows 0 = 0 := if_pos h
theorem woS_1 (h0 : ¬ wIs t p wShow = true) (h : wIs t p wRoad = true) : woL t p wShows 0 = 1 := (if_neg h0).trans (if_pos h)
theorem woS_2 (h0 : ¬ wIs t p wShow = true) (h1 : ¬ wIs t p wRoad = true) (h : wIs t p wCar = true) : woL t p wShows 0 = 2 := (if_neg h0).trans ((if_neg h1).trans (if_pos h))
theorem woS_3 (h0 : ¬ wIs t p wShow = true) (h1 : ¬ wIs t p wRoad = true) (h2 : ¬ wIs t p wCar = true) (hn : ¬ woL t p wShows 0 = -1) : woL t p wShows 0 = 3 := by
  have e : woL t p wShows 0 = if wIs t p wGap = true then ((3 : Nat) : Int) else -1 := (if_neg h0).trans ((if_neg h1).trans (if_neg h2))
  rw [e] at hn ⊢
  split
  · rfl
  · rename_i q; rw [if_neg q] at hn; exact absurd rfl hn
theorem c_isShowLate (hd : 2 ≤ d) (hs : Sh σ g) (h : SN f t p) (hr : f 225 0 = 1) (K : Q (some (zi 0)) σ (up2 f 219 9 (err p 4)) g) : ZCt d 145 [zr (some 219), zi (p : Int)] σ f g Q := by
  refine ZCt.of' (L0 := [_, _]) (by omega) rfl rfl rfl (fun d hd1 => ?_)
  refine r_aload_n rfl rfl ?_
  refine r_getR rfl (by first | assumption | exact hs.o rfl) (by first | assumption | exact hs.g rfl) ?_
  refine r_iconst rfl ?_
  refine r_iald rfl (by first | assumption | exact hs.a rfl) (by omega) (by omega) ((zix (n := 0) rfl).trans hr) ?_
  refine r_if_le rfl (by omega) (fun h6 => ?_) (fun h6 => ?_)
  · exfalso; omega
  · refine r_aload_n rfl rfl ?_
    refine r_iconst rfl ?_
    refine r_iload_n rfl rfl ?_
    refine r_callV2 rfl rfl (by first | assumption | exact hs.o rfl) rfl (c_fails (p := p) (by omega) hs h.2.1 ?_)
    refine r_zret rfl (by omega) ?_
    exact K
theorem c_isRoadFull (hd : 2 ≤ d) (hs : Sh σ g) (h : SN f t p) (hr : f 225 2 = 5) (K : Q (some (zi 0)) σ (up2 f 219 9 (err p 4)) g) : ZCt d 151 [zr (some 219), zi (p : Int)] σ f g Q := by
  refine ZCt.of' (L0 := [_, _, _]) (by omega) rfl rfl rfl (fun d hd1 => ?_)
  refine r_aload_n rfl rfl ?_
  refine r_getR rfl (by first | assumption | exact hs.o rfl) (by first | assumption | exact hs.g rfl) ?_
  refine r_iconst rfl ?_
  refine r_iald rfl (by first | assumption | exact hs.a rfl) (by omega) (by omega) ((zix (n := 2) rfl).trans hr) ?_
  refine r_iconst rfl ?_
  refine r_icmp_ne rfl (by omega) (by omega) (fun h7 => ?_) (fun h7 => ?_)
  · exfalso; omega
  · refine r_aload_n rfl rfl ?_
    refine r_iconst rfl ?_
    refine r_iload_n rfl rfl ?_
    refine r_callV2 rfl rfl (by first | assumption | exact hs.o rfl) rfl (c_fails (p := p) (by omega) hs h.2.1 ?_)
    refine r_zret rfl (by omega) ?_
    exact K
theorem c_isCarFull (hd : 2 ≤ d) (hs : Sh σ g) (h : SN f t p) (hr : f 225 3 = 6) (K : Q (some (zi 0)) σ (up2 f 219 9 (err p 4)) g) : ZCt d 153 [zr (some 219), zi (p : Int)] σ f g Q := by
  refine ZCt.of' (L0 := [_, _, _, _]) (by omega) rfl rfl rfl (fun d hd1 => ?_)
  refine r_aload_n rfl rfl ?_
  refine r_getR rfl (by first | assumption | exact hs.o rfl) (by first | assumption | exact hs.g rfl) ?_
  refine r_iconst rfl ?_
  refine r_iald rfl (by first | assumption | exact hs.a rfl) (by omega) (by omega) ((zix (n := 3) rfl).trans hr) ?_
  refine r_bipush rfl ?_
  refine r_icmp_ne rfl (by omega) (by omega) (fun h8 => ?_) (fun h8 => ?_)
  · exfalso; omega
  · refine r_aload_n rfl rfl ?_
    refine r_iconst rfl ?_
    refine r_iload_n rfl rfl ?_
    refine r_callV2 rfl rfl (by first | assumption | exact hs.o rfl) rfl (c_fails (p := p) (by omega) hs h.2.1 ?_)
    refine r_zret rfl (by omega) ?_
    exact K
/-- the row that was read, at CLAUSE c -/
def RdZ (s : Nat → Int) (c : Nat) (pl : Pl) (rd : Rd) : Prop := RdA s (if c = 0 then 0 else 1) pl rd ∧ SI c pl rd
theorem c_isShowK (hd : 4 ≤ d) (hs : Sh σ g) (hT : TxOk t) (h : SN f t p) (h8 : f 219 8 = (p : Int)) (hr : RdZ (f 225) c pl rd) (hc : c < 40) (hW : woL t p wShows 0 = 0) (K : SMK Q σ g f t (dShC t c pl rd p)) : ZCt d 145 [zr (some 219), zi (p : Int)] σ f g Q := by
  have hp := h.1.le
  by_cases hc0 : c = 0
  · obtain ⟨hr, hS⟩ := hr
    rcases hS with q | q
    · obtain ⟨_, rfl, rfl⟩ := q
      rw [if_pos hc0] at hr
      rw [dShC_g (by omega) (by simp only [pl0]; omega), if_pos hW] at K
      exact c_isShowHere hd hs hT h h8 hr K
    · omega
  · have h1 := hr.1.1
    rw [if_neg hc0] at h1
    exact c_isShowLate (by omega) hs h h1 (K.2 _ (dShC_4 (by omega) (by omega)) _ ((FrE.rf f).up (by omega)) (up2_same _ _ _ _) (err_rng hT hp (by omega)))
theorem c_isRoadK (hd : 4 ≤ d) (hs : Sh σ g) (hT : TxOk t) (h : SN f t p) (h8 : f 219 8 = (p : Int)) (hr : RdZ (f 225) c pl rd) (hc : c < 40) (hc0 : c ≠ 0) (hW : woL t p wShows 0 = 1) (K : SMK Q σ g f t (dShC t c pl rd p)) : ZCt d 151 [zr (some 219), zi (p : Int)] σ f g Q := by
  have hp := h.1.le
  obtain ⟨hpl, hst⟩ := hr.2.good hc0
  have hr1 := hr.1
  rw [if_neg hc0] at hr1
  have hp2 := hpl.2.1
  by_cases h5 : pl.2.1 < 5
  · rw [dShC_g (by omega) (by omega), if_neg (by omega), if_pos hW] at K
    exact c_isRoadHere hd hs hT h h8 hr1 hpl hst h5 K
  · exact c_isRoadFull (by omega) hs h (by rw [hr1.2.2.1]; omega) (K.2 _ (dShC_4 (by omega) (by omega)) _ ((FrE.rf f).up (by omega)) (up2_same _ _ _ _) (err_rng hT hp (by omega)))
theorem c_isCarK (hd : 4 ≤ d) (hs : Sh σ g) (hT : TxOk t) (h : SN f t p) (h8 : f 219 8 = (p : Int)) (hr : RdZ (f 225) c pl rd) (hc : c < 40) (hc0 : c ≠ 0) (hW : woL t p wShows 0 = 2) (K : SMK Q σ g f t (dShC t c pl rd p)) : ZCt d 153 [zr (some 219), zi (p : Int)] σ f g Q := by
  have hp := h.1.le
  obtain ⟨hpl, hst⟩ := hr.2.good hc0
  have hr1 := hr.1
  rw [if_neg hc0] at hr1
  have hp3 := hpl.2.2.1
  by_cases h6 : pl.2.2.1 < 6
  · rw [dShC_g (by omega) (by omega), if_neg (by omega), if_neg (by omega), if_pos hW] at K
    exact c_isCarHere hd hs hT h h8 hr1 hpl hst h6 K
  · exact c_isCarFull (by omega) hs h (by rw [hr1.2.2.2.1]; omega) (K.2 _ (dShC_4 (by omega) (by omega)) _ ((FrE.rf f).up (by omega)) (up2_same _ _ _ _) (err_rng hT hp (by omega)))
theorem c_isGapK (hd : 4 ≤ d) (hs : Sh σ g) (hT : TxOk t) (h : SN f t p) (h8 : f 219 8 = (p : Int)) (hr : RdZ (f 225) c pl rd) (hc : c < 40) (hc0 : c ≠ 0) (hW : woL t p wShows 0 = 3) (K : SMK Q σ g f t (dShC t c pl rd p)) : ZCt d 155 [zr (some 219)] σ f g Q := by
  obtain ⟨hpl, hst⟩ := hr.2.good hc0
  have hr1 := hr.1
  rw [if_neg hc0] at hr1
  rw [dShC_g (by omega) (by omega), if_neg (by omega), if_neg (by omega), if_neg (by omega)] at K
  exact c_isGapHere hd hs hT h h8 hr1 hpl hst K
theorem SMK.at8 {f0 : ZF} {r : SR} {v : Int} (K : SMK Q σ g f0 t r) : SMK Q σ g (up2 f0 219 8 v) t r := ⟨fun p' pl' rd' e f' hf' h1 h2 h3 => K.1 p' pl' rd' e f' (((FrE.rf f0).up (by omega)).trans hf') h1 h2 (h3.trans (up2_ne _ _ (by omega))), fun e he f' hf' h9 hr => K.2 e he f' (((FrE.rf f0).up (by omega)).trans hf') h9 hr⟩
theorem woS_0i (h : woL t p wShows 0 = 0) : wIs t p wShow = true := by
  apply Classical.byContradiction
  intro q
  have e : woL t p wShows 0 = woL t p [wRoad, wCar, wGap] 1 := if_neg q
  have := woL_rng (t := t) (p := p) [wRoad, wCar, wGap] 1
  omega
theorem c_showLine (hd : 5 ≤ d) (hs : Sh σ g) (hT : TxOk t) (h : SN f t p) (hr : RdZ (f 225) c pl rd) (hc : c < 40) (hn : ¬ woL t p wShows 0 = -1) (K : SMK Q σ g f t (dShC t c pl rd p)) : ZCt d 144 [zr (some 219), zi (p : Int)] σ f g Q := by
  refine ZCt.of' (L0 := [_, _]) (by omega) rfl rfl rfl (fun d hd1 => ?_)
  have hp := h.1.le
  refine r_aload_n rfl rfl ?_
  refine r_ldc2 rfl ?_
  refine r_callV1 rfl rfl (by first | assumption | exact hs.o rfl) rfl (c_isWord (wd := wShow) (by omega) hs hT (wOk_S _ (by decide)) rfl h.1 (fun w0 => ?_) (fun w0 => ?_))
  · refine r_if_n rfl (by decide) ?_
    refine r_aload_n rfl rfl ?_
    refine r_iload_n rfl rfl ?_
    refine r_callV1 rfl rfl (by first | assumption | exact hs.o rfl) rfl (c_isShowK (by omega) hs hT h.now (up2_same _ _ _ _) (by rw [up2_o _ _ (by omega)]; exact hr) hc (woS_0 w0) ⟨fun p2 pl2 rd2 n2 f2 hf2 h2 hr2 h142 => ?_, fun e2 n2 f2 hf2 h92 hr92 => ?_⟩)
    · refine r_zret rfl (by omega) ?_
      exact K.at8.1 _ _ _ n2 f2 hf2 h2 hr2 h142
    · refine r_zret rfl (by omega) ?_
      exact K.at8.2 _ n2 f2 hf2 h92 hr92
  · refine r_if_y rfl (by decide) ?_
    refine r_aload_n rfl rfl ?_
    refine r_getR rfl (by first | assumption | exact hs.o rfl) (by first | assumption | exact hs.g rfl) ?_
    refine r_iconst rfl ?_
    refine r_iald rfl (by first | assumption | exact hs.a rfl) (by omega) (by omega) ((zix (n := 0) rfl).trans ((congrFun (up2_o _ _ (by omega)) _).trans hr.1.1)) ?_
    refine r_if_ne rfl (by split <;> omega) (fun h22 => ?_) (fun h22 => ?_)
    · refine r_aload_n rfl rfl ?_
      have hc0 : c ≠ 0 := fun q => by rw [if_pos q] at h22; exact h22 rfl
      refine r_ldc2 rfl ?_
      refine r_callV1 rfl rfl (by first | assumption | exact hs.o rfl) rfl (c_isWord (wd := wRoad) (by omega) hs hT (wOk_S _ (by decide)) rfl h.now.1 (fun w1 => ?_) (fun w1 => ?_))
      · refine r_if_n rfl (by decide) ?_
        refine r_aload_n rfl rfl ?_
        refine r_iload_n rfl rfl ?_
        rw [up2_up2]
        refine r_callV1 rfl rfl (by first | assumption | exact hs.o rfl) rfl (c_isRoadK (by omega) hs hT h.now (up2_same _ _ _ _) (by rw [up2_o _ _ (by omega)]; exact hr) hc hc0 (woS_1 w0 w1) ⟨fun p2 pl2 rd2 n2 f2 hf2 h2 hr2 h142 => ?_, fun e2 n2 f2 hf2 h92 hr92 => ?_⟩)
        · refine r_zret rfl (by omega) ?_
          exact K.at8.1 _ _ _ n2 f2 hf2 h2 hr2 h142
        · refine r_zret rfl (by omega) ?_
          exact K.at8.2 _ n2 f2 hf2 h92 hr92
      · refine r_if_y rfl (by decide) ?_
        refine r_aload_n rfl rfl ?_
        refine r_ldc2 rfl ?_
        rw [up2_up2]
        refine r_callV1 rfl rfl (by first | assumption | exact hs.o rfl) rfl (c_isWord (wd := wCar) (by omega) hs hT (wOk_S _ (by decide)) rfl h.now.1 (fun w2 => ?_) (fun w2 => ?_))
        · refine r_if_n rfl (by decide) ?_
          refine r_aload_n rfl rfl ?_
          refine r_iload_n rfl rfl ?_
          rw [up2_up2]
          refine r_callV1 rfl rfl (by first | assumption | exact hs.o rfl) rfl (c_isCarK (by omega) hs hT h.now (up2_same _ _ _ _) (by rw [up2_o _ _ (by omega)]; exact hr) hc hc0 (woS_2 w0 w1 w2) ⟨fun p2 pl2 rd2 n2 f2 hf2 h2 hr2 h142 => ?_, fun e2 n2 f2 hf2 h92 hr92 => ?_⟩)
          · refine r_goto rfl ?_
            refine r_zret rfl (by omega) ?_
            exact K.at8.1 _ _ _ n2 f2 hf2 h2 hr2 h142
          · refine r_goto rfl ?_
            refine r_zret rfl (by omega) ?_
            exact K.at8.2 _ n2 f2 hf2 h92 hr92
        · refine r_if_y rfl (by decide) ?_
          refine r_aload_n rfl rfl ?_
          rw [up2_up2]
          refine r_callV0 rfl rfl (by first | assumption | exact hs.o rfl) rfl (c_isGapK (by omega) hs hT h.now (up2_same _ _ _ _) (by rw [up2_o _ _ (by omega)]; exact hr) hc hc0 (woS_3 w0 w1 w2 hn) ⟨fun p2 pl2 rd2 n2 f2 hf2 h2 hr2 h142 => ?_, fun e2 n2 f2 hf2 h92 hr92 => ?_⟩)
          · refine r_zret rfl (by omega) ?_
            exact K.at8.1 _ _ _ n2 f2 hf2 h2 hr2 h142
          · refine r_zret rfl (by omega) ?_
            exact K.at8.2 _ n2 f2 hf2 h92 hr92
    · refine r_aload_n rfl rfl ?_
      refine r_iconst rfl ?_
      refine r_iload_n rfl rfl ?_
      refine r_callV2 rfl rfl (by first | assumption | exact hs.o rfl) rfl (c_fails (p := p) (by omega) hs h.now.2.1 ?_)
      refine r_zret rfl (by omega) ?_
      have w0n : woL t p wShows 0 ≠ 0 := fun q => w0 (woS_0i q)
      have hc0 : c = 0 := by
        apply Classical.byContradiction
        intro q
        rw [if_neg q] at h22
        exact absurd h22 (by decide)
      exact K.2 _ (dShC_4 hn (by omega)) _ (((FrE.rf f).up (by omega)).up (by omega)) (up2_same _ _ _ _) (err_rng hT hp (by omega))
theorem c_clauseShow (hd : 6 ≤ d) (hs : Sh σ g) (hT : TxOk t) (h : SN f t p) (hln : f 219 14 = (c : Int)) (hc40 : c ≤ 40) (hr : RdZ (f 225) c pl rd) (k1 : ∀ p' pl' rd', dShC t c pl rd p = .inr (p', pl', rd') → ∀ f', FrE f f' → SN f' t p' → RdA (f' 225) 1 pl' rd' → f' 219 14 = (c : Int) + 1 → Q (some (zi 1)) σ f' g) (k2 : ∀ e, dShC t c pl rd p = .inl e → BK Q σ g f e) : ZCt d 138 [zr (some 219)] σ f g Q := by
  refine ZCt.of' (L0 := [_, _, _]) (by omega) rfl rfl rfl (fun d hd1 => ?_)
  have hp := h.1.le
  refine r_aload_n rfl rfl ?_
  refine r_callV0 rfl rfl (by first | assumption | exact hs.o rfl) rfl (c_see (by omega) hs hT h.1 ?_)
  refine r_popi rfl ?_
  refine r_aload_n rfl rfl ?_
  refine r_getI rfl (by first | assumption | exact hs.o rfl) (up2_same _ _ _ _) ?_
  refine r_istore_n (L' := [_, _, _]) rfl rfl rfl ?_
  refine r_aload_n rfl rfl ?_
  refine r_getI rfl (by first | assumption | exact hs.o rfl) h.now.2.2 ?_
  refine r_bipush rfl ?_
  refine r_icmp_n rfl (by decide) ?_
  refine r_iconst rfl ?_
  refine r_goto rfl ?_
  refine r_istore_n (L' := [_, _, _]) rfl rfl rfl ?_
  refine r_iload_n rfl rfl ?_
  refine r_if_n rfl (by decide) ?_
  refine r_aload_n rfl rfl ?_
  refine r_callV0 rfl rfl (by first | assumption | exact hs.o rfl) rfl (c_isShowWord (by omega) hs hT h.now.1 (fun v hv => ?_) (fun hv => ?_))
  · refine r_if_y rfl (by decide) ?_
    refine r_aload_n rfl rfl ?_
    rw [up2_up2]
    refine r_getI rfl (by first | assumption | exact hs.o rfl) ((up2_ne _ _ (by omega)).trans hln) ?_
    refine r_iload_n rfl rfl ?_
    refine r_if_n rfl (by decide) ?_
    refine r_bipush rfl ?_
    refine r_goto rfl ?_
    refine r_icmp_ne rfl (by omega) (by omega) (fun h71 => ?_) (fun h71 => ?_)
    · refine r_aload_n rfl rfl ?_
      refine r_dupr rfl ?_
      refine r_getI rfl (by first | assumption | exact hs.o rfl) ((up2_ne _ _ (by omega)).trans hln) ?_
      refine r_iconst rfl ?_
      refine r_iadd rfl ?_
      refine r_putI rfl (by first | assumption | exact hs.o rfl) ?_
      refine r_iload_n rfl rfl ?_
      refine r_if_n rfl (by decide) ?_
      refine r_aload_n rfl rfl ?_
      refine r_iload_n rfl rfl ?_
      refine r_callV1 rfl rfl (by first | assumption | exact hs.o rfl) rfl (c_showLine (c := c) (by omega) hs hT h.now.ln (by rw [up2_o _ _ (by omega), up2_o _ _ (by omega)]; exact hr) (by omega) (by omega) ⟨fun p2 pl2 rd2 n2 f2 hf2 h2 hr2 h142 => ?_, fun e2 n2 f2 hf2 h92 hr92 => ?_⟩)
      · refine r_goto rfl ?_
        refine r_zret rfl (by omega) ?_
        exact k1 _ _ _ n2 f2 ((((FrE.rf f).up (by omega)).up (by omega)).trans hf2) h2 hr2 (h142.trans (up2_same _ _ _ _))
      · refine r_goto rfl ?_
        refine r_zret rfl (by omega) ?_
        exact k2 _ n2 f2 ((((FrE.rf f).up (by omega)).up (by omega)).trans hf2) h92 hr92
    · refine r_aload_n rfl rfl ?_
      refine r_iconst rfl ?_
      refine r_iload_n rfl rfl ?_
      refine r_callV2 rfl rfl (by first | assumption | exact hs.o rfl) rfl (c_fails (p := p) (by omega) hs h.now.2.1 ?_)
      refine r_zret rfl (by omega) ?_
      exact k2 _ (dShC_4 (by omega) (Or.inl (by omega))) _ (((FrE.rf f).up (by omega)).up (by omega)) (up2_same _ _ _ _) (err_rng hT hp (by omega))
  · refine r_if_n rfl (by decide) ?_
    refine r_goto rfl ?_
    refine r_aload_n rfl rfl ?_
    refine r_iconst rfl ?_
    refine r_iload_n rfl rfl ?_
    rw [up2_up2]
    refine r_callV2 rfl rfl (by first | assumption | exact hs.o rfl) rfl (c_fails (p := p) (by omega) hs h.now.2.1 ?_)
    refine r_zret rfl (by omega) ?_
    exact k2 _ (dShC_0 hv) _ (((FrE.rf f).up (by omega)).up (by omega)) (up2_same _ _ _ _) (err_rng hT hp (by omega))
def dShRest (t : Tx) (k c : Nat) (pl : Pl) (rd : Rd) (p : Nat) : Int ⊕ (Pl × Rd) := if p < t.2 then (if isS t p 59 = true then dShow t k c pl rd (sk t (p + 1)) else .inl (err p 0)) else .inr (pl, rd)
theorem dShow_rest {k p1 : Nat} {pl1 : Pl} {rd1 : Rd} (h : dShC t c pl rd p = .inr (p1, pl1, rd1)) : dShow t (k + 1) c pl rd p = dShRest t k (c + 1) pl1 rd1 p1 := by
  show (match dShC t c pl rd p with | .inl e => _ | .inr (p1, pl1, rd1) => _) = _
  rw [h]
  rfl
theorem dShow_bad {k : Nat} {e : Int} (h : dShC t c pl rd p = .inl e) : dShow t (k + 1) c pl rd p = .inl e := by
  show (match dShC t c pl rd p with | .inl e => _ | .inr (p1, pl1, rd1) => _) = _
  rw [h]
def FrF (f f' : ZF) : Prop := (∀ c, c ≠ 219 → c ≠ 222 → c ≠ 225 → f' c = f c) ∧ ∀ i, i ≠ 1 → ¬ (8 ≤ i ∧ i ≤ 10) → i ≠ 12 → i ≠ 14 → f' 219 i = f 219 i
theorem FrF.rf (f : ZF) : FrF f f := ⟨fun _ _ _ _ => rfl, fun _ _ _ _ _ => rfl⟩
theorem FrF.trans {a b c : ZF} (h1 : FrF a b) (h2 : FrF b c) : FrF a c := ⟨fun k q1 q2 q3 => (h2.1 k q1 q2 q3).trans (h1.1 k q1 q2 q3), fun i q1 q2 q3 q4 => (h2.2 i q1 q2 q3 q4).trans (h1.2 i q1 q2 q3 q4)⟩
theorem FrE.toF {a b : ZF} (h : FrE a b) : FrF a b := ⟨fun k q1 _ q3 => h.1 k q1 q3, fun i _ q2 _ q4 => h.2 i (by omega) (by omega) (by omega) q4⟩
theorem FrF.up {i : Nat} {a b : ZF} {v : Int} (h : FrF a b) (hi : i = 1 ∨ (8 ≤ i ∧ i ≤ 10) ∨ i = 12 ∨ i = 14) : FrF a (up2 b 219 i v) := ⟨fun k q1 q2 q3 => (up2_o _ _ q1).trans (h.1 k q1 q2 q3), fun j q1 q2 q3 q4 => (up2_ne _ _ (by omega)).trans (h.2 j q1 q2 q3 q4)⟩
theorem l_rdsM (hd1 : 6 ≤ d) (hs : Sh σ g) (hT : TxOk t) (p k c : Nat) (pl : Pl) (rd : Rd) (f : ZF) (hk : 41 ≤ k + c) (hc40 : c ≤ 40) (hc0 : 0 < c) (h : SN f t p) (hln : f 219 14 = (c : Int)) (hr : RdA (f 225) 1 pl rd) (hok : PlOk pl ∧ StOk pl rd) (k1 : ∀ pl' rd', dShRest t k c pl rd p = .inr (pl', rd') → ∀ f', FrF f f' → f' 219 1 = 0 → f' 219 9 = 0 → RdA (f' 225) 1 pl' rd' → Q (some (zi 1)) σ f' g) (k2 : ∀ e, dShRest t k c pl rd p = .inl e → ∀ f', FrF f f' → f' 219 1 = 0 → f' 219 9 = e → (1 ≤ e ∧ e ≤ 4000) → Q (some (zi 0)) σ f' g) : ZWp d zt137 35 [zr (some 219), zi 1] [] σ f g Q := by
  have hT1 := hT.1
  have hp := h.1.le
  obtain ⟨k, rfl⟩ : ∃ u, k = u + 1 := ⟨k - 1, by omega⟩
  refine r_iload_n rfl rfl ?_
  refine r_if_n rfl (by decide) ?_
  refine r_aload_n rfl rfl ?_
  refine r_callV0 rfl rfl (by first | assumption | exact hs.o rfl) rfl (c_see (by omega) hs hT h.1 ?_)
  refine r_bipush rfl ?_
  refine r_icmp_ne rfl (by have := ch_rng hT p; omega) (by omega) (fun h45 => ?_) (fun h45 => ?_)
  · refine r_iload_n rfl rfl ?_
    refine r_if_n rfl (by decide) ?_
    refine r_aload_n rfl rfl ?_
    refine r_callV0 rfl rfl (by first | assumption | exact hs.o rfl) rfl (c_see (by omega) hs hT h.now.1 ?_)
    refine r_iconst rfl ?_
    rw [up2_up2]
    refine r_icmp_eq rfl (by have := ch_rng hT p; omega) (by omega) (fun h75 => ?_) (fun h75 => ?_)
    · refine r_aload_n rfl rfl ?_
      refine r_iconst rfl ?_
      refine r_putI rfl (by first | assumption | exact hs.o rfl) ?_
      refine r_aload_n rfl rfl ?_
      refine r_getI rfl (by first | assumption | exact hs.o rfl) ((up2_ne _ _ (by omega)).trans h.now.2.1) ?_
      refine r_if_ne rfl (by omega) (fun h97 => ?_) (fun h97 => ?_)
      · exact absurd rfl h97
      · refine r_iconst rfl ?_
        refine r_goto rfl ?_
        refine r_zret rfl (by omega) ?_
        have hend := (ch_end hT).1 h75
        exact k1 pl rd (by unfold dShRest; rw [if_neg hend]) _ (((FrF.rf f).up (by omega)).up (by omega)) (up2_same _ _ _ _) ((up2_ne _ _ (by omega)).trans h.now.2.1) (by rw [up2_o _ _ (by omega), up2_o _ _ (by omega)]; exact hr)
    · refine r_aload_n rfl rfl ?_
      refine r_iconst rfl ?_
      refine r_aload_n rfl rfl ?_
      refine r_getI rfl (by first | assumption | exact hs.o rfl) (up2_same _ _ _ _) ?_
      refine r_callV2 rfl rfl (by first | assumption | exact hs.o rfl) rfl (c_fails (p := p) (by omega) hs h.now.2.1 ?_)
      refine r_popi rfl ?_
      refine r_aload_n rfl rfl ?_
      refine r_iconst rfl ?_
      refine r_putI rfl (by first | assumption | exact hs.o rfl) ?_
      refine r_aload_n rfl rfl ?_
      refine r_getI rfl (by first | assumption | exact hs.o rfl) ((up2_ne _ _ (by omega)).trans (up2_same _ _ _ _)) ?_
      refine r_if_ne rfl (by have := err_rng hT hp (k := 0) (by omega); omega) (fun h97 => ?_) (fun h97 => ?_)
      · refine r_iconst rfl ?_
        refine r_zret rfl (by omega) ?_
        refine k2 _ ?_ _ ((((FrF.rf f).up (by omega)).up (by omega)).up (by omega)) (up2_same _ _ _ _) ((up2_ne _ _ (by omega)).trans (up2_same _ _ _ _)) (err_rng hT hp (by omega))
        unfold dShRest
        rw [if_pos (Classical.byContradiction (fun q => h75 ((ch_end hT).2 q))), if_neg (fun q => h45 ((ch_iff hT (by omega)).2 q))]
      · exfalso; have := err_rng hT hp (k := 0) (by omega); omega
  · refine r_aload_n rfl rfl ?_
    refine r_dupr rfl ?_
    refine r_getI rfl (by first | assumption | exact hs.o rfl) (up2_same _ _ _ _) ?_
    refine r_iconst rfl ?_
    refine r_iadd rfl ?_
    refine r_putI rfl (by first | assumption | exact hs.o rfl) ?_
    refine r_aload_n rfl rfl ?_
    have hS := (ch_iff hT (by omega)).1 h45
    have hlt := (isS_iff.1 hS).1
    rw [up2_up2, show ((p : Int) + 1) = ((p + 1 : Nat) : Int) by omega]
    refine r_callV0 rfl rfl (by first | assumption | exact hs.o rfl) rfl (c_clauseShow (c := c) (by omega) hs hT (h.at (by omega)) ((up2_ne _ _ (by omega)).trans hln) hc40 (by rw [up2_o _ _ (by omega)]; exact ⟨by rw [if_neg (by omega)]; exact hr, Or.inr ⟨hc0, hok⟩⟩) (fun p' pl' rd' eg f2 hf2 h2 hr2 h14 => ?_) (fun e2 he2 f2 hf2 h9 hr9 => ?_))
    · refine r_istore_n (L' := [_, _]) rfl rfl rfl ?_
      refine r_goto rfl ?_
      have eR : dShRest t (k + 1) c pl rd p = dShRest t k (c + 1) pl' rd' p' := by
        show (if p < t.2 then _ else _) = _
        rw [if_pos hlt, if_pos hS]
        exact dShow_rest eg
      have hc40 := dShC_lt eg
      rw [eR] at k1 k2
      exact l_rdsM hd1 hs hT p' k (c + 1) pl' rd' f2 (by omega) (by omega) (by omega) h2 (h14.trans (by omega)) hr2 (dShC_ok eg (sk_le (by omega)) (Or.inr ⟨hc0, hok⟩)) (fun q1 q2 q3 f3 q4 q5 q6 q7 => k1 q1 q2 q3 f3 ((((FrF.rf f).up (by omega)).trans hf2.toF).trans q4) q5 q6 q7) (fun e he f3 q4 q5 q6 q7 => k2 e he f3 ((((FrF.rf f).up (by omega)).trans hf2.toF).trans q4) q5 q6 q7)
    · refine r_istore_n (L' := [_, _]) rfl rfl rfl ?_
      refine r_goto rfl ?_
      refine l_rdaF hs h9 hr9 (k2 e2 ?_ _ ((((FrF.rf f).up (by omega)).trans hf2.toF).up (by omega)) (up2_same _ _ _ _) ((up2_ne _ _ (by omega)).trans h9) hr9)
      unfold dShRest
      rw [if_pos hlt, if_pos hS]
      exact dShow_bad he2
termination_by k
theorem c_readsShow (hd : 7 ≤ d) (hs : Sh σ g) (hT : TxOk t) (hm : MX f t) (htext : f 219 11 = 6) (hr : RdA (f 225) 0 pl0 rdI) (k1 : ∀ pl' rd', dShow t 41 0 pl0 rdI (sk t 0) = .inr (pl', rd') → ∀ f', FrF f f' → f' 219 1 = 0 → f' 219 9 = 0 → RdA (f' 225) 1 pl' rd' → Q (some (zi 1)) σ f' g) (k2 : ∀ e, dShow t 41 0 pl0 rdI (sk t 0) = .inl e → ∀ f', FrF f f' → f' 219 1 = 0 → f' 219 9 = e → (1 ≤ e ∧ e ≤ 4000) → Q (some (zi 0)) σ f' g) : ZCt d 137 [zr (some 219)] σ f g Q := by
  refine ZCt.of' (L0 := [_, _]) (by omega) rfl rfl rfl (fun d hd1 => ?_)
  refine r_aload_n rfl rfl ?_
  refine r_getR rfl (by first | assumption | exact hs.o rfl) (by first | assumption | exact hs.g rfl) ?_
  refine r_aload_n rfl rfl ?_
  refine r_getI rfl (by first | assumption | exact hs.o rfl) htext ?_
  refine r_iconst rfl ?_
  refine r_iastN (6) rfl (by first | assumption | exact hs.a rfl) (by omega) (by omega) (by omega) ?_
  refine r_aload_n rfl rfl ?_
  refine r_iconst rfl ?_
  refine r_putI rfl (by first | assumption | exact hs.o rfl) ?_
  refine r_aload_n rfl rfl ?_
  refine r_iconst rfl ?_
  refine r_putI rfl (by first | assumption | exact hs.o rfl) ?_
  refine r_aload_n rfl rfl ?_
  refine r_iconst rfl ?_
  refine r_putI rfl (by first | assumption | exact hs.o rfl) ?_
  refine r_aload_n rfl rfl ?_
  refine r_iconst rfl ?_
  refine r_putI rfl (by first | assumption | exact hs.o rfl) ?_
  refine r_aload_n rfl rfl ?_
  have hfz : FrF f (up2 (up2 (up2 (up2 (up2 f 222 6 0) 219 14 0) 219 8 0) 219 9 0) 219 12 0) := ((((((FrF.rf f).trans ⟨fun k q1 q2 q3 => up2_o _ _ q2, fun j _ _ _ _ => by rw [up2_o _ _ (by omega)]⟩).up (by omega)).up (by omega)).up (by omega)).up (by omega))
  have h0 : SN (up2 (up2 (up2 (up2 (up2 f 222 6 0) 219 14 0) 219 8 0) 219 9 0) 219 12 0) t (sk t 0) := by
    refine ⟨⟨⟨?_, fun i hi => ?_⟩, 0, ?_, by omega, rfl⟩, ?_, ?_⟩
    · simp [up2]; exact hm.1
    · rw [up2_o _ _ (by omega), up2_o _ _ (by omega), up2_o _ _ (by omega), up2_o _ _ (by omega), up2_o _ _ (by omega)]; exact hm.2 i hi
    · simp [up2]
    · simp [up2]
    · simp [up2]; exact htext
  refine r_callV0 rfl rfl (by first | assumption | exact hs.o rfl) rfl (c_clauseShow (c := 0) (pl := pl0) (rd := rdI) (by omega) hs hT h0 (by simp [up2]) (by omega) ⟨by rw [if_pos rfl, up2_o _ _ (by omega), up2_o _ _ (by omega), up2_o _ _ (by omega), up2_o _ _ (by omega), up2_o _ _ (by omega)]; exact hr, Or.inl ⟨rfl, rfl, rfl⟩⟩ (fun p' pl' rd' eg f2 hf2 h2 hr2 h14 => ?_) (fun e2 he2 f2 hf2 h9 hr9 => ?_))
  · refine r_istore_n (L' := [_, _]) rfl rfl rfl ?_
    have eR := dShow_rest (k := 40) eg
    rw [eR] at k1 k2
    exact l_rdsM (by omega) hs hT p' 40 1 pl' rd' f2 (by omega) (by omega) (by omega) h2 (h14.trans (by omega)) hr2 (dShC_ok eg (sk_le (by omega)) (Or.inl ⟨rfl, rfl, rfl⟩)) (fun q1 q2 q3 f3 q4 q5 q6 q7 => k1 q1 q2 q3 f3 ((hfz.trans hf2.toF).trans q4) q5 q6 q7) (fun e he f3 q4 q5 q6 q7 => k2 e he f3 ((hfz.trans hf2.toF).trans q4) q5 q6 q7)
  · refine r_istore_n (L' := [_, _]) rfl rfl rfl ?_
    refine l_rdaF hs h9 hr9 (k2 e2 (dShow_bad he2) _ ((hfz.trans hf2.toF).up (by omega)) (up2_same _ _ _ _) ((up2_ne _ _ (by omega)).trans h9) hr9)
end MSHOW2
