/-! Questions about the next steps: the class -/
section CASK
variable {d : Nat} {σ : ZS} {f f0 f' : ZF} {g g' : ZG} {Q : ZQ} {N : Int} {rd : Rd} {p : Nat} {pl : Pl} {rd0 : Rd} {al : Rd → Nat → Bool} {cl : Int} {a : AS}
theorem rr47 : RrOk 47 := by unfold RrOk; omega
theorem FrQ.c47 {f0 f f' : ZF} (h : FrQ f0 f) (h' : FrC 47 f f') : FrQ f0 f' := h.c h' (by omega)
theorem k_tryN (hd : 2 ≤ d) (hI : CI σ f g a) (hA : AOk N a)  (hp : a.w.pn = some (pl, rd0)) (K : ∀ f' g' p, FrQ f f' → FrG g g' → TR σ f' g' p pl (AL a a.fo pl) (-1) → RC f' 47 a.w.rd → Q (some (zr (some 47))) σ f' g') : ZCt d 87 [zr (some 0)] σ f g Q := by
  obtain ⟨p, gp, p240, po, hpc, hrc⟩ := hI.plS hp
  exact k_tryNow hd hI hA hp gp p240 po hpc (fun f' g' h1 h2 h3 h4 => K f' g' p h1 h2 h3 h4)
theorem l_stepOff (hd1 : 5 ≤ d) (hs : Sh σ g) (ht : TR σ f0 g p pl al cl) (hv : VS pl N cl rd) {n : Nat} (hN : N + 7 * (n : Int) ≤ 1000000) {c : Nat} (hc : c < 6) (k : Nat) (hk : k ≤ n) (f : ZF) (hf : FrC 47 f0 f) (h : RC f 47 (rIt pl al cl k rd)) (hon : rIt pl al cl k rd 0 c ≠ -1) (K : ∀ f', FrC 47 f0 f' → Q (some (zi (rFo pl al cl rd c (n - k) k : Int))) σ f' g) : ZWp d zt90 3 [zr (some 0), zr (some 47), zi (c : Int), zi (n : Int), zi ((k + 1 : Nat) : Int)] [] σ f g Q := by
  have hvN := hv.1.2.2.2.2.2.2
  obtain ⟨oo, ⟨a1, a2, a3, a4, a5⟩, g0, g1, g2, g3, g4⟩ := hs.r47
  refine r_iload rfl rfl ?_
  refine r_iload_n rfl rfl ?_
  refine r_icmp_gt rfl (by omega) (by omega) (fun hgt => ?_) (fun hgt => ?_)
  · have e : k = n := by omega
    subst e
    refine r_iconst rfl ?_
    refine r_iret rfl ?_
    have := K f hf
    rw [show k - k = 0 by omega] at this
    exact this
  · refine r_aload_n rfl rfl ?_
    refine r_getR rfl (by first | assumption | exact hs.o rfl) (by first | assumption | exact hs.g rfl) ?_
    refine r_aload_n rfl rfl ?_
    refine r_callV1 rfl rfl (by first | assumption | exact hs.o rfl) rfl (k_drv (by omega) (ht.fr rr47 hf) rr47 hs.r47 h (hv.it ht.2.2.1 k (by omega)) (by omega) (fun f1 hf1 ht1 hc1 hst1 => ?_))
    refine r_iload_n rfl rfl ?_
    refine r_ishr rfl ?_
    refine r_iconst rfl ?_
    refine r_iand rfl ?_
    refine r_iconst rfl ?_
    refine r_icmp_ne rfl (z_and_rng _ _) (by omega) (fun hb => ?_) (fun hb => ?_)
    · refine r_aload_n rfl rfl ?_
      refine r_getR rfl (by first | assumption | exact hs.o rfl) g2 ?_
      refine r_iload_n rfl rfl ?_
      have hcr := hc1.1 c hc
      have hok := (rStep_ok (al := al) (cl := cl) ht.2.2.1 rfl rfl (hv.it (al := al) ht.2.2.1 k (by omega)).1 (by omega)).2.2.1 c hc
      refine r_iald rfl (by first | assumption | exact hs.a rfl) (by omega) (by omega) ((zix (n := c) (by omega)).trans hcr.2.2.1) ?_
      refine r_if_ne rfl (by omega) (fun hz => ?_) (fun hz => ?_)
      · refine r_iinc (L' := [_, _, _, _, _]) rfl rfl rfl ?_
        refine r_goto rfl ?_
        have hst := rStep_stays (pl := pl) (al := al) (cl := cl) (hv.it (al := al) ht.2.2.1 k (by omega)).1 rfl hc hon hb
        exact l_stepOff hd1 hs ht hv hN hc (k + 1) (by omega) f1 (hf.trans hf1) hc1 hst (fun f2 h2 => by have := K f2 h2; rw [show n - k = (n - (k + 1)) + 1 by omega] at this; simp only [rFo] at this; rw [if_neg hb] at this; exact this)
      · refine r_goto rfl ?_
        have hst := rStep_stays (pl := pl) (al := al) (cl := cl) (hv.it (al := al) ht.2.2.1 k (by omega)).1 rfl hc hon hb
        have hz2 := rFo_z (pl := pl) (al := al) (cl := cl) (rd := rd) hc (n - (k + 1)) (k + 1) hst hz
        refine r_iconst rfl ?_
        refine r_iret rfl ?_
        have := K f1 (hf.trans hf1)
        rw [show n - k = (n - (k + 1)) + 1 by omega] at this
        simp only [rFo] at this
        rw [if_neg hb, hz2] at this
        exact this
    · refine r_iload rfl rfl ?_
      refine r_iret rfl ?_
      have := K f1 (hf.trans hf1)
      rw [show n - k = (n - (k + 1)) + 1 by omega] at this
      simp only [rFo] at this
      rw [if_pos hb] at this
      exact this
termination_by n - k
theorem k_stepOff (hd : 6 ≤ d) (hs : Sh σ g) (ht : TR σ f g p pl al cl) (hv : VS pl N cl rd) {n : Nat} (hN : N + 7 * (n : Int) ≤ 1000000) {c : Nat} (hc : c < 6) (h : RC f 47 rd) (hon : rd 0 c ≠ -1) (hn200 : n ≤ 200) (K : ∀ f', FrC 47 f f' → Q (some (zi (rFo pl al cl rd c n 0 : Int))) σ f' g) : ZCt d 90 [zr (some 0), zr (some 47), zi (c : Int), zi (n : Int)] σ f g Q := by
  refine ZCt.of' (L0 := [_, _, _, _, _]) (by omega) rfl rfl rfl (fun d hd1 => ?_)
  refine r_iconst rfl ?_
  refine r_istore (L' := [_, _, _, _, _]) rfl rfl rfl ?_
  exact l_stepOff (by omega) hs ht hv hN hc 0 (by omega) f (FrC.rf 47 f) h hon K
theorem k_ahead (hd : 7 ≤ d) (hI : CI σ f g a) (hA : AOk N a)  {c n w : Int} (hc : IR c) (hni : IR n) (hwi : IR w) (K : ∀ f' g', FrQ f f' → FrG g g' → Q (some (zi (qAhead a c n w))) σ f' g') : ZCt d 86 [zr (some 0), zi c, zi n, zi w] σ f g Q := by
  refine ZCt.of' (L0 := [_, _, _, _, _]) (by omega) rfl rfl rfl (fun d hd1 => ?_)
  have hs := hI.sh
  cases hp : a.w.pn with
  | none =>
    rw [qAhead_no (fun pl rd0 q => by rw [hp] at q; cases q)] at K
    refine r_aload_n rfl rfl ?_
    refine r_getR rfl (by first | assumption | exact hs.o rfl) (hI.pln hp) ?_
    refine r_ifnullN rfl ?_
    refine r_bipush rfl ?_
    refine r_iret rfl ?_
    exact K f g (FrQ.rf f) (FrG.rf g)
  | some q =>
    obtain ⟨pl, rd0⟩ := q
    obtain ⟨p0, gp, p240, po, hpc, hrc⟩ := hI.plS hp
    obtain ⟨hplo, hvr, hst⟩ := hA.plS hp
    have hN := hA.2.2.2.2.2.2.2
    have hvs := hvr.vs
    refine r_aload_n rfl rfl ?_
    refine r_getR rfl (by first | assumption | exact hs.o rfl) gp ?_
    refine r_ifnullS rfl ?_
    refine r_iload_n rfl rfl ?_
    refine r_iconst rfl ?_
    refine r_bipush rfl ?_
    refine r_callS3 rfl rfl rfl (k_within (by omega) hni (by omega) (by omega) (fun hn => ?_) (fun hn => ?_))
    · refine r_if_n rfl (by decide) ?_
      refine r_iload_n rfl rfl ?_
      refine r_iconst rfl ?_
      refine r_iconst rfl ?_
      refine r_callS3 rfl rfl rfl (k_within (by omega) hwi (by omega) (by omega) (fun hw => ?_) (fun hw => ?_))
      · refine r_if_y rfl (by decide) ?_
        refine r_iload_n rfl rfl ?_
        refine r_iconst rfl ?_
        refine r_icmp_eq rfl (by omega) (by omega) (fun hw2 => ?_) (fun hw2 => ?_)
        · refine r_aload_n rfl rfl ?_
          refine r_callV0 rfl rfl (by first | assumption | exact hs.o rfl) rfl (k_tryN (by omega) hI hA hp (fun f1 g1 p hf1 hg1 ht1 hc1 => ?_))
          have hs1 := hs.frg hg1
          obtain ⟨oo, ⟨a1, a2, a3, a4, a5⟩, gg0, gg1, gg2, gg3, gg4⟩ := hs1.r47
          obtain ⟨nn, rfl⟩ := Int.eq_ofNat_of_zero_le hn.1
          refine r_astore (L' := [_, _, _, _, _]) rfl rfl rfl ?_
          refine r_aload_n rfl rfl ?_
          refine r_aload rfl rfl ?_
          refine r_iload_n rfl rfl ?_
          refine r_callV2 rfl rfl (by first | assumption | exact hs.o rfl) rfl (k_goneIn (n := nn) (by omega) hs1 ht1 hvs (by omega) hc1 (fun f2 hf2 ht2 hc2 => ?_))
          refine r_popi rfl ?_
          refine r_iload_n rfl rfl ?_
          refine r_iconst rfl ?_
          refine r_icmp_ne rfl (by omega) (by omega) (fun hw22 => ?_) (fun hw22 => ?_)
          · refine r_iload_n rfl rfl ?_
            refine r_if_ne rfl (by omega) (fun hw0 => ?_) (fun hw0 => ?_)
            · refine r_aload rfl rfl ?_
              refine r_getR rfl (by first | assumption | exact hs.o rfl) gg2 ?_
              refine r_iload_n rfl rfl ?_
              refine r_iald rfl (by first | assumption | exact hs.a rfl) (by omega) (by omega) (hc2.1 c.toNat (by omega)).2.2.1 ?_
              refine r_iret rfl ?_
              first
              | (exfalso; omega)
              | (rw [qAhead_no (fun pl rd0 q => by omega)] at K; exact K f g (FrQ.rf f) (FrG.rf g))
              | (rw [qAhead_yes hp (by omega), if_pos (by omega), Int.toNat_natCast] at K; exact K f2 g1 (hf1.c47 hf2) hg1)
              | (rw [qAhead_yes hp (by omega), if_neg (by omega), if_pos (by omega), Int.toNat_natCast] at K; exact K f2 g1 (hf1.c47 hf2) hg1)
              | (rw [qAhead_yes hp (by omega), if_neg (by omega), if_neg (by omega), Int.toNat_natCast] at K; exact K f2 g1 (hf1.c47 hf2) hg1)
            · refine r_aload rfl rfl ?_
              refine r_getR rfl (by first | assumption | exact hs.o rfl) gg0 ?_
              refine r_iload_n rfl rfl ?_
              refine r_iald rfl (by first | assumption | exact hs.a rfl) (by omega) (by omega) (hc2.1 c.toNat (by omega)).1 ?_
              refine r_goto rfl ?_
              refine r_iret rfl ?_
              first
              | (exfalso; omega)
              | (rw [qAhead_no (fun pl rd0 q => by omega)] at K; exact K f g (FrQ.rf f) (FrG.rf g))
              | (rw [qAhead_yes hp (by omega), if_pos (by omega), Int.toNat_natCast] at K; exact K f2 g1 (hf1.c47 hf2) hg1)
              | (rw [qAhead_yes hp (by omega), if_neg (by omega), if_pos (by omega), Int.toNat_natCast] at K; exact K f2 g1 (hf1.c47 hf2) hg1)
              | (rw [qAhead_yes hp (by omega), if_neg (by omega), if_neg (by omega), Int.toNat_natCast] at K; exact K f2 g1 (hf1.c47 hf2) hg1)
          · refine r_aload rfl rfl ?_
            refine r_getI rfl (by first | assumption | exact hs.o rfl) hc2.2.2.2.1 ?_
            refine r_iret rfl ?_
            first
            | (exfalso; omega)
            | (rw [qAhead_no (fun pl rd0 q => by omega)] at K; exact K f g (FrQ.rf f) (FrG.rf g))
            | (rw [qAhead_yes hp (by omega), if_pos (by omega), Int.toNat_natCast] at K; exact K f2 g1 (hf1.c47 hf2) hg1)
            | (rw [qAhead_yes hp (by omega), if_neg (by omega), if_pos (by omega), Int.toNat_natCast] at K; exact K f2 g1 (hf1.c47 hf2) hg1)
            | (rw [qAhead_yes hp (by omega), if_neg (by omega), if_neg (by omega), Int.toNat_natCast] at K; exact K f2 g1 (hf1.c47 hf2) hg1)
        · refine r_iload_n rfl rfl ?_
          refine r_callS1 rfl rfl rfl (k_isCar (by omega) hc (fun hcar => ?_) (fun hcar => ?_))
          · refine r_if_y rfl (by decide) ?_
            refine r_aload_n rfl rfl ?_
            refine r_callV0 rfl rfl (by first | assumption | exact hs.o rfl) rfl (k_tryN (by omega) hI hA hp (fun f1 g1 p hf1 hg1 ht1 hc1 => ?_))
            have hs1 := hs.frg hg1
            obtain ⟨oo, ⟨a1, a2, a3, a4, a5⟩, gg0, gg1, gg2, gg3, gg4⟩ := hs1.r47
            obtain ⟨nn, rfl⟩ := Int.eq_ofNat_of_zero_le hn.1
            refine r_astore (L' := [_, _, _, _, _]) rfl rfl rfl ?_
            refine r_aload_n rfl rfl ?_
            refine r_aload rfl rfl ?_
            refine r_iload_n rfl rfl ?_
            refine r_callV2 rfl rfl (by first | assumption | exact hs.o rfl) rfl (k_goneIn (n := nn) (by omega) hs1 ht1 hvs (by omega) hc1 (fun f2 hf2 ht2 hc2 => ?_))
            refine r_popi rfl ?_
            refine r_iload_n rfl rfl ?_
            refine r_iconst rfl ?_
            refine r_icmp_ne rfl (by omega) (by omega) (fun hw22 => ?_) (fun hw22 => ?_)
            · refine r_iload_n rfl rfl ?_
              refine r_if_ne rfl (by omega) (fun hw0 => ?_) (fun hw0 => ?_)
              · refine r_aload rfl rfl ?_
                refine r_getR rfl (by first | assumption | exact hs.o rfl) gg2 ?_
                refine r_iload_n rfl rfl ?_
                refine r_iald rfl (by first | assumption | exact hs.a rfl) (by omega) (by omega) (hc2.1 c.toNat (by omega)).2.2.1 ?_
                refine r_iret rfl ?_
                first
                | (exfalso; omega)
                | (rw [qAhead_no (fun pl rd0 q => by omega)] at K; exact K f g (FrQ.rf f) (FrG.rf g))
                | (rw [qAhead_yes hp (by omega), if_pos (by omega), Int.toNat_natCast] at K; exact K f2 g1 (hf1.c47 hf2) hg1)
                | (rw [qAhead_yes hp (by omega), if_neg (by omega), if_pos (by omega), Int.toNat_natCast] at K; exact K f2 g1 (hf1.c47 hf2) hg1)
                | (rw [qAhead_yes hp (by omega), if_neg (by omega), if_neg (by omega), Int.toNat_natCast] at K; exact K f2 g1 (hf1.c47 hf2) hg1)
              · refine r_aload rfl rfl ?_
                refine r_getR rfl (by first | assumption | exact hs.o rfl) gg0 ?_
                refine r_iload_n rfl rfl ?_
                refine r_iald rfl (by first | assumption | exact hs.a rfl) (by omega) (by omega) (hc2.1 c.toNat (by omega)).1 ?_
                refine r_goto rfl ?_
                refine r_iret rfl ?_
                first
                | (exfalso; omega)
                | (rw [qAhead_no (fun pl rd0 q => by omega)] at K; exact K f g (FrQ.rf f) (FrG.rf g))
                | (rw [qAhead_yes hp (by omega), if_pos (by omega), Int.toNat_natCast] at K; exact K f2 g1 (hf1.c47 hf2) hg1)
                | (rw [qAhead_yes hp (by omega), if_neg (by omega), if_pos (by omega), Int.toNat_natCast] at K; exact K f2 g1 (hf1.c47 hf2) hg1)
                | (rw [qAhead_yes hp (by omega), if_neg (by omega), if_neg (by omega), Int.toNat_natCast] at K; exact K f2 g1 (hf1.c47 hf2) hg1)
            · refine r_aload rfl rfl ?_
              refine r_getI rfl (by first | assumption | exact hs.o rfl) hc2.2.2.2.1 ?_
              refine r_iret rfl ?_
              first
              | (exfalso; omega)
              | (rw [qAhead_no (fun pl rd0 q => by omega)] at K; exact K f g (FrQ.rf f) (FrG.rf g))
              | (rw [qAhead_yes hp (by omega), if_pos (by omega), Int.toNat_natCast] at K; exact K f2 g1 (hf1.c47 hf2) hg1)
              | (rw [qAhead_yes hp (by omega), if_neg (by omega), if_pos (by omega), Int.toNat_natCast] at K; exact K f2 g1 (hf1.c47 hf2) hg1)
              | (rw [qAhead_yes hp (by omega), if_neg (by omega), if_neg (by omega), Int.toNat_natCast] at K; exact K f2 g1 (hf1.c47 hf2) hg1)
          · refine r_if_n rfl (by decide) ?_
            refine r_bipush rfl ?_
            refine r_iret rfl ?_
            first
            | (exfalso; omega)
            | (rw [qAhead_no (fun pl rd0 q => by omega)] at K; exact K f g (FrQ.rf f) (FrG.rf g))
            | (rw [qAhead_yes hp (by omega), if_pos (by omega), Int.toNat_natCast] at K; exact K f2 g1 (hf1.c47 hf2) hg1)
            | (rw [qAhead_yes hp (by omega), if_neg (by omega), if_pos (by omega), Int.toNat_natCast] at K; exact K f2 g1 (hf1.c47 hf2) hg1)
            | (rw [qAhead_yes hp (by omega), if_neg (by omega), if_neg (by omega), Int.toNat_natCast] at K; exact K f2 g1 (hf1.c47 hf2) hg1)
      · refine r_if_n rfl (by decide) ?_
        refine r_bipush rfl ?_
        refine r_iret rfl ?_
        first
        | (exfalso; omega)
        | (rw [qAhead_no (fun pl rd0 q => by omega)] at K; exact K f g (FrQ.rf f) (FrG.rf g))
        | (rw [qAhead_yes hp (by omega), if_pos (by omega), Int.toNat_natCast] at K; exact K f2 g1 (hf1.c47 hf2) hg1)
        | (rw [qAhead_yes hp (by omega), if_neg (by omega), if_pos (by omega), Int.toNat_natCast] at K; exact K f2 g1 (hf1.c47 hf2) hg1)
        | (rw [qAhead_yes hp (by omega), if_neg (by omega), if_neg (by omega), Int.toNat_natCast] at K; exact K f2 g1 (hf1.c47 hf2) hg1)
    · refine r_if_y rfl (by decide) ?_
      refine r_bipush rfl ?_
      refine r_iret rfl ?_
      first
      | (exfalso; omega)
      | (rw [qAhead_no (fun pl rd0 q => by omega)] at K; exact K f g (FrQ.rf f) (FrG.rf g))
      | (rw [qAhead_yes hp (by omega), if_pos (by omega), Int.toNat_natCast] at K; exact K f2 g1 (hf1.c47 hf2) hg1)
      | (rw [qAhead_yes hp (by omega), if_neg (by omega), if_pos (by omega), Int.toNat_natCast] at K; exact K f2 g1 (hf1.c47 hf2) hg1)
      | (rw [qAhead_yes hp (by omega), if_neg (by omega), if_neg (by omega), Int.toNat_natCast] at K; exact K f2 g1 (hf1.c47 hf2) hg1)
theorem k_lets (hd : 7 ≤ d) (hI : CI σ f g a) (hA : AOk N a) {c : Int} (hc : IR c) (K : ∀ f' g', FrQ f f' → FrG g g' → Q (some (zi (qLets a c))) σ f' g') : ZCt d 89 [zr (some 0), zi c] σ f g Q := by
  refine ZCt.of' (L0 := [_, _, _]) (by omega) rfl rfl rfl (fun d hd1 => ?_)
  have hs := hI.sh
  refine r_aload_n rfl rfl ?_
  refine r_iload_n rfl rfl ?_
  refine r_callV1 rfl rfl (by first | assumption | exact hs.o rfl) rfl (k_isOn (by omega) hI hA hc (fun k hxk hk6 hk0 => ?_) (fun hoff => ?_))
  · refine r_if_y rfl (by decide) ?_
    refine r_aload_n rfl rfl ?_
    refine r_aload_n rfl rfl ?_
    subst hxk
    obtain ⟨pl, rd0, hp⟩ := hA.onPl hk6 (by omega)
    obtain ⟨hplo, hvr, hst⟩ := hA.plS hp
    have hN := hA.2.2.2.2.2.2.2
    have hvs := hvr.vs
    refine r_callV0 rfl rfl (by first | assumption | exact hs.o rfl) rfl (k_tryN (by omega) hI hA hp (fun f1 g1 p hf1 hg1 ht1 hc1 => ?_))
    have hs1 := hs.frg hg1
    obtain ⟨oo, ⟨a1, a2, a3, a4, a5⟩, gg0, gg1, gg2, gg3, gg4⟩ := hs1.r47
    refine r_iload_n rfl rfl ?_
    refine r_sipush rfl ?_
    refine r_callV3 rfl rfl (by first | assumption | exact hs.o rfl) rfl (k_stepOff (n := 200) (by omega) hs1 ht1 hvs (by omega) hk6 hc1 (by omega) (by omega) (fun f2 hf2 => ?_))
    have hle := rFo_le (pl := pl) (al := AL a a.fo pl) (cl := -1) (rd := a.w.rd) (c := k) 200 0
    rw [qLets_yes hp hk6 hk0] at K
    have ho5 := hvr.1.2.2.2.2.2.1
    refine r_istore_n (L' := [_, _, _]) rfl rfl rfl ?_
    refine r_iload_n rfl rfl ?_
    refine r_if_ne rfl (by omega) (fun hz => ?_) (fun hz => ?_)
    · refine r_aload_n rfl rfl ?_
      refine r_getR rfl (by first | assumption | exact hs.o rfl) (hs1.g rfl) ?_
      refine r_getI rfl hs1.r3.1 ((congrFun ((hf1.c47 hf2) 3 (by omega)) _).trans hI.w.2.1.2.2.1) ?_
      refine r_iload_n rfl rfl ?_
      refine r_iadd rfl ?_
      refine r_iconst rfl ?_
      refine r_isub rfl ?_
      refine r_iret rfl ?_
      first
      | (rw [qLets_no hoff] at K; exact K f g (FrQ.rf f) (FrG.rf g))
      | (rw [if_pos (by omega)] at K; exact K f2 g1 (hf1.c47 hf2) hg1)
      | (rw [if_neg (by omega)] at K; exact K f2 g1 (hf1.c47 hf2) hg1)
    · refine r_bipush rfl ?_
      refine r_goto rfl ?_
      refine r_iret rfl ?_
      first
      | (rw [qLets_no hoff] at K; exact K f g (FrQ.rf f) (FrG.rf g))
      | (rw [if_pos (by omega)] at K; exact K f2 g1 (hf1.c47 hf2) hg1)
      | (rw [if_neg (by omega)] at K; exact K f2 g1 (hf1.c47 hf2) hg1)
  · refine r_if_n rfl (by decide) ?_
    refine r_iconst rfl ?_
    refine r_iret rfl ?_
    first
    | (rw [qLets_no hoff] at K; exact K f g (FrQ.rf f) (FrG.rf g))
    | (rw [if_pos (by omega)] at K; exact K f2 g1 (hf1.c47 hf2) hg1)
    | (rw [if_neg (by omega)] at K; exact K f2 g1 (hf1.c47 hf2) hg1)
theorem l_stillC (hd1 : 5 ≤ d) (hs : Sh σ g) (ht : TR σ f0 g p pl al cl) (hv : VS pl N cl rd) (hN : N + 7 * 200 ≤ 1000000) {s3 : Nat → Int} (h50 : s3 7 = rd 5 0) (hff : ∀ f', FrC 47 f0 f' → f' 3 = s3) (k : Nat) (hk : k ≤ 200) (f : ZF) (hf : FrC 47 f0 f) (h : RC f 47 (rIt pl al cl k rd)) (K : ∀ f', FrC 47 f0 f' → Q (some (zi (rStl pl al cl rd (200 - k) k))) σ f' g) : ZWp d zt91 16 [zr (some 0), zr (some 47), zi (k : Int)] [] σ f g Q := by
  have hvN := hv.1.2.2.2.2.2.2
  obtain ⟨oo, ⟨a1, a2, a3, a4, a5⟩, g0, g1, g2, g3, g4⟩ := hs.r47
  refine r_iload_n rfl rfl ?_
  refine r_sipush rfl ?_
  refine r_icmp_ge rfl (by omega) (by omega) (fun hlt => ?_) (fun hlt => ?_)
  · have e : k = 200 := by omega
    subst e
    refine r_bipush rfl ?_
    refine r_iret rfl ?_
    exact K f hf
  · refine r_aload_n rfl rfl ?_
    refine r_getR rfl (by first | assumption | exact hs.o rfl) (by first | assumption | exact hs.g rfl) ?_
    refine r_aload_n rfl rfl ?_
    refine r_callV1 rfl rfl (by first | assumption | exact hs.o rfl) rfl (k_drv (by omega) (ht.fr rr47 hf) rr47 hs.r47 h (hv.it ht.2.2.1 k (by omega)) (by omega) (fun f1 hf1 ht1 hc1 hst1 => ?_))
    refine r_popi rfl ?_
    refine r_aload_n rfl rfl ?_
    refine r_getR rfl (by first | assumption | exact hs.o rfl) (by first | assumption | exact hs.g rfl) ?_
    refine r_getZ rfl (by first | assumption | exact hs.o rfl) hst1 ?_
    refine r_if_ne rfl (by split <;> omega) (fun hst => ?_) (fun hst => ?_)
    · refine r_iinc (L' := [_, _, _]) rfl rfl rfl ?_
      refine r_goto rfl ?_
      have hst2 : (rStep pl al cl (rIt pl al cl k rd)).2.2 = true := by
        apply Classical.byContradiction
        intro q
        rw [if_neg q] at hst
        exact hst rfl
      exact l_stillC hd1 hs ht hv hN h50 hff (k + 1) (by omega) f1 (hf.trans hf1) hc1 (fun f2 h2 => by have := K f2 h2; rw [show 200 - k = (200 - (k + 1)) + 1 by omega] at this; simp only [rStl] at this; rw [if_pos hst2] at this; exact this)
    · refine r_aload_n rfl rfl ?_
      refine r_getR rfl (by first | assumption | exact hs.o rfl) (by first | assumption | exact hs.g rfl) ?_
      refine r_getI rfl hs.r3.1 ((congrFun (hff f1 (hf.trans hf1)) _).trans h50) ?_
      refine r_iload_n rfl rfl ?_
      refine r_iadd rfl ?_
      refine r_iret rfl ?_
      have hst2 : ¬ (rStep pl al cl (rIt pl al cl k rd)).2.2 = true := by
        intro q
        rw [if_pos q] at hst
        omega
      have := K f1 (hf.trans hf1)
      rw [show 200 - k = (200 - (k + 1)) + 1 by omega] at this
      simp only [rStl] at this
      rw [if_neg hst2] at this
      exact this
termination_by 200 - k
theorem k_still (hd : 6 ≤ d) (hI : CI σ f g a) (hA : AOk N a)  (K : ∀ f' g', FrQ f f' → FrG g g' → Q (some (zi (qStill a))) σ f' g') : ZCt d 91 [zr (some 0)] σ f g Q := by
  refine ZCt.of' (L0 := [_, _, _]) (by omega) rfl rfl rfl (fun d hd1 => ?_)
  have hs := hI.sh
  cases hp : a.w.pn with
  | none =>
    rw [show qStill a = -1 by unfold qStill; rw [hp]] at K
    refine r_aload_n rfl rfl ?_
    refine r_getR rfl (by first | assumption | exact hs.o rfl) (hI.pln hp) ?_
    refine r_ifnonnullN rfl ?_
    refine r_iconst rfl ?_
    refine r_iret rfl ?_
    exact K f g (FrQ.rf f) (FrG.rf g)
  | some q =>
    obtain ⟨pl, rd0⟩ := q
    obtain ⟨p0, gp, p240, po, hpc, hrc⟩ := hI.plS hp
    obtain ⟨hplo, hvr, hst⟩ := hA.plS hp
    have hN := hA.2.2.2.2.2.2.2
    have hvs := hvr.vs
    rw [show qStill a = rStl pl (AL a a.fo pl) (-1) a.w.rd 200 0 by unfold qStill; rw [hp]] at K
    refine r_aload_n rfl rfl ?_
    refine r_getR rfl (by first | assumption | exact hs.o rfl) gp ?_
    refine r_ifnonnullS rfl ?_
    refine r_aload_n rfl rfl ?_
    refine r_callV0 rfl rfl (by first | assumption | exact hs.o rfl) rfl (k_tryN (by omega) hI hA hp (fun f1 g1 p hf1 hg1 ht1 hc1 => ?_))
    have hs1 := hs.frg hg1
    obtain ⟨oo, ⟨a1, a2, a3, a4, a5⟩, gg0, gg1, gg2, gg3, gg4⟩ := hs1.r47
    refine r_astore_n (L' := [_, _, _]) rfl rfl rfl ?_
    refine r_iconst rfl ?_
    refine r_istore_n (L' := [_, _, _]) rfl rfl rfl ?_
    exact l_stillC (by omega) hs1 ht1 hvs (by omega) hI.w.2.1.2.2.1 (fun f2 h2 => (hf1.c47 h2) 3 (by omega)) 0 (by omega) f1 (FrC.rf 47 f1) hc1 (fun f2 h2 => K f2 g1 (hf1.c47 h2) hg1)
theorem l_leastC (hd1 : 6 ≤ d) {f00 : ZF} {g00 : ZG} (hI : CI σ f00 g00 a) (hA : AOk N a) (hp : a.w.pn = some (pl, rd0)) (hvs : VS pl N (-1) a.w.rd) {n : Nat} (hn : 1 ≤ n ∧ n ≤ 100) (hN : N + 7 * (n : Int) ≤ 1000000) {c : Nat} (hc : c < 6) (hon : 0 ≤ a.w.rd 0 c) (k : Nat) (hk : k ≤ 61) (f : ZF) (g : ZG) (x : ZV) (hf : FrQ f00 f) (hg : FrG g00 g) (K : ∀ f' g', FrQ f00 f' → FrG g00 g' → Q (some (zi (rLf pl (AL a a.fo pl) a.w.rd c n (61 - k) k))) σ f' g') : ZWp d zt92 22 [zr (some 0), zi (c : Int), zi (n : Int), zi (k : Int), x] [] σ f g Q := by
  have hs := hI.sh
  have hsg := hs.frg hg
  refine r_iload_n rfl rfl ?_
  refine r_bipush rfl ?_
  refine r_icmp_gt rfl (by omega) (by omega) (fun hgt => ?_) (fun hgt => ?_)
  · have e : k = 61 := by omega
    subst e
    refine r_bipush rfl ?_
    refine r_iret rfl ?_
    exact K f g hf hg
  · refine r_aload_n rfl rfl ?_
    refine r_callV0 rfl rfl (by first | assumption | exact hs.o rfl) rfl (k_tryN (by omega) (hI.fr hf hg) hA hp (fun f1 g1 p hf1 hg1 ht1 hc1 => ?_))
    have hs1 := hs.frg (hg.trans hg1)
    obtain ⟨oo, ⟨a1, a2, a3, a4, a5⟩, gg0, gg1, gg2, gg3, gg4⟩ := hs1.r47
    refine r_astore (L' := [_, _, _, _, _]) rfl rfl rfl ?_
    refine r_aload rfl rfl ?_
    refine r_getR rfl (by first | assumption | exact hs.o rfl) gg2 ?_
    refine r_iload_n rfl rfl ?_
    refine r_iload_n rfl rfl ?_
    refine r_iastN (c) rfl (by first | assumption | exact hs.a rfl) (by omega) (by omega) (by omega) ?_
    refine r_aload_n rfl rfl ?_
    refine r_aload rfl rfl ?_
    refine r_iload_n rfl rfl ?_
    refine r_iload_n rfl rfl ?_
    refine r_callV3 rfl rfl (by first | assumption | exact hs.o rfl) rfl (k_stepOff (rd := up2 a.w.rd 2 c (k : Int)) (n := n) (by omega) hs1 (ht1.fr rr47 ((FrC.rf 47 f1).up rr47 (by omega))) (hvs.fuel hc hon (by omega)) hN hc (hc1.fuel hc) (by simp [up2]; omega) (by omega) (fun f2 hf2 => ?_))
    have hle := rFo_le (pl := pl) (al := AL a a.fo pl) (cl := -1) (rd := up2 a.w.rd 2 c (k : Int)) (c := c) n 0
    have hfin : FrQ f00 f2 := (hf.trans hf1).c47 (((FrC.rf 47 f1).up (i := c) (v := (k : Int)) rr47 (show 47 ≤ 47 + 3 ∧ 47 + 3 ≤ 47 + 5 by omega)).trans hf2)
    refine r_if_eq rfl (by omega) (fun hz => ?_) (fun hz => ?_)
    · refine r_iinc (L' := [_, _, _, _, _]) rfl rfl rfl ?_
      refine r_goto rfl ?_
      exact l_leastC hd1 hI hA hp hvs hn hN hc hon (k + 1) (by omega) f2 g1 _ hfin (hg.trans hg1) (fun f3 g3 h3 h4 => by have := K f3 g3 h3 h4; rw [show 61 - k = (61 - (k + 1)) + 1 by omega] at this; simp only [rLf] at this; rw [if_pos (by omega)] at this; exact this)
    · refine r_iload_n rfl rfl ?_
      refine r_iret rfl ?_
      have := K f2 g1 hfin (hg.trans hg1)
      rw [show 61 - k = (61 - (k + 1)) + 1 by omega] at this
      simp only [rLf] at this
      rw [if_neg (by omega)] at this
      exact this
termination_by 61 - k
theorem k_leastFuel (hd : 7 ≤ d) (hI : CI σ f g a) (hA : AOk N a) {c n : Int} (hc : IR c) (hni : IR n) (K : ∀ f' g', FrQ f f' → FrG g g' → Q (some (zi (qLeast a c n))) σ f' g') : ZCt d 92 [zr (some 0), zi c, zi n] σ f g Q := by
  refine ZCt.of' (L0 := [_, _, _, _, _]) (by omega) rfl rfl rfl (fun d hd1 => ?_)
  have hs := hI.sh
  refine r_aload_n rfl rfl ?_
  refine r_iload_n rfl rfl ?_
  refine r_callV1 rfl rfl (by first | assumption | exact hs.o rfl) rfl (k_isOn (by omega) hI hA hc (fun k hxk hk6 hk0 => ?_) (fun hoff => ?_))
  · refine r_if_n rfl (by decide) ?_
    refine r_iload_n rfl rfl ?_
    refine r_iconst rfl ?_
    refine r_bipush rfl ?_
    refine r_callS3 rfl rfl rfl (k_within (by omega) hni (by omega) (by omega) (fun hn => ?_) (fun hn => ?_))
    · refine r_if_y rfl (by decide) ?_
      refine r_iconst rfl ?_
      refine r_istore_n (L' := [_, _, _, _, _]) rfl rfl rfl ?_
      subst hxk
      obtain ⟨pl, rd0, hp⟩ := hA.onPl hk6 (by omega)
      obtain ⟨hplo, hvr, hst⟩ := hA.plS hp
      have hN := hA.2.2.2.2.2.2.2
      have hvs := hvr.vs
      obtain ⟨nn, rfl⟩ := Int.eq_ofNat_of_zero_le (show 0 ≤ n by omega)
      rw [qLeast_yes hp hk6 hk0 (by omega)] at K
      exact l_leastC (by omega) hI hA hp hvs (by omega) (by omega) hk6 hk0 0 (by omega) f g _ (FrQ.rf f) (FrG.rf g) K
    · refine r_if_n rfl (by decide) ?_
      refine r_iconst rfl ?_
      refine r_iret rfl ?_
      first | (rw [qLeast_no (Or.inl hoff)] at K; exact K f g (FrQ.rf f) (FrG.rf g)) | (rw [qLeast_no (Or.inr hn)] at K; exact K f g (FrQ.rf f) (FrG.rf g))
  · refine r_if_y rfl (by decide) ?_
    refine r_iconst rfl ?_
    refine r_iret rfl ?_
    first | (rw [qLeast_no (Or.inl hoff)] at K; exact K f g (FrQ.rf f) (FrG.rf g)) | (rw [qLeast_no (Or.inr hn)] at K; exact K f g (FrQ.rf f) (FrG.rf g))
end CASK
