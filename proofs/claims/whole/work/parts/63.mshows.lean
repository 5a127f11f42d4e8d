/-! Shows: the reference -/
section MSHOWS
variable {d : Nat} {σ : ZS} {f f0 f' : ZF} {g : ZG} {Q : ZQ} {N : Int} {rd rd' : Rd} {pl : Pl} {rd0 : Rd} {al : Rd → Nat → Bool} {cl : Int} {a : AS} {x : Int}
theorem TM.dx {v : Int} (h : TM σ f g pl al cl) : TM σ (up2 f 219 35 v) g pl al cl := h.fr2 (fun c q1 q2 => up2_o _ _ q1) (fun i _ => by rw [up2_o _ _ (by omega)]) (fun i _ => up2_ne _ _ (by omega)) h.2.2.2.1 (by rw [up2_ne _ _ (by omega)]; exact h.2.2.1)
theorem up2_id {rd : Rd} {i j : Nat} {v : Int} (h : rd i j = v) : up2 rd i j v = rd := by
  funext a b
  unfold up2
  split
  · rename_i q; rw [q.1, q.2]; exact h.symm
  · rfl
theorem c_draw (hd : 1 ≤ d) (hs : Sh σ g) (hx : f 219 35 = x) (h01 : 0 ≤ x ∧ x ≤ 2147483647) {of : Int} (hof : 1 ≤ of ∧ of ≤ 1000) (K : Q (some (zi ((drw x / 65536) % of))) σ (up2 f 219 35 (drw x)) g) : ZCt d 249 [zr (some 219), zi of] σ f g Q := by
  refine ZCt.of' (L0 := [_, _]) (by omega) rfl rfl rfl (fun d hd1 => ?_)
  refine r_aload_n rfl rfl ?_
  refine r_aload_n rfl rfl ?_
  refine r_getL rfl (by first | assumption | exact hs.o rfl) hx ?_
  refine r_ldc2 rfl ?_
  refine r_lmul rfl ?_
  refine r_ldc2 rfl ?_
  refine r_ladd rfl ?_
  refine r_ldc2 rfl ?_
  refine r_lrem rfl (by decide) ?_
  rw [drw_mod h01]
  have hdr := drw_rng x
  have hdd := drw_d x
  refine r_putL rfl (by first | assumption | exact hs.o rfl) ?_
  refine r_aload_n rfl rfl ?_
  refine r_getL rfl (by first | assumption | exact hs.o rfl) (up2_same _ _ _ _) ?_
  refine r_ldc2 rfl ?_
  refine r_ldiv rfl (by decide) ?_
  refine r_iload_n rfl rfl ?_
  refine r_i2l rfl (by omega) ?_
  refine r_lrem rfl (by rw [wl_id (by omega)]; omega) ?_
  refine r_l2i rfl ?_
  refine r_iret rfl ?_
  have e1 : z_ldiv (drw x) 65536 = drw x / 65536 := by
    unfold z_ldiv
    rw [wl_id (by omega), wl_id (by omega), Int.tdiv_eq_ediv_of_nonneg (by omega)]
  have e2 : z_lrem (drw x / 65536) of = (drw x / 65536) % of := by
    unfold z_lrem
    rw [wl_id (by omega), wl_id (by omega), Int.tmod_eq_emod_of_nonneg (by omega)]
  rw [e1, e2]
  exact K
theorem l_shIM (hd1 : 10 ≤ d) (hs : Sh σ g) {f00 : ZF} (hplo : PlOk pl) (hv : VS pl N (-1) rd) {n : Nat} (hN : N + 7 * (n : Int) ≤ 1000000) (hx : 0 ≤ x ∧ x ≤ 2147483647) {pp : Int} (hpp : 0 ≤ pp ∧ pp ≤ 100) {m w gg wt hd0 yy : Int} (K : ∀ f' v, Kp f00 f' → MRd (f' 229) (shI pl al pp (x, rd) n).2 → f' 219 35 = (shI pl al pp (x, rd) n).1 → TM σ f' g pl al (-1) → (∀ i, i ≠ 18 → i ≠ 25 → i ≠ 35 → f' 219 i = f0 219 i) → ZWp d zt248 146 [zr (some 219), zi m, zi (n : Int), zi pp, zi w, zi gg, zi wt, zi hd0, zi yy, v] [] σ f' g Q) (k : Nat) (hk : k ≤ n) (f : ZF) (hkp : Kp f00 f) (h : MRd (f 229) (shI pl al pp (x, rd) k).2) (h35 : f 219 35 = (shI pl al pp (x, rd) k).1) (ht : TM σ f g pl al (-1)) (h219 : ∀ i, i ≠ 18 → i ≠ 25 → i ≠ 35 → f 219 i = f0 219 i) : ZWp d zt248 96 [zr (some 219), zi m, zi (n : Int), zi pp, zi w, zi gg, zi wt, zi hd0, zi yy, zi (k : Int)] [] σ f g Q := by
  have hvN := hv.1.2.2.2.2.2.2
  have hp2 := hplo.2.1
  refine r_iload rfl rfl ?_
  refine r_iload_n rfl rfl ?_
  refine r_icmp_ge rfl (by omega) (by omega) (fun hge => ?_) (fun hge => ?_)
  · have e : k = n := by omega
    subst e
    exact K f _ hkp h h35 ht h219
  · refine r_aload_n rfl rfl ?_
    refine r_bipush rfl ?_
    refine r_callV1 rfl rfl (by first | assumption | exact hs.o rfl) rfl (c_draw (by omega) hs h35 (shI_x hx k) (by omega) ?_)
    have hdd := drw_d (shI pl al pp (x, rd) k).1
    have hvk := VS.sh (s := (x, rd)) (al := al) (p := pp) hplo hv k (by omega)
    refine r_iload_n rfl rfl ?_
    refine r_icmp_ge rfl (by omega) (by omega) (fun hge2 => ?_) (fun hge2 => ?_)
    · have e1 := drS_n (pl := pl) (rd := (shI pl al pp (x, rd) k).2) (x := (shI pl al pp (x, rd) k).1) (p := pp) (by omega)
      have hmX : MRd ((up2 f 219 35 (drw (shI pl al pp (x, rd) k).1)) 229) (drS pl pp (shI pl al pp (x, rd) k)).2 := by rw [show drS pl pp (shI pl al pp (x, rd) k) = _ from e1, up2_o _ _ (by omega)]; exact h
      have htX : TM σ (up2 f 219 35 (drw (shI pl al pp (x, rd) k).1)) g pl al (-1) := ht.dx
      have hkX : Kp f00 (up2 f 219 35 (drw (shI pl al pp (x, rd) k).1)) := hkp.upM (by omega)
      have h35X : (up2 f 219 35 (drw (shI pl al pp (x, rd) k).1)) 219 35 = (drS pl pp (shI pl al pp (x, rd) k)).1 := by rw [show drS pl pp (shI pl al pp (x, rd) k) = _ from e1, up2_same]
      have h219X : ∀ i, i ≠ 18 → i ≠ 25 → i ≠ 35 → (up2 f 219 35 (drw (shI pl al pp (x, rd) k).1)) 219 i = f0 219 i := fun i q1 q2 q3 => by rw [up2_ne _ _ (fun z => q3 z.2)]; exact h219 i q1 q2 q3
      refine r_aload_n rfl rfl ?_
      refine r_callV0 rfl rfl (by first | assumption | exact hs.o rfl) rfl (c_psv (N := N + 7 * (k : Int)) (by omega) hs htX hmX (hvk.dr hplo).1 (by omega) (fun f3 hf3 ht3 hm3 hst3 => ?_))
      refine r_popi rfl ?_
      refine r_iinc (L' := [_, _, _, _, _, _, _, _, _, _]) rfl rfl rfl ?_
      refine r_goto rfl ?_
      exact l_shIM hd1 hs hplo hv hN hx hpp K (k + 1) (by omega) f3 (hkX.m hf3) hm3 ((hf3.2.1 35 (by omega) (by omega)).trans h35X) ht3 (fun i q1 q2 q3 => (hf3.2.1 i q1 q2).trans (h219X i q1 q2 q3))
    · refine r_aload_n rfl rfl ?_
      refine r_getR rfl (by first | assumption | exact hs.o rfl) (by first | assumption | exact hs.g rfl) ?_
      refine r_iconst rfl ?_
      refine r_iald rfl (by first | assumption | exact hs.a rfl) (by omega) (by omega) ((zix (n := 2) rfl).trans ((congrFun (up2_o _ _ (by omega)) _).trans ht.1.2.2.1)) ?_
      refine r_if_le rfl (by omega) (fun hle => ?_) (fun hle => ?_)
      · have e1 := drS_n (pl := pl) (rd := (shI pl al pp (x, rd) k).2) (x := (shI pl al pp (x, rd) k).1) (p := pp) (by omega)
        have hmX : MRd ((up2 f 219 35 (drw (shI pl al pp (x, rd) k).1)) 229) (drS pl pp (shI pl al pp (x, rd) k)).2 := by rw [show drS pl pp (shI pl al pp (x, rd) k) = _ from e1, up2_o _ _ (by omega)]; exact h
        have htX : TM σ (up2 f 219 35 (drw (shI pl al pp (x, rd) k).1)) g pl al (-1) := ht.dx
        have hkX : Kp f00 (up2 f 219 35 (drw (shI pl al pp (x, rd) k).1)) := hkp.upM (by omega)
        have h35X : (up2 f 219 35 (drw (shI pl al pp (x, rd) k).1)) 219 35 = (drS pl pp (shI pl al pp (x, rd) k)).1 := by rw [show drS pl pp (shI pl al pp (x, rd) k) = _ from e1, up2_same]
        have h219X : ∀ i, i ≠ 18 → i ≠ 25 → i ≠ 35 → (up2 f 219 35 (drw (shI pl al pp (x, rd) k).1)) 219 i = f0 219 i := fun i q1 q2 q3 => by rw [up2_ne _ _ (fun z => q3 z.2)]; exact h219 i q1 q2 q3
        refine r_aload_n rfl rfl ?_
        refine r_callV0 rfl rfl (by first | assumption | exact hs.o rfl) rfl (c_psv (N := N + 7 * (k : Int)) (by omega) hs htX hmX (hvk.dr hplo).1 (by omega) (fun f3 hf3 ht3 hm3 hst3 => ?_))
        refine r_popi rfl ?_
        refine r_iinc (L' := [_, _, _, _, _, _, _, _, _, _]) rfl rfl rfl ?_
        refine r_goto rfl ?_
        exact l_shIM hd1 hs hplo hv hN hx hpp K (k + 1) (by omega) f3 (hkX.m hf3) hm3 ((hf3.2.1 35 (by omega) (by omega)).trans h35X) ht3 (fun i q1 q2 q3 => (hf3.2.1 i q1 q2).trans (h219X i q1 q2 q3))
      · refine r_aload_n rfl rfl ?_
        refine r_aload_n rfl rfl ?_
        refine r_aload_n rfl rfl ?_
        refine r_getR rfl (by first | assumption | exact hs.o rfl) (by first | assumption | exact hs.g rfl) ?_
        refine r_iconst rfl ?_
        refine r_iald rfl (by first | assumption | exact hs.a rfl) (by omega) (by omega) ((zix (n := 2) rfl).trans ((congrFun (up2_o _ _ (by omega)) _).trans ht.1.2.2.1)) ?_
        refine r_callV1 rfl rfl (by first | assumption | exact hs.o rfl) rfl (c_draw (by omega) hs (up2_same _ _ _ _) (drw_rng _) (by omega) ?_)
        have hm1 := Int.emod_nonneg (drw (drw (shI pl al pp (x, rd) k).1) / 65536) (show pl.2.1 ≠ 0 by omega)
        have hm2 := Int.emod_lt_of_pos (drw (drw (shI pl al pp (x, rd) k).1) / 65536) (show 0 < pl.2.1 by omega)
        have ez : (drw (drw (shI pl al pp (x, rd) k).1) / 65536) % pl.2.1 = ((((drw (drw (shI pl al pp (x, rd) k).1) / 65536) % pl.2.1).toNat : Nat) : Int) := by omega
        have e1 := drS_y (pl := pl) (rd := (shI pl al pp (x, rd) k).2) (x := (shI pl al pp (x, rd) k).1) (p := pp) (by omega)
        rw [ez]
        refine r_callV1 rfl rfl (by first | assumption | exact hs.o rfl) rfl (c_waits (rd := (shI pl al pp (x, rd) k).2) (j := ((drw (drw (shI pl al pp (x, rd) k).1) / 65536) % pl.2.1).toNat) (by omega) hs (by rw [up2_o _ _ (by omega), up2_o _ _ (by omega)]; exact h) hvk.1 (by omega) (fun hlt f1 hf1 hmw hst => ?_) (fun hnl => ?_)  )
        · have hmX : MRd (f1 229) (drS pl pp (shI pl al pp (x, rd) k)).2 := by rw [show drS pl pp (shI pl al pp (x, rd) k) = _ from e1]; simp only; rw [if_pos hlt]; exact hmw
          have htX : TM σ f1 g pl al (-1) := (ht.dx.dx).fr hf1
          have hkX : Kp f00 f1 := ((hkp.upM (by omega)).upM (by omega)).m hf1
          have h35X : f1 219 35 = (drS pl pp (shI pl al pp (x, rd) k)).1 := by rw [show drS pl pp (shI pl al pp (x, rd) k) = _ from e1, hf1.2.1 35 (by omega) (by omega), up2_same]
          have h219X : ∀ i, i ≠ 18 → i ≠ 25 → i ≠ 35 → f1 219 i = f0 219 i := fun i q1 q2 q3 => by rw [hf1.2.1 i q1 q2, up2_ne _ _ (fun z => q3 z.2), up2_ne _ _ (fun z => q3 z.2)]; exact h219 i q1 q2 q3
          refine r_aload_n rfl rfl ?_
          refine r_callV0 rfl rfl (by first | assumption | exact hs.o rfl) rfl (c_psv (N := N + 7 * (k : Int)) (by omega) hs htX hmX (hvk.dr hplo).1 (by omega) (fun f3 hf3 ht3 hm3 hst3 => ?_))
          refine r_popi rfl ?_
          refine r_iinc (L' := [_, _, _, _, _, _, _, _, _, _]) rfl rfl rfl ?_
          refine r_goto rfl ?_
          exact l_shIM hd1 hs hplo hv hN hx hpp K (k + 1) (by omega) f3 (hkX.m hf3) hm3 ((hf3.2.1 35 (by omega) (by omega)).trans h35X) ht3 (fun i q1 q2 q3 => (hf3.2.1 i q1 q2).trans (h219X i q1 q2 q3))
        · have hwr := hvk.1.2.2.2.1 ((drw (drw (shI pl al pp (x, rd) k).1) / 65536) % pl.2.1).toNat (by omega)
          have hmX : MRd ((up2 (up2 f 219 35 (drw (shI pl al pp (x, rd) k).1)) 219 35 (drw (drw (shI pl al pp (x, rd) k).1))) 229) (drS pl pp (shI pl al pp (x, rd) k)).2 := by rw [show drS pl pp (shI pl al pp (x, rd) k) = _ from e1]; simp only; rw [if_neg hnl, up2_id (rd := (shI pl al pp (x, rd) k).2) (i := 4) (j := ((drw (drw (shI pl al pp (x, rd) k).1) / 65536) % pl.2.1).toNat) (v := 99) (by omega), up2_o _ _ (by omega), up2_o _ _ (by omega)]; exact h
          have htX : TM σ (up2 (up2 f 219 35 (drw (shI pl al pp (x, rd) k).1)) 219 35 (drw (drw (shI pl al pp (x, rd) k).1))) g pl al (-1) := ht.dx.dx
          have hkX : Kp f00 (up2 (up2 f 219 35 (drw (shI pl al pp (x, rd) k).1)) 219 35 (drw (drw (shI pl al pp (x, rd) k).1))) := (hkp.upM (by omega)).upM (by omega)
          have h35X : (up2 (up2 f 219 35 (drw (shI pl al pp (x, rd) k).1)) 219 35 (drw (drw (shI pl al pp (x, rd) k).1))) 219 35 = (drS pl pp (shI pl al pp (x, rd) k)).1 := by rw [show drS pl pp (shI pl al pp (x, rd) k) = _ from e1, up2_same]
          have h219X : ∀ i, i ≠ 18 → i ≠ 25 → i ≠ 35 → (up2 (up2 f 219 35 (drw (shI pl al pp (x, rd) k).1)) 219 35 (drw (drw (shI pl al pp (x, rd) k).1))) 219 i = f0 219 i := fun i q1 q2 q3 => by rw [up2_ne _ _ (fun z => q3 z.2), up2_ne _ _ (fun z => q3 z.2)]; exact h219 i q1 q2 q3
          refine r_aload_n rfl rfl ?_
          refine r_callV0 rfl rfl (by first | assumption | exact hs.o rfl) rfl (c_psv (N := N + 7 * (k : Int)) (by omega) hs htX hmX (hvk.dr hplo).1 (by omega) (fun f3 hf3 ht3 hm3 hst3 => ?_))
          refine r_popi rfl ?_
          refine r_iinc (L' := [_, _, _, _, _, _, _, _, _, _]) rfl rfl rfl ?_
          refine r_goto rfl ?_
          exact l_shIM hd1 hs hplo hv hN hx hpp K (k + 1) (by omega) f3 (hkX.m hf3) hm3 ((hf3.2.1 35 (by omega) (by omega)).trans h35X) ht3 (fun i q1 q2 q3 => (hf3.2.1 i q1 q2).trans (h219X i q1 q2 q3))
termination_by n - k
theorem l_shOM (hd1 : 11 ≤ d) (hs : Sh σ g) {f00 : ZF} (hplo : PlOk pl) (hv : VS pl N (-1) rd) {n m : Nat} (hm10 : m ≤ 10) (hN : N + 7 * (n : Int) ≤ 1000000) (hx : 0 ≤ x ∧ x ≤ 2147483647) {pp w : Int} (hpp : 0 ≤ pp ∧ pp ≤ 100) (hm : MRd (f00 229) rd) (K : ∀ f' y8 y9, Kp f00 f' → f' 229 = f00 229 → (∀ i, i ≠ 18 → i ≠ 25 → i ≠ 35 → f' 219 i = f0 219 i) → ZWp d zt248 180 [zr (some 219), zi (m : Int), zi (n : Int), zi pp, zi w, zi (shO pl al pp n x rd m).2.1, zi (shO pl al pp n x rd m).2.2, zi (rd 5 1), y8, y9] [] σ f' g Q) (k : Nat) (hk : k ≤ m) (f : ZF) (y9 : ZV) (hkp : Kp f00 f) (h9 : f 229 = f00 229) (h35 : f 219 35 = (shO pl al pp n x rd k).1) (ht : TM σ f g pl al (-1)) (h219 : ∀ i, i ≠ 18 → i ≠ 25 → i ≠ 35 → f 219 i = f0 219 i) : ZWp d zt248 87 [zr (some 219), zi (m : Int), zi (n : Int), zi pp, zi w, zi (shO pl al pp n x rd k).2.1, zi (shO pl al pp n x rd k).2.2, zi (rd 5 1), zi (k : Int), y9] [] σ f g Q := by
  have hvN := hv.1.2.2.2.2.2.2
  have hp2 := hplo.2.1
  refine r_iload rfl rfl ?_
  refine r_iload_n rfl rfl ?_
  refine r_icmp_ge rfl (by omega) (by omega) (fun hge => ?_) (fun hge => ?_)
  · have e : k = m := by omega
    subst e
    exact K f _ _ hkp h9 h219
  · refine r_iconst rfl ?_
    refine r_istore (L' := [_, _, _, _, _, _, _, _, _, _]) rfl rfl rfl ?_
    refine l_shIM (f0 := f0) (f00 := f00) (x := (shO pl al pp n x rd k).1) (rd := rd) (by omega) hs hplo hv (n := n) hN (shO_x hx k) hpp (fun f2 v hk2 hm2 h352 ht2 h2192 => ?_) 0 (by omega) f hkp (by rw [h9]; exact hm) h35 ht h219
    refine r_iload rfl rfl ?_
    refine r_aload_n rfl rfl ?_
    refine r_getR rfl (by first | assumption | exact hs.o rfl) (by first | assumption | exact hs.g rfl) ?_
    refine r_bipush rfl ?_
    refine r_iald rfl (by first | assumption | exact hs.a rfl) (by omega) (by omega) ((zix (n := 11) rfl).trans hm2.2.1) ?_
    refine r_iload rfl rfl ?_
    refine r_isub rfl ?_
    refine r_iadd rfl ?_
    refine r_istore (L' := [_, _, _, _, _, _, _, _, _, _]) rfl rfl rfl ?_
    refine r_iload rfl rfl ?_
    refine r_aload_n rfl rfl ?_
    refine r_callV0 rfl rfl (by first | assumption | exact hs.o rfl) rfl (c_waitAll (rd := (shI pl al pp ((shO pl al pp n x rd k).1, rd) n).2) (r := pl.2.1.toNat) (by omega) hs (by rw [ht2.1.2.2.1]; omega) (by omega) hm2.2.2.2.1 ?_)
    rw [← rAllW_z (rd := (shI pl al pp ((shO pl al pp n x rd k).1, rd) n).2) (r := pl.2.1.toNat) (fun j q => (hv.sh (al := al) (p := pp) (s := ((shO pl al pp n x rd k).1, rd)) hplo n (by omega)).2.2.2 j (by omega)) 5 (by omega)]
    refine r_iadd rfl ?_
    refine r_istore (L' := [_, _, _, _, _, _, _, _, _, _]) rfl rfl rfl ?_
    refine r_aload_n rfl rfl ?_
    refine r_callV0 rfl rfl (by first | assumption | exact hs.o rfl) rfl (c_laysBack (by omega) hs hk2 (fun f9 hk9 h99 he9 => ?_))
    refine r_iinc (L' := [_, _, _, _, _, _, _, _, _, _]) rfl rfl rfl ?_
    refine r_goto rfl ?_
    exact l_shOM hd1 hs hplo hv hm10 hN hx hpp hm K (k + 1) (by omega) f9 _ hk9 h99 (by rw [he9 219 (by omega)]; exact h352) (ht2.kp he9 (fun i q => by rw [h99]; exact (hk2.2.2.1 i q).symm)) (fun i q1 q2 q3 => by rw [he9 219 (by omega)]; exact h2192 i q1 q2 q3)
termination_by m - k
theorem c_shows (hd : 13 ≤ d) (hs : Sh σ g) (hM : MI f a) (hA : AOk N a) {m n pp w : Int} (hmi : IR m) (hni : IR n) (hpi : IR pp) (hwi : IR w) (K : ∀ f', FrMQ f f' → Q (some (zi (qShows a m n pp w))) σ f' g) : ZCt d 248 [zr (some 219), zi m, zi n, zi pp, zi w] σ f g Q := by
  refine ZCt.of' (L0 := [_, _, _, _, _, _, _, _, _, _]) (by omega) rfl rfl rfl (fun d hd1 => ?_)
  refine r_aload_n rfl rfl ?_
  refine r_callV0 rfl rfl (by first | assumption | exact hs.o rfl) rfl (c_shown (by omega) hs hM hA (fun pl rd0 hp => ?_) (fun hnp => ?_))
  · refine r_if_n rfl (by decide) ?_
    refine r_iload_n rfl rfl ?_
    refine r_i2l rfl (by omega) ?_
    refine r_lconst rfl ?_
    refine r_ldc2 rfl ?_
    refine r_callS3 rfl rfl rfl (c_in (by omega) (by omega) (by omega) (by omega) (fun hm => ?_) (fun hm => ?_))
    · refine r_if_n rfl (by decide) ?_
      refine r_iload_n rfl rfl ?_
      refine r_i2l rfl (by omega) ?_
      refine r_lconst rfl ?_
      refine r_ldc2 rfl ?_
      refine r_callS3 rfl rfl rfl (c_in (by omega) (by omega) (by omega) (by omega) (fun hn => ?_) (fun hn => ?_))
      · refine r_if_n rfl (by decide) ?_
        refine r_iload_n rfl rfl ?_
        refine r_i2l rfl (by omega) ?_
        refine r_lconst rfl ?_
        refine r_ldc2 rfl ?_
        refine r_callS3 rfl rfl rfl (c_in (by omega) (by omega) (by omega) (by omega) (fun hpp => ?_) (fun hpp => ?_))
        · refine r_if_n rfl (by decide) ?_
          refine r_iload rfl rfl ?_
          refine r_i2l rfl (by omega) ?_
          refine r_lconst rfl ?_
          refine r_lconst rfl ?_
          refine r_callS3 rfl rfl rfl (c_in (by omega) (by omega) (by omega) (by omega) (fun hw => ?_) (fun hw => ?_))
          · refine r_if_y rfl (by decide) ?_
            refine r_aload_n rfl rfl ?_
            refine r_aload_n rfl rfl ?_
            have hxr := hA.2.2.2.2.1
            refine r_getI rfl (by first | assumption | exact hs.o rfl) hM.x ?_
            refine r_i2l rfl (by omega) ?_
            refine r_putL rfl (by first | assumption | exact hs.o rfl) ?_
            refine r_iconst rfl ?_
            refine r_istore (L' := [_, _, _, _, _, _, _, _, _, _]) rfl rfl rfl ?_
            refine r_iconst rfl ?_
            refine r_istore (L' := [_, _, _, _, _, _, _, _, _, _]) rfl rfl rfl ?_
            refine r_aload_n rfl rfl ?_
            refine r_getR rfl (by first | assumption | exact hs.o rfl) (by first | assumption | exact hs.g rfl) ?_
            refine r_bipush rfl ?_
            obtain ⟨hplo, hvr, hst⟩ := hA.plS hp
            have hN := hA.2.2.2.2.2.2.2
            have hvs := hvr.vs
            have ht0 : TM σ f g pl (AL a a.fo pl) (-1) := MI.tm hs hM hA hp
            have hm0 : MRd (f 229) a.w.rd := hM.w.2.1
            refine r_iald rfl (by first | assumption | exact hs.a rfl) (by omega) (by omega) ((zix (n := 11) rfl).trans ((congrFun (up2_o _ _ (by omega)) _).trans hM.w.2.1.2.1)) ?_
            refine r_istore (L' := [_, _, _, _, _, _, _, _, _, _]) rfl rfl rfl ?_
            refine r_aload_n rfl rfl ?_
            refine r_callV0 rfl rfl (by first | assumption | exact hs.o rfl) rfl (c_keeps (by omega) hs (fun f1 hk1 he1 => ?_))
            have hk1' : Kp f f1 := by
              refine ⟨fun c q1 q2 q3 => (hk1.1 c q1 q2 q3).trans (up2_o _ _ q1), fun i q1 q2 q3 q4 q5 q6 q7 q8 => (hk1.2.1 i q1 q2 q3 q4 q5 q6 q7 q8).trans (up2_ne _ _ (fun z => q8 z.2)), fun i q => (hk1.2.2.1 i q).trans (by rw [up2_o _ _ (by omega)]), fun i q => (hk1.2.2.2 i q).trans (by rw [up2_o _ _ (by omega)])⟩
            have ht1 : TM σ f1 g pl (AL a a.fo pl) (-1) := ht0.dx.k1 he1
            obtain ⟨mm, rfl⟩ := Int.eq_ofNat_of_zero_le (show 0 ≤ m by omega)
            obtain ⟨nn, rfl⟩ := Int.eq_ofNat_of_zero_le (show 0 ≤ n by omega)
            rw [qShows_yes hp (by omega)] at K
            refine r_iconst rfl ?_
            refine r_istore (L' := [_, _, _, _, _, _, _, _, _, _]) rfl rfl rfl ?_
            refine l_shOM (f0 := f1) (f00 := f) (x := a.x) (rd := a.w.rd) (al := AL a a.fo pl) (by omega) hs hplo hvs (n := nn) (m := mm) (by omega) (by omega) hxr hpp hm0 (fun f2 y8 y9 hk2 h92 h2192 => ?_) 0 (by omega) f1 _ hk1' ((he1 229 (by omega)).trans (up2_o _ _ (by omega))) (by rw [he1 219 (by omega), up2_same]; rfl) ht1 (fun _ _ _ _ => rfl)
            have hfin : FrMQ f f2 := hk2.back h92 (fun i q => by rw [h2192 i (by omega) (by omega) (by omega), he1 219 (by omega), up2_ne _ _ (by omega)])
            refine r_iload rfl rfl ?_
            refine r_if_ne rfl (by omega) (fun hw0 => ?_) (fun hw0 => ?_)
            · refine r_iload rfl rfl ?_
              refine r_iret rfl ?_
              first | (rw [if_pos (by omega)] at K; exact K f2 hfin) | (rw [if_neg (by omega)] at K; exact K f2 hfin)
            · refine r_iload rfl rfl ?_
              refine r_goto rfl ?_
              refine r_iret rfl ?_
              first | (rw [if_pos (by omega)] at K; exact K f2 hfin) | (rw [if_neg (by omega)] at K; exact K f2 hfin)
          · refine r_if_n rfl (by decide) ?_
            refine r_iconst rfl ?_
            refine r_iret rfl ?_
            first | (rw [qShows_no (Or.inr (by omega))] at K; exact K f (FrMQ.rf f)) | (rw [qShows_no (Or.inl hnp)] at K; exact K f (FrMQ.rf f))
        · refine r_if_y rfl (by decide) ?_
          refine r_iconst rfl ?_
          refine r_iret rfl ?_
          first | (rw [qShows_no (Or.inr (by omega))] at K; exact K f (FrMQ.rf f)) | (rw [qShows_no (Or.inl hnp)] at K; exact K f (FrMQ.rf f))
      · refine r_if_y rfl (by decide) ?_
        refine r_iconst rfl ?_
        refine r_iret rfl ?_
        first | (rw [qShows_no (Or.inr (by omega))] at K; exact K f (FrMQ.rf f)) | (rw [qShows_no (Or.inl hnp)] at K; exact K f (FrMQ.rf f))
    · refine r_if_y rfl (by decide) ?_
      refine r_iconst rfl ?_
      refine r_iret rfl ?_
      first | (rw [qShows_no (Or.inr (by omega))] at K; exact K f (FrMQ.rf f)) | (rw [qShows_no (Or.inl hnp)] at K; exact K f (FrMQ.rf f))
  · refine r_if_y rfl (by decide) ?_
    refine r_iconst rfl ?_
    refine r_iret rfl ?_
    first | (rw [qShows_no (Or.inr (by omega))] at K; exact K f (FrMQ.rf f)) | (rw [qShows_no (Or.inl hnp)] at K; exact K f (FrMQ.rf f))
end MSHOWS
