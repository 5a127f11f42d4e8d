/-! Who is let off: the reference -/
theorem FrM.wd {f0 f : ZF} {i : Nat} {v : Int} (h : FrM f0 f) : FrM f0 (up2 f 228 i v) := h.trans ⟨fun c _ _ q _ => up2_o f v q, fun j _ _ => by rw [up2_o f v (by omega)], fun j _ => by rw [up2_o f v (by omega)]⟩
section MLETOFF
variable {d : Nat} {σ : ZS} {f : ZF} {g : ZG} {Q : ZQ} {n m N : Int} {rd : Rd} {pl : Pl}
theorem alm_set {s : Int} (hs : Sh σ g) (h0s : 0 ≤ s ∧ s ≤ 2147483647) : ALm 8 σ g (fun f => f 219 24 = s) n m (alSet s) := by
  intro d f rd N k Q hd hk hE hm ho h0 K
  refine ZCt.of' (L0 := [_, _]) (by omega) rfl rfl rfl (fun d hd1 => ?_)
  refine r_aload_n rfl rfl ?_
  refine r_getI rfl (by first | assumption | exact hs.o rfl) hE ?_
  refine r_if_lt rfl (by omega) (fun h4 => ?_) (fun h4 => ?_)
  · exfalso; omega
  · refine r_aload_n rfl rfl ?_
    refine r_getI rfl (by first | assumption | exact hs.o rfl) hE ?_
    refine r_iload_n rfl rfl ?_
    refine r_callS2 rfl rfl rfl (c_isOf (by omega) (fun hb => ?_) (fun hb => ?_))
    · refine r_zret rfl (by omega) ?_
      exact (K f (FrM.rf f) rfl rfl).1 (decide_eq_true hb)
    · refine r_zret rfl (by omega) ?_
      exact (K f (FrM.rf f) rfl rfl).2 (decide_eq_false hb)
theorem alm_none (hs : Sh σ g) : ALm 8 σ g (fun f => f 219 24 = -1 ∧ f 219 21 = -1) n m alNone := by
  intro d f rd N k Q hd hk hE hm ho h0 K
  refine ZCt.of' (L0 := [_, _]) (by omega) rfl rfl rfl (fun d hd1 => ?_)
  have hc := hm.2.2.1 k hk
  unfold MC at hc
  have hok := ho.2.2.1 k hk
  have ho2 := ho.2.1
  have hw := hm.2.2.2.1 (rd 1 k).toNat (by omega)
  have hw2 := ho.2.2.2.1 (rd 1 k).toNat (by omega)
  have er : f 229 (14 + 5 * k) = rd 1 k := by omega
  refine r_aload_n rfl rfl ?_
  refine r_getI rfl (by first | assumption | exact hs.o rfl) hE.1 ?_
  refine r_if_lt rfl (by omega) (fun h4 => ?_) (fun h4 => ?_)
  · refine r_aload_n rfl rfl ?_
    refine r_getI rfl (by first | assumption | exact hs.o rfl) hE.2 ?_
    refine r_if_ge rfl (by omega) (fun h20 => ?_) (fun h20 => ?_)
    · exfalso; omega
    · refine r_aload_n rfl rfl ?_
      refine r_getR rfl (by first | assumption | exact hs.o rfl) (by first | assumption | exact hs.g rfl) ?_
      refine r_bipush rfl ?_
      refine r_aload_n rfl rfl ?_
      refine r_iload_n rfl rfl ?_
      refine r_callV1 rfl rfl (by first | assumption | exact hs.o rfl) rfl (c_roadOf (by omega) hs hk ?_)
      rw [er]
      refine r_iadd rfl ?_
      refine r_iald rfl (by first | assumption | exact hs.a rfl) (by omega) (by omega) ((zix (n := 42 + (rd 1 k).toNat) (by omega)).trans hw) ?_
      refine r_if_ne rfl (by omega) (fun hb => ?_) (fun hb => ?_)
      · refine r_iconst rfl ?_
        refine r_zret rfl (by omega) ?_
        exact (K f (FrM.rf f) rfl rfl).2 (decide_eq_false hb)
      · refine r_iconst rfl ?_
        refine r_goto rfl ?_
        refine r_zret rfl (by omega) ?_
        exact (K f (FrM.rf f) rfl rfl).1 (decide_eq_true hb)
  · exfalso; omega
theorem alm_rule {t nc : Nat} {cls : Cls} (hs : Sh σ g) (hpl : PlOk pl) (ht : t < 6) (hnc : nc ≤ 12) (hcl : cls.length = nc) (hcok : ∀ x ∈ cls, clOk x) : ALm 8 σ g (fun f => f 219 24 = -1 ∧ f 219 21 = (t : Int) ∧ f 224 t = (nc : Int) ∧ MAt f t 0 cls ∧ MPl (f 229) pl) pl.1 pl.2.1 (alRule cls pl) := by
  intro d f rd N k Q hd hk hE hm ho h0 K
  refine ZCt.of' (L0 := [_, _]) (by omega) rfl rfl rfl (fun d hd1 => ?_)
  obtain ⟨E1, E2, E3, E4, hp⟩ := hE
  have hc := hm.2.2.1 k hk
  unfold MC at hc
  have hok := ho.2.2.1 k hk
  have ho1 := ho.1
  have ho2 := ho.2.1
  have hw := hm.2.2.2.1 (rd 1 k).toNat (by omega)
  have hw2 := ho.2.2.2.1 (rd 1 k).toNat (by omega)
  have hpj := hp.2.2.2.2 (rd 1 k).toNat (by omega)
  have hpj2 := hpl.2.2.2 (rd 1 k).toNat (by omega)
  have h50 := ho.2.2.2.2.2.1
  have h51 := ho.2.2.2.2.2.2.1
  have hNN := ho.2.2.2.2.2.2.2
  have hb := rBeh_rng (rd := rd) (n := pl.1) (c := rd 0 k) (by omega)
  have hon := rOns_le rd 6
  have htd := td_rng (x := rd 3 k) (y := pl.1) (by omega) (by omega)
  have er : f 229 (14 + 5 * k) = rd 1 k := by omega
  have ef : f 229 (15 + 5 * k) = rd 2 k := by omega
  have ec : f 229 (13 + 5 * k) = rd 0 k := by omega
  have ea : f 229 (16 + 5 * k) = rd 3 k := by omega
  have fO : ∀ k', wUp 228 f (rWd pl rd k) k' 229 = f 229 := fun k' => wUp_o (by omega) k'
  have f1 : ∀ k', wUp 228 f (rWd pl rd k) k' 219 = f 219 := fun k' => wUp_o (by omega) k'
  have hmW : ∀ k', MRd (wUp 228 f (rWd pl rd k) k' 229) rd := fun k' => by rw [fO]; exact hm
  refine r_aload_n rfl rfl ?_
  refine r_getI rfl (by first | assumption | exact hs.o rfl) E1 ?_
  refine r_if_lt rfl (by omega) (fun h4 => ?_) (fun h4 => ?_)
  · refine r_aload_n rfl rfl ?_
    refine r_getI rfl (by first | assumption | exact hs.o rfl) E2 ?_
    refine r_if_ge rfl (by omega) (fun h20 => ?_) (fun h20 => ?_)
    · refine r_aload_n rfl rfl ?_
      refine r_getR rfl (by first | assumption | exact hs.o rfl) (by first | assumption | exact hs.g rfl) ?_
      refine r_iconst rfl ?_
      refine r_iload_n rfl rfl ?_
      refine r_i2l rfl (by omega) ?_
      refine r_lastN (0) rfl (by first | assumption | exact hs.a rfl) (by omega) (by omega) (by omega) ?_
      change ZWp _ _ _ _ _ σ (wUp 228 f (rWd pl rd k) 1) g Q
      refine r_aload_n rfl rfl ?_
      refine r_getR rfl (by first | assumption | exact hs.o rfl) (by first | assumption | exact hs.g rfl) ?_
      refine r_iconst rfl ?_
      refine r_aload_n rfl rfl ?_
      refine r_iload_n rfl rfl ?_
      refine r_callV1 rfl rfl (by first | assumption | exact hs.o rfl) rfl (c_roadOf (by omega) hs hk ?_)
      rw [show wUp 228 f (rWd pl rd k) 1 229 (14 + 5 * k) = rd 1 k by rw [fO]; exact er]
      refine r_i2l rfl (by omega) ?_
      refine r_lastN (1) rfl (by first | assumption | exact hs.a rfl) (by omega) (by omega) (by omega) ?_
      change ZWp _ _ _ _ _ σ (wUp 228 f (rWd pl rd k) 2) g Q
      refine r_aload_n rfl rfl ?_
      refine r_getR rfl (by first | assumption | exact hs.o rfl) (by first | assumption | exact hs.g rfl) ?_
      refine r_iconst rfl ?_
      refine r_aload_n rfl rfl ?_
      refine r_iload_n rfl rfl ?_
      refine r_callV1 rfl rfl (by first | assumption | exact hs.o rfl) rfl (c_fuelOf (by omega) hs hk ?_)
      rw [show wUp 228 f (rWd pl rd k) 2 229 (15 + 5 * k) = rd 2 k by rw [fO]; exact ef]
      refine r_i2l rfl (by omega) ?_
      refine r_lastN (2) rfl (by first | assumption | exact hs.a rfl) (by omega) (by omega) (by omega) ?_
      change ZWp _ _ _ _ _ σ (wUp 228 f (rWd pl rd k) 3) g Q
      refine r_aload_n rfl rfl ?_
      refine r_getR rfl (by first | assumption | exact hs.o rfl) (by first | assumption | exact hs.g rfl) ?_
      refine r_iconst rfl ?_
      refine r_aload_n rfl rfl ?_
      refine r_getR rfl (by first | assumption | exact hs.o rfl) (by first | assumption | exact hs.g rfl) ?_
      refine r_bipush rfl ?_
      refine r_aload_n rfl rfl ?_
      refine r_iload_n rfl rfl ?_
      refine r_callV1 rfl rfl (by first | assumption | exact hs.o rfl) rfl (c_roadOf (by omega) hs hk ?_)
      rw [show wUp 228 f (rWd pl rd k) 3 229 (14 + 5 * k) = rd 1 k by rw [fO]; exact er]
      refine r_iadd rfl ?_
      refine r_iald rfl (by first | assumption | exact hs.a rfl) (by omega) (by omega) ((zix (n := 42 + (rd 1 k).toNat) (by omega)).trans ((congrFun (fO 3) _).trans hw)) ?_
      refine r_i2l rfl (by omega) ?_
      refine r_lastN (3) rfl (by first | assumption | exact hs.a rfl) (by omega) (by omega) (by omega) ?_
      change ZWp _ _ _ _ _ σ (wUp 228 f (rWd pl rd k) 4) g Q
      refine r_aload_n rfl rfl ?_
      refine r_getR rfl (by first | assumption | exact hs.o rfl) (by first | assumption | exact hs.g rfl) ?_
      refine r_iconst rfl ?_
      refine r_aload_n rfl rfl ?_
      refine r_iload_n rfl rfl ?_
      refine r_callV1 rfl rfl (by first | assumption | exact hs.o rfl) rfl (c_behindOf (by omega) hs (hmW 4) ho ((congrFun (fO 4) _).trans hp.2.1) hk h0 ((congrFun (fO 4) _).trans ec) ?_)
      refine r_i2l rfl (by omega) ?_
      refine r_lastN (4) rfl (by first | assumption | exact hs.a rfl) (by omega) (by omega) (by omega) ?_
      change ZWp _ _ _ _ _ σ (wUp 228 f (rWd pl rd k) 5) g Q
      refine r_aload_n rfl rfl ?_
      refine r_getR rfl (by first | assumption | exact hs.o rfl) (by first | assumption | exact hs.g rfl) ?_
      refine r_iconst rfl ?_
      refine r_aload_n rfl rfl ?_
      refine r_callV0 rfl rfl (by first | assumption | exact hs.o rfl) rfl (c_manyOn (by omega) hs (hmW 5) ho ?_)
      refine r_i2l rfl (by omega) ?_
      refine r_lastN (5) rfl (by first | assumption | exact hs.a rfl) (by omega) (by omega) (by omega) ?_
      change ZWp _ _ _ _ _ σ (wUp 228 f (rWd pl rd k) 6) g Q
      refine r_aload_n rfl rfl ?_
      refine r_getR rfl (by first | assumption | exact hs.o rfl) (by first | assumption | exact hs.g rfl) ?_
      refine r_bipush rfl ?_
      refine r_aload_n rfl rfl ?_
      refine r_getR rfl (by first | assumption | exact hs.o rfl) (by first | assumption | exact hs.g rfl) ?_
      refine r_bipush rfl ?_
      refine r_iald rfl (by first | assumption | exact hs.a rfl) (by omega) (by omega) ((zix (n := 11) (by omega)).trans ((congrFun (fO 6) _).trans hm.2.1)) ?_
      refine r_i2l rfl (by omega) ?_
      refine r_lastN (6) rfl (by first | assumption | exact hs.a rfl) (by omega) (by omega) (by omega) ?_
      change ZWp _ _ _ _ _ σ (wUp 228 f (rWd pl rd k) 7) g Q
      refine r_aload_n rfl rfl ?_
      refine r_getR rfl (by first | assumption | exact hs.o rfl) (by first | assumption | exact hs.g rfl) ?_
      refine r_bipush rfl ?_
      refine r_aload_n rfl rfl ?_
      refine r_getR rfl (by first | assumption | exact hs.o rfl) (by first | assumption | exact hs.g rfl) ?_
      refine r_bipush rfl ?_
      refine r_iconst rfl ?_
      refine r_iload_n rfl rfl ?_
      refine r_imul rfl ?_
      refine r_iadd rfl ?_
      refine r_iconst rfl ?_
      refine r_iadd rfl ?_
      refine r_iald rfl (by first | assumption | exact hs.a rfl) (by omega) (by omega) ((zix (n := 16 + 5 * k) (by omega)).trans ((congrFun (fO 7) _).trans ea)) ?_
      refine r_aload_n rfl rfl ?_
      refine r_getR rfl (by first | assumption | exact hs.o rfl) (by first | assumption | exact hs.g rfl) ?_
      refine r_iconst rfl ?_
      refine r_iald rfl (by first | assumption | exact hs.a rfl) (by omega) (by omega) ((zix (n := 1) (by omega)).trans ((congrFun (fO 7) _).trans hp.2.1)) ?_
      refine r_idiv rfl (by omega) (by omega) (by omega) ?_
      refine r_i2l rfl (by omega) ?_
      refine r_lastN (7) rfl (by first | assumption | exact hs.a rfl) (by omega) (by omega) (by omega) ?_
      change ZWp _ _ _ _ _ σ (wUp 228 f (rWd pl rd k) 8) g Q
      refine r_aload_n rfl rfl ?_
      refine r_getR rfl (by first | assumption | exact hs.o rfl) (by first | assumption | exact hs.g rfl) ?_
      refine r_bipush rfl ?_
      refine r_aload_n rfl rfl ?_
      refine r_getR rfl (by first | assumption | exact hs.o rfl) (by first | assumption | exact hs.g rfl) ?_
      refine r_bipush rfl ?_
      refine r_aload_n rfl rfl ?_
      refine r_iload_n rfl rfl ?_
      refine r_callV1 rfl rfl (by first | assumption | exact hs.o rfl) rfl (c_roadOf (by omega) hs hk ?_)
      rw [show wUp 228 f (rWd pl rd k) 8 229 (14 + 5 * k) = rd 1 k by rw [fO]; exact er]
      refine r_iadd rfl ?_
      refine r_iald rfl (by first | assumption | exact hs.a rfl) (by omega) (by omega) ((zix (n := 72 + (rd 1 k).toNat) (by omega)).trans ((congrFun (fO 8) _).trans hpj.2)) ?_
      refine r_i2l rfl (by omega) ?_
      refine r_lastN (8) rfl (by first | assumption | exact hs.a rfl) (by omega) (by omega) (by omega) ?_
      change ZWp _ _ _ _ _ σ (wUp 228 f (rWd pl rd k) 9) g Q
      refine r_aload_n rfl rfl ?_
      refine r_getR rfl (by first | assumption | exact hs.o rfl) (by first | assumption | exact hs.g rfl) ?_
      refine r_bipush rfl ?_
      refine r_aload_n rfl rfl ?_
      refine r_getR rfl (by first | assumption | exact hs.o rfl) (by first | assumption | exact hs.g rfl) ?_
      refine r_bipush rfl ?_
      refine r_iald rfl (by first | assumption | exact hs.a rfl) (by omega) (by omega) ((zix (n := 10) (by omega)).trans ((congrFun (fO 9) _).trans hm.1)) ?_
      refine r_i2l rfl (by omega) ?_
      refine r_lastN (9) rfl (by first | assumption | exact hs.a rfl) (by omega) (by omega) (by omega) ?_
      change ZWp _ _ _ _ _ σ (wUp 228 f (rWd pl rd k) 10) g Q
      refine r_aload_n rfl rfl ?_
      refine r_aload_n rfl rfl ?_
      refine r_getI rfl (by first | assumption | exact hs.o rfl) ((congrFun (f1 10) _).trans E2) ?_
      refine r_callV1 rfl rfl (by first | assumption | exact hs.o rfl) rfl (c_summedBy (by omega) hs ht hnc (by rw [wUp_o (by omega)]; exact E3) hcl hcok (E4.same _ _ (fun i _ _ => by rw [wUp_o (by omega)]) (fun i _ _ => by rw [wUp_o (by omega)])) (fun f2 v h2 hv => ?_))
      rw [Rev_w10 (wUp_at 10) hcok] at hv
      have hw0 := wl_zero
      have hfr : FrM f f2 := (show FrM f (wUp 228 f (rWd pl rd k) 10) from ((((((((((FrM.rf f).wd).wd).wd).wd).wd).wd).wd).wd).wd).wd).trans h2.frm
      have e229 : f2 229 = f 229 := (h2.1 229 (by omega) (by omega)).trans (fO 10)
      have e25 : f2 219 25 = f 219 25 := (h2.2.1 25 (by omega)).trans (congrFun (f1 10) 25)
      refine r_lconst rfl ?_
      refine r_lcmpW rfl (fun w208 e208a e208b e208c => ?_)
      refine r_if_le rfl (by omega) (fun hz => ?_) (fun hz => ?_)
      · refine r_iconst rfl ?_
        refine r_zret rfl (by omega) ?_
        exact (K f2 hfr e229 e25).2 (by cases hq : alRule cls pl rd k with
          | false => rfl
          | true => have := hv.2 hq; omega)
      · refine r_iconst rfl ?_
        refine r_goto rfl ?_
        refine r_zret rfl (by omega) ?_
        exact (K f2 hfr e229 e25).1 (hv.1 (by omega))
    · exfalso; omega
  · exfalso; omega
end MLETOFF
