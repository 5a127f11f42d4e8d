/-! The reference: show -/
section MSHOW3
variable {d : Nat} {σ : ZS} {f f' : ZF} {g : ZG} {Q : ZQ} {pl : Pl} {rd : Rd} {a : AS} {N : Int}
theorem MI.shw (h : MI f a) (hf : ∀ k, k ≠ 219 → k ≠ 229 → f' k = f k) (h0 : ∀ i, i ≠ 27 → f' 219 i = f 219 i) (h27 : f' 219 27 = 0) (hw : MW (f' 229) (some (pl, rd), rd, 0, a.w.nt)) (htl : a.tl = 0) : MI f' (showTo a pl rd) := by
  obtain ⟨m1, m2, m3, m4, m5, m6, m7, m8, m9, m10, m11, m12⟩ := h
  refine ⟨by rw [h0 1 (by omega), m1, htl]; rfl, fun i hi => absurd hi (by show ¬ i < 0; omega), by rw [h0 2 (by omega)]; exact m3, fun i hi => ?_, hw, by rw [h0 21 (by omega)]; exact m6, by rw [h0 22 (by omega)]; exact m7, by rw [h0 23 (by omega)]; exact m8, by rw [h0 24 (by omega)]; exact m9, h27, fun i hi => absurd hi (by show ¬ i < 0; omega), fun k hk => ?_⟩
  · rw [hf 224 (by omega) (by omega)]
    exact ⟨(m4 i hi).1, (m4 i hi).2.same _ _ (fun j _ _ => by rw [hf 223 (by omega) (by omega)]) (fun j _ _ => by rw [hf 221 (by omega) (by omega)])⟩
  · rw [hf 239 (by omega) (by omega), hf 236 (by omega) (by omega), hf 237 (by omega) (by omega), hf 238 (by omega) (by omega)]
    exact m12 k hk
theorem showTo_sT (a : AS) (tp : Nat → Int) (h : tp = a.tp) : showTo (a.sT 0 tp) pl rd = showTo a pl rd := by
  subst h
  rfl
theorem l_zr (hs : Sh σ g) {f0 : ZF} (K : ∀ f, (∀ c, c ≠ 225 → f c = f0 c) → (∀ j, j < 115 → f 225 j = 0) → ZWp d zt172 27 [zr (some 219), zi 115] [] σ f g Q) (k : Nat) (hk : k ≤ 115) (f : ZF) (hf : ∀ c, c ≠ 225 → f c = f0 c) (hz : ∀ j, j < k → f 225 j = 0) : ZWp d zt172 8 [zr (some 219), zi (k : Int)] [] σ f g Q := by
  refine r_iload_n rfl rfl ?_
  refine r_bipush rfl ?_
  refine r_icmp_ge rfl (by omega) (by omega) (fun h11 => ?_) (fun h11 => ?_)
  · have e : k = 115 := by omega
    subst e
    exact K f hf (fun j hj => hz j hj)
  · refine r_aload_n rfl rfl ?_
    refine r_getR rfl (by first | assumption | exact hs.o rfl) (by first | assumption | exact hs.g rfl) ?_
    refine r_iload_n rfl rfl ?_
    refine r_iconst rfl ?_
    refine r_iastN (k) rfl (by first | assumption | exact hs.a rfl) (by omega) (by omega) (by omega) ?_
    refine r_iinc (L' := [_, _]) rfl rfl rfl ?_
    refine r_goto rfl ?_
    exact l_zr hs K (k + 1) (by omega) _ (fun c hc => (up2_o _ _ hc).trans (hf c hc)) (all_succ (fun j hj => (up2_ne _ _ (by omega)).trans (hz j hj)) (up2_same _ _ _ _))
termination_by 115 - k
theorem l_sy (hs : Sh σ g) {f0 : ZF} (K : ∀ f, (∀ c, c ≠ 229 → f c = f0 c) → (∀ j, j < 146 → f 229 j = if j < 115 then f0 225 j else 0) → ZWp d zt172 79 [zr (some 219), zi 146] [] σ f g Q) (k : Nat) (hk : k ≤ 146) (f : ZF) (hf : ∀ c, c ≠ 229 → f c = f0 c) (hz : ∀ j, j < k → f 229 j = if j < 115 then f0 225 j else 0) : ZWp d zt172 44 [zr (some 219), zi (k : Int)] [] σ f g Q := by
  refine r_iload_n rfl rfl ?_
  refine r_sipush rfl ?_
  refine r_icmp_ge rfl (by omega) (by omega) (fun h48 => ?_) (fun h48 => ?_)
  · have e : k = 146 := by omega
    subst e
    exact K f hf (fun j hj => hz j hj)
  · refine r_aload_n rfl rfl ?_
    refine r_getR rfl (by first | assumption | exact hs.o rfl) (by first | assumption | exact hs.g rfl) ?_
    refine r_iload_n rfl rfl ?_
    refine r_iload_n rfl rfl ?_
    refine r_bipush rfl ?_
    refine r_icmp_ge rfl (by omega) (by omega) (fun h59 => ?_) (fun h59 => ?_)
    · refine r_iconst rfl ?_
      refine r_iastN (k) rfl (by first | assumption | exact hs.a rfl) (by omega) (by omega) (by omega) ?_
      refine r_iinc (L' := [_, _]) rfl rfl rfl ?_
      refine r_goto rfl ?_
      exact l_sy hs K (k + 1) (by omega) _ (fun c hc => (up2_o _ _ hc).trans (hf c hc)) (all_succ (fun j hj => (up2_ne _ _ (by omega)).trans (hz j hj)) ((up2_same _ _ _ _).trans (if_neg (by omega)).symm))
    · refine r_aload_n rfl rfl ?_
      refine r_getR rfl (by first | assumption | exact hs.o rfl) (by first | assumption | exact hs.g rfl) ?_
      refine r_iload_n rfl rfl ?_
      refine r_iald rfl (by first | assumption | exact hs.a rfl) (by omega) (by omega) ((zix (n := k) (by omega)).trans (congrFun (hf 225 (by omega)) k)) ?_
      refine r_goto rfl ?_
      refine r_iastN (k) rfl (by first | assumption | exact hs.a rfl) (by omega) (by omega) (by omega) ?_
      refine r_iinc (L' := [_, _]) rfl rfl rfl ?_
      refine r_goto rfl ?_
      exact l_sy hs K (k + 1) (by omega) _ (fun c hc => (up2_o _ _ hc).trans (hf c hc)) (all_succ (fun j hj => (up2_ne _ _ (by omega)).trans (hz j hj)) ((up2_same _ _ _ _).trans (if_pos (by omega)).symm))
termination_by 146 - k
theorem c_show (hd : 8 ≤ d) (hs : Sh σ g) (hM : MI f a) (hA : AOk N a) (hT : TxOk (aTx a)) (K : ∀ f', MI f' (sShow a).2 → FrX f f' → Q (some (zi (sShow a).1)) σ f' g) : ZCt d 172 [zr (some 219)] σ f g Q := by
  refine ZCt.of' (L0 := [_, _]) (by omega) rfl rfl rfl (fun d hd1 => ?_)
  refine r_aload_n rfl rfl ?_
  refine r_bipush rfl ?_
  refine r_putI rfl (by first | assumption | exact hs.o rfl) ?_
  refine r_iconst rfl ?_
  refine r_istore_n (L' := [_, _]) rfl rfl rfl ?_
  refine l_zr (f0 := up2 f 219 11 6) hs (fun f2 hf2 hz2 => ?_) 0 (by omega) _ (fun c _ => rfl) (fun j hj => absurd hj (by omega))
  have hmx : MX f2 (aTx a) := ⟨by rw [hf2 219 (by omega), up2_ne _ _ (by omega)]; exact hM.mx.1, fun i hi => by rw [hf2 220 (by omega), up2_o _ _ (by omega)]; exact hM.mx.2 i hi⟩
  have hlen : ∀ i, i < a.rk → (a.ru i).length ≤ 12 := fun i hi => (hA.2.1 i hi).1
  have hto : ∀ f', FrF f2 f' → f' 219 1 = 0 → MI f' (a.sT 0 a.tp) := fun f' hf' z1 => hM.txt hlen (fun k q1 q2 => by rw [hf'.1 k q1 (by omega) (by omega), hf2 k (by omega), up2_o _ _ q1]) (fun i q => by rw [hf'.2 i (by omega) (by omega) (by omega) (by omega), hf2 219 (by omega), up2_ne _ _ (by omega)]) z1 (fun i q => by rw [hf'.1 221 (by omega) (by omega) (by omega), hf2 221 (by omega), up2_o _ _ (by omega)]) (fun i q => by rw [hf'.1 223 (by omega) (by omega) (by omega), hf2 223 (by omega), up2_o _ _ (by omega)]) (fun i q => by rw [hf'.1 224 (by omega) (by omega) (by omega), hf2 224 (by omega), up2_o _ _ (by omega)])
  have hfx : ∀ f', FrF f2 f' → FrX f f' := fun f' hf' c q => by rw [hf'.1 c (by omega) (by omega) (by omega), hf2 c (by omega), up2_o _ _ (by omega)]
  have hr0 : RdA (f2 225) 0 pl0 rdI := ⟨hz2 0 (by omega), hz2 1 (by omega), hz2 2 (by omega), hz2 3 (by omega), fun j hj => ⟨hz2 _ (by omega), hz2 _ (by omega)⟩, fun k hk => by simp only [pl0] at hk; omega, fun c hc => by rw [hz2 _ (by omega)]; rfl⟩
  refine r_aload_n rfl rfl ?_
  refine r_callV0 rfl rfl (by first | assumption | exact hs.o rfl) rfl (c_readsShow (t := aTx a) (by omega) hs hT hmx (by rw [hf2 219 (by omega), up2_same]) hr0 (fun pl rd hr f3 hf3 z1 z2 z3 => ?_) (fun e he f3 hf3 z1 z2 z3 => ?_))
  · refine r_if_y rfl (by decide) ?_
    refine r_iconst rfl ?_
    refine r_istore_n (L' := [_, _]) rfl rfl rfl ?_
    obtain ⟨hpl, hst⟩ := dShow_ok _ _ _ _ _ _ _ hr (sk_le (by omega)) (Or.inl ⟨rfl, rfl, rfl⟩)
    refine l_sy (f0 := f3) hs (fun f4 hf4 hz4 => ?_) 0 (by omega) f3 (fun c _ => rfl) (fun j hj => absurd hj (by omega))
    obtain ⟨a1, a2, a3, a4, a5, a6, a7⟩ := z3
    have e4 : ∀ j, j < 115 → f4 229 j = f3 225 j := fun j hj => (hz4 j (by omega)).trans (if_pos hj)
    have hPl : MPl (f4 229) pl := ⟨by rw [e4 0 (by omega)]; exact a1, by rw [e4 1 (by omega)]; exact a2, by rw [e4 2 (by omega)]; exact a3, by rw [e4 3 (by omega)]; exact a4, fun j hj => by rw [e4 _ (by omega), e4 _ (by omega)]; exact a5 j hj⟩
    have hMt : MT (f4 229) rd := ⟨fun k hk q => by rw [e4 _ (by omega), e4 _ (by omega), e4 _ (by omega)]; exact a6 k (by have := hst.2.2.2 k hk; omega), fun c hc => by rw [e4 _ (by omega)]; exact a7 c hc⟩
    refine r_aload_n rfl rfl ?_
    refine r_callV0 rfl rfl (by first | assumption | exact hs.o rfl) rfl (c_begins (by omega) hs hPl hMt hpl hst (fun f5 hf5 hm5 => ?_))
    refine r_aload_n rfl rfl ?_
    refine r_iconst rfl ?_
    refine r_putI rfl (by first | assumption | exact hs.o rfl) ?_
    refine r_aload_n rfl rfl ?_
    refine r_getR rfl (by first | assumption | exact hs.o rfl) (by first | assumption | exact hs.g rfl) ?_
    refine r_iconst rfl ?_
    refine r_iald rfl (by first | assumption | exact hs.a rfl) (by omega) (by omega) ((zix (n := 3) rfl).trans (show _ = pl.2.2.1 from by rw [up2_o _ _ (by omega), hf5.2 3 (by omega)]; exact hPl.2.2.2.1)) ?_
    refine r_iret rfl ?_
    rw [sShow_inr hr] at K
    refine K _ ?_ (fun c q => ?_)
    · rw [← showTo_sT a a.tp rfl]
      refine (hto f3 hf3 z1).shw (fun k q1 q2 => ?_) (fun i q => ?_) (up2_same _ _ _ _) ⟨⟨?_, ?_⟩, ?_, ?_, fun i hi => absurd hi (by show ¬ i < 0; omega)⟩ rfl
      · rw [up2_o _ _ q1, hf5.1 k q2, hf4 k q2]
      · rw [up2_ne _ _ (by omega), hf5.1 219 (by omega), hf4 219 (by omega)]
      · rw [up2_o _ _ (by omega)]
        exact hPl.fr2 hf5.2
      · rw [up2_o _ _ (by omega)]
        exact hMt.frk hf5.2
      · rw [up2_o _ _ (by omega)]; exact hm5
      · rw [up2_o _ _ (by omega), hf5.2 145 (by omega), hz4 145 (by omega), if_neg (by omega)]; rfl
    · rw [up2_o _ _ (by omega), hf5.1 c (by omega), hf4 c (by omega)]
      exact hfx f3 hf3 c q
  · refine r_if_n rfl (by decide) ?_
    refine r_bipush rfl ?_
    refine r_aload_n rfl rfl ?_
    refine r_getI rfl (by first | assumption | exact hs.o rfl) z2 ?_
    refine r_isub rfl ?_
    refine r_iret rfl ?_
    rw [sShow_inl he] at K
    exact K f3 (hto f3 hf3 z1) (hfx f3 hf3)
end MSHOW3
