/-! Rests: the reference -/
section MRESTS
variable {d : Nat} {σ : ZS} {f f0 f' : ZF} {g : ZG} {Q : ZQ} {n m N : Int} {rd rd' : Rd} {pl : Pl} {rd0 : Rd} {al : Rd → Nat → Bool} {cl : Int} {a : AS}
theorem TM.w232 {i : Nat} {v : Int} (h : TM σ f g pl al cl) : TM σ (up2 f 232 i v) g pl al cl := h.fr2 (fun c q1 q2 => up2_o _ _ (by omega)) (fun i _ => by rw [up2_o _ _ (by omega)]) (fun i _ => by rw [up2_o _ _ (by omega)]) h.2.2.2.1 (by rw [up2_o _ _ (by omega)]; exact h.2.2.1)
theorem gn_y {c k : Nat} (h0 : gn pl al rd c k = 0) (hb : isBit (rStep pl al (-1) (rIt pl al (-1) k rd)).2.1 c) : gn pl al rd c (k + 1) = 100 - ((k + 1 : Nat) : Int) := if_pos ⟨h0, hb⟩
theorem gn_n {c k : Nat} (h : ¬ gn pl al rd c k = 0 ∨ ¬ isBit (rStep pl al (-1) (rIt pl al (-1) k rd)).2.1 c) : gn pl al rd c (k + 1) = gn pl al rd c k := if_neg (fun q => by rcases h with h | h; exact h q.1; exact h q.2)
theorem l_fiR (hd1 : 10 ≤ d) (hs : Sh σ g) {f00 : ZF} (hv : VS pl N (-1) rd) {n : Nat} (hn : n ≤ 20) (hN : N + 7 * (n : Int) ≤ 1000000) {x1 y1 c : Nat} (hc25 : c < 25) {s : Nat → Int} (K : ∀ f' x, Kp f00 f' → TM σ f' g pl al (-1) → (∀ i, i ≠ 18 → i ≠ 25 → f' 219 i = f0 219 i) → f' 232 (2 * c) = gn pl al rd x1 n → f' 232 (2 * c + 1) = gn pl al rd y1 n → (∀ i, ¬ (i = 2 * c ∨ i = 2 * c + 1) → f' 232 i = s i) → ZWp d zt232 144 [zr (some 219), zi (x1 : Int), zi (y1 : Int), zi (c : Int), zi (n : Int), zi ((n + 1 : Nat) : Int), x] [] σ f' g Q) (k : Nat) (hk : k ≤ n) (f : ZF) (x : ZV) (hkp : Kp f00 f) (ht : TM σ f g pl al (-1)) (h : MRd (f 229) (rIt pl al (-1) k rd)) (h219 : ∀ i, i ≠ 18 → i ≠ 25 → f 219 i = f0 219 i) (h1 : f 232 (2 * c) = gn pl al rd x1 k) (h2 : f 232 (2 * c + 1) = gn pl al rd y1 k) (hoth : ∀ i, ¬ (i = 2 * c ∨ i = 2 * c + 1) → f 232 i = s i) : ZWp d zt232 55 [zr (some 219), zi (x1 : Int), zi (y1 : Int), zi (c : Int), zi (n : Int), zi ((k + 1 : Nat) : Int), x] [] σ f g Q := by
  have hvN := hv.1.2.2.2.2.2.2
  refine r_iload rfl rfl ?_
  refine r_iload rfl rfl ?_
  refine r_icmp_gt rfl (by omega) (by omega) (fun hgt => ?_) (fun hgt => ?_)
  · have e : k = n := by omega
    subst e
    exact K f _ hkp ht h219 h1 h2 hoth
  · refine r_aload_n rfl rfl ?_
    refine r_callV0 rfl rfl (by first | assumption | exact hs.o rfl) rfl (c_psv (by omega) hs ht h (hv.it ht.2.1 k (by omega)).1 (by omega) (fun f1 hf1 ht1 hm1 hst1 => ?_))
    have e232 : f1 232 = f 232 := hf1.1 232 (by omega) (by omega) (by omega) (by omega)
    have hg1 := gn_rng (pl := pl) (al := al) (rd := rd) (c := x1) k (by omega)
    have hg2 := gn_rng (pl := pl) (al := al) (rd := rd) (c := y1) k (by omega)
    have h219' : ∀ i, i ≠ 18 → i ≠ 25 → f1 219 i = f0 219 i := fun i q1 q2 => (hf1.2.1 i q1 q2).trans (h219 i q1 q2)
    refine r_istore (L' := [_, _, _, _, _, _, _]) rfl rfl rfl ?_
    refine r_aload_n rfl rfl ?_
    refine r_getR rfl (by first | assumption | exact hs.o rfl) (by first | assumption | exact hs.g rfl) ?_
    refine r_iconst rfl ?_
    refine r_iload_n rfl rfl ?_
    refine r_imul rfl ?_
    refine r_iald rfl (by first | assumption | exact hs.a rfl) (by omega) (by omega) ((zix (n := 2 * c) (by omega)).trans ((congrFun e232 _).trans h1)) ?_
    refine r_if_ne rfl (by omega) (fun hz1 => ?_) (fun hz1 => ?_)
    · refine r_aload_n rfl rfl ?_
      refine r_getR rfl (by first | assumption | exact hs.o rfl) (by first | assumption | exact hs.g rfl) ?_
      refine r_iconst rfl ?_
      refine r_iload_n rfl rfl ?_
      refine r_imul rfl ?_
      refine r_iconst rfl ?_
      refine r_iadd rfl ?_
      refine r_iald rfl (by first | assumption | exact hs.a rfl) (by omega) (by omega) ((zix (n := 2 * c + 1) (by omega)).trans (by first | exact ((congrFun e232 _).trans h2) | exact ((up2_ne _ _ (by omega)).trans ((congrFun e232 _).trans h2)))) ?_
      refine r_if_ne rfl (by omega) (fun hz2 => ?_) (fun hz2 => ?_)
      · refine r_iinc (L' := [_, _, _, _, _, _, _]) rfl rfl rfl ?_
        refine r_goto rfl ?_
        first
        | (have g1 := gn_y hz1 hb1
           have g2 := gn_y hz2 hb2
           refine l_fiR hd1 hs hv hn hN hc25 K (k + 1) (by omega) _ _ (((hkp.m hf1).up (by omega)).up (by omega)) ht1.w232.w232 (by rw [up2_o _ _ (by omega), up2_o _ _ (by omega)]; exact hm1) (fun i q1 q2 => by rw [up2_o _ _ (by omega), up2_o _ _ (by omega)]; exact h219' i q1 q2) ?_ ?_ (fun i q => ?_)
           · rw [up2_ne _ _ (by omega), up2_same, g1]
           · rw [up2_same, g2]
           · rw [up2_ne _ _ (by omega), up2_ne _ _ (by omega), e232]; exact hoth i q)
        | (have g1 := gn_y hz1 hb1
           have g2 : gn pl al rd y1 (k + 1) = gn pl al rd y1 k := by first | exact gn_n (Or.inl hz2) | exact gn_n (Or.inr hb2)
           refine l_fiR hd1 hs hv hn hN hc25 K (k + 1) (by omega) _ _ ((hkp.m hf1).up (by omega)) ht1.w232 (by rw [up2_o _ _ (by omega)]; exact hm1) (fun i q1 q2 => by rw [up2_o _ _ (by omega)]; exact h219' i q1 q2) ?_ ?_ (fun i q => ?_)
           · rw [up2_same, g1]
           · rw [up2_ne _ _ (by omega), e232, g2]; exact h2
           · rw [up2_ne _ _ (by omega), e232]; exact hoth i q)
        | (have g1 : gn pl al rd x1 (k + 1) = gn pl al rd x1 k := by first | exact gn_n (Or.inl hz1) | exact gn_n (Or.inr hb1)
           have g2 := gn_y hz2 hb2
           refine l_fiR hd1 hs hv hn hN hc25 K (k + 1) (by omega) _ _ ((hkp.m hf1).up (by omega)) ht1.w232 (by rw [up2_o _ _ (by omega)]; exact hm1) (fun i q1 q2 => by rw [up2_o _ _ (by omega)]; exact h219' i q1 q2) ?_ ?_ (fun i q => ?_)
           · rw [up2_ne _ _ (by omega), e232, g1]; exact h1
           · rw [up2_same, g2]
           · rw [up2_ne _ _ (by omega), e232]; exact hoth i q)
        | (have g1 : gn pl al rd x1 (k + 1) = gn pl al rd x1 k := by first | exact gn_n (Or.inl hz1) | exact gn_n (Or.inr hb1)
           have g2 : gn pl al rd y1 (k + 1) = gn pl al rd y1 k := by first | exact gn_n (Or.inl hz2) | exact gn_n (Or.inr hb2)
           refine l_fiR hd1 hs hv hn hN hc25 K (k + 1) (by omega) _ _ (hkp.m hf1) ht1 hm1 h219' ?_ ?_ (fun i q => ?_)
           · rw [e232, g1]; exact h1
           · rw [e232, g2]; exact h2
           · rw [e232]; exact hoth i q)
      · refine r_iload rfl rfl ?_
        refine r_iload_n rfl rfl ?_
        refine r_callS2 rfl rfl rfl (c_isOf (by omega) (fun hb2 => ?_) (fun hb2 => ?_))
        · refine r_if_n rfl (by decide) ?_
          refine r_aload_n rfl rfl ?_
          refine r_getR rfl (by first | assumption | exact hs.o rfl) (by first | assumption | exact hs.g rfl) ?_
          refine r_iconst rfl ?_
          refine r_iload_n rfl rfl ?_
          refine r_imul rfl ?_
          refine r_iconst rfl ?_
          refine r_iadd rfl ?_
          refine r_bipush rfl ?_
          refine r_iload rfl rfl ?_
          refine r_isub rfl ?_
          refine r_iastN (2 * c + 1) rfl (by first | assumption | exact hs.a rfl) (by omega) (by omega) (by omega) ?_
          refine r_iinc (L' := [_, _, _, _, _, _, _]) rfl rfl rfl ?_
          refine r_goto rfl ?_
          first
          | (have g1 := gn_y hz1 hb1
             have g2 := gn_y hz2 hb2
             refine l_fiR hd1 hs hv hn hN hc25 K (k + 1) (by omega) _ _ (((hkp.m hf1).up (by omega)).up (by omega)) ht1.w232.w232 (by rw [up2_o _ _ (by omega), up2_o _ _ (by omega)]; exact hm1) (fun i q1 q2 => by rw [up2_o _ _ (by omega), up2_o _ _ (by omega)]; exact h219' i q1 q2) ?_ ?_ (fun i q => ?_)
             · rw [up2_ne _ _ (by omega), up2_same, g1]
             · rw [up2_same, g2]
             · rw [up2_ne _ _ (by omega), up2_ne _ _ (by omega), e232]; exact hoth i q)
          | (have g1 := gn_y hz1 hb1
             have g2 : gn pl al rd y1 (k + 1) = gn pl al rd y1 k := by first | exact gn_n (Or.inl hz2) | exact gn_n (Or.inr hb2)
             refine l_fiR hd1 hs hv hn hN hc25 K (k + 1) (by omega) _ _ ((hkp.m hf1).up (by omega)) ht1.w232 (by rw [up2_o _ _ (by omega)]; exact hm1) (fun i q1 q2 => by rw [up2_o _ _ (by omega)]; exact h219' i q1 q2) ?_ ?_ (fun i q => ?_)
             · rw [up2_same, g1]
             · rw [up2_ne _ _ (by omega), e232, g2]; exact h2
             · rw [up2_ne _ _ (by omega), e232]; exact hoth i q)
          | (have g1 : gn pl al rd x1 (k + 1) = gn pl al rd x1 k := by first | exact gn_n (Or.inl hz1) | exact gn_n (Or.inr hb1)
             have g2 := gn_y hz2 hb2
             refine l_fiR hd1 hs hv hn hN hc25 K (k + 1) (by omega) _ _ ((hkp.m hf1).up (by omega)) ht1.w232 (by rw [up2_o _ _ (by omega)]; exact hm1) (fun i q1 q2 => by rw [up2_o _ _ (by omega)]; exact h219' i q1 q2) ?_ ?_ (fun i q => ?_)
             · rw [up2_ne _ _ (by omega), e232, g1]; exact h1
             · rw [up2_same, g2]
             · rw [up2_ne _ _ (by omega), e232]; exact hoth i q)
          | (have g1 : gn pl al rd x1 (k + 1) = gn pl al rd x1 k := by first | exact gn_n (Or.inl hz1) | exact gn_n (Or.inr hb1)
             have g2 : gn pl al rd y1 (k + 1) = gn pl al rd y1 k := by first | exact gn_n (Or.inl hz2) | exact gn_n (Or.inr hb2)
             refine l_fiR hd1 hs hv hn hN hc25 K (k + 1) (by omega) _ _ (hkp.m hf1) ht1 hm1 h219' ?_ ?_ (fun i q => ?_)
             · rw [e232, g1]; exact h1
             · rw [e232, g2]; exact h2
             · rw [e232]; exact hoth i q)
        · refine r_if_y rfl (by decide) ?_
          refine r_iinc (L' := [_, _, _, _, _, _, _]) rfl rfl rfl ?_
          refine r_goto rfl ?_
          first
          | (have g1 := gn_y hz1 hb1
             have g2 := gn_y hz2 hb2
             refine l_fiR hd1 hs hv hn hN hc25 K (k + 1) (by omega) _ _ (((hkp.m hf1).up (by omega)).up (by omega)) ht1.w232.w232 (by rw [up2_o _ _ (by omega), up2_o _ _ (by omega)]; exact hm1) (fun i q1 q2 => by rw [up2_o _ _ (by omega), up2_o _ _ (by omega)]; exact h219' i q1 q2) ?_ ?_ (fun i q => ?_)
             · rw [up2_ne _ _ (by omega), up2_same, g1]
             · rw [up2_same, g2]
             · rw [up2_ne _ _ (by omega), up2_ne _ _ (by omega), e232]; exact hoth i q)
          | (have g1 := gn_y hz1 hb1
             have g2 : gn pl al rd y1 (k + 1) = gn pl al rd y1 k := by first | exact gn_n (Or.inl hz2) | exact gn_n (Or.inr hb2)
             refine l_fiR hd1 hs hv hn hN hc25 K (k + 1) (by omega) _ _ ((hkp.m hf1).up (by omega)) ht1.w232 (by rw [up2_o _ _ (by omega)]; exact hm1) (fun i q1 q2 => by rw [up2_o _ _ (by omega)]; exact h219' i q1 q2) ?_ ?_ (fun i q => ?_)
             · rw [up2_same, g1]
             · rw [up2_ne _ _ (by omega), e232, g2]; exact h2
             · rw [up2_ne _ _ (by omega), e232]; exact hoth i q)
          | (have g1 : gn pl al rd x1 (k + 1) = gn pl al rd x1 k := by first | exact gn_n (Or.inl hz1) | exact gn_n (Or.inr hb1)
             have g2 := gn_y hz2 hb2
             refine l_fiR hd1 hs hv hn hN hc25 K (k + 1) (by omega) _ _ ((hkp.m hf1).up (by omega)) ht1.w232 (by rw [up2_o _ _ (by omega)]; exact hm1) (fun i q1 q2 => by rw [up2_o _ _ (by omega)]; exact h219' i q1 q2) ?_ ?_ (fun i q => ?_)
             · rw [up2_ne _ _ (by omega), e232, g1]; exact h1
             · rw [up2_same, g2]
             · rw [up2_ne _ _ (by omega), e232]; exact hoth i q)
          | (have g1 : gn pl al rd x1 (k + 1) = gn pl al rd x1 k := by first | exact gn_n (Or.inl hz1) | exact gn_n (Or.inr hb1)
             have g2 : gn pl al rd y1 (k + 1) = gn pl al rd y1 k := by first | exact gn_n (Or.inl hz2) | exact gn_n (Or.inr hb2)
             refine l_fiR hd1 hs hv hn hN hc25 K (k + 1) (by omega) _ _ (hkp.m hf1) ht1 hm1 h219' ?_ ?_ (fun i q => ?_)
             · rw [e232, g1]; exact h1
             · rw [e232, g2]; exact h2
             · rw [e232]; exact hoth i q)
    · refine r_iload rfl rfl ?_
      refine r_iload_n rfl rfl ?_
      refine r_callS2 rfl rfl rfl (c_isOf (by omega) (fun hb1 => ?_) (fun hb1 => ?_))
      · refine r_if_n rfl (by decide) ?_
        refine r_aload_n rfl rfl ?_
        refine r_getR rfl (by first | assumption | exact hs.o rfl) (by first | assumption | exact hs.g rfl) ?_
        refine r_iconst rfl ?_
        refine r_iload_n rfl rfl ?_
        refine r_imul rfl ?_
        refine r_bipush rfl ?_
        refine r_iload rfl rfl ?_
        refine r_isub rfl ?_
        refine r_iastN (2 * c) rfl (by first | assumption | exact hs.a rfl) (by omega) (by omega) (by omega) ?_
        refine r_aload_n rfl rfl ?_
        refine r_getR rfl (by first | assumption | exact hs.o rfl) (by first | assumption | exact hs.g rfl) ?_
        refine r_iconst rfl ?_
        refine r_iload_n rfl rfl ?_
        refine r_imul rfl ?_
        refine r_iconst rfl ?_
        refine r_iadd rfl ?_
        refine r_iald rfl (by first | assumption | exact hs.a rfl) (by omega) (by omega) ((zix (n := 2 * c + 1) (by omega)).trans (by first | exact ((congrFun e232 _).trans h2) | exact ((up2_ne _ _ (by omega)).trans ((congrFun e232 _).trans h2)))) ?_
        refine r_if_ne rfl (by omega) (fun hz2 => ?_) (fun hz2 => ?_)
        · refine r_iinc (L' := [_, _, _, _, _, _, _]) rfl rfl rfl ?_
          refine r_goto rfl ?_
          first
          | (have g1 := gn_y hz1 hb1
             have g2 := gn_y hz2 hb2
             refine l_fiR hd1 hs hv hn hN hc25 K (k + 1) (by omega) _ _ (((hkp.m hf1).up (by omega)).up (by omega)) ht1.w232.w232 (by rw [up2_o _ _ (by omega), up2_o _ _ (by omega)]; exact hm1) (fun i q1 q2 => by rw [up2_o _ _ (by omega), up2_o _ _ (by omega)]; exact h219' i q1 q2) ?_ ?_ (fun i q => ?_)
             · rw [up2_ne _ _ (by omega), up2_same, g1]
             · rw [up2_same, g2]
             · rw [up2_ne _ _ (by omega), up2_ne _ _ (by omega), e232]; exact hoth i q)
          | (have g1 := gn_y hz1 hb1
             have g2 : gn pl al rd y1 (k + 1) = gn pl al rd y1 k := by first | exact gn_n (Or.inl hz2) | exact gn_n (Or.inr hb2)
             refine l_fiR hd1 hs hv hn hN hc25 K (k + 1) (by omega) _ _ ((hkp.m hf1).up (by omega)) ht1.w232 (by rw [up2_o _ _ (by omega)]; exact hm1) (fun i q1 q2 => by rw [up2_o _ _ (by omega)]; exact h219' i q1 q2) ?_ ?_ (fun i q => ?_)
             · rw [up2_same, g1]
             · rw [up2_ne _ _ (by omega), e232, g2]; exact h2
             · rw [up2_ne _ _ (by omega), e232]; exact hoth i q)
          | (have g1 : gn pl al rd x1 (k + 1) = gn pl al rd x1 k := by first | exact gn_n (Or.inl hz1) | exact gn_n (Or.inr hb1)
             have g2 := gn_y hz2 hb2
             refine l_fiR hd1 hs hv hn hN hc25 K (k + 1) (by omega) _ _ ((hkp.m hf1).up (by omega)) ht1.w232 (by rw [up2_o _ _ (by omega)]; exact hm1) (fun i q1 q2 => by rw [up2_o _ _ (by omega)]; exact h219' i q1 q2) ?_ ?_ (fun i q => ?_)
             · rw [up2_ne _ _ (by omega), e232, g1]; exact h1
             · rw [up2_same, g2]
             · rw [up2_ne _ _ (by omega), e232]; exact hoth i q)
          | (have g1 : gn pl al rd x1 (k + 1) = gn pl al rd x1 k := by first | exact gn_n (Or.inl hz1) | exact gn_n (Or.inr hb1)
             have g2 : gn pl al rd y1 (k + 1) = gn pl al rd y1 k := by first | exact gn_n (Or.inl hz2) | exact gn_n (Or.inr hb2)
             refine l_fiR hd1 hs hv hn hN hc25 K (k + 1) (by omega) _ _ (hkp.m hf1) ht1 hm1 h219' ?_ ?_ (fun i q => ?_)
             · rw [e232, g1]; exact h1
             · rw [e232, g2]; exact h2
             · rw [e232]; exact hoth i q)
        · refine r_iload rfl rfl ?_
          refine r_iload_n rfl rfl ?_
          refine r_callS2 rfl rfl rfl (c_isOf (by omega) (fun hb2 => ?_) (fun hb2 => ?_))
          · refine r_if_n rfl (by decide) ?_
            refine r_aload_n rfl rfl ?_
            refine r_getR rfl (by first | assumption | exact hs.o rfl) (by first | assumption | exact hs.g rfl) ?_
            refine r_iconst rfl ?_
            refine r_iload_n rfl rfl ?_
            refine r_imul rfl ?_
            refine r_iconst rfl ?_
            refine r_iadd rfl ?_
            refine r_bipush rfl ?_
            refine r_iload rfl rfl ?_
            refine r_isub rfl ?_
            refine r_iastN (2 * c + 1) rfl (by first | assumption | exact hs.a rfl) (by omega) (by omega) (by omega) ?_
            refine r_iinc (L' := [_, _, _, _, _, _, _]) rfl rfl rfl ?_
            refine r_goto rfl ?_
            first
            | (have g1 := gn_y hz1 hb1
               have g2 := gn_y hz2 hb2
               refine l_fiR hd1 hs hv hn hN hc25 K (k + 1) (by omega) _ _ (((hkp.m hf1).up (by omega)).up (by omega)) ht1.w232.w232 (by rw [up2_o _ _ (by omega), up2_o _ _ (by omega)]; exact hm1) (fun i q1 q2 => by rw [up2_o _ _ (by omega), up2_o _ _ (by omega)]; exact h219' i q1 q2) ?_ ?_ (fun i q => ?_)
               · rw [up2_ne _ _ (by omega), up2_same, g1]
               · rw [up2_same, g2]
               · rw [up2_ne _ _ (by omega), up2_ne _ _ (by omega), e232]; exact hoth i q)
            | (have g1 := gn_y hz1 hb1
               have g2 : gn pl al rd y1 (k + 1) = gn pl al rd y1 k := by first | exact gn_n (Or.inl hz2) | exact gn_n (Or.inr hb2)
               refine l_fiR hd1 hs hv hn hN hc25 K (k + 1) (by omega) _ _ ((hkp.m hf1).up (by omega)) ht1.w232 (by rw [up2_o _ _ (by omega)]; exact hm1) (fun i q1 q2 => by rw [up2_o _ _ (by omega)]; exact h219' i q1 q2) ?_ ?_ (fun i q => ?_)
               · rw [up2_same, g1]
               · rw [up2_ne _ _ (by omega), e232, g2]; exact h2
               · rw [up2_ne _ _ (by omega), e232]; exact hoth i q)
            | (have g1 : gn pl al rd x1 (k + 1) = gn pl al rd x1 k := by first | exact gn_n (Or.inl hz1) | exact gn_n (Or.inr hb1)
               have g2 := gn_y hz2 hb2
               refine l_fiR hd1 hs hv hn hN hc25 K (k + 1) (by omega) _ _ ((hkp.m hf1).up (by omega)) ht1.w232 (by rw [up2_o _ _ (by omega)]; exact hm1) (fun i q1 q2 => by rw [up2_o _ _ (by omega)]; exact h219' i q1 q2) ?_ ?_ (fun i q => ?_)
               · rw [up2_ne _ _ (by omega), e232, g1]; exact h1
               · rw [up2_same, g2]
               · rw [up2_ne _ _ (by omega), e232]; exact hoth i q)
            | (have g1 : gn pl al rd x1 (k + 1) = gn pl al rd x1 k := by first | exact gn_n (Or.inl hz1) | exact gn_n (Or.inr hb1)
               have g2 : gn pl al rd y1 (k + 1) = gn pl al rd y1 k := by first | exact gn_n (Or.inl hz2) | exact gn_n (Or.inr hb2)
               refine l_fiR hd1 hs hv hn hN hc25 K (k + 1) (by omega) _ _ (hkp.m hf1) ht1 hm1 h219' ?_ ?_ (fun i q => ?_)
               · rw [e232, g1]; exact h1
               · rw [e232, g2]; exact h2
               · rw [e232]; exact hoth i q)
          · refine r_if_y rfl (by decide) ?_
            refine r_iinc (L' := [_, _, _, _, _, _, _]) rfl rfl rfl ?_
            refine r_goto rfl ?_
            first
            | (have g1 := gn_y hz1 hb1
               have g2 := gn_y hz2 hb2
               refine l_fiR hd1 hs hv hn hN hc25 K (k + 1) (by omega) _ _ (((hkp.m hf1).up (by omega)).up (by omega)) ht1.w232.w232 (by rw [up2_o _ _ (by omega), up2_o _ _ (by omega)]; exact hm1) (fun i q1 q2 => by rw [up2_o _ _ (by omega), up2_o _ _ (by omega)]; exact h219' i q1 q2) ?_ ?_ (fun i q => ?_)
               · rw [up2_ne _ _ (by omega), up2_same, g1]
               · rw [up2_same, g2]
               · rw [up2_ne _ _ (by omega), up2_ne _ _ (by omega), e232]; exact hoth i q)
            | (have g1 := gn_y hz1 hb1
               have g2 : gn pl al rd y1 (k + 1) = gn pl al rd y1 k := by first | exact gn_n (Or.inl hz2) | exact gn_n (Or.inr hb2)
               refine l_fiR hd1 hs hv hn hN hc25 K (k + 1) (by omega) _ _ ((hkp.m hf1).up (by omega)) ht1.w232 (by rw [up2_o _ _ (by omega)]; exact hm1) (fun i q1 q2 => by rw [up2_o _ _ (by omega)]; exact h219' i q1 q2) ?_ ?_ (fun i q => ?_)
               · rw [up2_same, g1]
               · rw [up2_ne _ _ (by omega), e232, g2]; exact h2
               · rw [up2_ne _ _ (by omega), e232]; exact hoth i q)
            | (have g1 : gn pl al rd x1 (k + 1) = gn pl al rd x1 k := by first | exact gn_n (Or.inl hz1) | exact gn_n (Or.inr hb1)
               have g2 := gn_y hz2 hb2
               refine l_fiR hd1 hs hv hn hN hc25 K (k + 1) (by omega) _ _ ((hkp.m hf1).up (by omega)) ht1.w232 (by rw [up2_o _ _ (by omega)]; exact hm1) (fun i q1 q2 => by rw [up2_o _ _ (by omega)]; exact h219' i q1 q2) ?_ ?_ (fun i q => ?_)
               · rw [up2_ne _ _ (by omega), e232, g1]; exact h1
               · rw [up2_same, g2]
               · rw [up2_ne _ _ (by omega), e232]; exact hoth i q)
            | (have g1 : gn pl al rd x1 (k + 1) = gn pl al rd x1 k := by first | exact gn_n (Or.inl hz1) | exact gn_n (Or.inr hb1)
               have g2 : gn pl al rd y1 (k + 1) = gn pl al rd y1 k := by first | exact gn_n (Or.inl hz2) | exact gn_n (Or.inr hb2)
               refine l_fiR hd1 hs hv hn hN hc25 K (k + 1) (by omega) _ _ (hkp.m hf1) ht1 hm1 h219' ?_ ?_ (fun i q => ?_)
               · rw [e232, g1]; exact h1
               · rw [e232, g2]; exact h2
               · rw [e232]; exact hoth i q)
      · refine r_if_y rfl (by decide) ?_
        refine r_aload_n rfl rfl ?_
        refine r_getR rfl (by first | assumption | exact hs.o rfl) (by first | assumption | exact hs.g rfl) ?_
        refine r_iconst rfl ?_
        refine r_iload_n rfl rfl ?_
        refine r_imul rfl ?_
        refine r_iconst rfl ?_
        refine r_iadd rfl ?_
        refine r_iald rfl (by first | assumption | exact hs.a rfl) (by omega) (by omega) ((zix (n := 2 * c + 1) (by omega)).trans (by first | exact ((congrFun e232 _).trans h2) | exact ((up2_ne _ _ (by omega)).trans ((congrFun e232 _).trans h2)))) ?_
        refine r_if_ne rfl (by omega) (fun hz2 => ?_) (fun hz2 => ?_)
        · refine r_iinc (L' := [_, _, _, _, _, _, _]) rfl rfl rfl ?_
          refine r_goto rfl ?_
          first
          | (have g1 := gn_y hz1 hb1
             have g2 := gn_y hz2 hb2
             refine l_fiR hd1 hs hv hn hN hc25 K (k + 1) (by omega) _ _ (((hkp.m hf1).up (by omega)).up (by omega)) ht1.w232.w232 (by rw [up2_o _ _ (by omega), up2_o _ _ (by omega)]; exact hm1) (fun i q1 q2 => by rw [up2_o _ _ (by omega), up2_o _ _ (by omega)]; exact h219' i q1 q2) ?_ ?_ (fun i q => ?_)
             · rw [up2_ne _ _ (by omega), up2_same, g1]
             · rw [up2_same, g2]
             · rw [up2_ne _ _ (by omega), up2_ne _ _ (by omega), e232]; exact hoth i q)
          | (have g1 := gn_y hz1 hb1
             have g2 : gn pl al rd y1 (k + 1) = gn pl al rd y1 k := by first | exact gn_n (Or.inl hz2) | exact gn_n (Or.inr hb2)
             refine l_fiR hd1 hs hv hn hN hc25 K (k + 1) (by omega) _ _ ((hkp.m hf1).up (by omega)) ht1.w232 (by rw [up2_o _ _ (by omega)]; exact hm1) (fun i q1 q2 => by rw [up2_o _ _ (by omega)]; exact h219' i q1 q2) ?_ ?_ (fun i q => ?_)
             · rw [up2_same, g1]
             · rw [up2_ne _ _ (by omega), e232, g2]; exact h2
             · rw [up2_ne _ _ (by omega), e232]; exact hoth i q)
          | (have g1 : gn pl al rd x1 (k + 1) = gn pl al rd x1 k := by first | exact gn_n (Or.inl hz1) | exact gn_n (Or.inr hb1)
             have g2 := gn_y hz2 hb2
             refine l_fiR hd1 hs hv hn hN hc25 K (k + 1) (by omega) _ _ ((hkp.m hf1).up (by omega)) ht1.w232 (by rw [up2_o _ _ (by omega)]; exact hm1) (fun i q1 q2 => by rw [up2_o _ _ (by omega)]; exact h219' i q1 q2) ?_ ?_ (fun i q => ?_)
             · rw [up2_ne _ _ (by omega), e232, g1]; exact h1
             · rw [up2_same, g2]
             · rw [up2_ne _ _ (by omega), e232]; exact hoth i q)
          | (have g1 : gn pl al rd x1 (k + 1) = gn pl al rd x1 k := by first | exact gn_n (Or.inl hz1) | exact gn_n (Or.inr hb1)
             have g2 : gn pl al rd y1 (k + 1) = gn pl al rd y1 k := by first | exact gn_n (Or.inl hz2) | exact gn_n (Or.inr hb2)
             refine l_fiR hd1 hs hv hn hN hc25 K (k + 1) (by omega) _ _ (hkp.m hf1) ht1 hm1 h219' ?_ ?_ (fun i q => ?_)
             · rw [e232, g1]; exact h1
             · rw [e232, g2]; exact h2
             · rw [e232]; exact hoth i q)
        · refine r_iload rfl rfl ?_
          refine r_iload_n rfl rfl ?_
          refine r_callS2 rfl rfl rfl (c_isOf (by omega) (fun hb2 => ?_) (fun hb2 => ?_))
          · refine r_if_n rfl (by decide) ?_
            refine r_aload_n rfl rfl ?_
            refine r_getR rfl (by first | assumption | exact hs.o rfl) (by first | assumption | exact hs.g rfl) ?_
            refine r_iconst rfl ?_
            refine r_iload_n rfl rfl ?_
            refine r_imul rfl ?_
            refine r_iconst rfl ?_
            refine r_iadd rfl ?_
            refine r_bipush rfl ?_
            refine r_iload rfl rfl ?_
            refine r_isub rfl ?_
            refine r_iastN (2 * c + 1) rfl (by first | assumption | exact hs.a rfl) (by omega) (by omega) (by omega) ?_
            refine r_iinc (L' := [_, _, _, _, _, _, _]) rfl rfl rfl ?_
            refine r_goto rfl ?_
            first
            | (have g1 := gn_y hz1 hb1
               have g2 := gn_y hz2 hb2
               refine l_fiR hd1 hs hv hn hN hc25 K (k + 1) (by omega) _ _ (((hkp.m hf1).up (by omega)).up (by omega)) ht1.w232.w232 (by rw [up2_o _ _ (by omega), up2_o _ _ (by omega)]; exact hm1) (fun i q1 q2 => by rw [up2_o _ _ (by omega), up2_o _ _ (by omega)]; exact h219' i q1 q2) ?_ ?_ (fun i q => ?_)
               · rw [up2_ne _ _ (by omega), up2_same, g1]
               · rw [up2_same, g2]
               · rw [up2_ne _ _ (by omega), up2_ne _ _ (by omega), e232]; exact hoth i q)
            | (have g1 := gn_y hz1 hb1
               have g2 : gn pl al rd y1 (k + 1) = gn pl al rd y1 k := by first | exact gn_n (Or.inl hz2) | exact gn_n (Or.inr hb2)
               refine l_fiR hd1 hs hv hn hN hc25 K (k + 1) (by omega) _ _ ((hkp.m hf1).up (by omega)) ht1.w232 (by rw [up2_o _ _ (by omega)]; exact hm1) (fun i q1 q2 => by rw [up2_o _ _ (by omega)]; exact h219' i q1 q2) ?_ ?_ (fun i q => ?_)
               · rw [up2_same, g1]
               · rw [up2_ne _ _ (by omega), e232, g2]; exact h2
               · rw [up2_ne _ _ (by omega), e232]; exact hoth i q)
            | (have g1 : gn pl al rd x1 (k + 1) = gn pl al rd x1 k := by first | exact gn_n (Or.inl hz1) | exact gn_n (Or.inr hb1)
               have g2 := gn_y hz2 hb2
               refine l_fiR hd1 hs hv hn hN hc25 K (k + 1) (by omega) _ _ ((hkp.m hf1).up (by omega)) ht1.w232 (by rw [up2_o _ _ (by omega)]; exact hm1) (fun i q1 q2 => by rw [up2_o _ _ (by omega)]; exact h219' i q1 q2) ?_ ?_ (fun i q => ?_)
               · rw [up2_ne _ _ (by omega), e232, g1]; exact h1
               · rw [up2_same, g2]
               · rw [up2_ne _ _ (by omega), e232]; exact hoth i q)
            | (have g1 : gn pl al rd x1 (k + 1) = gn pl al rd x1 k := by first | exact gn_n (Or.inl hz1) | exact gn_n (Or.inr hb1)
               have g2 : gn pl al rd y1 (k + 1) = gn pl al rd y1 k := by first | exact gn_n (Or.inl hz2) | exact gn_n (Or.inr hb2)
               refine l_fiR hd1 hs hv hn hN hc25 K (k + 1) (by omega) _ _ (hkp.m hf1) ht1 hm1 h219' ?_ ?_ (fun i q => ?_)
               · rw [e232, g1]; exact h1
               · rw [e232, g2]; exact h2
               · rw [e232]; exact hoth i q)
          · refine r_if_y rfl (by decide) ?_
            refine r_iinc (L' := [_, _, _, _, _, _, _]) rfl rfl rfl ?_
            refine r_goto rfl ?_
            first
            | (have g1 := gn_y hz1 hb1
               have g2 := gn_y hz2 hb2
               refine l_fiR hd1 hs hv hn hN hc25 K (k + 1) (by omega) _ _ (((hkp.m hf1).up (by omega)).up (by omega)) ht1.w232.w232 (by rw [up2_o _ _ (by omega), up2_o _ _ (by omega)]; exact hm1) (fun i q1 q2 => by rw [up2_o _ _ (by omega), up2_o _ _ (by omega)]; exact h219' i q1 q2) ?_ ?_ (fun i q => ?_)
               · rw [up2_ne _ _ (by omega), up2_same, g1]
               · rw [up2_same, g2]
               · rw [up2_ne _ _ (by omega), up2_ne _ _ (by omega), e232]; exact hoth i q)
            | (have g1 := gn_y hz1 hb1
               have g2 : gn pl al rd y1 (k + 1) = gn pl al rd y1 k := by first | exact gn_n (Or.inl hz2) | exact gn_n (Or.inr hb2)
               refine l_fiR hd1 hs hv hn hN hc25 K (k + 1) (by omega) _ _ ((hkp.m hf1).up (by omega)) ht1.w232 (by rw [up2_o _ _ (by omega)]; exact hm1) (fun i q1 q2 => by rw [up2_o _ _ (by omega)]; exact h219' i q1 q2) ?_ ?_ (fun i q => ?_)
               · rw [up2_same, g1]
               · rw [up2_ne _ _ (by omega), e232, g2]; exact h2
               · rw [up2_ne _ _ (by omega), e232]; exact hoth i q)
            | (have g1 : gn pl al rd x1 (k + 1) = gn pl al rd x1 k := by first | exact gn_n (Or.inl hz1) | exact gn_n (Or.inr hb1)
               have g2 := gn_y hz2 hb2
               refine l_fiR hd1 hs hv hn hN hc25 K (k + 1) (by omega) _ _ ((hkp.m hf1).up (by omega)) ht1.w232 (by rw [up2_o _ _ (by omega)]; exact hm1) (fun i q1 q2 => by rw [up2_o _ _ (by omega)]; exact h219' i q1 q2) ?_ ?_ (fun i q => ?_)
               · rw [up2_ne _ _ (by omega), e232, g1]; exact h1
               · rw [up2_same, g2]
               · rw [up2_ne _ _ (by omega), e232]; exact hoth i q)
            | (have g1 : gn pl al rd x1 (k + 1) = gn pl al rd x1 k := by first | exact gn_n (Or.inl hz1) | exact gn_n (Or.inr hb1)
               have g2 : gn pl al rd y1 (k + 1) = gn pl al rd y1 k := by first | exact gn_n (Or.inl hz2) | exact gn_n (Or.inr hb2)
               refine l_fiR hd1 hs hv hn hN hc25 K (k + 1) (by omega) _ _ (hkp.m hf1) ht1 hm1 h219' ?_ ?_ (fun i q => ?_)
               · rw [e232, g1]; exact h1
               · rw [e232, g2]; exact h2
               · rw [e232]; exact hoth i q)
termination_by n - k
theorem c_fillsRest (hd : 12 ≤ d) (hs : Sh σ g) {f00 : ZF} (hkp : Kp f00 f) (ht : TM σ f g pl al (-1)) (hv : VS pl N (-1) rd) {n : Nat} (hn : n ≤ 20) (hN : N + 7 * (n : Int) ≤ 1000000) (h : MRd (f 229) rd) {x1 y1 c : Nat} (hc25 : c < 25) (hx : x1 < 6 ∧ 0 ≤ rd 0 x1) (hy : y1 < 6 ∧ 0 ≤ rd 0 y1) (h5 : ((c / 5 : Nat) : Int) < pl.2.1) (h6 : ((c % 5 : Nat) : Int) < pl.2.1) (K : ∀ f', Kp f00 f' → f' 229 = f00 229 → TM σ f' g pl al (-1) → (∀ i, i ≠ 18 → i ≠ 25 → f' 219 i = f 219 i) → f' 232 (2 * c) = (rG pl al rd x1 y1 n c).1 → f' 232 (2 * c + 1) = (rG pl al rd x1 y1 n c).2 → (∀ i, ¬ (i = 2 * c ∨ i = 2 * c + 1) → f' 232 i = f 232 i) → Q none σ f' g) : ZCt d 232 [zr (some 219), zi (x1 : Int), zi (y1 : Int), zi (c : Int), zi (n : Int)] σ f g Q := by
  refine ZCt.of' (L0 := [_, _, _, _, _, _, _]) (by omega) rfl rfl rfl (fun d hd1 => ?_)
  refine r_aload_n rfl rfl ?_
  refine r_getR rfl (by first | assumption | exact hs.o rfl) (by first | assumption | exact hs.g rfl) ?_
  refine r_iconst rfl ?_
  refine r_iload_n rfl rfl ?_
  refine r_imul rfl ?_
  refine r_iconst rfl ?_
  refine r_iastN (2 * c) rfl (by first | assumption | exact hs.a rfl) (by omega) (by omega) (by omega) ?_
  refine r_aload_n rfl rfl ?_
  refine r_getR rfl (by first | assumption | exact hs.o rfl) (by first | assumption | exact hs.g rfl) ?_
  refine r_iconst rfl ?_
  refine r_iload_n rfl rfl ?_
  refine r_imul rfl ?_
  refine r_iconst rfl ?_
  refine r_iadd rfl ?_
  refine r_iconst rfl ?_
  refine r_iastN (2 * c + 1) rfl (by first | assumption | exact hs.a rfl) (by omega) (by omega) (by omega) ?_
  refine r_aload_n rfl rfl ?_
  refine r_getR rfl (by first | assumption | exact hs.o rfl) (by first | assumption | exact hs.g rfl) ?_
  refine r_bipush rfl ?_
  refine r_iconst rfl ?_
  refine r_iload_n rfl rfl ?_
  refine r_imul rfl ?_
  refine r_iadd rfl ?_
  refine r_iconst rfl ?_
  refine r_iadd rfl ?_
  refine r_iload_n rfl rfl ?_
  refine r_iconst rfl ?_
  refine r_idiv rfl (by omega) (by omega) (by omega) ?_
  rw [show ((c : Nat) : Int).tdiv 5 = ((c / 5 : Nat) : Int) from rfl]
  refine r_iastN (14 + 5 * x1) rfl (by first | assumption | exact hs.a rfl) (by omega) (by omega) (by omega) ?_
  refine r_aload_n rfl rfl ?_
  refine r_getR rfl (by first | assumption | exact hs.o rfl) (by first | assumption | exact hs.g rfl) ?_
  refine r_bipush rfl ?_
  refine r_iconst rfl ?_
  refine r_iload_n rfl rfl ?_
  refine r_imul rfl ?_
  refine r_iadd rfl ?_
  refine r_iconst rfl ?_
  refine r_iadd rfl ?_
  refine r_iload_n rfl rfl ?_
  refine r_iconst rfl ?_
  refine r_irem rfl (by omega) (by omega) (by omega) ?_
  rw [show ((c : Nat) : Int).tmod 5 = ((c % 5 : Nat) : Int) from rfl]
  refine r_iastN (14 + 5 * y1) rfl (by first | assumption | exact hs.a rfl) (by omega) (by omega) (by omega) ?_
  refine r_iconst rfl ?_
  refine r_istore (L' := [_, _, _, _, _, _, _]) rfl rfl rfl ?_
  have hm2 : MRd ((up2 (up2 (up2 (up2 f 232 (2 * c) 0) 232 (2 * c + 1) 0) 229 (14 + 5 * x1) ((c / 5 : Nat) : Int)) 229 (14 + 5 * y1) ((c % 5 : Nat) : Int)) 229) (rWi rd x1 y1 (c / 5) (c % 5)) :=
    mrd_want (mrd_want (f := up2 (up2 f 232 (2 * c) 0) 232 (2 * c + 1) 0) (by rw [up2_o _ _ (by omega), up2_o _ _ (by omega)]; exact h) hx.1 hx.2) hy.1 (by simpa [up2] using hy.2)
  refine l_fiR (f0 := f) (f00 := f00) (rd := rWi rd x1 y1 (c / 5) (c % 5)) (s := f 232) (by omega) hs (hv.wi hx.1 hy.1 hx.2 hy.2 h5 h6) hn (by omega) hc25 (fun f2 x hk2 ht2 h2192 h21 h22 h23 => ?_) 0 (by omega) _ _ ((((hkp.up (by omega)).up (by omega)).upS (by omega)).upS (by omega)) ((ht.w232.w232.sd (by omega)).sd (by omega)) hm2 (fun i q1 q2 => by rw [up2_o _ _ (by omega), up2_o _ _ (by omega), up2_o _ _ (by omega), up2_o _ _ (by omega)]) ?_ ?_ (fun i q => ?_)
  · refine r_aload_n rfl rfl ?_
    refine r_callV0 rfl rfl (by first | assumption | exact hs.o rfl) rfl (c_laysBack (by omega) hs hk2 (fun f9 hk9 h99 he9 => ?_))
    refine r_ret rfl ?_
    refine K f9 hk9 h99 (ht2.kp he9 (fun i q => by rw [h99]; exact (hk2.2.2.1 i q).symm)) (fun i q1 q2 => by rw [he9 219 (by omega)]; exact h2192 i q1 q2) ?_ ?_ (fun i q => ?_)
    · rw [he9 232 (by omega)]; exact h21
    · rw [he9 232 (by omega)]; exact h22
    · rw [he9 232 (by omega)]; exact h23 i q
  · rw [up2_o _ _ (by omega), up2_o _ _ (by omega), up2_ne _ _ (by omega), up2_same]; rfl
  · rw [up2_o _ _ (by omega), up2_o _ _ (by omega), up2_same]; rfl
  · rw [up2_o _ _ (by omega), up2_o _ _ (by omega), up2_ne _ _ (by omega), up2_ne _ _ (by omega)]
theorem c_isTwo (hd : 2 ≤ d) (hs : Sh σ g) {m c : Nat} (h2 : f 229 2 = (m : Int)) (hm5 : m ≤ 5) (hc25 : c < 25) (k1 : rTwo m c = true → Q (some (zi 1)) σ f g) (k2 : rTwo m c = false → Q (some (zi 0)) σ f g) : ZCt d 231 [zr (some 219), zi (c : Int)] σ f g Q := by
  refine ZCt.of' (L0 := [_, _]) (by omega) rfl rfl rfl (fun d hd1 => ?_)
  refine r_aload_n rfl rfl ?_
  refine r_iload_n rfl rfl ?_
  refine r_iconst rfl ?_
  refine r_idiv rfl (by omega) (by omega) (by omega) ?_
  rw [show ((c : Nat) : Int).tdiv 5 = ((c / 5 : Nat) : Int) from rfl]
  refine r_callV1 rfl rfl (by first | assumption | exact hs.o rfl) rfl (c_isRoad (by omega) hs (by omega) (by omega) (fun h5 => ?_) (fun h5 => ?_))
  · refine r_if_n rfl (by decide) ?_
    refine r_aload_n rfl rfl ?_
    refine r_iload_n rfl rfl ?_
    refine r_iconst rfl ?_
    refine r_irem rfl (by omega) (by omega) (by omega) ?_
    rw [show ((c : Nat) : Int).tmod 5 = ((c % 5 : Nat) : Int) from rfl]
    refine r_callV1 rfl rfl (by first | assumption | exact hs.o rfl) rfl (c_isRoad (by omega) hs (by omega) (by omega) (fun h6 => ?_) (fun h6 => ?_))
    · refine r_if_n rfl (by decide) ?_
      refine r_iconst rfl ?_
      refine r_goto rfl ?_
      refine r_zret rfl (by omega) ?_
      exact k1 (decide_eq_true (by omega))
    · refine r_if_y rfl (by decide) ?_
      refine r_iconst rfl ?_
      refine r_zret rfl (by omega) ?_
      exact k2 (decide_eq_false (by omega))
  · refine r_if_y rfl (by decide) ?_
    refine r_iconst rfl ?_
    refine r_zret rfl (by omega) ?_
    exact k2 (decide_eq_false (by omega))
theorem l_isRestM (hd1 : 0 ≤ d) (hs : Sh σ g) {m : Nat} (h2 : f 229 2 = (m : Int)) (hm5 : m ≤ 5) {G : Nat → Int × Int} (hG : ∀ c, -1 ≤ (G c).1 ∧ (G c).1 ≤ 100 ∧ -1 ≤ (G c).2 ∧ (G c).2 ≤ 100) (htab : ∀ c, c < 25 → rTwo m c = true → f 232 (2 * c) = (G c).1 ∧ f 232 (2 * c + 1) = (G c).2) {u v : Nat} (hu : u < m) (hv : v < m) (k1 : rRest G u v m = true → Q (some (zi 1)) σ f g) (k2 : rRest G u v m = false → Q (some (zi 0)) σ f g) (k : Nat) (hk : k ≤ m) (hall : rRest G u v k = true) : ZWp d zt233 2 [zr (some 219), zi (u : Int), zi (v : Int), zi (k : Int)] [] σ f g Q := by
  refine r_iload_n rfl rfl ?_
  refine r_aload_n rfl rfl ?_
  refine r_getR rfl (by first | assumption | exact hs.o rfl) (by first | assumption | exact hs.g rfl) ?_
  refine r_iconst rfl ?_
  refine r_iald rfl (by first | assumption | exact hs.a rfl) (by omega) (by omega) ((zix (n := 2) rfl).trans h2) ?_
  refine r_icmp_ge rfl (by omega) (by omega) (fun hge => ?_) (fun hge => ?_)
  · have e : k = m := by omega
    subst e
    refine r_iconst rfl ?_
    refine r_zret rfl (by omega) ?_
    exact k1 hall
  · have t0 := htab (5 * u + v) (by omega) (decide_eq_true (by omega))
    have t1 := htab (5 * k + v) (by omega) (decide_eq_true (by omega))
    have t2 := htab (5 * u + k) (by omega) (decide_eq_true (by omega))
    have g0 := hG (5 * u + v)
    have g1 := hG (5 * k + v)
    have g2 := hG (5 * u + k)
    refine r_aload_n rfl rfl ?_
    refine r_getR rfl (by first | assumption | exact hs.o rfl) (by first | assumption | exact hs.g rfl) ?_
    refine r_iconst rfl ?_
    refine r_iconst rfl ?_
    refine r_iload_n rfl rfl ?_
    refine r_imul rfl ?_
    refine r_iload_n rfl rfl ?_
    refine r_iadd rfl ?_
    refine r_imul rfl ?_
    refine r_iald rfl (by first | assumption | exact hs.a rfl) (by omega) (by omega) ((zix (n := 2 * (5 * k + v)) (by omega)).trans t1.1) ?_
    refine r_aload_n rfl rfl ?_
    refine r_getR rfl (by first | assumption | exact hs.o rfl) (by first | assumption | exact hs.g rfl) ?_
    refine r_iconst rfl ?_
    refine r_iconst rfl ?_
    refine r_iload_n rfl rfl ?_
    refine r_imul rfl ?_
    refine r_iload_n rfl rfl ?_
    refine r_iadd rfl ?_
    refine r_imul rfl ?_
    refine r_iald rfl (by first | assumption | exact hs.a rfl) (by omega) (by omega) ((zix (n := 2 * (5 * u + v)) (by omega)).trans t0.1) ?_
    refine r_icmp_gt rfl (by omega) (by omega) (fun hle1 => ?_) (fun hle1 => ?_)
    · refine r_iconst rfl ?_
      refine r_zret rfl (by omega) ?_
      first | exact k2 (rRest_f (j := k) (by omega) (Or.inl (by omega))) | exact k2 (rRest_f (j := k) (by omega) (Or.inr (by omega)))
    · refine r_aload_n rfl rfl ?_
      refine r_getR rfl (by first | assumption | exact hs.o rfl) (by first | assumption | exact hs.g rfl) ?_
      refine r_iconst rfl ?_
      refine r_iconst rfl ?_
      refine r_iload_n rfl rfl ?_
      refine r_imul rfl ?_
      refine r_iload_n rfl rfl ?_
      refine r_iadd rfl ?_
      refine r_imul rfl ?_
      refine r_iconst rfl ?_
      refine r_iadd rfl ?_
      refine r_iald rfl (by first | assumption | exact hs.a rfl) (by omega) (by omega) ((zix (n := 2 * (5 * u + k) + 1) (by omega)).trans t2.2) ?_
      refine r_aload_n rfl rfl ?_
      refine r_getR rfl (by first | assumption | exact hs.o rfl) (by first | assumption | exact hs.g rfl) ?_
      refine r_iconst rfl ?_
      refine r_iconst rfl ?_
      refine r_iload_n rfl rfl ?_
      refine r_imul rfl ?_
      refine r_iload_n rfl rfl ?_
      refine r_iadd rfl ?_
      refine r_imul rfl ?_
      refine r_iconst rfl ?_
      refine r_iadd rfl ?_
      refine r_iald rfl (by first | assumption | exact hs.a rfl) (by omega) (by omega) ((zix (n := 2 * (5 * u + v) + 1) (by omega)).trans t0.2) ?_
      refine r_icmp_le rfl (by omega) (by omega) (fun hle2 => ?_) (fun hle2 => ?_)
      · refine r_iinc (L' := [_, _, _, _]) rfl rfl rfl ?_
        refine r_goto rfl ?_
        exact l_isRestM hd1 hs h2 hm5 hG htab hu hv k1 k2 (k + 1) (by omega) (by simp only [rRest]; rw [hall, decide_eq_false (fun q => by rcases q with q | q <;> omega)]; rfl)
      · refine r_iconst rfl ?_
        refine r_zret rfl (by omega) ?_
        first | exact k2 (rRest_f (j := k) (by omega) (Or.inl (by omega))) | exact k2 (rRest_f (j := k) (by omega) (Or.inr (by omega)))
termination_by m - k
theorem c_isRest (hd : 1 ≤ d) (hs : Sh σ g) {m : Nat} (h2 : f 229 2 = (m : Int)) (hm5 : m ≤ 5) {G : Nat → Int × Int} (hG : ∀ c, -1 ≤ (G c).1 ∧ (G c).1 ≤ 100 ∧ -1 ≤ (G c).2 ∧ (G c).2 ≤ 100) (htab : ∀ c, c < 25 → rTwo m c = true → f 232 (2 * c) = (G c).1 ∧ f 232 (2 * c + 1) = (G c).2) {u v : Nat} (hu : u < m) (hv : v < m) (k1 : rRest G u v m = true → Q (some (zi 1)) σ f g) (k2 : rRest G u v m = false → Q (some (zi 0)) σ f g) : ZCt d 233 [zr (some 219), zi (u : Int), zi (v : Int)] σ f g Q := by
  refine ZCt.of' (L0 := [_, _, _, _]) (by omega) rfl rfl rfl (fun d hd1 => ?_)
  refine r_iconst rfl ?_
  refine r_istore_n (L' := [_, _, _, _]) rfl rfl rfl ?_
  exact l_isRestM (by omega) hs h2 hm5 hG htab hu hv k1 k2 0 (by omega) rfl
theorem l_rsF (hd1 : 12 ≤ d) (hs : Sh σ g) {f00 : ZF} (hplo : PlOk pl) (hv : VS pl N (-1) rd) {n : Nat} (hn : n ≤ 20) (hN : N + 7 * (n : Int) ≤ 1000000) (hm : MRd (f00 229) rd) (hmp : MPl (f00 229) pl) {x1 y1 : Nat} (hx : x1 < 6 ∧ 0 ≤ rd 0 x1) (hy : y1 < 6 ∧ 0 ≤ rd 0 y1) {w : Int} {x6 x7 : ZV} (K : ∀ f', Kp f00 f' → f' 229 = f00 229 → (∀ i, i ≠ 18 → i ≠ 25 → f' 219 i = f0 219 i) → (∀ c, c < 25 → rTwo pl.2.1.toNat c = true → f' 232 (2 * c) = (rG pl al rd x1 y1 n c).1 ∧ f' 232 (2 * c + 1) = (rG pl al rd x1 y1 n c).2) → ZWp d zt230 86 [zr (some 219), zi (x1 : Int), zi (y1 : Int), zi (n : Int), zi w, zi ((25 : Nat) : Int), x6, x7] [] σ f' g Q) (k : Nat) (hk : k ≤ 25) (f : ZF) (hkp : Kp f00 f) (h9 : f 229 = f00 229) (ht : TM σ f g pl al (-1)) (h219 : ∀ i, i ≠ 18 → i ≠ 25 → f 219 i = f0 219 i) (htab : (∀ c, c < k → rTwo pl.2.1.toNat c = true → f 232 (2 * c) = (rG pl al rd x1 y1 n c).1 ∧ f 232 (2 * c + 1) = (rG pl al rd x1 y1 n c).2)) : ZWp d zt230 55 [zr (some 219), zi (x1 : Int), zi (y1 : Int), zi (n : Int), zi w, zi (k : Int), x6, x7] [] σ f g Q := by
  have hp2 := hplo.2.1
  refine r_iload rfl rfl ?_
  refine r_bipush rfl ?_
  refine r_icmp_ge rfl (by omega) (by omega) (fun hge => ?_) (fun hge => ?_)
  · have e : k = 25 := by omega
    subst e
    exact K f hkp h9 h219 htab
  · refine r_aload_n rfl rfl ?_
    refine r_iload rfl rfl ?_
    refine r_callV1 rfl rfl (by first | assumption | exact hs.o rfl) rfl (c_isTwo (m := pl.2.1.toNat) (by omega) hs (by rw [h9, hmp.2.2.1]; omega) (by omega) (by omega) (fun htw => ?_) (fun htw => ?_))
    · refine r_if_n rfl (by decide) ?_
      refine r_aload_n rfl rfl ?_
      refine r_iload_n rfl rfl ?_
      refine r_iload_n rfl rfl ?_
      refine r_iload rfl rfl ?_
      refine r_iload_n rfl rfl ?_
      have htw2 := of_decide_eq_true htw
      refine r_callV4 rfl rfl (by first | assumption | exact hs.o rfl) rfl (c_fillsRest (by omega) hs hkp ht hv hn hN (by rw [h9]; exact hm) (by omega) hx hy (by omega) (by omega) (fun f2 hk2 h92 ht2 h2192 h21 h22 h23 => ?_))
      refine r_iinc (L' := [_, _, _, _, _, _, _, _]) rfl rfl rfl ?_
      refine r_goto rfl ?_
      first
      | (refine l_rsF hd1 hs hplo hv hn hN hm hmp hx hy K (k + 1) (by omega) f2 hk2 h92 ht2 (fun i q1 q2 => (h2192 i q1 q2).trans (h219 i q1 q2)) (fun c hc1 hc2 => ?_)
         by_cases e : c = k
         · subst e; exact ⟨h21, h22⟩
         · rw [h23 _ (by omega), h23 _ (by omega)]; exact htab c (by omega) hc2)
      | (refine l_rsF hd1 hs hplo hv hn hN hm hmp hx hy K (k + 1) (by omega) f hkp h9 ht h219 (fun c hc1 hc2 => ?_)
         by_cases e : c = k
         · subst e; rw [htw] at hc2; cases hc2
         · exact htab c (by omega) hc2)
    · refine r_if_y rfl (by decide) ?_
      refine r_iinc (L' := [_, _, _, _, _, _, _, _]) rfl rfl rfl ?_
      refine r_goto rfl ?_
      first
      | (refine l_rsF hd1 hs hplo hv hn hN hm hmp hx hy K (k + 1) (by omega) f2 hk2 h92 ht2 (fun i q1 q2 => (h2192 i q1 q2).trans (h219 i q1 q2)) (fun c hc1 hc2 => ?_)
         by_cases e : c = k
         · subst e; exact ⟨h21, h22⟩
         · rw [h23 _ (by omega), h23 _ (by omega)]; exact htab c (by omega) hc2)
      | (refine l_rsF hd1 hs hplo hv hn hN hm hmp hx hy K (k + 1) (by omega) f hkp h9 ht h219 (fun c hc1 hc2 => ?_)
         by_cases e : c = k
         · subst e; rw [htw] at hc2; cases hc2
         · exact htab c (by omega) hc2)
termination_by 25 - k
theorem l_rsM (hd1 : 3 ≤ d) (hs : Sh σ g) {m : Nat} (h2 : f 229 2 = (m : Int)) (hm5 : m ≤ 5) {G : Nat → Int × Int} (hG : ∀ c, -1 ≤ (G c).1 ∧ (G c).1 ≤ 100 ∧ -1 ≤ (G c).2 ∧ (G c).2 ≤ 100) (htab : ∀ c, c < 25 → rTwo m c = true → f 232 (2 * c) = (G c).1 ∧ f 232 (2 * c + 1) = (G c).2)  {x y n w : Int} (K : ∀ z, ZWp d zt230 141 [zr (some 219), zi x, zi y, zi n, zi w, zi ((rDn (rOk m G) 25).length : Int), zi (hdI (rDn (rOk m G) 25)), z] [] σ f g Q) (k : Nat) (hk : k ≤ 25) : ZWp d zt230 96 [zr (some 219), zi x, zi y, zi n, zi w, zi ((rDn (rOk m G) k).length : Int), zi (hdI (rDn (rOk m G) k)), zi (24 - (k : Int))] [] σ f g Q := by
  refine r_iload rfl rfl ?_
  refine r_if_lt rfl (by omega) (fun hneg => ?_) (fun hneg => ?_)
  · have e : k = 25 := by omega
    subst e
    exact K _
  · refine r_aload_n rfl rfl ?_
    refine r_iload rfl rfl ?_
    rw [show (24 : Int) - (k : Int) = ((24 - k : Nat) : Int) by omega]
    refine r_callV1 rfl rfl (by first | assumption | exact hs.o rfl) rfl (c_isTwo (by omega) hs h2 hm5 (by omega) (fun htw => ?_) (fun htw => ?_))
    · refine r_if_n rfl (by decide) ?_
      refine r_aload_n rfl rfl ?_
      refine r_iload rfl rfl ?_
      refine r_iconst rfl ?_
      refine r_idiv rfl (by omega) (by omega) (by omega) ?_
      refine r_iload rfl rfl ?_
      refine r_iconst rfl ?_
      refine r_irem rfl (by omega) (by omega) (by omega) ?_
      have htw2 := of_decide_eq_true htw
      rw [show ((24 - k : Nat) : Int).tdiv 5 = (((24 - k) / 5 : Nat) : Int) from rfl, show ((24 - k : Nat) : Int).tmod 5 = (((24 - k) % 5 : Nat) : Int) from rfl]
      refine r_callV2 rfl rfl (by first | assumption | exact hs.o rfl) rfl (c_isRest (by omega) hs h2 hm5 hG htab (by omega) (by omega) (fun hre => ?_) (fun hre => ?_))
      · refine r_if_y rfl (by decide) ?_
        refine r_iload rfl rfl ?_
        refine r_istore (L' := [_, _, _, _, _, _, _, _]) rfl rfl rfl ?_
        refine r_iinc (L' := [_, _, _, _, _, _, _, _]) rfl rfl rfl ?_
        refine r_iinc (L' := [_, _, _, _, _, _, _, _]) rfl rfl rfl ?_
        refine r_goto rfl ?_
        first
        | (have e1 : rDn (rOk m G) (k + 1) = (24 - k) :: rDn (rOk m G) k := by simp only [rDn]; rw [if_pos (by unfold rOk; rw [htw, hre]; rfl)]
           have := l_rsM hd1 hs h2 hm5 hG htab K (k + 1) (by omega)
           rw [e1] at this
           rw [show ((24 - k : Nat) : Int) + -1 = 24 - ((k + 1 : Nat) : Int) by omega]
           exact this)
        | (have e1 : rDn (rOk m G) (k + 1) = rDn (rOk m G) k := by simp only [rDn]; rw [if_neg (by unfold rOk; rw [htw, hre]; decide)]
           have := l_rsM hd1 hs h2 hm5 hG htab K (k + 1) (by omega)
           rw [e1] at this
           rw [show ((24 - k : Nat) : Int) + -1 = 24 - ((k + 1 : Nat) : Int) by omega]
           exact this)
        | (have e1 : rDn (rOk m G) (k + 1) = rDn (rOk m G) k := by simp only [rDn]; rw [if_neg (by unfold rOk; rw [htw, Bool.false_and]; decide)]
           have := l_rsM hd1 hs h2 hm5 hG htab K (k + 1) (by omega)
           rw [e1] at this
           rw [show ((24 - k : Nat) : Int) + -1 = 24 - ((k + 1 : Nat) : Int) by omega]
           exact this)
      · refine r_if_n rfl (by decide) ?_
        refine r_goto rfl ?_
        refine r_iinc (L' := [_, _, _, _, _, _, _, _]) rfl rfl rfl ?_
        refine r_goto rfl ?_
        first
        | (have e1 : rDn (rOk m G) (k + 1) = (24 - k) :: rDn (rOk m G) k := by simp only [rDn]; rw [if_pos (by unfold rOk; rw [htw, hre]; rfl)]
           have := l_rsM hd1 hs h2 hm5 hG htab K (k + 1) (by omega)
           rw [e1] at this
           rw [show ((24 - k : Nat) : Int) + -1 = 24 - ((k + 1 : Nat) : Int) by omega]
           exact this)
        | (have e1 : rDn (rOk m G) (k + 1) = rDn (rOk m G) k := by simp only [rDn]; rw [if_neg (by unfold rOk; rw [htw, hre]; decide)]
           have := l_rsM hd1 hs h2 hm5 hG htab K (k + 1) (by omega)
           rw [e1] at this
           rw [show ((24 - k : Nat) : Int) + -1 = 24 - ((k + 1 : Nat) : Int) by omega]
           exact this)
        | (have e1 : rDn (rOk m G) (k + 1) = rDn (rOk m G) k := by simp only [rDn]; rw [if_neg (by unfold rOk; rw [htw, Bool.false_and]; decide)]
           have := l_rsM hd1 hs h2 hm5 hG htab K (k + 1) (by omega)
           rw [e1] at this
           rw [show ((24 - k : Nat) : Int) + -1 = 24 - ((k + 1 : Nat) : Int) by omega]
           exact this)
    · refine r_if_y rfl (by decide) ?_
      refine r_iinc (L' := [_, _, _, _, _, _, _, _]) rfl rfl rfl ?_
      refine r_goto rfl ?_
      first
      | (have e1 : rDn (rOk m G) (k + 1) = (24 - k) :: rDn (rOk m G) k := by simp only [rDn]; rw [if_pos (by unfold rOk; rw [htw, hre]; rfl)]
         have := l_rsM hd1 hs h2 hm5 hG htab K (k + 1) (by omega)
         rw [e1] at this
         rw [show ((24 - k : Nat) : Int) + -1 = 24 - ((k + 1 : Nat) : Int) by omega]
         exact this)
      | (have e1 : rDn (rOk m G) (k + 1) = rDn (rOk m G) k := by simp only [rDn]; rw [if_neg (by unfold rOk; rw [htw, hre]; decide)]
         have := l_rsM hd1 hs h2 hm5 hG htab K (k + 1) (by omega)
         rw [e1] at this
         rw [show ((24 - k : Nat) : Int) + -1 = 24 - ((k + 1 : Nat) : Int) by omega]
         exact this)
      | (have e1 : rDn (rOk m G) (k + 1) = rDn (rOk m G) k := by simp only [rDn]; rw [if_neg (by unfold rOk; rw [htw, Bool.false_and]; decide)]
         have := l_rsM hd1 hs h2 hm5 hG htab K (k + 1) (by omega)
         rw [e1] at this
         rw [show ((24 - k : Nat) : Int) + -1 = 24 - ((k + 1 : Nat) : Int) by omega]
         exact this)
termination_by 25 - k
theorem c_rests (hd : 14 ≤ d) (hs : Sh σ g) (hM : MI f a) (hA : AOk N a) {x y n w : Int} (hxi : IR x) (hyi : IR y) (hni : IR n) (hwi : IR w) (K : ∀ f', FrMQ f f' → Q (some (zi (qRest a x y n w))) σ f' g) : ZCt d 230 [zr (some 219), zi x, zi y, zi n, zi w] σ f g Q := by
  refine ZCt.of' (L0 := [_, _, _, _, _, _, _, _]) (by omega) rfl rfl rfl (fun d hd1 => ?_)
  refine r_aload_n rfl rfl ?_
  refine r_iload_n rfl rfl ?_
  refine r_callV1 rfl rfl (by first | assumption | exact hs.o rfl) rfl (c_carOnA (by omega) hs hM hA hxi (fun x' hxk hx6 hx0 => ?_) (fun hoffx => ?_))
  · refine r_if_n rfl (by decide) ?_
    refine r_aload_n rfl rfl ?_
    refine r_iload_n rfl rfl ?_
    refine r_callV1 rfl rfl (by first | assumption | exact hs.o rfl) rfl (c_carOnA (by omega) hs hM hA hyi (fun y' hyk hy6 hy0 => ?_) (fun hoffy => ?_))
    · refine r_if_n rfl (by decide) ?_
      refine r_iload_n rfl rfl ?_
      refine r_iload_n rfl rfl ?_
      refine r_icmp_eq rfl (by omega) (by omega) (fun hxy => ?_) (fun hxy => ?_)
      · refine r_iconst rfl ?_
        refine r_iret rfl ?_
        first
        | (rw [qRest_no (Or.inr (fun q => q.1.2.2 (hoffx x.toNat (by omega) (by omega))))] at K; exact K f (FrMQ.rf f))
        | (rw [qRest_no (Or.inr (fun q => q.2.1.2.2 (hoffy y.toNat (by omega) (by omega))))] at K; exact K f (FrMQ.rf f))
        | (rw [qRest_no (Or.inr (fun q => by have q1 := q.2.2.1; have q2 := q.2.2.2.1; have q3 := q.2.2.2.2; omega))] at K; exact K f (FrMQ.rf f))
      · refine r_iload_n rfl rfl ?_
        refine r_i2l rfl (by omega) ?_
        refine r_lconst rfl ?_
        refine r_ldc2 rfl ?_
        refine r_callS3 rfl rfl rfl (c_in (by omega) (by omega) (by omega) (by omega) (fun hn => ?_) (fun hn => ?_))
        · refine r_if_n rfl (by decide) ?_
          refine r_iload rfl rfl ?_
          refine r_i2l rfl (by omega) ?_
          refine r_lconst rfl ?_
          refine r_ldc2 rfl ?_
          refine r_callS3 rfl rfl rfl (c_in (by omega) (by omega) (by omega) (by omega) (fun hw => ?_) (fun hw => ?_))
          · refine r_if_y rfl (by decide) ?_
            refine r_aload_n rfl rfl ?_
            subst hxk
            subst hyk
            obtain ⟨pl, rd0, hp⟩ := hA.onPl hx6 (by omega)
            obtain ⟨hplo, hvr, hst⟩ := hA.plS hp
            have hN := hA.2.2.2.2.2.2.2
            have hvs := hvr.vs
            have ht0 : TM σ f g pl (AL a a.fo pl) (-1) := MI.tm hs hM hA hp
            have hm0 : MRd (f 229) a.w.rd := hM.w.2.1
            refine r_callV0 rfl rfl (by first | assumption | exact hs.o rfl) rfl (c_keeps (by omega) hs (fun f1 hk1 he1 => ?_))
            have ht1 : TM σ f1 g pl (AL a a.fo pl) (-1) := ht0.k1 he1
            have hm1 : MRd (f1 229) a.w.rd := by rw [he1 229 (by omega)]; exact hm0
            obtain ⟨nn, rfl⟩ := Int.eq_ofNat_of_zero_le (show 0 ≤ n by omega)
            refine r_iconst rfl ?_
            refine r_istore (L' := [_, _, _, _, _, _, _, _]) rfl rfl rfl ?_
            have hp2 := hplo.2.1
            rw [qRest_yes hp (by omega)] at K
            refine l_rsF (f0 := f1) (by omega) hs (f00 := f) hplo hvs (n := nn) (by omega) (by omega) hm0 (hM.plS hp).1 ⟨hx6, hx0⟩ ⟨hy6, hy0⟩ (fun f2 hk2 h92 h2192 htab2 => ?_) 0 (by omega) f1 hk1 (he1 229 (by omega)) ht1 (fun _ _ _ => rfl) (fun c hc1 _ => by omega)
            refine r_iconst rfl ?_
            refine r_istore (L' := [_, _, _, _, _, _, _, _]) rfl rfl rfl ?_
            refine r_iconst rfl ?_
            refine r_istore (L' := [_, _, _, _, _, _, _, _]) rfl rfl rfl ?_
            refine r_bipush rfl ?_
            refine r_istore (L' := [_, _, _, _, _, _, _, _]) rfl rfl rfl ?_
            refine l_rsM (m := pl.2.1.toNat) (by omega) hs (by rw [h92, (hM.plS hp).1.2.2.1]; omega) (by omega) (rG_rng (by omega)) htab2 (fun z => ?_) 0 (by omega)
            have hfin : FrMQ f f2 := hk2.back h92 (fun i q => by rw [h2192 i (by omega) (by omega), he1 219 (by omega)])
            rw [rDn_eq]
            have hlen : (rRL pl.2.1.toNat (rG pl (AL a a.fo pl) a.w.rd x' y' nn)).length ≤ 25 := by
              have := List.length_filter_le (rOk pl.2.1.toNat (rG pl (AL a a.fo pl) a.w.rd x' y' nn)) (List.range 25)
              rw [List.length_range] at this
              exact this
            change ZWp _ _ _ [_, _, _, _, _, zi ((rRL pl.2.1.toNat (rG pl (AL a a.fo pl) a.w.rd x' y' nn)).length : Int), zi (hdI (rRL pl.2.1.toNat (rG pl (AL a a.fo pl) a.w.rd x' y' nn))), _] _ _ _ _ _
            have hmem : ∀ t ∈ rRL pl.2.1.toNat (rG pl (AL a a.fo pl) a.w.rd x' y' nn), t < 25 := fun t ht => List.mem_range.1 (List.mem_filter.1 ht).1
            generalize rRL pl.2.1.toNat (rG pl (AL a a.fo pl) a.w.rd x' y' nn) = l at K hlen hmem ⊢
            cases l with
            | nil =>
              refine r_iload rfl rfl ?_
              refine r_if_ne rfl (by omega) (fun hw0 => ?_) (fun hw0 => ?_)
              · refine r_iload rfl rfl ?_
                refine r_if_n rfl (by decide) ?_
                refine r_bipush rfl ?_
                refine r_goto rfl ?_
                refine r_iret rfl ?_
                first | (rw [show rRV w [] = 0 from if_pos (by omega)] at K; exact K f2 hfin) | (rw [show rRV w [] = -2 from if_neg (by omega)] at K; exact K f2 hfin)
              · refine r_iload rfl rfl ?_
                refine r_iret rfl ?_
                first | (rw [show rRV w [] = 0 from if_pos (by omega)] at K; exact K f2 hfin) | (rw [show rRV w [] = -2 from if_neg (by omega)] at K; exact K f2 hfin)
            | cons t r =>
              have ht := hmem t List.mem_cons_self
              refine r_iload rfl rfl ?_
              refine r_if_ne rfl (by omega) (fun hw0 => ?_) (fun hw0 => ?_)
              · refine r_iload rfl rfl ?_
                refine r_if_ge rfl (by simp only [hdI]; omega) (fun hneg => ?_) (fun hneg => ?_)
                · refine r_iload rfl rfl ?_
                  refine r_iconst rfl ?_
                  refine r_icmp_ne rfl (by omega) (by omega) (fun hw1 => ?_) (fun hw1 => ?_)
                  · refine r_iload rfl rfl ?_
                    refine r_iconst rfl ?_
                    refine r_irem rfl (by simp only [hdI]; omega) (by omega) (by omega) ?_
                    refine r_iret rfl ?_
                    first
                    | (rw [show rRV w (t :: r) = ((t :: r).length : Int) from if_pos (by omega)] at K; exact K f2 hfin)
                    | (have ev : rRV w (t :: r) = ((t / 5 : Nat) : Int) := (if_neg (by omega)).trans (if_pos (by omega)); rw [ev] at K; exact K f2 hfin)
                    | (have ev : rRV w (t :: r) = ((t % 5 : Nat) : Int) := (if_neg (by omega)).trans (if_neg (by omega)); rw [ev] at K; exact K f2 hfin)
                  · refine r_iload rfl rfl ?_
                    refine r_iconst rfl ?_
                    refine r_idiv rfl (by simp only [hdI]; omega) (by omega) (by omega) ?_
                    refine r_goto rfl ?_
                    refine r_iret rfl ?_
                    first
                    | (rw [show rRV w (t :: r) = ((t :: r).length : Int) from if_pos (by omega)] at K; exact K f2 hfin)
                    | (have ev : rRV w (t :: r) = ((t / 5 : Nat) : Int) := (if_neg (by omega)).trans (if_pos (by omega)); rw [ev] at K; exact K f2 hfin)
                    | (have ev : rRV w (t :: r) = ((t % 5 : Nat) : Int) := (if_neg (by omega)).trans (if_neg (by omega)); rw [ev] at K; exact K f2 hfin)
                · exfalso; simp only [hdI] at hneg; omega
              · refine r_iload rfl rfl ?_
                refine r_iret rfl ?_
                first
                | (rw [show rRV w (t :: r) = ((t :: r).length : Int) from if_pos (by omega)] at K; exact K f2 hfin)
                | (have ev : rRV w (t :: r) = ((t / 5 : Nat) : Int) := (if_neg (by omega)).trans (if_pos (by omega)); rw [ev] at K; exact K f2 hfin)
                | (have ev : rRV w (t :: r) = ((t % 5 : Nat) : Int) := (if_neg (by omega)).trans (if_neg (by omega)); rw [ev] at K; exact K f2 hfin)
          · refine r_if_n rfl (by decide) ?_
            refine r_iconst rfl ?_
            refine r_iret rfl ?_
            first
            | (rw [qRest_no (Or.inr (fun q => q.1.2.2 (hoffx x.toNat (by omega) (by omega))))] at K; exact K f (FrMQ.rf f))
            | (rw [qRest_no (Or.inr (fun q => q.2.1.2.2 (hoffy y.toNat (by omega) (by omega))))] at K; exact K f (FrMQ.rf f))
            | (rw [qRest_no (Or.inr (fun q => by have q1 := q.2.2.1; have q2 := q.2.2.2.1; have q3 := q.2.2.2.2; omega))] at K; exact K f (FrMQ.rf f))
        · refine r_if_y rfl (by decide) ?_
          refine r_iconst rfl ?_
          refine r_iret rfl ?_
          first
          | (rw [qRest_no (Or.inr (fun q => q.1.2.2 (hoffx x.toNat (by omega) (by omega))))] at K; exact K f (FrMQ.rf f))
          | (rw [qRest_no (Or.inr (fun q => q.2.1.2.2 (hoffy y.toNat (by omega) (by omega))))] at K; exact K f (FrMQ.rf f))
          | (rw [qRest_no (Or.inr (fun q => by have q1 := q.2.2.1; have q2 := q.2.2.2.1; have q3 := q.2.2.2.2; omega))] at K; exact K f (FrMQ.rf f))
    · refine r_if_y rfl (by decide) ?_
      refine r_iconst rfl ?_
      refine r_iret rfl ?_
      first
      | (rw [qRest_no (Or.inr (fun q => q.1.2.2 (hoffx x.toNat (by omega) (by omega))))] at K; exact K f (FrMQ.rf f))
      | (rw [qRest_no (Or.inr (fun q => q.2.1.2.2 (hoffy y.toNat (by omega) (by omega))))] at K; exact K f (FrMQ.rf f))
      | (rw [qRest_no (Or.inr (fun q => by have q1 := q.2.2.1; have q2 := q.2.2.2.1; have q3 := q.2.2.2.2; omega))] at K; exact K f (FrMQ.rf f))
  · refine r_if_y rfl (by decide) ?_
    refine r_iconst rfl ?_
    refine r_iret rfl ?_
    first
    | (rw [qRest_no (Or.inr (fun q => q.1.2.2 (hoffx x.toNat (by omega) (by omega))))] at K; exact K f (FrMQ.rf f))
    | (rw [qRest_no (Or.inr (fun q => q.2.1.2.2 (hoffy y.toNat (by omega) (by omega))))] at K; exact K f (FrMQ.rf f))
    | (rw [qRest_no (Or.inr (fun q => by have q1 := q.2.2.1; have q2 := q.2.2.2.1; have q3 := q.2.2.2.2; omega))] at K; exact K f (FrMQ.rf f))
end MRESTS
