/-! The class reads TESTs -/
/-- a FACT at this depth is read as F says -/
def FC (σ : ZS) (g : ZG) (t : Tx) (dd : Nat) (dp : Int) (F : Nat → Nat → PR) : Prop := ∀ (d : Nat) (f : ZF) (p n : Nat) (l : List Int) (Q : ZQ), dd ≤ d → RG f t p n l → l.length ≤ p → CK Q σ g f t l (F p n) → ZCt d 42 [zr (some 18), zi dp] σ f g Q
section TESTC
variable {d dd : Nat} {σ : ZS} {f : ZF} {g : ZG} {Q : ZQ} {p n : Nat} {t : Tx} {e : Int} {l : List Int} {F : Nat → Nat → PR} {dp : Int}
theorem cmp_sv (hk : kd t p = 3) (hT : TxOk t) : tE t p = cmpE t p ∧ p < t.2 ∧ ((sv t p = 60 ∧ cmpOp t p = 6) ∨ (sv t p = 61 ∧ cmpOp t p = 8) ∨ (sv t p = 62 ∧ cmpOp t p = 10) ∨ (sv t p = 316 ∧ cmpOp t p = 7) ∨ (sv t p = 318 ∧ cmpOp t p = 9) ∨ (cmpOp t p = 0 ∧ sv t p ≠ 60 ∧ sv t p ≠ 61 ∧ sv t p ≠ 62 ∧ sv t p ≠ 316 ∧ sv t p ≠ 318)) := by
  have hlt : p < t.2 := by
    apply Classical.byContradiction
    intro q
    rw [kd_0.2 q] at hk
    omega
  have hT2 := hT.2 p hlt
  have h3 : kdc (t.1 p) = 3 := by rw [← kd_lt hlt]; exact hk
  refine ⟨(kd_S hlt h3).2, hlt, ?_⟩
  unfold sv cmpOp
  by_cases a : isS t p 60 = true
  · have a1 := (isS_iff.1 a).2
    by_cases b : isS t (p + 1) 61 = true
    · rw [if_pos ⟨Or.inl a, b⟩, if_pos a, if_pos b]; omega
    · rw [if_neg (fun q => b q.2), if_pos a, if_neg b]; omega
  · by_cases c : isS t p 62 = true
    · have c1 := (isS_iff.1 c).2
      have c2 : ¬ isS t p 61 = true := fun q => by have := (isS_iff.1 q).2; omega
      by_cases b : isS t (p + 1) 61 = true
      · rw [if_pos ⟨Or.inr c, b⟩, if_neg a, if_neg c2, if_pos c, if_pos b]; omega
      · rw [if_neg (fun q => b q.2), if_neg a, if_neg c2, if_pos c, if_neg b]; omega
    · have n1 : ¬ t.1 p = 60 := fun q => a (isS_iff.2 ⟨hlt, q⟩)
      have n2 : ¬ t.1 p = 62 := fun q => c (isS_iff.2 ⟨hlt, q⟩)
      rw [if_neg (fun q => by rcases q.1 with q | q; exact a q; exact c q), if_neg a]
      by_cases b : isS t p 61 = true
      · have b1 := (isS_iff.1 b).2
        rw [if_pos b]; omega
      · have n3 : ¬ t.1 p = 61 := fun q => b (isS_iff.2 ⟨hlt, q⟩)
        rw [if_neg b, if_neg c]; omega
theorem cmp_no (hk : ¬ kd t p = 3) : cmpOp t p = 0 := by
  rcases cmpOp_or t p with h | ⟨h, hlt⟩
  · exact h
  · exfalso
    have no : ∀ c : Int, (c = 60 ∨ c = 61 ∨ c = 62) → ¬ isS t p c = true := fun c hc z => by
      have z2 := (isS_iff.1 z).2
      exact hk (by rw [kd_lt hlt, z2]; rcases hc with rfl | rfl | rfl <;> decide)
    unfold cmpOp COp at h
    rw [if_neg (no 60 (by omega)), if_neg (no 61 (by omega)), if_neg (no 62 (by omega))] at h
    omega
theorem l_testF (hd1 : 3 ≤ d) (hs : Sh σ g) {f0 : ZF} (h : RB f e) (hf : FrU f0 f) {x4 : ZV} {dp bz j : Int} (hb : bz = 0 ∨ bz = 1) (hj : IR j) (K : ∀ f', FrU f0 f' → RB f' e → Q none σ f' g) : ZWp d zt41 9 [zr (some 18), zi dp, zi bz, zi j, x4] [] σ f g Q := by
  refine r_iload_n rfl rfl ?_
  refine r_sipush rfl ?_
  refine r_icmp_ge rfl (by omega) (by omega) (fun h13 => ?_) (fun h13 => ?_)
  · refine r_iload_n rfl rfl ?_
    refine r_if_eq rfl (by omega) (fun hb0 => ?_) (fun hb0 => ?_)
    · refine r_ret rfl ?_
      exact K f hf h
    · refine r_aload_n rfl rfl ?_
      refine r_bipush rfl ?_
      refine r_callV1 rfl rfl (by first | assumption | exact hs.o rfl) rfl (k_putSignF (by omega) hs h (fun f1 hf1 h1 => ?_))
      refine r_ret rfl ?_
      exact K f1 (hf.trans hf1) h1
  · refine r_aload_n rfl rfl ?_
    refine r_getR rfl (by first | assumption | exact hs.o rfl) (by first | assumption | exact hs.g rfl) ?_
    refine r_ldcs rfl ?_
    refine r_callV1 rfl rfl (by first | assumption | exact hs.o rfl) rfl (k_wordOfF (by omega) hs.r19 h.1 ?_)
    refine r_istore (L' := [_, _, _, _, _]) rfl rfl rfl ?_
    refine r_iload rfl rfl ?_
    refine r_iconst rfl ?_
    refine r_icmp_n rfl (by decide) ?_
    refine r_goto rfl ?_
    refine r_iload_n rfl rfl ?_
    refine r_if_eq rfl (by omega) (fun hb0 => ?_) (fun hb0 => ?_)
    · refine r_ret rfl ?_
      exact K f hf h
    · refine r_aload_n rfl rfl ?_
      refine r_bipush rfl ?_
      refine r_callV1 rfl rfl (by first | assumption | exact hs.o rfl) rfl (k_putSignF (by omega) hs h (fun f1 hf1 h1 => ?_))
      refine r_ret rfl ?_
      exact K f1 (hf.trans hf1) h1
theorem k_readFactF (hd : 5 ≤ d) (hs : Sh σ g) (hB : RB f e) (K : ∀ f', FrU f f' → RB f' e → Q none σ f' g) : ZCt d 42 [zr (some 18), zi dp] σ f g Q := by
  refine ZCt.of' (L0 := [_, _, _, _, _]) (by omega) rfl rfl rfl (fun d hd1 => ?_)
  refine r_aload_n rfl rfl ?_
  refine r_getR rfl (by first | assumption | exact hs.o rfl) (by first | assumption | exact hs.g rfl) ?_
  refine r_ldcs rfl ?_
  refine r_callV1 rfl rfl (by first | assumption | exact hs.o rfl) rfl (k_wordOfF (by omega) hs.r19 hB.1 ?_)
  refine r_if_y rfl (by decide) ?_
  refine r_iconst rfl ?_
  refine r_istore_n (L' := [_, _, _, _, _]) rfl rfl rfl ?_
  refine r_iload_n rfl rfl ?_
  refine r_if_n rfl (by decide) ?_
  refine r_aload_n rfl rfl ?_
  refine r_getR rfl (by first | assumption | exact hs.o rfl) (by first | assumption | exact hs.g rfl) ?_
  refine r_bipush rfl ?_
  refine r_callV1 rfl rfl (by first | assumption | exact hs.o rfl) rfl (k_isSignF (by omega) hs.r19 hB.1 ?_)
  refine r_if_y rfl (by decide) ?_
  refine r_aload_n rfl rfl ?_
  refine r_callV0 rfl rfl (by first | assumption | exact hs.o rfl) rfl (k_readSumF (by omega) hs hB (fun f1 hf1 hB1 => ?_))
  refine r_aload_n rfl rfl ?_
  refine r_getR rfl (by first | assumption | exact hs.o rfl) (by first | assumption | exact hs.g rfl) ?_
  refine r_getI rfl (by first | assumption | exact hs.o rfl) rfl ?_
  refine r_istore_n (L' := [_, _, _, _, _]) rfl rfl rfl ?_
  refine r_iload_n rfl rfl ?_
  refine r_bipush rfl ?_
  refine r_icmp_any rfl ?_ ?_
  · refine r_iconst rfl ?_
    refine r_goto rfl ?_
    refine r_istore (L' := [_, _, _, _, _]) rfl rfl rfl ?_
    refine r_aload_n rfl rfl ?_
    refine r_getR rfl (by first | assumption | exact hs.o rfl) (by first | assumption | exact hs.g rfl) ?_
    refine r_getI rfl (by first | assumption | exact hs.o rfl) hB1.1.2.2 ?_
    refine r_iconst rfl ?_
    refine r_icmp_y rfl (by decide) ?_
    refine r_aload_n rfl rfl ?_
    refine r_getR rfl (by first | assumption | exact hs.o rfl) (by first | assumption | exact hs.g rfl) ?_
    refine r_iconst rfl ?_
    refine r_callV1 rfl rfl (by first | assumption | exact hs.o rfl) rfl (k_refuseF (by omega) hs.r19 hB1.1 ?_)
    refine r_ret rfl ?_
    exact K f1 hf1 hB1
  · refine r_iload_n rfl rfl ?_
    refine r_bipush rfl ?_
    refine r_icmp_any rfl ?_ ?_
    · refine r_iconst rfl ?_
      refine r_goto rfl ?_
      refine r_istore (L' := [_, _, _, _, _]) rfl rfl rfl ?_
      refine r_aload_n rfl rfl ?_
      refine r_getR rfl (by first | assumption | exact hs.o rfl) (by first | assumption | exact hs.g rfl) ?_
      refine r_getI rfl (by first | assumption | exact hs.o rfl) hB1.1.2.2 ?_
      refine r_iconst rfl ?_
      refine r_icmp_y rfl (by decide) ?_
      refine r_aload_n rfl rfl ?_
      refine r_getR rfl (by first | assumption | exact hs.o rfl) (by first | assumption | exact hs.g rfl) ?_
      refine r_iconst rfl ?_
      refine r_callV1 rfl rfl (by first | assumption | exact hs.o rfl) rfl (k_refuseF (by omega) hs.r19 hB1.1 ?_)
      refine r_ret rfl ?_
      exact K f1 hf1 hB1
    · refine r_iload_n rfl rfl ?_
      refine r_bipush rfl ?_
      refine r_icmp_any rfl ?_ ?_
      · refine r_iconst rfl ?_
        refine r_goto rfl ?_
        refine r_istore (L' := [_, _, _, _, _]) rfl rfl rfl ?_
        refine r_aload_n rfl rfl ?_
        refine r_getR rfl (by first | assumption | exact hs.o rfl) (by first | assumption | exact hs.g rfl) ?_
        refine r_getI rfl (by first | assumption | exact hs.o rfl) hB1.1.2.2 ?_
        refine r_iconst rfl ?_
        refine r_icmp_y rfl (by decide) ?_
        refine r_aload_n rfl rfl ?_
        refine r_getR rfl (by first | assumption | exact hs.o rfl) (by first | assumption | exact hs.g rfl) ?_
        refine r_iconst rfl ?_
        refine r_callV1 rfl rfl (by first | assumption | exact hs.o rfl) rfl (k_refuseF (by omega) hs.r19 hB1.1 ?_)
        refine r_ret rfl ?_
        exact K f1 hf1 hB1
      · refine r_iload_n rfl rfl ?_
        refine r_sipush rfl ?_
        refine r_icmp_any rfl ?_ ?_
        · refine r_iconst rfl ?_
          refine r_goto rfl ?_
          refine r_istore (L' := [_, _, _, _, _]) rfl rfl rfl ?_
          refine r_aload_n rfl rfl ?_
          refine r_getR rfl (by first | assumption | exact hs.o rfl) (by first | assumption | exact hs.g rfl) ?_
          refine r_getI rfl (by first | assumption | exact hs.o rfl) hB1.1.2.2 ?_
          refine r_iconst rfl ?_
          refine r_icmp_y rfl (by decide) ?_
          refine r_aload_n rfl rfl ?_
          refine r_getR rfl (by first | assumption | exact hs.o rfl) (by first | assumption | exact hs.g rfl) ?_
          refine r_iconst rfl ?_
          refine r_callV1 rfl rfl (by first | assumption | exact hs.o rfl) rfl (k_refuseF (by omega) hs.r19 hB1.1 ?_)
          refine r_ret rfl ?_
          exact K f1 hf1 hB1
        · refine r_iload_n rfl rfl ?_
          refine r_sipush rfl ?_
          refine r_icmp_any rfl ?_ ?_
          · refine r_iconst rfl ?_
            refine r_istore (L' := [_, _, _, _, _]) rfl rfl rfl ?_
            refine r_aload_n rfl rfl ?_
            refine r_getR rfl (by first | assumption | exact hs.o rfl) (by first | assumption | exact hs.g rfl) ?_
            refine r_getI rfl (by first | assumption | exact hs.o rfl) hB1.1.2.2 ?_
            refine r_iconst rfl ?_
            refine r_icmp_y rfl (by decide) ?_
            refine r_aload_n rfl rfl ?_
            refine r_getR rfl (by first | assumption | exact hs.o rfl) (by first | assumption | exact hs.g rfl) ?_
            refine r_iconst rfl ?_
            refine r_callV1 rfl rfl (by first | assumption | exact hs.o rfl) rfl (k_refuseF (by omega) hs.r19 hB1.1 ?_)
            refine r_ret rfl ?_
            exact K f1 hf1 hB1
          · refine r_iconst rfl ?_
            refine r_goto rfl ?_
            refine r_istore (L' := [_, _, _, _, _]) rfl rfl rfl ?_
            refine r_aload_n rfl rfl ?_
            refine r_getR rfl (by first | assumption | exact hs.o rfl) (by first | assumption | exact hs.g rfl) ?_
            refine r_getI rfl (by first | assumption | exact hs.o rfl) hB1.1.2.2 ?_
            refine r_iconst rfl ?_
            refine r_icmp_y rfl (by decide) ?_
            refine r_aload_n rfl rfl ?_
            refine r_getR rfl (by first | assumption | exact hs.o rfl) (by first | assumption | exact hs.g rfl) ?_
            refine r_iconst rfl ?_
            refine r_callV1 rfl rfl (by first | assumption | exact hs.o rfl) rfl (k_refuseF (by omega) hs.r19 hB1.1 ?_)
            refine r_ret rfl ?_
            exact K f1 hf1 hB1
theorem l_testE (hd1 : 2 ≤ d) (hs : Sh σ g) {f0 : ZF} {b : Bool} (h : RG f t p n l) (hl : b = true → l.length < 400) (hf : FrU f0 f) {x3 x4 : ZV} {bz : Int} (hb : bz = if b = true then 1 else 0) (K : ∀ f', FrU f0 f' → RG f' t p n (l ++ (bL b).map tcode) → Q none σ f' g) : ZWp d zt41 97 [zr (some 18), zi dp, zi bz, x3, x4] [] σ f g Q := by
  subst hb
  cases b with
  | false =>
    refine r_iload_n rfl rfl ?_
    refine r_if_y rfl (by decide) ?_
    refine r_ret rfl ?_
    exact K f hf (by rw [show (bL false).map tcode = [] from rfl, List.append_nil]; exact h)
  | true =>
    refine r_iload_n rfl rfl ?_
    refine r_if_n rfl (by decide) ?_
    refine r_aload_n rfl rfl ?_
    refine r_bipush rfl ?_
    refine r_callV1 rfl rfl (by first | assumption | exact hs.o rfl) rfl (k_putSign (by omega) hs h (hl rfl) (fun f1 hf1 h1 => ?_))
    refine r_ret rfl ?_
    exact K f1 (hf.trans hf1) h1
theorem l_testC (hd1 : 5 ≤ d) (hdd : dd ≤ d) (hs : Sh σ g) (hT : TxOk t) (hF : FC σ g t dd dp F) (hok : ∀ p n, Ok1 true p n (F p n)) {f0 : ZF} (p n k k' j : Nat) (b : Bool) (l : List Int) (f : ZF) (x4 : ZV) (bz : Int) (hb : bz = if b = true then 1 else 0) (hk : t.2 < p + k) (hk' : t.2 < p + k') (hj : j ≤ p) (hl : l.length + (if b = true then 1 else 0) ≤ p) (h : RG f t p n l) (hf : FrU f0 f) (K : CK Q σ g f0 t l (tR t F k k' b p n)) : ZWp d zt41 9 [zr (some 18), zi dp, zi bz, zi (j : Int), x4] [] σ f g Q := by
  have hT1 := hT.1
  have hp := h.2.1
  obtain ⟨k, rfl⟩ : ∃ u, k = u + 1 := ⟨k - 1, by omega⟩
  obtain ⟨k', rfl⟩ : ∃ u, k' = u + 1 := ⟨k' - 1, by omega⟩
  have hb0 := hb
  subst hb
  cases b with
  | false =>
    refine r_iload_n rfl rfl ?_
    refine r_sipush rfl ?_
    refine r_icmp_ge rfl (by omega) (by omega) (fun h13 => ?_) (fun h13 => ?_)
    · rw [tR_end (fun q => by have := (isL_iff.1 (wIs_L (by decide) q)).1; omega) (fun q => by have := (isL_iff.1 (wIs_L (by decide) q)).1; omega)] at K
      exact l_testE (by omega) hs h (fun q => by cases q) hf rfl (fun f' hf' h' => K.1 _ _ _ rfl f' hf' h')
    · refine r_aload_n rfl rfl ?_
      refine r_getR rfl (by first | assumption | exact hs.o rfl) (by first | assumption | exact hs.g rfl) ?_
      refine r_ldcs rfl ?_
      refine r_callV1 rfl rfl (by first | assumption | exact hs.o rfl) rfl (k_wordAO (by omega) hs.r19 h.1 hT h.2.1 (fun hw => ?_) (fun hna hw => ?_) (fun hna hno => ?_))
      · refine r_istore (L' := [_, _, _, _, _]) rfl rfl rfl ?_
        refine r_iload rfl rfl ?_
        refine r_iconst rfl ?_
        refine r_icmp_y rfl (by decide) ?_
        refine r_aload_n rfl rfl ?_
        refine r_getR rfl (by first | assumption | exact hs.o rfl) (by first | assumption | exact hs.g rfl) ?_
        have hL := wIs_L (by decide) hw
        have hLg := lE_gt hL
        have hLl := lE_le hp
        have hsk := sk_le hLl
        refine r_callV0 rfl rfl (by first | assumption | exact hs.o rfl) rfl (k_next (q := lE t p) (by omega) hs.r19 hT h.1.1 h.1.2.1 (h.1.2.2.2.1.trans (by rw [tE_L hL])) hLl (fun f1 hf1 h1 => ?_))
        refine r_iload rfl rfl ?_
        refine r_iconst rfl ?_
        refine r_icmp_y rfl (by decide) ?_
        refine r_iload_n rfl rfl ?_
        refine r_if_n rfl (by decide) ?_
        refine r_iload rfl rfl ?_
        refine r_iconst rfl ?_
        refine r_icmp_y rfl (by decide) ?_
        refine r_iconst rfl ?_
        refine r_istore_n (L' := [_, _, _, _, _]) rfl rfl rfl ?_
        refine r_aload_n rfl rfl ?_
        refine r_iload_n rfl rfl ?_
        refine r_callV1 rfl rfl (by first | assumption | exact hs.o rfl) rfl (hF _ _ _ _ _ _ hdd (h.to hf1 h1 hsk) (by have := sk_ge t (lE t p); simp at hl ⊢; omega) ⟨fun p2 n2 m2 e2 f2 hf2 h2 => ?_, fun e2 he2 f2 hf2 hB => ?_⟩)
        · refine r_iload rfl rfl ?_
          refine r_if_n rfl (by decide) ?_
          refine r_aload_n rfl rfl ?_
          refine r_bipush rfl ?_
          refine r_callV1 rfl rfl (by first | assumption | exact hs.o rfl) rfl (k_putSign (by omega) hs h2 (by obtain ⟨g1, g2, g3⟩ := hok _ _ _ _ _ e2; have hp2 := h2.2.1; have hsg := sk_ge t (lE t p); simp at hl; simp only [List.length_append, List.length_map]; omega) (fun f3 hf3 h3 => ?_))
          refine r_iinc (L' := [_, _, _, _, _]) rfl rfl rfl ?_
          refine r_goto rfl ?_
          rw [tR_and (k := k) (k' := k' + 1) (b := false) hw, e2, bnd_inr] at K
          have K2 := K.addL
          rw [List.map_append, ← List.append_assoc] at K2
          obtain ⟨g1, g2, g3⟩ := hok _ _ _ _ _ e2
          have hsg := sk_ge t (lE t p)
          have hp2 := h2.2.1
          exact l_testC hd1 hdd hs hT hF hok p2 n2 k (k' + 1) (j + 1) false _ f3 _ 0 rfl (by omega) (by omega) (by omega) (by simp at hl g1 ⊢; omega) h3 (((hf.r hf1).trans hf2).trans hf3) K2
        · refine r_iload rfl rfl ?_
          refine r_if_n rfl (by decide) ?_
          refine r_aload_n rfl rfl ?_
          refine r_bipush rfl ?_
          refine r_callV1 rfl rfl (by first | assumption | exact hs.o rfl) rfl (k_putSignF (by omega) hs hB (fun f3 hf3 hB3 => ?_))
          refine r_iinc (L' := [_, _, _, _, _]) rfl rfl rfl ?_
          refine r_goto rfl ?_
          rw [tR_and (k := k) (k' := k' + 1) (b := false) hw, he2, bnd_inl] at K
          exact l_testF (by omega) hs hB3 (((hf.r hf1).trans hf2).trans hf3) (by omega) (by omega) (fun f' hf' h' => K.2 e2 rfl f' hf' h')
      · refine r_istore (L' := [_, _, _, _, _]) rfl rfl rfl ?_
        refine r_iload rfl rfl ?_
        refine r_iconst rfl ?_
        refine r_icmp_y rfl (by decide) ?_
        refine r_aload_n rfl rfl ?_
        refine r_getR rfl (by first | assumption | exact hs.o rfl) (by first | assumption | exact hs.g rfl) ?_
        have hL := wIs_L (by decide) hw
        have hLg := lE_gt hL
        have hLl := lE_le hp
        have hsk := sk_le hLl
        refine r_callV0 rfl rfl (by first | assumption | exact hs.o rfl) rfl (k_next (q := lE t p) (by omega) hs.r19 hT h.1.1 h.1.2.1 (h.1.2.2.2.1.trans (by rw [tE_L hL])) hLl (fun f1 hf1 h1 => ?_))
        refine r_iload rfl rfl ?_
        refine r_iconst rfl ?_
        refine r_icmp_n rfl (by decide) ?_
        refine r_iload_n rfl rfl ?_
        refine r_if_y rfl (by decide) ?_
        refine r_iload_n rfl rfl ?_
        refine r_if_n rfl (by decide) ?_
        refine r_iload rfl rfl ?_
        refine r_iconst rfl ?_
        refine r_icmp_n rfl (by decide) ?_
        refine r_iconst rfl ?_
        refine r_goto rfl ?_
        refine r_istore_n (L' := [_, _, _, _, _]) rfl rfl rfl ?_
        refine r_aload_n rfl rfl ?_
        refine r_iload_n rfl rfl ?_
        refine r_callV1 rfl rfl (by first | assumption | exact hs.o rfl) rfl (hF _ _ _ _ _ _ hdd (h.to hf1 h1 hsk) (by have := sk_ge t (lE t p); simp at hl ⊢; omega) ⟨fun p2 n2 m2 e2 f2 hf2 h2 => ?_, fun e2 he2 f2 hf2 hB => ?_⟩)
        · refine r_iload rfl rfl ?_
          refine r_if_y rfl (by decide) ?_
          refine r_iinc (L' := [_, _, _, _, _]) rfl rfl rfl ?_
          refine r_goto rfl ?_
          rw [tR_or (k := k) (k' := k') (b := false) hna hw, e2, bnd_inr] at K
          have K2 := K.addL
          rw [List.map_append, ← List.append_assoc] at K2
          obtain ⟨g1, g2, g3⟩ := hok _ _ _ _ _ e2
          have hsg := sk_ge t (lE t p)
          have hp2 := h2.2.1
          rw [show (bL false).map tcode = [] from rfl, List.append_nil] at K2
          exact l_testC hd1 hdd hs hT hF hok p2 n2 401 k' (j + 1) true _ f2 _ 1 rfl (by omega) (by omega) (by omega) (by simp at hl g1 ⊢; omega) h2 ((hf.r hf1).trans hf2) K2
        · refine r_iload rfl rfl ?_
          refine r_if_y rfl (by decide) ?_
          refine r_iinc (L' := [_, _, _, _, _]) rfl rfl rfl ?_
          refine r_goto rfl ?_
          rw [tR_or (k := k) (k' := k') (b := false) hna hw, he2, bnd_inl] at K
          exact l_testF (by omega) hs hB ((hf.r hf1).trans hf2) (by omega) (by omega) (fun f' hf' h' => K.2 e2 rfl f' hf' h')
      · refine r_istore (L' := [_, _, _, _, _]) rfl rfl rfl ?_
        refine r_iload rfl rfl ?_
        refine r_iconst rfl ?_
        refine r_icmp_n rfl (by decide) ?_
        refine r_goto rfl ?_
        rw [tR_end hna hno] at K
        exact l_testE (by omega) hs h (fun q => by cases q) hf rfl (fun f' hf' h' => K.1 _ _ _ rfl f' hf' h')
  | true =>
    refine r_iload_n rfl rfl ?_
    refine r_sipush rfl ?_
    refine r_icmp_ge rfl (by omega) (by omega) (fun h13 => ?_) (fun h13 => ?_)
    · rw [tR_end (fun q => by have := (isL_iff.1 (wIs_L (by decide) q)).1; omega) (fun q => by have := (isL_iff.1 (wIs_L (by decide) q)).1; omega)] at K
      exact l_testE (by omega) hs h (by simp at hl ⊢; omega) hf rfl (fun f' hf' h' => K.1 _ _ _ rfl f' hf' h')
    · refine r_aload_n rfl rfl ?_
      refine r_getR rfl (by first | assumption | exact hs.o rfl) (by first | assumption | exact hs.g rfl) ?_
      refine r_ldcs rfl ?_
      refine r_callV1 rfl rfl (by first | assumption | exact hs.o rfl) rfl (k_wordAO (by omega) hs.r19 h.1 hT h.2.1 (fun hw => ?_) (fun hna hw => ?_) (fun hna hno => ?_))
      · refine r_istore (L' := [_, _, _, _, _]) rfl rfl rfl ?_
        refine r_iload rfl rfl ?_
        refine r_iconst rfl ?_
        refine r_icmp_y rfl (by decide) ?_
        refine r_aload_n rfl rfl ?_
        refine r_getR rfl (by first | assumption | exact hs.o rfl) (by first | assumption | exact hs.g rfl) ?_
        have hL := wIs_L (by decide) hw
        have hLg := lE_gt hL
        have hLl := lE_le hp
        have hsk := sk_le hLl
        refine r_callV0 rfl rfl (by first | assumption | exact hs.o rfl) rfl (k_next (q := lE t p) (by omega) hs.r19 hT h.1.1 h.1.2.1 (h.1.2.2.2.1.trans (by rw [tE_L hL])) hLl (fun f1 hf1 h1 => ?_))
        refine r_iload rfl rfl ?_
        refine r_iconst rfl ?_
        refine r_icmp_y rfl (by decide) ?_
        refine r_iload_n rfl rfl ?_
        refine r_if_y rfl (by decide) ?_
        refine r_iconst rfl ?_
        refine r_goto rfl ?_
        refine r_istore_n (L' := [_, _, _, _, _]) rfl rfl rfl ?_
        refine r_aload_n rfl rfl ?_
        refine r_iload_n rfl rfl ?_
        refine r_callV1 rfl rfl (by first | assumption | exact hs.o rfl) rfl (hF _ _ _ _ _ _ hdd (h.to hf1 h1 hsk) (by have := sk_ge t (lE t p); simp at hl ⊢; omega) ⟨fun p2 n2 m2 e2 f2 hf2 h2 => ?_, fun e2 he2 f2 hf2 hB => ?_⟩)
        · refine r_iload rfl rfl ?_
          refine r_if_n rfl (by decide) ?_
          refine r_aload_n rfl rfl ?_
          refine r_bipush rfl ?_
          refine r_callV1 rfl rfl (by first | assumption | exact hs.o rfl) rfl (k_putSign (by omega) hs h2 (by obtain ⟨g1, g2, g3⟩ := hok _ _ _ _ _ e2; have hp2 := h2.2.1; have hsg := sk_ge t (lE t p); simp at hl; simp only [List.length_append, List.length_map]; omega) (fun f3 hf3 h3 => ?_))
          refine r_iinc (L' := [_, _, _, _, _]) rfl rfl rfl ?_
          refine r_goto rfl ?_
          rw [tR_and (k := k) (k' := k' + 1) (b := true) hw, e2, bnd_inr] at K
          have K2 := K.addL
          rw [List.map_append, ← List.append_assoc] at K2
          obtain ⟨g1, g2, g3⟩ := hok _ _ _ _ _ e2
          have hsg := sk_ge t (lE t p)
          have hp2 := h2.2.1
          exact l_testC hd1 hdd hs hT hF hok p2 n2 k (k' + 1) (j + 1) true _ f3 _ 1 rfl (by omega) (by omega) (by omega) (by simp at hl g1 ⊢; omega) h3 (((hf.r hf1).trans hf2).trans hf3) K2
        · refine r_iload rfl rfl ?_
          refine r_if_n rfl (by decide) ?_
          refine r_aload_n rfl rfl ?_
          refine r_bipush rfl ?_
          refine r_callV1 rfl rfl (by first | assumption | exact hs.o rfl) rfl (k_putSignF (by omega) hs hB (fun f3 hf3 hB3 => ?_))
          refine r_iinc (L' := [_, _, _, _, _]) rfl rfl rfl ?_
          refine r_goto rfl ?_
          rw [tR_and (k := k) (k' := k' + 1) (b := true) hw, he2, bnd_inl] at K
          exact l_testF (by omega) hs hB3 (((hf.r hf1).trans hf2).trans hf3) (by omega) (by omega) (fun f' hf' h' => K.2 e2 rfl f' hf' h')
      · refine r_istore (L' := [_, _, _, _, _]) rfl rfl rfl ?_
        refine r_iload rfl rfl ?_
        refine r_iconst rfl ?_
        refine r_icmp_y rfl (by decide) ?_
        refine r_aload_n rfl rfl ?_
        refine r_getR rfl (by first | assumption | exact hs.o rfl) (by first | assumption | exact hs.g rfl) ?_
        have hL := wIs_L (by decide) hw
        have hLg := lE_gt hL
        have hLl := lE_le hp
        have hsk := sk_le hLl
        refine r_callV0 rfl rfl (by first | assumption | exact hs.o rfl) rfl (k_next (q := lE t p) (by omega) hs.r19 hT h.1.1 h.1.2.1 (h.1.2.2.2.1.trans (by rw [tE_L hL])) hLl (fun f1 hf1 h1 => ?_))
        refine r_iload rfl rfl ?_
        refine r_iconst rfl ?_
        refine r_icmp_n rfl (by decide) ?_
        refine r_iload_n rfl rfl ?_
        refine r_if_n rfl (by decide) ?_
        refine r_aload_n rfl rfl ?_
        refine r_bipush rfl ?_
        refine r_callV1 rfl rfl (by first | assumption | exact hs.o rfl) rfl (k_putSign (by omega) hs (h.to hf1 h1 hsk) (by simp at hl ⊢; omega) (fun f1p hfp h1p => ?_))
        refine r_iload_n rfl rfl ?_
        refine r_if_y rfl (by decide) ?_
        refine r_iconst rfl ?_
        refine r_goto rfl ?_
        refine r_istore_n (L' := [_, _, _, _, _]) rfl rfl rfl ?_
        refine r_aload_n rfl rfl ?_
        refine r_iload_n rfl rfl ?_
        refine r_callV1 rfl rfl (by first | assumption | exact hs.o rfl) rfl (hF _ _ _ _ _ _ hdd h1p (by have := sk_ge t (lE t p); simp at hl ⊢; omega) ⟨fun p2 n2 m2 e2 f2 hf2 h2 => ?_, fun e2 he2 f2 hf2 hB => ?_⟩)
        · refine r_iload rfl rfl ?_
          refine r_if_y rfl (by decide) ?_
          refine r_iinc (L' := [_, _, _, _, _]) rfl rfl rfl ?_
          refine r_goto rfl ?_
          rw [tR_or (k := k) (k' := k') (b := true) hna hw, e2, bnd_inr] at K
          have K2 := K.addL
          rw [List.map_append, ← List.append_assoc] at K2
          obtain ⟨g1, g2, g3⟩ := hok _ _ _ _ _ e2
          have hsg := sk_ge t (lE t p)
          have hp2 := h2.2.1
          exact l_testC hd1 hdd hs hT hF hok p2 n2 401 k' (j + 1) true _ f2 _ 1 rfl (by omega) (by omega) (by omega) (by simp at hl g1 ⊢; omega) h2 (((hf.r hf1).trans hfp).trans hf2) K2
        · refine r_iload rfl rfl ?_
          refine r_if_y rfl (by decide) ?_
          refine r_iinc (L' := [_, _, _, _, _]) rfl rfl rfl ?_
          refine r_goto rfl ?_
          rw [tR_or (k := k) (k' := k') (b := true) hna hw, he2, bnd_inl] at K
          exact l_testF (by omega) hs hB (((hf.r hf1).trans hfp).trans hf2) (by omega) (by omega) (fun f' hf' h' => K.2 e2 rfl f' hf' h')
      · refine r_istore (L' := [_, _, _, _, _]) rfl rfl rfl ?_
        refine r_iload rfl rfl ?_
        refine r_iconst rfl ?_
        refine r_icmp_n rfl (by decide) ?_
        refine r_goto rfl ?_
        rw [tR_end hna hno] at K
        exact l_testE (by omega) hs h (by simp at hl ⊢; omega) hf rfl (fun f' hf' h' => K.1 _ _ _ rfl f' hf' h')
termination_by t.2 - p
theorem k_readTest (hd : dd + 1 ≤ d) (h5 : 6 ≤ d) (hs : Sh σ g) (hT : TxOk t) (hF : FC σ g t dd dp F) (hok : ∀ p n, Ok1 true p n (F p n)) (h : RG f t p n l) (hl : l.length ≤ p) (K : CK Q σ g f t l (dTest t F p n)) : ZCt d 41 [zr (some 18), zi dp] σ f g Q := by
  refine ZCt.of' (L0 := [_, _, _, _, _]) (by omega) rfl rfl rfl (fun d hd1 => ?_)
  have hT1 := hT.1
  have hp := h.2.1
  refine r_iconst rfl ?_
  refine r_istore_n (L' := [_, _, _, _, _]) rfl rfl rfl ?_
  refine r_aload_n rfl rfl ?_
  refine r_iload_n rfl rfl ?_
  refine r_callV1 rfl rfl (by first | assumption | exact hs.o rfl) rfl (hF _ _ _ _ _ _ (by omega) h hl ⟨fun p2 n2 m2 e2 f2 hf2 h2 => ?_, fun e2 he2 f2 hf2 hB => ?_⟩)
  · refine r_iconst rfl ?_
    refine r_istore_n (L' := [_, _, _, _, _]) rfl rfl rfl ?_
    rw [dTest_tR, e2, bnd_inr] at K
    obtain ⟨g1, g2, g3⟩ := hok _ _ _ _ _ e2
    have hp2 := h2.2.1
    exact l_testC (by omega) (by omega) hs hT hF hok p2 n2 401 401 0 false _ f2 _ 0 rfl (by omega) (by omega) (by omega) (by simp at g1 ⊢; omega) h2 hf2 K.addL
  · refine r_iconst rfl ?_
    refine r_istore_n (L' := [_, _, _, _, _]) rfl rfl rfl ?_
    rw [dTest_tR, he2, bnd_inl] at K
    exact l_testF (by omega) hs hB hf2 (by omega) (by omega) (fun f' hf' h' => K.2 e2 rfl f' hf' h')
theorem k_readTestF (hd : 6 ≤ d) (hs : Sh σ g) (hB : RB f e) (K : ∀ f', FrU f f' → RB f' e → Q none σ f' g) : ZCt d 41 [zr (some 18), zi dp] σ f g Q := by
  refine ZCt.of' (L0 := [_, _, _, _, _]) (by omega) rfl rfl rfl (fun d hd1 => ?_)
  refine r_iconst rfl ?_
  refine r_istore_n (L' := [_, _, _, _, _]) rfl rfl rfl ?_
  refine r_aload_n rfl rfl ?_
  refine r_iload_n rfl rfl ?_
  refine r_callV1 rfl rfl (by first | assumption | exact hs.o rfl) rfl (k_readFactF (by omega) hs hB (fun f1 hf1 hB1 => ?_))
  refine r_iconst rfl ?_
  refine r_istore_n (L' := [_, _, _, _, _]) rfl rfl rfl ?_
  exact l_testF (by omega) hs hB1 hf1 (by omega) (by omega) K
theorem k_nest0 (hd : 2 ≤ d) (hs : Sh σ g) (hT : TxOk t) (h : RG f t p n l) (hl : l.length ≤ p) {x : Int} (K : ∀ f', FrU f f' → RB f' (err p 2) → Q none σ f' g) : ZCt d 43 [zr (some 18), zi 10, zi x] σ f g Q := by
  refine ZCt.of' (L0 := [_, _, _]) (by omega) rfl rfl rfl (fun d hd1 => ?_)
  refine r_iload_n rfl rfl ?_
  refine r_bipush rfl ?_
  refine r_icmp_n rfl (by decide) ?_
  refine r_aload_n rfl rfl ?_
  refine r_getR rfl (by first | assumption | exact hs.o rfl) (by first | assumption | exact hs.g rfl) ?_
  refine r_iconst rfl ?_
  refine r_callV1 rfl rfl (by first | assumption | exact hs.o rfl) rfl (k_refuse (by omega) hs.r19 h.1 (by have := hT.1; have := h.2.1; omega) (by omega) (fun f1 hf1 hF => ?_))
  refine r_ret rfl ?_
  exact K f1 ((FrU.rf f).r hf1) (h.bad hf1 hF (by have := hT.1; have := h.2.1; omega))
theorem k_nestN (hd : dd + 1 ≤ d) (h5 : 3 ≤ d) (hs : Sh σ g) (hT : TxOk t) (hdp : 0 ≤ dp ∧ dp < 10) (hF : FC σ g t dd (dp + 1) F) (hok : ∀ p n, Ok1 true p n (F p n)) (h : RG f t p n l) (hl : l.length ≤ p) (hw : wIs t p wNot = true) (K : CK Q σ g f t l (bnd (F (sk t (lE t p)) n) (fun p1 n1 l1 => .inr (p1, n1, l1 ++ [(11, 0)])))) : ZCt d 43 [zr (some 18), zi dp, zi 1] σ f g Q := by
  refine ZCt.of' (L0 := [_, _, _]) (by omega) rfl rfl rfl (fun d hd1 => ?_)
  have hT1 := hT.1
  have hp := h.2.1
  refine r_iload_n rfl rfl ?_
  refine r_bipush rfl ?_
  refine r_icmp_lt rfl (by omega) (by omega) (fun h3 => ?_) (fun h3 => ?_)
  · refine r_aload_n rfl rfl ?_
    refine r_getR rfl (by first | assumption | exact hs.o rfl) (by first | assumption | exact hs.g rfl) ?_
    have hL := wIs_L (by decide) hw
    have hLg := lE_gt hL
    have hLl := lE_le hp
    have hsk := sk_le hLl
    have hsg := sk_ge t (lE t p)
    refine r_callV0 rfl rfl (by first | assumption | exact hs.o rfl) rfl (k_next (q := lE t p) (by omega) hs.r19 hT h.1.1 h.1.2.1 (h.1.2.2.2.1.trans (by rw [tE_L hL])) hLl (fun f1 hf1 h1 => ?_))
    refine r_iload_n rfl rfl ?_
    refine r_if_n rfl (by decide) ?_
    refine r_aload_n rfl rfl ?_
    refine r_iload_n rfl rfl ?_
    refine r_iconst rfl ?_
    refine r_iadd rfl ?_
    refine r_callV1 rfl rfl (by first | assumption | exact hs.o rfl) rfl (hF _ _ _ _ _ _ (by omega) (h.to hf1 h1 hsk) (by omega) ⟨fun p2 n2 m2 e2 f2 hf2 h2 => ?_, fun e2 he2 f2 hf2 hB => ?_⟩)
    · refine r_aload_n rfl rfl ?_
      refine r_bipush rfl ?_
      refine r_callV1 rfl rfl (by first | assumption | exact hs.o rfl) rfl (k_putSign (by omega) hs h2 (by obtain ⟨g1, g2, g3⟩ := hok _ _ _ _ _ e2; have hp2 := h2.2.1; simp only [List.length_append, List.length_map]; omega) (fun f3 hf3 h3 => ?_))
      refine r_goto rfl ?_
      refine r_ret rfl ?_
      rw [e2, bnd_inr] at K
      refine K.1 _ _ _ rfl f3 ((((FrU.rf f).r hf1).trans hf2).trans hf3) ?_
      rw [List.map_append, ← List.append_assoc]
      exact h3
    · refine r_aload_n rfl rfl ?_
      refine r_bipush rfl ?_
      refine r_callV1 rfl rfl (by first | assumption | exact hs.o rfl) rfl (k_putSignF (by omega) hs hB (fun f3 hf3 hB3 => ?_))
      refine r_goto rfl ?_
      refine r_ret rfl ?_
      rw [he2, bnd_inl] at K
      exact K.2 _ rfl f3 ((((FrU.rf f).r hf1).trans hf2).trans hf3) hB3
  · exfalso; omega
theorem k_nestB (hd : dd + 2 ≤ d) (h5 : 7 ≤ d) (hs : Sh σ g) (hT : TxOk t) (hdp : 0 ≤ dp ∧ dp < 10) (hF : FC σ g t dd (dp + 1) F) (hok : ∀ p n, Ok1 true p n (F p n)) (h : RG f t p n l) (hl : l.length ≤ p) (hw : isS t p 91 = true) (K : CK Q σ g f t l (bnd (dTest t F (sk t (p + 1)) n) (fun p1 n1 l1 => if isS t p1 93 = true then .inr (sk t (p1 + 1), n1, l1) else .inl (err p1 0)))) : ZCt d 43 [zr (some 18), zi dp, zi 0] σ f g Q := by
  refine ZCt.of' (L0 := [_, _, _]) (by omega) rfl rfl rfl (fun d hd1 => ?_)
  have hT1 := hT.1
  have hp := h.2.1
  refine r_iload_n rfl rfl ?_
  refine r_bipush rfl ?_
  refine r_icmp_lt rfl (by omega) (by omega) (fun h3 => ?_) (fun h3 => ?_)
  · refine r_aload_n rfl rfl ?_
    refine r_getR rfl (by first | assumption | exact hs.o rfl) (by first | assumption | exact hs.g rfl) ?_
    have hop := sg_one hw (by decide) (by omega) (by omega)
    have hlt := (isS_iff.1 hw).1
    have hsk := sk_le (t := t) (p := p + 1) (by omega)
    have hsg := sk_ge t (p + 1)
    refine r_callV0 rfl rfl (by first | assumption | exact hs.o rfl) rfl (k_next (q := p + 1) (by omega) hs.r19 hT h.1.1 h.1.2.1 (h.1.2.2.2.1.trans (by rw [hop.2.1])) (by omega) (fun f1 hf1 h1 => ?_))
    refine r_iload_n rfl rfl ?_
    refine r_if_y rfl (by decide) ?_
    refine r_aload_n rfl rfl ?_
    refine r_iload_n rfl rfl ?_
    refine r_iconst rfl ?_
    refine r_iadd rfl ?_
    refine r_callV1 rfl rfl (by first | assumption | exact hs.o rfl) rfl (k_readTest (by omega) (by omega) hs hT hF hok (h.to hf1 h1 hsk) (by omega) ⟨fun p2 n2 m2 e2 f2 hf2 h2 => ?_, fun e2 he2 f2 hf2 hB => ?_⟩)
    · refine r_aload_n rfl rfl ?_
      refine r_getR rfl (by first | assumption | exact hs.o rfl) (by first | assumption | exact hs.g rfl) ?_
      refine r_bipush rfl ?_
      refine r_callV1 rfl rfl (by first | assumption | exact hs.o rfl) rfl (k_takeSign (by omega) hs.r19 h2.1 h2.2.1 hT (by decide) (by omega) (by omega) (by omega) (fun hS f3 hf3 h3 => ?_) (fun hS f3 hf3 hF3 => ?_))
      · refine r_ret rfl ?_
        rw [e2, bnd_inr, if_pos hS] at K
        exact K.1 _ _ _ rfl f3 ((((FrU.rf f).r hf1).trans hf2).r hf3) (h2.to hf3 h3 (sk_le (by have := (isS_iff.1 hS).1; omega)))
      · refine r_ret rfl ?_
        rw [e2, bnd_inr, if_neg hS] at K
        obtain ⟨g1, g2, g3⟩ := dTest_ok (t := t) hok _ _ _ _ _ e2
        exact K.2 _ rfl f3 ((((FrU.rf f).r hf1).trans hf2).r hf3) (h2.bad hf3 hF3 (by have := h2.2.1; simp only [List.length_append, List.length_map]; omega))
    · refine r_aload_n rfl rfl ?_
      refine r_getR rfl (by first | assumption | exact hs.o rfl) (by first | assumption | exact hs.g rfl) ?_
      refine r_bipush rfl ?_
      refine r_callV1 rfl rfl (by first | assumption | exact hs.o rfl) rfl (k_takeSignF (by omega) hs.r19 hB.1 ?_)
      refine r_ret rfl ?_
      rw [he2, bnd_inl] at K
      exact K.2 _ rfl f2 (((FrU.rf f).r hf1).trans hf2) hB
  · exfalso; omega
theorem k_factG (hd : 8 ≤ d) (hs : Sh σ g) (hT : TxOk t) (h : RG f t p n l) (hl : l.length ≤ p) {r : PR} (HN : ∀ d' Q, d' + 1 = d → wIs t p wNot = true → CK Q σ g f t l r → ZCt d' 43 [zr (some 18), zi dp, zi 1] σ f g Q) (HB : ∀ d' Q, d' + 1 = d → ¬ wIs t p wNot = true → isS t p 91 = true → CK Q σ g f t l r → ZCt d' 43 [zr (some 18), zi dp, zi 0] σ f g Q) (HC : ¬ wIs t p wNot = true → ¬ isS t p 91 = true → r = dCmp t p n) (K : CK Q σ g f t l r) : ZCt d 42 [zr (some 18), zi dp] σ f g Q := by
  refine ZCt.of' (L0 := [_, _, _, _, _]) (by omega) rfl rfl rfl (fun d hd1 => ?_)
  have hT1 := hT.1
  have hp := h.2.1
  refine r_aload_n rfl rfl ?_
  refine r_getR rfl (by first | assumption | exact hs.o rfl) (by first | assumption | exact hs.g rfl) ?_
  refine r_ldcs rfl ?_
  refine r_callV1 rfl rfl (by first | assumption | exact hs.o rfl) rfl (k_word1 (j := 1) (by omega) hs.r19 h.1 hT h.2.1 (by omega) rfl (fun hn1 => ?_) (fun hnn => ?_))
  · refine r_if_n rfl (by decide) ?_
    refine r_iconst rfl ?_
    refine r_goto rfl ?_
    refine r_istore_n (L' := [_, _, _, _, _]) rfl rfl rfl ?_
    refine r_iload_n rfl rfl ?_
    refine r_if_y rfl (by decide) ?_
    refine r_aload_n rfl rfl ?_
    refine r_iload_n rfl rfl ?_
    refine r_iload_n rfl rfl ?_
    refine r_callV2 rfl rfl (by first | assumption | exact hs.o rfl) rfl (HN _ _ hd1 hn1 ⟨fun p2 n2 m2 e2 f2 hf2 h2 => ?_, fun e2 he2 f2 hf2 hB => ?_⟩)
    · refine r_ret rfl ?_
      exact K.1 _ _ _ e2 f2 hf2 h2
    · refine r_ret rfl ?_
      exact K.2 _ he2 f2 hf2 hB
  · refine r_if_y rfl (by decide) ?_
    refine r_iconst rfl ?_
    refine r_istore_n (L' := [_, _, _, _, _]) rfl rfl rfl ?_
    refine r_iload_n rfl rfl ?_
    refine r_if_n rfl (by decide) ?_
    refine r_aload_n rfl rfl ?_
    refine r_getR rfl (by first | assumption | exact hs.o rfl) (by first | assumption | exact hs.g rfl) ?_
    refine r_bipush rfl ?_
    refine r_callV1 rfl rfl (by first | assumption | exact hs.o rfl) rfl (k_isSign (by omega) hs.r19 h.1 hT (by decide) (by omega) (by omega) (by omega) (fun hnb => ?_) (fun hnb => ?_))
    · refine r_if_n rfl (by decide) ?_
      refine r_aload_n rfl rfl ?_
      refine r_iload_n rfl rfl ?_
      refine r_iload_n rfl rfl ?_
      refine r_callV2 rfl rfl (by first | assumption | exact hs.o rfl) rfl (HB _ _ hd1 hnn hnb ⟨fun p2 n2 m2 e2 f2 hf2 h2 => ?_, fun e2 he2 f2 hf2 hB => ?_⟩)
      · refine r_ret rfl ?_
        exact K.1 _ _ _ e2 f2 hf2 h2
      · refine r_ret rfl ?_
        exact K.2 _ he2 f2 hf2 hB
    · refine r_if_y rfl (by decide) ?_
      refine r_aload_n rfl rfl ?_
      refine r_callV0 rfl rfl (by first | assumption | exact hs.o rfl) rfl (k_readSum (by omega) hs hT h hl ⟨fun p2 n2 m2 e2 f2 hf2 h2 => ?_, fun e2 he2 f2 hf2 hB => ?_⟩)
      · have hp2 := h2.2.1
        obtain ⟨g1, g2, g3⟩ := dSum_ok t _ _ _ _ _ e2
        by_cases h3 : kd t p2 = 3
        · have hsr := sv_rng h3 hT.2
          have hcs := cmp_sv h3 hT
          have hce := cmpE_ge t p2
          have hcl : cmpE t p2 ≤ t.2 := by rw [← hcs.1]; exact tE_le hp2
          have hsg := sk_ge t (cmpE t p2)
          refine r_aload_n rfl rfl ?_
          refine r_getR rfl (by first | assumption | exact hs.o rfl) (by first | assumption | exact hs.g rfl) ?_
          refine r_getI rfl (by first | assumption | exact hs.o rfl) (h2.1.2.2.2.2.2.1 h3) ?_
          refine r_istore_n (L' := [_, _, _, _, _]) rfl rfl rfl ?_
          refine r_iload_n rfl rfl ?_
          refine r_bipush rfl ?_
          refine r_icmp_eq rfl (by omega) (by omega) (fun h56 => ?_) (fun h56 => ?_)
          · refine r_iconst rfl ?_
            refine r_goto rfl ?_
            refine r_istore (L' := [_, _, _, _, _]) rfl rfl rfl ?_
            refine r_aload_n rfl rfl ?_
            refine r_getR rfl (by first | assumption | exact hs.o rfl) (by first | assumption | exact hs.g rfl) ?_
            refine r_getI rfl (by first | assumption | exact hs.o rfl) h2.1.2.2.2.2.1 ?_
            refine r_iconst rfl ?_
            refine r_icmp_ne rfl (by omega) (by omega) (fun h100 => ?_) (fun h100 => ?_)
            · exact absurd h3 h100
            · refine r_iload rfl rfl ?_
              refine r_if_y rfl (by decide) ?_
              refine r_aload_n rfl rfl ?_
              have hc : cmpOp t p2 = 6 := by omega
              refine r_callV0 rfl rfl (by first | assumption | exact hs.o rfl) rfl (k_countOne (by omega) hs hT h2 (by simp only [List.length_append, List.length_map]; omega) (fun hn f3 hf3 h3' => ?_) (fun hn f3 hf3 hB3 => ?_))
              · refine r_aload_n rfl rfl ?_
                refine r_getR rfl (by first | assumption | exact hs.o rfl) (by first | assumption | exact hs.g rfl) ?_
                refine r_callV0 rfl rfl (by first | assumption | exact hs.o rfl) rfl (k_next (q := cmpE t p2) (by omega) hs.r19 hT h3'.1.1 h3'.1.2.1 (h3'.1.2.2.2.1.trans (by rw [hcs.1])) hcl (fun f4 hf4 h4 => ?_))
                refine r_aload_n rfl rfl ?_
                refine r_callV0 rfl rfl (by first | assumption | exact hs.o rfl) rfl (k_readSum (by omega) hs hT (h3'.to hf4 h4 (sk_le hcl)) (by simp only [List.length_append, List.length_map]; omega) ⟨fun p5 n5 m5 e5 f5 hf5 h5 => ?_, fun e5 he5 f5 hf5 hB5 => ?_⟩)
                · refine r_aload_n rfl rfl ?_
                  refine r_iload_n rfl rfl ?_
                  refine r_callV1 rfl rfl (by first | assumption | exact hs.o rfl) rfl (k_putSign (by omega) hs h5 (by obtain ⟨g1, g2, g3⟩ := dSum_ok t _ _ _ _ _ e5; have hp5 := h5.2.1; simp only [List.length_append, List.length_map]; omega) (fun f6 hf6 h6 => ?_))
                  refine r_ret rfl ?_
                  rw [HC hnn hnb] at K
                  unfold dCmp at K
                  rw [e2, bnd_inr, if_neg (by omega), if_pos hn] at K
                  rw [e5, bnd_inr] at K
                  refine K.1 _ _ _ rfl f6 ((((hf2.trans hf3).r hf4).trans hf5).trans hf6) ?_
                  rw [hc, List.map_append, List.map_append, ← List.append_assoc, ← List.append_assoc]
                  rw [h56] at h6
                  exact h6
                · refine r_aload_n rfl rfl ?_
                  refine r_iload_n rfl rfl ?_
                  refine r_callV1 rfl rfl (by first | assumption | exact hs.o rfl) rfl (k_putSignF (by omega) hs hB5 (fun f6 hf6 hB6 => ?_))
                  refine r_ret rfl ?_
                  rw [HC hnn hnb] at K
                  unfold dCmp at K
                  rw [e2, bnd_inr, if_neg (by omega), if_pos hn] at K
                  rw [he5, bnd_inl] at K
                  exact K.2 _ rfl f6 ((((hf2.trans hf3).r hf4).trans hf5).trans hf6) hB6
              · refine r_aload_n rfl rfl ?_
                refine r_getR rfl (by first | assumption | exact hs.o rfl) (by first | assumption | exact hs.g rfl) ?_
                refine r_callV0 rfl rfl (by first | assumption | exact hs.o rfl) rfl (k_nextF (by omega) hs.r19 hB3.1 ?_)
                refine r_aload_n rfl rfl ?_
                refine r_callV0 rfl rfl (by first | assumption | exact hs.o rfl) rfl (k_readSumF (by omega) hs hB3 (fun f5 hf5 hB5 => ?_))
                refine r_aload_n rfl rfl ?_
                refine r_iload_n rfl rfl ?_
                refine r_callV1 rfl rfl (by first | assumption | exact hs.o rfl) rfl (k_putSignF (by omega) hs hB5 (fun f6 hf6 hB6 => ?_))
                refine r_ret rfl ?_
                rw [HC hnn hnb] at K
                unfold dCmp at K
                rw [e2, bnd_inr, if_neg (by omega), if_neg hn] at K
                exact K.2 _ rfl f6 ((hf2.trans hf3).trans (hf5.trans hf6)) hB6
          · refine r_iload_n rfl rfl ?_
            refine r_bipush rfl ?_
            refine r_icmp_eq rfl (by omega) (by omega) (fun h62 => ?_) (fun h62 => ?_)
            · refine r_iconst rfl ?_
              refine r_goto rfl ?_
              refine r_istore (L' := [_, _, _, _, _]) rfl rfl rfl ?_
              refine r_aload_n rfl rfl ?_
              refine r_getR rfl (by first | assumption | exact hs.o rfl) (by first | assumption | exact hs.g rfl) ?_
              refine r_getI rfl (by first | assumption | exact hs.o rfl) h2.1.2.2.2.2.1 ?_
              refine r_iconst rfl ?_
              refine r_icmp_ne rfl (by omega) (by omega) (fun h100 => ?_) (fun h100 => ?_)
              · exact absurd h3 h100
              · refine r_iload rfl rfl ?_
                refine r_if_y rfl (by decide) ?_
                refine r_aload_n rfl rfl ?_
                have hc : cmpOp t p2 = 8 := by omega
                refine r_callV0 rfl rfl (by first | assumption | exact hs.o rfl) rfl (k_countOne (by omega) hs hT h2 (by simp only [List.length_append, List.length_map]; omega) (fun hn f3 hf3 h3' => ?_) (fun hn f3 hf3 hB3 => ?_))
                · refine r_aload_n rfl rfl ?_
                  refine r_getR rfl (by first | assumption | exact hs.o rfl) (by first | assumption | exact hs.g rfl) ?_
                  refine r_callV0 rfl rfl (by first | assumption | exact hs.o rfl) rfl (k_next (q := cmpE t p2) (by omega) hs.r19 hT h3'.1.1 h3'.1.2.1 (h3'.1.2.2.2.1.trans (by rw [hcs.1])) hcl (fun f4 hf4 h4 => ?_))
                  refine r_aload_n rfl rfl ?_
                  refine r_callV0 rfl rfl (by first | assumption | exact hs.o rfl) rfl (k_readSum (by omega) hs hT (h3'.to hf4 h4 (sk_le hcl)) (by simp only [List.length_append, List.length_map]; omega) ⟨fun p5 n5 m5 e5 f5 hf5 h5 => ?_, fun e5 he5 f5 hf5 hB5 => ?_⟩)
                  · refine r_aload_n rfl rfl ?_
                    refine r_iload_n rfl rfl ?_
                    refine r_callV1 rfl rfl (by first | assumption | exact hs.o rfl) rfl (k_putSign (by omega) hs h5 (by obtain ⟨g1, g2, g3⟩ := dSum_ok t _ _ _ _ _ e5; have hp5 := h5.2.1; simp only [List.length_append, List.length_map]; omega) (fun f6 hf6 h6 => ?_))
                    refine r_ret rfl ?_
                    rw [HC hnn hnb] at K
                    unfold dCmp at K
                    rw [e2, bnd_inr, if_neg (by omega), if_pos hn] at K
                    rw [e5, bnd_inr] at K
                    refine K.1 _ _ _ rfl f6 ((((hf2.trans hf3).r hf4).trans hf5).trans hf6) ?_
                    rw [hc, List.map_append, List.map_append, ← List.append_assoc, ← List.append_assoc]
                    rw [h62] at h6
                    exact h6
                  · refine r_aload_n rfl rfl ?_
                    refine r_iload_n rfl rfl ?_
                    refine r_callV1 rfl rfl (by first | assumption | exact hs.o rfl) rfl (k_putSignF (by omega) hs hB5 (fun f6 hf6 hB6 => ?_))
                    refine r_ret rfl ?_
                    rw [HC hnn hnb] at K
                    unfold dCmp at K
                    rw [e2, bnd_inr, if_neg (by omega), if_pos hn] at K
                    rw [he5, bnd_inl] at K
                    exact K.2 _ rfl f6 ((((hf2.trans hf3).r hf4).trans hf5).trans hf6) hB6
                · refine r_aload_n rfl rfl ?_
                  refine r_getR rfl (by first | assumption | exact hs.o rfl) (by first | assumption | exact hs.g rfl) ?_
                  refine r_callV0 rfl rfl (by first | assumption | exact hs.o rfl) rfl (k_nextF (by omega) hs.r19 hB3.1 ?_)
                  refine r_aload_n rfl rfl ?_
                  refine r_callV0 rfl rfl (by first | assumption | exact hs.o rfl) rfl (k_readSumF (by omega) hs hB3 (fun f5 hf5 hB5 => ?_))
                  refine r_aload_n rfl rfl ?_
                  refine r_iload_n rfl rfl ?_
                  refine r_callV1 rfl rfl (by first | assumption | exact hs.o rfl) rfl (k_putSignF (by omega) hs hB5 (fun f6 hf6 hB6 => ?_))
                  refine r_ret rfl ?_
                  rw [HC hnn hnb] at K
                  unfold dCmp at K
                  rw [e2, bnd_inr, if_neg (by omega), if_neg hn] at K
                  exact K.2 _ rfl f6 ((hf2.trans hf3).trans (hf5.trans hf6)) hB6
            · refine r_iload_n rfl rfl ?_
              refine r_bipush rfl ?_
              refine r_icmp_eq rfl (by omega) (by omega) (fun h68 => ?_) (fun h68 => ?_)
              · refine r_iconst rfl ?_
                refine r_goto rfl ?_
                refine r_istore (L' := [_, _, _, _, _]) rfl rfl rfl ?_
                refine r_aload_n rfl rfl ?_
                refine r_getR rfl (by first | assumption | exact hs.o rfl) (by first | assumption | exact hs.g rfl) ?_
                refine r_getI rfl (by first | assumption | exact hs.o rfl) h2.1.2.2.2.2.1 ?_
                refine r_iconst rfl ?_
                refine r_icmp_ne rfl (by omega) (by omega) (fun h100 => ?_) (fun h100 => ?_)
                · exact absurd h3 h100
                · refine r_iload rfl rfl ?_
                  refine r_if_y rfl (by decide) ?_
                  refine r_aload_n rfl rfl ?_
                  have hc : cmpOp t p2 = 10 := by omega
                  refine r_callV0 rfl rfl (by first | assumption | exact hs.o rfl) rfl (k_countOne (by omega) hs hT h2 (by simp only [List.length_append, List.length_map]; omega) (fun hn f3 hf3 h3' => ?_) (fun hn f3 hf3 hB3 => ?_))
                  · refine r_aload_n rfl rfl ?_
                    refine r_getR rfl (by first | assumption | exact hs.o rfl) (by first | assumption | exact hs.g rfl) ?_
                    refine r_callV0 rfl rfl (by first | assumption | exact hs.o rfl) rfl (k_next (q := cmpE t p2) (by omega) hs.r19 hT h3'.1.1 h3'.1.2.1 (h3'.1.2.2.2.1.trans (by rw [hcs.1])) hcl (fun f4 hf4 h4 => ?_))
                    refine r_aload_n rfl rfl ?_
                    refine r_callV0 rfl rfl (by first | assumption | exact hs.o rfl) rfl (k_readSum (by omega) hs hT (h3'.to hf4 h4 (sk_le hcl)) (by simp only [List.length_append, List.length_map]; omega) ⟨fun p5 n5 m5 e5 f5 hf5 h5 => ?_, fun e5 he5 f5 hf5 hB5 => ?_⟩)
                    · refine r_aload_n rfl rfl ?_
                      refine r_iload_n rfl rfl ?_
                      refine r_callV1 rfl rfl (by first | assumption | exact hs.o rfl) rfl (k_putSign (by omega) hs h5 (by obtain ⟨g1, g2, g3⟩ := dSum_ok t _ _ _ _ _ e5; have hp5 := h5.2.1; simp only [List.length_append, List.length_map]; omega) (fun f6 hf6 h6 => ?_))
                      refine r_ret rfl ?_
                      rw [HC hnn hnb] at K
                      unfold dCmp at K
                      rw [e2, bnd_inr, if_neg (by omega), if_pos hn] at K
                      rw [e5, bnd_inr] at K
                      refine K.1 _ _ _ rfl f6 ((((hf2.trans hf3).r hf4).trans hf5).trans hf6) ?_
                      rw [hc, List.map_append, List.map_append, ← List.append_assoc, ← List.append_assoc]
                      rw [h68] at h6
                      exact h6
                    · refine r_aload_n rfl rfl ?_
                      refine r_iload_n rfl rfl ?_
                      refine r_callV1 rfl rfl (by first | assumption | exact hs.o rfl) rfl (k_putSignF (by omega) hs hB5 (fun f6 hf6 hB6 => ?_))
                      refine r_ret rfl ?_
                      rw [HC hnn hnb] at K
                      unfold dCmp at K
                      rw [e2, bnd_inr, if_neg (by omega), if_pos hn] at K
                      rw [he5, bnd_inl] at K
                      exact K.2 _ rfl f6 ((((hf2.trans hf3).r hf4).trans hf5).trans hf6) hB6
                  · refine r_aload_n rfl rfl ?_
                    refine r_getR rfl (by first | assumption | exact hs.o rfl) (by first | assumption | exact hs.g rfl) ?_
                    refine r_callV0 rfl rfl (by first | assumption | exact hs.o rfl) rfl (k_nextF (by omega) hs.r19 hB3.1 ?_)
                    refine r_aload_n rfl rfl ?_
                    refine r_callV0 rfl rfl (by first | assumption | exact hs.o rfl) rfl (k_readSumF (by omega) hs hB3 (fun f5 hf5 hB5 => ?_))
                    refine r_aload_n rfl rfl ?_
                    refine r_iload_n rfl rfl ?_
                    refine r_callV1 rfl rfl (by first | assumption | exact hs.o rfl) rfl (k_putSignF (by omega) hs hB5 (fun f6 hf6 hB6 => ?_))
                    refine r_ret rfl ?_
                    rw [HC hnn hnb] at K
                    unfold dCmp at K
                    rw [e2, bnd_inr, if_neg (by omega), if_neg hn] at K
                    exact K.2 _ rfl f6 ((hf2.trans hf3).trans (hf5.trans hf6)) hB6
              · refine r_iload_n rfl rfl ?_
                refine r_sipush rfl ?_
                refine r_icmp_eq rfl (by omega) (by omega) (fun h75 => ?_) (fun h75 => ?_)
                · refine r_iconst rfl ?_
                  refine r_goto rfl ?_
                  refine r_istore (L' := [_, _, _, _, _]) rfl rfl rfl ?_
                  refine r_aload_n rfl rfl ?_
                  refine r_getR rfl (by first | assumption | exact hs.o rfl) (by first | assumption | exact hs.g rfl) ?_
                  refine r_getI rfl (by first | assumption | exact hs.o rfl) h2.1.2.2.2.2.1 ?_
                  refine r_iconst rfl ?_
                  refine r_icmp_ne rfl (by omega) (by omega) (fun h100 => ?_) (fun h100 => ?_)
                  · exact absurd h3 h100
                  · refine r_iload rfl rfl ?_
                    refine r_if_y rfl (by decide) ?_
                    refine r_aload_n rfl rfl ?_
                    have hc : cmpOp t p2 = 7 := by omega
                    refine r_callV0 rfl rfl (by first | assumption | exact hs.o rfl) rfl (k_countOne (by omega) hs hT h2 (by simp only [List.length_append, List.length_map]; omega) (fun hn f3 hf3 h3' => ?_) (fun hn f3 hf3 hB3 => ?_))
                    · refine r_aload_n rfl rfl ?_
                      refine r_getR rfl (by first | assumption | exact hs.o rfl) (by first | assumption | exact hs.g rfl) ?_
                      refine r_callV0 rfl rfl (by first | assumption | exact hs.o rfl) rfl (k_next (q := cmpE t p2) (by omega) hs.r19 hT h3'.1.1 h3'.1.2.1 (h3'.1.2.2.2.1.trans (by rw [hcs.1])) hcl (fun f4 hf4 h4 => ?_))
                      refine r_aload_n rfl rfl ?_
                      refine r_callV0 rfl rfl (by first | assumption | exact hs.o rfl) rfl (k_readSum (by omega) hs hT (h3'.to hf4 h4 (sk_le hcl)) (by simp only [List.length_append, List.length_map]; omega) ⟨fun p5 n5 m5 e5 f5 hf5 h5 => ?_, fun e5 he5 f5 hf5 hB5 => ?_⟩)
                      · refine r_aload_n rfl rfl ?_
                        refine r_iload_n rfl rfl ?_
                        refine r_callV1 rfl rfl (by first | assumption | exact hs.o rfl) rfl (k_putSign (by omega) hs h5 (by obtain ⟨g1, g2, g3⟩ := dSum_ok t _ _ _ _ _ e5; have hp5 := h5.2.1; simp only [List.length_append, List.length_map]; omega) (fun f6 hf6 h6 => ?_))
                        refine r_ret rfl ?_
                        rw [HC hnn hnb] at K
                        unfold dCmp at K
                        rw [e2, bnd_inr, if_neg (by omega), if_pos hn] at K
                        rw [e5, bnd_inr] at K
                        refine K.1 _ _ _ rfl f6 ((((hf2.trans hf3).r hf4).trans hf5).trans hf6) ?_
                        rw [hc, List.map_append, List.map_append, ← List.append_assoc, ← List.append_assoc]
                        rw [h75] at h6
                        exact h6
                      · refine r_aload_n rfl rfl ?_
                        refine r_iload_n rfl rfl ?_
                        refine r_callV1 rfl rfl (by first | assumption | exact hs.o rfl) rfl (k_putSignF (by omega) hs hB5 (fun f6 hf6 hB6 => ?_))
                        refine r_ret rfl ?_
                        rw [HC hnn hnb] at K
                        unfold dCmp at K
                        rw [e2, bnd_inr, if_neg (by omega), if_pos hn] at K
                        rw [he5, bnd_inl] at K
                        exact K.2 _ rfl f6 ((((hf2.trans hf3).r hf4).trans hf5).trans hf6) hB6
                    · refine r_aload_n rfl rfl ?_
                      refine r_getR rfl (by first | assumption | exact hs.o rfl) (by first | assumption | exact hs.g rfl) ?_
                      refine r_callV0 rfl rfl (by first | assumption | exact hs.o rfl) rfl (k_nextF (by omega) hs.r19 hB3.1 ?_)
                      refine r_aload_n rfl rfl ?_
                      refine r_callV0 rfl rfl (by first | assumption | exact hs.o rfl) rfl (k_readSumF (by omega) hs hB3 (fun f5 hf5 hB5 => ?_))
                      refine r_aload_n rfl rfl ?_
                      refine r_iload_n rfl rfl ?_
                      refine r_callV1 rfl rfl (by first | assumption | exact hs.o rfl) rfl (k_putSignF (by omega) hs hB5 (fun f6 hf6 hB6 => ?_))
                      refine r_ret rfl ?_
                      rw [HC hnn hnb] at K
                      unfold dCmp at K
                      rw [e2, bnd_inr, if_neg (by omega), if_neg hn] at K
                      exact K.2 _ rfl f6 ((hf2.trans hf3).trans (hf5.trans hf6)) hB6
                · refine r_iload_n rfl rfl ?_
                  refine r_sipush rfl ?_
                  refine r_icmp_ne rfl (by omega) (by omega) (fun h82 => ?_) (fun h82 => ?_)
                  · refine r_iconst rfl ?_
                    refine r_istore (L' := [_, _, _, _, _]) rfl rfl rfl ?_
                    refine r_aload_n rfl rfl ?_
                    refine r_getR rfl (by first | assumption | exact hs.o rfl) (by first | assumption | exact hs.g rfl) ?_
                    refine r_getI rfl (by first | assumption | exact hs.o rfl) h2.1.2.2.2.2.1 ?_
                    refine r_iconst rfl ?_
                    refine r_icmp_ne rfl (by omega) (by omega) (fun h100 => ?_) (fun h100 => ?_)
                    · exact absurd h3 h100
                    · refine r_iload rfl rfl ?_
                      refine r_if_n rfl (by decide) ?_
                      refine r_aload_n rfl rfl ?_
                      refine r_getR rfl (by first | assumption | exact hs.o rfl) (by first | assumption | exact hs.g rfl) ?_
                      refine r_iconst rfl ?_
                      refine r_callV1 rfl rfl (by first | assumption | exact hs.o rfl) rfl (k_refuse (by omega) hs.r19 h2.1 (by omega) (by omega) (fun f3 hf3 hF3 => ?_))
                      refine r_ret rfl ?_
                      rw [HC hnn hnb, show dCmp t p n = _ from rfl] at K
                      unfold dCmp at K
                      rw [e2, bnd_inr, if_pos (by omega)] at K
                      exact K.2 _ rfl f3 (hf2.r hf3) (h2.bad hf3 hF3 (by simp only [List.length_append, List.length_map]; omega))
                  · refine r_iconst rfl ?_
                    refine r_goto rfl ?_
                    refine r_istore (L' := [_, _, _, _, _]) rfl rfl rfl ?_
                    refine r_aload_n rfl rfl ?_
                    refine r_getR rfl (by first | assumption | exact hs.o rfl) (by first | assumption | exact hs.g rfl) ?_
                    refine r_getI rfl (by first | assumption | exact hs.o rfl) h2.1.2.2.2.2.1 ?_
                    refine r_iconst rfl ?_
                    refine r_icmp_ne rfl (by omega) (by omega) (fun h100 => ?_) (fun h100 => ?_)
                    · exact absurd h3 h100
                    · refine r_iload rfl rfl ?_
                      refine r_if_y rfl (by decide) ?_
                      refine r_aload_n rfl rfl ?_
                      have hc : cmpOp t p2 = 9 := by omega
                      refine r_callV0 rfl rfl (by first | assumption | exact hs.o rfl) rfl (k_countOne (by omega) hs hT h2 (by simp only [List.length_append, List.length_map]; omega) (fun hn f3 hf3 h3' => ?_) (fun hn f3 hf3 hB3 => ?_))
                      · refine r_aload_n rfl rfl ?_
                        refine r_getR rfl (by first | assumption | exact hs.o rfl) (by first | assumption | exact hs.g rfl) ?_
                        refine r_callV0 rfl rfl (by first | assumption | exact hs.o rfl) rfl (k_next (q := cmpE t p2) (by omega) hs.r19 hT h3'.1.1 h3'.1.2.1 (h3'.1.2.2.2.1.trans (by rw [hcs.1])) hcl (fun f4 hf4 h4 => ?_))
                        refine r_aload_n rfl rfl ?_
                        refine r_callV0 rfl rfl (by first | assumption | exact hs.o rfl) rfl (k_readSum (by omega) hs hT (h3'.to hf4 h4 (sk_le hcl)) (by simp only [List.length_append, List.length_map]; omega) ⟨fun p5 n5 m5 e5 f5 hf5 h5 => ?_, fun e5 he5 f5 hf5 hB5 => ?_⟩)
                        · refine r_aload_n rfl rfl ?_
                          refine r_iload_n rfl rfl ?_
                          refine r_callV1 rfl rfl (by first | assumption | exact hs.o rfl) rfl (k_putSign (by omega) hs h5 (by obtain ⟨g1, g2, g3⟩ := dSum_ok t _ _ _ _ _ e5; have hp5 := h5.2.1; simp only [List.length_append, List.length_map]; omega) (fun f6 hf6 h6 => ?_))
                          refine r_ret rfl ?_
                          rw [HC hnn hnb] at K
                          unfold dCmp at K
                          rw [e2, bnd_inr, if_neg (by omega), if_pos hn] at K
                          rw [e5, bnd_inr] at K
                          refine K.1 _ _ _ rfl f6 ((((hf2.trans hf3).r hf4).trans hf5).trans hf6) ?_
                          rw [hc, List.map_append, List.map_append, ← List.append_assoc, ← List.append_assoc]
                          rw [h82] at h6
                          exact h6
                        · refine r_aload_n rfl rfl ?_
                          refine r_iload_n rfl rfl ?_
                          refine r_callV1 rfl rfl (by first | assumption | exact hs.o rfl) rfl (k_putSignF (by omega) hs hB5 (fun f6 hf6 hB6 => ?_))
                          refine r_ret rfl ?_
                          rw [HC hnn hnb] at K
                          unfold dCmp at K
                          rw [e2, bnd_inr, if_neg (by omega), if_pos hn] at K
                          rw [he5, bnd_inl] at K
                          exact K.2 _ rfl f6 ((((hf2.trans hf3).r hf4).trans hf5).trans hf6) hB6
                      · refine r_aload_n rfl rfl ?_
                        refine r_getR rfl (by first | assumption | exact hs.o rfl) (by first | assumption | exact hs.g rfl) ?_
                        refine r_callV0 rfl rfl (by first | assumption | exact hs.o rfl) rfl (k_nextF (by omega) hs.r19 hB3.1 ?_)
                        refine r_aload_n rfl rfl ?_
                        refine r_callV0 rfl rfl (by first | assumption | exact hs.o rfl) rfl (k_readSumF (by omega) hs hB3 (fun f5 hf5 hB5 => ?_))
                        refine r_aload_n rfl rfl ?_
                        refine r_iload_n rfl rfl ?_
                        refine r_callV1 rfl rfl (by first | assumption | exact hs.o rfl) rfl (k_putSignF (by omega) hs hB5 (fun f6 hf6 hB6 => ?_))
                        refine r_ret rfl ?_
                        rw [HC hnn hnb] at K
                        unfold dCmp at K
                        rw [e2, bnd_inr, if_neg (by omega), if_neg hn] at K
                        exact K.2 _ rfl f6 ((hf2.trans hf3).trans (hf5.trans hf6)) hB6
        · refine r_aload_n rfl rfl ?_
          refine r_getR rfl (by first | assumption | exact hs.o rfl) (by first | assumption | exact hs.g rfl) ?_
          refine r_getI rfl (by first | assumption | exact hs.o rfl) rfl ?_
          refine r_istore_n (L' := [_, _, _, _, _]) rfl rfl rfl ?_
          refine r_iload_n rfl rfl ?_
          refine r_bipush rfl ?_
          refine r_icmp_any rfl ?_ ?_
          · refine r_iconst rfl ?_
            refine r_goto rfl ?_
            refine r_istore (L' := [_, _, _, _, _]) rfl rfl rfl ?_
            refine r_aload_n rfl rfl ?_
            refine r_getR rfl (by first | assumption | exact hs.o rfl) (by first | assumption | exact hs.g rfl) ?_
            refine r_getI rfl (by first | assumption | exact hs.o rfl) h2.1.2.2.2.2.1 ?_
            refine r_iconst rfl ?_
            refine r_icmp_ne rfl (by have := kd_rng t p2; omega) (by omega) (fun h100 => ?_) (fun h100 => ?_)
            · refine r_aload_n rfl rfl ?_
              refine r_getR rfl (by first | assumption | exact hs.o rfl) (by first | assumption | exact hs.g rfl) ?_
              refine r_iconst rfl ?_
              refine r_callV1 rfl rfl (by first | assumption | exact hs.o rfl) rfl (k_refuse (by omega) hs.r19 h2.1 (by omega) (by omega) (fun f3 hf3 hF3 => ?_))
              refine r_ret rfl ?_
              rw [HC hnn hnb] at K
              unfold dCmp at K
              rw [e2, bnd_inr, if_pos (cmp_no h3)] at K
              exact K.2 _ rfl f3 (hf2.r hf3) (h2.bad hf3 hF3 (by simp only [List.length_append, List.length_map]; omega))
            · exact absurd h100 h3
          · refine r_iload_n rfl rfl ?_
            refine r_bipush rfl ?_
            refine r_icmp_any rfl ?_ ?_
            · refine r_iconst rfl ?_
              refine r_goto rfl ?_
              refine r_istore (L' := [_, _, _, _, _]) rfl rfl rfl ?_
              refine r_aload_n rfl rfl ?_
              refine r_getR rfl (by first | assumption | exact hs.o rfl) (by first | assumption | exact hs.g rfl) ?_
              refine r_getI rfl (by first | assumption | exact hs.o rfl) h2.1.2.2.2.2.1 ?_
              refine r_iconst rfl ?_
              refine r_icmp_ne rfl (by have := kd_rng t p2; omega) (by omega) (fun h100 => ?_) (fun h100 => ?_)
              · refine r_aload_n rfl rfl ?_
                refine r_getR rfl (by first | assumption | exact hs.o rfl) (by first | assumption | exact hs.g rfl) ?_
                refine r_iconst rfl ?_
                refine r_callV1 rfl rfl (by first | assumption | exact hs.o rfl) rfl (k_refuse (by omega) hs.r19 h2.1 (by omega) (by omega) (fun f3 hf3 hF3 => ?_))
                refine r_ret rfl ?_
                rw [HC hnn hnb] at K
                unfold dCmp at K
                rw [e2, bnd_inr, if_pos (cmp_no h3)] at K
                exact K.2 _ rfl f3 (hf2.r hf3) (h2.bad hf3 hF3 (by simp only [List.length_append, List.length_map]; omega))
              · exact absurd h100 h3
            · refine r_iload_n rfl rfl ?_
              refine r_bipush rfl ?_
              refine r_icmp_any rfl ?_ ?_
              · refine r_iconst rfl ?_
                refine r_goto rfl ?_
                refine r_istore (L' := [_, _, _, _, _]) rfl rfl rfl ?_
                refine r_aload_n rfl rfl ?_
                refine r_getR rfl (by first | assumption | exact hs.o rfl) (by first | assumption | exact hs.g rfl) ?_
                refine r_getI rfl (by first | assumption | exact hs.o rfl) h2.1.2.2.2.2.1 ?_
                refine r_iconst rfl ?_
                refine r_icmp_ne rfl (by have := kd_rng t p2; omega) (by omega) (fun h100 => ?_) (fun h100 => ?_)
                · refine r_aload_n rfl rfl ?_
                  refine r_getR rfl (by first | assumption | exact hs.o rfl) (by first | assumption | exact hs.g rfl) ?_
                  refine r_iconst rfl ?_
                  refine r_callV1 rfl rfl (by first | assumption | exact hs.o rfl) rfl (k_refuse (by omega) hs.r19 h2.1 (by omega) (by omega) (fun f3 hf3 hF3 => ?_))
                  refine r_ret rfl ?_
                  rw [HC hnn hnb] at K
                  unfold dCmp at K
                  rw [e2, bnd_inr, if_pos (cmp_no h3)] at K
                  exact K.2 _ rfl f3 (hf2.r hf3) (h2.bad hf3 hF3 (by simp only [List.length_append, List.length_map]; omega))
                · exact absurd h100 h3
              · refine r_iload_n rfl rfl ?_
                refine r_sipush rfl ?_
                refine r_icmp_any rfl ?_ ?_
                · refine r_iconst rfl ?_
                  refine r_goto rfl ?_
                  refine r_istore (L' := [_, _, _, _, _]) rfl rfl rfl ?_
                  refine r_aload_n rfl rfl ?_
                  refine r_getR rfl (by first | assumption | exact hs.o rfl) (by first | assumption | exact hs.g rfl) ?_
                  refine r_getI rfl (by first | assumption | exact hs.o rfl) h2.1.2.2.2.2.1 ?_
                  refine r_iconst rfl ?_
                  refine r_icmp_ne rfl (by have := kd_rng t p2; omega) (by omega) (fun h100 => ?_) (fun h100 => ?_)
                  · refine r_aload_n rfl rfl ?_
                    refine r_getR rfl (by first | assumption | exact hs.o rfl) (by first | assumption | exact hs.g rfl) ?_
                    refine r_iconst rfl ?_
                    refine r_callV1 rfl rfl (by first | assumption | exact hs.o rfl) rfl (k_refuse (by omega) hs.r19 h2.1 (by omega) (by omega) (fun f3 hf3 hF3 => ?_))
                    refine r_ret rfl ?_
                    rw [HC hnn hnb] at K
                    unfold dCmp at K
                    rw [e2, bnd_inr, if_pos (cmp_no h3)] at K
                    exact K.2 _ rfl f3 (hf2.r hf3) (h2.bad hf3 hF3 (by simp only [List.length_append, List.length_map]; omega))
                  · exact absurd h100 h3
                · refine r_iload_n rfl rfl ?_
                  refine r_sipush rfl ?_
                  refine r_icmp_any rfl ?_ ?_
                  · refine r_iconst rfl ?_
                    refine r_istore (L' := [_, _, _, _, _]) rfl rfl rfl ?_
                    refine r_aload_n rfl rfl ?_
                    refine r_getR rfl (by first | assumption | exact hs.o rfl) (by first | assumption | exact hs.g rfl) ?_
                    refine r_getI rfl (by first | assumption | exact hs.o rfl) h2.1.2.2.2.2.1 ?_
                    refine r_iconst rfl ?_
                    refine r_icmp_ne rfl (by have := kd_rng t p2; omega) (by omega) (fun h100 => ?_) (fun h100 => ?_)
                    · refine r_aload_n rfl rfl ?_
                      refine r_getR rfl (by first | assumption | exact hs.o rfl) (by first | assumption | exact hs.g rfl) ?_
                      refine r_iconst rfl ?_
                      refine r_callV1 rfl rfl (by first | assumption | exact hs.o rfl) rfl (k_refuse (by omega) hs.r19 h2.1 (by omega) (by omega) (fun f3 hf3 hF3 => ?_))
                      refine r_ret rfl ?_
                      rw [HC hnn hnb] at K
                      unfold dCmp at K
                      rw [e2, bnd_inr, if_pos (cmp_no h3)] at K
                      exact K.2 _ rfl f3 (hf2.r hf3) (h2.bad hf3 hF3 (by simp only [List.length_append, List.length_map]; omega))
                    · exact absurd h100 h3
                  · refine r_iconst rfl ?_
                    refine r_goto rfl ?_
                    refine r_istore (L' := [_, _, _, _, _]) rfl rfl rfl ?_
                    refine r_aload_n rfl rfl ?_
                    refine r_getR rfl (by first | assumption | exact hs.o rfl) (by first | assumption | exact hs.g rfl) ?_
                    refine r_getI rfl (by first | assumption | exact hs.o rfl) h2.1.2.2.2.2.1 ?_
                    refine r_iconst rfl ?_
                    refine r_icmp_ne rfl (by have := kd_rng t p2; omega) (by omega) (fun h100 => ?_) (fun h100 => ?_)
                    · refine r_aload_n rfl rfl ?_
                      refine r_getR rfl (by first | assumption | exact hs.o rfl) (by first | assumption | exact hs.g rfl) ?_
                      refine r_iconst rfl ?_
                      refine r_callV1 rfl rfl (by first | assumption | exact hs.o rfl) rfl (k_refuse (by omega) hs.r19 h2.1 (by omega) (by omega) (fun f3 hf3 hF3 => ?_))
                      refine r_ret rfl ?_
                      rw [HC hnn hnb] at K
                      unfold dCmp at K
                      rw [e2, bnd_inr, if_pos (cmp_no h3)] at K
                      exact K.2 _ rfl f3 (hf2.r hf3) (h2.bad hf3 hF3 (by simp only [List.length_append, List.length_map]; omega))
                    · exact absurd h100 h3
      · refine r_aload_n rfl rfl ?_
        refine r_getR rfl (by first | assumption | exact hs.o rfl) (by first | assumption | exact hs.g rfl) ?_
        refine r_getI rfl (by first | assumption | exact hs.o rfl) rfl ?_
        refine r_istore_n (L' := [_, _, _, _, _]) rfl rfl rfl ?_
        refine r_iload_n rfl rfl ?_
        refine r_bipush rfl ?_
        refine r_icmp_any rfl ?_ ?_
        · refine r_iconst rfl ?_
          refine r_goto rfl ?_
          refine r_istore (L' := [_, _, _, _, _]) rfl rfl rfl ?_
          refine r_aload_n rfl rfl ?_
          refine r_getR rfl (by first | assumption | exact hs.o rfl) (by first | assumption | exact hs.g rfl) ?_
          refine r_getI rfl (by first | assumption | exact hs.o rfl) hB.1.2.2 ?_
          refine r_iconst rfl ?_
          refine r_icmp_y rfl (by decide) ?_
          refine r_aload_n rfl rfl ?_
          refine r_getR rfl (by first | assumption | exact hs.o rfl) (by first | assumption | exact hs.g rfl) ?_
          refine r_iconst rfl ?_
          refine r_callV1 rfl rfl (by first | assumption | exact hs.o rfl) rfl (k_refuseF (by omega) hs.r19 hB.1 ?_)
          refine r_ret rfl ?_
          rw [HC hnn hnb] at K
          unfold dCmp at K
          rw [he2, bnd_inl] at K
          exact K.2 _ rfl f2 hf2 hB
        · refine r_iload_n rfl rfl ?_
          refine r_bipush rfl ?_
          refine r_icmp_any rfl ?_ ?_
          · refine r_iconst rfl ?_
            refine r_goto rfl ?_
            refine r_istore (L' := [_, _, _, _, _]) rfl rfl rfl ?_
            refine r_aload_n rfl rfl ?_
            refine r_getR rfl (by first | assumption | exact hs.o rfl) (by first | assumption | exact hs.g rfl) ?_
            refine r_getI rfl (by first | assumption | exact hs.o rfl) hB.1.2.2 ?_
            refine r_iconst rfl ?_
            refine r_icmp_y rfl (by decide) ?_
            refine r_aload_n rfl rfl ?_
            refine r_getR rfl (by first | assumption | exact hs.o rfl) (by first | assumption | exact hs.g rfl) ?_
            refine r_iconst rfl ?_
            refine r_callV1 rfl rfl (by first | assumption | exact hs.o rfl) rfl (k_refuseF (by omega) hs.r19 hB.1 ?_)
            refine r_ret rfl ?_
            rw [HC hnn hnb] at K
            unfold dCmp at K
            rw [he2, bnd_inl] at K
            exact K.2 _ rfl f2 hf2 hB
          · refine r_iload_n rfl rfl ?_
            refine r_bipush rfl ?_
            refine r_icmp_any rfl ?_ ?_
            · refine r_iconst rfl ?_
              refine r_goto rfl ?_
              refine r_istore (L' := [_, _, _, _, _]) rfl rfl rfl ?_
              refine r_aload_n rfl rfl ?_
              refine r_getR rfl (by first | assumption | exact hs.o rfl) (by first | assumption | exact hs.g rfl) ?_
              refine r_getI rfl (by first | assumption | exact hs.o rfl) hB.1.2.2 ?_
              refine r_iconst rfl ?_
              refine r_icmp_y rfl (by decide) ?_
              refine r_aload_n rfl rfl ?_
              refine r_getR rfl (by first | assumption | exact hs.o rfl) (by first | assumption | exact hs.g rfl) ?_
              refine r_iconst rfl ?_
              refine r_callV1 rfl rfl (by first | assumption | exact hs.o rfl) rfl (k_refuseF (by omega) hs.r19 hB.1 ?_)
              refine r_ret rfl ?_
              rw [HC hnn hnb] at K
              unfold dCmp at K
              rw [he2, bnd_inl] at K
              exact K.2 _ rfl f2 hf2 hB
            · refine r_iload_n rfl rfl ?_
              refine r_sipush rfl ?_
              refine r_icmp_any rfl ?_ ?_
              · refine r_iconst rfl ?_
                refine r_goto rfl ?_
                refine r_istore (L' := [_, _, _, _, _]) rfl rfl rfl ?_
                refine r_aload_n rfl rfl ?_
                refine r_getR rfl (by first | assumption | exact hs.o rfl) (by first | assumption | exact hs.g rfl) ?_
                refine r_getI rfl (by first | assumption | exact hs.o rfl) hB.1.2.2 ?_
                refine r_iconst rfl ?_
                refine r_icmp_y rfl (by decide) ?_
                refine r_aload_n rfl rfl ?_
                refine r_getR rfl (by first | assumption | exact hs.o rfl) (by first | assumption | exact hs.g rfl) ?_
                refine r_iconst rfl ?_
                refine r_callV1 rfl rfl (by first | assumption | exact hs.o rfl) rfl (k_refuseF (by omega) hs.r19 hB.1 ?_)
                refine r_ret rfl ?_
                rw [HC hnn hnb] at K
                unfold dCmp at K
                rw [he2, bnd_inl] at K
                exact K.2 _ rfl f2 hf2 hB
              · refine r_iload_n rfl rfl ?_
                refine r_sipush rfl ?_
                refine r_icmp_any rfl ?_ ?_
                · refine r_iconst rfl ?_
                  refine r_istore (L' := [_, _, _, _, _]) rfl rfl rfl ?_
                  refine r_aload_n rfl rfl ?_
                  refine r_getR rfl (by first | assumption | exact hs.o rfl) (by first | assumption | exact hs.g rfl) ?_
                  refine r_getI rfl (by first | assumption | exact hs.o rfl) hB.1.2.2 ?_
                  refine r_iconst rfl ?_
                  refine r_icmp_y rfl (by decide) ?_
                  refine r_aload_n rfl rfl ?_
                  refine r_getR rfl (by first | assumption | exact hs.o rfl) (by first | assumption | exact hs.g rfl) ?_
                  refine r_iconst rfl ?_
                  refine r_callV1 rfl rfl (by first | assumption | exact hs.o rfl) rfl (k_refuseF (by omega) hs.r19 hB.1 ?_)
                  refine r_ret rfl ?_
                  rw [HC hnn hnb] at K
                  unfold dCmp at K
                  rw [he2, bnd_inl] at K
                  exact K.2 _ rfl f2 hf2 hB
                · refine r_iconst rfl ?_
                  refine r_goto rfl ?_
                  refine r_istore (L' := [_, _, _, _, _]) rfl rfl rfl ?_
                  refine r_aload_n rfl rfl ?_
                  refine r_getR rfl (by first | assumption | exact hs.o rfl) (by first | assumption | exact hs.g rfl) ?_
                  refine r_getI rfl (by first | assumption | exact hs.o rfl) hB.1.2.2 ?_
                  refine r_iconst rfl ?_
                  refine r_icmp_y rfl (by decide) ?_
                  refine r_aload_n rfl rfl ?_
                  refine r_getR rfl (by first | assumption | exact hs.o rfl) (by first | assumption | exact hs.g rfl) ?_
                  refine r_iconst rfl ?_
                  refine r_callV1 rfl rfl (by first | assumption | exact hs.o rfl) rfl (k_refuseF (by omega) hs.r19 hB.1 ?_)
                  refine r_ret rfl ?_
                  rw [HC hnn hnb] at K
                  unfold dCmp at K
                  rw [he2, bnd_inl] at K
                  exact K.2 _ rfl f2 hf2 hB
theorem k_fact (hs : Sh σ g) (hT : TxOk t) : ∀ (k : Nat), k ≤ 10 → ∀ dp : Int, dp = 10 - (k : Int) → FC σ g t (8 + 3 * k) dp (dFact t k) := by
  intro k
  induction k with
  | zero =>
    intro _ dp hdp d f p n l Q hd h hl K
    have e10 : dp = 10 := by omega
    subst e10
    refine k_factG (by omega) hs hT h hl (fun d' Q' q hw K' => ?_) (fun d' Q' q hnn hw K' => ?_) (fun hnn hnb => ?_) K
    · exact k_nest0 (by omega) hs hT h hl (fun f' hf' hB => K'.2 _ (if_pos (Or.inl hw)) f' hf' hB)
    · exact k_nest0 (by omega) hs hT h hl (fun f' hf' hB => K'.2 _ (if_pos (Or.inr hw)) f' hf' hB)
    · exact if_neg (fun z => by rcases z with z | z; exact hnn z; exact hnb z)
  | succ k ih =>
    intro hk dp hdp d f p n l Q hd h hl K
    have hF := ih (by omega) (dp + 1) (by omega)
    refine k_factG (by omega) hs hT h hl (fun d' Q' q hw K' => ?_) (fun d' Q' q hnn hw K' => ?_) (fun hnn hnb => ?_) K
    · rw [show dFact t (k + 1) p n = _ from if_pos hw] at K'
      exact k_nestN (dd := 8 + 3 * k) (by omega) (by omega) hs hT (by omega) hF (dFact_ok t k) h hl hw K'
    · rw [show dFact t (k + 1) p n = _ from (if_neg hnn).trans (if_pos hw)] at K'
      exact k_nestB (dd := 8 + 3 * k) (by omega) (by omega) hs hT (by omega) hF (dFact_ok t k) h hl hw K'
    · exact (if_neg hnn).trans (if_neg hnb)
end TESTC
