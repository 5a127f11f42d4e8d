/-! The class reads a RULE -/
def RG (f : ZF) (t : Tx) (p n : Nat) (l : List Int) : Prop := Rdr f 19 t p ∧ p ≤ t.2 ∧ f 18 3 = (n : Int) ∧ n ≤ 60 ∧ f 18 2 = (l.length : Int) ∧ At (f 21) 0 l
def RB (f : ZF) (e : Int) : Prop := RdF f 19 e ∧ ∃ s : Nat, f 18 2 = (s : Int) ∧ s ≤ 400
def FrU (f f' : ZF) : Prop := ∀ c, c ≠ 18 → c ≠ 19 → c ≠ 20 → c ≠ 21 → f' c = f c
theorem FrU.rf (f : ZF) : FrU f f := fun _ _ _ _ _ => rfl
theorem FrU.trans {a b c : ZF} (h1 : FrU a b) (h2 : FrU b c) : FrU a c := fun k q1 q2 q3 q4 => (h2 k q1 q2 q3 q4).trans (h1 k q1 q2 q3 q4)
theorem FrU.r {f0 f f' : ZF} (h : FrU f0 f) (h' : Fr1 19 f f') : FrU f0 f' := fun c q1 q2 q3 q4 => (h' c q2).trans (h c q1 q2 q3 q4)
theorem FrU.up {f0 f : ZF} {k i : Nat} {v : Int} (h : FrU f0 f) (hk : k = 18 ∨ k = 21) : FrU f0 (up2 f k i v) := fun c q1 q2 q3 q4 => (up2_o _ _ (by omega)).trans (h c q1 q2 q3 q4)
theorem Sh.r19 {σ : ZS} {g : ZG} (h : Sh σ g) : RdO σ g 19 := ⟨h.o rfl, h.a rfl, h.g rfl⟩
theorem Sh.r16 {σ : ZS} {g : ZG} (h : Sh σ g) : RdO σ g 16 := ⟨h.o rfl, h.a rfl, h.g rfl⟩
/-- how it goes on behind a piece that was read, or behind a fault -/
def CK (Q : ZQ) (σ : ZS) (g : ZG) (f0 : ZF) (t : Tx) (l : List Int) (r : PR) : Prop := (∀ p' n' m, r = .inr (p', n', m) → ∀ f', FrU f0 f' → RG f' t p' n' (l ++ m.map tcode) → Q none σ f' g) ∧ (∀ e, r = .inl e → ∀ f', FrU f0 f' → RB f' e → Q none σ f' g)
theorem CK.addL {Q : ZQ} {σ : ZS} {g : ZG} {f0 : ZF} {t : Tx} {l : List Int} {r : PR} {m : List Tk} (h : CK Q σ g f0 t l (addL m r)) : CK Q σ g f0 t (l ++ m.map tcode) r := by
  refine ⟨fun p' n' m' e f' hf' hr => ?_, fun e he f' hf' hB => ?_⟩
  · refine h.1 p' n' (m ++ m') (by rw [e]; rfl) f' hf' ?_
    rw [List.map_append, ← List.append_assoc]
    exact hr
  · exact h.2 e (by rw [he]; rfl) f' hf' hB
theorem CK.fr {Q : ZQ} {σ : ZS} {g : ZG} {f0 f1 : ZF} {t : Tx} {l : List Int} {r : PR} (h : CK Q σ g f0 t l r) (hf : FrU f0 f1) : CK Q σ g f1 t l r := ⟨fun p' n' m e f' hf' hr => h.1 p' n' m e f' (hf.trans hf') hr, fun e he f' hf' hB => h.2 e he f' (hf.trans hf') hB⟩
theorem RG.to {f f' : ZF} {t : Tx} {p p' n : Nat} {l : List Int} (h : RG f t p n l) (hf : Fr1 19 f f') (hr : Rdr f' 19 t p') (hp : p' ≤ t.2) : RG f' t p' n l := ⟨hr, hp, by rw [hf 18 (by omega)]; exact h.2.2.1, h.2.2.2.1, by rw [hf 18 (by omega)]; exact h.2.2.2.2.1, by rw [hf 21 (by omega)]; exact h.2.2.2.2.2⟩
theorem RG.bad {f f' : ZF} {t : Tx} {p n : Nat} {l : List Int} {e : Int} (h : RG f t p n l) (hf : Fr1 19 f f') (hF : RdF f' 19 e) (hl : l.length ≤ 400) : RB f' e := ⟨hF, l.length, by rw [hf 18 (by omega)]; exact h.2.2.2.2.1, hl⟩
section RULEC
variable {d : Nat} {σ : ZS} {f : ZF} {g : ZG} {Q : ZQ} {p n : Nat} {t : Tx} {e : Int} {l : List Int}
theorem k_put (hd : 1 ≤ d) (hs : Sh σ g) (h : RG f t p n l) (hl : l.length < 400) {v : Int} (K : ∀ f', FrU f f' → RG f' t p n (l ++ [v]) → Q none σ f' g) : ZCt d 39 [zr (some 18), zi v] σ f g Q := by
  refine ZCt.of' (L0 := [_, _]) (by omega) rfl rfl rfl (fun d hd1 => ?_)
  refine r_aload_n rfl rfl ?_
  refine r_getI rfl (by first | assumption | exact hs.o rfl) h.2.2.2.2.1 ?_
  refine r_aload_n rfl rfl ?_
  refine r_getR rfl (by first | assumption | exact hs.o rfl) (by first | assumption | exact hs.g rfl) ?_
  refine r_alen rfl (by first | assumption | exact hs.a rfl) (by omega) (by omega) ?_
  refine r_icmp_ge rfl (by omega) (by omega) (fun hge => ?_) (fun hge => ?_)
  · exfalso; omega
  · refine r_aload_n rfl rfl ?_
    refine r_getR rfl (by first | assumption | exact hs.o rfl) (by first | assumption | exact hs.g rfl) ?_
    refine r_aload_n rfl rfl ?_
    refine r_getI rfl (by first | assumption | exact hs.o rfl) h.2.2.2.2.1 ?_
    refine r_iload_n rfl rfl ?_
    refine r_iastN (l.length) rfl (by first | assumption | exact hs.a rfl) (by omega) (by omega) (by omega) ?_
    refine r_aload_n rfl rfl ?_
    refine r_dupr rfl ?_
    refine r_getI rfl (by first | assumption | exact hs.o rfl) (show _ = (l.length : Int) from by rw [up2_o _ _ (by omega)]; exact h.2.2.2.2.1) ?_
    refine r_iconst rfl ?_
    refine r_iadd rfl ?_
    refine r_putI rfl (by first | assumption | exact hs.o rfl) ?_
    refine r_ret rfl ?_
    refine K _ (((FrU.rf f).up (by omega)).up (by omega)) ⟨h.1.fr (by rw [up2_o _ _ (by omega), up2_o _ _ (by omega)]) (by rw [up2_o _ _ (by omega), up2_o _ _ (by omega)]), h.2.1, by simp [up2]; exact h.2.2.1, h.2.2.2.1, by simp [up2], ?_⟩
    rw [up2_o _ _ (by omega), At.app]
    refine ⟨h.2.2.2.2.2.same _ _ (fun j _ q => up2_ne _ _ (by omega)), ?_, trivial⟩
    rw [Nat.zero_add]
    exact up2_same _ _ _ _
theorem k_putF (hd : 1 ≤ d) (hs : Sh σ g) (h : RB f e) {v : Int} (K : ∀ f', FrU f f' → RB f' e → Q none σ f' g) : ZCt d 39 [zr (some 18), zi v] σ f g Q := by
  refine ZCt.of' (L0 := [_, _]) (by omega) rfl rfl rfl (fun d hd1 => ?_)
  obtain ⟨hB, s, hs0, hs4⟩ := h
  refine r_aload_n rfl rfl ?_
  refine r_getI rfl (by first | assumption | exact hs.o rfl) hs0 ?_
  refine r_aload_n rfl rfl ?_
  refine r_getR rfl (by first | assumption | exact hs.o rfl) (by first | assumption | exact hs.g rfl) ?_
  refine r_alen rfl (by first | assumption | exact hs.a rfl) (by omega) (by omega) ?_
  refine r_icmp_ge rfl (by omega) (by omega) (fun hge => ?_) (fun hge => ?_)
  · refine r_ret rfl ?_
    exact K f (FrU.rf f) ⟨hB, s, hs0, hs4⟩
  · refine r_aload_n rfl rfl ?_
    refine r_getR rfl (by first | assumption | exact hs.o rfl) (by first | assumption | exact hs.g rfl) ?_
    refine r_aload_n rfl rfl ?_
    refine r_getI rfl (by first | assumption | exact hs.o rfl) hs0 ?_
    refine r_iload_n rfl rfl ?_
    refine r_iastN (s) rfl (by first | assumption | exact hs.a rfl) (by omega) (by omega) (by omega) ?_
    refine r_aload_n rfl rfl ?_
    refine r_dupr rfl ?_
    refine r_getI rfl (by first | assumption | exact hs.o rfl) (show _ = (s : Int) from by rw [up2_o _ _ (by omega)]; exact hs0) ?_
    refine r_iconst rfl ?_
    refine r_iadd rfl ?_
    refine r_putI rfl (by first | assumption | exact hs.o rfl) ?_
    refine r_ret rfl ?_
    exact K _ (((FrU.rf f).up (by omega)).up (by omega)) ⟨hB.fr (by rw [up2_o _ _ (by omega), up2_o _ _ (by omega)]), s + 1, by simp [up2], by omega⟩
theorem k_putSign (hd : 2 ≤ d) (hs : Sh σ g) (h : RG f t p n l) (hl : l.length < 400) {v : Int} (K : ∀ f', FrU f f' → RG f' t p n (l ++ [100010 + v]) → Q none σ f' g) : ZCt d 40 [zr (some 18), zi v] σ f g Q := by
  refine ZCt.of' (L0 := [_, _]) (by omega) rfl rfl rfl (fun d hd1 => ?_)
  refine r_aload_n rfl rfl ?_
  refine r_ldc rfl ?_
  refine r_iload_n rfl rfl ?_
  refine r_iadd rfl ?_
  refine r_callV1 rfl rfl (by first | assumption | exact hs.o rfl) rfl (k_put (by omega) hs h hl (fun f1 hf1 h1 => ?_))
  refine r_ret rfl ?_
  exact K f1 hf1 h1
theorem k_putSignF (hd : 2 ≤ d) (hs : Sh σ g) (h : RB f e) {v : Int} (K : ∀ f', FrU f f' → RB f' e → Q none σ f' g) : ZCt d 40 [zr (some 18), zi v] σ f g Q := by
  refine ZCt.of' (L0 := [_, _]) (by omega) rfl rfl rfl (fun d hd1 => ?_)
  refine r_aload_n rfl rfl ?_
  refine r_ldc rfl ?_
  refine r_iload_n rfl rfl ?_
  refine r_iadd rfl ?_
  refine r_callV1 rfl rfl (by first | assumption | exact hs.o rfl) rfl (k_putF (by omega) hs h (fun f1 hf1 h1 => ?_))
  refine r_ret rfl ?_
  exact K f1 hf1 h1
theorem k_countOne (hd : 2 ≤ d) (hs : Sh σ g) (hT : TxOk t) (h : RG f t p n l) (hl : l.length ≤ 400) (k1 : n < 60 → ∀ f', FrU f f' → RG f' t p (n + 1) l → Q none σ f' g) (k2 : ¬ n < 60 → ∀ f', FrU f f' → RB f' (err p 3) → Q none σ f' g) : ZCt d 38 [zr (some 18)] σ f g Q := by
  refine ZCt.of' (L0 := [_]) (by omega) rfl rfl rfl (fun d hd1 => ?_)
  have hn := h.2.2.2.1
  refine r_aload_n rfl rfl ?_
  refine r_getI rfl (by first | assumption | exact hs.o rfl) h.2.2.1 ?_
  refine r_bipush rfl ?_
  refine r_icmp_lt rfl (by omega) (by omega) (fun hlt => ?_) (fun hlt => ?_)
  · refine r_aload_n rfl rfl ?_
    refine r_dupr rfl ?_
    refine r_getI rfl (by first | assumption | exact hs.o rfl) h.2.2.1 ?_
    refine r_iconst rfl ?_
    refine r_iadd rfl ?_
    refine r_putI rfl (by first | assumption | exact hs.o rfl) ?_
    refine r_ret rfl ?_
    refine k1 (by omega) _ ((FrU.rf f).up (by omega)) ⟨h.1.fr (by rw [up2_o _ _ (by omega)]) (by rw [up2_o _ _ (by omega)]), h.2.1, by simp [up2], by omega, by simp [up2]; exact h.2.2.2.2.1, by rw [up2_o _ _ (by omega)]; exact h.2.2.2.2.2⟩
  · refine r_aload_n rfl rfl ?_
    refine r_getR rfl (by first | assumption | exact hs.o rfl) (by first | assumption | exact hs.g rfl) ?_
    refine r_iconst rfl ?_
    refine r_callV1 rfl rfl (by first | assumption | exact hs.o rfl) rfl (k_refuse (by omega) hs.r19 h.1 (by have := hT.1; have := h.2.1; omega) (by omega) (fun f1 hf1 hF => ?_))
    refine r_aload_n rfl rfl ?_
    refine r_dupr rfl ?_
    refine r_getI rfl (by first | assumption | exact hs.o rfl) (show _ = (n : Int) from by rw [hf1 18 (by omega)]; exact h.2.2.1) ?_
    refine r_iconst rfl ?_
    refine r_iadd rfl ?_
    refine r_putI rfl (by first | assumption | exact hs.o rfl) ?_
    refine r_ret rfl ?_
    refine k2 (by omega) _ (((FrU.rf f).r hf1).up (by omega)) ⟨hF.fr (by rw [up2_o _ _ (by omega)]), l.length, ?_, hl⟩
    rw [up2_ne _ _ (by omega), hf1 18 (by omega)]
    exact h.2.2.2.2.1
theorem k_word1 (hd : 5 ≤ d) {R : Nat} (ho : RdO σ g R) (h : Rdr f R t p) (hT : TxOk t) (hp : p ≤ t.2) {j : Nat} (hj : j < 6) {w : List Int} (hw : wsOf j = [w]) (k1 : wIs t p w = true → Q (some (zi 0)) σ f g) (k2 : ¬ wIs t p w = true → Q (some (zi (-1))) σ f g) : ZCt d 21 [zr (some R), zr (some (zX + j))] σ f g Q := by
  refine k_wordOf hd ho h hT hp hj ?_
  rw [hw]
  by_cases q : wIs t p w = true
  · rw [show woL t p [w] 0 = ((0 : Nat) : Int) from if_pos q]; exact k1 q
  · rw [show woL t p [w] 0 = -1 from if_neg q]; exact k2 q
theorem k_wordAO (hd : 5 ≤ d) {R : Nat} (ho : RdO σ g R) (h : Rdr f R t p) (hT : TxOk t) (hp : p ≤ t.2) (k1 : wIs t p wAnd = true → Q (some (zi 0)) σ f g) (k2 : ¬ wIs t p wAnd = true → wIs t p wOr = true → Q (some (zi 1)) σ f g) (k3 : ¬ wIs t p wAnd = true → ¬ wIs t p wOr = true → Q (some (zi (-1))) σ f g) : ZCt d 21 [zr (some R), zr (some (zX + 2))] σ f g Q := by
  refine k_wordOf hd ho h hT hp (by omega) ?_
  by_cases q : wIs t p wAnd = true
  · rw [show woL t p (wsOf 2) 0 = ((0 : Nat) : Int) from if_pos q]; exact k1 q
  · by_cases q2 : wIs t p wOr = true
    · rw [show woL t p (wsOf 2) 0 = ((1 : Nat) : Int) from (if_neg q).trans (if_pos q2)]; exact k2 q q2
    · rw [show woL t p (wsOf 2) 0 = -1 from (if_neg q).trans (if_neg q2)]; exact k3 q q2
theorem k_wordV (hd : 5 ≤ d) {R : Nat} (ho : RdO σ g R) (h : Rdr f R t p) (hT : TxOk t) (hp : p ≤ t.2) (k1 : 0 ≤ woL t p wVals 0 ∧ woL t p wVals 0 < 10 → isL t p = true → Q (some (zi (woL t p wVals 0))) σ f g) (k2 : woL t p wVals 0 = -1 → Q (some (zi (-1))) σ f g) : ZCt d 21 [zr (some R), zr (some (zX + 5))] σ f g Q := by
  refine k_wordOf hd ho h hT hp (by omega) ?_
  have h3 := woL_rng (t := t) (p := p) wVals 0
  have h4 : wVals.length = 10 := rfl
  by_cases q : woL t p wVals 0 = -1
  · rw [show woL t p (wsOf 5) 0 = -1 from q]; exact k2 q
  · refine k1 (by omega) ?_
    cases hl : isL t p with
    | true => rfl
    | false => exact absurd (woL_L wVals 0 wVals_ne hl) q
theorem k_readValue (hd : 6 ≤ d) (hs : Sh σ g) (hT : TxOk t) (h : RG f t p n l) (hl : l.length ≤ p) (K : CK Q σ g f t l (dValue t p n)) : ZCt d 37 [zr (some 18)] σ f g Q := by
  refine ZCt.of' (L0 := [_, _]) (by omega) rfl rfl rfl (fun d hd1 => ?_)
  have hT1 := hT.1
  have hp := h.2.1
  refine r_aload_n rfl rfl ?_
  refine r_getR rfl (by first | assumption | exact hs.o rfl) (by first | assumption | exact hs.g rfl) ?_
  refine r_ldcs rfl ?_
  refine r_callV1 rfl rfl (by first | assumption | exact hs.o rfl) rfl (k_wordV (by omega) hs.r19 h.1 hT h.2.1 (fun hW hL => ?_) (fun hW => ?_))
  · refine r_istore_n (L' := [_, _]) rfl rfl rfl ?_
    refine r_iload_n rfl rfl ?_
    refine r_iconst rfl ?_
    refine r_icmp_ne rfl (by omega) (by omega) (fun h12 => ?_) (fun h12 => ?_)
    · refine r_iload_n rfl rfl ?_
      refine r_iconst rfl ?_
      refine r_icmp_ne rfl (by omega) (by omega) (fun h37 => ?_) (fun h37 => ?_)
      · refine r_aload_n rfl rfl ?_
        refine r_callV0 rfl rfl (by first | assumption | exact hs.o rfl) rfl (k_countOne (by omega) hs hT h (by omega) (fun hn f1 hf1 h1 => ?_) (fun hn f1 hf1 hB => ?_))
        · refine r_aload_n rfl rfl ?_
          refine r_iload_n rfl rfl ?_
          refine r_iconst rfl ?_
          refine r_icmp_ne rfl (by omega) (by omega) (fun h66 => ?_) (fun h66 => ?_)
          · refine r_ldc rfl ?_
            refine r_iload_n rfl rfl ?_
            refine r_iadd rfl ?_
            refine r_callV1 rfl rfl (by first | assumption | exact hs.o rfl) rfl (k_put (by omega) hs h1 (by have := (isL_iff.1 hL).1; omega) (fun f2 hf2 h2 => ?_))
            refine r_aload_n rfl rfl ?_
            refine r_getR rfl (by first | assumption | exact hs.o rfl) (by first | assumption | exact hs.g rfl) ?_
            refine r_callV0 rfl rfl (by first | assumption | exact hs.o rfl) rfl (k_next (q := lE t p) (by omega) hs.r19 hT h2.1.1 h2.1.2.1 (h2.1.2.2.2.1.trans (by rw [tE_L hL])) (lE_le h.2.1) (fun f3 hf3 h3 => ?_))
            refine r_ret rfl ?_
            refine K.1 _ _ [(1, woL t p wVals 0)] ((if_neg (fun q => by have := (kdc_D (isL_iff.1 hL).1).1 q; have := (kdc_L (isL_iff.1 hL).1).1 hL; omega)).trans ((if_neg (by omega)).trans (if_pos hn))) f3 ((hf1.trans hf2).r hf3) ?_
            exact h2.to hf3 h3 (sk_le (lE_le h.2.1))
          · exfalso; omega
        · refine r_aload_n rfl rfl ?_
          refine r_iload_n rfl rfl ?_
          refine r_iconst rfl ?_
          refine r_icmp_ne rfl (by omega) (by omega) (fun h66 => ?_) (fun h66 => ?_)
          · refine r_ldc rfl ?_
            refine r_iload_n rfl rfl ?_
            refine r_iadd rfl ?_
            refine r_callV1 rfl rfl (by first | assumption | exact hs.o rfl) rfl (k_putF (by omega) hs hB (fun f2 hf2 h2 => ?_))
            refine r_aload_n rfl rfl ?_
            refine r_getR rfl (by first | assumption | exact hs.o rfl) (by first | assumption | exact hs.g rfl) ?_
            refine r_callV0 rfl rfl (by first | assumption | exact hs.o rfl) rfl (k_nextF (by omega) hs.r19 h2.1 ?_)
            refine r_ret rfl ?_
            refine K.2 (err p 3) ((if_neg (fun q => by have := (kdc_D (isL_iff.1 hL).1).1 q; have := (kdc_L (isL_iff.1 hL).1).1 hL; omega)).trans ((if_neg (by omega)).trans (if_neg hn))) f2 (hf1.trans hf2) h2
          · exfalso; omega
      · exfalso; omega
    · exfalso; omega
  · refine r_istore_n (L' := [_, _]) rfl rfl rfl ?_
    refine r_iload_n rfl rfl ?_
    refine r_iconst rfl ?_
    refine r_icmp_n rfl (by decide) ?_
    refine r_aload_n rfl rfl ?_
    refine r_getR rfl (by first | assumption | exact hs.o rfl) (by first | assumption | exact hs.g rfl) ?_
    refine r_getI rfl (by first | assumption | exact hs.o rfl) h.1.2.2.2.2.1 ?_
    refine r_iconst rfl ?_
    refine r_icmp_eq rfl (by have := kd_rng t p; omega) (by omega) (fun h23 => ?_) (fun h23 => ?_)
    · refine r_iload_n rfl rfl ?_
      refine r_iconst rfl ?_
      refine r_icmp_n rfl (by decide) ?_
      refine r_aload_n rfl rfl ?_
      refine r_getR rfl (by first | assumption | exact hs.o rfl) (by first | assumption | exact hs.g rfl) ?_
      have hD := kd_D.1 h23
      have hge := dE_ge t p
      refine r_callV0 rfl rfl (by first | assumption | exact hs.o rfl) rfl (k_isTooLong (by omega) hs.r19 h.1 hT h.2.1 (fun hlong => ?_) (fun hlong => ?_))
      · refine r_if_n rfl (by decide) ?_
        refine r_aload_n rfl rfl ?_
        refine r_getR rfl (by first | assumption | exact hs.o rfl) (by first | assumption | exact hs.g rfl) ?_
        refine r_iconst rfl ?_
        refine r_callV1 rfl rfl (by first | assumption | exact hs.o rfl) rfl (k_refuse (by omega) hs.r19 h.1 (by have := hT.1; have := h.2.1; omega) (by omega) (fun f1 hf1 hF => ?_))
        refine r_ret rfl ?_
        rw [tE_D hD] at hlong
        exact K.2 _ (show dValue t p n = .inl (err p 1) from (if_pos hD).trans (if_neg (by omega))) f1 ((FrU.rf f).r hf1) (h.bad hf1 hF (by omega))
      · refine r_if_y rfl (by decide) ?_
        refine r_aload_n rfl rfl ?_
        refine r_callV0 rfl rfl (by first | assumption | exact hs.o rfl) rfl (k_countOne (by omega) hs hT h (by omega) (fun hn f1 hf1 h1 => ?_) (fun hn f1 hf1 hB => ?_))
        · refine r_aload_n rfl rfl ?_
          refine r_iload_n rfl rfl ?_
          refine r_iconst rfl ?_
          refine r_icmp_n rfl (by decide) ?_
          refine r_aload_n rfl rfl ?_
          refine r_getR rfl (by first | assumption | exact hs.o rfl) (by first | assumption | exact hs.g rfl) ?_
          refine r_getI rfl (by first | assumption | exact hs.o rfl) ((h1.1.2.2.2.2.2.2 h23).trans (by rw [tE_D hD])) ?_
          refine r_goto rfl ?_
          refine r_callV1 rfl rfl (by first | assumption | exact hs.o rfl) rfl (k_put (by omega) hs h1 (by have := (isD_iff.1 hD).1; omega) (fun f2 hf2 h2 => ?_))
          refine r_aload_n rfl rfl ?_
          refine r_getR rfl (by first | assumption | exact hs.o rfl) (by first | assumption | exact hs.g rfl) ?_
          refine r_callV0 rfl rfl (by first | assumption | exact hs.o rfl) rfl (k_next (q := dE t p) (by omega) hs.r19 hT h2.1.1 h2.1.2.1 (h2.1.2.2.2.1.trans (by rw [tE_D hD])) (dE_le h.2.1) (fun f3 hf3 h3 => ?_))
          refine r_ret rfl ?_
          rw [tE_D hD] at hlong
          refine K.1 _ _ [(0, num t p (dE t p - p))] ((if_pos hD).trans ((if_pos (by omega)).trans (if_pos hn))) f3 ((hf1.trans hf2).r hf3) ?_
          exact h2.to hf3 h3 (sk_le (dE_le h.2.1))
        · refine r_aload_n rfl rfl ?_
          refine r_iload_n rfl rfl ?_
          refine r_iconst rfl ?_
          refine r_icmp_n rfl (by decide) ?_
          refine r_aload_n rfl rfl ?_
          refine r_getR rfl (by first | assumption | exact hs.o rfl) (by first | assumption | exact hs.g rfl) ?_
          refine r_getI rfl (by first | assumption | exact hs.o rfl) rfl ?_
          refine r_goto rfl ?_
          refine r_callV1 rfl rfl (by first | assumption | exact hs.o rfl) rfl (k_putF (by omega) hs hB (fun f2 hf2 h2 => ?_))
          refine r_aload_n rfl rfl ?_
          refine r_getR rfl (by first | assumption | exact hs.o rfl) (by first | assumption | exact hs.g rfl) ?_
          refine r_callV0 rfl rfl (by first | assumption | exact hs.o rfl) rfl (k_nextF (by omega) hs.r19 h2.1 ?_)
          refine r_ret rfl ?_
          rw [tE_D hD] at hlong
          refine K.2 (err p 3) ((if_pos hD).trans ((if_pos (by omega)).trans (if_neg hn))) f2 (hf1.trans hf2) h2
    · refine r_aload_n rfl rfl ?_
      refine r_getR rfl (by first | assumption | exact hs.o rfl) (by first | assumption | exact hs.g rfl) ?_
      refine r_iconst rfl ?_
      refine r_callV1 rfl rfl (by first | assumption | exact hs.o rfl) rfl (k_refuse (by omega) hs.r19 h.1 (by have := hT.1; have := h.2.1; omega) (by omega) (fun f1 hf1 hF => ?_))
      refine r_ret rfl ?_
      exact K.2 _ (show dValue t p n = .inl (err p 0) from (if_neg (fun q => h23 (kd_D.2 q))).trans (if_pos (by omega))) f1 ((FrU.rf f).r hf1) (h.bad hf1 hF (by omega))
theorem k_readValueF (hd : 3 ≤ d) (hs : Sh σ g) (hB : RB f e) (K : Q none σ f g) : ZCt d 37 [zr (some 18)] σ f g Q := by
  refine ZCt.of' (L0 := [_, _]) (by omega) rfl rfl rfl (fun d hd1 => ?_)
  refine r_aload_n rfl rfl ?_
  refine r_getR rfl (by first | assumption | exact hs.o rfl) (by first | assumption | exact hs.g rfl) ?_
  refine r_ldcs rfl ?_
  refine r_callV1 rfl rfl (by first | assumption | exact hs.o rfl) rfl (k_wordOfF (by omega) hs.r19 hB.1 ?_)
  refine r_istore_n (L' := [_, _]) rfl rfl rfl ?_
  refine r_iload_n rfl rfl ?_
  refine r_iconst rfl ?_
  refine r_icmp_n rfl (by decide) ?_
  refine r_aload_n rfl rfl ?_
  refine r_getR rfl (by first | assumption | exact hs.o rfl) (by first | assumption | exact hs.g rfl) ?_
  refine r_getI rfl (by first | assumption | exact hs.o rfl) hB.1.2.2 ?_
  refine r_iconst rfl ?_
  refine r_icmp_n rfl (by decide) ?_
  refine r_aload_n rfl rfl ?_
  refine r_getR rfl (by first | assumption | exact hs.o rfl) (by first | assumption | exact hs.g rfl) ?_
  refine r_iconst rfl ?_
  refine r_callV1 rfl rfl (by first | assumption | exact hs.o rfl) rfl (k_refuseF (by omega) hs.r19 hB.1 ?_)
  refine r_ret rfl ?_
  exact K
theorem op_43 (hk : kd t p = 3) (hT : TxOk t) (h : sv t p = 43) : tE t p = p + 1 ∧ p < t.2 ∧ addOp t p = 2 ∧ mulOp t p = 0 := by
  have q := sv_one hk hT.2 (by omega) (by omega) (by omega) h
  have q2 := (isS_iff.1 q).2
  have no : ∀ c : Int, c ≠ 43 → ¬ isS t p c = true := fun c hc z => hc ((isS_iff.1 z).2.symm.trans q2)
  refine ⟨(sg_one q (by decide) (by omega) (by omega)).2.1, (isS_iff.1 q).1, ?_, ?_⟩
  · unfold addOp; rw [if_pos q]
  · unfold mulOp; rw [if_neg (no 42 (by decide)), if_neg (no 47 (by decide)), if_neg (no 37 (by decide))]
theorem op_45 (hk : kd t p = 3) (hT : TxOk t) (h : sv t p = 45) : tE t p = p + 1 ∧ p < t.2 ∧ addOp t p = 3 ∧ mulOp t p = 0 := by
  have q := sv_one hk hT.2 (by omega) (by omega) (by omega) h
  have q2 := (isS_iff.1 q).2
  have no : ∀ c : Int, c ≠ 45 → ¬ isS t p c = true := fun c hc z => hc ((isS_iff.1 z).2.symm.trans q2)
  refine ⟨(sg_one q (by decide) (by omega) (by omega)).2.1, (isS_iff.1 q).1, ?_, ?_⟩
  · unfold addOp; rw [if_neg (no 43 (by decide)), if_pos q]
  · unfold mulOp; rw [if_neg (no 42 (by decide)), if_neg (no 47 (by decide)), if_neg (no 37 (by decide))]
theorem op_42 (hk : kd t p = 3) (hT : TxOk t) (h : sv t p = 42) : tE t p = p + 1 ∧ p < t.2 ∧ mulOp t p = 4 := by
  have q := sv_one hk hT.2 (by omega) (by omega) (by omega) h
  have q2 := (isS_iff.1 q).2
  have no : ∀ c : Int, c ≠ 42 → ¬ isS t p c = true := fun c hc z => hc ((isS_iff.1 z).2.symm.trans q2)
  refine ⟨(sg_one q (by decide) (by omega) (by omega)).2.1, (isS_iff.1 q).1, ?_⟩
  · unfold mulOp; rw [if_pos q]
theorem op_47 (hk : kd t p = 3) (hT : TxOk t) (h : sv t p = 47) : tE t p = p + 1 ∧ p < t.2 ∧ mulOp t p = 5 := by
  have q := sv_one hk hT.2 (by omega) (by omega) (by omega) h
  have q2 := (isS_iff.1 q).2
  have no : ∀ c : Int, c ≠ 47 → ¬ isS t p c = true := fun c hc z => hc ((isS_iff.1 z).2.symm.trans q2)
  refine ⟨(sg_one q (by decide) (by omega) (by omega)).2.1, (isS_iff.1 q).1, ?_⟩
  · unfold mulOp; rw [if_neg (no 42 (by decide)), if_pos q]
theorem op_37 (hk : kd t p = 3) (hT : TxOk t) (h : sv t p = 37) : tE t p = p + 1 ∧ p < t.2 ∧ mulOp t p = 14 := by
  have q := sv_one hk hT.2 (by omega) (by omega) (by omega) h
  have q2 := (isS_iff.1 q).2
  have no : ∀ c : Int, c ≠ 37 → ¬ isS t p c = true := fun c hc z => hc ((isS_iff.1 z).2.symm.trans q2)
  refine ⟨(sg_one q (by decide) (by omega) (by omega)).2.1, (isS_iff.1 q).1, ?_⟩
  · unfold mulOp; rw [if_neg (no 42 (by decide)), if_neg (no 47 (by decide)), if_pos q]
theorem op_no (h : ¬ kd t p = 3 ∨ (sv t p ≠ 43 ∧ sv t p ≠ 45 ∧ sv t p ≠ 42 ∧ sv t p ≠ 47 ∧ sv t p ≠ 37)) : mulOp t p = 0 ∧ addOp t p = 0 := by
  have no : ∀ c : Int, (c = 43 ∨ c = 45 ∨ c = 42 ∨ c = 47 ∨ c = 37) → ¬ isS t p c = true := fun c hc z => by
    have q := sg_one z (by rcases hc with rfl | rfl | rfl | rfl | rfl <;> decide) (by omega) (by omega)
    rcases h with h | h
    · exact h q.1
    · have := q.2.2; omega
  refine ⟨?_, ?_⟩
  · unfold mulOp; rw [if_neg (no 42 (by omega)), if_neg (no 47 (by omega)), if_neg (no 37 (by omega))]
  · unfold addOp; rw [if_neg (no 43 (by omega)), if_neg (no 45 (by omega))]
def dv (o : Nat) : Int := if o = 0 then -1 else opc o
theorem l_sumE (hd1 : 2 ≤ d) (hs : Sh σ g) {f0 : ZF} {o : Nat} (ho : o = 0 ∨ o = 2 ∨ o = 3) (h : RG f t p n l) (hl : o ≠ 0 → l.length < 400) (hf : FrU f0 f) {x2 x3 x4 : ZV} {dz : Int} (hdz : dz = dv o) (K : ∀ f', FrU f0 f' → RG f' t p n (l ++ (oL o).map tcode) → Q none σ f' g) : ZWp d zt36 132 [zr (some 18), zi dz, x2, x3, x4] [] σ f g Q := by
  subst hdz
  rcases ho with rfl | rfl | rfl
  · refine r_iload_n rfl rfl ?_
    refine r_iconst rfl ?_
    refine r_icmp_y rfl (by decide) ?_
    refine r_ret rfl ?_
    exact K f hf (by rw [show (oL 0).map tcode = [] from rfl, List.append_nil]; exact h)
  · refine r_iload_n rfl rfl ?_
    refine r_iconst rfl ?_
    refine r_icmp_n rfl (by decide) ?_
    refine r_aload_n rfl rfl ?_
    refine r_iload_n rfl rfl ?_
    refine r_callV1 rfl rfl (by first | assumption | exact hs.o rfl) rfl (k_putSign (by omega) hs h (hl (by decide)) (fun f1 hf1 h1 => ?_))
    refine r_ret rfl ?_
    exact K f1 (hf.trans hf1) h1
  · refine r_iload_n rfl rfl ?_
    refine r_iconst rfl ?_
    refine r_icmp_n rfl (by decide) ?_
    refine r_aload_n rfl rfl ?_
    refine r_iload_n rfl rfl ?_
    refine r_callV1 rfl rfl (by first | assumption | exact hs.o rfl) rfl (k_putSign (by omega) hs h (hl (by decide)) (fun f1 hf1 h1 => ?_))
    refine r_ret rfl ?_
    exact K f1 (hf.trans hf1) h1
theorem l_sumEF (hd1 : 2 ≤ d) (hs : Sh σ g) {f0 : ZF} (h : RB f e) (hf : FrU f0 f) {x2 x3 x4 : ZV} {dz : Int} (hdz : IR dz) (K : ∀ f', FrU f0 f' → RB f' e → Q none σ f' g) : ZWp d zt36 132 [zr (some 18), zi dz, x2, x3, x4] [] σ f g Q := by
  refine r_iload_n rfl rfl ?_
  refine r_iconst rfl ?_
  refine r_icmp_eq rfl (by omega) (by omega) (fun h134 => ?_) (fun h134 => ?_)
  · refine r_ret rfl ?_
    exact K f hf h
  · refine r_aload_n rfl rfl ?_
    refine r_iload_n rfl rfl ?_
    refine r_callV1 rfl rfl (by first | assumption | exact hs.o rfl) rfl (k_putSignF (by omega) hs h (fun f1 hf1 h1 => ?_))
    refine r_ret rfl ?_
    exact K f1 (hf.trans hf1) h1
theorem l_sumF (hd1 : 2 ≤ d) (hs : Sh σ g) {f0 : ZF} (h : RB f e) (hf : FrU f0 f) {x3 x4 : ZV} {dz j : Int} (hdz : IR dz) (hj : IR j) (K : ∀ f', FrU f0 f' → RB f' e → Q none σ f' g) : ZWp d zt36 8 [zr (some 18), zi dz, zi j, x3, x4] [] σ f g Q := by
  refine r_iload_n rfl rfl ?_
  refine r_sipush rfl ?_
  refine r_icmp_ge rfl (by omega) (by omega) (fun h12 => ?_) (fun h12 => ?_)
  · exact l_sumEF hd1 hs h hf hdz K
  · refine r_aload_n rfl rfl ?_
    refine r_getR rfl (by first | assumption | exact hs.o rfl) (by first | assumption | exact hs.g rfl) ?_
    refine r_getI rfl (by first | assumption | exact hs.o rfl) h.1.2.2 ?_
    refine r_iconst rfl ?_
    refine r_icmp_y rfl (by decide) ?_
    exact l_sumEF hd1 hs h hf hdz K
theorem l_sumC (hd1 : 6 ≤ d) (hs : Sh σ g) (hT : TxOk t) {f0 : ZF} (p n o k k' j : Nat) (l : List Int) (f : ZF) (x3 x4 : ZV) (dz : Int) (hdz : dz = dv o) (hk : t.2 < p + k) (hk' : t.2 < p + k') (hj : j ≤ p) (ho : o = 0 ∨ o = 2 ∨ o = 3) (hl : l.length + (if o = 0 then 0 else 1) ≤ p) (h : RG f t p n l) (hf : FrU f0 f) (K : CK Q σ g f0 t l (sR t k k' o p n)) : ZWp d zt36 8 [zr (some 18), zi dz, zi (j : Int), x3, x4] [] σ f g Q := by
  have hT1 := hT.1
  have hp := h.2.1
  obtain ⟨k, rfl⟩ : ∃ u, k = u + 1 := ⟨k - 1, by omega⟩
  obtain ⟨k', rfl⟩ : ∃ u, k' = u + 1 := ⟨k' - 1, by omega⟩
  have hdz0 := hdz
  subst hdz
  rcases ho with rfl | rfl | rfl
  · refine r_iload_n rfl rfl ?_
    refine r_sipush rfl ?_
    refine r_icmp_ge rfl (by omega) (by omega) (fun h12 => ?_) (fun h12 => ?_)
    · have hno := op_no (t := t) (p := p) (Or.inl (fun q => by rw [kd_0.2 (by omega)] at q; omega))
      rw [sR_end hno.1 hno.2] at K
      exact l_sumE (by omega) hs (by omega) h (fun q => absurd rfl q) hf rfl (fun f' hf' h' => K.1 _ _ _ rfl f' hf' h')
    · refine r_aload_n rfl rfl ?_
      refine r_getR rfl (by first | assumption | exact hs.o rfl) (by first | assumption | exact hs.g rfl) ?_
      refine r_getI rfl (by first | assumption | exact hs.o rfl) h.1.2.2.2.2.1 ?_
      refine r_iconst rfl ?_
      refine r_icmp_ne rfl (by have := kd_rng t p; omega) (by omega) (fun h23 => ?_) (fun h23 => ?_)
      · have hno := op_no (t := t) (p := p) (Or.inl h23)
        rw [sR_end hno.1 hno.2] at K
        exact l_sumE (by omega) hs (by omega) h (fun q => absurd rfl q) hf rfl (fun f' hf' h' => K.1 _ _ _ rfl f' hf' h')
      · refine r_aload_n rfl rfl ?_
        refine r_getR rfl (by first | assumption | exact hs.o rfl) (by first | assumption | exact hs.g rfl) ?_
        have hsr := sv_rng h23 hT.2
        refine r_getI rfl (by first | assumption | exact hs.o rfl) (h.1.2.2.2.2.2.1 h23) ?_
        refine r_istore_n (L' := [_, _, _, _, _]) rfl rfl rfl ?_
        refine r_iload_n rfl rfl ?_
        refine r_bipush rfl ?_
        refine r_icmp_eq rfl (by omega) (by omega) (fun h37 => ?_) (fun h37 => ?_)
        · refine r_iconst rfl ?_
          refine r_goto rfl ?_
          refine r_istore (L' := [_, _, _, _, _]) rfl rfl rfl ?_
          refine r_iload rfl rfl ?_
          refine r_if_y rfl (by decide) ?_
          refine r_aload_n rfl rfl ?_
          refine r_getR rfl (by first | assumption | exact hs.o rfl) (by first | assumption | exact hs.g rfl) ?_
          have hop := op_43 h23 hT h37
          have hsk := sk_le (t := t) (p := p + 1) (by omega)
          have hsg0 := sk_ge t (p + 1)
          refine r_callV0 rfl rfl (by first | assumption | exact hs.o rfl) rfl (k_next (q := p + 1) (by omega) hs.r19 hT h.1.1 h.1.2.1 (h.1.2.2.2.1.trans (by rw [hop.1])) (by omega) (fun f1 hf1 h1 => ?_))
          refine r_iload rfl rfl ?_
          refine r_if_n rfl (by decide) ?_
          refine r_iload_n rfl rfl ?_
          refine r_iconst rfl ?_
          refine r_icmp_y rfl (by decide) ?_
          refine r_iload rfl rfl ?_
          refine r_if_n rfl (by decide) ?_
          refine r_iload_n rfl rfl ?_
          refine r_goto rfl ?_
          refine r_istore_n (L' := [_, _, _, _, _]) rfl rfl rfl ?_
          refine r_aload_n rfl rfl ?_
          refine r_callV0 rfl rfl (by first | assumption | exact hs.o rfl) rfl (k_readValue (by omega) hs hT (h.to hf1 h1 hsk) (by simp at hl ⊢; omega) ⟨fun p2 n2 m2 e2 f2 hf2 h2 => ?_, fun e2 he2 f2 hf2 hB => ?_⟩)
          · refine r_iload rfl rfl ?_
            refine r_if_y rfl (by decide) ?_
            refine r_iinc (L' := [_, _, _, _, _]) rfl rfl rfl ?_
            refine r_goto rfl ?_
            rw [sR_add (k := k) (k' := k') (o := 0) (n := n) hop.2.2.2 (by rw [hop.2.2.1]; decide), e2, bnd_inr, hop.2.2.1] at K
            have K2 := K.addL
            rw [List.map_append, ← List.append_assoc] at K2
            rw [show (oL 0).map tcode = [] from rfl, List.append_nil] at K2
            obtain ⟨g1, g2, g3⟩ := dValue_ok t _ _ _ _ _ e2
            have hsg := sk_ge t (p + 1)
            have hp2 := h2.2.1
            exact l_sumC hd1 hs hT p2 n2 2 401 k' (j + 1) _ f2 _ _ (sv t p) (by rw [h37]; rfl) (by omega) (by omega) (by omega) (by omega) (by rw [if_neg (by decide)]; simp at hl; simp only [List.length_append, List.length_map, List.length_cons, List.length_nil] at g1 ⊢; omega) h2 ((hf.r hf1).trans hf2) K2
          · refine r_iload rfl rfl ?_
            refine r_if_y rfl (by decide) ?_
            refine r_iinc (L' := [_, _, _, _, _]) rfl rfl rfl ?_
            refine r_goto rfl ?_
            rw [sR_add (k := k) (k' := k') (o := 0) (n := n) hop.2.2.2 (by rw [hop.2.2.1]; decide), he2, bnd_inl] at K
            exact l_sumF (by omega) hs hB ((hf.r hf1).trans hf2) (by rw [h37]; omega) (by omega) (fun f' hf' h' => K.2 e2 rfl f' hf' h')
        · refine r_iload_n rfl rfl ?_
          refine r_bipush rfl ?_
          refine r_icmp_ne rfl (by omega) (by omega) (fun h43 => ?_) (fun h43 => ?_)
          · refine r_iconst rfl ?_
            refine r_istore (L' := [_, _, _, _, _]) rfl rfl rfl ?_
            refine r_iload rfl rfl ?_
            refine r_if_n rfl (by decide) ?_
            refine r_iload_n rfl rfl ?_
            refine r_bipush rfl ?_
            refine r_icmp_eq rfl (by omega) (by omega) (fun h61 => ?_) (fun h61 => ?_)
            · refine r_aload_n rfl rfl ?_
              refine r_getR rfl (by first | assumption | exact hs.o rfl) (by first | assumption | exact hs.g rfl) ?_
              have hop := op_42 h23 hT h61
              have hsk := sk_le (t := t) (p := p + 1) (by omega)
              have hsg0 := sk_ge t (p + 1)
              refine r_callV0 rfl rfl (by first | assumption | exact hs.o rfl) rfl (k_next (q := p + 1) (by omega) hs.r19 hT h.1.1 h.1.2.1 (h.1.2.2.2.1.trans (by rw [hop.1])) (by omega) (fun f1 hf1 h1 => ?_))
              refine r_iload rfl rfl ?_
              refine r_if_y rfl (by decide) ?_
              refine r_iload rfl rfl ?_
              refine r_if_y rfl (by decide) ?_
              refine r_iload_n rfl rfl ?_
              refine r_istore_n (L' := [_, _, _, _, _]) rfl rfl rfl ?_
              refine r_aload_n rfl rfl ?_
              refine r_callV0 rfl rfl (by first | assumption | exact hs.o rfl) rfl (k_readValue (by omega) hs hT (h.to hf1 h1 hsk) (by simp at hl ⊢; omega) ⟨fun p2 n2 m2 e2 f2 hf2 h2 => ?_, fun e2 he2 f2 hf2 hB => ?_⟩)
              · refine r_iload rfl rfl ?_
                refine r_if_n rfl (by decide) ?_
                refine r_aload_n rfl rfl ?_
                refine r_iload_n rfl rfl ?_
                refine r_callV1 rfl rfl (by first | assumption | exact hs.o rfl) rfl (k_putSign (by omega) hs h2 (by obtain ⟨g1, g2, g3⟩ := dValue_ok t _ _ _ _ _ e2; have hp2 := h2.2.1; simp at hl; simp only [List.length_append, List.length_map]; omega) (fun f3 hf3 h3 => ?_))
                refine r_iinc (L' := [_, _, _, _, _]) rfl rfl rfl ?_
                refine r_goto rfl ?_
                rw [sR_mul (k := k) (k' := k' + 1) (o := 0) (n := n) (by rw [hop.2.2]; decide), e2, bnd_inr, hop.2.2] at K
                have K2 := K.addL
                rw [List.map_append, ← List.append_assoc] at K2
                rw [h61] at h3
                obtain ⟨g1, g2, g3⟩ := dValue_ok t _ _ _ _ _ e2
                have hsg := sk_ge t (p + 1)
                have hp2 := h2.2.1
                exact l_sumC hd1 hs hT p2 n2 0 k (k' + 1) (j + 1) _ f3 _ _ (dv 0) rfl (by omega) (by omega) (by omega) (by omega) (by simp only [List.length_append, List.length_map, List.length_cons, List.length_nil, if_pos] at g1 hl ⊢; omega) h3 (((hf.r hf1).trans hf2).trans hf3) K2
              · refine r_iload rfl rfl ?_
                refine r_if_n rfl (by decide) ?_
                refine r_aload_n rfl rfl ?_
                refine r_iload_n rfl rfl ?_
                refine r_callV1 rfl rfl (by first | assumption | exact hs.o rfl) rfl (k_putSignF (by omega) hs hB (fun f3 hf3 hB3 => ?_))
                refine r_iinc (L' := [_, _, _, _, _]) rfl rfl rfl ?_
                refine r_goto rfl ?_
                rw [sR_mul (k := k) (k' := k' + 1) (o := 0) (n := n) (by rw [hop.2.2]; decide), he2, bnd_inl] at K
                exact l_sumF (by omega) hs hB3 (((hf.r hf1).trans hf2).trans hf3) (by decide) (by omega) (fun f' hf' h' => K.2 e2 rfl f' hf' h')
            · refine r_iload_n rfl rfl ?_
              refine r_bipush rfl ?_
              refine r_icmp_eq rfl (by omega) (by omega) (fun h67 => ?_) (fun h67 => ?_)
              · refine r_aload_n rfl rfl ?_
                refine r_getR rfl (by first | assumption | exact hs.o rfl) (by first | assumption | exact hs.g rfl) ?_
                have hop := op_47 h23 hT h67
                have hsk := sk_le (t := t) (p := p + 1) (by omega)
                have hsg0 := sk_ge t (p + 1)
                refine r_callV0 rfl rfl (by first | assumption | exact hs.o rfl) rfl (k_next (q := p + 1) (by omega) hs.r19 hT h.1.1 h.1.2.1 (h.1.2.2.2.1.trans (by rw [hop.1])) (by omega) (fun f1 hf1 h1 => ?_))
                refine r_iload rfl rfl ?_
                refine r_if_y rfl (by decide) ?_
                refine r_iload rfl rfl ?_
                refine r_if_y rfl (by decide) ?_
                refine r_iload_n rfl rfl ?_
                refine r_istore_n (L' := [_, _, _, _, _]) rfl rfl rfl ?_
                refine r_aload_n rfl rfl ?_
                refine r_callV0 rfl rfl (by first | assumption | exact hs.o rfl) rfl (k_readValue (by omega) hs hT (h.to hf1 h1 hsk) (by simp at hl ⊢; omega) ⟨fun p2 n2 m2 e2 f2 hf2 h2 => ?_, fun e2 he2 f2 hf2 hB => ?_⟩)
                · refine r_iload rfl rfl ?_
                  refine r_if_n rfl (by decide) ?_
                  refine r_aload_n rfl rfl ?_
                  refine r_iload_n rfl rfl ?_
                  refine r_callV1 rfl rfl (by first | assumption | exact hs.o rfl) rfl (k_putSign (by omega) hs h2 (by obtain ⟨g1, g2, g3⟩ := dValue_ok t _ _ _ _ _ e2; have hp2 := h2.2.1; simp at hl; simp only [List.length_append, List.length_map]; omega) (fun f3 hf3 h3 => ?_))
                  refine r_iinc (L' := [_, _, _, _, _]) rfl rfl rfl ?_
                  refine r_goto rfl ?_
                  rw [sR_mul (k := k) (k' := k' + 1) (o := 0) (n := n) (by rw [hop.2.2]; decide), e2, bnd_inr, hop.2.2] at K
                  have K2 := K.addL
                  rw [List.map_append, ← List.append_assoc] at K2
                  rw [h67] at h3
                  obtain ⟨g1, g2, g3⟩ := dValue_ok t _ _ _ _ _ e2
                  have hsg := sk_ge t (p + 1)
                  have hp2 := h2.2.1
                  exact l_sumC hd1 hs hT p2 n2 0 k (k' + 1) (j + 1) _ f3 _ _ (dv 0) rfl (by omega) (by omega) (by omega) (by omega) (by simp only [List.length_append, List.length_map, List.length_cons, List.length_nil, if_pos] at g1 hl ⊢; omega) h3 (((hf.r hf1).trans hf2).trans hf3) K2
                · refine r_iload rfl rfl ?_
                  refine r_if_n rfl (by decide) ?_
                  refine r_aload_n rfl rfl ?_
                  refine r_iload_n rfl rfl ?_
                  refine r_callV1 rfl rfl (by first | assumption | exact hs.o rfl) rfl (k_putSignF (by omega) hs hB (fun f3 hf3 hB3 => ?_))
                  refine r_iinc (L' := [_, _, _, _, _]) rfl rfl rfl ?_
                  refine r_goto rfl ?_
                  rw [sR_mul (k := k) (k' := k' + 1) (o := 0) (n := n) (by rw [hop.2.2]; decide), he2, bnd_inl] at K
                  exact l_sumF (by omega) hs hB3 (((hf.r hf1).trans hf2).trans hf3) (by decide) (by omega) (fun f' hf' h' => K.2 e2 rfl f' hf' h')
              · refine r_iload_n rfl rfl ?_
                refine r_bipush rfl ?_
                refine r_icmp_eq rfl (by omega) (by omega) (fun h73 => ?_) (fun h73 => ?_)
                · refine r_aload_n rfl rfl ?_
                  refine r_getR rfl (by first | assumption | exact hs.o rfl) (by first | assumption | exact hs.g rfl) ?_
                  have hop := op_37 h23 hT h73
                  have hsk := sk_le (t := t) (p := p + 1) (by omega)
                  have hsg0 := sk_ge t (p + 1)
                  refine r_callV0 rfl rfl (by first | assumption | exact hs.o rfl) rfl (k_next (q := p + 1) (by omega) hs.r19 hT h.1.1 h.1.2.1 (h.1.2.2.2.1.trans (by rw [hop.1])) (by omega) (fun f1 hf1 h1 => ?_))
                  refine r_iload rfl rfl ?_
                  refine r_if_y rfl (by decide) ?_
                  refine r_iload rfl rfl ?_
                  refine r_if_y rfl (by decide) ?_
                  refine r_iload_n rfl rfl ?_
                  refine r_istore_n (L' := [_, _, _, _, _]) rfl rfl rfl ?_
                  refine r_aload_n rfl rfl ?_
                  refine r_callV0 rfl rfl (by first | assumption | exact hs.o rfl) rfl (k_readValue (by omega) hs hT (h.to hf1 h1 hsk) (by simp at hl ⊢; omega) ⟨fun p2 n2 m2 e2 f2 hf2 h2 => ?_, fun e2 he2 f2 hf2 hB => ?_⟩)
                  · refine r_iload rfl rfl ?_
                    refine r_if_n rfl (by decide) ?_
                    refine r_aload_n rfl rfl ?_
                    refine r_iload_n rfl rfl ?_
                    refine r_callV1 rfl rfl (by first | assumption | exact hs.o rfl) rfl (k_putSign (by omega) hs h2 (by obtain ⟨g1, g2, g3⟩ := dValue_ok t _ _ _ _ _ e2; have hp2 := h2.2.1; simp at hl; simp only [List.length_append, List.length_map]; omega) (fun f3 hf3 h3 => ?_))
                    refine r_iinc (L' := [_, _, _, _, _]) rfl rfl rfl ?_
                    refine r_goto rfl ?_
                    rw [sR_mul (k := k) (k' := k' + 1) (o := 0) (n := n) (by rw [hop.2.2]; decide), e2, bnd_inr, hop.2.2] at K
                    have K2 := K.addL
                    rw [List.map_append, ← List.append_assoc] at K2
                    rw [h73] at h3
                    obtain ⟨g1, g2, g3⟩ := dValue_ok t _ _ _ _ _ e2
                    have hsg := sk_ge t (p + 1)
                    have hp2 := h2.2.1
                    exact l_sumC hd1 hs hT p2 n2 0 k (k' + 1) (j + 1) _ f3 _ _ (dv 0) rfl (by omega) (by omega) (by omega) (by omega) (by simp only [List.length_append, List.length_map, List.length_cons, List.length_nil, if_pos] at g1 hl ⊢; omega) h3 (((hf.r hf1).trans hf2).trans hf3) K2
                  · refine r_iload rfl rfl ?_
                    refine r_if_n rfl (by decide) ?_
                    refine r_aload_n rfl rfl ?_
                    refine r_iload_n rfl rfl ?_
                    refine r_callV1 rfl rfl (by first | assumption | exact hs.o rfl) rfl (k_putSignF (by omega) hs hB (fun f3 hf3 hB3 => ?_))
                    refine r_iinc (L' := [_, _, _, _, _]) rfl rfl rfl ?_
                    refine r_goto rfl ?_
                    rw [sR_mul (k := k) (k' := k' + 1) (o := 0) (n := n) (by rw [hop.2.2]; decide), he2, bnd_inl] at K
                    exact l_sumF (by omega) hs hB3 (((hf.r hf1).trans hf2).trans hf3) (by decide) (by omega) (fun f' hf' h' => K.2 e2 rfl f' hf' h')
                · refine r_goto rfl ?_
                  have hno := op_no (t := t) (p := p) (Or.inr ⟨h37, h43, h61, h67, h73⟩)
                  rw [sR_end hno.1 hno.2] at K
                  exact l_sumE (by omega) hs (by omega) h (fun q => absurd rfl q) hf rfl (fun f' hf' h' => K.1 _ _ _ rfl f' hf' h')
          · refine r_iconst rfl ?_
            refine r_goto rfl ?_
            refine r_istore (L' := [_, _, _, _, _]) rfl rfl rfl ?_
            refine r_iload rfl rfl ?_
            refine r_if_y rfl (by decide) ?_
            refine r_aload_n rfl rfl ?_
            refine r_getR rfl (by first | assumption | exact hs.o rfl) (by first | assumption | exact hs.g rfl) ?_
            have hop := op_45 h23 hT h43
            have hsk := sk_le (t := t) (p := p + 1) (by omega)
            have hsg0 := sk_ge t (p + 1)
            refine r_callV0 rfl rfl (by first | assumption | exact hs.o rfl) rfl (k_next (q := p + 1) (by omega) hs.r19 hT h.1.1 h.1.2.1 (h.1.2.2.2.1.trans (by rw [hop.1])) (by omega) (fun f1 hf1 h1 => ?_))
            refine r_iload rfl rfl ?_
            refine r_if_n rfl (by decide) ?_
            refine r_iload_n rfl rfl ?_
            refine r_iconst rfl ?_
            refine r_icmp_y rfl (by decide) ?_
            refine r_iload rfl rfl ?_
            refine r_if_n rfl (by decide) ?_
            refine r_iload_n rfl rfl ?_
            refine r_goto rfl ?_
            refine r_istore_n (L' := [_, _, _, _, _]) rfl rfl rfl ?_
            refine r_aload_n rfl rfl ?_
            refine r_callV0 rfl rfl (by first | assumption | exact hs.o rfl) rfl (k_readValue (by omega) hs hT (h.to hf1 h1 hsk) (by simp at hl ⊢; omega) ⟨fun p2 n2 m2 e2 f2 hf2 h2 => ?_, fun e2 he2 f2 hf2 hB => ?_⟩)
            · refine r_iload rfl rfl ?_
              refine r_if_y rfl (by decide) ?_
              refine r_iinc (L' := [_, _, _, _, _]) rfl rfl rfl ?_
              refine r_goto rfl ?_
              rw [sR_add (k := k) (k' := k') (o := 0) (n := n) hop.2.2.2 (by rw [hop.2.2.1]; decide), e2, bnd_inr, hop.2.2.1] at K
              have K2 := K.addL
              rw [List.map_append, ← List.append_assoc] at K2
              rw [show (oL 0).map tcode = [] from rfl, List.append_nil] at K2
              obtain ⟨g1, g2, g3⟩ := dValue_ok t _ _ _ _ _ e2
              have hsg := sk_ge t (p + 1)
              have hp2 := h2.2.1
              exact l_sumC hd1 hs hT p2 n2 3 401 k' (j + 1) _ f2 _ _ (sv t p) (by rw [h43]; rfl) (by omega) (by omega) (by omega) (by omega) (by rw [if_neg (by decide)]; simp at hl; simp only [List.length_append, List.length_map, List.length_cons, List.length_nil] at g1 ⊢; omega) h2 ((hf.r hf1).trans hf2) K2
            · refine r_iload rfl rfl ?_
              refine r_if_y rfl (by decide) ?_
              refine r_iinc (L' := [_, _, _, _, _]) rfl rfl rfl ?_
              refine r_goto rfl ?_
              rw [sR_add (k := k) (k' := k') (o := 0) (n := n) hop.2.2.2 (by rw [hop.2.2.1]; decide), he2, bnd_inl] at K
              exact l_sumF (by omega) hs hB ((hf.r hf1).trans hf2) (by rw [h43]; omega) (by omega) (fun f' hf' h' => K.2 e2 rfl f' hf' h')
  · refine r_iload_n rfl rfl ?_
    refine r_sipush rfl ?_
    refine r_icmp_ge rfl (by omega) (by omega) (fun h12 => ?_) (fun h12 => ?_)
    · have hno := op_no (t := t) (p := p) (Or.inl (fun q => by rw [kd_0.2 (by omega)] at q; omega))
      rw [sR_end hno.1 hno.2] at K
      exact l_sumE (by omega) hs (by omega) h (by simp at hl ⊢; omega) hf rfl (fun f' hf' h' => K.1 _ _ _ rfl f' hf' h')
    · refine r_aload_n rfl rfl ?_
      refine r_getR rfl (by first | assumption | exact hs.o rfl) (by first | assumption | exact hs.g rfl) ?_
      refine r_getI rfl (by first | assumption | exact hs.o rfl) h.1.2.2.2.2.1 ?_
      refine r_iconst rfl ?_
      refine r_icmp_ne rfl (by have := kd_rng t p; omega) (by omega) (fun h23 => ?_) (fun h23 => ?_)
      · have hno := op_no (t := t) (p := p) (Or.inl h23)
        rw [sR_end hno.1 hno.2] at K
        exact l_sumE (by omega) hs (by omega) h (by simp at hl ⊢; omega) hf rfl (fun f' hf' h' => K.1 _ _ _ rfl f' hf' h')
      · refine r_aload_n rfl rfl ?_
        refine r_getR rfl (by first | assumption | exact hs.o rfl) (by first | assumption | exact hs.g rfl) ?_
        have hsr := sv_rng h23 hT.2
        refine r_getI rfl (by first | assumption | exact hs.o rfl) (h.1.2.2.2.2.2.1 h23) ?_
        refine r_istore_n (L' := [_, _, _, _, _]) rfl rfl rfl ?_
        refine r_iload_n rfl rfl ?_
        refine r_bipush rfl ?_
        refine r_icmp_eq rfl (by omega) (by omega) (fun h37 => ?_) (fun h37 => ?_)
        · refine r_iconst rfl ?_
          refine r_goto rfl ?_
          refine r_istore (L' := [_, _, _, _, _]) rfl rfl rfl ?_
          refine r_iload rfl rfl ?_
          refine r_if_y rfl (by decide) ?_
          refine r_aload_n rfl rfl ?_
          refine r_getR rfl (by first | assumption | exact hs.o rfl) (by first | assumption | exact hs.g rfl) ?_
          have hop := op_43 h23 hT h37
          have hsk := sk_le (t := t) (p := p + 1) (by omega)
          have hsg0 := sk_ge t (p + 1)
          refine r_callV0 rfl rfl (by first | assumption | exact hs.o rfl) rfl (k_next (q := p + 1) (by omega) hs.r19 hT h.1.1 h.1.2.1 (h.1.2.2.2.1.trans (by rw [hop.1])) (by omega) (fun f1 hf1 h1 => ?_))
          refine r_iload rfl rfl ?_
          refine r_if_n rfl (by decide) ?_
          refine r_iload_n rfl rfl ?_
          refine r_iconst rfl ?_
          refine r_icmp_n rfl (by decide) ?_
          refine r_aload_n rfl rfl ?_
          refine r_iload_n rfl rfl ?_
          refine r_callV1 rfl rfl (by first | assumption | exact hs.o rfl) rfl (k_putSign (by omega) hs (h.to hf1 h1 hsk) (by simp at hl ⊢; omega) (fun f1p hfp h1p => ?_))
          refine r_iload rfl rfl ?_
          refine r_if_n rfl (by decide) ?_
          refine r_iload_n rfl rfl ?_
          refine r_goto rfl ?_
          refine r_istore_n (L' := [_, _, _, _, _]) rfl rfl rfl ?_
          refine r_aload_n rfl rfl ?_
          refine r_callV0 rfl rfl (by first | assumption | exact hs.o rfl) rfl (k_readValue (by omega) hs hT h1p (by simp at hl ⊢; omega) ⟨fun p2 n2 m2 e2 f2 hf2 h2 => ?_, fun e2 he2 f2 hf2 hB => ?_⟩)
          · refine r_iload rfl rfl ?_
            refine r_if_y rfl (by decide) ?_
            refine r_iinc (L' := [_, _, _, _, _]) rfl rfl rfl ?_
            refine r_goto rfl ?_
            rw [sR_add (k := k) (k' := k') (o := 2) (n := n) hop.2.2.2 (by rw [hop.2.2.1]; decide), e2, bnd_inr, hop.2.2.1] at K
            have K2 := K.addL
            rw [List.map_append, ← List.append_assoc] at K2
            rw [show (oL 2).map tcode = [100010 + dv 2] from rfl] at K2
            obtain ⟨g1, g2, g3⟩ := dValue_ok t _ _ _ _ _ e2
            have hsg := sk_ge t (p + 1)
            have hp2 := h2.2.1
            exact l_sumC hd1 hs hT p2 n2 2 401 k' (j + 1) _ f2 _ _ (sv t p) (by rw [h37]; rfl) (by omega) (by omega) (by omega) (by omega) (by rw [if_neg (by decide)]; simp at hl; simp only [List.length_append, List.length_map, List.length_cons, List.length_nil] at g1 ⊢; omega) h2 (((hf.r hf1).trans hfp).trans hf2) K2
          · refine r_iload rfl rfl ?_
            refine r_if_y rfl (by decide) ?_
            refine r_iinc (L' := [_, _, _, _, _]) rfl rfl rfl ?_
            refine r_goto rfl ?_
            rw [sR_add (k := k) (k' := k') (o := 2) (n := n) hop.2.2.2 (by rw [hop.2.2.1]; decide), he2, bnd_inl] at K
            exact l_sumF (by omega) hs hB (((hf.r hf1).trans hfp).trans hf2) (by rw [h37]; omega) (by omega) (fun f' hf' h' => K.2 e2 rfl f' hf' h')
        · refine r_iload_n rfl rfl ?_
          refine r_bipush rfl ?_
          refine r_icmp_ne rfl (by omega) (by omega) (fun h43 => ?_) (fun h43 => ?_)
          · refine r_iconst rfl ?_
            refine r_istore (L' := [_, _, _, _, _]) rfl rfl rfl ?_
            refine r_iload rfl rfl ?_
            refine r_if_n rfl (by decide) ?_
            refine r_iload_n rfl rfl ?_
            refine r_bipush rfl ?_
            refine r_icmp_eq rfl (by omega) (by omega) (fun h61 => ?_) (fun h61 => ?_)
            · refine r_aload_n rfl rfl ?_
              refine r_getR rfl (by first | assumption | exact hs.o rfl) (by first | assumption | exact hs.g rfl) ?_
              have hop := op_42 h23 hT h61
              have hsk := sk_le (t := t) (p := p + 1) (by omega)
              have hsg0 := sk_ge t (p + 1)
              refine r_callV0 rfl rfl (by first | assumption | exact hs.o rfl) rfl (k_next (q := p + 1) (by omega) hs.r19 hT h.1.1 h.1.2.1 (h.1.2.2.2.1.trans (by rw [hop.1])) (by omega) (fun f1 hf1 h1 => ?_))
              refine r_iload rfl rfl ?_
              refine r_if_y rfl (by decide) ?_
              refine r_iload rfl rfl ?_
              refine r_if_y rfl (by decide) ?_
              refine r_iload_n rfl rfl ?_
              refine r_istore_n (L' := [_, _, _, _, _]) rfl rfl rfl ?_
              refine r_aload_n rfl rfl ?_
              refine r_callV0 rfl rfl (by first | assumption | exact hs.o rfl) rfl (k_readValue (by omega) hs hT (h.to hf1 h1 hsk) (by simp at hl ⊢; omega) ⟨fun p2 n2 m2 e2 f2 hf2 h2 => ?_, fun e2 he2 f2 hf2 hB => ?_⟩)
              · refine r_iload rfl rfl ?_
                refine r_if_n rfl (by decide) ?_
                refine r_aload_n rfl rfl ?_
                refine r_iload_n rfl rfl ?_
                refine r_callV1 rfl rfl (by first | assumption | exact hs.o rfl) rfl (k_putSign (by omega) hs h2 (by obtain ⟨g1, g2, g3⟩ := dValue_ok t _ _ _ _ _ e2; have hp2 := h2.2.1; simp at hl; simp only [List.length_append, List.length_map]; omega) (fun f3 hf3 h3 => ?_))
                refine r_iinc (L' := [_, _, _, _, _]) rfl rfl rfl ?_
                refine r_goto rfl ?_
                rw [sR_mul (k := k) (k' := k' + 1) (o := 2) (n := n) (by rw [hop.2.2]; decide), e2, bnd_inr, hop.2.2] at K
                have K2 := K.addL
                rw [List.map_append, ← List.append_assoc] at K2
                rw [h61] at h3
                obtain ⟨g1, g2, g3⟩ := dValue_ok t _ _ _ _ _ e2
                have hsg := sk_ge t (p + 1)
                have hp2 := h2.2.1
                exact l_sumC hd1 hs hT p2 n2 2 k (k' + 1) (j + 1) _ f3 _ _ (dv 2) rfl (by omega) (by omega) (by omega) (by omega) (by simp only [List.length_append, List.length_map, List.length_cons, List.length_nil, show ¬ ((2 : Nat) = 0) by decide, if_false] at g1 hl ⊢; omega) h3 (((hf.r hf1).trans hf2).trans hf3) K2
              · refine r_iload rfl rfl ?_
                refine r_if_n rfl (by decide) ?_
                refine r_aload_n rfl rfl ?_
                refine r_iload_n rfl rfl ?_
                refine r_callV1 rfl rfl (by first | assumption | exact hs.o rfl) rfl (k_putSignF (by omega) hs hB (fun f3 hf3 hB3 => ?_))
                refine r_iinc (L' := [_, _, _, _, _]) rfl rfl rfl ?_
                refine r_goto rfl ?_
                rw [sR_mul (k := k) (k' := k' + 1) (o := 2) (n := n) (by rw [hop.2.2]; decide), he2, bnd_inl] at K
                exact l_sumF (by omega) hs hB3 (((hf.r hf1).trans hf2).trans hf3) (by decide) (by omega) (fun f' hf' h' => K.2 e2 rfl f' hf' h')
            · refine r_iload_n rfl rfl ?_
              refine r_bipush rfl ?_
              refine r_icmp_eq rfl (by omega) (by omega) (fun h67 => ?_) (fun h67 => ?_)
              · refine r_aload_n rfl rfl ?_
                refine r_getR rfl (by first | assumption | exact hs.o rfl) (by first | assumption | exact hs.g rfl) ?_
                have hop := op_47 h23 hT h67
                have hsk := sk_le (t := t) (p := p + 1) (by omega)
                have hsg0 := sk_ge t (p + 1)
                refine r_callV0 rfl rfl (by first | assumption | exact hs.o rfl) rfl (k_next (q := p + 1) (by omega) hs.r19 hT h.1.1 h.1.2.1 (h.1.2.2.2.1.trans (by rw [hop.1])) (by omega) (fun f1 hf1 h1 => ?_))
                refine r_iload rfl rfl ?_
                refine r_if_y rfl (by decide) ?_
                refine r_iload rfl rfl ?_
                refine r_if_y rfl (by decide) ?_
                refine r_iload_n rfl rfl ?_
                refine r_istore_n (L' := [_, _, _, _, _]) rfl rfl rfl ?_
                refine r_aload_n rfl rfl ?_
                refine r_callV0 rfl rfl (by first | assumption | exact hs.o rfl) rfl (k_readValue (by omega) hs hT (h.to hf1 h1 hsk) (by simp at hl ⊢; omega) ⟨fun p2 n2 m2 e2 f2 hf2 h2 => ?_, fun e2 he2 f2 hf2 hB => ?_⟩)
                · refine r_iload rfl rfl ?_
                  refine r_if_n rfl (by decide) ?_
                  refine r_aload_n rfl rfl ?_
                  refine r_iload_n rfl rfl ?_
                  refine r_callV1 rfl rfl (by first | assumption | exact hs.o rfl) rfl (k_putSign (by omega) hs h2 (by obtain ⟨g1, g2, g3⟩ := dValue_ok t _ _ _ _ _ e2; have hp2 := h2.2.1; simp at hl; simp only [List.length_append, List.length_map]; omega) (fun f3 hf3 h3 => ?_))
                  refine r_iinc (L' := [_, _, _, _, _]) rfl rfl rfl ?_
                  refine r_goto rfl ?_
                  rw [sR_mul (k := k) (k' := k' + 1) (o := 2) (n := n) (by rw [hop.2.2]; decide), e2, bnd_inr, hop.2.2] at K
                  have K2 := K.addL
                  rw [List.map_append, ← List.append_assoc] at K2
                  rw [h67] at h3
                  obtain ⟨g1, g2, g3⟩ := dValue_ok t _ _ _ _ _ e2
                  have hsg := sk_ge t (p + 1)
                  have hp2 := h2.2.1
                  exact l_sumC hd1 hs hT p2 n2 2 k (k' + 1) (j + 1) _ f3 _ _ (dv 2) rfl (by omega) (by omega) (by omega) (by omega) (by simp only [List.length_append, List.length_map, List.length_cons, List.length_nil, show ¬ ((2 : Nat) = 0) by decide, if_false] at g1 hl ⊢; omega) h3 (((hf.r hf1).trans hf2).trans hf3) K2
                · refine r_iload rfl rfl ?_
                  refine r_if_n rfl (by decide) ?_
                  refine r_aload_n rfl rfl ?_
                  refine r_iload_n rfl rfl ?_
                  refine r_callV1 rfl rfl (by first | assumption | exact hs.o rfl) rfl (k_putSignF (by omega) hs hB (fun f3 hf3 hB3 => ?_))
                  refine r_iinc (L' := [_, _, _, _, _]) rfl rfl rfl ?_
                  refine r_goto rfl ?_
                  rw [sR_mul (k := k) (k' := k' + 1) (o := 2) (n := n) (by rw [hop.2.2]; decide), he2, bnd_inl] at K
                  exact l_sumF (by omega) hs hB3 (((hf.r hf1).trans hf2).trans hf3) (by decide) (by omega) (fun f' hf' h' => K.2 e2 rfl f' hf' h')
              · refine r_iload_n rfl rfl ?_
                refine r_bipush rfl ?_
                refine r_icmp_eq rfl (by omega) (by omega) (fun h73 => ?_) (fun h73 => ?_)
                · refine r_aload_n rfl rfl ?_
                  refine r_getR rfl (by first | assumption | exact hs.o rfl) (by first | assumption | exact hs.g rfl) ?_
                  have hop := op_37 h23 hT h73
                  have hsk := sk_le (t := t) (p := p + 1) (by omega)
                  have hsg0 := sk_ge t (p + 1)
                  refine r_callV0 rfl rfl (by first | assumption | exact hs.o rfl) rfl (k_next (q := p + 1) (by omega) hs.r19 hT h.1.1 h.1.2.1 (h.1.2.2.2.1.trans (by rw [hop.1])) (by omega) (fun f1 hf1 h1 => ?_))
                  refine r_iload rfl rfl ?_
                  refine r_if_y rfl (by decide) ?_
                  refine r_iload rfl rfl ?_
                  refine r_if_y rfl (by decide) ?_
                  refine r_iload_n rfl rfl ?_
                  refine r_istore_n (L' := [_, _, _, _, _]) rfl rfl rfl ?_
                  refine r_aload_n rfl rfl ?_
                  refine r_callV0 rfl rfl (by first | assumption | exact hs.o rfl) rfl (k_readValue (by omega) hs hT (h.to hf1 h1 hsk) (by simp at hl ⊢; omega) ⟨fun p2 n2 m2 e2 f2 hf2 h2 => ?_, fun e2 he2 f2 hf2 hB => ?_⟩)
                  · refine r_iload rfl rfl ?_
                    refine r_if_n rfl (by decide) ?_
                    refine r_aload_n rfl rfl ?_
                    refine r_iload_n rfl rfl ?_
                    refine r_callV1 rfl rfl (by first | assumption | exact hs.o rfl) rfl (k_putSign (by omega) hs h2 (by obtain ⟨g1, g2, g3⟩ := dValue_ok t _ _ _ _ _ e2; have hp2 := h2.2.1; simp at hl; simp only [List.length_append, List.length_map]; omega) (fun f3 hf3 h3 => ?_))
                    refine r_iinc (L' := [_, _, _, _, _]) rfl rfl rfl ?_
                    refine r_goto rfl ?_
                    rw [sR_mul (k := k) (k' := k' + 1) (o := 2) (n := n) (by rw [hop.2.2]; decide), e2, bnd_inr, hop.2.2] at K
                    have K2 := K.addL
                    rw [List.map_append, ← List.append_assoc] at K2
                    rw [h73] at h3
                    obtain ⟨g1, g2, g3⟩ := dValue_ok t _ _ _ _ _ e2
                    have hsg := sk_ge t (p + 1)
                    have hp2 := h2.2.1
                    exact l_sumC hd1 hs hT p2 n2 2 k (k' + 1) (j + 1) _ f3 _ _ (dv 2) rfl (by omega) (by omega) (by omega) (by omega) (by simp only [List.length_append, List.length_map, List.length_cons, List.length_nil, show ¬ ((2 : Nat) = 0) by decide, if_false] at g1 hl ⊢; omega) h3 (((hf.r hf1).trans hf2).trans hf3) K2
                  · refine r_iload rfl rfl ?_
                    refine r_if_n rfl (by decide) ?_
                    refine r_aload_n rfl rfl ?_
                    refine r_iload_n rfl rfl ?_
                    refine r_callV1 rfl rfl (by first | assumption | exact hs.o rfl) rfl (k_putSignF (by omega) hs hB (fun f3 hf3 hB3 => ?_))
                    refine r_iinc (L' := [_, _, _, _, _]) rfl rfl rfl ?_
                    refine r_goto rfl ?_
                    rw [sR_mul (k := k) (k' := k' + 1) (o := 2) (n := n) (by rw [hop.2.2]; decide), he2, bnd_inl] at K
                    exact l_sumF (by omega) hs hB3 (((hf.r hf1).trans hf2).trans hf3) (by decide) (by omega) (fun f' hf' h' => K.2 e2 rfl f' hf' h')
                · refine r_goto rfl ?_
                  have hno := op_no (t := t) (p := p) (Or.inr ⟨h37, h43, h61, h67, h73⟩)
                  rw [sR_end hno.1 hno.2] at K
                  exact l_sumE (by omega) hs (by omega) h (by simp at hl ⊢; omega) hf rfl (fun f' hf' h' => K.1 _ _ _ rfl f' hf' h')
          · refine r_iconst rfl ?_
            refine r_goto rfl ?_
            refine r_istore (L' := [_, _, _, _, _]) rfl rfl rfl ?_
            refine r_iload rfl rfl ?_
            refine r_if_y rfl (by decide) ?_
            refine r_aload_n rfl rfl ?_
            refine r_getR rfl (by first | assumption | exact hs.o rfl) (by first | assumption | exact hs.g rfl) ?_
            have hop := op_45 h23 hT h43
            have hsk := sk_le (t := t) (p := p + 1) (by omega)
            have hsg0 := sk_ge t (p + 1)
            refine r_callV0 rfl rfl (by first | assumption | exact hs.o rfl) rfl (k_next (q := p + 1) (by omega) hs.r19 hT h.1.1 h.1.2.1 (h.1.2.2.2.1.trans (by rw [hop.1])) (by omega) (fun f1 hf1 h1 => ?_))
            refine r_iload rfl rfl ?_
            refine r_if_n rfl (by decide) ?_
            refine r_iload_n rfl rfl ?_
            refine r_iconst rfl ?_
            refine r_icmp_n rfl (by decide) ?_
            refine r_aload_n rfl rfl ?_
            refine r_iload_n rfl rfl ?_
            refine r_callV1 rfl rfl (by first | assumption | exact hs.o rfl) rfl (k_putSign (by omega) hs (h.to hf1 h1 hsk) (by simp at hl ⊢; omega) (fun f1p hfp h1p => ?_))
            refine r_iload rfl rfl ?_
            refine r_if_n rfl (by decide) ?_
            refine r_iload_n rfl rfl ?_
            refine r_goto rfl ?_
            refine r_istore_n (L' := [_, _, _, _, _]) rfl rfl rfl ?_
            refine r_aload_n rfl rfl ?_
            refine r_callV0 rfl rfl (by first | assumption | exact hs.o rfl) rfl (k_readValue (by omega) hs hT h1p (by simp at hl ⊢; omega) ⟨fun p2 n2 m2 e2 f2 hf2 h2 => ?_, fun e2 he2 f2 hf2 hB => ?_⟩)
            · refine r_iload rfl rfl ?_
              refine r_if_y rfl (by decide) ?_
              refine r_iinc (L' := [_, _, _, _, _]) rfl rfl rfl ?_
              refine r_goto rfl ?_
              rw [sR_add (k := k) (k' := k') (o := 2) (n := n) hop.2.2.2 (by rw [hop.2.2.1]; decide), e2, bnd_inr, hop.2.2.1] at K
              have K2 := K.addL
              rw [List.map_append, ← List.append_assoc] at K2
              rw [show (oL 2).map tcode = [100010 + dv 2] from rfl] at K2
              obtain ⟨g1, g2, g3⟩ := dValue_ok t _ _ _ _ _ e2
              have hsg := sk_ge t (p + 1)
              have hp2 := h2.2.1
              exact l_sumC hd1 hs hT p2 n2 3 401 k' (j + 1) _ f2 _ _ (sv t p) (by rw [h43]; rfl) (by omega) (by omega) (by omega) (by omega) (by rw [if_neg (by decide)]; simp at hl; simp only [List.length_append, List.length_map, List.length_cons, List.length_nil] at g1 ⊢; omega) h2 (((hf.r hf1).trans hfp).trans hf2) K2
            · refine r_iload rfl rfl ?_
              refine r_if_y rfl (by decide) ?_
              refine r_iinc (L' := [_, _, _, _, _]) rfl rfl rfl ?_
              refine r_goto rfl ?_
              rw [sR_add (k := k) (k' := k') (o := 2) (n := n) hop.2.2.2 (by rw [hop.2.2.1]; decide), he2, bnd_inl] at K
              exact l_sumF (by omega) hs hB (((hf.r hf1).trans hfp).trans hf2) (by rw [h43]; omega) (by omega) (fun f' hf' h' => K.2 e2 rfl f' hf' h')
  · refine r_iload_n rfl rfl ?_
    refine r_sipush rfl ?_
    refine r_icmp_ge rfl (by omega) (by omega) (fun h12 => ?_) (fun h12 => ?_)
    · have hno := op_no (t := t) (p := p) (Or.inl (fun q => by rw [kd_0.2 (by omega)] at q; omega))
      rw [sR_end hno.1 hno.2] at K
      exact l_sumE (by omega) hs (by omega) h (by simp at hl ⊢; omega) hf rfl (fun f' hf' h' => K.1 _ _ _ rfl f' hf' h')
    · refine r_aload_n rfl rfl ?_
      refine r_getR rfl (by first | assumption | exact hs.o rfl) (by first | assumption | exact hs.g rfl) ?_
      refine r_getI rfl (by first | assumption | exact hs.o rfl) h.1.2.2.2.2.1 ?_
      refine r_iconst rfl ?_
      refine r_icmp_ne rfl (by have := kd_rng t p; omega) (by omega) (fun h23 => ?_) (fun h23 => ?_)
      · have hno := op_no (t := t) (p := p) (Or.inl h23)
        rw [sR_end hno.1 hno.2] at K
        exact l_sumE (by omega) hs (by omega) h (by simp at hl ⊢; omega) hf rfl (fun f' hf' h' => K.1 _ _ _ rfl f' hf' h')
      · refine r_aload_n rfl rfl ?_
        refine r_getR rfl (by first | assumption | exact hs.o rfl) (by first | assumption | exact hs.g rfl) ?_
        have hsr := sv_rng h23 hT.2
        refine r_getI rfl (by first | assumption | exact hs.o rfl) (h.1.2.2.2.2.2.1 h23) ?_
        refine r_istore_n (L' := [_, _, _, _, _]) rfl rfl rfl ?_
        refine r_iload_n rfl rfl ?_
        refine r_bipush rfl ?_
        refine r_icmp_eq rfl (by omega) (by omega) (fun h37 => ?_) (fun h37 => ?_)
        · refine r_iconst rfl ?_
          refine r_goto rfl ?_
          refine r_istore (L' := [_, _, _, _, _]) rfl rfl rfl ?_
          refine r_iload rfl rfl ?_
          refine r_if_y rfl (by decide) ?_
          refine r_aload_n rfl rfl ?_
          refine r_getR rfl (by first | assumption | exact hs.o rfl) (by first | assumption | exact hs.g rfl) ?_
          have hop := op_43 h23 hT h37
          have hsk := sk_le (t := t) (p := p + 1) (by omega)
          have hsg0 := sk_ge t (p + 1)
          refine r_callV0 rfl rfl (by first | assumption | exact hs.o rfl) rfl (k_next (q := p + 1) (by omega) hs.r19 hT h.1.1 h.1.2.1 (h.1.2.2.2.1.trans (by rw [hop.1])) (by omega) (fun f1 hf1 h1 => ?_))
          refine r_iload rfl rfl ?_
          refine r_if_n rfl (by decide) ?_
          refine r_iload_n rfl rfl ?_
          refine r_iconst rfl ?_
          refine r_icmp_n rfl (by decide) ?_
          refine r_aload_n rfl rfl ?_
          refine r_iload_n rfl rfl ?_
          refine r_callV1 rfl rfl (by first | assumption | exact hs.o rfl) rfl (k_putSign (by omega) hs (h.to hf1 h1 hsk) (by simp at hl ⊢; omega) (fun f1p hfp h1p => ?_))
          refine r_iload rfl rfl ?_
          refine r_if_n rfl (by decide) ?_
          refine r_iload_n rfl rfl ?_
          refine r_goto rfl ?_
          refine r_istore_n (L' := [_, _, _, _, _]) rfl rfl rfl ?_
          refine r_aload_n rfl rfl ?_
          refine r_callV0 rfl rfl (by first | assumption | exact hs.o rfl) rfl (k_readValue (by omega) hs hT h1p (by simp at hl ⊢; omega) ⟨fun p2 n2 m2 e2 f2 hf2 h2 => ?_, fun e2 he2 f2 hf2 hB => ?_⟩)
          · refine r_iload rfl rfl ?_
            refine r_if_y rfl (by decide) ?_
            refine r_iinc (L' := [_, _, _, _, _]) rfl rfl rfl ?_
            refine r_goto rfl ?_
            rw [sR_add (k := k) (k' := k') (o := 3) (n := n) hop.2.2.2 (by rw [hop.2.2.1]; decide), e2, bnd_inr, hop.2.2.1] at K
            have K2 := K.addL
            rw [List.map_append, ← List.append_assoc] at K2
            rw [show (oL 3).map tcode = [100010 + dv 3] from rfl] at K2
            obtain ⟨g1, g2, g3⟩ := dValue_ok t _ _ _ _ _ e2
            have hsg := sk_ge t (p + 1)
            have hp2 := h2.2.1
            exact l_sumC hd1 hs hT p2 n2 2 401 k' (j + 1) _ f2 _ _ (sv t p) (by rw [h37]; rfl) (by omega) (by omega) (by omega) (by omega) (by rw [if_neg (by decide)]; simp at hl; simp only [List.length_append, List.length_map, List.length_cons, List.length_nil] at g1 ⊢; omega) h2 (((hf.r hf1).trans hfp).trans hf2) K2
          · refine r_iload rfl rfl ?_
            refine r_if_y rfl (by decide) ?_
            refine r_iinc (L' := [_, _, _, _, _]) rfl rfl rfl ?_
            refine r_goto rfl ?_
            rw [sR_add (k := k) (k' := k') (o := 3) (n := n) hop.2.2.2 (by rw [hop.2.2.1]; decide), he2, bnd_inl] at K
            exact l_sumF (by omega) hs hB (((hf.r hf1).trans hfp).trans hf2) (by rw [h37]; omega) (by omega) (fun f' hf' h' => K.2 e2 rfl f' hf' h')
        · refine r_iload_n rfl rfl ?_
          refine r_bipush rfl ?_
          refine r_icmp_ne rfl (by omega) (by omega) (fun h43 => ?_) (fun h43 => ?_)
          · refine r_iconst rfl ?_
            refine r_istore (L' := [_, _, _, _, _]) rfl rfl rfl ?_
            refine r_iload rfl rfl ?_
            refine r_if_n rfl (by decide) ?_
            refine r_iload_n rfl rfl ?_
            refine r_bipush rfl ?_
            refine r_icmp_eq rfl (by omega) (by omega) (fun h61 => ?_) (fun h61 => ?_)
            · refine r_aload_n rfl rfl ?_
              refine r_getR rfl (by first | assumption | exact hs.o rfl) (by first | assumption | exact hs.g rfl) ?_
              have hop := op_42 h23 hT h61
              have hsk := sk_le (t := t) (p := p + 1) (by omega)
              have hsg0 := sk_ge t (p + 1)
              refine r_callV0 rfl rfl (by first | assumption | exact hs.o rfl) rfl (k_next (q := p + 1) (by omega) hs.r19 hT h.1.1 h.1.2.1 (h.1.2.2.2.1.trans (by rw [hop.1])) (by omega) (fun f1 hf1 h1 => ?_))
              refine r_iload rfl rfl ?_
              refine r_if_y rfl (by decide) ?_
              refine r_iload rfl rfl ?_
              refine r_if_y rfl (by decide) ?_
              refine r_iload_n rfl rfl ?_
              refine r_istore_n (L' := [_, _, _, _, _]) rfl rfl rfl ?_
              refine r_aload_n rfl rfl ?_
              refine r_callV0 rfl rfl (by first | assumption | exact hs.o rfl) rfl (k_readValue (by omega) hs hT (h.to hf1 h1 hsk) (by simp at hl ⊢; omega) ⟨fun p2 n2 m2 e2 f2 hf2 h2 => ?_, fun e2 he2 f2 hf2 hB => ?_⟩)
              · refine r_iload rfl rfl ?_
                refine r_if_n rfl (by decide) ?_
                refine r_aload_n rfl rfl ?_
                refine r_iload_n rfl rfl ?_
                refine r_callV1 rfl rfl (by first | assumption | exact hs.o rfl) rfl (k_putSign (by omega) hs h2 (by obtain ⟨g1, g2, g3⟩ := dValue_ok t _ _ _ _ _ e2; have hp2 := h2.2.1; simp at hl; simp only [List.length_append, List.length_map]; omega) (fun f3 hf3 h3 => ?_))
                refine r_iinc (L' := [_, _, _, _, _]) rfl rfl rfl ?_
                refine r_goto rfl ?_
                rw [sR_mul (k := k) (k' := k' + 1) (o := 3) (n := n) (by rw [hop.2.2]; decide), e2, bnd_inr, hop.2.2] at K
                have K2 := K.addL
                rw [List.map_append, ← List.append_assoc] at K2
                rw [h61] at h3
                obtain ⟨g1, g2, g3⟩ := dValue_ok t _ _ _ _ _ e2
                have hsg := sk_ge t (p + 1)
                have hp2 := h2.2.1
                exact l_sumC hd1 hs hT p2 n2 3 k (k' + 1) (j + 1) _ f3 _ _ (dv 3) rfl (by omega) (by omega) (by omega) (by omega) (by simp only [List.length_append, List.length_map, List.length_cons, List.length_nil, show ¬ ((3 : Nat) = 0) by decide, if_false] at g1 hl ⊢; omega) h3 (((hf.r hf1).trans hf2).trans hf3) K2
              · refine r_iload rfl rfl ?_
                refine r_if_n rfl (by decide) ?_
                refine r_aload_n rfl rfl ?_
                refine r_iload_n rfl rfl ?_
                refine r_callV1 rfl rfl (by first | assumption | exact hs.o rfl) rfl (k_putSignF (by omega) hs hB (fun f3 hf3 hB3 => ?_))
                refine r_iinc (L' := [_, _, _, _, _]) rfl rfl rfl ?_
                refine r_goto rfl ?_
                rw [sR_mul (k := k) (k' := k' + 1) (o := 3) (n := n) (by rw [hop.2.2]; decide), he2, bnd_inl] at K
                exact l_sumF (by omega) hs hB3 (((hf.r hf1).trans hf2).trans hf3) (by decide) (by omega) (fun f' hf' h' => K.2 e2 rfl f' hf' h')
            · refine r_iload_n rfl rfl ?_
              refine r_bipush rfl ?_
              refine r_icmp_eq rfl (by omega) (by omega) (fun h67 => ?_) (fun h67 => ?_)
              · refine r_aload_n rfl rfl ?_
                refine r_getR rfl (by first | assumption | exact hs.o rfl) (by first | assumption | exact hs.g rfl) ?_
                have hop := op_47 h23 hT h67
                have hsk := sk_le (t := t) (p := p + 1) (by omega)
                have hsg0 := sk_ge t (p + 1)
                refine r_callV0 rfl rfl (by first | assumption | exact hs.o rfl) rfl (k_next (q := p + 1) (by omega) hs.r19 hT h.1.1 h.1.2.1 (h.1.2.2.2.1.trans (by rw [hop.1])) (by omega) (fun f1 hf1 h1 => ?_))
                refine r_iload rfl rfl ?_
                refine r_if_y rfl (by decide) ?_
                refine r_iload rfl rfl ?_
                refine r_if_y rfl (by decide) ?_
                refine r_iload_n rfl rfl ?_
                refine r_istore_n (L' := [_, _, _, _, _]) rfl rfl rfl ?_
                refine r_aload_n rfl rfl ?_
                refine r_callV0 rfl rfl (by first | assumption | exact hs.o rfl) rfl (k_readValue (by omega) hs hT (h.to hf1 h1 hsk) (by simp at hl ⊢; omega) ⟨fun p2 n2 m2 e2 f2 hf2 h2 => ?_, fun e2 he2 f2 hf2 hB => ?_⟩)
                · refine r_iload rfl rfl ?_
                  refine r_if_n rfl (by decide) ?_
                  refine r_aload_n rfl rfl ?_
                  refine r_iload_n rfl rfl ?_
                  refine r_callV1 rfl rfl (by first | assumption | exact hs.o rfl) rfl (k_putSign (by omega) hs h2 (by obtain ⟨g1, g2, g3⟩ := dValue_ok t _ _ _ _ _ e2; have hp2 := h2.2.1; simp at hl; simp only [List.length_append, List.length_map]; omega) (fun f3 hf3 h3 => ?_))
                  refine r_iinc (L' := [_, _, _, _, _]) rfl rfl rfl ?_
                  refine r_goto rfl ?_
                  rw [sR_mul (k := k) (k' := k' + 1) (o := 3) (n := n) (by rw [hop.2.2]; decide), e2, bnd_inr, hop.2.2] at K
                  have K2 := K.addL
                  rw [List.map_append, ← List.append_assoc] at K2
                  rw [h67] at h3
                  obtain ⟨g1, g2, g3⟩ := dValue_ok t _ _ _ _ _ e2
                  have hsg := sk_ge t (p + 1)
                  have hp2 := h2.2.1
                  exact l_sumC hd1 hs hT p2 n2 3 k (k' + 1) (j + 1) _ f3 _ _ (dv 3) rfl (by omega) (by omega) (by omega) (by omega) (by simp only [List.length_append, List.length_map, List.length_cons, List.length_nil, show ¬ ((3 : Nat) = 0) by decide, if_false] at g1 hl ⊢; omega) h3 (((hf.r hf1).trans hf2).trans hf3) K2
                · refine r_iload rfl rfl ?_
                  refine r_if_n rfl (by decide) ?_
                  refine r_aload_n rfl rfl ?_
                  refine r_iload_n rfl rfl ?_
                  refine r_callV1 rfl rfl (by first | assumption | exact hs.o rfl) rfl (k_putSignF (by omega) hs hB (fun f3 hf3 hB3 => ?_))
                  refine r_iinc (L' := [_, _, _, _, _]) rfl rfl rfl ?_
                  refine r_goto rfl ?_
                  rw [sR_mul (k := k) (k' := k' + 1) (o := 3) (n := n) (by rw [hop.2.2]; decide), he2, bnd_inl] at K
                  exact l_sumF (by omega) hs hB3 (((hf.r hf1).trans hf2).trans hf3) (by decide) (by omega) (fun f' hf' h' => K.2 e2 rfl f' hf' h')
              · refine r_iload_n rfl rfl ?_
                refine r_bipush rfl ?_
                refine r_icmp_eq rfl (by omega) (by omega) (fun h73 => ?_) (fun h73 => ?_)
                · refine r_aload_n rfl rfl ?_
                  refine r_getR rfl (by first | assumption | exact hs.o rfl) (by first | assumption | exact hs.g rfl) ?_
                  have hop := op_37 h23 hT h73
                  have hsk := sk_le (t := t) (p := p + 1) (by omega)
                  have hsg0 := sk_ge t (p + 1)
                  refine r_callV0 rfl rfl (by first | assumption | exact hs.o rfl) rfl (k_next (q := p + 1) (by omega) hs.r19 hT h.1.1 h.1.2.1 (h.1.2.2.2.1.trans (by rw [hop.1])) (by omega) (fun f1 hf1 h1 => ?_))
                  refine r_iload rfl rfl ?_
                  refine r_if_y rfl (by decide) ?_
                  refine r_iload rfl rfl ?_
                  refine r_if_y rfl (by decide) ?_
                  refine r_iload_n rfl rfl ?_
                  refine r_istore_n (L' := [_, _, _, _, _]) rfl rfl rfl ?_
                  refine r_aload_n rfl rfl ?_
                  refine r_callV0 rfl rfl (by first | assumption | exact hs.o rfl) rfl (k_readValue (by omega) hs hT (h.to hf1 h1 hsk) (by simp at hl ⊢; omega) ⟨fun p2 n2 m2 e2 f2 hf2 h2 => ?_, fun e2 he2 f2 hf2 hB => ?_⟩)
                  · refine r_iload rfl rfl ?_
                    refine r_if_n rfl (by decide) ?_
                    refine r_aload_n rfl rfl ?_
                    refine r_iload_n rfl rfl ?_
                    refine r_callV1 rfl rfl (by first | assumption | exact hs.o rfl) rfl (k_putSign (by omega) hs h2 (by obtain ⟨g1, g2, g3⟩ := dValue_ok t _ _ _ _ _ e2; have hp2 := h2.2.1; simp at hl; simp only [List.length_append, List.length_map]; omega) (fun f3 hf3 h3 => ?_))
                    refine r_iinc (L' := [_, _, _, _, _]) rfl rfl rfl ?_
                    refine r_goto rfl ?_
                    rw [sR_mul (k := k) (k' := k' + 1) (o := 3) (n := n) (by rw [hop.2.2]; decide), e2, bnd_inr, hop.2.2] at K
                    have K2 := K.addL
                    rw [List.map_append, ← List.append_assoc] at K2
                    rw [h73] at h3
                    obtain ⟨g1, g2, g3⟩ := dValue_ok t _ _ _ _ _ e2
                    have hsg := sk_ge t (p + 1)
                    have hp2 := h2.2.1
                    exact l_sumC hd1 hs hT p2 n2 3 k (k' + 1) (j + 1) _ f3 _ _ (dv 3) rfl (by omega) (by omega) (by omega) (by omega) (by simp only [List.length_append, List.length_map, List.length_cons, List.length_nil, show ¬ ((3 : Nat) = 0) by decide, if_false] at g1 hl ⊢; omega) h3 (((hf.r hf1).trans hf2).trans hf3) K2
                  · refine r_iload rfl rfl ?_
                    refine r_if_n rfl (by decide) ?_
                    refine r_aload_n rfl rfl ?_
                    refine r_iload_n rfl rfl ?_
                    refine r_callV1 rfl rfl (by first | assumption | exact hs.o rfl) rfl (k_putSignF (by omega) hs hB (fun f3 hf3 hB3 => ?_))
                    refine r_iinc (L' := [_, _, _, _, _]) rfl rfl rfl ?_
                    refine r_goto rfl ?_
                    rw [sR_mul (k := k) (k' := k' + 1) (o := 3) (n := n) (by rw [hop.2.2]; decide), he2, bnd_inl] at K
                    exact l_sumF (by omega) hs hB3 (((hf.r hf1).trans hf2).trans hf3) (by decide) (by omega) (fun f' hf' h' => K.2 e2 rfl f' hf' h')
                · refine r_goto rfl ?_
                  have hno := op_no (t := t) (p := p) (Or.inr ⟨h37, h43, h61, h67, h73⟩)
                  rw [sR_end hno.1 hno.2] at K
                  exact l_sumE (by omega) hs (by omega) h (by simp at hl ⊢; omega) hf rfl (fun f' hf' h' => K.1 _ _ _ rfl f' hf' h')
          · refine r_iconst rfl ?_
            refine r_goto rfl ?_
            refine r_istore (L' := [_, _, _, _, _]) rfl rfl rfl ?_
            refine r_iload rfl rfl ?_
            refine r_if_y rfl (by decide) ?_
            refine r_aload_n rfl rfl ?_
            refine r_getR rfl (by first | assumption | exact hs.o rfl) (by first | assumption | exact hs.g rfl) ?_
            have hop := op_45 h23 hT h43
            have hsk := sk_le (t := t) (p := p + 1) (by omega)
            have hsg0 := sk_ge t (p + 1)
            refine r_callV0 rfl rfl (by first | assumption | exact hs.o rfl) rfl (k_next (q := p + 1) (by omega) hs.r19 hT h.1.1 h.1.2.1 (h.1.2.2.2.1.trans (by rw [hop.1])) (by omega) (fun f1 hf1 h1 => ?_))
            refine r_iload rfl rfl ?_
            refine r_if_n rfl (by decide) ?_
            refine r_iload_n rfl rfl ?_
            refine r_iconst rfl ?_
            refine r_icmp_n rfl (by decide) ?_
            refine r_aload_n rfl rfl ?_
            refine r_iload_n rfl rfl ?_
            refine r_callV1 rfl rfl (by first | assumption | exact hs.o rfl) rfl (k_putSign (by omega) hs (h.to hf1 h1 hsk) (by simp at hl ⊢; omega) (fun f1p hfp h1p => ?_))
            refine r_iload rfl rfl ?_
            refine r_if_n rfl (by decide) ?_
            refine r_iload_n rfl rfl ?_
            refine r_goto rfl ?_
            refine r_istore_n (L' := [_, _, _, _, _]) rfl rfl rfl ?_
            refine r_aload_n rfl rfl ?_
            refine r_callV0 rfl rfl (by first | assumption | exact hs.o rfl) rfl (k_readValue (by omega) hs hT h1p (by simp at hl ⊢; omega) ⟨fun p2 n2 m2 e2 f2 hf2 h2 => ?_, fun e2 he2 f2 hf2 hB => ?_⟩)
            · refine r_iload rfl rfl ?_
              refine r_if_y rfl (by decide) ?_
              refine r_iinc (L' := [_, _, _, _, _]) rfl rfl rfl ?_
              refine r_goto rfl ?_
              rw [sR_add (k := k) (k' := k') (o := 3) (n := n) hop.2.2.2 (by rw [hop.2.2.1]; decide), e2, bnd_inr, hop.2.2.1] at K
              have K2 := K.addL
              rw [List.map_append, ← List.append_assoc] at K2
              rw [show (oL 3).map tcode = [100010 + dv 3] from rfl] at K2
              obtain ⟨g1, g2, g3⟩ := dValue_ok t _ _ _ _ _ e2
              have hsg := sk_ge t (p + 1)
              have hp2 := h2.2.1
              exact l_sumC hd1 hs hT p2 n2 3 401 k' (j + 1) _ f2 _ _ (sv t p) (by rw [h43]; rfl) (by omega) (by omega) (by omega) (by omega) (by rw [if_neg (by decide)]; simp at hl; simp only [List.length_append, List.length_map, List.length_cons, List.length_nil] at g1 ⊢; omega) h2 (((hf.r hf1).trans hfp).trans hf2) K2
            · refine r_iload rfl rfl ?_
              refine r_if_y rfl (by decide) ?_
              refine r_iinc (L' := [_, _, _, _, _]) rfl rfl rfl ?_
              refine r_goto rfl ?_
              rw [sR_add (k := k) (k' := k') (o := 3) (n := n) hop.2.2.2 (by rw [hop.2.2.1]; decide), he2, bnd_inl] at K
              exact l_sumF (by omega) hs hB (((hf.r hf1).trans hfp).trans hf2) (by rw [h43]; omega) (by omega) (fun f' hf' h' => K.2 e2 rfl f' hf' h')
termination_by t.2 - p
theorem k_readSum (hd : 7 ≤ d) (hs : Sh σ g) (hT : TxOk t) (h : RG f t p n l) (hl : l.length ≤ p) (K : CK Q σ g f t l (dSum t p n)) : ZCt d 36 [zr (some 18)] σ f g Q := by
  refine ZCt.of' (L0 := [_, _, _, _, _]) (by omega) rfl rfl rfl (fun d hd1 => ?_)
  have hT1 := hT.1
  have hp := h.2.1
  refine r_iconst rfl ?_
  refine r_istore_n (L' := [_, _, _, _, _]) rfl rfl rfl ?_
  refine r_aload_n rfl rfl ?_
  refine r_callV0 rfl rfl (by first | assumption | exact hs.o rfl) rfl (k_readValue (by omega) hs hT h hl ⟨fun p2 n2 m2 e2 f2 hf2 h2 => ?_, fun e2 he2 f2 hf2 hB => ?_⟩)
  · refine r_iconst rfl ?_
    refine r_istore_n (L' := [_, _, _, _, _]) rfl rfl rfl ?_
    rw [dSum_sR, e2, bnd_inr] at K
    obtain ⟨g1, g2, g3⟩ := dValue_ok t _ _ _ _ _ e2
    have hp2 := h2.2.1
    exact l_sumC (by omega) hs hT p2 n2 0 401 401 0 _ f2 _ _ (-1) rfl (by omega) (by omega) (by omega) (by omega) (by rw [if_pos rfl]; simp only [List.length_append, List.length_map] at g1 ⊢; omega) h2 hf2 K.addL
  · refine r_iconst rfl ?_
    refine r_istore_n (L' := [_, _, _, _, _]) rfl rfl rfl ?_
    rw [dSum_sR, he2, bnd_inl] at K
    exact l_sumF (by omega) hs hB hf2 (by omega) (by omega) (fun f' hf' h' => K.2 e2 rfl f' hf' h')
theorem k_readSumF (hd : 4 ≤ d) (hs : Sh σ g) (hB : RB f e) (K : ∀ f', FrU f f' → RB f' e → Q none σ f' g) : ZCt d 36 [zr (some 18)] σ f g Q := by
  refine ZCt.of' (L0 := [_, _, _, _, _]) (by omega) rfl rfl rfl (fun d hd1 => ?_)
  refine r_iconst rfl ?_
  refine r_istore_n (L' := [_, _, _, _, _]) rfl rfl rfl ?_
  refine r_aload_n rfl rfl ?_
  refine r_callV0 rfl rfl (by first | assumption | exact hs.o rfl) rfl (k_readValueF (by omega) hs hB ?_)
  refine r_iconst rfl ?_
  refine r_istore_n (L' := [_, _, _, _, _]) rfl rfl rfl ?_
  exact l_sumF (by omega) hs hB (FrU.rf f) (by omega) (by omega) K
end RULEC
