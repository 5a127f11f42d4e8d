/-! The class reads a whole SHOW -/
theorem dShow_ok {t : Tx} : ∀ (k c : Nat) (pl : Pl) (rd : Rd) (p : Nat) (pl' : Pl) (rd' : Rd), dShow t k c pl rd p = .inr (pl', rd') → p ≤ t.2 → SI c pl rd → PlOk pl' ∧ StOk pl' rd' := by
  intro k
  induction k with
  | zero => intro c pl rd p pl' rd' h; cases h
  | succ k ih =>
    intro c pl rd p pl' rd' h hp hS
    unfold dShow at h
    rcases hg : dShC t c pl rd p with e0 | ⟨p1, pl1, rd1⟩
    · rw [hg] at h; cases h
    · rw [hg] at h
      simp only at h
      have hok := dShC_ok hg hp hS
      split at h
      · split at h
        · exact ih (c + 1) pl1 rd1 _ _ _ h (sk_le (by omega)) (Or.inr ⟨by omega, hok⟩)
        · cases h
      · cases h
        exact hok
theorem dShC_lt {t : Tx} {c p : Nat} {pl : Pl} {rd : Rd} {r : Nat × Pl × Rd} (h : dShC t c pl rd p = .inr r) : c < 40 := by
  unfold dShC at h
  split at h
  · cases h
  · split at h
    · cases h
    · omega
section SHOWC2
variable {d : Nat} {σ : ZS} {f : ZF} {g : ZG} {Q : ZQ} {P p : Nat} {t : Tx} {e : Int} {pl : Pl} {rd : Rd} {a : AS} {N : Int}
theorem l_shC (hd1 : 6 ≤ d) (hs : Sh σ g) (hP : 240 ≤ P) (hpO : PO σ g P) (hT : TxOk t) (f0 : ZF) (p k c : Nat) (pl : Pl) (rd : Rd) (f : ZF) (hk : 41 ≤ k + c) (hc : c ≤ 40) (hS : SI c pl rd) (h : SG f t P p pl rd) (hf : FrSh P f0 f) (k1 : ∀ pl' rd', dShow t k c pl rd p = .inr (pl', rd') → ∀ f', FrSh P f0 f' → PC f' P pl' → RC f' (P + 3) rd' → Q (some (zr (some P))) σ f' g) (k2 : ∀ e, dShow t k c pl rd p = .inl e → ∀ f', FrSh P f0 f' → f' 16 2 = e → Q (some (zr none)) σ f' g) : ZWp d zt13 20 [zr (some 15), zr (some 1), zi (t.2 : Int), zr (some P), zi (c : Int)] [] σ f g Q := by
  have hT1 := hT.1
  have hp := h.2.1
  obtain ⟨k, rfl⟩ : ∃ u, k = u + 1 := ⟨k - 1, by omega⟩
  refine r_iload rfl rfl ?_
  refine r_bipush rfl ?_
  refine r_icmp_gt rfl (by omega) (by omega) (fun h24 => ?_) (fun h24 => ?_)
  · exfalso; omega
  · refine r_aload_n rfl rfl ?_
    refine r_aload_n rfl rfl ?_
    refine r_iload rfl rfl ?_
    refine r_callV2 rfl rfl (by first | assumption | exact hs.o rfl) rfl (k_readClause (by omega) hs hP hpO hT h (c := c) hc hS ⟨fun p2 pl2 rd2 n2 f2 hf2 h2 => ?_, fun e2 n2 f2 hf2 hF2 => ?_⟩)
    · refine r_aload_n rfl rfl ?_
      refine r_getR rfl (by first | assumption | exact hs.o rfl) (by first | assumption | exact hs.g rfl) ?_
      refine r_getI rfl (by first | assumption | exact hs.o rfl) h2.1.2.2.2.2.1 ?_
      refine r_if_ne rfl (by have := kd_rng t p2; omega) (fun h41 => ?_) (fun h41 => ?_)
      · refine r_aload_n rfl rfl ?_
        refine r_getR rfl (by first | assumption | exact hs.o rfl) (by first | assumption | exact hs.g rfl) ?_
        refine r_bipush rfl ?_
        refine r_callV1 rfl rfl (by first | assumption | exact hs.o rfl) rfl (k_takeSign (by omega) hs.r16 h2.1 h2.2.1 hT (by decide) (by omega) (by omega) (by omega) (fun hSg f3 hf3 h3 => ?_) (fun hSg f3 hf3 hF3 => ?_))
        · refine r_aload_n rfl rfl ?_
          refine r_getR rfl (by first | assumption | exact hs.o rfl) (by first | assumption | exact hs.g rfl) ?_
          refine r_getI rfl (by first | assumption | exact hs.o rfl) h3.2.1 ?_
          refine r_if_eq rfl (by omega) (fun h62 => ?_) (fun h62 => ?_)
          · refine r_iinc (L' := [_, _, _, _, _]) rfl rfl rfl ?_
            refine r_goto rfl ?_
            have hlt := (isS_iff.1 hSg).1
            have hc40 := dShC_lt n2
            have eR : dShow t (k + 1) c pl rd p = dShow t k (c + 1) pl2 rd2 (sk t (p2 + 1)) := by
              show (match dShC t c pl rd p with | .inl e => _ | .inr (p1, pl1, rd1) => _) = _
              rw [n2]
              show (if p2 < t.2 then _ else _) = _
              rw [if_pos hlt, if_pos hSg]
            rw [eR] at k1 k2
            exact l_shC hd1 hs hP hpO hT f0 (sk t (p2 + 1)) k (c + 1) pl2 rd2 f3 (by omega) (by omega) (Or.inr ⟨by omega, dShC_ok n2 hp hS⟩) (h2.to hP hf3 h3 (sk_le (by omega))) ((hf.trans hf2).r hf3) k1 k2
          · exact absurd rfl h62
        · refine r_aload_n rfl rfl ?_
          refine r_getR rfl (by first | assumption | exact hs.o rfl) (by first | assumption | exact hs.g rfl) ?_
          refine r_getI rfl (by first | assumption | exact hs.o rfl) hF3.1 ?_
          refine r_if_eq rfl (by have := hF3.2.1; omega) (fun h62 => ?_) (fun h62 => ?_)
          · exact absurd h62 (by have := hF3.2.1; omega)
          · refine r_null rfl ?_
            refine r_aret rfl ?_
            refine k2 (err p2 0) ?_ f3 ((hf.trans hf2).r hf3) hF3.1
            show (match dShC t c pl rd p with | .inl e => _ | .inr (p1, pl1, rd1) => _) = _
            rw [n2]
            show (if p2 < t.2 then _ else _) = _
            rw [if_pos (Classical.byContradiction (fun q => h41 (kd_0.2 q))), if_neg hSg]
      · refine r_aload_n rfl rfl ?_
        refine r_aret rfl ?_
        refine k1 pl2 rd2 ?_ f2 (hf.trans hf2) h2.2.2.1 h2.2.2.2
        show (match dShC t c pl rd p with | .inl e => _ | .inr (p1, pl1, rd1) => _) = _
        rw [n2]
        show (if p2 < t.2 then _ else _) = _
        rw [if_neg (kd_0.1 h41)]
    · refine r_aload_n rfl rfl ?_
      refine r_getR rfl (by first | assumption | exact hs.o rfl) (by first | assumption | exact hs.g rfl) ?_
      refine r_getI rfl (by first | assumption | exact hs.o rfl) hF2.2.2 ?_
      refine r_if_y rfl (by decide) ?_
      refine r_aload_n rfl rfl ?_
      refine r_getR rfl (by first | assumption | exact hs.o rfl) (by first | assumption | exact hs.g rfl) ?_
      refine r_bipush rfl ?_
      refine r_callV1 rfl rfl (by first | assumption | exact hs.o rfl) rfl (k_takeSignF (by omega) hs.r16 hF2 ?_)
      refine r_aload_n rfl rfl ?_
      refine r_getR rfl (by first | assumption | exact hs.o rfl) (by first | assumption | exact hs.g rfl) ?_
      refine r_getI rfl (by first | assumption | exact hs.o rfl) hF2.1 ?_
      refine r_if_eq rfl (by have := hF2.2.1; omega) (fun h62 => ?_) (fun h62 => ?_)
      · exact absurd h62 (by have := hF2.2.1; omega)
      · refine r_null rfl ?_
        refine r_aret rfl ?_
        refine k2 e2 ?_ f2 (hf.trans hf2) hF2.1
        show (match dShC t c pl rd p with | .inl e => _ | .inr (p1, pl1, rd1) => _) = _
        rw [n2]
termination_by k
theorem Ext.trans' {σ σ' σ'' : ZS} {f f' f'' : ZF} {g g' g'' : ZG} (h1 : Ext σ σ' f f' g g') (h2 : ExB σ.1.1 σ' σ'' f' f'' g' g'') : Ext σ σ'' f f'' g g'' := ⟨Nat.le_trans h1.1 h2.1, fun k hk => by
  obtain ⟨a1, a2, a3⟩ := h1.2 k hk
  obtain ⟨b1, b2, b3⟩ := h2.2 k hk
  exact ⟨b1.trans a1, b2.trans a2, b3.trans a3⟩⟩
theorem k_readShow (hd : 7 ≤ d) (hs : Sh σ g) (hT : TxOk t) (hN : σ.1.1 < 999970) (ht : ∀ i, i < t.2 → f 1 i = t.1 i) (hb : ∀ i, i < 400 → -128 ≤ f 1 i ∧ f 1 i ≤ 127) (k1 : ∀ pl rd, dShow t 41 0 pl0 rdI (sk t 0) = .inr (pl, rd) → ∀ σ' f1 g', Ext σ σ' f f1 g g' → PO σ' g' σ.1.1 → ∀ f', FrSh σ.1.1 f1 f' → PC f' σ.1.1 pl → RC f' (σ.1.1 + 3) rd → σ'.1.1 = σ.1.1 + 9 → σ'.1.2 = σ.1.2 + 54 → Q (some (zr (some σ.1.1))) σ' f' g') (k2 : ∀ e, dShow t 41 0 pl0 rdI (sk t 0) = .inl e → ∀ σ' f1 g', Ext σ σ' f f1 g g' → ∀ f', FrSh σ.1.1 f1 f' → f' 16 2 = e → σ'.1.1 = σ.1.1 + 9 → σ'.1.2 = σ.1.2 + 54 → Q (some (zr none)) σ' f' g') : ZCt d 13 [zr (some 15), zr (some 1), zi (t.2 : Int)] σ f g Q := by
  refine ZCt.of' (L0 := [_, _, _, _, _]) (by omega) rfl rfl rfl (fun d hd1 => ?_)
  have hz := hs.sz
  refine r_new rfl (by omega) ?_
  refine r_dupr rfl ?_
  refine r_callI0 rfl rfl (by show σ.1.1 < σ.1.1 + 1; omega) rfl (k_planInit (p := σ.1.1) (by omega) (zO_top σ 3 6) rfl (by show σ.1.1 + 1 < 999980; omega) (fun σ1 f1 g1 hx hpO hpc hrc hsz hsl => ?_))
  have he : Ext σ σ1 f f1 g g1 := (Ext.new σ f g 3 6).trans' hx
  have hs1 := hs.ext he
  refine r_astore_n (L' := [_, _, _, _, _]) rfl rfl rfl ?_
  refine r_aload_n rfl rfl ?_
  refine r_getR rfl (hs1.o rfl) (hs1.g rfl) ?_
  refine r_aload_n rfl rfl ?_
  refine r_iload_n rfl rfl ?_
  refine r_callV2 rfl rfl (hs1.o rfl) rfl (k_begin (by omega) hs1 hs1.r16 (by omega) hT (fun i hi => by rw [(he.2 1 (by omega)).2.1]; exact ht i hi) (fun i hi => by rw [(he.2 1 (by omega)).2.1]; exact hb i hi) (fun f2 hf2 h2 => ?_))
  refine r_iconst rfl ?_
  refine r_istore (L' := [_, _, _, _, _]) rfl rfl rfl ?_
  exact l_shC (P := σ.1.1) (by omega) hs1 hz hpO hT f1 (sk t 0) 41 0 pl0 rdI f2 (by omega) (by omega) (Or.inl ⟨rfl, rfl, rfl⟩) ⟨h2, sk_le (by omega), by
    unfold PC at *
    rw [hf2 _ (by omega) (by omega), hf2 _ (by omega) (by omega), hf2 _ (by omega) (by omega)]
    exact hpc, hrc.fr (fun c q1 q2 => hf2 c (by omega) (by omega))⟩ (fun c q1 q2 q3 => hf2 c q1 q2) (fun pl' rd' e f' hf' hpc' hrc' => k1 pl' rd' e σ1 f1 g1 he hpO f' hf' hpc' hrc' (by omega) (by rw [hsl]; show σ.1.2 + 6 + 48 = _; omega)) (fun e he' f' hf' h9 => k2 e he' σ1 f1 g1 he f' hf' h9 (by omega) (by rw [hsl]; show σ.1.2 + 6 + 48 = _; omega))
def showTo (a : AS) (pl : Pl) (rd : Rd) : AS := ((a.sT 0 a.tp).sW (some (pl, rd), rd, 0, a.w.nt)).sU 0 a.us
def sShow (a : AS) : Int × AS := match dShow (aTx a) 41 0 pl0 rdI (sk (aTx a) 0) with
  | .inl e => (-2 - e, a.sT 0 a.tp)
  | .inr (pl, rd) => (pl.2.2.1, showTo a pl rd)
theorem sShow_inl {e : Int} (he : dShow (aTx a) 41 0 pl0 rdI (sk (aTx a) 0) = .inl e) : sShow a = (-2 - e, a.sT 0 a.tp) := by
  unfold sShow
  rw [he]
theorem sShow_inr (he : dShow (aTx a) 41 0 pl0 rdI (sk (aTx a) 0) = .inr (pl, rd)) : sShow a = (pl.2.2.1, showTo a pl rd) := by
  unfold sShow
  rw [he]
theorem CI.shw {f' : ZF} (h : CI σ f g a) (hf : ∀ c, c ≠ 0 → ¬ (3 ≤ c ∧ c ≤ 9) → f' c = f c) (h0 : ∀ i, i ≠ 1 → i ≠ 11 → f' 0 i = f 0 i) (h1 : f' 0 1 = 0) (h11 : f' 0 11 = 0) (h9 : f' 9 0 = 0) (hrc : RC f' 3 rd) (hP : 240 ≤ P) (hpO : PO σ g P) (hpc : PC f' P pl) (hrp : RC f' (P + 3) rd) : CI σ f' (up2 g 0 4 (some P)) (showTo a pl rd) := by
  obtain ⟨k1, k2, k3, k4, k5, k6, k7, k8, k9, k10, ⟨u, k11, k12, k13⟩, k14⟩ := h
  have eg : ∀ b i, b ≠ 0 → up2 g 0 4 (some P) b i = g b i := fun b i hb => up2_ne _ _ (fun z => hb z.1)
  refine ⟨k1.upd (Or.inl ⟨rfl, rfl⟩), h1, by rw [hf 1 (by omega) (by omega)]; exact k3, fun i hi => absurd hi (by show ¬ i < 0; omega), by rw [h0 3 (by omega) (by omega)]; exact k5, fun i hi => ?_, ?_, by rw [h0 6 (by omega) (by omega)]; exact k8, by rw [h0 7 (by omega) (by omega)]; exact k9, h11, ⟨u, k11, by rw [h0 12 (by omega) (by omega)]; exact k12, fun i hi => absurd hi (by show ¬ i < 0; omega)⟩, fun k hk => ?_⟩
  · obtain ⟨q', c', q1, q2, q3, q4⟩ := k6 i hi
    exact ⟨q', c', by rw [eg 2 i (by omega)]; exact q1, q2, q3.frg (fun j => eg _ _ (by omega)), by rw [hf c' (by have := q3.c240; omega) (by have := q3.c240; omega)]; exact q4⟩
  · rw [up2_same]
    exact ⟨⟨P, rfl, hP, hpO.frg (fun i => eg _ _ (by omega)) (fun i => eg _ _ (by omega)), hpc, hrp⟩, hrc, h9, fun i hi => absurd hi (by show ¬ i < 0; omega)⟩
  · have := k14 k hk
    show (match a.im k with
      | none => f' (55 + 11 * k) 0 = 0
      | some (w, fo, x) => f' (55 + 11 * k) 0 = 1 ∧ CW σ f' (up2 g 0 4 (some P)) (up2 g 0 4 (some P) (55 + 11 * k) 1) (56 + 11 * k) (62 + 11 * k) w ∧ f' (55 + 11 * k) 2 = fo ∧ f' (55 + 11 * k) 3 = x)
    cases hi : a.im k with
    | none => rw [hi] at this; simp only at this ⊢; rw [hf _ (by omega) (by omega)]; exact this
    | some x =>
      obtain ⟨w, fo, x⟩ := x
      rw [hi] at this
      obtain ⟨q1, q2, q3, q4⟩ := this
      simp only
      rw [hf (55 + 11 * k) (by omega) (by omega), eg (55 + 11 * k) 1 (by omega)]
      exact ⟨q1, q2.fr (fun c q => hf c (by omega) (by omega)) (fun c i q => eg _ _ (by omega)), q3, q4⟩
/-- a SHOW was read: what stood before stands -/
theorem CI.shx {σ' : ZS} {f1 f' : ZF} {g' : ZG} (hI : CI σ f g a) (he : Ext σ σ' f f1 g g') (hf : FrSh σ.1.1 f1 f') : CI σ' f' g' a := by
  have hz := hI.sh.sz
  have h2 : CI σ (fun c => if c = 16 ∨ c = 17 then f' c else f c) g a := hI.fr (fun c q => if_neg (by omega)) (FrG.rf g)
  refine h2.ext ⟨he.1, fun k hk => ⟨(he.2 k hk).1, ?_, (he.2 k hk).2.2⟩⟩
  by_cases e : k = 16 ∨ k = 17
  · exact (if_pos e).symm
  · refine Eq.trans ?_ (if_neg e).symm
    rw [hf k (by omega) (by omega) (by omega)]
    exact (he.2 k hk).2.1
theorem k_show (hd : 8 ≤ d) (hI : CI σ f g a) (hA : AOk N a) (hN : σ.1.1 < 999970) (K : ∀ σ' f' g', CI σ' f' g' (sShow a).2 → FrK f f' → σ'.1.1 ≤ σ.1.1 + 9 → σ'.1.2 ≤ σ.1.2 + 54 → Q (some (zi (sShow a).1)) σ' f' g') : ZCt d 12 [zr (some 0)] σ f g Q := by
  refine ZCt.of' (L0 := [_, _]) (by omega) rfl rfl rfl (fun d hd1 => ?_)
  have hs := hI.sh
  have hz := hs.sz
  refine r_aload_n rfl rfl ?_
  refine r_getR rfl (by first | assumption | exact hs.o rfl | exact hs'.o rfl) (by first | assumption | exact hs.g rfl | exact hs'.g rfl) ?_
  refine r_aload_n rfl rfl ?_
  refine r_getR rfl (by first | assumption | exact hs.o rfl | exact hs'.o rfl) (by first | assumption | exact hs.g rfl | exact hs'.g rfl) ?_
  refine r_aload_n rfl rfl ?_
  refine r_getI rfl (by first | assumption | exact hs.o rfl | exact hs'.o rfl) hI.tl ?_
  refine r_callV2 rfl rfl (by first | assumption | exact hs.o rfl | exact hs'.o rfl) rfl (k_readShow (t := aTx a) (by omega) hs (hI.tx hA) hN hI.tq hI.tp (fun pl rd hr σ' f1 g' he hpO f' hf' hpc hrc hsz hsl => ?_) (fun e hr σ' f1 g' he f' hf' h9 hsz hsl => ?_))
  · have hI' : CI σ' f' g' a := hI.shx he hf'
    have hs' := hI'.sh
    have hs2 : Sh σ' (up2 g' 0 4 (some σ.1.1)) := hs'.upd (Or.inl ⟨rfl, rfl⟩)
    refine r_astore_n (L' := [_, _]) rfl rfl rfl ?_
    refine r_aload_n rfl rfl ?_
    refine r_iconst rfl ?_
    refine r_putI rfl (by first | assumption | exact hs.o rfl | exact hs'.o rfl) ?_
    refine r_aload_n rfl rfl ?_
    refine r_ifnonnullS rfl ?_
    refine r_aload_n rfl rfl ?_
    refine r_aload_n rfl rfl ?_
    refine r_putR rfl (by first | assumption | exact hs.o rfl | exact hs'.o rfl) ?_
    refine r_aload_n rfl rfl ?_
    refine r_getR rfl (hs2.o rfl) (hs2.g rfl) ?_
    refine r_aload_n rfl rfl ?_
    refine r_getR rfl hpO.1 ((up2_ne _ _ (by omega)).trans hpO.2.2.1.2.2) ?_
    refine r_callV1 rfl rfl (hs2.o rfl) rfl (k_copyFrom (by omega) hs2.r3 (r0 := σ.1.1 + 3) (hpO.2.2.2.frg (fun i => up2_ne _ _ (by omega))) (by omega) (hrc.fr (fun c q1 q2 => up2_o _ _ (by omega))) (fun f3 hf3 hrc3 => ?_))
    refine r_aload_n rfl rfl ?_
    refine r_getR rfl (hs2.o rfl) (hs2.g rfl) ?_
    refine r_iconst rfl ?_
    refine r_putI rfl (hs2.o rfl) ?_
    refine r_aload_n rfl rfl ?_
    refine r_iconst rfl ?_
    refine r_putI rfl (hs2.o rfl) ?_
    refine r_aload_n rfl rfl ?_
    refine r_getI rfl hpO.1 (show _ = pl.2.2.1 from by rw [up2_o _ _ (by omega), up2_o _ _ (by omega), hf3 _ (by omega), up2_o _ _ (by omega)]; exact hpc.2.2.1) ?_
    refine r_iret rfl ?_
    rw [sShow_inr hr] at K
    have ea : ∀ c, c ≠ 0 → c ≠ 9 → up2 (up2 f3 9 0 0) 0 11 0 c = f3 c := fun c q1 q2 => by rw [up2_o _ _ q1, up2_o _ _ q2]
    have eb : ∀ c, c ≠ 0 → ¬ (3 ≤ c ∧ c ≤ 9) → up2 (up2 f3 9 0 0) 0 11 0 c = f' c := fun c q1 q2 => by rw [ea c q1 (by omega), hf3 c (by omega), up2_o _ _ q1]
    refine K σ' _ _ (hI'.shw (P := σ.1.1) (pl := pl) (rd := rd) eb (fun i q1 q2 => ?_) ?_ (up2_same _ _ _ _) ?_ (hrc3.fr (fun c q1 q2 => ea c (by omega) (by omega))) (by omega) hpO ?_ (hrc.fr (fun c q1 q2 => eb c (by omega) (by omega)))) (fun c q1 q2 => ?_) (by omega) (by omega)
    · rw [up2_ne _ _ (by omega), up2_o _ _ (by omega), hf3 0 (by omega), up2_ne _ _ (by omega)]
    · rw [up2_ne _ _ (by omega), up2_o _ _ (by omega), hf3 0 (by omega), up2_same]
    · rw [up2_o _ _ (by omega), up2_same]
    · unfold PC at *
      rw [eb _ (by omega) (by omega), eb _ (by omega) (by omega), eb _ (by omega) (by omega)]
      exact hpc
    · rw [eb c (by omega) (by omega), hf' c (by omega) (by omega) (by omega)]
      exact (he.2 c (by omega)).2.1
  · have hI' : CI σ' f' g' a := hI.shx he hf'
    have hs' := hI'.sh
    refine r_astore_n (L' := [_, _]) rfl rfl rfl ?_
    refine r_aload_n rfl rfl ?_
    refine r_iconst rfl ?_
    refine r_putI rfl (by first | assumption | exact hs.o rfl | exact hs'.o rfl) ?_
    refine r_aload_n rfl rfl ?_
    refine r_ifnonnullN rfl ?_
    refine r_bipush rfl ?_
    refine r_aload_n rfl rfl ?_
    refine r_getR rfl (by first | assumption | exact hs.o rfl | exact hs'.o rfl) (by first | assumption | exact hs.g rfl | exact hs'.g rfl) ?_
    refine r_getR rfl (by first | assumption | exact hs.o rfl | exact hs'.o rfl) (by first | assumption | exact hs.g rfl | exact hs'.g rfl) ?_
    refine r_getI rfl (by first | assumption | exact hs.o rfl | exact hs'.o rfl) (show _ = e from by rw [up2_o _ _ (by omega)]; exact h9) ?_
    refine r_isub rfl ?_
    refine r_iret rfl ?_
    rw [sShow_inl hr] at K
    exact K σ' _ g' hI'.t0 (fun c q1 q2 => by rw [up2_o _ _ (by omega), hf' c (by omega) (by omega) (by omega)]; exact (he.2 c (by omega)).2.1) (by omega) (by omega)
end SHOWC2
