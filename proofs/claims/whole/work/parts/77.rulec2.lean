/-! The class reads a whole RULE -/
/-- never more than 60 are counted -/
def O60 (n : Nat) (r : PR) : Prop := ∀ p' n' m, r = .inr (p', n', m) → n ≤ 60 → n' ≤ 60
theorem O60.inl {n : Nat} (e : Int) : O60 n (.inl e) := fun _ _ _ h => by cases h
theorem O60.nil (p n : Nat) (l : List Tk) : O60 n (.inr (p, n, l)) := fun p' n' m h => by cases h; exact id
theorem O60.bnd {n : Nat} {r : PR} {k : Nat → Nat → List Tk → PR} (h : O60 n r) (hk : ∀ p1 n1 l1, O60 n1 (k p1 n1 l1)) : O60 n (bnd r k) := by
  intro p' n' m e hn
  rcases r with e0 | ⟨p1, n1, l1⟩
  · cases e
  · exact hk p1 n1 l1 p' n' m e (h p1 n1 l1 rfl hn)
theorem O60.add {n : Nat} {r : PR} {l : List Tk} (h : O60 n r) : O60 n (addL l r) := h.bnd (fun p1 n1 l1 => O60.nil _ _ _)
theorem dValue_60 (t : Tx) (p n : Nat) : O60 n (dValue t p n) := by
  intro p' n' m e hn
  unfold dValue at e
  split at e
  · split at e
    · split at e
      · cases e; omega
      · cases e
    · cases e
  · split at e
    · cases e
    · split at e
      · cases e; omega
      · cases e
theorem dTermR_60 (t : Tx) : ∀ k p n, O60 n (dTermR t k p n) := by
  intro k
  induction k with
  | zero => intro p n; exact O60.inl _
  | succ k ih =>
    intro p n
    unfold dTermR
    split
    · exact O60.nil _ _ _
    · exact (dValue_60 t _ n).bnd (fun p1 n1 l1 => (ih p1 n1).add)
theorem dTerm_60 (t : Tx) (p n : Nat) : O60 n (dTerm t p n) := (dValue_60 t p n).bnd (fun p1 n1 l1 => (dTermR_60 t 401 p1 n1).add)
theorem dSumR_60 (t : Tx) : ∀ k p n, O60 n (dSumR t k p n) := by
  intro k
  induction k with
  | zero => intro p n; exact O60.inl _
  | succ k ih =>
    intro p n
    unfold dSumR
    split
    · exact O60.nil _ _ _
    · exact (dTerm_60 t _ n).bnd (fun p1 n1 l1 => (ih p1 n1).add)
theorem dSum_60 (t : Tx) (p n : Nat) : O60 n (dSum t p n) := (dTerm_60 t p n).bnd (fun p1 n1 l1 => (dSumR_60 t 401 p1 n1).add)
theorem dCmp_60 (t : Tx) (p n : Nat) : O60 n (dCmp t p n) := by
  unfold dCmp
  refine (dSum_60 t p n).bnd (fun p1 n1 l1 => ?_)
  split
  · exact O60.inl _
  · split
    · intro p' n' m e hn
      rename_i hlt
      exact ((dSum_60 t _ (n1 + 1)).bnd (fun p2 n2 l2 => O60.nil _ _ _)) p' n' m e (by omega)
    · exact O60.inl _
theorem dAndR_60 {t : Tx} {F : Nat → Nat → PR} (hF : ∀ p n, O60 n (F p n)) : ∀ k p n, O60 n (dAndR t F k p n) := by
  intro k
  induction k with
  | zero => intro p n; exact O60.inl _
  | succ k ih =>
    intro p n
    unfold dAndR
    split
    · exact (hF _ n).bnd (fun p1 n1 l1 => (ih p1 n1).add)
    · exact O60.nil _ _ _
theorem dConj_60 {t : Tx} {F : Nat → Nat → PR} (hF : ∀ p n, O60 n (F p n)) (p n : Nat) : O60 n (dConj t F p n) := (hF p n).bnd (fun p1 n1 l1 => (dAndR_60 hF 401 p1 n1).add)
theorem dOrR_60 {t : Tx} {F : Nat → Nat → PR} (hF : ∀ p n, O60 n (F p n)) : ∀ k p n, O60 n (dOrR t F k p n) := by
  intro k
  induction k with
  | zero => intro p n; exact O60.inl _
  | succ k ih =>
    intro p n
    unfold dOrR
    split
    · exact (dConj_60 hF _ n).bnd (fun p1 n1 l1 => (ih p1 n1).add)
    · exact O60.nil _ _ _
theorem dTest_60 {t : Tx} {F : Nat → Nat → PR} (hF : ∀ p n, O60 n (F p n)) (p n : Nat) : O60 n (dTest t F p n) := (dConj_60 hF p n).bnd (fun p1 n1 l1 => (dOrR_60 hF 401 p1 n1).add)
theorem dFact_60 (t : Tx) : ∀ k p n, O60 n (dFact t k p n) := by
  intro k
  induction k with
  | zero =>
    intro p n
    unfold dFact
    split
    · exact O60.inl _
    · exact dCmp_60 t p n
  | succ k ih =>
    intro p n
    unfold dFact
    split
    · exact (ih _ n).bnd (fun p1 n1 l1 => O60.nil _ _ _)
    · split
      · refine (dTest_60 ih _ n).bnd (fun p1 n1 l1 => ?_)
        split
        · exact O60.nil _ _ _
        · exact O60.inl _
      · exact dCmp_60 t p n
theorem dGo_ok {t : Tx} {c p n p' n' : Nat} {x : List Tk × Option (List Tk)} (h : dGo t c p n = .inr (p', n', x)) (hn : n ≤ 60) : c < 12 ∧ clOk x ∧ n' ≤ 60 := by
  unfold dGo at h
  split at h
  · split at h
    · cases h
    · rename_i hc
      rcases hs : dSum t (sk t (lE t p)) n with e0 | ⟨p1, n1, l1⟩
      · rw [hs] at h; cases h
      · rw [hs] at h
        simp only at h
        obtain ⟨a1, a2, a3⟩ := dSum_ok t _ _ _ _ _ hs
        have a4 := dSum_60 t _ _ _ _ _ hs hn
        split at h
        · rcases hs2 : dTest t (dFact t 10) (sk t (lE t p1)) n1 with e0 | ⟨p2, n2, l2⟩
          · rw [hs2] at h; cases h
          · rw [hs2] at h
            cases h
            obtain ⟨b1, b2, b3⟩ := dTest_ok (t := t) (dFact_ok t 10) _ _ _ _ _ hs2
            have b4 := dTest_60 (t := t) (dFact_60 t 10) _ _ _ _ _ hs2 a4
            exact ⟨by omega, ⟨a3 [], b3 [], by show nvs l1 + nvs l2 ≤ 60; omega⟩, b4⟩
        · cases h
          refine ⟨by omega, ⟨a3 [], ?_⟩, a4⟩
          show nvs l1 ≤ 60
          omega
  · cases h
theorem dRule_ok {t : Tx} : ∀ (k c p n : Nat) (cls : Cls), dRule t k c p n = .inr cls → n ≤ 60 → cls.length + c ≤ 12 ∧ ∀ x ∈ cls, clOk x := by
  intro k
  induction k with
  | zero => intro c p n cls h; cases h
  | succ k ih =>
    intro c p n cls h hn
    unfold dRule at h
    rcases hg : dGo t c p n with e0 | ⟨p1, n1, x⟩
    · rw [hg] at h; cases h
    · rw [hg] at h
      simp only at h
      obtain ⟨g1, g2, g3⟩ := dGo_ok hg hn
      split at h
      · split at h
        · rcases hr : dRule t k (c + 1) (sk t (p1 + 1)) n1 with e0 | r
          · rw [hr] at h; cases h
          · rw [hr] at h
            cases h
            obtain ⟨r1, r2⟩ := ih _ _ _ _ hr g3
            refine ⟨by simp only [List.length_cons]; omega, fun y hy => ?_⟩
            rcases List.mem_cons.1 hy with q | q
            · rw [q]; exact g2
            · exact r2 y q
        · cases h
      · cases h
        refine ⟨by simp only [List.length_cons, List.length_nil]; omega, fun y hy => ?_⟩
        rcases List.mem_cons.1 hy with q | q
        · rw [q]; exact g2
        · cases q
def xCode (x : List Tk × Option (List Tk)) : List Int := match x.2 with
  | none => x.1.map tcode ++ [100069]
  | some l => x.1.map tcode ++ (l.map tcode ++ [100073])
theorem cCodes_cons (x : List Tk × Option (List Tk)) (r : Cls) : cCodes (x :: r) = xCode x ++ cCodes r := by
  obtain ⟨s, o⟩ := x
  cases o with
  | none => simp [cCodes, xCode]
  | some l => simp [cCodes, xCode]
section RULEC2
variable {d : Nat} {σ : ZS} {f : ZF} {g : ZG} {Q : ZQ} {p n : Nat} {t : Tx} {e : Int} {l : List Int} {a : AS} {N : Int}
theorem k_readGo (hd : 6 ≤ d) (hs : Sh σ g) (hT : TxOk t) (h : RG f t p n l) (hl : l.length ≤ p) {c : Nat} (hc : c ≤ 12) (k1 : wIs t p wGo = true → ¬ 12 ≤ c → ∀ f', FrU f f' → RG f' t (sk t (lE t p)) n l → Q none σ f' g) (k2 : ∀ e, (e = err p 0 ∧ ¬ wIs t p wGo = true) ∨ (e = err p 4 ∧ wIs t p wGo = true ∧ 12 ≤ c) → ∀ f', FrU f f' → RB f' e → Q none σ f' g) : ZCt d 35 [zr (some 18), zi (c : Int)] σ f g Q := by
  refine ZCt.of' (L0 := [_, _]) (by omega) rfl rfl rfl (fun d hd1 => ?_)
  refine r_aload_n rfl rfl ?_
  refine r_getR rfl (by first | assumption | exact hs.o rfl) (by first | assumption | exact hs.g rfl) ?_
  refine r_ldcs rfl ?_
  refine r_callV1 rfl rfl (by first | assumption | exact hs.o rfl) rfl (k_word1 (j := 3) (by omega) hs.r19 h.1 hT h.2.1 (by omega) rfl (fun hw => ?_) (fun hw => ?_))
  · refine r_if_y rfl (by decide) ?_
    refine r_iload_n rfl rfl ?_
    refine r_bipush rfl ?_
    refine r_icmp_lt rfl (by omega) (by omega) (fun h26 => ?_) (fun h26 => ?_)
    · refine r_aload_n rfl rfl ?_
      refine r_getR rfl (by first | assumption | exact hs.o rfl) (by first | assumption | exact hs.g rfl) ?_
      refine r_callV0 rfl rfl (by first | assumption | exact hs.o rfl) rfl (k_next (q := lE t p) (by omega) hs.r19 hT h.1.1 h.1.2.1 (h.1.2.2.2.1.trans (by rw [tE_L (wIs_L (by decide) hw)])) (lE_le h.2.1) (fun f1 hf1 h1 => ?_))
      refine r_ret rfl ?_
      exact k1 hw (by omega) f1 ((FrU.rf f).r hf1) (h.to hf1 h1 (sk_le (lE_le h.2.1)))
    · refine r_aload_n rfl rfl ?_
      refine r_getR rfl (by first | assumption | exact hs.o rfl) (by first | assumption | exact hs.g rfl) ?_
      refine r_iconst rfl ?_
      refine r_callV1 rfl rfl (by first | assumption | exact hs.o rfl) rfl (k_refuse (by omega) hs.r19 h.1 (by have := hT.1; have := h.2.1; omega) (by omega) (fun f1 hf1 hF => ?_))
      refine r_aload_n rfl rfl ?_
      refine r_getR rfl (by first | assumption | exact hs.o rfl) (by first | assumption | exact hs.g rfl) ?_
      refine r_callV0 rfl rfl (by first | assumption | exact hs.o rfl) rfl (k_nextF (by omega) hs.r19 hF ?_)
      refine r_ret rfl ?_
      exact k2 _ (Or.inr ⟨rfl, hw, by omega⟩) f1 ((FrU.rf f).r hf1) (h.bad hf1 hF (by have := hT.1; have := h.2.1; omega))
  · refine r_if_n rfl (by decide) ?_
    refine r_aload_n rfl rfl ?_
    refine r_getR rfl (by first | assumption | exact hs.o rfl) (by first | assumption | exact hs.g rfl) ?_
    refine r_iconst rfl ?_
    refine r_callV1 rfl rfl (by first | assumption | exact hs.o rfl) rfl (k_refuse (by omega) hs.r19 h.1 (by have := hT.1; have := h.2.1; omega) (by omega) (fun f1 hf1 hF => ?_))
    refine r_goto rfl ?_
    refine r_aload_n rfl rfl ?_
    refine r_getR rfl (by first | assumption | exact hs.o rfl) (by first | assumption | exact hs.g rfl) ?_
    refine r_callV0 rfl rfl (by first | assumption | exact hs.o rfl) rfl (k_nextF (by omega) hs.r19 hF ?_)
    refine r_ret rfl ?_
    exact k2 _ (Or.inl ⟨rfl, hw⟩) f1 ((FrU.rf f).r hf1) (h.bad hf1 hF (by have := hT.1; have := h.2.1; omega))
theorem k_ruleInit (hd : 1 ≤ d) {q c : Nat} (ho : zO σ q 7) (K : Q none σ f (up2 g q 0 (some c))) : ZCt d 45 [zr (some q), zr (some c)] σ f g Q := by
  refine ZCt.of' (L0 := [_, _]) (by omega) rfl rfl rfl (fun d hd1 => ?_)
  refine r_aload_n rfl rfl ?_
  refine r_obj rfl rfl ?_
  refine r_aload_n rfl rfl ?_
  refine r_aload_n rfl rfl ?_
  refine r_putR rfl ho ?_
  refine r_ret rfl ?_
  exact K
theorem k_copyOf (hd : 2 ≤ d) {c n : Nat} (hc : zA σ c 100 400) (hn : n < 400) (hN : σ.1.1 < 1000000) (K : Q (some (zr (some σ.1.1))) (zNewS σ 100 n) (zcpy (zNewF σ f) c σ.1.1 0 0 n) (zNewG σ g)) : ZCt d 44 [zr (some c), zi (n : Int)] σ f g Q := by
  refine ZCt.of' (L0 := [_, _, _]) (by omega) rfl rfl rfl (fun d hd1 => ?_)
  refine r_iload_n rfl rfl ?_
  refine r_aload_n rfl rfl ?_
  refine r_alen rfl hc (by omega) (by omega) ?_
  refine r_icmp_ne rfl (by omega) (by omega) (fun h3 => ?_) (fun h3 => ?_)
  · refine r_iload_n rfl rfl ?_
    refine r_newa rfl (by omega) hN ?_
    refine r_astore_n (L' := [_, _, _]) rfl rfl rfl ?_
    refine r_aload_n rfl rfl ?_
    refine r_iconst rfl ?_
    refine r_aload_n rfl rfl ?_
    refine r_iconst rfl ?_
    refine r_aload_n rfl rfl ?_
    refine r_alen rfl hc.new (by omega) (by omega) ?_
    refine r_iload_n rfl rfl ?_
    refine r_callS2 rfl rfl rfl (c_min (by omega) (by omega) (by omega) ?_)
    rw [show (if ((400 : Nat) : Int) ≤ (n : Int) then ((400 : Nat) : Int) else (n : Int)) = (n : Int) from if_neg (by omega)]
    refine r_acopy rfl rfl (⟨Nat.lt_succ_self _, if_pos rfl⟩ : zA (zNewS σ 100 n) σ.1.1 100 n) hc.new (by omega) (by omega) (by omega) (Or.inl rfl) ?_
    refine r_aload_n rfl rfl ?_
    refine r_aret rfl ?_
    exact K
  · exfalso; omega
/-- a Rule with these codes was made -/
def RN (σ σ' : ZS) (f f' : ZF) (g g' : ZG) (q c : Nat) (l : List Int) : Prop := Ext σ σ' f f' g g' ∧ zO σ' q 7 ∧ g' q 0 = some c ∧ zA σ' c 100 l.length ∧ At (f' c) 0 l ∧ l.length ≤ 400 ∧ (σ.1.1 ≤ q ∧ σ.1.1 ≤ c) ∧ σ'.1.1 = σ.1.1 + 2 ∧ σ'.1.2 ≤ σ.1.2 + 401
theorem l_ruNew (hd1 : 3 ≤ d) (hs : Sh σ g) (h : RG f t p n l) (hl : l.length < 400) (hN : σ.1.1 < 999990) {x1 x2 x3 : ZV} (K : ∀ σ' f' g' q c, RN σ σ' f f' g g' q c l → Q (some (zr (some q))) σ' f' g') : ZWp d zt34 85 [zr (some 18), x1, x2, x3] [] σ f g Q := by
  have hz := hs.sz
  have hs1 : Sh (zNewS σ 7 1) (zNewG σ g) := hs.new
  refine r_new rfl (by omega) ?_
  refine r_dupr rfl ?_
  refine r_aload_n rfl rfl ?_
  refine r_getR rfl (hs1.o rfl) (hs1.g rfl) ?_
  refine r_aload_n rfl rfl ?_
  refine r_getI rfl (hs1.o rfl) ((zF_new (by omega)).trans h.2.2.2.2.1) ?_
  refine r_callS2 rfl rfl rfl (k_copyOf (n := l.length) (by omega) (hs1.a rfl) hl (by show σ.1.1 + 1 < 1000000; omega) ?_)
  refine r_callI1 rfl rfl (by show σ.1.1 < σ.1.1 + 1 + 1; omega) rfl (k_ruleInit (q := σ.1.1) (c := σ.1.1 + 1) (by omega) (zO.new ⟨Nat.lt_succ_self _, by show (if σ.1.1 = σ.1.1 then (7, 1) else σ.2 σ.1.1).1 = 7; rw [if_pos rfl]⟩) ?_)
  refine r_aret rfl ?_
  refine K _ _ _ σ.1.1 (σ.1.1 + 1) ⟨?_, ?_, ?_, ?_, ?_, by omega, ⟨Nat.le_refl _, Nat.le_succ _⟩, rfl, ?_⟩
  · exact (((Ext.new σ f g 7 1).trans (Ext.new _ _ _ 100 l.length)).cpy (Nat.le_succ _)).upG (Nat.le_refl _)
  · exact zO.new ⟨Nat.lt_succ_self _, by show (if σ.1.1 = σ.1.1 then (7, 1) else σ.2 σ.1.1).1 = 7; rw [if_pos rfl]⟩
  · exact up2_same _ _ _ _
  · exact ⟨Nat.lt_succ_self _, if_pos rfl⟩
  · refine h.2.2.2.2.2.same _ _ (fun j _ hj => ?_)
    show (if σ.1.1 + 1 = σ.1.1 + 1 ∧ 0 ≤ j ∧ j < 0 + l.length then _ else _) = _
    rw [if_pos ⟨rfl, by omega, by omega⟩, show 0 + (j - 0) = j by omega]
    exact (zF_new (σ := zNewS σ 7 1) (by show 21 < σ.1.1 + 1; omega)).trans (zF_new (by omega))
  · show σ.1.2 + 1 + l.length ≤ _
    omega
theorem l_ruF75 (hd1 : 5 ≤ d) (hs : Sh σ g) {f0 : ZF} (h : RB f e) (hf : FrU f0 f) {x1 x2 x3 : ZV} (K : ∀ f', FrU f0 f' → f' 19 2 = e → Q (some (zr none)) σ f' g) : ZWp d zt34 75 [zr (some 18), x1, x2, x3] [] σ f g Q := by
  refine r_aload_n rfl rfl ?_
  refine r_getR rfl (by first | assumption | exact hs.o rfl) (by first | assumption | exact hs.g rfl) ?_
  refine r_getI rfl (by first | assumption | exact hs.o rfl) h.1.2.2 ?_
  refine r_if_y rfl (by decide) ?_
  refine r_aload_n rfl rfl ?_
  refine r_getR rfl (by first | assumption | exact hs.o rfl) (by first | assumption | exact hs.g rfl) ?_
  refine r_bipush rfl ?_
  refine r_callV1 rfl rfl (by first | assumption | exact hs.o rfl) rfl (k_takeSignF (by omega) hs.r19 h.1 ?_)
  refine r_aload_n rfl rfl ?_
  refine r_getR rfl (by first | assumption | exact hs.o rfl) (by first | assumption | exact hs.g rfl) ?_
  refine r_getI rfl (by first | assumption | exact hs.o rfl) h.1.1 ?_
  refine r_if_eq rfl (by have := h.1.2.1; omega) (fun h120 => ?_) (fun h120 => ?_)
  · exact absurd h120 (by have := h.1.2.1; omega)
  · refine r_null rfl ?_
    refine r_aret rfl ?_
    exact K f hf h.1.1
theorem l_ruF36 (hd1 : 5 ≤ d) (hs : Sh σ g) {f0 : ZF} (h : RB f e) (hf : FrU f0 f) {x1 x2 x3 : ZV} (K : ∀ f', FrU f0 f' → f' 19 2 = e → Q (some (zr none)) σ f' g) : ZWp d zt34 36 [zr (some 18), x1, x2, x3] [] σ f g Q := by
  refine r_aload_n rfl rfl ?_
  refine r_getR rfl (by first | assumption | exact hs.o rfl) (by first | assumption | exact hs.g rfl) ?_
  refine r_ldcs rfl ?_
  refine r_callV1 rfl rfl (by first | assumption | exact hs.o rfl) rfl (k_wordOfF (by omega) hs.r19 h.1 ?_)
  refine r_if_y rfl (by decide) ?_
  refine r_aload_n rfl rfl ?_
  refine r_bipush rfl ?_
  refine r_callV1 rfl rfl (by first | assumption | exact hs.o rfl) rfl (k_putSignF (by omega) hs h (fun f1 hf1 h1 => ?_))
  exact l_ruF75 hd1 hs h1 (hf.trans hf1) K
theorem l_rulC (hd1 : 39 ≤ d) (hs : Sh σ g) (hT : TxOk t) (hN : σ.1.1 < 999990) (f0 : ZF) (p n k c : Nat) (l : List Int) (f : ZF) (hk : 13 ≤ k + c) (hc : c ≤ 12) (hl : l.length ≤ p) (h : RG f t p n l) (hf : FrU f0 f) (k1 : ∀ cls, dRule t k c p n = .inr cls → ∀ f1, FrU f0 f1 → ∀ σ' f' g' q u, RN σ σ' f1 f' g g' q u (l ++ cCodes cls) → Q (some (zr (some q))) σ' f' g') (k2 : ∀ e, dRule t k c p n = .inl e → ∀ f', FrU f0 f' → f' 19 2 = e → Q (some (zr none)) σ f' g) : ZWp d zt34 21 [zr (some 18), zr (some 1), zi (t.2 : Int), zi (c : Int)] [] σ f g Q := by
  have hT1 := hT.1
  have hp := h.2.1
  obtain ⟨k, rfl⟩ : ∃ u, k = u + 1 := ⟨k - 1, by omega⟩
  refine r_iload_n rfl rfl ?_
  refine r_bipush rfl ?_
  refine r_icmp_gt rfl (by omega) (by omega) (fun h24 => ?_) (fun h24 => ?_)
  · exfalso; omega
  · refine r_aload_n rfl rfl ?_
    refine r_iload_n rfl rfl ?_
    refine r_callV1 rfl rfl (by first | assumption | exact hs.o rfl) rfl (k_readGo (by omega) hs hT h (by omega) (c := c) hc (fun hw hc12 f1 hf1 h1 => ?_) (fun e1 he1 f1 hf1 hB => ?_))
    · refine r_aload_n rfl rfl ?_
      refine r_callV0 rfl rfl (by first | assumption | exact hs.o rfl) rfl (k_readSum (by omega) hs hT h1 (by have := sk_ge t (lE t p); have := lE_ge t p; omega) ⟨fun p2 n2 m2 e2 f2 hf2 h2 => ?_, fun e2 he2 f2 hf2 hB => ?_⟩)
      · refine r_aload_n rfl rfl ?_
        refine r_getR rfl (by first | assumption | exact hs.o rfl) (by first | assumption | exact hs.g rfl) ?_
        refine r_ldcs rfl ?_
        refine r_callV1 rfl rfl (by first | assumption | exact hs.o rfl) rfl (k_word1 (j := 4) (by omega) hs.r19 h2.1 hT h2.2.1 (by omega) rfl (fun hif => ?_) (fun hif => ?_))
        · refine r_if_n rfl (by decide) ?_
          refine r_aload_n rfl rfl ?_
          refine r_getR rfl (by first | assumption | exact hs.o rfl) (by first | assumption | exact hs.g rfl) ?_
          refine r_callV0 rfl rfl (by first | assumption | exact hs.o rfl) rfl (k_next (q := lE t p2) (by omega) hs.r19 hT h2.1.1 h2.1.2.1 (h2.1.2.2.2.1.trans (by rw [tE_L (wIs_L (by decide) hif)])) (lE_le h2.2.1) (fun fn hfn hn1 => ?_))
          refine r_aload_n rfl rfl ?_
          refine r_iconst rfl ?_
          refine r_callV1 rfl rfl (by first | assumption | exact hs.o rfl) rfl (k_readTest (dd := 38) (by omega) (by omega) hs hT (k_fact hs hT 10 (by omega) 0 (by omega)) (dFact_ok t 10) (h2.to hfn hn1 (sk_le (lE_le h2.2.1))) (by obtain ⟨g1, g2, g3⟩ := dSum_ok t _ _ _ _ _ e2; have := sk_ge t (lE t p2); have := lE_ge t p2; have := sk_ge t (lE t p); have := lE_ge t p; simp only [List.length_append, List.length_map]; omega) ⟨fun p3 n3 m3 e3 f3 hf3 h3 => ?_, fun e3 he3 f3 hf3 hB => ?_⟩)
          · refine r_aload_n rfl rfl ?_
            refine r_bipush rfl ?_
            refine r_callV1 rfl rfl (by first | assumption | exact hs.o rfl) rfl (k_putSign (by omega) hs h3 (by obtain ⟨g1, g2, g3⟩ := dSum_ok t _ _ _ _ _ e2; obtain ⟨g4, g5, g6⟩ := dTest_ok (t := t) (dFact_ok t 10) _ _ _ _ _ e3; have hgo := wIs_len hw; have hgl : wGo.length = 2 := rfl; have hsg := sk_ge t (lE t p); have := sk_ge t (lE t p2); have := lE_ge t p2; have hp3 := h3.2.1; simp only [List.length_append, List.length_map]; omega) (fun f4 hf4 h4 => ?_))
            refine r_goto rfl ?_
            refine r_aload_n rfl rfl ?_
            refine r_getR rfl (by first | assumption | exact hs.o rfl) (by first | assumption | exact hs.g rfl) ?_
            refine r_getI rfl (by first | assumption | exact hs.o rfl) h4.1.2.2.2.2.1 ?_
            refine r_if_ne rfl (by have := kd_rng t p3; omega) (fun h82 => ?_) (fun h82 => ?_)
            · refine r_aload_n rfl rfl ?_
              refine r_getR rfl (by first | assumption | exact hs.o rfl) (by first | assumption | exact hs.g rfl) ?_
              refine r_bipush rfl ?_
              refine r_callV1 rfl rfl (by first | assumption | exact hs.o rfl) rfl (k_takeSign (by omega) hs.r19 h4.1 h4.2.1 hT (by decide) (by omega) (by omega) (by omega) (fun hS f5 hf5 h5 => ?_) (fun hS f5 hf5 hF => ?_))
              · refine r_aload_n rfl rfl ?_
                refine r_getR rfl (by first | assumption | exact hs.o rfl) (by first | assumption | exact hs.g rfl) ?_
                refine r_getI rfl (by first | assumption | exact hs.o rfl) h5.2.1 ?_
                refine r_if_eq rfl (by omega) (fun h120 => ?_) (fun h120 => ?_)
                · refine r_iinc (L' := [_, _, _, _]) rfl rfl rfl ?_
                  refine r_goto rfl ?_
                  obtain ⟨g1, g2, g3⟩ := dSum_ok t _ _ _ _ _ e2
                  have hgo := wIs_len hw
                  have hgl : wGo.length = 2 := rfl
                  have hsg := sk_ge t (lE t p)
                  obtain ⟨g4, g5, g6⟩ := dTest_ok (t := t) (dFact_ok t 10) _ _ _ _ _ e3
                  have hgi := wIs_len hif
                  have hil : wIf.length = 2 := rfl
                  have hsi := sk_ge t (lE t p2)
                  have eGo : dGo t c p n = .inr (p3, n3, m2, some m3) := by
                    unfold dGo
                    rw [if_pos hw, if_neg hc12, e2]
                    simp only
                    rw [if_pos hif, e3]
                  have hgr := sk_ge t (p3 + 1)
                  have hlen := (isS_iff.1 hS).1
                  have eR : dRule t (k + 1) c p n = (match dRule t k (c + 1) (sk t (p3 + 1)) n3 with | .inl e => .inl e | .inr r => .inr ((m2, some m3) :: r)) := by
                    show (match dGo t c p n with | .inl e => _ | .inr (p1, n1, x) => _) = _
                    rw [eGo]
                    show (if p3 < t.2 then _ else _) = _
                    rw [if_pos hlen, if_pos hS]
                    rcases dRule t k (c + 1) (sk t (p3 + 1)) n3 with _ | _ <;> rfl
                  refine l_rulC hd1 hs hT hN f0 (sk t (p3 + 1)) n3 k (c + 1) _ f5 (by omega) (by omega) ?_ (h4.to hf5 h5 (sk_le (by omega))) ((((((hf.trans hf1).trans hf2).r hfn).trans hf3).trans hf4).r hf5) (fun cls hr f1' hf1' σ' f' g' q u hn' => ?_) (fun e' he' f' hf' h9 => ?_)
                  · simp only [List.length_append, List.length_map, List.length_cons, List.length_nil]
                    omega
                  · refine k1 ((m2, some m3) :: cls) (by rw [eR, hr]) f1' hf1' σ' f' g' q u ?_
                    rw [cCodes_cons, ← List.append_assoc, show xCode (m2, some m3) = m2.map tcode ++ (m3.map tcode ++ [100073]) from rfl, ← List.append_assoc, ← List.append_assoc]
                    exact hn'
                  · exact k2 e' (by rw [eR, he']) f' hf' h9
                · exact absurd rfl h120
              · refine r_aload_n rfl rfl ?_
                refine r_getR rfl (by first | assumption | exact hs.o rfl) (by first | assumption | exact hs.g rfl) ?_
                refine r_getI rfl (by first | assumption | exact hs.o rfl) hF.1 ?_
                refine r_if_eq rfl (by have := hF.2.1; omega) (fun h120 => ?_) (fun h120 => ?_)
                · exact absurd h120 (by have := hF.2.1; omega)
                · obtain ⟨g1, g2, g3⟩ := dSum_ok t _ _ _ _ _ e2
                  have hgo := wIs_len hw
                  have hgl : wGo.length = 2 := rfl
                  have hsg := sk_ge t (lE t p)
                  obtain ⟨g4, g5, g6⟩ := dTest_ok (t := t) (dFact_ok t 10) _ _ _ _ _ e3
                  have hgi := wIs_len hif
                  have hil : wIf.length = 2 := rfl
                  have hsi := sk_ge t (lE t p2)
                  have eGo : dGo t c p n = .inr (p3, n3, m2, some m3) := by
                    unfold dGo
                    rw [if_pos hw, if_neg hc12, e2]
                    simp only
                    rw [if_pos hif, e3]
                  refine r_null rfl ?_
                  refine r_aret rfl ?_
                  refine k2 _ ?_ f5 ((((((hf.trans hf1).trans hf2).r hfn).trans hf3).trans hf4).r hf5) hF.1
                  show (match dGo t c p n with | .inl e => _ | .inr (p1, n1, x) => _) = _
                  rw [eGo]
                  show (if p3 < t.2 then _ else _) = _
                  by_cases hlt : p3 < t.2
                  · rw [if_pos hlt, if_neg hS]
                  · exact absurd (kd_0.2 hlt) h82
            · obtain ⟨g1, g2, g3⟩ := dSum_ok t _ _ _ _ _ e2
              have hgo := wIs_len hw
              have hgl : wGo.length = 2 := rfl
              have hsg := sk_ge t (lE t p)
              obtain ⟨g4, g5, g6⟩ := dTest_ok (t := t) (dFact_ok t 10) _ _ _ _ _ e3
              have hgi := wIs_len hif
              have hil : wIf.length = 2 := rfl
              have hsi := sk_ge t (lE t p2)
              have eGo : dGo t c p n = .inr (p3, n3, m2, some m3) := by
                unfold dGo
                rw [if_pos hw, if_neg hc12, e2]
                simp only
                rw [if_pos hif, e3]
              have hp4 := h4.2.1
              have eR : dRule t (k + 1) c p n = .inr [(m2, some m3)] := by
                show (match dGo t c p n with | .inl e => _ | .inr (p1, n1, x) => _) = _
                rw [eGo]
                show (if p3 < t.2 then _ else _) = _
                rw [if_neg (kd_0.1 h82)]
              refine l_ruNew (by omega) hs h4 (by simp only [List.length_append, List.length_map, List.length_cons, List.length_nil]; omega) hN (fun σ' f' g' q u hn' => k1 _ eR _ (((((hf.trans hf1).trans hf2).r hfn).trans hf3).trans hf4) σ' f' g' q u ?_)
              rw [show cCodes [(m2, some m3)] = xCode (m2, some m3) by rw [cCodes_cons]; simp [cCodes], show xCode (m2, some m3) = m2.map tcode ++ (m3.map tcode ++ [100073]) from rfl, ← List.append_assoc, ← List.append_assoc]
              exact hn'
          · refine r_aload_n rfl rfl ?_
            refine r_bipush rfl ?_
            refine r_callV1 rfl rfl (by first | assumption | exact hs.o rfl) rfl (k_putSignF (by omega) hs hB (fun f4 hf4 hB4 => ?_))
            refine r_goto rfl ?_
            refine l_ruF75 (by omega) hs hB4 (((((hf.trans hf1).trans hf2).r hfn).trans hf3).trans hf4) (fun f' hf' h9 => k2 _ ?_ f' hf' h9)
            show (match dGo t c p n with | .inl e => _ | .inr (p1, n1, x) => _) = _
            rw [show dGo t c p n = .inl e3 by
              unfold dGo
              rw [if_pos hw, if_neg hc12, e2]
              simp only
              rw [if_pos hif, he3]]
        · refine r_if_y rfl (by decide) ?_
          refine r_aload_n rfl rfl ?_
          refine r_bipush rfl ?_
          refine r_callV1 rfl rfl (by first | assumption | exact hs.o rfl) rfl (k_putSign (by omega) hs h2 (by obtain ⟨g1, g2, g3⟩ := dSum_ok t _ _ _ _ _ e2; have hgo := wIs_len hw; have hgl : wGo.length = 2 := rfl; have hsg := sk_ge t (lE t p); have hp2 := h2.2.1; simp only [List.length_append, List.length_map]; omega) (fun f4 hf4 h4 => ?_))
          refine r_aload_n rfl rfl ?_
          refine r_getR rfl (by first | assumption | exact hs.o rfl) (by first | assumption | exact hs.g rfl) ?_
          refine r_getI rfl (by first | assumption | exact hs.o rfl) h4.1.2.2.2.2.1 ?_
          refine r_if_ne rfl (by have := kd_rng t p2; omega) (fun h82 => ?_) (fun h82 => ?_)
          · refine r_aload_n rfl rfl ?_
            refine r_getR rfl (by first | assumption | exact hs.o rfl) (by first | assumption | exact hs.g rfl) ?_
            refine r_bipush rfl ?_
            refine r_callV1 rfl rfl (by first | assumption | exact hs.o rfl) rfl (k_takeSign (by omega) hs.r19 h4.1 h4.2.1 hT (by decide) (by omega) (by omega) (by omega) (fun hS f5 hf5 h5 => ?_) (fun hS f5 hf5 hF => ?_))
            · refine r_aload_n rfl rfl ?_
              refine r_getR rfl (by first | assumption | exact hs.o rfl) (by first | assumption | exact hs.g rfl) ?_
              refine r_getI rfl (by first | assumption | exact hs.o rfl) h5.2.1 ?_
              refine r_if_eq rfl (by omega) (fun h120 => ?_) (fun h120 => ?_)
              · refine r_iinc (L' := [_, _, _, _]) rfl rfl rfl ?_
                refine r_goto rfl ?_
                obtain ⟨g1, g2, g3⟩ := dSum_ok t _ _ _ _ _ e2
                have hgo := wIs_len hw
                have hgl : wGo.length = 2 := rfl
                have hsg := sk_ge t (lE t p)
                have eGo : dGo t c p n = .inr (p2, n2, m2, none) := by
                  unfold dGo
                  rw [if_pos hw, if_neg hc12, e2]
                  simp only
                  rw [if_neg hif]
                have hgr := sk_ge t (p2 + 1)
                have hlen := (isS_iff.1 hS).1
                have eR : dRule t (k + 1) c p n = (match dRule t k (c + 1) (sk t (p2 + 1)) n2 with | .inl e => .inl e | .inr r => .inr ((m2, none) :: r)) := by
                  show (match dGo t c p n with | .inl e => _ | .inr (p1, n1, x) => _) = _
                  rw [eGo]
                  show (if p2 < t.2 then _ else _) = _
                  rw [if_pos hlen, if_pos hS]
                  rcases dRule t k (c + 1) (sk t (p2 + 1)) n2 with _ | _ <;> rfl
                refine l_rulC hd1 hs hT hN f0 (sk t (p2 + 1)) n2 k (c + 1) _ f5 (by omega) (by omega) ?_ (h4.to hf5 h5 (sk_le (by omega))) ((((hf.trans hf1).trans hf2).trans hf4).r hf5) (fun cls hr f1' hf1' σ' f' g' q u hn' => ?_) (fun e' he' f' hf' h9 => ?_)
                · simp only [List.length_append, List.length_map, List.length_cons, List.length_nil]
                  omega
                · refine k1 ((m2, none) :: cls) (by rw [eR, hr]) f1' hf1' σ' f' g' q u ?_
                  rw [cCodes_cons, ← List.append_assoc, show xCode (m2, none) = m2.map tcode ++ [100069] from rfl, ← List.append_assoc]
                  exact hn'
                · exact k2 e' (by rw [eR, he']) f' hf' h9
              · exact absurd rfl h120
            · refine r_aload_n rfl rfl ?_
              refine r_getR rfl (by first | assumption | exact hs.o rfl) (by first | assumption | exact hs.g rfl) ?_
              refine r_getI rfl (by first | assumption | exact hs.o rfl) hF.1 ?_
              refine r_if_eq rfl (by have := hF.2.1; omega) (fun h120 => ?_) (fun h120 => ?_)
              · exact absurd h120 (by have := hF.2.1; omega)
              · obtain ⟨g1, g2, g3⟩ := dSum_ok t _ _ _ _ _ e2
                have hgo := wIs_len hw
                have hgl : wGo.length = 2 := rfl
                have hsg := sk_ge t (lE t p)
                have eGo : dGo t c p n = .inr (p2, n2, m2, none) := by
                  unfold dGo
                  rw [if_pos hw, if_neg hc12, e2]
                  simp only
                  rw [if_neg hif]
                refine r_null rfl ?_
                refine r_aret rfl ?_
                refine k2 _ ?_ f5 ((((hf.trans hf1).trans hf2).trans hf4).r hf5) hF.1
                show (match dGo t c p n with | .inl e => _ | .inr (p1, n1, x) => _) = _
                rw [eGo]
                show (if p2 < t.2 then _ else _) = _
                by_cases hlt : p2 < t.2
                · rw [if_pos hlt, if_neg hS]
                · exact absurd (kd_0.2 hlt) h82
          · obtain ⟨g1, g2, g3⟩ := dSum_ok t _ _ _ _ _ e2
            have hgo := wIs_len hw
            have hgl : wGo.length = 2 := rfl
            have hsg := sk_ge t (lE t p)
            have eGo : dGo t c p n = .inr (p2, n2, m2, none) := by
              unfold dGo
              rw [if_pos hw, if_neg hc12, e2]
              simp only
              rw [if_neg hif]
            have hp4 := h4.2.1
            have eR : dRule t (k + 1) c p n = .inr [(m2, none)] := by
              show (match dGo t c p n with | .inl e => _ | .inr (p1, n1, x) => _) = _
              rw [eGo]
              show (if p2 < t.2 then _ else _) = _
              rw [if_neg (kd_0.1 h82)]
            refine l_ruNew (by omega) hs h4 (by simp only [List.length_append, List.length_map, List.length_cons, List.length_nil]; omega) hN (fun σ' f' g' q u hn' => k1 _ eR _ (((hf.trans hf1).trans hf2).trans hf4) σ' f' g' q u ?_)
            rw [show cCodes [(m2, none)] = xCode (m2, none) by rw [cCodes_cons]; simp [cCodes], show xCode (m2, none) = m2.map tcode ++ [100069] from rfl, ← List.append_assoc]
            exact hn'
      · refine l_ruF36 (by omega) hs hB ((hf.trans hf1).trans hf2) (fun f' hf' h9 => k2 _ ?_ f' hf' h9)
        show (match dGo t c p n with | .inl e => _ | .inr (p1, n1, x) => _) = _
        rw [show dGo t c p n = .inl e2 by
          unfold dGo
          rw [if_pos hw, if_neg hc12, he2]]
    · refine r_aload_n rfl rfl ?_
      refine r_callV0 rfl rfl (by first | assumption | exact hs.o rfl) rfl (k_readSumF (by omega) hs hB (fun f2 hf2 hB2 => ?_))
      refine l_ruF36 (by omega) hs hB2 ((hf.trans hf1).trans hf2) (fun f' hf' h9 => k2 _ ?_ f' hf' h9)
      show (match dGo t c p n with | .inl e => _ | .inr (p1, n1, x) => _) = _
      rw [show dGo t c p n = .inl e1 by
        unfold dGo
        rcases he1 with ⟨q1, q2⟩ | ⟨q1, q2, q3⟩
        · rw [if_neg q2, q1]
        · rw [if_pos q2, if_pos q3, q1]]
termination_by k
theorem k_readRule (hd : 40 ≤ d) (hs : Sh σ g) (hT : TxOk t) (hN : σ.1.1 < 999990) (ht : ∀ i, i < t.2 → f 1 i = t.1 i) (hb : ∀ i, i < 400 → -128 ≤ f 1 i ∧ f 1 i ≤ 127) (k1 : ∀ cls, dRule t 13 0 (sk t 0) 0 = .inr cls → ∀ f1, FrU f f1 → ∀ σ' f' g' q u, RN σ σ' f1 f' g g' q u (cCodes cls) → Q (some (zr (some q))) σ' f' g') (k2 : ∀ e, dRule t 13 0 (sk t 0) 0 = .inl e → ∀ f', FrU f f' → f' 19 2 = e → Q (some (zr none)) σ f' g) : ZCt d 34 [zr (some 18), zr (some 1), zi (t.2 : Int)] σ f g Q := by
  refine ZCt.of' (L0 := [_, _, _, _]) (by omega) rfl rfl rfl (fun d hd1 => ?_)
  refine r_aload_n rfl rfl ?_
  refine r_getR rfl (by first | assumption | exact hs.o rfl) (by first | assumption | exact hs.g rfl) ?_
  refine r_aload_n rfl rfl ?_
  refine r_iload_n rfl rfl ?_
  refine r_callV2 rfl rfl (by first | assumption | exact hs.o rfl) rfl (k_begin (by omega) hs hs.r19 (by omega) hT ht hb (fun f1 hf1 h1 => ?_))
  refine r_aload_n rfl rfl ?_
  refine r_iconst rfl ?_
  refine r_putI rfl (by first | assumption | exact hs.o rfl) ?_
  refine r_aload_n rfl rfl ?_
  refine r_iconst rfl ?_
  refine r_putI rfl (by first | assumption | exact hs.o rfl) ?_
  refine r_iconst rfl ?_
  refine r_istore_n (L' := [_, _, _, _]) rfl rfl rfl ?_
  refine l_rulC (l := []) (by omega) hs hT hN f (sk t 0) 0 13 0 (f := up2 (up2 f1 18 2 0) 18 3 0) (by omega) (by omega) (by simp) ⟨h1.fr (by rw [up2_o _ _ (by omega), up2_o _ _ (by omega)]) (by rw [up2_o _ _ (by omega), up2_o _ _ (by omega)]), sk_le (by omega), by simp [up2], by omega, by simp [up2], trivial⟩ (fun c q1 q2 q3 q4 => by rw [up2_o _ _ q1, up2_o _ _ q1]; exact hf1 c q2 q3) (fun cls hr f2 hf2 σ' f' g' q u hn => k1 cls hr f2 hf2 σ' f' g' q u (by rw [List.nil_append] at hn; exact hn)) k2
def aTx (a : AS) : Tx := (a.tp, a.tl)
def sRule (a : AS) : Int × AS := if a.rk < 6 then (match dRule (aTx a) 13 0 (sk (aTx a) 0) 0 with
  | .inl e => (-2 - e, a.sT 0 a.tp)
  | .inr cls => ((a.rk : Int), ruAdd (a.sT 0 a.tp) cls)) else (-1, a)
theorem sRule_inl {e : Int} (h : a.rk < 6) (he : dRule (aTx a) 13 0 (sk (aTx a) 0) 0 = .inl e) : sRule a = (-2 - e, a.sT 0 a.tp) := by
  unfold sRule
  rw [if_pos h, he]
theorem sRule_inr {cls : Cls} (h : a.rk < 6) (he : dRule (aTx a) 13 0 (sk (aTx a) 0) 0 = .inr cls) : sRule a = ((a.rk : Int), ruAdd (a.sT 0 a.tp) cls) := by
  unfold sRule
  rw [if_pos h, he]
theorem CI.tx (hI : CI σ f g a) (hA : AOk N a) : TxOk (aTx a) := ⟨hA.1.1, fun i hi => by
  have h1 := hI.tq i hi
  have h2 := hI.tp i (by have : i < a.tl := hi; have := hA.1.1; omega)
  show -128 ≤ a.tp i ∧ a.tp i ≤ 127
  rw [← h1]
  exact h2⟩
theorem FrU.q {f f' : ZF} (h : FrU f f') : FrQ f f' := fun c q => h c (by omega) (by omega) (by omega) (by omega)
theorem CI.t0 (hI : CI σ f g a) : CI σ (up2 f 0 1 0) g (a.sT 0 a.tp) := hI.c0 ⟨rfl, rfl, rfl, rfl, rfl, Nat.le_refl _⟩ (fun c q1 q2 => up2_o _ _ q1) (up2_ne _ _ (by omega)) (up2_ne _ _ (by omega)) (up2_same _ _ _ _) (by rw [up2_o _ _ (by omega)]; exact hI.tp) (fun i hi => absurd hi (by show ¬ i < 0; omega)) ((up2_ne _ _ (by omega)).trans hI.fo) ((up2_ne _ _ (by omega)).trans hI.x) ((up2_ne _ _ (by omega)).trans hI.uc)
theorem k_rule (hd : 41 ≤ d) (hI : CI σ f g a) (hA : AOk N a) (hN : σ.1.1 < 999990) (K : ∀ σ' f' g', CI σ' f' g' (sRule a).2 → FrK f f' → σ'.1.1 ≤ σ.1.1 + 2 → σ'.1.2 ≤ σ.1.2 + 401 → Q (some (zi (sRule a).1)) σ' f' g') : ZCt d 33 [zr (some 0)] σ f g Q := by
  refine ZCt.of' (L0 := [_, _]) (by omega) rfl rfl rfl (fun d hd1 => ?_)
  have hs := hI.sh
  have hrk := hA.1.2.1
  have hz := hs.sz
  refine r_aload_n rfl rfl ?_
  refine r_getI rfl (by first | assumption | exact hs.o rfl) hI.rk ?_
  refine r_bipush rfl ?_
  refine r_icmp_lt rfl (by omega) (by omega) (fun h6 => ?_) (fun h6 => ?_)
  · refine r_aload_n rfl rfl ?_
    refine r_getR rfl (by first | assumption | exact hs.o rfl) (by first | assumption | exact hs.g rfl) ?_
    refine r_aload_n rfl rfl ?_
    refine r_getR rfl (by first | assumption | exact hs.o rfl) (by first | assumption | exact hs.g rfl) ?_
    refine r_aload_n rfl rfl ?_
    refine r_getI rfl (by first | assumption | exact hs.o rfl) hI.tl ?_
    refine r_callV2 rfl rfl (by first | assumption | exact hs.o rfl) rfl (k_readRule (t := aTx a) (by omega) hs (hI.tx hA) hN hI.tq hI.tp (fun cls hr f1 hf1 σ' f' g' q u hn => ?_) (fun e he f1 hf1 h9 => ?_))
    · have hI2 : CI σ' f' g' a := (hI.fr hf1.q (FrG.rf g)).ext hn.1
      refine r_astore_n (L' := [_, _]) rfl rfl rfl ?_
      refine r_aload_n rfl rfl ?_
      refine r_iconst rfl ?_
      refine r_putI rfl (hs.ext hn.1 |>.o rfl) ?_
      refine r_aload_n rfl rfl ?_
      refine r_ifnonnullS rfl ?_
      refine r_aload_n rfl rfl ?_
      refine r_getR rfl (hs.ext hn.1 |>.o rfl) (hs.ext hn.1 |>.g rfl) ?_
      refine r_aload_n rfl rfl ?_
      refine r_getI rfl (hs.ext hn.1 |>.o rfl) (show _ = (a.rk : Int) from (up2_ne _ _ (by omega)).trans hI2.rk) ?_
      refine r_aload_n rfl rfl ?_
      refine r_aast rfl (hs.ext hn.1 |>.a rfl) (by omega) (by omega) rfl hn.2.1.1 (by rw [hn.2.1.2]) ?_
      refine r_aload_n rfl rfl ?_
      refine r_dupr rfl ?_
      refine r_getI rfl (hs.ext hn.1 |>.o rfl) (show _ = (a.rk : Int) from (up2_ne _ _ (by omega)).trans hI2.rk) ?_
      refine r_iconst rfl ?_
      refine r_iadd rfl ?_
      refine r_putI rfl (hs.ext hn.1 |>.o rfl) ?_
      refine r_aload_n rfl rfl ?_
      refine r_getI rfl (hs.ext hn.1 |>.o rfl) (show _ = (a.rk : Int) + 1 from up2_same _ _ _ _) ?_
      refine r_iconst rfl ?_
      refine r_isub rfl ?_
      refine r_iret rfl ?_
      have hz := hs.sz
      obtain ⟨n1, n2, n3, n4, n5, n6, n7, n8, n9⟩ := hn
      obtain ⟨r1, r2⟩ := dRule_ok _ _ _ _ _ hr (by omega)
      rw [sRule_inr (by omega) hr] at K
      rw [show ((a.rk : Int) + 1 - 1) = (a.rk : Int) by omega]
      refine K σ' _ _ (hI2.t0.rule (cls := cls) (c := u) (by show a.rk < 6; omega) (by omega) ⟨n2, n3, n4, n6, by omega, r2⟩ (by rw [up2_o _ _ (by omega)]; exact n5) (fun k hk => up2_o _ _ hk) (fun i hi => up2_ne _ _ (by omega)) (up2_same _ _ _ _)) (fun c q1 q2 => ?_) (by omega) (by omega)
      rw [up2_o _ _ (by omega), up2_o _ _ (by omega), (n1.2 c (by omega)).2.1]
      exact hf1 c (by omega) (by omega) (by omega) (by omega)
    · refine r_astore_n (L' := [_, _]) rfl rfl rfl ?_
      refine r_aload_n rfl rfl ?_
      refine r_iconst rfl ?_
      refine r_putI rfl (by first | assumption | exact hs.o rfl) ?_
      refine r_aload_n rfl rfl ?_
      refine r_ifnonnullN rfl ?_
      refine r_bipush rfl ?_
      refine r_aload_n rfl rfl ?_
      refine r_getR rfl (by first | assumption | exact hs.o rfl) (by first | assumption | exact hs.g rfl) ?_
      refine r_getR rfl (by first | assumption | exact hs.o rfl) (by first | assumption | exact hs.g rfl) ?_
      refine r_getI rfl (by first | assumption | exact hs.o rfl) (show _ = e from by rw [up2_o _ _ (by omega)]; exact h9) ?_
      refine r_isub rfl ?_
      refine r_iret rfl ?_
      rw [sRule_inl (by omega) he] at K
      exact K σ _ g (hI.fr hf1.q (FrG.rf g)).t0 ((hf1.q.k).up (by omega)) (by omega) (by omega)
  · refine r_iconst rfl ?_
    refine r_iret rfl ?_
    rw [show sRule a = (-1, a) from if_neg (by omega)] at K
    exact K σ f g hI (FrK.rf f) (by omega) (by omega)
end RULEC2
