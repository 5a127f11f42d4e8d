/-! The reference's TESTs: how it goes on behind each FACT -/
section MTEST2
variable {d : Nat} {σ : ZS} {f f0 : ZF} {g : ZG} {Q : ZQ} {p n tx : Nat} {t : Tx} {l : List Int} {S : List Nat}
abbrev QT (d : Nat) (x2 : ZV) (Q : ZQ) : ZQ := fun r σ' f' g' => ZWp (d + 2) zt164 29 [zr (some 219), zi 1, x2] (r.toList ++ []) σ' f' g' Q
abbrev QC (d : Nat) (x2 : ZV) (Q : ZQ) : ZQ := fun r σ' f' g' => ZWp (d + 1) zt168 5 [zr (some 219)] (r.toList ++ []) σ' f' g' (QT d x2 Q)
/-- behind a FACT -/
def RA (d : Nat) (σ : ZS) (g : ZG) (Q : ZQ) (f0 : ZF) (t : Tx) (tx : Nat) (S : List Nat) (p n : Nat) (l : List Int) : Prop := ∀ f x2, TG f0 t tx f S p n l → ZWp d zt169 0 [zr (some 219), zi 3] [] σ f g (QC d x2 Q)
/-- ahead of one -/
def RF (d : Nat) (σ : ZS) (g : ZG) (Q : ZQ) (f0 : ZF) (t : Tx) (tx : Nat) (S : List Nat) (p n : Nat) (l : List Int) : Prop := ∀ f x2 y2, TG f0 t tx f S p n l → ZWp (d + 1) zt165 2 [zr (some 219), zi 1, y2] [] σ f g (fun r σ' f' g' => ZWp (d + 2) zt164 20 [zr (some 219), zi 1, x2] (r.toList ++ []) σ' f' g' Q)
def BQ (σ : ZS) (g : ZG) (Q : ZQ) (f0 : ZF) (tx : Nat) (e : Int) : Prop := ∀ f, FrW tx f0 f → f 219 9 = e → (1 ≤ e ∧ e ≤ 4000) → Q (some (zi 0)) σ f g
theorem c_lay (hd : 2 ≤ d) (hs : Sh σ g) (hT : TxOk t) (htx : tx < 6) {k : Nat} (hk : k ≤ 3) {B : List Nat} (hst : ∀ x, B.head? = some x → str x < k) {X : List Nat} (hX : ∀ x ∈ X, x ≠ 91 ∧ k ≤ str x) (h : TG f0 t tx f (X ++ B) p n l) (K : ∀ f', f' 219 8 = f 219 8 → TG f0 t tx f' B p n (l ++ cdX X) → Q none σ f' g) : ZCt d 169 [zr (some 219), zi (k : Int)] σ f g Q := by
  refine ZCt.of' (L0 := [_, _]) (by omega) rfl rfl rfl (fun d hd1 => ?_)
  exact l_lyX (by omega) hs hT htx hk hst X f l hX h K
theorem wOk_and : wOk wAnd := by
  have h : (∀ i, i < wAnd.length → 1 ≤ wAnd.getD i 0 ∧ wAnd.getD i 0 ≤ 255) ∧ wAnd.length < 8 ∧ 0 < wAnd.length := by decide
  exact h
theorem wOk_or : wOk wOr := by
  have h : (∀ i, i < wOr.length → 1 ≤ wOr.getD i 0 ∧ wOr.getD i 0 ≤ 255) ∧ wOr.length < 8 ∧ 0 < wOr.length := by decide
  exact h
theorem wOk_not : wOk wNot := by
  have h : (∀ i, i < wNot.length → 1 ≤ wNot.getD i 0 ∧ wNot.getD i 0 ≤ 255) ∧ wNot.length < 8 ∧ 0 < wNot.length := by decide
  exact h
theorem ra_not (hd : 1 ≤ d) (hs : Sh σ g) (hT : TxOk t) (htx : tx < 6) (K : RA d σ g Q f0 t tx S p n (l ++ [((11 : Nat) : Int) + 16 * 0])) : RA d σ g Q f0 t tx (11 :: S) p n l := fun f x2 h => l_lyP (k := 3) hd hs hT htx (by omega) (by omega) (by decide) h (fun f' _ h' => K f' x2 h')
theorem rc_29 (hd : 1 ≤ d) (hs : Sh σ g) (hT : TxOk t) (hno : isS t p 93 = true → ¬ 91 ∈ S) (h : TG f0 t tx f S p n l) {x2 : ZV} (K : ∀ f, TG f0 t tx f S p n l → ZWp (d + 2) zt164 29 [zr (some 219), zi 1, x2] [] σ f g Q) : ZWp (d + 1) zt168 5 [zr (some 219)] [] σ f g (QT d x2 Q) := by
  refine r_aload_n rfl rfl ?_
  refine r_callV0 rfl rfl (by first | assumption | exact hs.o rfl) rfl (c_see (by omega) hs hT h.2.1.1 ?_)
  refine r_bipush rfl ?_
  refine r_icmp_ne rfl (by have := ch_rng hT p; omega) (by omega) (fun h11 => ?_) (fun h11 => ?_)
  · refine r_ret rfl ?_
    exact K _ h.now
  · refine r_aload_n rfl rfl ?_
    refine r_callV0 rfl rfl (by first | assumption | exact hs.o rfl) rfl (c_isInside (by omega) hs h.now (fun hin => ?_) (fun hin => ?_))
    · exact absurd hin (hno ((ch_iff hT (by omega)).1 h11))
    · refine r_if_y rfl (by decide) ?_
      refine r_ret rfl ?_
      exact K _ h.now
theorem rc_close (hd : 1 ≤ d) (hs : Sh σ g) (hT : TxOk t) (htx : tx < 6) {X S0 : List Nat} (hX : ∀ x ∈ X, x = 12 ∨ x = 13) (hS : isS t p 93 = true) (h : TG f0 t tx f (X ++ 91 :: S0) p n l) {x2 : ZV} (K : RA d σ g Q f0 t tx S0 (sk t (p + 1)) n (l ++ cdX X)) : ZWp (d + 1) zt168 5 [zr (some 219)] [] σ f g (QT d x2 Q) := by
  have hT1 := hT.1
  refine r_aload_n rfl rfl ?_
  refine r_callV0 rfl rfl (by first | assumption | exact hs.o rfl) rfl (c_see (by omega) hs hT h.2.1.1 ?_)
  refine r_bipush rfl ?_
  refine r_icmp_ne rfl (by have := ch_rng hT p; omega) (by omega) (fun h11 => ?_) (fun h11 => ?_)
  · exact absurd ((ch_iff hT (by omega)).2 hS) h11
  · refine r_aload_n rfl rfl ?_
    refine r_callV0 rfl rfl (by first | assumption | exact hs.o rfl) rfl (c_isInside (by omega) hs h.now (fun hin => ?_) (fun hin => ?_))
    · refine r_if_n rfl (by decide) ?_
      refine r_aload_n rfl rfl ?_
      refine r_iconst rfl ?_
      refine r_callV1 rfl rfl (by first | assumption | exact hs.o rfl) rfl (c_lay (k := 1) (B := 91 :: S0) (by omega) hs hT htx (by omega) (fun x hx => by cases hx; decide) (fun x hx => by rcases hX x hx with r | r <;> subst r <;> decide) h.now (fun f1 h18 h1 => ?_))
      have hlt := (isS_iff.1 hS).1
      have hb := h1.2.2.1
      have hbl : (91 :: S0).length = S0.length + 1 := rfl
      have hbd : dpt (91 :: S0) = 1 + dpt S0 := rfl
      refine r_aload_n rfl rfl ?_
      refine r_dupr rfl ?_
      refine r_getI rfl (by first | assumption | exact hs.o rfl) hb.1 ?_
      refine r_iconst rfl ?_
      refine r_isub rfl ?_
      refine r_putI rfl (by first | assumption | exact hs.o rfl) ?_
      refine r_aload_n rfl rfl ?_
      refine r_dupr rfl ?_
      refine r_getI rfl (by first | assumption | exact hs.o rfl) ((up2_ne _ _ (by omega)).trans hb.2.1) ?_
      refine r_iconst rfl ?_
      refine r_isub rfl ?_
      refine r_putI rfl (by first | assumption | exact hs.o rfl) ?_
      refine r_aload_n rfl rfl ?_
      refine r_dupr rfl ?_
      refine r_getI rfl (by first | assumption | exact hs.o rfl) ((up2_ne _ _ (by omega)).trans ((up2_ne _ _ (by omega)).trans (h18.trans (up2_same _ _ _ _)))) ?_
      refine r_iconst rfl ?_
      refine r_iadd rfl ?_
      refine r_putI rfl (by first | assumption | exact hs.o rfl) ?_
      refine r_aload_n rfl rfl ?_
      refine r_iconst rfl ?_
      have hg3 : TG f0 t tx (up2 (up2 (up2 f1 219 16 (((91 :: S0).length : Int) - 1)) 219 13 ((dpt (91 :: S0) : Int) - 1)) 219 8 ((p + 1 : Nat) : Int)) S0 (sk t (p + 1)) n (l ++ cdX X) := by
        refine ⟨((h1.1.up (by omega)).up (by omega)).up (by omega), ((h1.2.1.o (by omega)).o (by omega)).at (by omega), ⟨?_, ?_, ?_⟩, ?_, fun y hy => h1.2.2.2.2.1 y (List.mem_cons_of_mem _ hy), ?_⟩
        · rw [up2_ne _ _ (by omega), up2_ne _ _ (by omega), up2_same]; omega
        · rw [up2_ne _ _ (by omega), up2_same]; omega
        · rw [up2_o _ _ (by omega), up2_o _ _ (by omega), up2_o _ _ (by omega)]; exact hb.2.2.2
        · have := h1.2.2.2.1; omega
        · have h5 := h1.2.2.2.2.2
          have h6 : pend (91 :: S0) = 0 + pend S0 := rfl
          have h7 := sk_ge t (p + 1)
          omega
      rw [show ((p : Int) + 1) = ((p + 1 : Nat) : Int) by omega]
      refine r_callV1 rfl rfl (by first | assumption | exact hs.o rfl) rfl (ZCt.of (L0 := [_, _]) rfl rfl rfl ?_)
      refine (K _ x2 hg3).imp (fun r σ' f' g' q => ?_)
      exact r_goto rfl q
    · exact absurd (List.mem_append_right _ List.mem_cons_self) hin
theorem rt_12 (hs : Sh σ g) (h : TG f0 t tx f S p n l) {x2 : ZV} (K : RF d σ g Q f0 t tx S p n l) : ZWp (d + 2) zt164 12 [zr (some 219), zi 1, x2] [] σ f g Q := by
  refine r_iload_n rfl rfl ?_
  refine r_if_n rfl (by decide) ?_
  refine r_aload_n rfl rfl ?_
  refine r_callV0 rfl rfl (by first | assumption | exact hs.o rfl) rfl (ZCt.of (L0 := [_, _, _]) rfl rfl rfl ?_)
  refine r_iconst rfl ?_
  refine r_istore_n (L' := [_, _, _]) rfl rfl rfl ?_
  exact K f x2 _ h
theorem pend_app (X B : List Nat) (h : ∀ x ∈ X, x ≠ 91) : pend (X ++ B) = X.length + pend B := by
  induction X with
  | nil => simp
  | cons x X ih =>
    show (if x = 91 then 0 else 1) + pend (X ++ B) = _
    rw [if_neg (h x List.mem_cons_self), ih (fun y hy => h y (List.mem_cons_of_mem _ hy))]
    simp only [List.length_cons]
    omega
theorem rt_and (hd : 2 ≤ d) (hs : Sh σ g) (hT : TxOk t) (htx : tx < 6) {X B : List Nat} (hX : ∀ x ∈ X, x ≠ 91 ∧ 2 ≤ str x) (hB : ∀ x, B.head? = some x → str x < 2) (hBL : B.length < 40) (hw : wIs t p wAnd = true) (h : TG f0 t tx f (X ++ B) p n l) {x2 : ZV} (K : RF d σ g Q f0 t tx (12 :: B) (sk t (lE t p)) n (l ++ cdX X)) : ZWp (d + 2) zt164 29 [zr (some 219), zi 1, x2] [] σ f g Q := by
  have hX9 : ∀ x ∈ X, x ≠ 91 := fun x hx => (hX x hx).1
  refine r_aload_n rfl rfl ?_
  refine r_ldc2 rfl ?_
  refine r_callV1 rfl rfl (by first | assumption | exact hs.o rfl) rfl (c_isWord (wd := wAnd) (by omega) hs hT wOk_and rfl h.2.1.1 (fun ha => ?_) (fun ha => ?_))
  · refine r_if_y rfl (by decide) ?_
    refine r_iconst rfl ?_
    refine r_goto rfl ?_
    refine r_istore_n (L' := [_, _, _]) rfl rfl rfl ?_
    refine r_iload_n rfl rfl ?_
    refine r_if_n rfl (by decide) ?_
    refine r_aload_n rfl rfl ?_
    refine r_ldc2 rfl ?_
    refine r_callV1 rfl rfl (by first | assumption | exact hs.o rfl) rfl (c_isWord (wd := wAnd) (by omega) hs hT wOk_and rfl h.now.2.1.1 (fun ha2 => ?_) (fun ha2 => ?_))
    · refine r_if_n rfl (by decide) ?_
      refine r_bipush rfl ?_
      refine r_goto rfl ?_
      refine r_istore_n (L' := [_, _, _]) rfl rfl rfl ?_
      refine r_aload_n rfl rfl ?_
      simp only [up2_up2]
      have hL := wIs_L (by decide) hw
      have hLg := lE_gt hL
      have hp := h.2.1.1.le
      have hLl := lE_le hp
      refine r_callV0 rfl rfl (by first | assumption | exact hs.o rfl) rfl (c_passWord (q := p) (by omega) hs hT h.now.2.1.1.mx (up2_same _ _ _ _) h.2.1.1.le ?_)
      rw [up2_up2]
      have hg1 := h.at hLl (by omega)
      refine r_aload_n rfl rfl ?_
      refine r_iload_n rfl rfl ?_
      refine r_callS1 rfl rfl rfl (c_strength (x := 12) (by omega) (by omega) ?_)
      refine r_callV1 rfl rfl (by first | assumption | exact hs.o rfl) rfl (c_lay (k := 2) (B := B) (by omega) hs hT htx (by omega) hB hX hg1 (fun f1 h18 h1 => ?_))
      refine r_aload_n rfl rfl ?_
      refine r_getR rfl (by first | assumption | exact hs.o rfl) (by first | assumption | exact hs.g rfl) ?_
      refine r_aload_n rfl rfl ?_
      refine r_getI rfl (by first | assumption | exact hs.o rfl) h1.2.2.1.1 ?_
      refine r_iload_n rfl rfl ?_
      refine r_iastN (B.length) rfl (by first | assumption | exact hs.a rfl) (by omega) (by have := h1.2.2.2.1; omega) (by omega) ?_
      refine r_aload_n rfl rfl ?_
      refine r_dupr rfl ?_
      refine r_getI rfl (by first | assumption | exact hs.o rfl) ((congrFun (up2_o _ _ (by omega)) _).trans h1.2.2.1.1) ?_
      refine r_iconst rfl ?_
      refine r_iadd rfl ?_
      refine r_putI rfl (by first | assumption | exact hs.o rfl) ?_
      refine r_goto rfl ?_
      refine rt_12 hs ?_ K
      obtain ⟨c1, c2, ⟨c3, c4, c5⟩, c6, c7, c8⟩ := h1
      have hgr := h.2.2.2.2.2
      have hsg := sk_ge t (lE t p)
      have hwl := wIs_len hw
      refine ⟨(c1.op).up (by omega), (c2.op).o (by omega), ⟨?_, ?_, ?_⟩, ?_, fun y hy => ?_, ?_⟩
      · rw [up2_same]; simp
      · rw [up2_ne _ _ (by omega), up2_o _ _ (by omega), c4]
        show _ = (((if (12 : Nat) = 11 ∨ (12 : Nat) = 91 then 1 else 0) + dpt B : Nat) : Int)
        rw [if_neg (by decide)]
        omega
      · rw [up2_o _ _ (by omega)]
        exact ⟨up2_same _ _ _ _, c5.same B (fun i hi => up2_ne _ _ (by omega))⟩
      · simp only [List.length_cons]; omega
      · rcases List.mem_cons.1 hy with q | q
        · rw [q]; omega
        · exact c7 y q
      · have hc : (cdX X).length = X.length := by simp [cdX]
        have hpx := pend_app X B hX9
        show (l ++ cdX X).length + (1 + pend B) ≤ _
        rw [List.length_append, hc]
        omega
    · exact absurd hw ha2
  · exact absurd hw ha
theorem rt_or (hd : 2 ≤ d) (hs : Sh σ g) (hT : TxOk t) (htx : tx < 6) {X B : List Nat} (hX : ∀ x ∈ X, x ≠ 91 ∧ 1 ≤ str x) (hB : ∀ x, B.head? = some x → str x < 1) (hBL : B.length < 40) (hw : wIs t p wOr = true) (h : TG f0 t tx f (X ++ B) p n l) {x2 : ZV} (K : RF d σ g Q f0 t tx (13 :: B) (sk t (lE t p)) n (l ++ cdX X)) : ZWp (d + 2) zt164 29 [zr (some 219), zi 1, x2] [] σ f g Q := by
  have hX9 : ∀ x ∈ X, x ≠ 91 := fun x hx => (hX x hx).1
  refine r_aload_n rfl rfl ?_
  refine r_ldc2 rfl ?_
  refine r_callV1 rfl rfl (by first | assumption | exact hs.o rfl) rfl (c_isWord (wd := wAnd) (by omega) hs hT wOk_and rfl h.2.1.1 (fun ha => ?_) (fun ha => ?_))
  · exact absurd hw (and_or ha)
  · refine r_if_n rfl (by decide) ?_
    refine r_aload_n rfl rfl ?_
    refine r_ldc2 rfl ?_
    refine r_callV1 rfl rfl (by first | assumption | exact hs.o rfl) rfl (c_isWord (wd := wOr) (by omega) hs hT wOk_or rfl h.now.2.1.1 (fun hb => ?_) (fun hb => ?_))
    · refine r_if_n rfl (by decide) ?_
      refine r_iconst rfl ?_
      refine r_goto rfl ?_
      refine r_istore_n (L' := [_, _, _]) rfl rfl rfl ?_
      refine r_iload_n rfl rfl ?_
      refine r_if_n rfl (by decide) ?_
      refine r_aload_n rfl rfl ?_
      refine r_ldc2 rfl ?_
      refine r_callV1 rfl rfl (by first | assumption | exact hs.o rfl) rfl (c_isWord (wd := wAnd) (by omega) hs hT wOk_and rfl h.now.now.2.1.1 (fun ha2 => ?_) (fun ha2 => ?_))
      · exact absurd hw (and_or ha2)
      · refine r_if_y rfl (by decide) ?_
        refine r_bipush rfl ?_
        refine r_istore_n (L' := [_, _, _]) rfl rfl rfl ?_
        refine r_aload_n rfl rfl ?_
        simp only [up2_up2]
        have hL := wIs_L (by decide) hw
        have hLg := lE_gt hL
        have hp := h.2.1.1.le
        have hLl := lE_le hp
        refine r_callV0 rfl rfl (by first | assumption | exact hs.o rfl) rfl (c_passWord (q := p) (by omega) hs hT h.now.2.1.1.mx (up2_same _ _ _ _) h.2.1.1.le ?_)
        rw [up2_up2]
        have hg1 := h.at hLl (by omega)
        refine r_aload_n rfl rfl ?_
        refine r_iload_n rfl rfl ?_
        refine r_callS1 rfl rfl rfl (c_strength (x := 13) (by omega) (by omega) ?_)
        refine r_callV1 rfl rfl (by first | assumption | exact hs.o rfl) rfl (c_lay (k := 1) (B := B) (by omega) hs hT htx (by omega) hB hX hg1 (fun f1 h18 h1 => ?_))
        refine r_aload_n rfl rfl ?_
        refine r_getR rfl (by first | assumption | exact hs.o rfl) (by first | assumption | exact hs.g rfl) ?_
        refine r_aload_n rfl rfl ?_
        refine r_getI rfl (by first | assumption | exact hs.o rfl) h1.2.2.1.1 ?_
        refine r_iload_n rfl rfl ?_
        refine r_iastN (B.length) rfl (by first | assumption | exact hs.a rfl) (by omega) (by have := h1.2.2.2.1; omega) (by omega) ?_
        refine r_aload_n rfl rfl ?_
        refine r_dupr rfl ?_
        refine r_getI rfl (by first | assumption | exact hs.o rfl) ((congrFun (up2_o _ _ (by omega)) _).trans h1.2.2.1.1) ?_
        refine r_iconst rfl ?_
        refine r_iadd rfl ?_
        refine r_putI rfl (by first | assumption | exact hs.o rfl) ?_
        refine r_goto rfl ?_
        refine rt_12 hs ?_ K
        obtain ⟨c1, c2, ⟨c3, c4, c5⟩, c6, c7, c8⟩ := h1
        have hgr := h.2.2.2.2.2
        have hsg := sk_ge t (lE t p)
        have hwl := wIs_len hw
        refine ⟨(c1.op).up (by omega), (c2.op).o (by omega), ⟨?_, ?_, ?_⟩, ?_, fun y hy => ?_, ?_⟩
        · rw [up2_same]; simp
        · rw [up2_ne _ _ (by omega), up2_o _ _ (by omega), c4]
          show _ = (((if (13 : Nat) = 11 ∨ (13 : Nat) = 91 then 1 else 0) + dpt B : Nat) : Int)
          rw [if_neg (by decide)]
          omega
        · rw [up2_o _ _ (by omega)]
          exact ⟨up2_same _ _ _ _, c5.same B (fun i hi => up2_ne _ _ (by omega))⟩
        · simp only [List.length_cons]; omega
        · rcases List.mem_cons.1 hy with q | q
          · rw [q]; omega
          · exact c7 y q
        · have hc : (cdX X).length = X.length := by simp [cdX]
          have hpx := pend_app X B hX9
          show (l ++ cdX X).length + (1 + pend B) ≤ _
          rw [List.length_append, hc]
          omega
    · exact absurd hw hb
theorem rt_end (hd : 2 ≤ d) (hs : Sh σ g) (hT : TxOk t) (htx : tx < 6) {X : List Nat} (hXS : ¬ 91 ∈ S → S = X) (hX : ∀ x ∈ X, x ≠ 91 ∧ 1 ≤ str x) (hna : ¬ wIs t p wAnd = true) (hno : ¬ wIs t p wOr = true) (h : TG f0 t tx f S p n l) {x2 : ZV} (k1 : 91 ∈ S → BQ σ g Q f0 tx (err p 0)) (k2 : ¬ 91 ∈ S → ∀ f', TG f0 t tx f' [] p n (l ++ cdX X) → Q (some (zi 1)) σ f' g) : ZWp (d + 2) zt164 29 [zr (some 219), zi 1, x2] [] σ f g Q := by
  refine r_aload_n rfl rfl ?_
  refine r_ldc2 rfl ?_
  refine r_callV1 rfl rfl (by first | assumption | exact hs.o rfl) rfl (c_isWord (wd := wAnd) (by omega) hs hT wOk_and rfl h.2.1.1 (fun ha => ?_) (fun ha => ?_))
  · exact absurd ha hna
  · refine r_if_n rfl (by decide) ?_
    refine r_aload_n rfl rfl ?_
    refine r_ldc2 rfl ?_
    refine r_callV1 rfl rfl (by first | assumption | exact hs.o rfl) rfl (c_isWord (wd := wOr) (by omega) hs hT wOk_or rfl h.now.2.1.1 (fun hb => ?_) (fun hb => ?_))
    · exact absurd hb hno
    · refine r_if_y rfl (by decide) ?_
      refine r_iconst rfl ?_
      refine r_istore_n (L' := [_, _, _]) rfl rfl rfl ?_
      refine r_iload_n rfl rfl ?_
      refine r_if_y rfl (by decide) ?_
      refine r_iload_n rfl rfl ?_
      refine r_if_y rfl (by decide) ?_
      refine r_aload_n rfl rfl ?_
      rw [up2_up2]
      refine r_callV0 rfl rfl (by first | assumption | exact hs.o rfl) rfl (c_isInside (by omega) hs h.now (fun hin => ?_) (fun hin => ?_))
      · refine r_if_n rfl (by decide) ?_
        refine r_aload_n rfl rfl ?_
        refine r_callV0 rfl rfl (by first | assumption | exact hs.o rfl) rfl (c_see (by omega) hs hT h.now.2.1.1 ?_)
        refine r_popi rfl ?_
        refine r_aload_n rfl rfl ?_
        refine r_iconst rfl ?_
        refine r_aload_n rfl rfl ?_
        refine r_getI rfl (by first | assumption | exact hs.o rfl) (up2_same _ _ _ _) ?_
        rw [up2_up2]
        refine r_callV2 rfl rfl (by first | assumption | exact hs.o rfl) rfl (c_fails (p := p) (by omega) hs h.now.2.1.2.1 ?_)
        refine r_zret rfl (by omega) ?_
        exact k1 hin _ (h.now.1.up (by omega)) (up2_same _ _ _ _) (err_rng hT h.2.1.1.le (by omega))
      · refine r_if_y rfl (by decide) ?_
        refine r_aload_n rfl rfl ?_
        refine r_iconst rfl ?_
        refine r_callV1 rfl rfl (by first | assumption | exact hs.o rfl) rfl (c_lay (k := 1) (X := X) (B := []) (by omega) hs hT htx (by omega) (fun x hx => by cases hx) hX (by rw [List.append_nil, ← hXS hin]; exact h.now) (fun f1 h18 h1 => ?_))
        refine r_iconst rfl ?_
        refine r_zret rfl (by omega) ?_
        exact k2 hin f1 h1
theorem rf_not (hd : 2 ≤ d) (hs : Sh σ g) (hT : TxOk t) (htx : tx < 6) (hdp : dpt S ≤ 10) (hSL : S.length < 40) (hw : wIs t p wNot = true) (k1 : dpt S < 10 → RF d σ g Q f0 t tx (11 :: S) (sk t (lE t p)) n l) (k2 : dpt S = 10 → BQ σ g Q f0 tx (err p 2)) : RF d σ g Q f0 t tx S p n l := by
  intro f x2 y2 h
  have hp := h.2.1.1.le
  refine r_iload_n rfl rfl ?_
  refine r_if_n rfl (by decide) ?_
  refine r_iconst rfl ?_
  refine r_istore_n (L' := [_, _, _]) rfl rfl rfl ?_
  refine r_aload_n rfl rfl ?_
  refine r_callV0 rfl rfl (by first | assumption | exact hs.o rfl) rfl (c_see (by omega) hs hT h.2.1.1 ?_)
  refine r_istore_n (L' := [_, _, _]) rfl rfl rfl ?_
  refine r_aload_n rfl rfl ?_
  refine r_ldc2 rfl ?_
  refine r_callV1 rfl rfl (by first | assumption | exact hs.o rfl) rfl (c_isWord (wd := wNot) (by omega) hs hT wOk_not rfl h.now.2.1.1 (fun hn => ?_) (fun hn => ?_))
  · refine r_if_n rfl (by decide) ?_
    refine r_aload_n rfl rfl ?_
    refine r_bipush rfl ?_
    rw [up2_up2]
    refine r_callV1 rfl rfl (by first | assumption | exact hs.o rfl) rfl (c_opens (x := 11) (by omega) hs h.now (up2_same _ _ _ _) (by omega) (by omega) (by omega) (fun hlt f1 h1 h18 => ?_) (fun hten => ?_))
    · refine r_if_y rfl (by decide) ?_
      refine r_aload_n rfl rfl ?_
      refine r_callV0 rfl rfl (by first | assumption | exact hs.o rfl) rfl (c_passWord (q := p) (by omega) hs hT h1.2.1.1.mx h18 hp ?_)
      refine r_iconst rfl ?_
      refine r_istore_n (L' := [_, _, _]) rfl rfl rfl ?_
      refine r_goto rfl ?_
      refine r_goto rfl ?_
      exact k1 hlt _ x2 _ (h1.at (lE_le hp) (lE_gt (wIs_L (by decide) hw)))
    · refine r_if_n rfl (by decide) ?_
      refine r_iconst rfl ?_
      refine r_zret rfl (by omega) ?_
      refine r_if_n rfl (by decide) ?_
      refine r_iconst rfl ?_
      refine r_zret rfl (by omega) ?_
      exact k2 hten _ (h.now.1.up (by omega)) (up2_same _ _ _ _) (err_rng hT hp (by omega))
  · exact absurd hw hn
theorem rf_br (hd : 2 ≤ d) (hs : Sh σ g) (hT : TxOk t) (htx : tx < 6) (hdp : dpt S ≤ 10) (hSL : S.length < 40) (hnn : ¬ wIs t p wNot = true) (hw : isS t p 91 = true) (k1 : dpt S < 10 → RF d σ g Q f0 t tx (91 :: S) (sk t (p + 1)) n l) (k2 : dpt S = 10 → BQ σ g Q f0 tx (err p 2)) : RF d σ g Q f0 t tx S p n l := by
  intro f x2 y2 h
  have hp := h.2.1.1.le
  refine r_iload_n rfl rfl ?_
  refine r_if_n rfl (by decide) ?_
  refine r_iconst rfl ?_
  refine r_istore_n (L' := [_, _, _]) rfl rfl rfl ?_
  refine r_aload_n rfl rfl ?_
  refine r_callV0 rfl rfl (by first | assumption | exact hs.o rfl) rfl (c_see (by omega) hs hT h.2.1.1 ?_)
  refine r_istore_n (L' := [_, _, _]) rfl rfl rfl ?_
  refine r_aload_n rfl rfl ?_
  refine r_ldc2 rfl ?_
  refine r_callV1 rfl rfl (by first | assumption | exact hs.o rfl) rfl (c_isWord (wd := wNot) (by omega) hs hT wOk_not rfl h.now.2.1.1 (fun hn => ?_) (fun hn => ?_))
  · exact absurd hn hnn
  · refine r_if_y rfl (by decide) ?_
    refine r_iload_n rfl rfl ?_
    refine r_bipush rfl ?_
    refine r_icmp_ne rfl (by have := ch_rng hT p; omega) (by omega) (fun h46 => ?_) (fun h46 => ?_)
    · exact absurd ((ch_iff hT (by omega)).2 hw) h46
    · refine r_aload_n rfl rfl ?_
      refine r_bipush rfl ?_
      rw [up2_up2]
      have hlt0 := (isS_iff.1 hw).1
      refine r_callV1 rfl rfl (by first | assumption | exact hs.o rfl) rfl (c_opens (x := 91) (by omega) hs h.now (up2_same _ _ _ _) (by omega) (by omega) (by omega) (fun hlt f1 h1 h18 => ?_) (fun hten => ?_))
      · refine r_if_y rfl (by decide) ?_
        refine r_aload_n rfl rfl ?_
        refine r_dupr rfl ?_
        refine r_getI rfl (by first | assumption | exact hs.o rfl) h18 ?_
        refine r_iconst rfl ?_
        refine r_iadd rfl ?_
        refine r_putI rfl (by first | assumption | exact hs.o rfl) ?_
        refine r_iconst rfl ?_
        refine r_istore_n (L' := [_, _, _]) rfl rfl rfl ?_
        refine r_goto rfl ?_
        have hg := h1.at (q := p + 1) (by omega) (by omega)
        exact k1 hlt _ x2 _ hg
      · refine r_if_n rfl (by decide) ?_
        refine r_iconst rfl ?_
        refine r_zret rfl (by omega) ?_
        refine r_if_n rfl (by decide) ?_
        refine r_iconst rfl ?_
        refine r_zret rfl (by omega) ?_
        exact k2 hten _ (h.now.1.up (by omega)) (up2_same _ _ _ _) (err_rng hT hp (by omega))
theorem rf_cmp (hd : 6 ≤ d) (hs : Sh σ g) (hT : TxOk t) (htx : tx < 6) (hnn : ¬ wIs t p wNot = true) (hnb : ¬ isS t p 91 = true) (k1 : ∀ p' n' m, dCmp t p n = .inr (p', n', m) → RA d σ g Q f0 t tx S p' n' (l ++ m.map tsign)) (k2 : ∀ e, dCmp t p n = .inl e → BQ σ g Q f0 tx e) : RF d σ g Q f0 t tx S p n l := by
  intro f x2 y2 h
  refine r_iload_n rfl rfl ?_
  refine r_if_n rfl (by decide) ?_
  refine r_iconst rfl ?_
  refine r_istore_n (L' := [_, _, _]) rfl rfl rfl ?_
  refine r_aload_n rfl rfl ?_
  refine r_callV0 rfl rfl (by first | assumption | exact hs.o rfl) rfl (c_see (by omega) hs hT h.2.1.1 ?_)
  refine r_istore_n (L' := [_, _, _]) rfl rfl rfl ?_
  refine r_aload_n rfl rfl ?_
  refine r_ldc2 rfl ?_
  refine r_callV1 rfl rfl (by first | assumption | exact hs.o rfl) rfl (c_isWord (wd := wNot) (by omega) hs hT wOk_not rfl h.now.2.1.1 (fun hn => ?_) (fun hn => ?_))
  · exact absurd hn hnn
  · refine r_if_y rfl (by decide) ?_
    refine r_iload_n rfl rfl ?_
    refine r_bipush rfl ?_
    refine r_icmp_ne rfl (by have := ch_rng hT p; omega) (by omega) (fun h46 => ?_) (fun h46 => ?_)
    · refine r_goto rfl ?_
      refine r_iload_n rfl rfl ?_
      refine r_if_y rfl (by decide) ?_
      refine r_aload_n rfl rfl ?_
      rw [up2_up2]
      refine r_callV0 rfl rfl (by first | assumption | exact hs.o rfl) rfl (c_compare (by omega) hs hT htx h.now.2.1 (by have := h.2.2.2.2.2; omega) ⟨fun p2 n2 m2 e2 f2 hf2 h2 => ?_, fun e2 he2 f2 hf2 h9 hr9 => ?_⟩)
      · refine r_zret rfl (by omega) ?_
        refine r_if_y rfl (by decide) ?_
        refine r_aload_n rfl rfl ?_
        refine r_callV0 rfl rfl (by first | assumption | exact hs.o rfl) rfl (ZCt.of (L0 := [_]) rfl rfl rfl ?_)
        refine r_aload_n rfl rfl ?_
        refine r_iconst rfl ?_
        refine r_callV1 rfl rfl (by first | assumption | exact hs.o rfl) rfl (ZCt.of (L0 := [_, _]) rfl rfl rfl ?_)
        obtain ⟨g1, g2, g3⟩ := dCmp_ok t _ _ _ _ _ e2
        exact k1 p2 n2 m2 e2 f2 x2 ⟨h.now.1.v hf2, h2, h.now.2.2.1.v hf2, h.2.2.2.1, h.2.2.2.2.1, by have := h.2.2.2.2.2; simp only [List.length_append, List.length_map]; omega⟩
      · refine r_zret rfl (by omega) ?_
        refine r_if_n rfl (by decide) ?_
        refine r_iconst rfl ?_
        refine r_zret rfl (by omega) ?_
        exact k2 e2 he2 f2 (h.now.1.v hf2) h9 hr9
    · exact absurd ((ch_iff hT (by omega)).1 h46) hnb
theorem rf_cmpT (hd : 6 ≤ d) (hs : Sh σ g) (hT : TxOk t) (htx : tx < 6) (hnn : ¬ wIs t p wNot = true) (hnb : ¬ isS t p 91 = true) (k1 : ∀ p' n' m, dCmp t p n = .inr (p', n', m) → p' ≤ t.2 → RA d σ g Q f0 t tx S p' n' (l ++ m.map tsign)) (k2 : ∀ e, dCmp t p n = .inl e → BQ σ g Q f0 tx e) : RF d σ g Q f0 t tx S p n l := rf_cmp hd hs hT htx hnn hnb (fun p' n' m e f x2 h => k1 p' n' m e h.2.1.1.le f x2 h) k2
/-- behind a FACT nothing that turns is due any more -/
theorem ra_of5 (hd : 1 ≤ d) (hs : Sh σ g) (hst : ∀ x, S.head? = some x → str x < 3) (K : ∀ f x2, TG f0 t tx f S p n l → ZWp (d + 1) zt168 5 [zr (some 219)] [] σ f g (QT d x2 Q)) : RA d σ g Q f0 t tx S p n l := fun f x2 h => l_lyE (k := 3) hd hs (by omega) hst h (K f x2 h)
def Xs (b c : Bool) : List Nat := (if c = true then [12] else []) ++ (if b = true then [13] else [])
theorem Xs_op {b c : Bool} : ∀ x ∈ Xs b c, x = 12 ∨ x = 13 := by
  cases b <;> cases c <;> simp [Xs]
theorem op_str {X : List Nat} (h : ∀ x ∈ X, x = 12 ∨ x = 13) : ∀ x ∈ X, x ≠ 91 ∧ 1 ≤ str x := fun x hx => by
  rcases h x hx with r | r <;> subst r <;> decide
theorem head_str {X B : List Nat} (hX : ∀ x ∈ X, x = 12 ∨ x = 13) (hB : ∀ x, B.head? = some x → x = 91) : ∀ x, (X ++ B).head? = some x → str x < 3 := fun x hx => by
  cases X with
  | nil => have := hB x hx; subst this; decide
  | cons y X =>
    cases hx
    rcases hX x List.mem_cons_self with r | r <;> subst r <;> decide
/-- how a TEST goes on behind a FACT, over what stands below it -/
theorem l_tl (hd : 6 ≤ d) (hs : Sh σ g) (hT : TxOk t) (htx : tx < 6) {F : Nat → Nat → PR} {B : List Nat} {RE : Nat → Nat → List Int → Prop} (hok : ∀ p n, Ok1 true p n (F p n)) (hB : ∀ x, B.head? = some x → x = 91) (hBL : B.length + 2 ≤ 33)
    (hF : ∀ b c p n l, (b = true ∨ c = true) → (∀ p' n' m, F p n = .inr (p', n', m) → p' ≤ t.2 → RA d σ g Q f0 t tx (Xs b c ++ B) p' n' (l ++ m.map tsign)) → (∀ e, F p n = .inl e → BQ σ g Q f0 tx e) → RF d σ g Q f0 t tx (Xs b c ++ B) p n l)
    (hE : ∀ X p n l, (∀ x ∈ X, x = 12 ∨ x = 13) → ¬ wIs t p wAnd = true → ¬ wIs t p wOr = true → RE p n (l ++ cdX X) → RA d σ g Q f0 t tx (X ++ B) p n l)
    (p n k k' : Nat) (b c : Bool) (l : List Int) (hp : p ≤ t.2) (hk : t.2 < p + k) (hk' : t.2 < p + k') (H1 : ∀ p' n' m, tR t F k k' b p n = .inr (p', n', m) → RE p' n' (l ++ cdX (if c = true then [12] else []) ++ m.map tsign)) (H2 : ∀ e, tR t F k k' b p n = .inl e → BQ σ g Q f0 tx e) : RA d σ g Q f0 t tx (Xs b c ++ B) p n l := by
  obtain ⟨k, rfl⟩ : ∃ u, k = u + 1 := ⟨k - 1, by omega⟩
  obtain ⟨k', rfl⟩ : ∃ u, k' = u + 1 := ⟨k' - 1, by omega⟩
  by_cases ha : wIs t p wAnd = true
  · have hL := wIs_L (by decide) ha
    have hn93 : ¬ isS t p 93 = true := fun q => by have q1 := (isL_iff.1 hL).2; have q2 := (isS_iff.1 q).2; omega
    have hlg := lE_gt hL
    have hsg := sk_ge t (lE t p)
    have hr : RF d σ g Q f0 t tx (Xs b true ++ B) (sk t (lE t p)) n (l ++ cdX (if c = true then [12] else [])) := by
      refine hF b true _ _ _ (Or.inr rfl) (fun p1 n1 m1 e1 hp1 => ?_) (fun e he => H2 e (by rw [tR_and ha, he]; rfl))
      have hgr := (hok _ _ _ _ _ e1).1
      refine l_tl hd hs hT htx hok hB hBL hF hE p1 n1 k (k' + 1) b true _ hp1 (by omega) (by omega) (fun p' n' m em => ?_) (fun e he => H2 e (by rw [tR_and ha, e1, bnd_inr, he]; rfl))
      have := H1 p' n' (m1 ++ [(12, 0)] ++ m) (by rw [tR_and ha, e1, bnd_inr, em]; rfl)
      rw [List.map_append, List.map_append, ← List.append_assoc, ← List.append_assoc] at this
      exact this
    refine ra_of5 (by omega) hs (head_str Xs_op hB) (fun f x2 h => rc_29 (by omega) hs hT (fun q => absurd q hn93) h (fun f1 h1 => ?_))
    refine rt_and (X := if c = true then [12] else []) (B := (if b = true then [13] else []) ++ B) (by omega) hs hT htx (fun x hx => ?_) (fun x hx => ?_) ?_ ha (by rw [← List.append_assoc]; exact h1) hr
    · cases c with
      | false => cases hx
      | true => simp at hx; subst hx; decide
    · cases b with
      | false => have := hB x hx; subst this; decide
      | true => cases hx; decide
    · rw [List.length_append]
      have : (if b = true then [13] else ([] : List Nat)).length ≤ 1 := by cases b <;> decide
      omega
  · by_cases ho : wIs t p wOr = true
    · have hL := wIs_L (by decide) ho
      have hn93 : ¬ isS t p 93 = true := fun q => by have q1 := (isL_iff.1 hL).2; have q2 := (isS_iff.1 q).2; omega
      have hlg := lE_gt hL
      have hsg := sk_ge t (lE t p)
      have hr : RF d σ g Q f0 t tx (Xs true false ++ B) (sk t (lE t p)) n (l ++ cdX (Xs b c)) := by
        refine hF true false _ _ _ (Or.inl rfl) (fun p1 n1 m1 e1 hp1 => ?_) (fun e he => H2 e (by rw [tR_or ha ho, he]; rfl))
        have hgr := (hok _ _ _ _ _ e1).1
        refine l_tl hd hs hT htx hok hB hBL hF hE p1 n1 401 k' true false _ hp1 (by have := hT.1; omega) (by omega) (fun p' n' m em => ?_) (fun e he => H2 e (by rw [tR_or ha ho, e1, bnd_inr, he]; rfl))
        have := H1 p' n' (bL b ++ m1 ++ m) (by rw [tR_or ha ho, e1, bnd_inr, em]; rfl)
        rw [List.map_append, List.map_append, ← List.append_assoc, ← List.append_assoc] at this
        rw [show l ++ cdX (Xs b c) ++ m1.map tsign ++ cdX (if false = true then [12] else []) ++ m.map tsign = l ++ cdX (if c = true then [12] else []) ++ (bL b).map tsign ++ m1.map tsign ++ m.map tsign by cases b <;> cases c <;> simp [Xs, cdX, bL, tsign]]
        exact this
      refine ra_of5 (by omega) hs (head_str Xs_op hB) (fun f x2 h => rc_29 (by omega) hs hT (fun q => absurd q hn93) h (fun f1 h1 => ?_))
      refine rt_or (X := Xs b c) (B := B) (by omega) hs hT htx (op_str Xs_op) (fun x hx => ?_) (by omega) ho h1 hr
      have := hB x hx
      subst this
      decide
    · refine hE (Xs b c) p n l Xs_op ha ho ?_
      have := H1 p n (bL b) (tR_end ha ho)
      rw [show l ++ cdX (Xs b c) = l ++ cdX (if c = true then [12] else []) ++ (bL b).map tsign by cases b <;> cases c <;> simp [Xs, cdX, bL, tsign]]
      exact this
termination_by t.2 - p
/-- a TEST over B -/
theorem rtest (hd : 6 ≤ d) (hs : Sh σ g) (hT : TxOk t) (htx : tx < 6) {F : Nat → Nat → PR} {B : List Nat} {RE : Nat → Nat → List Int → Prop} (hok : ∀ p n, Ok1 true p n (F p n)) (hB : ∀ x, B.head? = some x → x = 91) (hBL : B.length + 2 ≤ 33)
    (hF : ∀ b c p n l, (∀ p' n' m, F p n = .inr (p', n', m) → p' ≤ t.2 → RA d σ g Q f0 t tx (Xs b c ++ B) p' n' (l ++ m.map tsign)) → (∀ e, F p n = .inl e → BQ σ g Q f0 tx e) → RF d σ g Q f0 t tx (Xs b c ++ B) p n l)
    (hE : ∀ X p n l, (∀ x ∈ X, x = 12 ∨ x = 13) → ¬ wIs t p wAnd = true → ¬ wIs t p wOr = true → RE p n (l ++ cdX X) → RA d σ g Q f0 t tx (X ++ B) p n l)
    (H1 : ∀ p' n' m, dTest t F p n = .inr (p', n', m) → RE p' n' (l ++ m.map tsign)) (H2 : ∀ e, dTest t F p n = .inl e → BQ σ g Q f0 tx e) : RF d σ g Q f0 t tx B p n l := by
  have := hF false false p n l (fun p1 n1 m1 e1 hp1 => ?_) (fun e he => H2 e (by rw [dTest_tR, he]; rfl))
  · exact this
  · refine l_tl hd hs hT htx hok hB hBL (fun b c p n l _ => hF b c p n l) hE p1 n1 401 401 false false _ hp1 (by have := hT.1; omega) (by have := hT.1; omega) (fun p' n' m em => ?_) (fun e he => H2 e (by rw [dTest_tR, e1, bnd_inr, he]; rfl))
    have := H1 p' n' (m1 ++ m) (by rw [dTest_tR, e1, bnd_inr, em]; rfl)
    rw [List.map_append, ← List.append_assoc] at this
    rw [show l ++ m1.map tsign ++ cdX (if false = true then [12] else []) ++ m.map tsign = l ++ m1.map tsign ++ m.map tsign by simp [cdX]]
    exact this
theorem dpt_app (X B : List Nat) (h : ∀ x ∈ X, x = 12 ∨ x = 13) : dpt (X ++ B) = dpt B := by
  induction X with
  | nil => rfl
  | cons x X ih =>
    show (if x = 11 ∨ x = 91 then 1 else 0) + dpt (X ++ B) = _
    rw [if_neg (by have := h x List.mem_cons_self; omega), ih (fun y hy => h y (List.mem_cons_of_mem _ hy))]
    omega
theorem Xs_len (b c : Bool) : (Xs b c).length ≤ 2 := by cases b <;> cases c <;> decide
theorem not91 {X : List Nat} (h : ∀ x ∈ X, x = 12 ∨ x = 13) : ¬ 91 ∈ X := fun q => by have := h 91 q; omega
theorem rfact (hd : 6 ≤ d) (hs : Sh σ g) (hT : TxOk t) (htx : tx < 6) : ∀ (k : Nat), k ≤ 10 → ∀ (S : List Nat) (p n : Nat) (l : List Int), dpt S + k = 10 → S.length + 3 * k ≤ 33 → (∀ p' n' m, dFact t k p n = .inr (p', n', m) → p' ≤ t.2 → RA d σ g Q f0 t tx S p' n' (l ++ m.map tsign)) → (∀ e, dFact t k p n = .inl e → BQ σ g Q f0 tx e) → RF d σ g Q f0 t tx S p n l := by
  intro k
  induction k with
  | zero =>
    intro _ S p n l hdp hSL H1 H2
    by_cases hn : wIs t p wNot = true
    · exact rf_not (by omega) hs hT htx (by omega) (by omega) hn (fun q => by omega) (fun _ => H2 _ (if_pos (Or.inl hn)))
    · by_cases hb : isS t p 91 = true
      · exact rf_br (by omega) hs hT htx (by omega) (by omega) hn hb (fun q => by omega) (fun _ => H2 _ (if_pos (Or.inr hb)))
      · have e : dFact t 0 p n = dCmp t p n := if_neg (fun z => by rcases z with z | z; exact hn z; exact hb z)
        rw [e] at H1 H2
        exact rf_cmpT hd hs hT htx hn hb H1 H2
  | succ k ih =>
    intro hk S p n l hdp hSL H1 H2
    by_cases hn : wIs t p wNot = true
    · have e : dFact t (k + 1) p n = _ := if_pos hn
      refine rf_not (by omega) hs hT htx (by omega) (by omega) hn (fun q => ?_) (fun q => by omega)
      refine ih (by omega) (11 :: S) _ _ _ (by show 1 + dpt S + k = 10; omega) (by simp only [List.length_cons]; omega) (fun p' n' m em hp' => ra_not (by omega) hs hT htx ?_) (fun e' he => H2 e' (by rw [e, he]; rfl))
      have := H1 p' n' (m ++ [(11, 0)]) (by rw [e, em]; rfl) hp'
      rw [List.map_append, ← List.append_assoc] at this
      exact this
    · by_cases hb : isS t p 91 = true
      · have e : dFact t (k + 1) p n = _ := (if_neg hn).trans (if_pos hb)
        refine rf_br (by omega) hs hT htx (by omega) (by omega) hn hb (fun q => ?_) (fun q => by omega)
        refine rtest (RE := fun p' n' l' => (isS t p' 93 = true → RA d σ g Q f0 t tx S (sk t (p' + 1)) n' l') ∧ (¬ isS t p' 93 = true → BQ σ g Q f0 tx (err p' 0))) hd hs hT htx (dFact_ok t k) (fun x hx => by cases hx; rfl) (by simp only [List.length_cons]; omega) (fun b c p n l h1 h2 => ih (by omega) _ p n l (by rw [dpt_app _ _ Xs_op]; show 1 + dpt S + k = 10; omega) (by have := Xs_len b c; rw [List.length_append]; simp only [List.length_cons]; omega) h1 h2) (fun X p n l hX hna hno hre => ?_) (fun p' n' m em => ⟨fun q => ?_, fun q => ?_⟩) (fun e' he => H2 e' (by rw [e, he]; rfl))
        · refine ra_of5 (by omega) hs (head_str hX (fun x hx => by cases hx; rfl)) (fun f x2 h => ?_)
          by_cases hc : isS t p 93 = true
          · exact rc_close (by omega) hs hT htx hX hc h (hre.1 hc)
          · exact rc_29 (by omega) hs hT (fun q => absurd q hc) h (fun f1 h1 => rt_end (X := X) (by omega) hs hT htx (fun q => absurd (List.mem_append_right _ List.mem_cons_self) q) (op_str hX) hna hno h1 (fun _ => hre.2 hc) (fun q => absurd (List.mem_append_right _ List.mem_cons_self) q))
        · exact H1 (sk t (p' + 1)) n' m (by rw [e, em, bnd_inr, if_pos q]) (sk_le (by have := (isS_iff.1 q).1; omega))
        · exact H2 (err p' 0) (by rw [e, em, bnd_inr, if_neg q])
      · have e : dFact t (k + 1) p n = dCmp t p n := (if_neg hn).trans (if_neg hb)
        rw [e] at H1 H2
        exact rf_cmpT hd hs hT htx hn hb H1 H2
def WK (Q : ZQ) (σ : ZS) (g : ZG) (f0 : ZF) (t : Tx) (tx : Nat) (l : List Int) (r : PR) : Prop := (∀ p' n' m, r = .inr (p', n', m) → ∀ f', FrW tx f0 f' → MG f' t tx p' n' (l ++ m.map tsign) → Q (some (zi 1)) σ f' g) ∧ (∀ e, r = .inl e → ∀ f', FrW tx f0 f' → f' 219 9 = e → (1 ≤ e ∧ e ≤ 4000) → Q (some (zi 0)) σ f' g)
theorem c_tested (hd : 10 ≤ d) (hs : Sh σ g) (hT : TxOk t) (htx : tx < 6) (h : MG f t tx p n l) (hl : l.length ≤ p) (K : WK Q σ g f t tx l (dTest t (dFact t 10) p n)) : ZCt d 164 [zr (some 219)] σ f g Q := by
  obtain ⟨d, rfl⟩ : ∃ u, d = u + 3 := ⟨d - 3, by omega⟩
  refine ZCt.of (L0 := [_, _, _]) rfl rfl rfl ?_
  refine r_aload_n rfl rfl ?_
  refine r_iconst rfl ?_
  refine r_putI rfl (by first | assumption | exact hs.o rfl) ?_
  refine r_aload_n rfl rfl ?_
  refine r_iconst rfl ?_
  refine r_putI rfl (by first | assumption | exact hs.o rfl) ?_
  refine r_iconst rfl ?_
  refine r_istore_n (L' := [_, _, _]) rfl rfl rfl ?_
  refine rt_12 (d := d) (S := []) (p := p) (n := n) (l := l) hs ⟨((FrW.rf tx f).up (by omega)).up (by omega), (h.o (by omega)).o (by omega), ⟨by rw [up2_ne _ _ (by omega), up2_same]; rfl, by rw [up2_same]; rfl, trivial⟩, by simp, fun x hx => (by cases hx), by show l.length + 0 ≤ p; omega⟩ ?_
  refine rtest (RE := fun p' n' l' => ∀ f', TG f t tx f' [] p' n' l' → Q (some (zi 1)) σ f' g) (by omega) hs hT htx (dFact_ok t 10) (fun x hx => by cases hx) (by simp) (fun b c p n l h1 h2 => rfact (by omega) hs hT htx 10 (by omega) _ p n l (by rw [dpt_app _ _ Xs_op]; rfl) (by have := Xs_len b c; rw [List.length_append]; simp only [List.length_nil]; omega) h1 h2) (fun X p n l hX hna hno hre => ?_) (fun p' n' m em f' h' => K.1 p' n' m em f' h'.1 h'.2.1) (fun e he f' hf' h9 hr => K.2 e he f' hf' h9 hr)
  rw [List.append_nil]
  refine ra_of5 (by omega) hs (fun x hx => ?_) (fun f1 x2 h1 => rc_29 (by omega) hs hT (fun _ => not91 hX) h1 (fun f2 h2 => rt_end (X := X) (by omega) hs hT htx (fun _ => rfl) (op_str hX) hna hno h2 (fun q => absurd q (not91 hX)) (fun _ => hre)))
  have := head_str (B := []) hX (fun x hx => by cases hx) x (by rw [List.append_nil]; exact hx)
  exact this
end MTEST2
