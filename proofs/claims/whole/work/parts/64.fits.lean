/-! Notes, and what fits them -/
abbrev ntBad (w : AW) (n : Nat) (rd : Rd) (i : Nat) : Prop := w.nt 0 i = (n : Int) ∧ rd 0 (w.nt 1 i).toNat ≠ w.nt 2 i
def ntAt (w : AW) (n : Nat) (rd : Rd) : Nat → Bool
  | 0 => true
  | i + 1 => ntAt w n rd i && !decide (ntBad w n rd i)
def fitA (pl : Pl) (al : Rd → Nat → Bool) (w : AW) (rd : Rd) : Nat → Bool
  | 0 => true
  | k + 1 => fitA pl al w rd k && ntAt w k (rIt pl al (-1) k rd) w.ns
def ntL (w : AW) : Nat → Int
  | 0 => -1
  | i + 1 => if ntL w i < w.nt 0 i then w.nt 0 i else ntL w i
section FITS
variable {d : Nat} {σ : ZS} {f f0 f' : ZF} {g g' : ZG} {Q : ZQ} {n m N : Int} {rd rd' : Rd} {r p : Nat} {pl : Pl} {rd0 : Rd} {al : Rd → Nat → Bool} {cl : Int} {a : AS} {w : AW}
theorem ntAt_f {n j k : Nat} (hj : j < k) (h : ntBad w n rd j) : ntAt w n rd k = false := by
  induction k with
  | zero => omega
  | succ k ih =>
    simp only [ntAt]
    by_cases e : j = k
    · subst e; rw [decide_eq_true h]; simp
    · rw [ih (by omega), Bool.false_and]
theorem ntAt_t {n : Nat} : ∀ k, (∀ i, i < k → w.nt 0 i ≠ (n : Int)) → ntAt w n rd k = true := by
  intro k
  induction k with
  | zero => intro _; rfl
  | succ k ih =>
    intro h
    simp only [ntAt]
    rw [ih (fun i hi => h i (by omega)), decide_eq_false (fun q => h k (by omega) q.1)]
    rfl
theorem fitA_f {j k : Nat} (hj : j < k) (h : ntAt w j (rIt pl al (-1) j rd) w.ns = false) : fitA pl al w rd k = false := by
  induction k with
  | zero => omega
  | succ k ih =>
    simp only [fitA]
    by_cases e : j = k
    · subst e; rw [h, Bool.and_false]
    · rw [ih (by omega), Bool.false_and]
theorem ntL_rng (h : NtOk w) : ∀ k, k ≤ w.ns → (-1 ≤ ntL w k ∧ ntL w k ≤ 60) ∧ ∀ i, i < k → w.nt 0 i ≤ ntL w k := by
  intro k
  induction k with
  | zero => intro _; exact ⟨by simp [ntL], fun i hi => by omega⟩
  | succ k ih =>
    intro hk
    have h1 := ih (by omega)
    have h2 := (h.2 k (by omega)).1
    simp only [ntL]
    by_cases q : ntL w k < w.nt 0 k
    · rw [if_pos q]
      refine ⟨by omega, fun i hi => ?_⟩
      by_cases e : i = k
      · subst e; omega
      · have := h1.2 i (by omega); omega
    · rw [if_neg q]
      refine ⟨h1.1, fun i hi => ?_⟩
      by_cases e : i = k
      · subst e; omega
      · exact h1.2 i (by omega)
/-- behind the last note nothing is asked -/
theorem fitA_more (h : NtOk w) : ∀ k : Nat, ntL w w.ns < (k : Int) → ∀ j, k ≤ j → fitA pl al w rd j = fitA pl al w rd k := by
  intro k hk j
  induction j with
  | zero => intro q; rw [show k = 0 by omega]
  | succ j ih =>
    intro q
    by_cases e : k = j + 1
    · rw [e]
    · simp only [fitA]
      rw [ih (by omega), ntAt_t _ (fun i hi => by have := (ntL_rng h w.ns (Nat.le_refl _)).2 i hi; omega), Bool.and_true]
/-- the class's rows of notes -/
def CN (f : ZF) (w : AW) : Prop := f 9 0 = (w.ns : Int) ∧ ∀ i, i < w.ns → f 10 i = w.nt 0 i ∧ f 11 i = w.nt 1 i ∧ f 12 i = w.nt 2 i
theorem CN.fr (h : CN f w) (hf : ∀ c, 9 ≤ c → c ≤ 12 → f' c = f c) : CN f' w := by
  unfold CN
  rw [hf 9 (by omega) (by omega), hf 10 (by omega) (by omega), hf 11 (by omega) (by omega), hf 12 (by omega) (by omega)]
  exact h
theorem l_last (hd1 : 1 ≤ d) (hno : NO σ g 9) (hn : CN f w) (ho : NtOk w) (K : Q (some (zi (ntL w w.ns))) σ f g) (k : Nat) (hk : k ≤ w.ns) : ZWp d zt118 4 [zr (some 9), zi (ntL w k), zi (k : Int)] [] σ f g Q := by
  obtain ⟨no, ⟨na1, na2, na3⟩, ng1, ng2, ng3⟩ := id hno
  have hns := ho.1
  refine r_iload_n rfl rfl ?_
  refine r_aload_n rfl rfl ?_
  refine r_getI rfl (by first | assumption | exact hs.o rfl) hn.1 ?_
  refine r_icmp_ge rfl (by omega) (by omega) (fun hge => ?_) (fun hge => ?_)
  · have e : k = w.ns := by omega
    subst e
    refine r_iload_n rfl rfl ?_
    refine r_iret rfl ?_
    exact K
  · refine r_iload_n rfl rfl ?_
    refine r_aload_n rfl rfl ?_
    refine r_getR rfl (by first | assumption | exact hs.o rfl) (by first | assumption | exact hs.g rfl) ?_
    refine r_iload_n rfl rfl ?_
    have hk2 := hn.2 k (by omega)
    have hok := (ho.2 k (by omega)).1
    have hL := (ntL_rng ho k (by omega)).1
    refine r_iald rfl (by first | assumption | exact hs.a rfl) (by omega) (by omega) ((zix (n := k) (by omega)).trans hk2.1) ?_
    refine r_callS2 rfl rfl rfl (c_max (by omega) (by omega) (by omega) ?_)
    refine r_istore_n (L' := [_, _, _]) rfl rfl rfl ?_
    refine r_iinc (L' := [_, _, _]) rfl rfl rfl ?_
    refine r_goto rfl ?_
    have e1 : (if w.nt 0 k ≤ ntL w k then ntL w k else w.nt 0 k) = ntL w (k + 1) := by
      simp only [ntL]
      split <;> split <;> omega
    rw [e1]
    exact l_last hd1 hno hn ho K (k + 1) (by omega)
termination_by w.ns - k
theorem k_lastStep (hd : 2 ≤ d) (hno : NO σ g 9) (hn : CN f w) (ho : NtOk w) (K : Q (some (zi (ntL w w.ns))) σ f g) : ZCt d 118 [zr (some 9)] σ f g Q := by
  refine ZCt.of' (L0 := [_, _, _]) (by omega) rfl rfl rfl (fun d hd1 => ?_)
  refine r_iconst rfl ?_
  refine r_istore_n (L' := [_, _, _]) rfl rfl rfl ?_
  refine r_iconst rfl ?_
  refine r_istore_n (L' := [_, _, _]) rfl rfl rfl ?_
  exact l_last (by omega) hno hn ho K 0 (by omega)
theorem l_areSo (hd1 : 0 ≤ d) (hno : NO σ g 9) (hn : CN f w) (ho : NtOk w) (hr : RO σ g r) (h : RC f r rd) (hR : RdOk n m N rd) {s : Nat} (hs60 : s ≤ 60) (k1 : ntAt w s rd w.ns = true → Q (some (zi 1)) σ f g) (k2 : ntAt w s rd w.ns = false → Q (some (zi 0)) σ f g) (k : Nat) (hk : k ≤ w.ns) (hall : ntAt w s rd k = true) : ZWp d zt119 2 [zr (some 9), zi (s : Int), zr (some r), zi (k : Int)] [] σ f g Q := by
  obtain ⟨no, ⟨na1, na2, na3⟩, ng1, ng2, ng3⟩ := id hno
  have hns := ho.1
  obtain ⟨oo, ⟨a1, a2, a3, a4, a5⟩, g0, g1, g2, g3, g4⟩ := id hr
  refine r_iload_n rfl rfl ?_
  refine r_aload_n rfl rfl ?_
  refine r_getI rfl no hn.1 ?_
  refine r_icmp_ge rfl (by omega) (by omega) (fun hge => ?_) (fun hge => ?_)
  · have e : k = w.ns := by omega
    subst e
    refine r_iconst rfl ?_
    refine r_zret rfl (by omega) ?_
    exact k1 hall
  · refine r_aload_n rfl rfl ?_
    refine r_getR rfl no (by first | assumption | exact hs.g rfl) ?_
    refine r_iload_n rfl rfl ?_
    have hk2 := hn.2 k (by omega)
    have hok := ho.2 k (by omega)
    have hcar := hR.2.2.1 (w.nt 1 k).toNat (by omega)
    have hr1 := hR.1
    refine r_iald rfl (by first | assumption | exact hs.a rfl) (by omega) (by omega) ((zix (n := k) (by omega)).trans hk2.1) ?_
    refine r_iload_n rfl rfl ?_
    refine r_icmp_ne rfl (by omega) (by omega) (fun hne => ?_) (fun hne => ?_)
    · refine r_iinc (L' := [_, _, _, _]) rfl rfl rfl ?_
      refine r_goto rfl ?_
      exact l_areSo hd1 hno hn ho hr h hR hs60 k1 k2 (k + 1) (by omega) (by simp only [ntAt]; rw [hall, decide_eq_false (fun q => by first | exact hne q.1 | exact q.2 heq)]; rfl)
    · refine r_aload_n rfl rfl ?_
      refine r_getR rfl oo (by first | assumption | exact hs.g rfl) ?_
      refine r_aload_n rfl rfl ?_
      refine r_getR rfl no (by first | assumption | exact hs.g rfl) ?_
      refine r_iload_n rfl rfl ?_
      refine r_iald rfl (by first | assumption | exact hs.a rfl) (by omega) (by omega) ((zix (n := k) (by omega)).trans hk2.2.1) ?_
      refine r_iald rfl (by first | assumption | exact hs.a rfl) (by omega) (by omega) (h.1 (w.nt 1 k).toNat (by omega)).1 ?_
      refine r_aload_n rfl rfl ?_
      refine r_getR rfl no (by first | assumption | exact hs.g rfl) ?_
      refine r_iload_n rfl rfl ?_
      refine r_iald rfl (by first | assumption | exact hs.a rfl) (by omega) (by omega) ((zix (n := k) (by omega)).trans hk2.2.2) ?_
      refine r_icmp_eq rfl (by omega) (by omega) (fun heq => ?_) (fun heq => ?_)
      · refine r_iinc (L' := [_, _, _, _]) rfl rfl rfl ?_
        refine r_goto rfl ?_
        exact l_areSo hd1 hno hn ho hr h hR hs60 k1 k2 (k + 1) (by omega) (by simp only [ntAt]; rw [hall, decide_eq_false (fun q => by first | exact hne q.1 | exact q.2 heq)]; rfl)
      · refine r_iconst rfl ?_
        refine r_zret rfl (by omega) ?_
        exact k2 (ntAt_f (j := k) (by omega) ⟨hne, heq⟩)
termination_by w.ns - k
theorem k_areSo (hd : 1 ≤ d) (hno : NO σ g 9) (hn : CN f w) (ho : NtOk w) (hr : RO σ g r) (h : RC f r rd) (hR : RdOk n m N rd) {s : Nat} (hs60 : s ≤ 60) (k1 : ntAt w s rd w.ns = true → Q (some (zi 1)) σ f g) (k2 : ntAt w s rd w.ns = false → Q (some (zi 0)) σ f g) : ZCt d 119 [zr (some 9), zi (s : Int), zr (some r)] σ f g Q := by
  refine ZCt.of' (L0 := [_, _, _, _]) (by omega) rfl rfl rfl (fun d hd1 => ?_)
  refine r_iconst rfl ?_
  refine r_istore_n (L' := [_, _, _, _]) rfl rfl rfl ?_
  exact l_areSo (by omega) hno hn ho hr h hR hs60 k1 k2 0 (by omega) rfl
theorem l_fits (hd1 : 5 ≤ d) (hs : Sh σ g) (ht : TR σ f0 g p pl al (-1)) (hn : CN f0 w) (ho : NtOk w) (hv : VS pl N (-1) rd) (hN : N + 7 * 61 ≤ 1000000) (K : ∀ f', FrC 47 f0 f' → (fitA pl al w rd 61 = true → Q (some (zi 1)) σ f' g) ∧ (fitA pl al w rd 61 = false → Q (some (zi 0)) σ f' g)) (k : Nat) (hk : (k : Int) ≤ ntL w w.ns + 1) (f : ZF) (hf : FrC 47 f0 f) (h' : (k : Int) ≤ ntL w w.ns → RC f 47 (rIt pl al (-1) k rd)) (hall : fitA pl al w rd k = true) : ZWp d zt117 10 [zr (some 0), zr (some 47), zi (ntL w w.ns), zi (k : Int)] [] σ f g Q := by
  have hvN := hv.1.2.2.2.2.2.2
  have hL := (ntL_rng ho w.ns (Nat.le_refl _)).1
  refine r_iload_n rfl rfl ?_
  refine r_iload_n rfl rfl ?_
  refine r_icmp_gt rfl (by omega) (by omega) (fun hgt => ?_) (fun hgt => ?_)
  · have e : fitA pl al w rd 61 = fitA pl al w rd k := fitA_more ho k (by omega) 61 (by omega)
    refine r_iconst rfl ?_
    refine r_zret rfl (by omega) ?_
    exact (K f hf).1 (e.trans hall)
  · refine r_aload_n rfl rfl ?_
    refine r_getR rfl (by first | assumption | exact hs.o rfl) (hs.g rfl) ?_
    refine r_iload_n rfl rfl ?_
    refine r_aload_n rfl rfl ?_
    refine r_callV2 rfl rfl hs.n9.1 rfl (k_areSo (s := k) (by omega) hs.n9 (hn.fr (fun c q1 q2 => hf.1 c (by omega) (by omega) (by omega) (by omega))) ho hs.r47 (h' (by omega)) (hv.it ht.2.2.1 k (by omega)).1 (by omega) (fun hso => ?_) (fun hso => ?_))
    · refine r_if_y rfl (by decide) ?_
      refine r_iload_n rfl rfl ?_
      refine r_iload_n rfl rfl ?_
      refine r_icmp_ge rfl (by omega) (by omega) (fun hge => ?_) (fun hge => ?_)
      · refine r_iinc (L' := [_, _, _, _]) rfl rfl rfl ?_
        refine r_goto rfl ?_
        first
        | exact l_fits hd1 hs ht hn ho hv hN K (k + 1) (by omega) f1 (hf.trans hf1) (fun _ => hc1) (by simp only [fitA]; rw [hall, hso]; rfl)
        | exact l_fits hd1 hs ht hn ho hv hN K (k + 1) (by omega) f hf (fun q => by omega) (by simp only [fitA]; rw [hall, hso]; rfl)
      · refine r_aload_n rfl rfl ?_
        refine r_getR rfl (by first | assumption | exact hs.o rfl) (by first | assumption | exact hs.g rfl) ?_
        refine r_aload_n rfl rfl ?_
        refine r_callV1 rfl rfl (by first | assumption | exact hs.o rfl) rfl (k_drv (by omega) (ht.fr rr47 hf) rr47 hs.r47 (h' (by omega)) (hv.it ht.2.2.1 k (by omega)) (by omega) (fun f1 hf1 ht1 hc1 hst1 => ?_))
        refine r_popi rfl ?_
        refine r_iinc (L' := [_, _, _, _]) rfl rfl rfl ?_
        refine r_goto rfl ?_
        first
        | exact l_fits hd1 hs ht hn ho hv hN K (k + 1) (by omega) f1 (hf.trans hf1) (fun _ => hc1) (by simp only [fitA]; rw [hall, hso]; rfl)
        | exact l_fits hd1 hs ht hn ho hv hN K (k + 1) (by omega) f hf (fun q => by omega) (by simp only [fitA]; rw [hall, hso]; rfl)
    · refine r_if_n rfl (by decide) ?_
      refine r_iconst rfl ?_
      refine r_zret rfl (by omega) ?_
      exact (K f hf).2 (fitA_f (j := k) (by omega) hso)
termination_by (ntL w w.ns + 1 - (k : Int)).toNat
theorem k_fits (hd : 6 ≤ d) (hs : Sh σ g) (ht : TR σ f g p pl al (-1)) (hn : CN f w) (ho : NtOk w) (hv : VS pl N (-1) rd) (hN : N + 7 * 61 ≤ 1000000) (h : RC f 47 rd) (K : ∀ f', FrC 47 f f' → (fitA pl al w rd 61 = true → Q (some (zi 1)) σ f' g) ∧ (fitA pl al w rd 61 = false → Q (some (zi 0)) σ f' g)) : ZCt d 117 [zr (some 0), zr (some 47)] σ f g Q := by
  refine ZCt.of' (L0 := [_, _, _, _]) (by omega) rfl rfl rfl (fun d hd1 => ?_)
  refine r_aload_n rfl rfl ?_
  refine r_getR rfl (by first | assumption | exact hs.o rfl) (hs.g rfl) ?_
  refine r_callV0 rfl rfl hs.n9.1 rfl (k_lastStep (by omega) hs.n9 hn ho ?_)
  refine r_istore_n (L' := [_, _, _, _]) rfl rfl rfl ?_
  refine r_iconst rfl ?_
  refine r_istore_n (L' := [_, _, _, _]) rfl rfl rfl ?_
  exact l_fits (by omega) hs ht hn ho hv hN K 0 (by have := (ntL_rng ho w.ns (Nat.le_refl _)).1; omega) f (FrC.rf 47 f) (fun _ => h) rfl
theorem k_tryB (hd : 2 ≤ d) (hI : CI σ f g a) (hA : AOk N a) (hp : a.w.pn = some (pl, rd0)) {rl : Int} (hr : -1 ≤ rl ∧ rl < (a.rk : Int)) (K : ∀ f' g' p, FrQ f f' → FrG g g' → TR σ f' g' p pl (AL a rl pl) (-1) → RC f' 47 rd0 → (∀ c, c = 53 ∨ c = 54 → f' c = f c) → Q (some (zr (some 47))) σ f' g') : ZCt d 116 [zr (some 0), zi rl] σ f g Q := by
  refine ZCt.of' (L0 := [_, _]) (by omega) rfl rfl rfl (fun d hd1 => ?_)
  have hs := hI.sh
  obtain ⟨p, gp, p240, po, hpc, hrc⟩ := hI.plS hp
  refine r_aload_n rfl rfl ?_
  refine r_iload_n rfl rfl ?_
  refine r_callV1 rfl rfl (by first | assumption | exact hs.o rfl) rfl (k_setEngine (by omega) hI hA hr (fun g' hg e0 e1 e2 => ?_))
  have hs' := hs.frg hg
  have hfe : FrQ f (up2 (up2 f 22 2 (-1)) 22 3 (-1)) := ((FrQ.rf f).up (by omega)).up (by omega)
  have po' : PO σ g' p := po.frg (fun i => hg _ _ (by omega)) (fun i => hg _ _ (by omega))
  have gp' : g' 0 4 = some p := (hg _ _ (by omega)).trans gp
  refine r_aload_n rfl rfl ?_
  refine r_getR rfl (by first | assumption | exact hs.o rfl) gp' ?_
  refine r_ifnullS rfl ?_
  refine r_aload_n rfl rfl ?_
  refine r_getR rfl (by first | assumption | exact hs.o rfl) (hs'.g rfl) ?_
  refine r_aload_n rfl rfl ?_
  refine r_getR rfl (by first | assumption | exact hs.o rfl) gp' ?_
  refine r_getR rfl po'.1 po'.2.2.1.2.2 ?_
  refine r_callV1 rfl rfl (by first | assumption | exact hs.o rfl) rfl (k_copyFrom (rd := rd0) (by omega) hs'.r47 po'.2.2.2 (by omega) (hrc.fr (fun c q1 q2 => hfe c (by omega))) (fun f1 hf1 hc1 => ?_))
  refine r_aload_n rfl rfl ?_
  refine r_getR rfl (by first | assumption | exact hs.o rfl) (hs'.g rfl) ?_
  refine r_aret rfl ?_
  exact K f1 g' p (hfe.r hf1 (by omega)) hg ((tr_of hI hA hp hr gp p240 po hpc hg e0 e1 e2).fr (r := 47) (by unfold RrOk; omega) ((FrC.rf 47 _).r (by unfold RrOk; omega) hf1)) hc1 (fun c q1 => by rw [hf1 c (by omega), up2_o _ _ (by omega), up2_o _ _ (by omega)])
theorem CI.cn (hI : CI σ f g a) : CN f a.w := hI.w.2.2
theorem StOk.vs (h : StOk pl rd0) : VS pl 0 (-1) rd0 := ⟨h.1, h.2.1, fun j q => by omega, fun j _ => h.2.2.1 j⟩
/-- which roads it can have wished -/
def wsP (a : AS) (pl : Pl) (rd0 : Rd) (c r : Nat) : Bool := fitA pl (AL a a.fo pl) a.w (up2 rd0 1 c (r : Int)) 61
def wshS (P : Nat → Bool) : Nat → Int
  | 0 => 0
  | k + 1 => if P k = true then z_or (wshS P k) (z_shl 1 (k : Int)) else wshS P k
theorem wshS_bits {P : Nat → Bool} : ∀ k, k ≤ 20 → Bits (wshS P k) (fun i => decide (i < k) && P i) := by
  intro k
  induction k with
  | zero => intro _; exact Bits.zero.imp (fun c hc => by simp)
  | succ k ih =>
    intro hk
    simp only [wshS]
    cases e : P k with
    | true =>
      rw [if_pos rfl]
      refine ((ih (by omega)).set (show k < 20 by omega)).imp (fun c hc => ?_)
      by_cases q : c = k
      · subst q; simp [e]
      · have q' : (c == k) = false := by simp [q]
        have : decide (c < k) = decide (c < k + 1) := decide_eq_decide.2 (by omega)
        rw [q', Bool.or_false, this]
    | false =>
      rw [if_neg (by decide)]
      refine (ih (by omega)).imp (fun c hc => ?_)
      by_cases q : c = k
      · subst q; simp [e]
      · have : decide (c < k) = decide (c < k + 1) := decide_eq_decide.2 (by omega)
        rw [this]
theorem cnt_cut {P : Nat → Bool} {m : Nat} : ∀ k, cnt (fun i => decide (i < m) && P i) k = cnt P (min k m) := by
  intro k
  induction k with
  | zero => simp [cnt]
  | succ k ih =>
    simp only [cnt]
    rw [ih]
    by_cases h : k < m
    · rw [show min (k + 1) m = min k m + 1 by omega]
      simp only [cnt]
      rw [show min k m = k by omega]
      simp [h]
    · rw [show min (k + 1) m = min k m by omega]
      simp [h]
def qWished (a : AS) (c w : Int) : Int := match a.w.pn with
  | none => -1
  | some (pl, rd0) => if (0 ≤ c ∧ c < pl.2.2.1) ∧ (0 ≤ w ∧ w ≤ 1) then (if w = 0 then cnt (wsP a pl rd0 c.toNat) pl.2.1.toNat else wshS (wsP a pl rd0 c.toNat) pl.2.1.toNat) else -1
theorem qWished_no {c w : Int} (h : ∀ pl rd0, a.w.pn = some (pl, rd0) → ¬ ((0 ≤ c ∧ c < pl.2.2.1) ∧ (0 ≤ w ∧ w ≤ 1))) : qWished a c w = -1 := by
  unfold qWished
  cases hp : a.w.pn with
  | none => rfl
  | some z => exact if_neg (h z.1 z.2 hp)
theorem qWished_yes {c : Nat} {w : Int} (hp : a.w.pn = some (pl, rd0)) (h : (c : Int) < pl.2.2.1 ∧ (0 ≤ w ∧ w ≤ 1)) : qWished a (c : Int) w = (if w = 0 then cnt (wsP a pl rd0 c) pl.2.1.toNat else wshS (wsP a pl rd0 c) pl.2.1.toNat) := by
  unfold qWished
  rw [hp]
  simp only
  rw [if_pos (by omega), Int.toNat_natCast]
theorem l_wsC (hd1 : 6 ≤ d) {f00 : ZF} {g00 : ZG} (hI : CI σ f00 g00 a) (hA : AOk N a) (hp : a.w.pn = some (pl, rd0)) {c : Nat} (hc6 : c < 6) (hon : 0 ≤ rd0 0 c) {w : Int} (K : ∀ f' g' x, FrQ f00 f' → FrG g00 g' → ZWp d zt115 91 [zr (some 0), zi (c : Int), zi w, zi (wshS (wsP a pl rd0 c) pl.2.1.toNat), zi ((pl.2.1.toNat : Nat) : Int), x] [] σ f' g' Q) (k : Nat) (hk : k ≤ pl.2.1.toNat) (f : ZF) (g : ZG) (x : ZV) (hf : FrQ f00 f) (hg : FrG g00 g) : ZWp d zt115 38 [zr (some 0), zi (c : Int), zi w, zi (wshS (wsP a pl rd0 c) k), zi (k : Int), x] [] σ f g Q := by
  have hIf := hI.fr hf hg
  have hs := hIf.sh
  obtain ⟨p0, gp, p240, po, hpc, hrc⟩ := hIf.plS hp
  obtain ⟨hplo, hvr, hst⟩ := hA.plS hp
  have hp2 := hplo.2.1
  have hp3 := hplo.2.2.1
  refine r_iload rfl rfl ?_
  refine r_aload_n rfl rfl ?_
  refine r_getR rfl (by first | assumption | exact hs.o rfl) gp ?_
  refine r_getI rfl po.1 hpc.2.1 ?_
  refine r_icmp_ge rfl (by omega) (by omega) (fun hge => ?_) (fun hge => ?_)
  · have e : k = pl.2.1.toNat := by omega
    subst e
    exact K f g _ hf hg
  · refine r_aload_n rfl rfl ?_
    refine r_aload_n rfl rfl ?_
    refine r_getI rfl (by first | assumption | exact hs.o rfl) hIf.fo ?_
    refine r_callV1 rfl rfl (by first | assumption | exact hs.o rfl) rfl (k_tryB (by omega) hIf hA hp hA.2.2.2.1 (fun f1 g1 p hf1 hg1 ht1 hc1 hsc1 => ?_))
    have hs1 := hs.frg hg1
    obtain ⟨oo, ⟨a1, a2, a3, a4, a5⟩, gg0, gg1, gg2, gg3, gg4⟩ := hs1.r47
    have hb := (wshS_bits (P := wsP a pl rd0 c) k (by omega)).rng
    refine r_astore (L' := [_, _, _, _, _, _]) rfl rfl rfl ?_
    refine r_aload rfl rfl ?_
    refine r_getR rfl (by first | assumption | exact hs.o rfl) gg1 ?_
    refine r_iload_n rfl rfl ?_
    refine r_iload rfl rfl ?_
    refine r_iastN (c) rfl (by first | assumption | exact hs.a rfl) (by omega) (by omega) (by omega) ?_
    refine r_aload_n rfl rfl ?_
    refine r_aload rfl rfl ?_
    refine r_callV1 rfl rfl (by first | assumption | exact hs.o rfl) rfl (k_fits (N := 0) (rd := up2 rd0 1 c (k : Int)) (by omega) hs1 (ht1.fr rr47 ((FrC.rf 47 f1).up rr47 (by omega))) ((hIf.fr hf1 hg1).cn.fr (fun q q1 q2 => up2_o _ _ (by omega))) hA.2.2.1.1 (hst.vs.want (by omega) hon (by omega)) (by omega) (hc1.want (by omega)) (fun f2 hf2 => ⟨fun hfit => ?_, fun hfit => ?_⟩)  )
    · refine r_if_n rfl (by decide) ?_
      refine r_iload_n rfl rfl ?_
      refine r_iconst rfl ?_
      refine r_iload rfl rfl ?_
      refine r_ishl rfl ?_
      refine r_ior rfl ?_
      refine r_istore_n (L' := [_, _, _, _, _, _]) rfl rfl rfl ?_
      refine r_iinc (L' := [_, _, _, _, _, _]) rfl rfl rfl ?_
      refine r_goto rfl ?_
      have hfq : FrQ f00 f2 := ((hf.trans hf1).up (k := 47 + 2) (i := c) (v := (k : Int)) (by omega)).c47 hf2
      first
      | (have e1 : wshS (wsP a pl rd0 c) (k + 1) = z_or (wshS (wsP a pl rd0 c) k) (z_shl 1 (k : Int)) := if_pos hfit
         have := l_wsC hd1 hI hA hp hc6 hon K (k + 1) (by omega) f2 g1 (zr (some 47)) hfq (hg.trans hg1)
         rw [e1] at this
         exact this)
      | (have e1 : wshS (wsP a pl rd0 c) (k + 1) = wshS (wsP a pl rd0 c) k := if_neg (by rw [show wsP a pl rd0 c k = false from hfit]; decide)
         have := l_wsC hd1 hI hA hp hc6 hon K (k + 1) (by omega) f2 g1 (zr (some 47)) hfq (hg.trans hg1)
         rw [e1] at this
         exact this)
    · refine r_if_y rfl (by decide) ?_
      refine r_iinc (L' := [_, _, _, _, _, _]) rfl rfl rfl ?_
      refine r_goto rfl ?_
      have hfq : FrQ f00 f2 := ((hf.trans hf1).up (k := 47 + 2) (i := c) (v := (k : Int)) (by omega)).c47 hf2
      first
      | (have e1 : wshS (wsP a pl rd0 c) (k + 1) = z_or (wshS (wsP a pl rd0 c) k) (z_shl 1 (k : Int)) := if_pos hfit
         have := l_wsC hd1 hI hA hp hc6 hon K (k + 1) (by omega) f2 g1 (zr (some 47)) hfq (hg.trans hg1)
         rw [e1] at this
         exact this)
      | (have e1 : wshS (wsP a pl rd0 c) (k + 1) = wshS (wsP a pl rd0 c) k := if_neg (by rw [show wsP a pl rd0 c k = false from hfit]; decide)
         have := l_wsC hd1 hI hA hp hc6 hon K (k + 1) (by omega) f2 g1 (zr (some 47)) hfq (hg.trans hg1)
         rw [e1] at this
         exact this)
termination_by pl.2.1.toNat - k
theorem k_wished (hd : 7 ≤ d) (hI : CI σ f g a) (hA : AOk N a)  {c w : Int} (hci : IR c) (hwi : IR w) (K : ∀ f' g', FrQ f f' → FrG g g' → Q (some (zi (qWished a c w))) σ f' g') : ZCt d 115 [zr (some 0), zi c, zi w] σ f g Q := by
  refine ZCt.of' (L0 := [_, _, _, _, _, _]) (by omega) rfl rfl rfl (fun d hd1 => ?_)
  have hs := hI.sh
  cases hp : a.w.pn with
  | none =>
    rw [qWished_no (fun pl rd0 q => by rw [hp] at q; cases q)] at K
    refine r_aload_n rfl rfl ?_
    refine r_getR rfl (by first | assumption | exact hs.o rfl) (hI.pln hp) ?_
    refine r_ifnullN rfl ?_
    refine r_iconst rfl ?_
    refine r_iret rfl ?_
    exact K f g (FrQ.rf f) (FrG.rf g)
  | some q =>
    obtain ⟨pl, rd0⟩ := q
    obtain ⟨p0, gp, p240, po, hpc, hrc⟩ := hI.plS hp
    obtain ⟨hplo, hvr, hst⟩ := hA.plS hp
    have hp2 := hplo.2.1
    have hp3 := hplo.2.2.1
    have no : ¬ ((0 ≤ c ∧ c < pl.2.2.1) ∧ (0 ≤ w ∧ w ≤ 1)) → Q (some (zi (-1))) σ f g := by
      intro q
      rw [qWished_no (fun pl' rd0' z => by rw [hp] at z; cases z; exact q)] at K
      exact K f g (FrQ.rf f) (FrG.rf g)
    refine r_aload_n rfl rfl ?_
    refine r_getR rfl (by first | assumption | exact hs.o rfl) gp ?_
    refine r_ifnullS rfl ?_
    refine r_iload_n rfl rfl ?_
    refine r_if_lt rfl (by omega) (fun hneg => ?_) (fun hneg => ?_)
    · refine r_iconst rfl ?_
      refine r_iret rfl ?_
      exact no (by omega)
    · refine r_iload_n rfl rfl ?_
      refine r_aload_n rfl rfl ?_
      refine r_getR rfl (by first | assumption | exact hs.o rfl) gp ?_
      refine r_getI rfl po.1 hpc.2.2.1 ?_
      refine r_icmp_ge rfl (by omega) (by omega) (fun hge => ?_) (fun hge => ?_)
      · refine r_iconst rfl ?_
        refine r_iret rfl ?_
        exact no (by omega)
      · refine r_iload_n rfl rfl ?_
        refine r_iconst rfl ?_
        refine r_iconst rfl ?_
        refine r_callS3 rfl rfl rfl (k_within (by omega) hwi (by omega) (by omega) (fun hw => ?_) (fun hw => ?_))
        · refine r_if_y rfl (by decide) ?_
          refine r_iconst rfl ?_
          refine r_istore_n (L' := [_, _, _, _, _, _]) rfl rfl rfl ?_
          refine r_iconst rfl ?_
          refine r_istore (L' := [_, _, _, _, _, _]) rfl rfl rfl ?_
          obtain ⟨cc, rfl⟩ := Int.eq_ofNat_of_zero_le (show 0 ≤ c by omega)
          rw [qWished_yes hp (by omega)] at K
          have hsc := (hst.2.2.2 cc (by omega))
          have hok := hst.1.2.2.1 cc (by omega)
          refine l_wsC (by omega) hI hA hp (c := cc) (by omega) (by omega) (fun f2 g2 x h2 h3 => ?_) 0 (by omega) f g _ (FrQ.rf f) (FrG.rf g)
          refine r_iload_n rfl rfl ?_
          refine r_if_ne rfl (by omega) (fun hw0 => ?_) (fun hw0 => ?_)
          · refine r_iload_n rfl rfl ?_
            refine r_iret rfl ?_
            first | (rw [if_pos (by omega)] at K; exact K f2 g2 h2 h3) | (rw [if_neg (by omega)] at K; exact K f2 g2 h2 h3)
          · refine r_iload_n rfl rfl ?_
            refine r_callS1 rfl rfl rfl (c_bitCount (by omega) (wshS_bits _ (by omega)) ?_)
            rw [cnt_cut, show min 20 pl.2.1.toNat = pl.2.1.toNat by omega]
            refine r_goto rfl ?_
            refine r_iret rfl ?_
            first | (rw [if_pos (by omega)] at K; exact K f2 g2 h2 h3) | (rw [if_neg (by omega)] at K; exact K f2 g2 h2 h3)
        · refine r_if_n rfl (by decide) ?_
          refine r_iconst rfl ?_
          refine r_iret rfl ?_
          exact no (by omega)
def ruF (a : AS) (pl : Pl) (rd0 : Rd) (r : Nat) : Bool := fitA pl (AL a ((r : Int) - 1) pl) a.w rd0 61
def ruL (P : Nat → Bool) (k : Nat) : List Nat := (List.range k).filter P
theorem ruL_y {P : Nat → Bool} {k : Nat} (h : P k = true) : ruL P (k + 1) = ruL P k ++ [k] := by
  unfold ruL
  rw [List.range_succ, List.filter_append]
  simp [h]
theorem ruL_n {P : Nat → Bool} {k : Nat} (h : P k = false) : ruL P (k + 1) = ruL P k := by
  unfold ruL
  rw [List.range_succ, List.filter_append]
  simp [h]
theorem ruL_len (P : Nat → Bool) (k : Nat) : (ruL P k).length ≤ k := by
  have := List.length_filter_le P (List.range k)
  rw [List.length_range] at this
  exact this
def hdR : List Nat → Int
  | [] => -2
  | x :: _ => (x : Int) - 1
theorem hdR_app (l : List Nat) (k : Nat) : hdR (l ++ [k]) = if (l.length : Int) = 0 then (k : Int) - 1 else hdR l := by
  cases l with
  | nil => rfl
  | cons x r => rw [if_neg (by simp only [List.length_cons]; omega)]; rfl
def qRuled (a : AS) (w : Int) : Int := match a.w.pn with
  | none => -3
  | some (pl, rd0) => if 0 ≤ w ∧ w ≤ 1 then (if w = 0 then ((ruL (ruF a pl rd0) (a.rk + 1)).length : Int) else hdR (ruL (ruF a pl rd0) (a.rk + 1))) else -3
theorem qRuled_no {w : Int} (h : a.w.pn = none ∨ ¬ (0 ≤ w ∧ w ≤ 1)) : qRuled a w = -3 := by
  unfold qRuled
  cases hp : a.w.pn with
  | none => rfl
  | some z => exact if_neg (by rcases h with h | h; rw [hp] at h; cases h; exact h)
theorem qRuled_yes {w : Int} (hp : a.w.pn = some (pl, rd0)) (h : 0 ≤ w ∧ w ≤ 1) : qRuled a w = (if w = 0 then ((ruL (ruF a pl rd0) (a.rk + 1)).length : Int) else hdR (ruL (ruF a pl rd0) (a.rk + 1))) := by
  unfold qRuled
  rw [hp]
  exact if_pos h
theorem l_ruC (hd1 : 6 ≤ d) {f00 : ZF} {g00 : ZG} (hI : CI σ f00 g00 a) (hA : AOk N a) (hp : a.w.pn = some (pl, rd0)) {w : Int} (K : ∀ f' g' x, FrQ f00 f' → FrG g00 g' → ZWp d zt120 69 [zr (some 0), zi w, zi ((ruL (ruF a pl rd0) (a.rk + 1)).length : Int), zi (hdR (ruL (ruF a pl rd0) (a.rk + 1))), x] [] σ f' g' Q) (k : Nat) (hk : k ≤ a.rk + 1) (f : ZF) (g : ZG) (hf : FrQ f00 f) (hg : FrG g00 g) : ZWp d zt120 27 [zr (some 0), zi w, zi ((ruL (ruF a pl rd0) k).length : Int), zi (hdR (ruL (ruF a pl rd0) k)), zi ((k : Int) - 1)] [] σ f g Q := by
  have hIf := hI.fr hf hg
  have hs := hIf.sh
  obtain ⟨p0, gp, p240, po, hpc, hrc⟩ := hIf.plS hp
  obtain ⟨hplo, hvr, hst⟩ := hA.plS hp
  have hp2 := hplo.2.1
  have hp3 := hplo.2.2.1
  have hrk := hA.1.2.1
  refine r_iload rfl rfl ?_
  refine r_aload_n rfl rfl ?_
  refine r_getI rfl (by first | assumption | exact hs.o rfl) hIf.rk ?_
  refine r_icmp_ge rfl (by omega) (by omega) (fun hge => ?_) (fun hge => ?_)
  · have e : k = a.rk + 1 := by omega
    subst e
    exact K f g _ hf hg
  · refine r_aload_n rfl rfl ?_
    refine r_aload_n rfl rfl ?_
    refine r_iload rfl rfl ?_
    refine r_callV1 rfl rfl (by first | assumption | exact hs.o rfl) rfl (k_tryB (rl := (k : Int) - 1) (by omega) hIf hA hp (by omega) (fun f1 g1 p hf1 hg1 ht1 hc1 hsc1 => ?_))
    have hs1 := hs.frg hg1
    have hlen := ruL_len (ruF a pl rd0) k
    refine r_callV1 rfl rfl (by first | assumption | exact hs.o rfl) rfl (k_fits (N := 0) (rd := rd0) (by omega) hs1 ht1 (hIf.fr hf1 hg1).cn hA.2.2.1.1 hst.vs (by omega) hc1 (fun f2 hf2 => ⟨fun hfit => ?_, fun hfit => ?_⟩)  )
    · refine r_if_n rfl (by decide) ?_
      refine r_iload_n rfl rfl ?_
      refine r_if_ne rfl (by omega) (fun hmany => ?_) (fun hmany => ?_)
      · refine r_iload_n rfl rfl ?_
        refine r_istore_n (L' := [_, _, _, _, _]) rfl rfl rfl ?_
        refine r_iinc (L' := [_, _, _, _, _]) rfl rfl rfl ?_
        refine r_iinc (L' := [_, _, _, _, _]) rfl rfl rfl ?_
        refine r_goto rfl ?_
        have hfq : FrQ f00 f2 := (hf.trans hf1).c47 hf2
        rw [show (k : Int) - 1 + 1 = ((k + 1 : Nat) : Int) - 1 by omega]
        first
        | (have e1 := ruL_n (P := ruF a pl rd0) hfit; have := l_ruC hd1 hI hA hp K (k + 1) (by omega) f2 g1 hfq (hg.trans hg1); rw [e1] at this; exact this)
        | (have e1 := ruL_y (P := ruF a pl rd0) hfit; have := l_ruC hd1 hI hA hp K (k + 1) (by omega) f2 g1 hfq (hg.trans hg1); rw [e1, hdR_app, List.length_append, if_pos hmany] at this; exact this)
        | (have e1 := ruL_y (P := ruF a pl rd0) hfit; have := l_ruC hd1 hI hA hp K (k + 1) (by omega) f2 g1 hfq (hg.trans hg1); rw [e1, hdR_app, List.length_append, if_neg hmany] at this; exact this)
      · refine r_iload rfl rfl ?_
        refine r_goto rfl ?_
        refine r_istore_n (L' := [_, _, _, _, _]) rfl rfl rfl ?_
        refine r_iinc (L' := [_, _, _, _, _]) rfl rfl rfl ?_
        refine r_iinc (L' := [_, _, _, _, _]) rfl rfl rfl ?_
        refine r_goto rfl ?_
        have hfq : FrQ f00 f2 := (hf.trans hf1).c47 hf2
        rw [show (k : Int) - 1 + 1 = ((k + 1 : Nat) : Int) - 1 by omega]
        first
        | (have e1 := ruL_n (P := ruF a pl rd0) hfit; have := l_ruC hd1 hI hA hp K (k + 1) (by omega) f2 g1 hfq (hg.trans hg1); rw [e1] at this; exact this)
        | (have e1 := ruL_y (P := ruF a pl rd0) hfit; have := l_ruC hd1 hI hA hp K (k + 1) (by omega) f2 g1 hfq (hg.trans hg1); rw [e1, hdR_app, List.length_append, if_pos hmany] at this; exact this)
        | (have e1 := ruL_y (P := ruF a pl rd0) hfit; have := l_ruC hd1 hI hA hp K (k + 1) (by omega) f2 g1 hfq (hg.trans hg1); rw [e1, hdR_app, List.length_append, if_neg hmany] at this; exact this)
    · refine r_if_y rfl (by decide) ?_
      refine r_iinc (L' := [_, _, _, _, _]) rfl rfl rfl ?_
      refine r_goto rfl ?_
      have hfq : FrQ f00 f2 := (hf.trans hf1).c47 hf2
      rw [show (k : Int) - 1 + 1 = ((k + 1 : Nat) : Int) - 1 by omega]
      first
      | (have e1 := ruL_n (P := ruF a pl rd0) hfit; have := l_ruC hd1 hI hA hp K (k + 1) (by omega) f2 g1 hfq (hg.trans hg1); rw [e1] at this; exact this)
      | (have e1 := ruL_y (P := ruF a pl rd0) hfit; have := l_ruC hd1 hI hA hp K (k + 1) (by omega) f2 g1 hfq (hg.trans hg1); rw [e1, hdR_app, List.length_append, if_pos hmany] at this; exact this)
      | (have e1 := ruL_y (P := ruF a pl rd0) hfit; have := l_ruC hd1 hI hA hp K (k + 1) (by omega) f2 g1 hfq (hg.trans hg1); rw [e1, hdR_app, List.length_append, if_neg hmany] at this; exact this)
termination_by a.rk + 1 - k
theorem k_ruled (hd : 7 ≤ d) (hI : CI σ f g a) (hA : AOk N a)  {w : Int} (hwi : IR w) (K : ∀ f' g', FrQ f f' → FrG g g' → Q (some (zi (qRuled a w))) σ f' g') : ZCt d 120 [zr (some 0), zi w] σ f g Q := by
  refine ZCt.of' (L0 := [_, _, _, _, _]) (by omega) rfl rfl rfl (fun d hd1 => ?_)
  have hs := hI.sh
  cases hp : a.w.pn with
  | none =>
    rw [qRuled_no (Or.inl hp)] at K
    refine r_aload_n rfl rfl ?_
    refine r_getR rfl (by first | assumption | exact hs.o rfl) (hI.pln hp) ?_
    refine r_ifnullN rfl ?_
    refine r_bipush rfl ?_
    refine r_iret rfl ?_
    exact K f g (FrQ.rf f) (FrG.rf g)
  | some q =>
    obtain ⟨pl, rd0⟩ := q
    obtain ⟨p0, gp, p240, po, hpc, hrc⟩ := hI.plS hp
    have hlen := ruL_len (ruF a pl rd0) (a.rk + 1)
    refine r_aload_n rfl rfl ?_
    refine r_getR rfl (by first | assumption | exact hs.o rfl) gp ?_
    refine r_ifnullS rfl ?_
    refine r_iload_n rfl rfl ?_
    refine r_iconst rfl ?_
    refine r_iconst rfl ?_
    refine r_callS3 rfl rfl rfl (k_within (by omega) hwi (by omega) (by omega) (fun hw => ?_) (fun hw => ?_))
    · refine r_if_y rfl (by decide) ?_
      refine r_iconst rfl ?_
      refine r_istore_n (L' := [_, _, _, _, _]) rfl rfl rfl ?_
      refine r_bipush rfl ?_
      refine r_istore_n (L' := [_, _, _, _, _]) rfl rfl rfl ?_
      refine r_iconst rfl ?_
      refine r_istore (L' := [_, _, _, _, _]) rfl rfl rfl ?_
      rw [qRuled_yes hp hw] at K
      refine l_ruC (by omega) hI hA hp (fun f2 g2 x h2 h3 => ?_) 0 (by omega) f g (FrQ.rf f) (FrG.rf g)
      refine r_iload_n rfl rfl ?_
      refine r_if_ne rfl (by omega) (fun hw0 => ?_) (fun hw0 => ?_)
      · refine r_iload_n rfl rfl ?_
        refine r_iret rfl ?_
        first | (rw [if_pos (by omega)] at K; exact K f2 g2 h2 h3) | (rw [if_neg (by omega)] at K; exact K f2 g2 h2 h3)
      · refine r_iload_n rfl rfl ?_
        refine r_goto rfl ?_
        refine r_iret rfl ?_
        first | (rw [if_pos (by omega)] at K; exact K f2 g2 h2 h3) | (rw [if_neg (by omega)] at K; exact K f2 g2 h2 h3)
    · refine r_if_n rfl (by decide) ?_
      refine r_bipush rfl ?_
      refine r_iret rfl ?_
      rw [qRuled_no (Or.inr (by omega))] at K
      exact K f g (FrQ.rf f) (FrG.rf g)
end FITS
