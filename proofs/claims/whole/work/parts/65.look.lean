/-! Where to look next: the class -/
def cV (P : Nat → Bool) (C : Nat → Int) (v : Int) : Nat → Int
  | 0 => 0
  | r + 1 => cV P C v r + (if P r = true ∧ C r = v then 1 else 0)
def mxV (G : Nat → Int) : Nat → Int
  | 0 => 0
  | j + 1 => if G j ≤ mxV G j then mxV G j else G j
def bsF (V : Nat → Int) : Nat → Nat
  | 0 => 0
  | k + 1 => if V (k + 1) < V (bsF V k) then k + 1 else bsF V k
def lkC0 (a : AS) (pl : Pl) (rd0 : Rd) (n k r : Nat) : Int := rIt pl (AL a ((r : Int) - 1) pl) (-1) n rd0 0 k
/-- of how many that fit at most a car is in one cell -/
def lkVk (P : Nat → Bool) (C : Nat → Nat → Int) (m k : Nat) : Int := mxV (fun j => cV P (C k) ((j : Int) - 1) m) 21
def lkAn (P : Nat → Bool) (C : Nat → Nat → Int) (m : Nat) (w : Int) : Int := if ((ruL P m).length : Int) = 0 then -2 else if w = 0 then (bsF (lkVk P C m) 5 : Int) else lkVk P C m (bsF (lkVk P C m) 5)
def qLook (a : AS) (n w : Int) : Int := match a.w.pn with
  | none => -1
  | some (pl, rd0) => if (0 ≤ n ∧ n ≤ 60) ∧ (0 ≤ w ∧ w ≤ 1) then lkAn (ruF a pl rd0) (lkC0 a pl rd0 n.toNat) (a.rk + 1) w else -1
section LOOK
variable {d : Nat} {σ : ZS} {f f0 f' : ZF} {g g' : ZG} {Q : ZQ} {n m N : Int} {rd rd' : Rd} {r p : Nat} {pl : Pl} {rd0 : Rd} {al : Rd → Nat → Bool} {cl : Int} {a : AS}
theorem cV_rng {P : Nat → Bool} {C : Nat → Int} {v : Int} : ∀ r : Nat, 0 ≤ cV P C v r ∧ cV P C v r ≤ (r : Int) := by
  intro r
  induction r with
  | zero => simp [cV]
  | succ r ih => simp only [cV]; split <;> omega
theorem mxV_rng {G : Nat → Int} {M : Int} (hM : 0 ≤ M) (h : ∀ j, G j ≤ M) : ∀ j : Nat, 0 ≤ mxV G j ∧ mxV G j ≤ M := by
  intro j
  induction j with
  | zero => simp [mxV]; exact hM
  | succ j ih => have := h j; simp only [mxV]; split <;> omega
theorem qLook_no {n w : Int} (h : a.w.pn = none ∨ ¬ ((0 ≤ n ∧ n ≤ 60) ∧ (0 ≤ w ∧ w ≤ 1))) : qLook a n w = -1 := by
  unfold qLook
  cases hp : a.w.pn with
  | none => rfl
  | some z => exact if_neg (by rcases h with h | h; rw [hp] at h; cases h; exact h)
theorem qLook_yes {n : Nat} {w : Int} (hp : a.w.pn = some (pl, rd0)) (h : n ≤ 60 ∧ (0 ≤ w ∧ w ≤ 1)) : qLook a (n : Int) w = lkAn (ruF a pl rd0) (lkC0 a pl rd0 n) (a.rk + 1) w := by
  unfold qLook
  rw [hp]
  simp only
  rw [if_pos (by omega), Int.toNat_natCast]
theorem l_afill (hd1 : 0 ≤ d) (ha : zA σ 53 100 126) (K : ∀ f', (∀ c, c ≠ 53 → f' c = f0 c) → (∀ i, i < 126 → f' 53 i = 0) → Q none σ f' g) (k : Nat) (hk : k ≤ 126) (f : ZF) (hf : ∀ c, c ≠ 53 → f c = f0 c) (h0 : ∀ i, i < k → f 53 i = 0) : ZWp d zt122 5 [zr (some 53), zi 0, zi (k : Int), zi ((126 : Nat) : Int)] [] σ f g Q := by
  refine r_iload_n rfl rfl ?_
  refine r_iload_n rfl rfl ?_
  refine r_icmp_ge rfl (by omega) (by omega) (fun hge => ?_) (fun hge => ?_)
  · have e : k = 126 := by omega
    subst e
    refine r_ret rfl ?_
    exact K f hf h0
  · refine r_aload_n rfl rfl ?_
    refine r_iload_n rfl rfl ?_
    refine r_iload_n rfl rfl ?_
    refine r_iastN (k) rfl (by first | assumption | exact hs.a rfl) (by omega) (by omega) (by omega) ?_
    refine r_iinc (L' := [_, _, _, _]) rfl rfl rfl ?_
    refine r_goto rfl ?_
    refine l_afill hd1 ha K (k + 1) (by omega) _ (fun c q => (up2_o _ _ q).trans (hf c q)) (fun i hi => ?_)
    by_cases e : i = k
    · subst e; exact up2_same _ _ _ _
    · rw [up2_ne _ _ (fun z => e z.2)]; exact h0 i (by omega)
termination_by 126 - k
theorem k_afill (hd : 1 ≤ d) (ha : zA σ 53 100 126) (K : ∀ f', (∀ c, c ≠ 53 → f' c = f c) → (∀ i, i < 126 → f' 53 i = 0) → Q none σ f' g) : ZCt d 122 [zr (some 53), zi 0] σ f g Q := by
  refine ZCt.of' (L0 := [_, _, _, _]) (by omega) rfl rfl rfl (fun d hd1 => ?_)
  refine r_iconst rfl ?_
  refine r_istore_n (L' := [_, _, _, _]) rfl rfl rfl ?_
  refine r_aload_n rfl rfl ?_
  refine r_alen rfl ha (by omega) (by omega) ?_
  refine r_istore_n (L' := [_, _, _, _]) rfl rfl rfl ?_
  exact l_afill (by omega) ha K 0 (by omega) f (fun _ _ => rfl) (fun i q => by omega)
theorem l_cc (hd1 : 0 ≤ d) (hs : Sh σ g) (hrc : RC f0 47 rd) (ho : RdOk n m N rd) {T : Nat → Nat → Int} (hT : ∀ k j, 0 ≤ T k j ∧ T k j ≤ 100) (K : ∀ f', (∀ c, c ≠ 53 → f' c = f0 c) → (∀ k j, k < 6 → j < 21 → f' 53 (21 * k + j) = T k j + (if rd 0 k + 1 = (j : Int) then 1 else 0)) → Q none σ f' g) (c : Nat) (hc : c ≤ 6) (f : ZF) (hf : ∀ c, c ≠ 53 → f c = f0 c) (ht : ∀ k j, k < 6 → j < 21 → f 53 (21 * k + j) = if k < c then T k j + (if rd 0 k + 1 = (j : Int) then 1 else 0) else T k j) : ZWp d zt123 2 [zr (some 0), zr (some 47), zi (c : Int)] [] σ f g Q := by
  obtain ⟨oo, ⟨a1, a2, a3, a4, a5⟩, g0, g1, g2, g3, g4⟩ := hs.r47
  refine r_iload_n rfl rfl ?_
  refine r_bipush rfl ?_
  refine r_icmp_ge rfl (by omega) (by omega) (fun hge => ?_) (fun hge => ?_)
  · have e : c = 6 := by omega
    subst e
    refine r_ret rfl ?_
    refine K f hf (fun k j hk hj => ?_)
    rw [ht k j hk hj, if_pos hk]
  · refine r_aload_n rfl rfl ?_
    refine r_getR rfl (by first | assumption | exact hs.o rfl) (by first | assumption | exact hs.g rfl) ?_
    refine r_iload_n rfl rfl ?_
    refine r_bipush rfl ?_
    refine r_imul rfl ?_
    refine r_aload_n rfl rfl ?_
    refine r_getR rfl (by first | assumption | exact hs.o rfl) g0 ?_
    refine r_iload_n rfl rfl ?_
    have hcc := (hrc.fr (f' := f) (fun q q1 q2 => hf q (by omega))).1 c (by omega)
    have hok := ho.2.2.1 c (by omega)
    have hn1 := ho.1
    obtain ⟨jj, hjj⟩ := Int.eq_ofNat_of_zero_le (show 0 ≤ rd 0 c + 1 by omega)
    have ht1 := (ht c jj (by omega) (by omega))
    rw [if_neg (by omega)] at ht1
    refine r_iald rfl (by first | assumption | exact hs.a rfl) (by omega) (by omega) ((zix (n := c) (by omega)).trans hcc.1) ?_
    refine r_iadd rfl ?_
    refine r_iconst rfl ?_
    refine r_iadd rfl ?_
    refine r_dup2 rfl ?_
    refine r_iald rfl (by first | assumption | exact hs.a rfl) (by omega) (by omega) ((zix (n := 21 * c + jj) (by omega)).trans ht1) ?_
    refine r_iconst rfl ?_
    refine r_iadd rfl ?_
    refine r_iastN (21 * c + jj) rfl (by first | assumption | exact hs.a rfl) (by omega) (by omega) (by omega) ?_
    refine r_iinc (L' := [_, _, _]) rfl rfl rfl ?_
    refine r_goto rfl ?_
    refine l_cc hd1 hs hrc ho hT K (c + 1) (by omega) _ (fun q z => (up2_o _ _ z).trans (hf q z)) (fun k j hk hj => ?_)
    by_cases e : 21 * k + j = 21 * c + jj
    · have e1 : k = c := by omega
      have e2 : j = jj := by omega
      subst e1
      subst e2
      rw [up2_same, if_pos (show k < k + 1 by omega), if_pos (show rd 0 k + 1 = (j : Int) by omega)]
    · rw [up2_ne _ _ (fun z => e z.2), ht k j hk hj]
      by_cases e1 : k < c
      · rw [if_pos e1, if_pos (show k < c + 1 by omega)]
      · rw [if_neg e1]
        by_cases e3 : k < c + 1
        · have e4 : k = c := by omega
          subst e4
          rw [if_pos e3, if_neg (show ¬ rd 0 k + 1 = (j : Int) by omega), Int.add_zero]
        · rw [if_neg e3]
termination_by 6 - c
theorem k_cc (hd : 1 ≤ d) (hs : Sh σ g) (hrc : RC f 47 rd) (ho : RdOk n m N rd) {T : Nat → Nat → Int} (hT : ∀ k j, 0 ≤ T k j ∧ T k j ≤ 100) (ht : ∀ k j, k < 6 → j < 21 → f 53 (21 * k + j) = T k j) (K : ∀ f', (∀ c, c ≠ 53 → f' c = f c) → (∀ k j, k < 6 → j < 21 → f' 53 (21 * k + j) = T k j + (if rd 0 k + 1 = (j : Int) then 1 else 0)) → Q none σ f' g) : ZCt d 123 [zr (some 0), zr (some 47)] σ f g Q := by
  refine ZCt.of' (L0 := [_, _, _]) (by omega) rfl rfl rfl (fun d hd1 => ?_)
  refine r_iconst rfl ?_
  refine r_istore_n (L' := [_, _, _]) rfl rfl rfl ?_
  exact l_cc (by omega) hs hrc ho hT K 0 (by omega) f (fun _ _ => rfl) (fun k j hk hj => by rw [if_neg (by omega)]; exact ht k j hk hj)
theorem l_ma (hd1 : 1 ≤ d) (hs : Sh σ g) {c : Nat} (hc : c < 6) {G : Nat → Int} (hG : ∀ j, 0 ≤ G j ∧ G j ≤ 100) (ht : ∀ j, j < 21 → f 53 (21 * c + j) = G j) (K : Q (some (zi (mxV G 21))) σ f g) (j : Nat) (hj : j ≤ 21) : ZWp d zt124 4 [zr (some 0), zi (c : Int), zi (mxV G j), zi (j : Int)] [] σ f g Q := by
  refine r_iload_n rfl rfl ?_
  refine r_bipush rfl ?_
  refine r_icmp_gt rfl (by omega) (by omega) (fun hgt => ?_) (fun hgt => ?_)
  · have e : j = 21 := by omega
    subst e
    refine r_iload_n rfl rfl ?_
    refine r_iret rfl ?_
    exact K
  · refine r_iload_n rfl rfl ?_
    refine r_aload_n rfl rfl ?_
    refine r_getR rfl (by first | assumption | exact hs.o rfl) (by first | assumption | exact hs.g rfl) ?_
    refine r_iload_n rfl rfl ?_
    refine r_bipush rfl ?_
    refine r_imul rfl ?_
    refine r_iload_n rfl rfl ?_
    refine r_iadd rfl ?_
    have htj := ht j (by omega)
    have hGj := hG j
    have hmx := mxV_rng (G := G) (M := 100) (by omega) (fun j => (hG j).2) j
    refine r_iald rfl (by first | assumption | exact hs.a rfl) (by omega) (by omega) ((zix (n := 21 * c + j) (by omega)).trans htj) ?_
    refine r_callS2 rfl rfl rfl (c_max (by omega) (by omega) (by omega) ?_)
    refine r_istore_n (L' := [_, _, _, _]) rfl rfl rfl ?_
    refine r_iinc (L' := [_, _, _, _]) rfl rfl rfl ?_
    refine r_goto rfl ?_
    exact l_ma hd1 hs hc hG ht K (j + 1) (by omega)
termination_by 21 - j
theorem k_ma (hd : 2 ≤ d) (hs : Sh σ g) {c : Nat} (hc : c < 6) {G : Nat → Int} (hG : ∀ j, 0 ≤ G j ∧ G j ≤ 100) (ht : ∀ j, j < 21 → f 53 (21 * c + j) = G j) (K : Q (some (zi (mxV G 21))) σ f g) : ZCt d 124 [zr (some 0), zi (c : Int)] σ f g Q := by
  refine ZCt.of' (L0 := [_, _, _, _]) (by omega) rfl rfl rfl (fun d hd1 => ?_)
  refine r_iconst rfl ?_
  refine r_istore_n (L' := [_, _, _, _]) rfl rfl rfl ?_
  refine r_iconst rfl ?_
  refine r_istore_n (L' := [_, _, _, _]) rfl rfl rfl ?_
  exact l_ma (by omega) hs hc hG ht K 0 (by omega)
theorem l_lkR (hd1 : 6 ≤ d) {f00 : ZF} {g00 : ZG} (hI : CI σ f00 g00 a) (hA : AOk N a) (hp : a.w.pn = some (pl, rd0)) {n : Nat} (hn60 : n ≤ 60) {w : Int} (K : ∀ f' g' x4 x, FrQ f00 f' → FrG g00 g' → (∀ k' j, k' < 6 → j < 21 → f' 53 (21 * k' + j) = cV (ruF a pl rd0) (lkC0 a pl rd0 n k') ((j : Int) - 1) (a.rk + 1)) → ZWp d zt121 94 [zr (some 0), zi (n : Int), zi w, zi ((ruL (ruF a pl rd0) (a.rk + 1)).length : Int), x4, x] [] σ f' g' Q) (k : Nat) (hk : k ≤ a.rk + 1) (f : ZF) (g : ZG) (x : ZV) (hf : FrQ f00 f) (hg : FrG g00 g) (htab : (∀ k' j, k' < 6 → j < 21 → f 53 (21 * k' + j) = cV (ruF a pl rd0) (lkC0 a pl rd0 n k') ((j : Int) - 1) k)) : ZWp d zt121 41 [zr (some 0), zi (n : Int), zi w, zi ((ruL (ruF a pl rd0) k).length : Int), zi ((k : Int) - 1), x] [] σ f g Q := by
  have hIf := hI.fr hf hg
  have hs := hIf.sh
  obtain ⟨p0, gp, p240, po, hpc, hrc⟩ := hIf.plS hp
  obtain ⟨hplo, hvr, hst⟩ := hA.plS hp
  have hp2 := hplo.2.1
  have hp3 := hplo.2.2.1
  have hrk := hA.1.2.1
  refine r_iload rfl rfl ?_
  refine r_aload_n rfl rfl ?_
  refine r_getI rfl (by first | assumption | exact hs.o rfl) hIf.rk ?_
  refine r_icmp_ge rfl (by omega) (by omega) (fun hge => ?_) (fun hge => ?_)
  · have e : k = a.rk + 1 := by omega
    subst e
    exact K f g _ _ hf hg htab
  · refine r_aload_n rfl rfl ?_
    refine r_aload_n rfl rfl ?_
    refine r_iload rfl rfl ?_
    refine r_callV1 rfl rfl (by first | assumption | exact hs.o rfl) rfl (k_tryB (rl := (k : Int) - 1) (by omega) hIf hA hp (by omega) (fun f1 g1 p hf1 hg1 ht1 hc1 hsc1 => ?_))
    have hs1 := hs.frg hg1
    have hlen := ruL_len (ruF a pl rd0) k
    refine r_callV1 rfl rfl (by first | assumption | exact hs.o rfl) rfl (k_fits (N := 0) (rd := rd0) (by omega) hs1 ht1 (hIf.fr hf1 hg1).cn hA.2.2.1.1 hst.vs (by omega) hc1 (fun f2 hf2 => ⟨fun hfit => ?_, fun hfit => ?_⟩)  )
    · refine r_if_n rfl (by decide) ?_
      refine r_aload_n rfl rfl ?_
      refine r_iload rfl rfl ?_
      have hI2 := hIf.fr (hf1.c47 hf2) hg1
      have e53 : f2 53 = f 53 := (hf2.1 53 (by omega) (by omega) (by omega) (by omega)).trans (hsc1 53 (by omega))
      refine r_callV1 rfl rfl (by first | assumption | exact hs.o rfl) rfl (k_tryB (rl := (k : Int) - 1) (by omega) hI2 hA hp (by omega) (fun f3 g3 p3 hf3 hg3 ht3 hc3 hsc3 => ?_))
      have hs3 := hs1.frg hg3
      refine r_astore (L' := [_, _, _, _, _, _]) rfl rfl rfl ?_
      refine r_aload_n rfl rfl ?_
      refine r_aload rfl rfl ?_
      refine r_iload_n rfl rfl ?_
      refine r_callV2 rfl rfl (by first | assumption | exact hs.o rfl) rfl (k_goneIn (N := 0) (n := n) (by omega) hs3 ht3 hst.vs (by omega) hc3 (fun f4 hf4 ht4 hc4 => ?_))
      have e534 : f4 53 = f 53 := (hf4.1 53 (by omega) (by omega) (by omega) (by omega)).trans ((hsc3 53 (by omega)).trans e53)
      refine r_popi rfl ?_
      refine r_aload_n rfl rfl ?_
      refine r_aload rfl rfl ?_
      refine r_callV1 rfl rfl (by first | assumption | exact hs.o rfl) rfl (k_cc (N := 0 + 7 * (n : Int)) (T := fun k' j => cV (ruF a pl rd0) (lkC0 a pl rd0 n k') ((j : Int) - 1) k) (by omega) hs3 hc4 (hst.vs.it (al := AL a ((k : Int) - 1) pl) hplo n (by omega)).1 (fun k' j => by have := cV_rng (P := ruF a pl rd0) (C := lkC0 a pl rd0 n k') (v := (j : Int) - 1) k; omega) (fun k' j hk' hj => by rw [e534]; exact htab k' j hk' hj) (fun f5 hf5 ht5 => ?_))
      refine r_iinc (L' := [_, _, _, _, _, _]) rfl rfl rfl ?_
      refine r_iinc (L' := [_, _, _, _, _, _]) rfl rfl rfl ?_
      refine r_goto rfl ?_
      rw [show (k : Int) - 1 + 1 = ((k + 1 : Nat) : Int) - 1 by omega]
      first
      | (have e1 := ruL_y (P := ruF a pl rd0) hfit
         have hfq : FrQ f00 f5 := fun c q => by rw [hf5 c (by omega)]; exact (((hf.trans (hf1.c47 hf2)).trans hf3).c47 hf4) c q
         have := fun x => l_lkR hd1 hI hA hp hn60 K (k + 1) (by omega) f5 g3 x hfq ((hg.trans hg1).trans hg3) (fun k' j hk' hj => by
           rw [ht5 k' j hk' hj]
           simp only [cV]
           congr 1
           by_cases q : rIt pl (AL a ((k : Int) - 1) pl) (-1) n rd0 0 k' + 1 = (j : Int)
           · rw [if_pos q, if_pos ⟨hfit, by show rIt pl (AL a ((k : Int) - 1) pl) (-1) n rd0 0 k' = (j : Int) - 1; omega⟩]
           · rw [if_neg q, if_neg (fun z => q (by have z2 : rIt pl (AL a ((k : Int) - 1) pl) (-1) n rd0 0 k' = (j : Int) - 1 := z.2; omega))])
         simp only [e1, List.length_append] at this
         exact this _)
      | (have e1 := ruL_n (P := ruF a pl rd0) hfit
         have hfq : FrQ f00 f2 := (hf.trans hf1).c47 hf2
         have e53 : f2 53 = f 53 := (hf2.1 53 (by omega) (by omega) (by omega) (by omega)).trans (hsc1 53 (by omega))
         have := fun x => l_lkR hd1 hI hA hp hn60 K (k + 1) (by omega) f2 g1 x hfq (hg.trans hg1) (fun k' j hk' hj => by
           rw [e53]
           simp only [cV]
           rw [if_neg (fun z => by have z1 := z.1; rw [show ruF a pl rd0 k = false from hfit] at z1; cases z1), Int.add_zero]
           exact htab k' j hk' hj)
         simp only [e1] at this
         exact this _)
    · refine r_if_y rfl (by decide) ?_
      refine r_iinc (L' := [_, _, _, _, _, _]) rfl rfl rfl ?_
      refine r_goto rfl ?_
      rw [show (k : Int) - 1 + 1 = ((k + 1 : Nat) : Int) - 1 by omega]
      first
      | (have e1 := ruL_y (P := ruF a pl rd0) hfit
         have hfq : FrQ f00 f5 := fun c q => by rw [hf5 c (by omega)]; exact (((hf.trans (hf1.c47 hf2)).trans hf3).c47 hf4) c q
         have := fun x => l_lkR hd1 hI hA hp hn60 K (k + 1) (by omega) f5 g3 x hfq ((hg.trans hg1).trans hg3) (fun k' j hk' hj => by
           rw [ht5 k' j hk' hj]
           simp only [cV]
           congr 1
           by_cases q : rIt pl (AL a ((k : Int) - 1) pl) (-1) n rd0 0 k' + 1 = (j : Int)
           · rw [if_pos q, if_pos ⟨hfit, by show rIt pl (AL a ((k : Int) - 1) pl) (-1) n rd0 0 k' = (j : Int) - 1; omega⟩]
           · rw [if_neg q, if_neg (fun z => q (by have z2 : rIt pl (AL a ((k : Int) - 1) pl) (-1) n rd0 0 k' = (j : Int) - 1 := z.2; omega))])
         simp only [e1, List.length_append] at this
         exact this _)
      | (have e1 := ruL_n (P := ruF a pl rd0) hfit
         have hfq : FrQ f00 f2 := (hf.trans hf1).c47 hf2
         have e53 : f2 53 = f 53 := (hf2.1 53 (by omega) (by omega) (by omega) (by omega)).trans (hsc1 53 (by omega))
         have := fun x => l_lkR hd1 hI hA hp hn60 K (k + 1) (by omega) f2 g1 x hfq (hg.trans hg1) (fun k' j hk' hj => by
           rw [e53]
           simp only [cV]
           rw [if_neg (fun z => by have z1 := z.1; rw [show ruF a pl rd0 k = false from hfit] at z1; cases z1), Int.add_zero]
           exact htab k' j hk' hj)
         simp only [e1] at this
         exact this _)
termination_by a.rk + 1 - k
theorem bsF_le {V : Nat → Int} : ∀ k, bsF V k ≤ k := by
  intro k
  induction k with
  | zero => simp [bsF]
  | succ k ih => simp only [bsF]; split <;> omega
theorem l_bsC (hd1 : 2 ≤ d) (hs : Sh σ g) {G : Nat → Nat → Int} (hG : ∀ k j, 0 ≤ G k j ∧ G k j ≤ 100) (ht : ∀ k j, k < 6 → j < 21 → f 53 (21 * k + j) = G k j) {V : Nat → Int} (hV : ∀ k, V k = mxV (G k) 21) {n w fi : Int} (K : ∀ x, ZWp d zt121 139 [zr (some 0), zi n, zi w, zi fi, zi (bsF V 5 : Int), x] [] σ f g Q) (k : Nat) (hk : k ≤ 5) : ZWp d zt121 107 [zr (some 0), zi n, zi w, zi fi, zi (bsF V k : Int), zi ((k + 1 : Nat) : Int)] [] σ f g Q := by
  refine r_iload rfl rfl ?_
  refine r_bipush rfl ?_
  refine r_icmp_ge rfl (by omega) (by omega) (fun hge => ?_) (fun hge => ?_)
  · have e : k = 5 := by omega
    subst e
    exact K _
  · refine r_aload_n rfl rfl ?_
    refine r_iload rfl rfl ?_
    refine r_callV1 rfl rfl (by first | assumption | exact hs.o rfl) rfl (k_ma (c := k + 1) (by omega) hs (by omega) (hG (k + 1)) (fun j hj => ht (k + 1) j (by omega) hj) ?_)
    refine r_aload_n rfl rfl ?_
    refine r_iload rfl rfl ?_
    have hb5 : bsF V k ≤ k := bsF_le k
    have hv1 := mxV_rng (G := G (k + 1)) (M := 100) (by omega) (fun j => (hG (k + 1) j).2) 21
    have hv2 := mxV_rng (G := G (bsF V k)) (M := 100) (by omega) (fun j => (hG (bsF V k) j).2) 21
    refine r_callV1 rfl rfl (by first | assumption | exact hs.o rfl) rfl (k_ma (c := bsF V k) (by omega) hs (by omega) (hG (bsF V k)) (fun j hj => ht (bsF V k) j (by omega) hj) ?_)
    refine r_icmp_ge rfl (by omega) (by omega) (fun hlt => ?_) (fun hlt => ?_)
    · refine r_iinc (L' := [_, _, _, _, _, _]) rfl rfl rfl ?_
      refine r_goto rfl ?_
      first
      | (have e1 : bsF V (k + 1) = k + 1 := if_pos (by rw [hV (k + 1), hV (bsF V k)]; omega); have := l_bsC hd1 hs hG ht hV K (k + 1) (by omega); rw [e1] at this; exact this)
      | (have e1 : bsF V (k + 1) = bsF V k := if_neg (by rw [hV (k + 1), hV (bsF V k)]; omega); have := l_bsC hd1 hs hG ht hV K (k + 1) (by omega); rw [e1] at this; exact this)
    · refine r_iload rfl rfl ?_
      refine r_istore (L' := [_, _, _, _, _, _]) rfl rfl rfl ?_
      refine r_iinc (L' := [_, _, _, _, _, _]) rfl rfl rfl ?_
      refine r_goto rfl ?_
      first
      | (have e1 : bsF V (k + 1) = k + 1 := if_pos (by rw [hV (k + 1), hV (bsF V k)]; omega); have := l_bsC hd1 hs hG ht hV K (k + 1) (by omega); rw [e1] at this; exact this)
      | (have e1 : bsF V (k + 1) = bsF V k := if_neg (by rw [hV (k + 1), hV (bsF V k)]; omega); have := l_bsC hd1 hs hG ht hV K (k + 1) (by omega); rw [e1] at this; exact this)
termination_by 5 - k
theorem k_look (hd : 7 ≤ d) (hI : CI σ f g a) (hA : AOk N a)  {n w : Int} (hni : IR n) (hwi : IR w) (K : ∀ f' g', FrQ f f' → FrG g g' → Q (some (zi (qLook a n w))) σ f' g') : ZCt d 121 [zr (some 0), zi n, zi w] σ f g Q := by
  refine ZCt.of' (L0 := [_, _, _, _, _, _]) (by omega) rfl rfl rfl (fun d hd1 => ?_)
  have hs := hI.sh
  cases hp : a.w.pn with
  | none =>
    rw [qLook_no (Or.inl hp)] at K
    refine r_aload_n rfl rfl ?_
    refine r_getR rfl (by first | assumption | exact hs.o rfl) (hI.pln hp) ?_
    refine r_ifnullN rfl ?_
    refine r_iconst rfl ?_
    refine r_iret rfl ?_
    exact K f g (FrQ.rf f) (FrG.rf g)
  | some q =>
    obtain ⟨pl, rd0⟩ := q
    obtain ⟨p0, gp, p240, po, hpc, hrc⟩ := hI.plS hp
    have hlen := ruL_len (ruF a pl rd0) (a.rk + 1)
    have hrk := hA.1.2.1
    refine r_aload_n rfl rfl ?_
    refine r_getR rfl (by first | assumption | exact hs.o rfl) gp ?_
    refine r_ifnullS rfl ?_
    refine r_iload_n rfl rfl ?_
    refine r_iconst rfl ?_
    refine r_bipush rfl ?_
    refine r_callS3 rfl rfl rfl (k_within (by omega) hni (by omega) (by omega) (fun hn => ?_) (fun hn => ?_))
    · refine r_if_n rfl (by decide) ?_
      refine r_iload_n rfl rfl ?_
      refine r_iconst rfl ?_
      refine r_iconst rfl ?_
      refine r_callS3 rfl rfl rfl (k_within (by omega) hwi (by omega) (by omega) (fun hw => ?_) (fun hw => ?_))
      · refine r_if_y rfl (by decide) ?_
        refine r_aload_n rfl rfl ?_
        refine r_getR rfl (by first | assumption | exact hs.o rfl) (by first | assumption | exact hs.g rfl) ?_
        refine r_iconst rfl ?_
        refine r_callS2 rfl rfl rfl (k_afill (by omega) (hs.a rfl) (fun f1 hf1 h01 => ?_))
        refine r_iconst rfl ?_
        refine r_istore_n (L' := [_, _, _, _, _, _]) rfl rfl rfl ?_
        refine r_iconst rfl ?_
        refine r_istore (L' := [_, _, _, _, _, _]) rfl rfl rfl ?_
        obtain ⟨nn, rfl⟩ := Int.eq_ofNat_of_zero_le (show 0 ≤ n by omega)
        rw [qLook_yes hp (by omega)] at K
        unfold lkAn at K
        have hfq1 : FrQ f f1 := fun c q => hf1 c (by omega)
        refine l_lkR (by omega) hI hA hp (n := nn) (by omega) (fun f2 g2 x4 x h2 h3 htab => ?_) 0 (by omega) f1 g _ hfq1 (FrG.rf g) (fun k j hk hj => by rw [h01 _ (by omega)]; rfl)
        have hs2 := hs.frg h3
        refine r_iload_n rfl rfl ?_
        refine r_if_ne rfl (by omega) (fun hfit => ?_) (fun hfit => ?_)
        · refine r_iconst rfl ?_
          refine r_istore (L' := [_, _, _, _, _, _]) rfl rfl rfl ?_
          refine r_iconst rfl ?_
          refine r_istore (L' := [_, _, _, _, _, _]) rfl rfl rfl ?_
          rw [if_neg hfit] at K
          have hGG : ∀ k j : Nat, 0 ≤ cV (ruF a pl rd0) (lkC0 a pl rd0 nn k) ((j : Int) - 1) (a.rk + 1) ∧ cV (ruF a pl rd0) (lkC0 a pl rd0 nn k) ((j : Int) - 1) (a.rk + 1) ≤ 100 := fun k j => by
            have := cV_rng (P := ruF a pl rd0) (C := lkC0 a pl rd0 nn k) (v := (j : Int) - 1) (a.rk + 1)
            omega
          refine l_bsC (V := lkVk (ruF a pl rd0) (lkC0 a pl rd0 nn) (a.rk + 1)) (G := fun k j => cV (ruF a pl rd0) (lkC0 a pl rd0 nn k) ((j : Int) - 1) (a.rk + 1)) (by omega) hs2 hGG htab (fun k => rfl) (fun x => ?_) 0 (by omega)
          have hb5 := bsF_le (V := lkVk (ruF a pl rd0) (lkC0 a pl rd0 nn) (a.rk + 1)) 5
          refine r_iload_n rfl rfl ?_
          refine r_if_ne rfl (by omega) (fun hw0 => ?_) (fun hw0 => ?_)
          · refine r_aload_n rfl rfl ?_
            refine r_iload rfl rfl ?_
            refine r_callV1 rfl rfl (by first | assumption | exact hs.o rfl) rfl (k_ma (c := bsF (lkVk (ruF a pl rd0) (lkC0 a pl rd0 nn) (a.rk + 1)) 5) (G := fun j => cV (ruF a pl rd0) (lkC0 a pl rd0 nn (bsF (lkVk (ruF a pl rd0) (lkC0 a pl rd0 nn) (a.rk + 1)) 5)) ((j : Int) - 1) (a.rk + 1)) (by omega) hs2 (by omega) (hGG _) (fun j hj => htab _ j (by omega) hj) ?_)
            refine r_iret rfl ?_
            first | (rw [if_pos (by omega)] at K; exact K f2 g2 h2 h3) | (rw [if_neg (by omega)] at K; exact K f2 g2 h2 h3)
          · refine r_iload rfl rfl ?_
            refine r_goto rfl ?_
            refine r_iret rfl ?_
            first | (rw [if_pos (by omega)] at K; exact K f2 g2 h2 h3) | (rw [if_neg (by omega)] at K; exact K f2 g2 h2 h3)
        · refine r_bipush rfl ?_
          refine r_iret rfl ?_
          rw [if_pos hfit] at K
          exact K f2 g2 h2 h3
      · refine r_if_n rfl (by decide) ?_
        refine r_iconst rfl ?_
        refine r_iret rfl ?_
        rw [qLook_no (Or.inr (by omega))] at K
        exact K f g (FrQ.rf f) (FrG.rf g)
    · refine r_if_y rfl (by decide) ?_
      refine r_iconst rfl ?_
      refine r_iret rfl ?_
      rw [qLook_no (Or.inr (by omega))] at K
      exact K f g (FrQ.rf f) (FrG.rf g)
end LOOK
