/-! The longest queue; parting litres -/
def lgR (rd : Rd) (t : Int) (s : Int × Int × Int) : Nat → Int × Int × Int
  | 0 => s
  | j + 1 => if (lgR rd t s j).1 < rd 4 j then (rd 4 j, t, (j : Int)) else lgR rd t s j
def lgN (pl : Pl) (al : Rd → Nat → Bool) (rd : Rd) : Nat → Int × Int × Int
  | 0 => (-1, -2, -2)
  | k + 1 => lgR (rIt pl al (-1) (k + 1) rd) (rd 5 0 + (k : Int)) (lgN pl al rd k) pl.2.1.toNat
def qLong (a : AS) (n w : Int) : Int := match a.w.pn with
  | none => -1
  | some (pl, _) => if (1 ≤ n ∧ n ≤ 100) ∧ (0 ≤ w ∧ w ≤ 2) then (if w = 0 then (if (lgN pl (AL a a.fo pl) a.w.rd n.toNat).1 < 0 then 0 else (lgN pl (AL a a.fo pl) a.w.rd n.toNat).1) else if w = 1 then (lgN pl (AL a a.fo pl) a.w.rd n.toNat).2.1 else (lgN pl (AL a a.fo pl) a.w.rd n.toNat).2.2) else -1
section LONGEST
variable {d : Nat} {σ : ZS} {f f0 f' : ZF} {g g' : ZG} {Q : ZQ} {N : Int} {rd : Rd} {p : Nat} {pl : Pl} {rd0 : Rd} {al : Rd → Nat → Bool} {cl : Int} {a : AS}
theorem lgR_rng {t : Int} {s : Int × Int × Int} (hr : ∀ j, j < 5 → 0 ≤ rd 4 j ∧ rd 4 j ≤ 99) (hs : -1 ≤ s.1 ∧ s.1 ≤ 99) : ∀ j, j ≤ 5 → -1 ≤ (lgR rd t s j).1 ∧ (lgR rd t s j).1 ≤ 99 := by
  intro j
  induction j with
  | zero => intro _; exact hs
  | succ j ih =>
    intro hj
    simp only [lgR]
    split
    · have := hr j (by omega); simp only; omega
    · exact ih (by omega)
theorem lgN_rng (hp : PlOk pl) (hv : VS pl N (-1) rd) : ∀ k : Nat, N + 7 * (k : Int) ≤ 1000000 → -1 ≤ (lgN pl al rd k).1 ∧ (lgN pl al rd k).1 ≤ 99 := by
  intro k
  induction k with
  | zero => intro _; simp [lgN]
  | succ k ih =>
    intro hN
    simp only [lgN]
    have h2 := hp.2.1
    exact lgR_rng (hv.it (al := al) hp (k + 1) hN).1.2.2.2.1 (ih (by omega)) _ (by omega)
theorem qLong_no {n w : Int} (h : a.w.pn = none ∨ ¬ ((1 ≤ n ∧ n ≤ 100) ∧ (0 ≤ w ∧ w ≤ 2))) : qLong a n w = -1 := by
  unfold qLong
  cases hp : a.w.pn with
  | none => rfl
  | some z => exact if_neg (by rcases h with h | h; rw [hp] at h; cases h; exact h)
theorem qLong_yes {n : Nat} {w : Int} (hp : a.w.pn = some (pl, rd0)) (h : (1 ≤ n ∧ n ≤ 100) ∧ (0 ≤ w ∧ w ≤ 2)) : qLong a (n : Int) w = (if w = 0 then (if (lgN pl (AL a a.fo pl) a.w.rd n).1 < 0 then 0 else (lgN pl (AL a a.fo pl) a.w.rd n).1) else if w = 1 then (lgN pl (AL a a.fo pl) a.w.rd n).2.1 else (lgN pl (AL a a.fo pl) a.w.rd n).2.2) := by
  unfold qLong
  rw [hp]
  simp only
  rw [if_pos (by omega), Int.toNat_natCast]
theorem l_lgI (hd1 : 0 ≤ d) (hs : Sh σ g) {m : Nat} (h2 : f 229 2 = (m : Int)) (hm5 : m ≤ 5) (hm : MRd (f 229) rd) {t : Int} (ht : rd 5 0 = t + 1) (hr : ∀ j, j < 5 → 0 ≤ rd 4 j ∧ rd 4 j ≤ 99) {s : Int × Int × Int} (hsr : -1 ≤ s.1 ∧ s.1 ≤ 99) {n w k : Int} (K : ∀ x, ZWp d zt229 124 [zr (some 219), zi n, zi w, zi (lgR rd t s m).1, zi (lgR rd t s m).2.1, zi (lgR rd t s m).2.2, zi k, x] [] σ f g Q) (j : Nat) (hj : j ≤ m) : ZWp d zt229 64 [zr (some 219), zi n, zi w, zi (lgR rd t s j).1, zi (lgR rd t s j).2.1, zi (lgR rd t s j).2.2, zi k, zi (j : Int)] [] σ f g Q := by
  refine r_iload rfl rfl ?_
  refine r_aload_n rfl rfl ?_
  refine r_getR rfl (by first | assumption | exact hs.o rfl) (by first | assumption | exact hs.g rfl) ?_
  refine r_iconst rfl ?_
  refine r_iald rfl (by first | assumption | exact hs.a rfl) (by omega) (by omega) ((zix (n := 2) rfl).trans h2) ?_
  refine r_icmp_ge rfl (by omega) (by omega) (fun hlt => ?_) (fun hlt => ?_)
  · have e : j = m := by omega
    subst e
    exact K _
  · refine r_aload_n rfl rfl ?_
    refine r_getR rfl (by first | assumption | exact hs.o rfl) (by first | assumption | exact hs.g rfl) ?_
    refine r_bipush rfl ?_
    refine r_iload rfl rfl ?_
    refine r_iadd rfl ?_
    have hw := hm.2.2.2.1 j (by omega)
    have hwr := hr j (by omega)
    have hbr := lgR_rng (t := t) hr hsr j (by omega)
    refine r_iald rfl (by first | assumption | exact hs.a rfl) (by omega) (by omega) ((zix (n := 42 + j) (by omega)).trans hw) ?_
    refine r_iload_n rfl rfl ?_
    refine r_icmp_gt rfl (by omega) (by omega) (fun hgt => ?_) (fun hgt => ?_)
    · refine r_aload_n rfl rfl ?_
      refine r_getR rfl (by first | assumption | exact hs.o rfl) (by first | assumption | exact hs.g rfl) ?_
      refine r_bipush rfl ?_
      refine r_iload rfl rfl ?_
      refine r_iadd rfl ?_
      refine r_iald rfl (by first | assumption | exact hs.a rfl) (by omega) (by omega) ((zix (n := 42 + j) (by omega)).trans hw) ?_
      refine r_istore_n (L' := [_, _, _, _, _, _, _, _]) rfl rfl rfl ?_
      refine r_aload_n rfl rfl ?_
      refine r_getR rfl (by first | assumption | exact hs.o rfl) (by first | assumption | exact hs.g rfl) ?_
      refine r_bipush rfl ?_
      refine r_iald rfl (by first | assumption | exact hs.a rfl) (by omega) (by omega) ((zix (n := 10) rfl).trans (hm.1.trans ht)) ?_
      refine r_iconst rfl ?_
      refine r_isub rfl ?_
      refine r_istore (L' := [_, _, _, _, _, _, _, _]) rfl rfl rfl ?_
      refine r_iload rfl rfl ?_
      refine r_istore (L' := [_, _, _, _, _, _, _, _]) rfl rfl rfl ?_
      refine r_iinc (L' := [_, _, _, _, _, _, _, _]) rfl rfl rfl ?_
      refine r_goto rfl ?_
      first
      | (have e1 : lgR rd t s (j + 1) = (rd 4 j, t, (j : Int)) := if_pos (by omega); have := l_lgI hd1 hs h2 hm5 hm ht hr hsr K (j + 1) (by omega); rw [e1] at this; rw [show t + 1 - 1 = t by omega]; exact this)
      | (have e1 : lgR rd t s (j + 1) = lgR rd t s j := if_neg (by omega); have := l_lgI hd1 hs h2 hm5 hm ht hr hsr K (j + 1) (by omega); rw [e1] at this; exact this)
    · refine r_goto rfl ?_
      refine r_iinc (L' := [_, _, _, _, _, _, _, _]) rfl rfl rfl ?_
      refine r_goto rfl ?_
      first
      | (have e1 : lgR rd t s (j + 1) = (rd 4 j, t, (j : Int)) := if_pos (by omega); have := l_lgI hd1 hs h2 hm5 hm ht hr hsr K (j + 1) (by omega); rw [e1] at this; rw [show t + 1 - 1 = t by omega]; exact this)
      | (have e1 : lgR rd t s (j + 1) = lgR rd t s j := if_neg (by omega); have := l_lgI hd1 hs h2 hm5 hm ht hr hsr K (j + 1) (by omega); rw [e1] at this; exact this)
termination_by m - j
theorem l_lgO (hd1 : 10 ≤ d) (hs : Sh σ g) (ht : TM σ f0 g pl al (-1)) (hv : VS pl N (-1) rd) {n : Nat} (hN : N + 7 * (n : Int) ≤ 1000000) {w : Int} (K : ∀ f' x, FrM f0 f' → ZWp d zt229 130 [zr (some 219), zi (n : Int), zi w, zi (lgN pl al rd n).1, zi (lgN pl al rd n).2.1, zi (lgN pl al rd n).2.2, zi (n : Int), x] [] σ f' g Q) (k : Nat) (hk : k ≤ n) (f : ZF) (x : ZV) (hf : FrM f0 f) (h : MRd (f 229) (rIt pl al (-1) k rd)) : ZWp d zt229 50 [zr (some 219), zi (n : Int), zi w, zi (lgN pl al rd k).1, zi (lgN pl al rd k).2.1, zi (lgN pl al rd k).2.2, zi (k : Int), x] [] σ f g Q := by
  have hvN := hv.1.2.2.2.2.2.2
  refine r_iload rfl rfl ?_
  refine r_iload_n rfl rfl ?_
  refine r_icmp_ge rfl (by omega) (by omega) (fun hlt => ?_) (fun hlt => ?_)
  · have e : k = n := by omega
    subst e
    exact K f _ hf
  · refine r_aload_n rfl rfl ?_
    refine r_callV0 rfl rfl (by first | assumption | exact hs.o rfl) rfl (c_psv (by omega) hs (ht.fr hf) h (hv.it ht.2.1 k (by omega)).1 (by omega) (fun f1 hf1 ht1 hm1 hst1 => ?_))
    refine r_popi rfl ?_
    refine r_iconst rfl ?_
    refine r_istore (L' := [_, _, _, _, _, _, _, _]) rfl rfl rfl ?_
    have hp2 := ht.2.1.2.1
    refine l_lgI (rd := rIt pl al (-1) (k + 1) rd) (t := rd 5 0 + (k : Int)) (s := lgN pl al rd k) (m := pl.2.1.toNat) (by omega) hs (by rw [ht1.1.2.2.1]; omega) (by omega) hm1 (by rw [rIt_t]; omega) (hv.it (al := al) ht.2.1 (k + 1) (by omega)).1.2.2.2.1 (lgN_rng ht.2.1 hv k (by omega)) (fun x => ?_) 0 (by omega)
    refine r_iinc (L' := [_, _, _, _, _, _, _, _]) rfl rfl rfl ?_
    refine r_goto rfl ?_
    exact l_lgO hd1 hs ht hv hN K (k + 1) (by omega) f1 _ (hf.trans hf1) hm1
termination_by n - k
theorem c_longest (hd : 12 ≤ d) (hs : Sh σ g) (hM : MI f a) (hA : AOk N a) {n w : Int} (hni : IR n) (hwi : IR w) (K : ∀ f', FrMQ f f' → Q (some (zi (qLong a n w))) σ f' g) : ZCt d 229 [zr (some 219), zi n, zi w] σ f g Q := by
  refine ZCt.of' (L0 := [_, _, _, _, _, _, _, _]) (by omega) rfl rfl rfl (fun d hd1 => ?_)
  refine r_aload_n rfl rfl ?_
  refine r_callV0 rfl rfl (by first | assumption | exact hs.o rfl) rfl (c_shown (by omega) hs hM hA (fun pl rd0 hp => ?_) (fun hnp => ?_))
  · refine r_if_n rfl (by decide) ?_
    refine r_iload_n rfl rfl ?_
    refine r_i2l rfl (by omega) ?_
    refine r_lconst rfl ?_
    refine r_ldc2 rfl ?_
    refine r_callS3 rfl rfl rfl (c_in (by omega) (by omega) (by omega) (by omega) (fun hn => ?_) (fun hn => ?_))
    · refine r_if_n rfl (by decide) ?_
      refine r_iload_n rfl rfl ?_
      refine r_i2l rfl (by omega) ?_
      refine r_lconst rfl ?_
      refine r_ldc2 rfl ?_
      refine r_callS3 rfl rfl rfl (c_in (by omega) (by omega) (by omega) (by omega) (fun hw => ?_) (fun hw => ?_))
      · refine r_if_y rfl (by decide) ?_
        refine r_iconst rfl ?_
        refine r_istore_n (L' := [_, _, _, _, _, _, _, _]) rfl rfl rfl ?_
        refine r_bipush rfl ?_
        refine r_istore (L' := [_, _, _, _, _, _, _, _]) rfl rfl rfl ?_
        refine r_bipush rfl ?_
        refine r_istore (L' := [_, _, _, _, _, _, _, _]) rfl rfl rfl ?_
        refine r_aload_n rfl rfl ?_
        obtain ⟨hplo, hvr, hst⟩ := hA.plS hp
        have hN := hA.2.2.2.2.2.2.2
        have hvs := hvr.vs
        have ht0 : TM σ f g pl (AL a a.fo pl) (-1) := MI.tm hs hM hA hp
        have hm0 : MRd (f 229) a.w.rd := hM.w.2.1
        refine r_callV0 rfl rfl (by first | assumption | exact hs.o rfl) rfl (c_keeps (by omega) hs (fun f1 hk1 he1 => ?_))
        have ht1 : TM σ f1 g pl (AL a a.fo pl) (-1) := ht0.k1 he1
        have hm1 : MRd (f1 229) a.w.rd := by rw [he1 229 (by omega)]; exact hm0
        obtain ⟨nn, rfl⟩ := Int.eq_ofNat_of_zero_le (show 0 ≤ n by omega)
        refine r_iconst rfl ?_
        refine r_istore (L' := [_, _, _, _, _, _, _, _]) rfl rfl rfl ?_
        refine l_lgO (by omega) hs ht1 hvs (n := nn) (by omega) (fun f2 x hf2 => ?_) 0 (by omega) f1 _ (FrM.rf f1) hm1
        refine r_aload_n rfl rfl ?_
        refine r_callV0 rfl rfl (by first | assumption | exact hs.o rfl) rfl (c_laysBack (by omega) hs (hk1.m hf2) (fun f9 hk9 h99 he9 => ?_))
        rw [qLong_yes hp (by omega)] at K
        have hrg := lgN_rng (al := AL a a.fo pl) hplo hvs nn (by omega)
        have hfin : FrMQ f f9 := hk9.back h99 (fun i q => by rw [he9 219 (by omega), hf2.2.1 i (by omega) (by omega), he1 219 (by omega)])
        refine r_iload_n rfl rfl ?_
        refine r_if_ne rfl (by omega) (fun hw0 => ?_) (fun hw0 => ?_)
        · refine r_iload_n rfl rfl ?_
          refine r_iconst rfl ?_
          refine r_icmp_ne rfl (by omega) (by omega) (fun hw1 => ?_) (fun hw1 => ?_)
          · refine r_iload rfl rfl ?_
            refine r_iret rfl ?_
            first
            | (rw [if_pos (by omega), if_pos (by omega)] at K; exact K f9 hfin)
            | (rw [if_pos (by omega), if_neg (by omega)] at K; exact K f9 hfin)
            | (rw [if_neg (by omega), if_pos (by omega)] at K; exact K f9 hfin)
            | (rw [if_neg (by omega), if_neg (by omega)] at K; exact K f9 hfin)
          · refine r_iload rfl rfl ?_
            refine r_goto rfl ?_
            refine r_iret rfl ?_
            first
            | (rw [if_pos (by omega), if_pos (by omega)] at K; exact K f9 hfin)
            | (rw [if_pos (by omega), if_neg (by omega)] at K; exact K f9 hfin)
            | (rw [if_neg (by omega), if_pos (by omega)] at K; exact K f9 hfin)
            | (rw [if_neg (by omega), if_neg (by omega)] at K; exact K f9 hfin)
        · refine r_iload_n rfl rfl ?_
          refine r_if_ge rfl (by omega) (fun hneg => ?_) (fun hneg => ?_)
          · refine r_iload_n rfl rfl ?_
            refine r_goto rfl ?_
            refine r_iret rfl ?_
            first
            | (rw [if_pos (by omega), if_pos (by omega)] at K; exact K f9 hfin)
            | (rw [if_pos (by omega), if_neg (by omega)] at K; exact K f9 hfin)
            | (rw [if_neg (by omega), if_pos (by omega)] at K; exact K f9 hfin)
            | (rw [if_neg (by omega), if_neg (by omega)] at K; exact K f9 hfin)
          · refine r_iconst rfl ?_
            refine r_goto rfl ?_
            refine r_iret rfl ?_
            first
            | (rw [if_pos (by omega), if_pos (by omega)] at K; exact K f9 hfin)
            | (rw [if_pos (by omega), if_neg (by omega)] at K; exact K f9 hfin)
            | (rw [if_neg (by omega), if_pos (by omega)] at K; exact K f9 hfin)
            | (rw [if_neg (by omega), if_neg (by omega)] at K; exact K f9 hfin)
      · refine r_if_n rfl (by decide) ?_
        refine r_iconst rfl ?_
        refine r_iret rfl ?_
        first | (rw [qLong_no (Or.inr (by omega))] at K; exact K f (FrMQ.rf f)) | (rw [qLong_no (Or.inl hnp)] at K; exact K f (FrMQ.rf f))
    · refine r_if_y rfl (by decide) ?_
      refine r_iconst rfl ?_
      refine r_iret rfl ?_
      first | (rw [qLong_no (Or.inr (by omega))] at K; exact K f (FrMQ.rf f)) | (rw [qLong_no (Or.inl hnp)] at K; exact K f (FrMQ.rf f))
  · refine r_if_y rfl (by decide) ?_
    refine r_iconst rfl ?_
    refine r_iret rfl ?_
    first | (rw [qLong_no (Or.inr (by omega))] at K; exact K f (FrMQ.rf f)) | (rw [qLong_no (Or.inl hnp)] at K; exact K f (FrMQ.rf f))
theorem l_lgIC (hd1 : 0 ≤ d) (hs : Sh σ g) (gp : g 0 4 = some p) (po : PO σ g p) (hpc : PC f p pl) (hp2 : 0 ≤ pl.2.1 ∧ pl.2.1 ≤ 5) (h : RC f 47 rd) {t0 t : Int} {kk : Nat} (h37 : f 3 7 = t0) (ht : t0 + (kk : Int) = t) (hr : ∀ j, j < 5 → 0 ≤ rd 4 j ∧ rd 4 j ≤ 99) {s : Int × Int × Int} (hsr : -1 ≤ s.1 ∧ s.1 ≤ 99) {n w : Int} (K : ∀ x, ZWp d zt103 120 [zr (some 0), zi n, zi w, zr (some 47), zi (lgR rd t s pl.2.1.toNat).1, zi (lgR rd t s pl.2.1.toNat).2.1, zi (lgR rd t s pl.2.1.toNat).2.2, zi (kk : Int), x] [] σ f g Q) (j : Nat) (hj : j ≤ pl.2.1.toNat) : ZWp d zt103 65 [zr (some 0), zi n, zi w, zr (some 47), zi (lgR rd t s j).1, zi (lgR rd t s j).2.1, zi (lgR rd t s j).2.2, zi (kk : Int), zi (j : Int)] [] σ f g Q := by
  obtain ⟨oo, ⟨a1, a2, a3, a4, a5⟩, g0, g1, g2, g3, g4⟩ := hs.r47
  refine r_iload rfl rfl ?_
  refine r_aload_n rfl rfl ?_
  refine r_getR rfl (by first | assumption | exact hs.o rfl) gp ?_
  refine r_getI rfl po.1 hpc.2.1 ?_
  refine r_icmp_ge rfl (by omega) (by omega) (fun hlt => ?_) (fun hlt => ?_)
  · have e : j = pl.2.1.toNat := by omega
    subst e
    exact K _
  · refine r_aload_n rfl rfl ?_
    refine r_getR rfl (by first | assumption | exact hs.o rfl) g4 ?_
    refine r_iload rfl rfl ?_
    have hw := h.2.1 j (by omega)
    have hwr := hr j (by omega)
    have hbr := lgR_rng (t := t) hr hsr j (by omega)
    refine r_iald rfl (by first | assumption | exact hs.a rfl) (by omega) (by omega) ((zix (n := j) (by omega)).trans hw) ?_
    refine r_iload rfl rfl ?_
    refine r_icmp_le rfl (by omega) (by omega) (fun hle => ?_) (fun hle => ?_)
    · refine r_iinc (L' := [_, _, _, _, _, _, _, _, _]) rfl rfl rfl ?_
      refine r_goto rfl ?_
      first
      | (have e1 : lgR rd t s (j + 1) = (rd 4 j, t, (j : Int)) := if_pos (by omega); have := l_lgIC hd1 hs gp po hpc hp2 h h37 ht hr hsr K (j + 1) (by omega); rw [e1] at this; rw [ht]; exact this)
      | (have e1 : lgR rd t s (j + 1) = lgR rd t s j := if_neg (by omega); have := l_lgIC hd1 hs gp po hpc hp2 h h37 ht hr hsr K (j + 1) (by omega); rw [e1] at this; exact this)
    · refine r_aload_n rfl rfl ?_
      refine r_getR rfl (by first | assumption | exact hs.o rfl) g4 ?_
      refine r_iload rfl rfl ?_
      refine r_iald rfl (by first | assumption | exact hs.a rfl) (by omega) (by omega) ((zix (n := j) (by omega)).trans hw) ?_
      refine r_istore (L' := [_, _, _, _, _, _, _, _, _]) rfl rfl rfl ?_
      refine r_aload_n rfl rfl ?_
      refine r_getR rfl (by first | assumption | exact hs.o rfl) (by first | assumption | exact hs.g rfl) ?_
      refine r_getI rfl hs.r3.1 h37 ?_
      refine r_iload rfl rfl ?_
      refine r_iadd rfl ?_
      refine r_istore (L' := [_, _, _, _, _, _, _, _, _]) rfl rfl rfl ?_
      refine r_iload rfl rfl ?_
      refine r_istore (L' := [_, _, _, _, _, _, _, _, _]) rfl rfl rfl ?_
      refine r_iinc (L' := [_, _, _, _, _, _, _, _, _]) rfl rfl rfl ?_
      refine r_goto rfl ?_
      first
      | (have e1 : lgR rd t s (j + 1) = (rd 4 j, t, (j : Int)) := if_pos (by omega); have := l_lgIC hd1 hs gp po hpc hp2 h h37 ht hr hsr K (j + 1) (by omega); rw [e1] at this; rw [ht]; exact this)
      | (have e1 : lgR rd t s (j + 1) = lgR rd t s j := if_neg (by omega); have := l_lgIC hd1 hs gp po hpc hp2 h h37 ht hr hsr K (j + 1) (by omega); rw [e1] at this; exact this)
termination_by pl.2.1.toNat - j
theorem l_lgOC (hd1 : 5 ≤ d) (hs : Sh σ g) (ht : TR σ f0 g p pl al (-1)) (hv : VS pl N (-1) rd) {n : Nat} (hN : N + 7 * (n : Int) ≤ 1000000) (gp : g 0 4 = some p) (h37 : ∀ f', FrC 47 f0 f' → f' 3 7 = rd 5 0) {w : Int} (K : ∀ f' x, FrC 47 f0 f' → ZWp d zt103 126 [zr (some 0), zi (n : Int), zi w, zr (some 47), zi (lgN pl al rd n).1, zi (lgN pl al rd n).2.1, zi (lgN pl al rd n).2.2, zi (n : Int), x] [] σ f' g Q) (k : Nat) (hk : k ≤ n) (f : ZF) (x : ZV) (hf : FrC 47 f0 f) (h : RC f 47 (rIt pl al (-1) k rd)) : ZWp d zt103 47 [zr (some 0), zi (n : Int), zi w, zr (some 47), zi (lgN pl al rd k).1, zi (lgN pl al rd k).2.1, zi (lgN pl al rd k).2.2, zi (k : Int), x] [] σ f g Q := by
  have hvN := hv.1.2.2.2.2.2.2
  refine r_iload rfl rfl ?_
  refine r_iload_n rfl rfl ?_
  refine r_icmp_ge rfl (by omega) (by omega) (fun hlt => ?_) (fun hlt => ?_)
  · have e : k = n := by omega
    subst e
    exact K f _ hf
  · refine r_aload_n rfl rfl ?_
    refine r_getR rfl (by first | assumption | exact hs.o rfl) (by first | assumption | exact hs.g rfl) ?_
    refine r_aload_n rfl rfl ?_
    refine r_callV1 rfl rfl (by first | assumption | exact hs.o rfl) rfl (k_drv (by omega) (ht.fr rr47 hf) rr47 hs.r47 h (hv.it ht.2.2.1 k (by omega)) (by omega) (fun f1 hf1 ht1 hc1 hst1 => ?_))
    refine r_popi rfl ?_
    refine r_iconst rfl ?_
    refine r_istore (L' := [_, _, _, _, _, _, _, _, _]) rfl rfl rfl ?_
    have hp2 := ht.2.2.1.2.1
    refine l_lgIC (rd := rIt pl al (-1) (k + 1) rd) (t := rd 5 0 + (k : Int)) (s := lgN pl al rd k) (kk := k) (by omega) hs gp ht1.1.po ht1.2.1 hp2 hc1 (h37 f1 (hf.trans hf1)) rfl (hv.it (al := al) ht.2.2.1 (k + 1) (by omega)).1.2.2.2.1 (lgN_rng ht.2.2.1 hv k (by omega)) (fun x => ?_) 0 (by omega)
    refine r_iinc (L' := [_, _, _, _, _, _, _, _, _]) rfl rfl rfl ?_
    refine r_goto rfl ?_
    exact l_lgOC hd1 hs ht hv hN gp h37 K (k + 1) (by omega) f1 _ (hf.trans hf1) hc1
termination_by n - k
theorem k_longest (hd : 7 ≤ d) (hI : CI σ f g a) (hA : AOk N a)  {n w : Int} (hni : IR n) (hwi : IR w) (K : ∀ f' g', FrQ f f' → FrG g g' → Q (some (zi (qLong a n w))) σ f' g') : ZCt d 103 [zr (some 0), zi n, zi w] σ f g Q := by
  refine ZCt.of' (L0 := [_, _, _, _, _, _, _, _, _]) (by omega) rfl rfl rfl (fun d hd1 => ?_)
  have hs := hI.sh
  cases hp : a.w.pn with
  | none =>
    rw [qLong_no (Or.inl hp)] at K
    refine r_aload_n rfl rfl ?_
    refine r_getR rfl (by first | assumption | exact hs.o rfl) (hI.pln hp) ?_
    refine r_ifnullN rfl ?_
    refine r_iconst rfl ?_
    refine r_iret rfl ?_
    exact K f g (FrQ.rf f) (FrG.rf g)
  | some q =>
    obtain ⟨pl, rd0⟩ := q
    obtain ⟨p0, gp, p240, po, hpc, hrc⟩ := hI.plS hp
    obtain ⟨hplo, hvr, hst⟩ := hA.plS hp
    have hN := hA.2.2.2.2.2.2.2
    have hvs := hvr.vs
    refine r_aload_n rfl rfl ?_
    refine r_getR rfl (by first | assumption | exact hs.o rfl) gp ?_
    refine r_ifnullS rfl ?_
    refine r_iload_n rfl rfl ?_
    refine r_iconst rfl ?_
    refine r_bipush rfl ?_
    refine r_callS3 rfl rfl rfl (k_within (by omega) hni (by omega) (by omega) (fun hn => ?_) (fun hn => ?_))
    · refine r_if_n rfl (by decide) ?_
      refine r_iload_n rfl rfl ?_
      refine r_iconst rfl ?_
      refine r_iconst rfl ?_
      refine r_callS3 rfl rfl rfl (k_within (by omega) hwi (by omega) (by omega) (fun hw => ?_) (fun hw => ?_))
      · refine r_if_y rfl (by decide) ?_
        refine r_aload_n rfl rfl ?_
        refine r_callV0 rfl rfl (by first | assumption | exact hs.o rfl) rfl (k_tryNow (by omega) hI hA hp gp p240 po hpc (fun f1 g1 hf1 hg1 ht1 hc1 => ?_))
        have hs1 := hs.frg hg1
        obtain ⟨oo, ⟨a1, a2, a3, a4, a5⟩, gg0, gg1, gg2, gg3, gg4⟩ := hs1.r47
        obtain ⟨nn, rfl⟩ := Int.eq_ofNat_of_zero_le (show 0 ≤ n by omega)
        refine r_astore_n (L' := [_, _, _, _, _, _, _, _, _]) rfl rfl rfl ?_
        refine r_iconst rfl ?_
        refine r_istore (L' := [_, _, _, _, _, _, _, _, _]) rfl rfl rfl ?_
        refine r_bipush rfl ?_
        refine r_istore (L' := [_, _, _, _, _, _, _, _, _]) rfl rfl rfl ?_
        refine r_bipush rfl ?_
        refine r_istore (L' := [_, _, _, _, _, _, _, _, _]) rfl rfl rfl ?_
        refine r_iconst rfl ?_
        refine r_istore (L' := [_, _, _, _, _, _, _, _, _]) rfl rfl rfl ?_
        have hgp : g1 0 4 = some p0 := (hg1 0 4 (by omega)).trans gp
        refine l_lgOC (by omega) hs1 ht1 hvs (n := nn) (by omega) hgp (fun f2 h2 => (congrFun ((hf1.c47 h2) 3 (by omega)) 7).trans hI.w.2.1.2.2.1) (fun f2 x h2 => ?_) 0 (by omega) f1 _ (FrC.rf 47 f1) hc1
        rw [qLong_yes hp (by omega)] at K
        have hrg := lgN_rng (al := AL a a.fo pl) hplo hvs nn (by omega)
        have hfq := hf1.c47 h2
        refine r_iload_n rfl rfl ?_
        refine r_if_ne rfl (by omega) (fun hw0 => ?_) (fun hw0 => ?_)
        · refine r_iload_n rfl rfl ?_
          refine r_iconst rfl ?_
          refine r_icmp_ne rfl (by omega) (by omega) (fun hw1 => ?_) (fun hw1 => ?_)
          · refine r_iload rfl rfl ?_
            refine r_iret rfl ?_
            first
            | (rw [if_pos (by omega)] at K; by_cases q : (lgN pl (AL a a.fo pl) a.w.rd nn).1 ≤ 0; (rw [if_pos q]; by_cases q2 : (lgN pl (AL a a.fo pl) a.w.rd nn).1 < 0; (rw [if_pos q2] at K; exact K f2 g1 hfq hg1); (rw [if_neg q2, show (lgN pl (AL a a.fo pl) a.w.rd nn).1 = 0 by omega] at K; exact K f2 g1 hfq hg1)); (rw [if_neg q]; rw [if_neg (by omega)] at K; exact K f2 g1 hfq hg1))
            | (rw [if_neg (by omega), if_pos (by omega)] at K; exact K f2 g1 hfq hg1)
            | (rw [if_neg (by omega), if_neg (by omega)] at K; exact K f2 g1 hfq hg1)
          · refine r_iload rfl rfl ?_
            refine r_goto rfl ?_
            refine r_iret rfl ?_
            first
            | (rw [if_pos (by omega)] at K; by_cases q : (lgN pl (AL a a.fo pl) a.w.rd nn).1 ≤ 0; (rw [if_pos q]; by_cases q2 : (lgN pl (AL a a.fo pl) a.w.rd nn).1 < 0; (rw [if_pos q2] at K; exact K f2 g1 hfq hg1); (rw [if_neg q2, show (lgN pl (AL a a.fo pl) a.w.rd nn).1 = 0 by omega] at K; exact K f2 g1 hfq hg1)); (rw [if_neg q]; rw [if_neg (by omega)] at K; exact K f2 g1 hfq hg1))
            | (rw [if_neg (by omega), if_pos (by omega)] at K; exact K f2 g1 hfq hg1)
            | (rw [if_neg (by omega), if_neg (by omega)] at K; exact K f2 g1 hfq hg1)
        · refine r_iconst rfl ?_
          refine r_iload rfl rfl ?_
          refine r_callS2 rfl rfl rfl (c_max (by omega) (by omega) (by omega) ?_)
          refine r_iret rfl ?_
          first
          | (rw [if_pos (by omega)] at K; by_cases q : (lgN pl (AL a a.fo pl) a.w.rd nn).1 ≤ 0; (rw [if_pos q]; by_cases q2 : (lgN pl (AL a a.fo pl) a.w.rd nn).1 < 0; (rw [if_pos q2] at K; exact K f2 g1 hfq hg1); (rw [if_neg q2, show (lgN pl (AL a a.fo pl) a.w.rd nn).1 = 0 by omega] at K; exact K f2 g1 hfq hg1)); (rw [if_neg q]; rw [if_neg (by omega)] at K; exact K f2 g1 hfq hg1))
          | (rw [if_neg (by omega), if_pos (by omega)] at K; exact K f2 g1 hfq hg1)
          | (rw [if_neg (by omega), if_neg (by omega)] at K; exact K f2 g1 hfq hg1)
      · refine r_if_n rfl (by decide) ?_
        refine r_iconst rfl ?_
        refine r_iret rfl ?_
        rw [qLong_no (Or.inr (by omega))] at K
        exact K f g (FrQ.rf f) (FrG.rf g)
    · refine r_if_y rfl (by decide) ?_
      refine r_iconst rfl ?_
      refine r_iret rfl ?_
      rw [qLong_no (Or.inr (by omega))] at K
      exact K f g (FrQ.rf f) (FrG.rf g)
end LONGEST
