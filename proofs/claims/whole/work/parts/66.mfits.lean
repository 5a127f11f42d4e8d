/-! Notes and what fits them: the reference -/
def MN (s : Nat → Int) (w : AW) : Prop := s 145 = (w.ns : Int) ∧ ∀ i, i < w.ns → s (115 + 3 * i) = w.nt 0 i ∧ s (116 + 3 * i) = w.nt 1 i ∧ s (117 + 3 * i) = w.nt 2 i
/-- what the reference's trials of fits may change -/
def FrN (f f' : ZF) : Prop := (∀ c, c ≠ 219 → c ≠ 227 → c ≠ 228 → c ≠ 229 → c ≠ 235 → f' c = f c) ∧ (∀ i, i ≠ 18 → i ≠ 25 → f' 219 i = f 219 i) ∧ ∀ i, (i < 10 ∨ 67 ≤ i) → f' 229 i = f 229 i
theorem FrN.rf (f : ZF) : FrN f f := ⟨fun _ _ _ _ _ _ => rfl, fun _ _ _ => rfl, fun _ _ => rfl⟩
theorem FrN.m {a b c : ZF} (h1 : FrN a b) (h2 : FrM b c) : FrN a c := ⟨fun k q1 q2 q3 q4 q5 => (h2.1 k q1 q2 q3 q4).trans (h1.1 k q1 q2 q3 q4 q5), fun i q1 q2 => (h2.2.1 i q1 q2).trans (h1.2.1 i q1 q2), fun i q => (h2.2.2 i q).trans (h1.2.2 i q)⟩
theorem FrN.up {f0 f : ZF} {i : Nat} {v : Int} (h : FrN f0 f) : FrN f0 (up2 f 235 i v) := ⟨fun c q1 q2 q3 q4 q5 => (up2_o _ _ q5).trans (h.1 c q1 q2 q3 q4 q5), fun j q1 q2 => by rw [up2_o _ _ (by omega)]; exact h.2.1 j q1 q2, fun j q => by rw [up2_o _ _ (by omega)]; exact h.2.2 j q⟩
theorem FrN.trans {a b c : ZF} (h1 : FrN a b) (h2 : FrN b c) : FrN a c := ⟨fun k q1 q2 q3 q4 q5 => (h2.1 k q1 q2 q3 q4 q5).trans (h1.1 k q1 q2 q3 q4 q5), fun i q1 q2 => (h2.2.1 i q1 q2).trans (h1.2.1 i q1 q2), fun i q => (h2.2.2 i q).trans (h1.2.2 i q)⟩
section MFITS
variable {d : Nat} {σ : ZS} {f f0 f' : ZF} {g : ZG} {Q : ZQ} {n m N : Int} {rd rd' : Rd} {pl : Pl} {rd0 : Rd} {al : Rd → Nat → Bool} {cl : Int} {a : AS} {w : AW}
theorem Kp.frn {f0 f f' : ZF} (h : Kp f0 f) (h' : FrN f f') : Kp f0 f' := ⟨fun c q1 q2 q3 => (h'.1 c q1 (by omega) (by omega) (by omega) (by omega)).trans (h.1 c q1 q2 q3), fun i q1 q2 q3 q4 q5 q6 q7 q8 => (h'.2.1 i q1 q5).trans (h.2.1 i q1 q2 q3 q4 q5 q6 q7 q8), fun i q => (h'.2.2 i q).trans (h.2.2.1 i q), fun i q => by rw [h'.1 231 (by omega) (by omega) (by omega) (by omega) (by omega)]; exact h.2.2.2 i q⟩
theorem TM.c235 {i : Nat} {v : Int} (h : TM σ f g pl al cl) : TM σ (up2 f 235 i v) g pl al cl := h.fr2 (fun c q1 q2 => up2_o _ _ (by omega)) (fun i _ => by rw [up2_o _ _ (by omega)]) (fun i _ => by rw [up2_o _ _ (by omega)]) h.2.2.2.1 (by rw [up2_o _ _ (by omega)]; exact h.2.2.1)
theorem MN.fr {s s' : Nat → Int} (h : MN s w) (hns : w.ns ≤ 10) (e : ∀ i, 67 ≤ i → s' i = s i) : MN s' w := ⟨(e 145 (by omega)).trans h.1, fun i hi => by rw [e (115 + 3 * i) (by omega), e (116 + 3 * i) (by omega), e (117 + 3 * i) (by omega)]; exact h.2 i hi⟩
theorem c_cellOn (hd : 2 ≤ d) (hs : Sh σ g) (hm : MRd (f 229) rd) (ho : RdOk n m N rd) {k : Nat} (hk : k < 6) (K : Q (some (zi (rd 0 k))) σ f g) : ZCt d 242 [zr (some 219), zi (k : Int)] σ f g Q := by
  refine ZCt.of' (L0 := [_, _]) (by omega) rfl rfl rfl (fun d hd1 => ?_)
  refine r_aload_n rfl rfl ?_
  refine r_iload_n rfl rfl ?_
  refine r_callV1 rfl rfl (by first | assumption | exact hs.o rfl) rfl (c_mOn (by omega) hs hm ho hk (fun hon => ?_) (fun hoff => ?_))
  · refine r_if_n rfl (by decide) ?_
    refine r_aload_n rfl rfl ?_
    refine r_iload_n rfl rfl ?_
    refine r_callV1 rfl rfl (by first | assumption | exact hs.o rfl) rfl (c_cellOf (by omega) hs hk ?_)
    rw [hon.2.2.2.2.2.1]
    refine r_goto rfl ?_
    refine r_iret rfl ?_
    exact K
  · refine r_if_y rfl (by decide) ?_
    refine r_iconst rfl ?_
    refine r_iret rfl ?_
    rw [hoff] at K
    exact K
theorem l_ntS (hd1 : 2 ≤ d) (hs : Sh σ g) (hm : MRd (f 229) rd) (hR : RdOk n m N rd) (hn : MN (f 229) w) (ho : NtOk w) {s : Nat} (hs60 : s ≤ 60) (k1 : ntAt w s rd w.ns = true → Q (some (zi 1)) σ f g) (k2 : ntAt w s rd w.ns = false → Q (some (zi 0)) σ f g) (k : Nat) (hk : k ≤ w.ns) (hall : ntAt w s rd k = true) : ZWp d zt241 2 [zr (some 219), zi (s : Int), zi (3 * (k : Int))] [] σ f g Q := by
  have hns := ho.1
  refine r_iload_n rfl rfl ?_
  refine r_iconst rfl ?_
  refine r_aload_n rfl rfl ?_
  refine r_getR rfl (by first | assumption | exact hs.o rfl) (by first | assumption | exact hs.g rfl) ?_
  refine r_sipush rfl ?_
  refine r_iald rfl (by first | assumption | exact hs.a rfl) (by omega) (by omega) ((zix (n := 145) rfl).trans hn.1) ?_
  refine r_imul rfl ?_
  refine r_icmp_ge rfl (by omega) (by omega) (fun hge => ?_) (fun hge => ?_)
  · have e : k = w.ns := by omega
    subst e
    refine r_iconst rfl ?_
    refine r_zret rfl (by omega) ?_
    exact k1 hall
  · refine r_aload_n rfl rfl ?_
    refine r_getR rfl (by first | assumption | exact hs.o rfl) (by first | assumption | exact hs.g rfl) ?_
    refine r_bipush rfl ?_
    refine r_iload_n rfl rfl ?_
    refine r_iadd rfl ?_
    have hk2 := hn.2 k (by omega)
    have hok := ho.2 k (by omega)
    obtain ⟨cc, hcc⟩ := Int.eq_ofNat_of_zero_le hok.2.1.1
    have hcar := hR.2.2.1 cc (by omega)
    have hr1 := hR.1
    refine r_iald rfl (by first | assumption | exact hs.a rfl) (by omega) (by omega) ((zix (n := 115 + 3 * k) (by omega)).trans hk2.1) ?_
    refine r_iload_n rfl rfl ?_
    refine r_icmp_ne rfl (by omega) (by omega) (fun hne => ?_) (fun hne => ?_)
    · refine r_iinc (L' := [_, _, _]) rfl rfl rfl ?_
      refine r_goto rfl ?_
      rw [show (3 : Int) * (k : Int) + 3 = 3 * ((k + 1 : Nat) : Int) by omega]
      exact l_ntS hd1 hs hm hR hn ho hs60 k1 k2 (k + 1) (by omega) (by simp only [ntAt]; rw [hall, decide_eq_false (fun q => by first | exact hne q.1 | (have q2 := q.2; rw [hcc, Int.toNat_natCast] at q2; exact q2 heq))]; rfl)
    · refine r_aload_n rfl rfl ?_
      refine r_aload_n rfl rfl ?_
      refine r_getR rfl (by first | assumption | exact hs.o rfl) (by first | assumption | exact hs.g rfl) ?_
      refine r_bipush rfl ?_
      refine r_iload_n rfl rfl ?_
      refine r_iadd rfl ?_
      refine r_iconst rfl ?_
      refine r_iadd rfl ?_
      refine r_iald rfl (by first | assumption | exact hs.a rfl) (by omega) (by omega) ((zix (n := 116 + 3 * k) (by omega)).trans (hk2.2.1.trans hcc)) ?_
      refine r_callV1 rfl rfl (by first | assumption | exact hs.o rfl) rfl (c_cellOn (by omega) hs hm hR (by omega) ?_)
      refine r_aload_n rfl rfl ?_
      refine r_getR rfl (by first | assumption | exact hs.o rfl) (by first | assumption | exact hs.g rfl) ?_
      refine r_bipush rfl ?_
      refine r_iload_n rfl rfl ?_
      refine r_iadd rfl ?_
      refine r_iconst rfl ?_
      refine r_iadd rfl ?_
      refine r_iald rfl (by first | assumption | exact hs.a rfl) (by omega) (by omega) ((zix (n := 117 + 3 * k) (by omega)).trans hk2.2.2) ?_
      refine r_icmp_eq rfl (by omega) (by omega) (fun heq => ?_) (fun heq => ?_)
      · refine r_iinc (L' := [_, _, _]) rfl rfl rfl ?_
        refine r_goto rfl ?_
        rw [show (3 : Int) * (k : Int) + 3 = 3 * ((k + 1 : Nat) : Int) by omega]
        exact l_ntS hd1 hs hm hR hn ho hs60 k1 k2 (k + 1) (by omega) (by simp only [ntAt]; rw [hall, decide_eq_false (fun q => by first | exact hne q.1 | (have q2 := q.2; rw [hcc, Int.toNat_natCast] at q2; exact q2 heq))]; rfl)
      · refine r_iconst rfl ?_
        refine r_zret rfl (by omega) ?_
        exact k2 (ntAt_f (j := k) (by omega) ⟨hne, by rw [hcc, Int.toNat_natCast]; exact heq⟩)
termination_by w.ns - k
theorem c_areNotesSo (hd : 3 ≤ d) (hs : Sh σ g) (hm : MRd (f 229) rd) (hR : RdOk n m N rd) (hn : MN (f 229) w) (ho : NtOk w) {s : Nat} (hs60 : s ≤ 60) (k1 : ntAt w s rd w.ns = true → Q (some (zi 1)) σ f g) (k2 : ntAt w s rd w.ns = false → Q (some (zi 0)) σ f g) : ZCt d 241 [zr (some 219), zi (s : Int)] σ f g Q := by
  refine ZCt.of' (L0 := [_, _, _]) (by omega) rfl rfl rfl (fun d hd1 => ?_)
  refine r_iconst rfl ?_
  refine r_istore_n (L' := [_, _, _]) rfl rfl rfl ?_
  exact l_ntS (by omega) hs hm hR hn ho hs60 k1 k2 0 (by omega) rfl
theorem l_asC (hd1 : 2 ≤ d) (hs : Sh σ g) {q : Nat} (hq : q < 7) (hm : MRd (f0 229) rd) (hR : RdOk n m N rd) {th : Nat} (hth : th ≤ 60) {b : Int} (K : ∀ f', (∀ c, c ≠ 235 → f' c = f0 c) → (∀ i, i < 6 → f' 235 (6 * q + i) = rd 0 i) → (∀ i, ¬ (6 * q ≤ i ∧ i < 6 * q + 6) → f' 235 i = f0 235 i) → ZWp d zt240 71 [zr (some 219), zi (q : Int), zi (th : Int), zi b, zi (th : Int), zi ((6 : Nat) : Int)] [] σ f' g Q) (k : Nat) (hk : k ≤ 6) (f : ZF) (hf : ∀ c, c ≠ 235 → f c = f0 c) (hcp : ∀ i, (i < k → f 235 (6 * q + i) = rd 0 i) ∧ (¬ (6 * q ≤ i ∧ i < 6 * q + 6) → f 235 i = f0 235 i)) : ZWp d zt240 34 [zr (some 219), zi (q : Int), zi (th : Int), zi b, zi (th : Int), zi (k : Int)] [] σ f g Q := by
  refine r_iload rfl rfl ?_
  refine r_bipush rfl ?_
  refine r_icmp_ge rfl (by omega) (by omega) (fun hge => ?_) (fun hge => ?_)
  · have e : k = 6 := by omega
    subst e
    exact K f hf (fun i hi => (hcp i).1 hi) (fun i hi => (hcp i).2 hi)
  · refine r_iload rfl rfl ?_
    refine r_iload_n rfl rfl ?_
    refine r_icmp_ne rfl (by omega) (by omega) (fun hne => ?_) (fun hne => ?_)
    · exact absurd rfl hne
    · refine r_aload_n rfl rfl ?_
      refine r_getR rfl (by first | assumption | exact hs.o rfl) (by first | assumption | exact hs.g rfl) ?_
      refine r_bipush rfl ?_
      refine r_iload_n rfl rfl ?_
      refine r_imul rfl ?_
      refine r_iload rfl rfl ?_
      refine r_iadd rfl ?_
      refine r_aload_n rfl rfl ?_
      refine r_iload rfl rfl ?_
      refine r_callV1 rfl rfl (by first | assumption | exact hs.o rfl) rfl (c_cellOn (by omega) hs (by rw [hf 229 (by omega)]; exact hm) hR (by omega) ?_)
      refine r_iastN (6 * q + k) rfl (by first | assumption | exact hs.a rfl) (by omega) (by omega) (by omega) ?_
      refine r_iinc (L' := [_, _, _, _, _, _]) rfl rfl rfl ?_
      refine r_goto rfl ?_
      refine l_asC hd1 hs hq hm hR hth K (k + 1) (by omega) _ (fun c z => (up2_o _ _ z).trans (hf c z)) (fun i => ⟨fun hi => ?_, fun hi => ?_⟩)
      · by_cases e : i = k
        · subst e; exact up2_same _ _ _ _
        · rw [up2_ne _ _ (by omega)]; exact (hcp i).1 (by omega)
      · rw [up2_ne _ _ (by omega)]; exact (hcp i).2 hi
termination_by 6 - k
theorem TM.kk {f' : ZF} (h : TM σ f g pl al cl) (hc : ∀ c, c ≠ 235 → f' c = f c) : TM σ f' g pl al cl := h.fr2 (fun c q1 q2 => hc c (by omega)) (fun i _ => by rw [hc 229 (by omega)]) (fun i _ => by rw [hc 219 (by omega)]) h.2.2.2.1 (by rw [hc 219 (by omega)]; exact h.2.2.1)
theorem FrN.c {f0 f f' : ZF} (h : FrN f0 f) (hc : ∀ c, c ≠ 235 → f' c = f c) : FrN f0 f' := ⟨fun c q1 q2 q3 q4 q5 => (hc c q5).trans (h.1 c q1 q2 q3 q4 q5), fun i q1 q2 => by rw [hc 219 (by omega)]; exact h.2.1 i q1 q2, fun i q => by rw [hc 229 (by omega)]; exact h.2.2 i q⟩
theorem l_as (hd1 : 10 ≤ d) (hs : Sh σ g) (hv : VS pl N (-1) rd) (hN : N + 7 * 61 ≤ 1000000) {q : Nat} (hq : q < 7) (hn : MN (f0 229) w) (ho : NtOk w) {th : Int} (K : ∀ f' x, FrN f0 f' → ((∀ t : Nat, th = (t : Int) → t < 61 → ∀ i, i < 6 → f' 235 (6 * q + i) = rIt pl al (-1) t rd 0 i) ∧ (∀ i, ¬ (6 * q ≤ i ∧ i < 6 * q + 6) → f' 235 i = f0 235 i)) → ZWp d zt240 82 [zr (some 219), zi (q : Int), zi th, zi (if fitA pl al w rd 61 = true then 1 else 0), zi ((61 : Nat) : Int), x] [] σ f' g Q) (k : Nat) (hk : k ≤ 61) (f : ZF) (x : ZV) (hf : FrN f0 f) (ht : TM σ f g pl al (-1)) (h : MRd (f 229) (rIt pl al (-1) k rd)) (hct : (∀ t : Nat, th = (t : Int) → t < k → ∀ i, i < 6 → f 235 (6 * q + i) = rIt pl al (-1) t rd 0 i) ∧ (∀ i, ¬ (6 * q ≤ i ∧ i < 6 * q + 6) → f 235 i = f0 235 i)) (hthr : -1 ≤ th ∧ th ≤ 60) : ZWp d zt240 5 [zr (some 219), zi (q : Int), zi th, zi (if fitA pl al w rd k = true then 1 else 0), zi (k : Int), x] [] σ f g Q := by
  have hvN := hv.1.2.2.2.2.2.2
  refine r_iload rfl rfl ?_
  refine r_bipush rfl ?_
  refine r_icmp_gt rfl (by omega) (by omega) (fun hgt => ?_) (fun hgt => ?_)
  · have e : k = 61 := by omega
    subst e
    exact K f _ hf hct
  · refine r_iload_n rfl rfl ?_
    refine r_if_eq rfl (by split <;> omega) (fun hb => ?_) (fun hb => ?_)
    · refine r_iconst rfl ?_
      refine r_istore_n (L' := [_, _, _, _, _, _]) rfl rfl rfl ?_
      have hfk : fitA pl al w rd k = false := by
        cases hz : fitA pl al w rd k with
        | false => rfl
        | true => rw [hz] at hb; exact absurd hb (by decide)
      have e1 : (0 : Int) = (if fitA pl al w rd (k + 1) = true then 1 else 0) := by rw [show fitA pl al w rd (k + 1) = false by simp only [fitA]; rw [hfk, Bool.false_and]]; rfl
      change ZWp d zt240 31 [_, _, _, zi _, _, _] [] σ f g Q
      rw [show (zi (0) : ZV) = zi (if fitA pl al w rd (k + 1) = true then 1 else 0) from congrArg zi e1]
      by_cases hth : th = (k : Int)
      · subst hth
        refine r_iconst rfl ?_
        refine r_istore (L' := [_, _, _, _, _, _]) rfl rfl rfl ?_
        refine l_asC (f0 := f) (rd := rIt pl al (-1) k rd) (by omega) hs hq h (hv.it ht.2.1 k (by omega)).1 (by omega) (fun f1 e235 e1 e2 => ?_) 0 (by omega) f (fun _ _ => rfl) (fun i => ⟨fun z => by omega, fun _ => rfl⟩)
        refine r_aload_n rfl rfl ?_
        refine r_callV0 rfl rfl (by first | assumption | exact hs.o rfl) rfl (c_psv (by omega) hs (TM.kk ht e235) (by rw [e235 229 (by omega)]; exact h) (hv.it ht.2.1 k (by omega)).1 (by omega) (fun f2 hf2 ht2 hm2 hst2 => ?_))
        refine r_popi rfl ?_
        refine r_iinc (L' := [_, _, _, _, _, _]) rfl rfl rfl ?_
        refine r_goto rfl ?_
        refine l_as hd1 hs hv hN hq hn ho K (k + 1) (by omega) f2 _ ((FrN.c hf e235).m hf2) ht2 hm2 ⟨fun t q1 q2 i hi => ?_, fun i hi => ?_⟩ (by omega)
        · rw [hf2.1 235 (by omega) (by omega) (by omega) (by omega)]
          by_cases e : t = k
          · subst e; exact e1 i hi
          · exact absurd q1 (by omega)
        · rw [hf2.1 235 (by omega) (by omega) (by omega) (by omega), e2 i hi]; exact hct.2 i hi
      · refine r_iconst rfl ?_
        refine r_istore (L' := [_, _, _, _, _, _]) rfl rfl rfl ?_
        refine r_iload rfl rfl ?_
        refine r_bipush rfl ?_
        refine r_icmp_ge rfl (by omega) (by omega) (fun h38 => ?_) (fun h38 => ?_)
        · exfalso; omega
        · refine r_iload rfl rfl ?_
          refine r_iload_n rfl rfl ?_
          refine r_icmp_ne rfl (by omega) (by omega) (fun hne => ?_) (fun hne => ?_)
          · refine r_aload_n rfl rfl ?_
            refine r_callV0 rfl rfl (by first | assumption | exact hs.o rfl) rfl (c_psv (by omega) hs ht h (hv.it ht.2.1 k (by omega)).1 (by omega) (fun f2 hf2 ht2 hm2 hst2 => ?_))
            refine r_popi rfl ?_
            refine r_iinc (L' := [_, _, _, _, _, _]) rfl rfl rfl ?_
            refine r_goto rfl ?_
            refine l_as hd1 hs hv hN hq hn ho K (k + 1) (by omega) f2 _ (hf.m hf2) ht2 hm2 ⟨fun t q1 q2 i hi => ?_, fun i hi => ?_⟩ (by omega)
            · rw [hf2.1 235 (by omega) (by omega) (by omega) (by omega)]
              exact hct.1 t q1 (by omega) i hi
            · rw [hf2.1 235 (by omega) (by omega) (by omega) (by omega)]; exact hct.2 i hi
          · exfalso; omega
    · refine r_aload_n rfl rfl ?_
      refine r_iload rfl rfl ?_
      refine r_callV1 rfl rfl (by first | assumption | exact hs.o rfl) rfl (c_areNotesSo (s := k) (by omega) hs h (hv.it ht.2.1 k (by omega)).1 (hn.fr ho.1 (fun i q => hf.2.2 i (by omega))) ho (by omega) (fun hso => ?_) (fun hso => ?_))
      · refine r_if_n rfl (by decide) ?_
        refine r_iconst rfl ?_
        refine r_goto rfl ?_
        refine r_istore_n (L' := [_, _, _, _, _, _]) rfl rfl rfl ?_
        have hfk : fitA pl al w rd k = true := by
          cases hz : fitA pl al w rd k with
          | true => rfl
          | false => rw [hz] at hb; exact absurd rfl hb
        have e1 : (1 : Int) = (if fitA pl al w rd (k + 1) = true then 1 else 0) := by rw [show fitA pl al w rd (k + 1) = true by simp only [fitA]; rw [hfk, hso]; rfl]; rfl
        change ZWp d zt240 31 [_, _, _, zi _, _, _] [] σ f g Q
        rw [show (zi (1) : ZV) = zi (if fitA pl al w rd (k + 1) = true then 1 else 0) from congrArg zi e1]
        by_cases hth : th = (k : Int)
        · subst hth
          refine r_iconst rfl ?_
          refine r_istore (L' := [_, _, _, _, _, _]) rfl rfl rfl ?_
          refine l_asC (f0 := f) (rd := rIt pl al (-1) k rd) (by omega) hs hq h (hv.it ht.2.1 k (by omega)).1 (by omega) (fun f1 e235 e1 e2 => ?_) 0 (by omega) f (fun _ _ => rfl) (fun i => ⟨fun z => by omega, fun _ => rfl⟩)
          refine r_aload_n rfl rfl ?_
          refine r_callV0 rfl rfl (by first | assumption | exact hs.o rfl) rfl (c_psv (by omega) hs (TM.kk ht e235) (by rw [e235 229 (by omega)]; exact h) (hv.it ht.2.1 k (by omega)).1 (by omega) (fun f2 hf2 ht2 hm2 hst2 => ?_))
          refine r_popi rfl ?_
          refine r_iinc (L' := [_, _, _, _, _, _]) rfl rfl rfl ?_
          refine r_goto rfl ?_
          refine l_as hd1 hs hv hN hq hn ho K (k + 1) (by omega) f2 _ ((FrN.c hf e235).m hf2) ht2 hm2 ⟨fun t q1 q2 i hi => ?_, fun i hi => ?_⟩ (by omega)
          · rw [hf2.1 235 (by omega) (by omega) (by omega) (by omega)]
            by_cases e : t = k
            · subst e; exact e1 i hi
            · exact absurd q1 (by omega)
          · rw [hf2.1 235 (by omega) (by omega) (by omega) (by omega), e2 i hi]; exact hct.2 i hi
        · refine r_iconst rfl ?_
          refine r_istore (L' := [_, _, _, _, _, _]) rfl rfl rfl ?_
          refine r_iload rfl rfl ?_
          refine r_bipush rfl ?_
          refine r_icmp_ge rfl (by omega) (by omega) (fun h38 => ?_) (fun h38 => ?_)
          · exfalso; omega
          · refine r_iload rfl rfl ?_
            refine r_iload_n rfl rfl ?_
            refine r_icmp_ne rfl (by omega) (by omega) (fun hne => ?_) (fun hne => ?_)
            · refine r_aload_n rfl rfl ?_
              refine r_callV0 rfl rfl (by first | assumption | exact hs.o rfl) rfl (c_psv (by omega) hs ht h (hv.it ht.2.1 k (by omega)).1 (by omega) (fun f2 hf2 ht2 hm2 hst2 => ?_))
              refine r_popi rfl ?_
              refine r_iinc (L' := [_, _, _, _, _, _]) rfl rfl rfl ?_
              refine r_goto rfl ?_
              refine l_as hd1 hs hv hN hq hn ho K (k + 1) (by omega) f2 _ (hf.m hf2) ht2 hm2 ⟨fun t q1 q2 i hi => ?_, fun i hi => ?_⟩ (by omega)
              · rw [hf2.1 235 (by omega) (by omega) (by omega) (by omega)]
                exact hct.1 t q1 (by omega) i hi
              · rw [hf2.1 235 (by omega) (by omega) (by omega) (by omega)]; exact hct.2 i hi
            · exfalso; omega
      · refine r_if_y rfl (by decide) ?_
        refine r_iconst rfl ?_
        refine r_istore_n (L' := [_, _, _, _, _, _]) rfl rfl rfl ?_
        have e1 : (0 : Int) = (if fitA pl al w rd (k + 1) = true then 1 else 0) := by rw [show fitA pl al w rd (k + 1) = false by simp only [fitA]; rw [hso, Bool.and_false]]; rfl
        change ZWp d zt240 31 [_, _, _, zi _, _, _] [] σ f g Q
        rw [show (zi (0) : ZV) = zi (if fitA pl al w rd (k + 1) = true then 1 else 0) from congrArg zi e1]
        by_cases hth : th = (k : Int)
        · subst hth
          refine r_iconst rfl ?_
          refine r_istore (L' := [_, _, _, _, _, _]) rfl rfl rfl ?_
          refine l_asC (f0 := f) (rd := rIt pl al (-1) k rd) (by omega) hs hq h (hv.it ht.2.1 k (by omega)).1 (by omega) (fun f1 e235 e1 e2 => ?_) 0 (by omega) f (fun _ _ => rfl) (fun i => ⟨fun z => by omega, fun _ => rfl⟩)
          refine r_aload_n rfl rfl ?_
          refine r_callV0 rfl rfl (by first | assumption | exact hs.o rfl) rfl (c_psv (by omega) hs (TM.kk ht e235) (by rw [e235 229 (by omega)]; exact h) (hv.it ht.2.1 k (by omega)).1 (by omega) (fun f2 hf2 ht2 hm2 hst2 => ?_))
          refine r_popi rfl ?_
          refine r_iinc (L' := [_, _, _, _, _, _]) rfl rfl rfl ?_
          refine r_goto rfl ?_
          refine l_as hd1 hs hv hN hq hn ho K (k + 1) (by omega) f2 _ ((FrN.c hf e235).m hf2) ht2 hm2 ⟨fun t q1 q2 i hi => ?_, fun i hi => ?_⟩ (by omega)
          · rw [hf2.1 235 (by omega) (by omega) (by omega) (by omega)]
            by_cases e : t = k
            · subst e; exact e1 i hi
            · exact absurd q1 (by omega)
          · rw [hf2.1 235 (by omega) (by omega) (by omega) (by omega), e2 i hi]; exact hct.2 i hi
        · refine r_iconst rfl ?_
          refine r_istore (L' := [_, _, _, _, _, _]) rfl rfl rfl ?_
          refine r_iload rfl rfl ?_
          refine r_bipush rfl ?_
          refine r_icmp_ge rfl (by omega) (by omega) (fun h38 => ?_) (fun h38 => ?_)
          · exfalso; omega
          · refine r_iload rfl rfl ?_
            refine r_iload_n rfl rfl ?_
            refine r_icmp_ne rfl (by omega) (by omega) (fun hne => ?_) (fun hne => ?_)
            · refine r_aload_n rfl rfl ?_
              refine r_callV0 rfl rfl (by first | assumption | exact hs.o rfl) rfl (c_psv (by omega) hs ht h (hv.it ht.2.1 k (by omega)).1 (by omega) (fun f2 hf2 ht2 hm2 hst2 => ?_))
              refine r_popi rfl ?_
              refine r_iinc (L' := [_, _, _, _, _, _]) rfl rfl rfl ?_
              refine r_goto rfl ?_
              refine l_as hd1 hs hv hN hq hn ho K (k + 1) (by omega) f2 _ (hf.m hf2) ht2 hm2 ⟨fun t q1 q2 i hi => ?_, fun i hi => ?_⟩ (by omega)
              · rw [hf2.1 235 (by omega) (by omega) (by omega) (by omega)]
                exact hct.1 t q1 (by omega) i hi
              · rw [hf2.1 235 (by omega) (by omega) (by omega) (by omega)]; exact hct.2 i hi
            · exfalso; omega
termination_by 61 - k
theorem c_areAllSo (hd : 11 ≤ d) (hs : Sh σ g) (hv : VS pl N (-1) rd) (hN : N + 7 * 61 ≤ 1000000) {q : Nat} (hq : q < 7) (hn : MN (f 229) w) (ho : NtOk w) {th : Int} (hthr : -1 ≤ th ∧ th ≤ 60) (ht : TM σ f g pl al (-1)) (h : MRd (f 229) rd) (K : ∀ f', FrN f f' → ((∀ t : Nat, th = (t : Int) → t < 61 → ∀ i, i < 6 → f' 235 (6 * q + i) = rIt pl al (-1) t rd 0 i) ∧ (∀ i, ¬ (6 * q ≤ i ∧ i < 6 * q + 6) → f' 235 i = f 235 i)) → Q (some (zi (if fitA pl al w rd 61 = true then 1 else 0))) σ f' g) : ZCt d 240 [zr (some 219), zi (q : Int), zi th] σ f g Q := by
  refine ZCt.of' (L0 := [_, _, _, _, _, _]) (by omega) rfl rfl rfl (fun d hd1 => ?_)
  refine r_iconst rfl ?_
  refine r_istore_n (L' := [_, _, _, _, _, _]) rfl rfl rfl ?_
  refine r_iconst rfl ?_
  refine r_istore (L' := [_, _, _, _, _, _]) rfl rfl rfl ?_
  refine l_as (f0 := f) (w := w) (by omega) hs hv hN hq hn ho (fun f2 x hf2 hct2 => ?_) 0 (by omega) f _ (FrN.rf f) ht h ⟨fun t q1 q2 => by omega, fun i hi => rfl⟩ hthr
  refine r_iload_n rfl rfl ?_
  refine r_zret rfl (by split <;> omega) ?_
  exact K f2 hf2 hct2
end MFITS
