/-! From the begin on, and what fits: the reference -/
/-- only the state that goes on has changed -/
def FrB (f f' : ZF) : Prop := (∀ c, c ≠ 229 → f' c = f c) ∧ ∀ i, (i < 10 ∨ 67 ≤ i) → f' 229 i = f 229 i
theorem FrB.rf (f : ZF) : FrB f f := ⟨fun _ _ => rfl, fun _ _ => rfl⟩
theorem FrB.m {f f' : ZF} (h : FrB f f') : FrM f f' := ⟨fun c _ _ _ q => h.1 c q, fun i _ _ => by rw [h.1 219 (by omega)], fun i q => h.2 i q⟩
theorem FrB.up {f0 f : ZF} {i : Nat} {v : Int} (h : FrB f0 f) (hi : 10 ≤ i ∧ i < 67) : FrB f0 (up2 f 229 i v) := ⟨fun c q => (up2_o _ _ q).trans (h.1 c q), fun j q => by rw [up2_ne _ _ (by omega)]; exact h.2 j q⟩
def Bg (f0 f : ZF) (rd0 : Rd) (i j c : Nat) : Prop := FrB f0 f ∧ (f 229 10 = 0 ∧ f 229 11 = 0) ∧ (∀ q, q < i → MC (f 229) rd0 q) ∧ (∀ q, q < j → f 229 (42 + q) = 0) ∧ (∀ q, q < c → f 229 (47 + q) = rd0 6 q)
section MLOOK
variable {d : Nat} {σ : ZS} {f f0 f' : ZF} {g : ZG} {Q : ZQ} {n m N : Int} {rd rd' : Rd} {pl : Pl} {rd0 : Rd} {al : Rd → Nat → Bool} {cl : Int} {a : AS} {w : AW}
theorem TM.frn {f' : ZF} (h : TM σ f g pl al cl) (hf : FrN f f') : TM σ f' g pl al cl := by
  have h1 : FrM f (fun c => if c = 235 then f 235 else f' c) := by
    refine ⟨fun c q1 q2 q3 q4 => ?_, fun i q1 q2 => ?_, fun i q => ?_⟩
    · by_cases e : c = 235
      · subst e; rfl
      · show (if c = 235 then f 235 else f' c) = _
        rw [if_neg e]; exact hf.1 c q1 q2 q3 q4 e
    · show (if (219 : Nat) = 235 then f 235 else f' 219) i = _
      rw [if_neg (by omega)]; exact hf.2.1 i q1 q2
    · show (if (229 : Nat) = 235 then f 235 else f' 229) i = _
      rw [if_neg (by omega)]; exact hf.2.2 i q
  refine (h.fr h1).kk (fun c q => ?_)
  show _ = (if c = 235 then f 235 else f' c)
  rw [if_neg q]
theorem tm_kp {f1 : ZF} (hs : Sh σ g) (hM : MI f a) (hA : AOk N a) (hp : a.w.pn = some (pl, rd0)) {rl : Int} (hr : -1 ≤ rl ∧ rl < (a.rk : Int)) (hk : Kp f f1) (h3 : f1 219 21 = rl) (h4 : f1 219 24 = -1) (h5 : f1 219 23 = -1) : TM σ f1 g pl (AL a rl pl) (-1) := by
  have e9 : ∀ c, c ≠ 227 → c ≠ 228 → (fun c => if c = 227 ∨ c = 228 then f c else f1 c) c = f1 c := fun c q1 q2 => if_neg (by omega)
  have ht : TM σ (fun c => if c = 227 ∨ c = 228 then f c else f1 c) g pl (AL a rl pl) (-1) := by
    refine tm_of hs hM hA hp hr (fun c q1 q2 => ?_) (fun i q => ?_) ?_ ?_ ?_
    · by_cases e : c = 227 ∨ c = 228
      · show (if c = 227 ∨ c = 228 then f c else f1 c) = _
        rw [if_pos e]
      · show (if c = 227 ∨ c = 228 then f c else f1 c) = _
        rw [if_neg e]; exact hk.1 c q1 (by omega) (by omega)
    · exact (congrFun (e9 229 (by omega) (by omega)) i).trans (hk.2.2.1 i q)
    · exact (congrFun (e9 219 (by omega) (by omega)) 21).trans h3
    · exact (congrFun (e9 219 (by omega) (by omega)) 24).trans h4
    · exact (congrFun (e9 219 (by omega) (by omega)) 23).trans h5
  refine ht.fr ⟨fun c q1 q2 q3 q4 => (e9 c q2 q3).symm, fun i q1 q2 => (congrFun (e9 219 (by omega) (by omega)) i).symm, fun i q => (congrFun (e9 229 (by omega) (by omega)) i).symm⟩
theorem MC.sameS {s s' : Nat → Int} {k : Nat} (h : MC s rd k) (hs : ∀ i, i < 5 → s' (12 + 5 * k + i) = s (12 + 5 * k + i)) : MC s' rd k := h.same hs (fun _ _ => rfl)
theorem l_bg3 (hd1 : 1 ≤ d) (hs : Sh σ g) (hp : MPl (f0 229) pl) (ht : MT (f0 229) rd0) (hpo : PlOk pl) (ho : StOk pl rd0) (K : ∀ f', FrB f0 f' → MRd (f' 229) rd0 → Q none σ f' g) (k : Nat) (hk : k ≤ 20) (f : ZF) (x : ZV) (hb : Bg f0 f rd0 6 5 k) : ZWp d zt173 112 [zr (some 219), zi (k : Int), x] [] σ f g Q := by
  have ho1 := ho.1.2.2.2.2.2.1
  have ho2 := ho.1.2.2.2.2.2.2.1
  refine r_iload_n rfl rfl ?_
  refine r_bipush rfl ?_
  refine r_icmp_ge rfl (by omega) (by omega) (fun hge => ?_) (fun hge => ?_)
  · have e : k = 20 := by omega
    subst e
    obtain ⟨b1, b2, b3, b4, b5⟩ := hb
    refine r_ret rfl ?_
    refine K f b1 (MRd.of ?_ ?_ b3 (fun j hj => ?_) b5)
    · rw [b2.1]; omega
    · rw [b2.2]; omega
    · rw [b4 j hj, ho.2.2.1 j]
  · refine r_aload_n rfl rfl ?_
    refine r_getR rfl (by first | assumption | exact hs.o rfl) (by first | assumption | exact hs.g rfl) ?_
    refine r_bipush rfl ?_
    refine r_iload_n rfl rfl ?_
    refine r_iadd rfl ?_
    refine r_aload_n rfl rfl ?_
    refine r_getR rfl (by first | assumption | exact hs.o rfl) (by first | assumption | exact hs.g rfl) ?_
    refine r_bipush rfl ?_
    refine r_iload_n rfl rfl ?_
    refine r_iadd rfl ?_
    refine r_iald rfl (by first | assumption | exact hs.a rfl) (by omega) (by omega) ((zix (n := 95 + k) (by omega)).trans ((hb.1.2 _ (by omega)).trans (ht.2 k (by omega)))) ?_
    refine r_iastN (47 + k) rfl (by first | assumption | exact hs.a rfl) (by omega) (by omega) (by omega) ?_
    refine r_iinc (L' := [_, _, _]) rfl rfl rfl ?_
    refine r_goto rfl ?_
    obtain ⟨b1, b2, b3, b4, b5⟩ := hb
    refine l_bg3 hd1 hs hp ht hpo ho K (k + 1) (by omega) _ x ⟨b1.up (by omega), ?_, fun q hq => ?_, fun q hq => ?_, all_succ (fun q hq => ?_) ?_⟩
    · rw [up2_ne _ _ (by omega), up2_ne _ _ (by omega)]; exact b2
    · exact (b3 q hq).sameS (fun i hi => up2_ne _ _ (by omega))
    · rw [up2_ne _ _ (by omega)]; exact b4 q hq
    · rw [up2_ne _ _ (by omega)]; exact b5 q hq
    · exact up2_same _ _ _ _
termination_by 20 - k
theorem l_bg2 (hd1 : 1 ≤ d) (hs : Sh σ g) (hp : MPl (f0 229) pl) (ht : MT (f0 229) rd0) (hpo : PlOk pl) (ho : StOk pl rd0) (K : ∀ f', FrB f0 f' → MRd (f' 229) rd0 → Q none σ f' g) (k : Nat) (hk : k ≤ 5) (f : ZF) (x : ZV) (hb : Bg f0 f rd0 6 k 0) : ZWp d zt173 89 [zr (some 219), zi (k : Int), x] [] σ f g Q := by
  refine r_iload_n rfl rfl ?_
  refine r_iconst rfl ?_
  refine r_icmp_ge rfl (by omega) (by omega) (fun hge => ?_) (fun hge => ?_)
  · have e : k = 5 := by omega
    subst e
    refine r_iconst rfl ?_
    refine r_istore_n (L' := [_, _, _]) rfl rfl rfl ?_
    exact l_bg3 hd1 hs hp ht hpo ho K 0 (by omega) f x hb
  · refine r_aload_n rfl rfl ?_
    refine r_getR rfl (by first | assumption | exact hs.o rfl) (by first | assumption | exact hs.g rfl) ?_
    refine r_bipush rfl ?_
    refine r_iload_n rfl rfl ?_
    refine r_iadd rfl ?_
    refine r_iconst rfl ?_
    refine r_iastN (42 + k) rfl (by first | assumption | exact hs.a rfl) (by omega) (by omega) (by omega) ?_
    refine r_iinc (L' := [_, _, _]) rfl rfl rfl ?_
    refine r_goto rfl ?_
    obtain ⟨b1, b2, b3, b4, b5⟩ := hb
    refine l_bg2 hd1 hs hp ht hpo ho K (k + 1) (by omega) _ x ⟨b1.up (by omega), ?_, fun q hq => ?_, all_succ (fun q hq => ?_) ?_, fun q hq => absurd hq (by omega)⟩
    · rw [up2_ne _ _ (by omega), up2_ne _ _ (by omega)]; exact b2
    · exact (b3 q hq).sameS (fun i hi => up2_ne _ _ (by omega))
    · rw [up2_ne _ _ (by omega)]; exact b4 q hq
    · exact up2_same _ _ _ _
termination_by 5 - k
theorem l_bg1 (hd1 : 1 ≤ d) (hs : Sh σ g) (hp : MPl (f0 229) pl) (ht : MT (f0 229) rd0) (hpo : PlOk pl) (ho : StOk pl rd0) (K : ∀ f', FrB f0 f' → MRd (f' 229) rd0 → Q none σ f' g) (k : Nat) (hk : k ≤ 6) (f : ZF) (x : ZV) (hb : Bg f0 f rd0 k 0 0) : ZWp d zt173 18 [zr (some 219), zi (k : Int), x] [] σ f g Q := by
  have hsc := ho.2.2.2
  have hp3 := hpo.2.2.1
  by_cases h6 : k = 6
  · subst h6
    refine r_iload_n rfl rfl ?_
    refine r_bipush rfl ?_
    refine r_icmp_ge rfl (by omega) (by omega) (fun hge => ?_) (fun hge => absurd hge (by omega))
    refine r_iconst rfl ?_
    refine r_istore_n (L' := [_, _, _]) rfl rfl rfl ?_
    exact l_bg2 hd1 hs hp ht hpo ho K 0 (by omega) f x hb
  have hok := ho.1.2.2.1 k (by omega)
  refine r_iload_n rfl rfl ?_
  refine r_bipush rfl ?_
  refine r_icmp_ge rfl (by omega) (by omega) (fun hge => ?_) (fun hge => ?_)
  · have e : k = 6 := by omega
    subst e
    refine r_iconst rfl ?_
    refine r_istore_n (L' := [_, _, _]) rfl rfl rfl ?_
    exact l_bg2 hd1 hs hp ht hpo ho K 0 (by omega) f x hb
  · refine r_bipush rfl ?_
    refine r_iconst rfl ?_
    refine r_iload_n rfl rfl ?_
    refine r_imul rfl ?_
    refine r_iadd rfl ?_
    refine r_istore_n (L' := [_, _, _]) rfl rfl rfl ?_
    refine r_iload_n rfl rfl ?_
    refine r_aload_n rfl rfl ?_
    refine r_getR rfl (by first | assumption | exact hs.o rfl) (by first | assumption | exact hs.g rfl) ?_
    refine r_iconst rfl ?_
    refine r_iald rfl (by first | assumption | exact hs.a rfl) (by omega) (by omega) ((zix (n := 3) rfl).trans ((hb.1.2 _ (by omega)).trans hp.2.2.2.1)) ?_
    refine r_icmp_ge rfl (by omega) (by omega) (fun hge2 => ?_) (fun hge2 => ?_)
    · refine r_aload_n rfl rfl ?_
      refine r_iload_n rfl rfl ?_
      refine r_iconst rfl ?_
      refine r_iconst rfl ?_
      refine r_iconst rfl ?_
      refine r_iconst rfl ?_
      refine r_callV5 rfl rfl (by first | assumption | exact hs.o rfl) rfl (c_stands (k := k) (by omega) hs (by omega) ?_)
      refine r_iinc (L' := [_, _, _]) rfl rfl rfl ?_
      refine r_goto rfl ?_
      obtain ⟨b1, b2, b3, b4, b5⟩ := hb
      have hat : ∀ i, (i < 12 + 5 * k ∨ 16 + 5 * k < i) → fSt f k 0 0 0 0 229 i = f 229 i := fun i hi => by
        rw [fSt_at, if_neg (by omega), if_neg (by omega), if_neg (by omega), if_neg (by omega), if_neg (by omega)]
      have z0 : fSt f k 0 0 0 0 229 (12 + 5 * k) = 0 := by rw [fSt_at, if_neg (by omega), if_neg (by omega), if_neg (by omega), if_neg (by omega), if_pos rfl]
      have z1 : fSt f k 0 0 0 0 229 (13 + 5 * k) = 0 := by rw [fSt_at, if_neg (by omega), if_neg (by omega), if_neg (by omega), if_pos rfl]
      have z2 : fSt f k 0 0 0 0 229 (14 + 5 * k) = 0 := by rw [fSt_at, if_neg (by omega), if_neg (by omega), if_pos rfl]
      have z3 : fSt f k 0 0 0 0 229 (15 + 5 * k) = 0 := by rw [fSt_at, if_neg (by omega), if_pos rfl]
      have z4 : fSt f k 0 0 0 0 229 (16 + 5 * k) = 0 := by rw [fSt_at, if_pos rfl]
      refine l_bg1 hd1 hs hp ht hpo ho K (k + 1) (by omega) _ _ ⟨((((b1.up (by omega)).up (by omega)).up (by omega)).up (by omega)).up (by omega), ?_, all_succ (fun q hq => ?_) ?_, fun q hq => absurd hq (by omega), fun q hq => absurd hq (by omega)⟩
      · rw [hat _ (by omega), hat _ (by omega)]; exact b2
      · exact (b3 q hq).sameS (fun i hi => hat _ (by omega))
      · have h3 := (hsc k (by omega)).2 (by omega)
        exact Or.inl ⟨h3, by omega, by omega, by omega, z0, z1, z2, z3, z4⟩
    · refine r_aload_n rfl rfl ?_
      refine r_iload_n rfl rfl ?_
      refine r_iconst rfl ?_
      refine r_aload_n rfl rfl ?_
      refine r_getR rfl (by first | assumption | exact hs.o rfl) (by first | assumption | exact hs.g rfl) ?_
      refine r_iload_n rfl rfl ?_
      have hon : rd0 0 k ≠ -1 := fun q => by have := (hsc k (by omega)).1 q; omega
      have htt := ht.1 k (by omega) hon
      refine r_iald rfl (by first | assumption | exact hs.a rfl) (by omega) (by omega) ((zix (n := 77 + 3 * k) (by omega)).trans ((hb.1.2 _ (by omega)).trans htt.1)) ?_
      refine r_aload_n rfl rfl ?_
      refine r_getR rfl (by first | assumption | exact hs.o rfl) (by first | assumption | exact hs.g rfl) ?_
      refine r_iload_n rfl rfl ?_
      refine r_iconst rfl ?_
      refine r_iadd rfl ?_
      refine r_iald rfl (by first | assumption | exact hs.a rfl) (by omega) (by omega) ((zix (n := 78 + 3 * k) (by omega)).trans ((hb.1.2 _ (by omega)).trans htt.2.1)) ?_
      refine r_aload_n rfl rfl ?_
      refine r_getR rfl (by first | assumption | exact hs.o rfl) (by first | assumption | exact hs.g rfl) ?_
      refine r_iload_n rfl rfl ?_
      refine r_iconst rfl ?_
      refine r_iadd rfl ?_
      refine r_iald rfl (by first | assumption | exact hs.a rfl) (by omega) (by omega) ((zix (n := 79 + 3 * k) (by omega)).trans ((hb.1.2 _ (by omega)).trans htt.2.2)) ?_
      refine r_callV5 rfl rfl (by first | assumption | exact hs.o rfl) rfl (c_stands (k := k) (by omega) hs (by omega) ?_)
      refine r_goto rfl ?_
      refine r_iinc (L' := [_, _, _]) rfl rfl rfl ?_
      refine r_goto rfl ?_
      obtain ⟨b1, b2, b3, b4, b5⟩ := hb
      have hat : ∀ i, (i < 12 + 5 * k ∨ 16 + 5 * k < i) → fSt f k 1 (rd0 0 k) (rd0 1 k) (rd0 2 k) 229 i = f 229 i := fun i hi => by
        rw [fSt_at, if_neg (by omega), if_neg (by omega), if_neg (by omega), if_neg (by omega), if_neg (by omega)]
      have z0 : fSt f k 1 (rd0 0 k) (rd0 1 k) (rd0 2 k) 229 (12 + 5 * k) = 1 := by rw [fSt_at, if_neg (by omega), if_neg (by omega), if_neg (by omega), if_neg (by omega), if_pos rfl]
      have z1 : fSt f k 1 (rd0 0 k) (rd0 1 k) (rd0 2 k) 229 (13 + 5 * k) = (rd0 0 k) := by rw [fSt_at, if_neg (by omega), if_neg (by omega), if_neg (by omega), if_pos rfl]
      have z2 : fSt f k 1 (rd0 0 k) (rd0 1 k) (rd0 2 k) 229 (14 + 5 * k) = (rd0 1 k) := by rw [fSt_at, if_neg (by omega), if_neg (by omega), if_pos rfl]
      have z3 : fSt f k 1 (rd0 0 k) (rd0 1 k) (rd0 2 k) 229 (15 + 5 * k) = (rd0 2 k) := by rw [fSt_at, if_neg (by omega), if_pos rfl]
      have z4 : fSt f k 1 (rd0 0 k) (rd0 1 k) (rd0 2 k) 229 (16 + 5 * k) = 0 := by rw [fSt_at, if_pos rfl]
      refine l_bg1 hd1 hs hp ht hpo ho K (k + 1) (by omega) _ _ ⟨((((b1.up (by omega)).up (by omega)).up (by omega)).up (by omega)).up (by omega), ?_, all_succ (fun q hq => ?_) ?_, fun q hq => absurd hq (by omega), fun q hq => absurd hq (by omega)⟩
      · rw [hat _ (by omega), hat _ (by omega)]; exact b2
      · exact (b3 q hq).sameS (fun i hi => hat _ (by omega))
      · exact Or.inr ⟨by omega, z0, z1, z2, z3, by rw [z4]; omega⟩
termination_by 6 - k
theorem c_begins (hd : 2 ≤ d) (hs : Sh σ g) (hp : MPl (f 229) pl) (ht : MT (f 229) rd0) (hpo : PlOk pl) (ho : StOk pl rd0) (K : ∀ f', FrB f f' → MRd (f' 229) rd0 → Q none σ f' g) : ZCt d 173 [zr (some 219)] σ f g Q := by
  refine ZCt.of' (L0 := [_, _, _]) (by omega) rfl rfl rfl (fun d hd1 => ?_)
  refine r_aload_n rfl rfl ?_
  refine r_getR rfl (by first | assumption | exact hs.o rfl) (by first | assumption | exact hs.g rfl) ?_
  refine r_bipush rfl ?_
  refine r_iconst rfl ?_
  refine r_iastN (10) rfl (by first | assumption | exact hs.a rfl) (by omega) (by omega) (by omega) ?_
  refine r_aload_n rfl rfl ?_
  refine r_getR rfl (by first | assumption | exact hs.o rfl) (by first | assumption | exact hs.g rfl) ?_
  refine r_bipush rfl ?_
  refine r_iconst rfl ?_
  refine r_iastN (11) rfl (by first | assumption | exact hs.a rfl) (by omega) (by omega) (by omega) ?_
  refine r_iconst rfl ?_
  refine r_istore_n (L' := [_, _, _]) rfl rfl rfl ?_
  refine l_bg1 (f0 := f) (by omega) hs hp ht hpo ho K 0 (by omega) _ _ ⟨((FrB.rf f).up (by omega)).up (by omega), ?_, fun q hq => absurd hq (by omega), fun q hq => absurd hq (by omega), fun q hq => absurd hq (by omega)⟩
  rw [up2_ne _ _ (by omega), up2_same, up2_same]
  exact ⟨rfl, rfl⟩
theorem MT.frk {s s' : Nat → Int} (h : MT s rd0) (h2 : ∀ i, i < 10 ∨ 67 ≤ i → s' i = s i) : MT s' rd0 := by
  refine ⟨fun k hk q => ?_, fun c hc => by rw [h2 (95 + c) (by omega)]; exact h.2 c hc⟩
  rw [h2 (77 + 3 * k) (by omega), h2 (78 + 3 * k) (by omega), h2 (79 + 3 * k) (by omega)]
  exact h.1 k hk q
theorem MI.mn (hM : MI f a) : MN (f 229) a.w := hM.w.2.2
theorem Kp.fb {f0 f f' : ZF} (h : Kp f0 f) (h' : FrB f f') : Kp f0 f' := h.m h'.m
theorem l_wsM (hd1 : 11 ≤ d) (hs : Sh σ g) {f00 : ZF} (hM : MI f00 a) (hA : AOk N a) (hp : a.w.pn = some (pl, rd0)) {c : Nat} (hc6 : c < 6) (hon : 0 ≤ rd0 0 c) {w : Int} (K : ∀ f', Kp f00 f' → TM σ f' g pl (AL a a.fo pl) (-1) → (∀ i, i ≠ 18 → i ≠ 25 → f' 219 i = f00 219 i) → ZWp d zt239 109 [zr (some 219), zi (c : Int), zi w, zi (cnt (wsP a pl rd0 c) pl.2.1.toNat), zi (wshS (wsP a pl rd0 c) pl.2.1.toNat), zi ((pl.2.1.toNat : Nat) : Int)] [] σ f' g Q) (k : Nat) (hk : k ≤ pl.2.1.toNat) (f : ZF) (hkp : Kp f00 f) (ht : TM σ f g pl (AL a a.fo pl) (-1)) (h219 : ∀ i, i ≠ 18 → i ≠ 25 → f 219 i = f00 219 i) : ZWp d zt239 49 [zr (some 219), zi (c : Int), zi w, zi (cnt (wsP a pl rd0 c) k), zi (wshS (wsP a pl rd0 c) k), zi (k : Int)] [] σ f g Q := by
  obtain ⟨hplo, hvr, hst⟩ := hA.plS hp
  have hp2 := hplo.2.1
  have hM0 := (hM.plS hp).1
  have hMT : MT (f 229) rd0 := (hM.plS hp).2.frk hkp.2.2.1
  refine r_iload rfl rfl ?_
  refine r_aload_n rfl rfl ?_
  refine r_getR rfl (by first | assumption | exact hs.o rfl) (by first | assumption | exact hs.g rfl) ?_
  refine r_iconst rfl ?_
  refine r_iald rfl (by first | assumption | exact hs.a rfl) (by omega) (by omega) ((zix (n := 2) rfl).trans ht.1.2.2.1) ?_
  refine r_icmp_ge rfl (by omega) (by omega) (fun hge => ?_) (fun hge => ?_)
  · have e : k = pl.2.1.toNat := by omega
    subst e
    exact K f hkp ht h219
  · refine r_aload_n rfl rfl ?_
    refine r_callV0 rfl rfl (by first | assumption | exact hs.o rfl) rfl (c_begins (by omega) hs (hM0.fr2 hkp.2.2.1) (hMT) hplo hst (fun f1 hf1 hm1 => ?_))
    refine r_aload_n rfl rfl ?_
    refine r_getR rfl (by first | assumption | exact hs.o rfl) (by first | assumption | exact hs.g rfl) ?_
    refine r_bipush rfl ?_
    refine r_iconst rfl ?_
    refine r_iload_n rfl rfl ?_
    refine r_imul rfl ?_
    refine r_iadd rfl ?_
    refine r_iconst rfl ?_
    refine r_iadd rfl ?_
    refine r_iload rfl rfl ?_
    refine r_iastN (14 + 5 * c) rfl (by first | assumption | exact hs.a rfl) (by omega) (by omega) (by omega) ?_
    refine r_aload_n rfl rfl ?_
    refine r_iconst rfl ?_
    refine r_iconst rfl ?_
    have hk2 : Kp f00 (up2 f1 229 (14 + 5 * c) (k : Int)) := (hkp.fb hf1).upS (by omega)
    have ht2 : TM σ (up2 f1 229 (14 + 5 * c) (k : Int)) g pl (AL a a.fo pl) (-1) := (ht.fr hf1.m).sd (by omega)
    refine r_callV2 rfl rfl (by first | assumption | exact hs.o rfl) rfl (c_areAllSo (q := 0) (w := a.w) (N := 0) (rd := up2 rd0 1 c (k : Int)) (al := AL a a.fo pl) (by omega) hs (hst.vs.want (by omega) hon (by omega)) (by omega) (by omega) (hM.mn.fr hA.2.2.1.1.1 (fun i q => hk2.2.2.1 i (by omega))) hA.2.2.1.1 (by omega) ht2 (mrd_want hm1 (by omega) hon) (fun f3 hf3 _ => ?_))
    have hb := (wshS_bits (P := wsP a pl rd0 c) k (by omega)).rng
    refine r_if_ne rfl (by split <;> omega) (fun hfit => ?_) (fun hfit => ?_)
    · refine r_iinc (L' := [_, _, _, _, _, _]) rfl rfl rfl ?_
      refine r_iload rfl rfl ?_
      refine r_iconst rfl ?_
      refine r_iload rfl rfl ?_
      refine r_ishl rfl ?_
      refine r_ior rfl ?_
      refine r_istore (L' := [_, _, _, _, _, _]) rfl rfl rfl ?_
      refine r_iinc (L' := [_, _, _, _, _, _]) rfl rfl rfl ?_
      refine r_goto rfl ?_
      have hfy : wsP a pl rd0 c k = true := by
        cases hz : wsP a pl rd0 c k with
        | true => rfl
        | false => rw [show fitA pl (AL a a.fo pl) a.w (up2 rd0 1 c (k : Int)) 61 = false from hz] at hfit; exact absurd rfl hfit
      have := l_wsM hd1 hs hM hA hp hc6 hon K (k + 1) (by omega) f3 (hk2.frn hf3) (ht2.frn hf3) (fun i q1 q2 => by rw [hf3.2.1 i q1 q2, up2_o _ _ (by omega), hf1.1 219 (by omega)]; exact h219 i q1 q2)
      rw [show wshS (wsP a pl rd0 c) (k + 1) = _ from if_pos hfy, show cnt (wsP a pl rd0 c) (k + 1) = _ from (show cnt (wsP a pl rd0 c) k + (if wsP a pl rd0 c k = true then 1 else 0) = cnt (wsP a pl rd0 c) k + 1 by rw [if_pos hfy])] at this
      exact this
    · refine r_goto rfl ?_
      refine r_iinc (L' := [_, _, _, _, _, _]) rfl rfl rfl ?_
      refine r_goto rfl ?_
      have hfn : wsP a pl rd0 c k = false := by
        cases hz : wsP a pl rd0 c k with
        | false => rfl
        | true => rw [show fitA pl (AL a a.fo pl) a.w (up2 rd0 1 c (k : Int)) 61 = true from hz] at hfit; exact absurd hfit (by decide)
      have := l_wsM hd1 hs hM hA hp hc6 hon K (k + 1) (by omega) f3 (hk2.frn hf3) (ht2.frn hf3) (fun i q1 q2 => by rw [hf3.2.1 i q1 q2, up2_o _ _ (by omega), hf1.1 219 (by omega)]; exact h219 i q1 q2)
      rw [show wshS (wsP a pl rd0 c) (k + 1) = _ from if_neg (by rw [hfn]; decide), show cnt (wsP a pl rd0 c) (k + 1) = _ from (show cnt (wsP a pl rd0 c) k + (if wsP a pl rd0 c k = true then 1 else 0) = cnt (wsP a pl rd0 c) k by rw [hfn]; exact Int.add_zero _)] at this
      exact this
termination_by pl.2.1.toNat - k
theorem c_wished (hd : 13 ≤ d) (hs : Sh σ g) (hM : MI f a) (hA : AOk N a) {c w : Int} (hci : IR c) (hwi : IR w) (K : ∀ f', FrMQ f f' → Q (some (zi (qWished a c w))) σ f' g) : ZCt d 239 [zr (some 219), zi c, zi w] σ f g Q := by
  refine ZCt.of' (L0 := [_, _, _, _, _, _]) (by omega) rfl rfl rfl (fun d hd1 => ?_)
  refine r_aload_n rfl rfl ?_
  refine r_callV0 rfl rfl (by first | assumption | exact hs.o rfl) rfl (c_shown (by omega) hs hM hA (fun pl rd0 hp => ?_) (fun hnp => ?_))
  · refine r_if_n rfl (by decide) ?_
    refine r_iload_n rfl rfl ?_
    refine r_i2l rfl (by omega) ?_
    refine r_lconst rfl ?_
    refine r_aload_n rfl rfl ?_
    refine r_getR rfl (by first | assumption | exact hs.o rfl) (by first | assumption | exact hs.g rfl) ?_
    refine r_iconst rfl ?_
    obtain ⟨hplo, hvr, hst⟩ := hA.plS hp
    have hN := hA.2.2.2.2.2.2.2
    have hvs := hvr.vs
    have ht0 : TM σ f g pl (AL a a.fo pl) (-1) := MI.tm hs hM hA hp
    have hm0 : MRd (f 229) a.w.rd := hM.w.2.1
    have hp3 := hplo.2.2.1
    refine r_iald rfl (by first | assumption | exact hs.a rfl) (by omega) (by omega) ((zix (n := 3) rfl).trans ht0.1.2.2.2.1) ?_
    refine r_iconst rfl ?_
    refine r_isub rfl ?_
    refine r_i2l rfl (by omega) ?_
    refine r_callS3 rfl rfl rfl (c_in (by omega) (by omega) (by omega) (by omega) (fun hc => ?_) (fun hc => ?_))
    · refine r_if_n rfl (by decide) ?_
      refine r_iload_n rfl rfl ?_
      refine r_i2l rfl (by omega) ?_
      refine r_lconst rfl ?_
      refine r_lconst rfl ?_
      refine r_callS3 rfl rfl rfl (c_in (by omega) (by omega) (by omega) (by omega) (fun hw => ?_) (fun hw => ?_))
      · refine r_if_y rfl (by decide) ?_
        refine r_iconst rfl ?_
        refine r_istore_n (L' := [_, _, _, _, _, _]) rfl rfl rfl ?_
        refine r_iconst rfl ?_
        refine r_istore (L' := [_, _, _, _, _, _]) rfl rfl rfl ?_
        refine r_aload_n rfl rfl ?_
        obtain ⟨cc, rfl⟩ := Int.eq_ofNat_of_zero_le (show 0 ≤ c by omega)
        have hsc := (hst.2.2.2 cc (by omega))
        have hok := hst.1.2.2.1 cc (by omega)
        rw [qWished_yes hp (by omega)] at K
        refine r_callV0 rfl rfl (by first | assumption | exact hs.o rfl) rfl (c_keeps (by omega) hs (fun f1 hk1 he1 => ?_))
        have ht1 : TM σ f1 g pl (AL a a.fo pl) (-1) := ht0.k1 he1
        have hm1 : MRd (f1 229) a.w.rd := by rw [he1 229 (by omega)]; exact hm0
        refine r_iconst rfl ?_
        refine r_istore (L' := [_, _, _, _, _, _]) rfl rfl rfl ?_
        refine l_wsM (f00 := f) (by omega) hs hM hA hp (c := cc) (by omega) (by omega) (fun f2 hk2 ht2 h2192 => ?_) 0 (by omega) f1 hk1 ht1 (fun i q1 q2 => by rw [he1 219 (by omega)])
        refine r_aload_n rfl rfl ?_
        refine r_callV0 rfl rfl (by first | assumption | exact hs.o rfl) rfl (c_laysBack (by omega) hs hk2 (fun f9 hk9 h99 he9 => ?_))
        have hfin : FrMQ f f9 := hk9.back h99 (fun i q => by rw [he9 219 (by omega)]; exact h2192 i (by omega) (by omega))
        refine r_iload_n rfl rfl ?_
        refine r_if_ne rfl (by omega) (fun hw0 => ?_) (fun hw0 => ?_)
        · refine r_iload rfl rfl ?_
          refine r_iret rfl ?_
          first | (rw [if_pos (by omega)] at K; exact K f9 hfin) | (rw [if_neg (by omega)] at K; exact K f9 hfin)
        · refine r_iload_n rfl rfl ?_
          refine r_goto rfl ?_
          refine r_iret rfl ?_
          first | (rw [if_pos (by omega)] at K; exact K f9 hfin) | (rw [if_neg (by omega)] at K; exact K f9 hfin)
      · refine r_if_n rfl (by decide) ?_
        refine r_iconst rfl ?_
        refine r_iret rfl ?_
        refine Eq.mp (congrArg (fun z => Q (some (zi z)) σ f g) (qWished_no (fun pl' rd0' q z => ?_))) (K f (FrMQ.rf f))
        first | (rw [hnp] at q; cases q) | (rw [hp] at q; cases q; omega)
    · refine r_if_y rfl (by decide) ?_
      refine r_iconst rfl ?_
      refine r_iret rfl ?_
      refine Eq.mp (congrArg (fun z => Q (some (zi z)) σ f g) (qWished_no (fun pl' rd0' q z => ?_))) (K f (FrMQ.rf f))
      first | (rw [hnp] at q; cases q) | (rw [hp] at q; cases q; omega)
  · refine r_if_y rfl (by decide) ?_
    refine r_iconst rfl ?_
    refine r_iret rfl ?_
    refine Eq.mp (congrArg (fun z => Q (some (zi z)) σ f g) (qWished_no (fun pl' rd0' q z => ?_))) (K f (FrMQ.rf f))
    first | (rw [hnp] at q; cases q) | (rw [hp] at q; cases q; omega)
theorem l_ff (hd1 : 11 ≤ d) (hs : Sh σ g) {f00 : ZF} (hM : MI f00 a) (hA : AOk N a) (hp : a.w.pn = some (pl, rd0)) {th : Nat} (hth : th ≤ 60) {x2 : Int} (K : ∀ f', Kp f00 f' → (∀ i, i ≠ 18 → i ≠ 21 → i ≠ 25 → f' 219 i = f00 219 i) → (∀ r, r < a.rk + 1 → f' 234 r = (if ruF a pl rd0 r = true then 1 else 0) ∧ ∀ i, i < 6 → f' 235 (6 * r + i) = lkC0 a pl rd0 th i r) → ZWp d zt244 48 [zr (some 219), zi (th : Int), zi x2, zi ((a.rk + 1 : Nat) : Int)] [] σ f' g Q) (k : Nat) (hk : k ≤ a.rk + 1) (f : ZF) (hkp : Kp f00 f) (h219 : (∀ i, i ≠ 18 → i ≠ 21 → i ≠ 25 → f 219 i = f00 219 i)) (hin : (∀ r, r < k → f 234 r = (if ruF a pl rd0 r = true then 1 else 0) ∧ ∀ i, i < 6 → f 235 (6 * r + i) = lkC0 a pl rd0 th i r)) : ZWp d zt244 11 [zr (some 219), zi (th : Int), zi x2, zi (k : Int)] [] σ f g Q := by
  obtain ⟨hplo, hvr, hst⟩ := hA.plS hp
  have hrk := hA.1.2.1
  have hM0 := (hM.plS hp).1
  have hMT : MT (f 229) rd0 := (hM.plS hp).2.frk hkp.2.2.1
  refine r_iload_n rfl rfl ?_
  refine r_aload_n rfl rfl ?_
  refine r_getI rfl (by first | assumption | exact hs.o rfl) ((h219 2 (by omega) (by omega) (by omega)).trans hM.rk) ?_
  refine r_icmp_gt rfl (by omega) (by omega) (fun hgt => ?_) (fun hgt => ?_)
  · have e : k = a.rk + 1 := by omega
    subst e
    exact K f hkp h219 hin
  · refine r_aload_n rfl rfl ?_
    refine r_iload_n rfl rfl ?_
    refine r_iconst rfl ?_
    refine r_isub rfl ?_
    refine r_putI rfl (by first | assumption | exact hs.o rfl) ?_
    refine r_aload_n rfl rfl ?_
    have hr6 := hA.1.2.1
    have hkA : Kp f00 (up2 f 219 21 ((k : Int) - 1)) := hkp.upM (by omega)
    refine r_callV0 rfl rfl (by first | assumption | exact hs.o rfl) rfl (c_begins (by omega) hs ((by rw [up2_o _ _ (by omega)]; exact hM0.fr2 hkp.2.2.1)) (by rw [up2_o _ _ (by omega)]; exact hMT) hplo hst (fun f1 hf1 hm1 => ?_))
    have hk1 : Kp f00 f1 := hkA.fb hf1
    have e19 : f1 219 = up2 f 219 21 ((k : Int) - 1) 219 := hf1.1 219 (by omega)
    have ht1 : TM σ f1 g pl (AL a ((k : Int) - 1) pl) (-1) := tm_kp hs hM hA hp (by omega) hk1 (by rw [e19, up2_same]) (by rw [e19, up2_ne _ _ (by omega), h219 24 (by omega) (by omega) (by omega)]; exact hM.pn) (by rw [e19, up2_ne _ _ (by omega), h219 23 (by omega) (by omega) (by omega)]; exact hM.cl)
    refine r_aload_n rfl rfl ?_
    refine r_getR rfl (by first | assumption | exact hs.o rfl) (by first | assumption | exact hs.g rfl) ?_
    refine r_iload_n rfl rfl ?_
    refine r_aload_n rfl rfl ?_
    refine r_iload_n rfl rfl ?_
    refine r_iload_n rfl rfl ?_
    refine r_callV2 rfl rfl (by first | assumption | exact hs.o rfl) rfl (c_areAllSo (q := k) (w := a.w) (N := 0) (rd := rd0) (al := AL a ((k : Int) - 1) pl) (th := (th : Int)) (by omega) hs hst.vs (by omega) (by omega) (hM.mn.fr hA.2.2.1.1.1 (fun i q => hk1.2.2.1 i (by omega))) hA.2.2.1.1 (by omega) ht1 hm1 (fun f3 hf3 hc3 => ?_))
    refine r_zastN (k) rfl (by first | assumption | exact hs.a rfl) (by omega) (by omega) (by omega) (by split <;> omega) ?_
    refine r_iinc (L' := [_, _, _, _]) rfl rfl rfl ?_
    refine r_goto rfl ?_
    refine l_ff hd1 hs hM hA hp hth K (k + 1) (by omega) _ ((hk1.frn hf3).up (c := 234) (by omega)) (fun i q1 q2 q3 => ?_) (all_succ (fun r hr => ?_) ?_)
    · rw [up2_o _ _ (by omega), hf3.2.1 i q1 q3, e19, up2_ne _ _ (by omega)]; exact h219 i q1 q2 q3
    · rw [up2_ne _ _ (by omega), up2_o _ _ (by omega), hf3.1 234 (by omega) (by omega) (by omega) (by omega) (by omega), hf1.1 234 (by omega), up2_o _ _ (by omega)]
      refine ⟨(hin r hr).1, fun i hi => ?_⟩
      rw [hc3.2 (6 * r + i) (by omega), hf1.1 235 (by omega), up2_o _ _ (by omega)]
      exact (hin r hr).2 i hi
    · rw [up2_same, up2_o _ _ (by omega)]
      exact ⟨rfl, fun i hi => hc3.1 th rfl (by omega) i hi⟩
termination_by a.rk + 1 - k
theorem c_fillsFits (hd : 12 ≤ d) (hs : Sh σ g) (hM : MI f a) (hA : AOk N a) (hp : a.w.pn = some (pl, rd0)) {th : Nat} (hth : th ≤ 60) (K : ∀ f', FrMQ f f' → (∀ r, r < a.rk + 1 → f' 234 r = (if ruF a pl rd0 r = true then 1 else 0) ∧ ∀ i, i < 6 → f' 235 (6 * r + i) = lkC0 a pl rd0 th i r) → Q none σ f' g) : ZCt d 244 [zr (some 219), zi (th : Int)] σ f g Q := by
  refine ZCt.of' (L0 := [_, _, _, _]) (by omega) rfl rfl rfl (fun d hd1 => ?_)
  refine r_aload_n rfl rfl ?_
  refine r_getI rfl (by first | assumption | exact hs.o rfl) hM.fo ?_
  refine r_istore_n (L' := [_, _, _, _]) rfl rfl rfl ?_
  refine r_aload_n rfl rfl ?_
  refine r_callV0 rfl rfl (by first | assumption | exact hs.o rfl) rfl (c_keeps (by omega) hs (fun f1 hk1 he1 => ?_))
  refine r_iconst rfl ?_
  refine r_istore_n (L' := [_, _, _, _]) rfl rfl rfl ?_
  refine l_ff (f00 := f) (by omega) hs hM hA hp hth (fun f2 hk2 h2 hin2 => ?_) 0 (by omega) f1 hk1 (fun i q1 q2 q3 => by rw [he1 219 (by omega)]) (fun r hr => absurd hr (by omega))
  refine r_aload_n rfl rfl ?_
  refine r_iload_n rfl rfl ?_
  refine r_putI rfl (by first | assumption | exact hs.o rfl) ?_
  refine r_aload_n rfl rfl ?_
  refine r_callV0 rfl rfl (by first | assumption | exact hs.o rfl) rfl (c_laysBack (f0 := f) (by omega) hs (hk2.upM (by omega)) (fun f9 hk9 h99 he9 => ?_))
  refine r_ret rfl ?_
  refine K f9 (hk9.back h99 (fun i q => ?_)) (fun r hr => ?_)
  · rw [he9 219 (by omega)]
    by_cases e : i = 21
    · subst e; rw [up2_same, hM.fo]
    · rw [up2_ne _ _ (by omega)]; exact h2 i (by omega) e (by omega)
  · rw [he9 234 (by omega), he9 235 (by omega), up2_o _ _ (by omega), up2_o _ _ (by omega)]; exact hin2 r hr
def ruT (P : Nat → Bool) (k j : Nat) : List Nat := (List.range' k j).filter P
theorem ruT_y {P : Nat → Bool} {k j : Nat} (h : P k = true) : ruT P k (j + 1) = k :: ruT P (k + 1) j := by
  unfold ruT
  rw [List.range'_succ, List.filter_cons_of_pos h]
theorem ruT_n {P : Nat → Bool} {k j : Nat} (h : P k = false) : ruT P k (j + 1) = ruT P (k + 1) j := by
  unfold ruT
  rw [List.range'_succ, List.filter_cons_of_neg (by rw [h]; decide)]
theorem ruT_0 (P : Nat → Bool) (m : Nat) : ruT P 0 m = ruL P m := by
  unfold ruT ruL
  rw [List.range_eq_range']
theorem ruT_len (P : Nat → Bool) (k j : Nat) : (ruT P k j).length ≤ j := by
  unfold ruT
  refine Nat.le_trans (List.length_filter_le _ _) ?_
  simp
theorem l_ruM (hs : Sh σ g) {m : Nat} (hm7 : m ≤ 7) {P : Nat → Bool} (hP : ∀ r, r < m → f 234 r = (if P r = true then 1 else 0)) {w : Int} (K : ZWp d zt243 68 [zr (some 219), zi w, zi ((ruT P 0 m).length : Int), zi (hdR (ruT P 0 m)), zi (((0 : Nat) : Int) - 1)] [] σ f g Q) (k : Nat) (hk : k ≤ m) : ZWp d zt243 36 [zr (some 219), zi w, zi ((ruT P k (m - k)).length : Int), zi (hdR (ruT P k (m - k))), zi ((k : Int) - 1)] [] σ f g Q := by
  have hln := ruT_len P k (m - k)
  refine r_iload rfl rfl ?_
  refine r_if_lt rfl (by omega) (fun hlt => ?_) (fun hlt => ?_)
  · have e : k = 0 := by omega
    subst e
    exact K
  · refine r_aload_n rfl rfl ?_
    refine r_getR rfl (by first | assumption | exact hs.o rfl) (by first | assumption | exact hs.g rfl) ?_
    refine r_iload rfl rfl ?_
    obtain ⟨k, rfl⟩ : ∃ u, k = u + 1 := ⟨k - 1, by omega⟩
    refine r_zald rfl (by first | assumption | exact hs.a rfl) (by omega) (by omega) ((zix (n := k) (by omega)).trans (hP k (by omega))) ?_
    refine r_if_ne rfl (by split <;> omega) (fun hfit => ?_) (fun hfit => ?_)
    · refine r_iload rfl rfl ?_
      refine r_iconst rfl ?_
      refine r_isub rfl ?_
      refine r_istore_n (L' := [_, _, _, _, _]) rfl rfl rfl ?_
      refine r_iinc (L' := [_, _, _, _, _]) rfl rfl rfl ?_
      refine r_iinc (L' := [_, _, _, _, _]) rfl rfl rfl ?_
      refine r_goto rfl ?_
      have hfy : P k = true := by
        cases hz : P k with
        | true => rfl
        | false => rw [hz] at hfit; exact absurd rfl hfit
      have := l_ruM hs hm7 hP (w := w) K k (by omega)
      rw [show m - k = (m - (k + 1)) + 1 by omega, ruT_y hfy] at this
      rw [show (((k + 1 : Nat) : Int) - 1 + -1) = (k : Int) - 1 by omega]
      rw [show (((ruT P (k + 1) (m - (k + 1))).length : Int) + 1) = (((k :: ruT P (k + 1) (m - (k + 1))).length : Nat) : Int) by simp, show ((k + 1 : Nat) : Int) - 1 - 1 = hdR (k :: ruT P (k + 1) (m - (k + 1))) by show _ = (k : Int) - 1; omega]
      exact this
    · refine r_goto rfl ?_
      refine r_iinc (L' := [_, _, _, _, _]) rfl rfl rfl ?_
      refine r_goto rfl ?_
      have hfn : P k = false := by
        cases hz : P k with
        | false => rfl
        | true => rw [hz] at hfit; exact absurd hfit (by decide)
      have := l_ruM hs hm7 hP (w := w) K k (by omega)
      rw [show m - k = (m - (k + 1)) + 1 by omega, ruT_n hfn] at this
      rw [show (((k + 1 : Nat) : Int) - 1 + -1) = (k : Int) - 1 by omega]
      exact this
termination_by k
theorem c_ruled (hd : 13 ≤ d) (hs : Sh σ g) (hM : MI f a) (hA : AOk N a) {w : Int} (hwi : IR w) (K : ∀ f', FrMQ f f' → Q (some (zi (qRuled a w))) σ f' g) : ZCt d 243 [zr (some 219), zi w] σ f g Q := by
  refine ZCt.of' (L0 := [_, _, _, _, _]) (by omega) rfl rfl rfl (fun d hd1 => ?_)
  refine r_aload_n rfl rfl ?_
  refine r_callV0 rfl rfl (by first | assumption | exact hs.o rfl) rfl (c_shown (by omega) hs hM hA (fun pl rd0 hp => ?_) (fun hnp => ?_))
  · refine r_if_n rfl (by decide) ?_
    refine r_iload_n rfl rfl ?_
    refine r_i2l rfl (by omega) ?_
    refine r_lconst rfl ?_
    refine r_lconst rfl ?_
    refine r_callS3 rfl rfl rfl (c_in (by omega) (by omega) (by omega) (by omega) (fun hw => ?_) (fun hw => ?_))
    · refine r_if_y rfl (by decide) ?_
      refine r_aload_n rfl rfl ?_
      refine r_iconst rfl ?_
      rw [qRuled_yes hp hw] at K
      refine r_callV1 rfl rfl (by first | assumption | exact hs.o rfl) rfl (c_fillsFits (th := 0) (by omega) hs hM hA hp (by omega) (fun f2 hf2 hin2 => ?_))
      refine r_iconst rfl ?_
      refine r_istore_n (L' := [_, _, _, _, _]) rfl rfl rfl ?_
      refine r_bipush rfl ?_
      refine r_istore_n (L' := [_, _, _, _, _]) rfl rfl rfl ?_
      refine r_aload_n rfl rfl ?_
      refine r_getI rfl (by first | assumption | exact hs.o rfl) ((hf2.2 2 (by omega) (by omega) (by omega) (by omega) (by omega)).trans hM.rk) ?_
      refine r_istore (L' := [_, _, _, _, _]) rfl rfl rfl ?_
      have hrk := hA.1.2.1
      have hq := l_ruM (d := d) (Q := Q) (f := f2) hs (m := a.rk + 1) (by omega) (P := ruF a pl rd0) (fun r hr => (hin2 r hr).1) (w := w) ?_ (a.rk + 1) (by omega)
      rw [show a.rk + 1 - (a.rk + 1) = 0 by omega, show ((a.rk + 1 : Nat) : Int) - 1 = (a.rk : Int) by omega] at hq
      exact hq
      rw [ruT_0]
      refine r_iload_n rfl rfl ?_
      refine r_if_ne rfl (by omega) (fun hw0 => ?_) (fun hw0 => ?_)
      · refine r_iload_n rfl rfl ?_
        refine r_iret rfl ?_
        first | (rw [if_pos (by omega)] at K; exact K f2 hf2) | (rw [if_neg (by omega)] at K; exact K f2 hf2)
      · refine r_iload_n rfl rfl ?_
        refine r_goto rfl ?_
        refine r_iret rfl ?_
        first | (rw [if_pos (by omega)] at K; exact K f2 hf2) | (rw [if_neg (by omega)] at K; exact K f2 hf2)
    · refine r_if_n rfl (by decide) ?_
      refine r_bipush rfl ?_
      refine r_iret rfl ?_
      first | (rw [qRuled_no (Or.inr (by omega))] at K; exact K f (FrMQ.rf f)) | (rw [qRuled_no (Or.inl hnp)] at K; exact K f (FrMQ.rf f))
  · refine r_if_y rfl (by decide) ?_
    refine r_bipush rfl ?_
    refine r_iret rfl ?_
    first | (rw [qRuled_no (Or.inr (by omega))] at K; exact K f (FrMQ.rf f)) | (rw [qRuled_no (Or.inl hnp)] at K; exact K f (FrMQ.rf f))
theorem le_mxV {G : Nat → Int} : ∀ (n j : Nat), j < n → G j ≤ mxV G n := by
  intro n
  induction n with
  | zero => intro j h; omega
  | succ n ih =>
    intro j h
    simp only [mxV]
    by_cases e : j = n
    · subst e; split <;> omega
    · have := ih j (by omega); split <;> omega
theorem mxV_le {G : Nat → Int} {B : Int} (hB : 0 ≤ B) : ∀ n : Nat, (∀ j, j < n → G j ≤ B) → mxV G n ≤ B := by
  intro n
  induction n with
  | zero => intro _; exact hB
  | succ n ih =>
    intro h
    have h1 := ih (fun j q => h j (by omega))
    have h2 := h n (by omega)
    simp only [mxV]
    split <;> omega
theorem mxV_nn {G : Nat → Int} : ∀ n : Nat, 0 ≤ mxV G n := by
  intro n
  induction n with
  | zero => exact Int.le_refl 0
  | succ n ih => simp only [mxV]; split <;> omega
theorem cV_pos {P : Nat → Bool} {C : Nat → Int} {v : Int} {r : Nat} (h1 : P r = true) (h2 : C r = v) : ∀ m : Nat, r < m → 1 ≤ cV P C v m := by
  intro m
  induction m with
  | zero => intro h; omega
  | succ m ih =>
    intro h
    simp only [cV]
    have := (cV_rng (P := P) (C := C) (v := v) m).1
    by_cases e : r = m
    · subst e; rw [if_pos ⟨h1, h2⟩]; omega
    · have := ih (by omega); split <;> omega
theorem cV_ex {P : Nat → Bool} {C : Nat → Int} {v : Int} : ∀ m : Nat, cV P C v m ≠ 0 → ∃ r, r < m ∧ P r = true ∧ C r = v := by
  intro m
  induction m with
  | zero => intro h; exact absurd rfl h
  | succ m ih =>
    intro h
    simp only [cV] at h
    by_cases e : P m = true ∧ C m = v
    · exact ⟨m, by omega, e.1, e.2⟩
    · rw [if_neg e] at h
      obtain ⟨r, q1, q2⟩ := ih (by omega)
      exact ⟨r, by omega, q2⟩
/-- as the reference reckons it -/
def alG (P : Nat → Bool) (C : Nat → Int) (m u : Nat) : Int := if P u = true then cV P C (C u) m else 0
theorem alG_eq {P : Nat → Bool} {C : Nat → Int} {m : Nat} (hC : ∀ r, r < m → -1 ≤ C r ∧ C r < 20) : mxV (alG P C m) m = mxV (fun j => cV P C ((j : Int) - 1) m) 21 := by
  refine Int.le_antisymm (mxV_le (mxV_nn _) _ (fun u hu => ?_)) (mxV_le (mxV_nn _) _ (fun j hj => ?_))
  · unfold alG
    split
    · have h1 := hC u hu
      have := le_mxV (G := fun j : Nat => cV P C ((j : Int) - 1) m) 21 (C u + 1).toNat (by omega)
      rw [show (((C u + 1).toNat : Nat) : Int) - 1 = C u by omega] at this
      exact this
    · exact mxV_nn _
  · by_cases h0 : cV P C ((j : Int) - 1) m = 0
    · rw [h0]; exact mxV_nn _
    · obtain ⟨r, q1, q2, q3⟩ := cV_ex m h0
      have := le_mxV (G := alG P C m) m r q1
      unfold alG at this
      rw [if_pos q2, q3] at this
      exact this
theorem l_aliM (hs : Sh σ g) {m : Nat} (hm : 1 ≤ m ∧ m ≤ 7) (hrk : f 219 2 = ((m - 1 : Nat) : Int)) {P : Nat → Bool} {C : Nat → Int} {i : Nat} (hi6 : i < 6) (hP : ∀ r, r < m → f 234 r = (if P r = true then 1 else 0)) (hC : ∀ r, r < m → f 235 (6 * r + i) = C r) (hCr : ∀ r, r < m → -1 ≤ C r ∧ C r < 20) {u : Nat} (hu : u < m) {mo : Int} (K : ∀ x, ZWp d zt246 88 [zr (some 219), zi (i : Int), zi mo, zi (u : Int), zi (if P u = true then cV P C (C u) m else 0), x] [] σ f g Q) (k : Nat) (hk : k ≤ m) : ZWp d zt246 18 [zr (some 219), zi (i : Int), zi mo, zi (u : Int), zi (if P u = true then cV P C (C u) k else 0), zi (k : Int)] [] σ f g Q := by
  refine r_iload rfl rfl ?_
  refine r_aload_n rfl rfl ?_
  refine r_getI rfl (by first | assumption | exact hs.o rfl) hrk ?_
  refine r_icmp_gt rfl (by omega) (by omega) (fun hgt => ?_) (fun hgt => ?_)
  · have e : k = m := by omega
    subst e
    exact K _
  · refine r_aload_n rfl rfl ?_
    refine r_getR rfl (by first | assumption | exact hs.o rfl) (by first | assumption | exact hs.g rfl) ?_
    refine r_iload_n rfl rfl ?_
    refine r_zald rfl (by first | assumption | exact hs.a rfl) (by omega) (by omega) ((zix (n := u) (by omega)).trans (hP u hu)) ?_
    refine r_if_eq rfl (by split <;> omega) (fun hfa => ?_) (fun hfa => ?_)
    · have hn : ¬ P u = true := fun q => by rw [if_pos q] at hfa; omega
      rw [if_neg hn] at K
      rw [if_neg hn]
      exact K _
    · refine r_iload rfl rfl ?_
      refine r_aload_n rfl rfl ?_
      refine r_getR rfl (by first | assumption | exact hs.o rfl) (by first | assumption | exact hs.g rfl) ?_
      refine r_iload rfl rfl ?_
      have hy : P u = true := by
        cases hz : P u with
        | true => rfl
        | false => rw [hz] at hfa; exact absurd rfl hfa
      have hCk := hCr k (by omega)
      have hCu := hCr u hu
      refine r_zald rfl (by first | assumption | exact hs.a rfl) (by omega) (by omega) ((zix (n := k) (by omega)).trans (hP k (by omega))) ?_
      refine r_if_eq rfl (by split <;> omega) (fun hfb => ?_) (fun hfb => ?_)
      · refine r_iconst rfl ?_
        refine r_iadd rfl ?_
        refine r_istore (L' := [_, _, _, _, _, _]) rfl rfl rfl ?_
        refine r_iinc (L' := [_, _, _, _, _, _]) rfl rfl rfl ?_
        refine r_goto rfl ?_
        have := l_aliM hs hm hrk hi6 hP hC hCr hu (mo := mo) K (k + 1) (by omega)
        rw [if_pos hy, show cV P C (C u) (k + 1) = cV P C (C u) k + 0 from congrArg _ (if_neg (fun q => by rw [if_pos q.1] at hfb; omega))] at this
        rw [if_pos hy]
        exact this
      · refine r_aload_n rfl rfl ?_
        refine r_getR rfl (by first | assumption | exact hs.o rfl) (by first | assumption | exact hs.g rfl) ?_
        refine r_bipush rfl ?_
        refine r_iload_n rfl rfl ?_
        refine r_imul rfl ?_
        refine r_iload_n rfl rfl ?_
        refine r_iadd rfl ?_
        refine r_iald rfl (by first | assumption | exact hs.a rfl) (by omega) (by omega) ((zix (n := 6 * u + i) (by omega)).trans (hC u hu)) ?_
        refine r_aload_n rfl rfl ?_
        refine r_getR rfl (by first | assumption | exact hs.o rfl) (by first | assumption | exact hs.g rfl) ?_
        refine r_bipush rfl ?_
        refine r_iload rfl rfl ?_
        refine r_imul rfl ?_
        refine r_iload_n rfl rfl ?_
        refine r_iadd rfl ?_
        refine r_iald rfl (by first | assumption | exact hs.a rfl) (by omega) (by omega) ((zix (n := 6 * k + i) (by omega)).trans (hC k (by omega))) ?_
        refine r_icmp_ne rfl (by omega) (by omega) (fun hne => ?_) (fun hne => ?_)
        · refine r_iconst rfl ?_
          refine r_iadd rfl ?_
          refine r_istore (L' := [_, _, _, _, _, _]) rfl rfl rfl ?_
          refine r_iinc (L' := [_, _, _, _, _, _]) rfl rfl rfl ?_
          refine r_goto rfl ?_
          have := l_aliM hs hm hrk hi6 hP hC hCr hu (mo := mo) K (k + 1) (by omega)
          rw [if_pos hy, show cV P C (C u) (k + 1) = cV P C (C u) k + 0 from congrArg _ (if_neg (fun q => hne q.2.symm))] at this
          rw [if_pos hy]
          exact this
        · refine r_iconst rfl ?_
          refine r_goto rfl ?_
          refine r_iadd rfl ?_
          refine r_istore (L' := [_, _, _, _, _, _]) rfl rfl rfl ?_
          refine r_iinc (L' := [_, _, _, _, _, _]) rfl rfl rfl ?_
          refine r_goto rfl ?_
          have := l_aliM hs hm hrk hi6 hP hC hCr hu (mo := mo) K (k + 1) (by omega)
          rw [if_pos hy, show cV P C (C u) (k + 1) = cV P C (C u) k + 1 from congrArg _ (if_pos ⟨by cases hz : P k with | true => rfl | false => rw [hz] at hfb; exact absurd rfl hfb, hne.symm⟩)] at this
          rw [if_pos hy]
          exact this
termination_by m - k
theorem l_aloM (hs : Sh σ g) {m : Nat} (hm : 1 ≤ m ∧ m ≤ 7) (hrk : f 219 2 = ((m - 1 : Nat) : Int)) {P : Nat → Bool} {C : Nat → Int} {i : Nat} (hi6 : i < 6) (hP : ∀ r, r < m → f 234 r = (if P r = true then 1 else 0)) (hC : ∀ r, r < m → f 235 (6 * r + i) = C r) (hCr : ∀ r, r < m → -1 ≤ C r ∧ C r < 20) (K : Q (some (zi (mxV (alG P C m) m))) σ f g) (k : Nat) (hk : k ≤ m) (x4 x5 : ZV) : ZWp d zt246 4 [zr (some 219), zi (i : Int), zi (mxV (alG P C m) k), zi (k : Int), x4, x5] [] σ f g Q := by
  refine r_iload_n rfl rfl ?_
  refine r_aload_n rfl rfl ?_
  refine r_getI rfl (by first | assumption | exact hs.o rfl) hrk ?_
  refine r_icmp_gt rfl (by omega) (by omega) (fun hgt => ?_) (fun hgt => ?_)
  · have e : k = m := by omega
    subst e
    refine r_iload_n rfl rfl ?_
    refine r_iret rfl ?_
    exact K
  · refine r_iconst rfl ?_
    refine r_istore (L' := [_, _, _, _, _, _]) rfl rfl rfl ?_
    refine r_iconst rfl ?_
    refine r_istore (L' := [_, _, _, _, _, _]) rfl rfl rfl ?_
    have hq := l_aliM (d := d) (Q := Q) hs hm hrk hi6 hP hC hCr (u := k) (by omega) (mo := mxV (alG P C m) k) (fun x => ?_) 0 (by omega)
    rw [show (if P k = true then cV P C (C k) 0 else 0) = 0 by split <;> rfl] at hq
    exact hq
    refine r_iload rfl rfl ?_
    refine r_iload_n rfl rfl ?_
    have hcr := (cV_rng (P := P) (C := C) (v := C k) m)
    have hmx := mxV_rng (G := alG P C m) (M := 7) (by omega) (fun j => by unfold alG; have := (cV_rng (P := P) (C := C) (v := C j) m); split <;> omega) k
    refine r_icmp_le rfl (by split <;> omega) (by omega) (fun hle => ?_) (fun hle => ?_)
    · refine r_iload_n rfl rfl ?_
      refine r_istore_n (L' := [_, _, _, _, _, _]) rfl rfl rfl ?_
      refine r_iinc (L' := [_, _, _, _, _, _]) rfl rfl rfl ?_
      refine r_goto rfl ?_
      have := l_aloM hs hm hrk hi6 hP hC hCr K (k + 1) (by omega) (zi (if P k = true then cV P C (C k) m else 0)) x
      rw [show mxV (alG P C m) (k + 1) = _ from if_pos hle] at this
      exact this
    · refine r_iload rfl rfl ?_
      refine r_goto rfl ?_
      refine r_istore_n (L' := [_, _, _, _, _, _]) rfl rfl rfl ?_
      refine r_iinc (L' := [_, _, _, _, _, _]) rfl rfl rfl ?_
      refine r_goto rfl ?_
      have := l_aloM hs hm hrk hi6 hP hC hCr K (k + 1) (by omega) (zi (if P k = true then cV P C (C k) m else 0)) x
      rw [show mxV (alG P C m) (k + 1) = _ from if_neg (by show ¬ (if P k = true then cV P C (C k) m else 0) ≤ _; omega)] at this
      exact this
termination_by m - k
theorem c_alikeAt (hd : 1 ≤ d) (hs : Sh σ g) {m : Nat} (hm : 1 ≤ m ∧ m ≤ 7) (hrk : f 219 2 = ((m - 1 : Nat) : Int)) {P : Nat → Bool} {C : Nat → Int} {i : Nat} (hi6 : i < 6) (hP : ∀ r, r < m → f 234 r = (if P r = true then 1 else 0)) (hC : ∀ r, r < m → f 235 (6 * r + i) = C r) (hCr : ∀ r, r < m → -1 ≤ C r ∧ C r < 20) (K : Q (some (zi (mxV (fun j => cV P C ((j : Int) - 1) m) 21))) σ f g) : ZCt d 246 [zr (some 219), zi (i : Int)] σ f g Q := by
  refine ZCt.of' (L0 := [_, _, _, _, _, _]) (by omega) rfl rfl rfl (fun d hd1 => ?_)
  refine r_iconst rfl ?_
  refine r_istore_n (L' := [_, _, _, _, _, _]) rfl rfl rfl ?_
  refine r_iconst rfl ?_
  refine r_istore_n (L' := [_, _, _, _, _, _]) rfl rfl rfl ?_
  rw [← alG_eq hCr] at K
  exact l_aloM hs hm hrk hi6 hP hC hCr K 0 (by omega) _ _
theorem bsF_congr {V V' : Nat → Int} (h : ∀ k, k < 6 → V k = V' k) : ∀ k, k < 6 → bsF V k = bsF V' k := by
  intro k
  induction k with
  | zero => intro _; unfold bsF; rfl
  | succ k ih =>
    intro hk
    have hbl := bsF_le (V := V') k
    unfold bsF
    rw [ih (by omega), h (k + 1) hk, h _ (by omega)]
theorem lkAn_congr {P : Nat → Bool} {C C' : Nat → Nat → Int} {m : Nat} (h : ∀ k, k < 6 → ∀ r, C k r = C' k r) (w : Int) : lkAn P C m w = lkAn P C' m w := by
  have hv : ∀ k, k < 6 → lkVk P C m k = lkVk P C' m k := fun k h6 => by
    unfold lkVk
    rw [show C k = C' k from funext (h k h6)]
  have hb5 := bsF_le (V := lkVk P C' m) 5
  unfold lkAn
  rw [bsF_congr hv 5 (by omega), hv _ (by omega)]
def lkSt (V : Nat → Int) : Nat → Int × Int
  | 0 => (-2, -2)
  | k + 1 => if V k = 0 ∨ (0 ≤ (lkSt V k).1 ∧ (lkSt V k).2 ≤ V k) then lkSt V k else ((k : Int), V k)
theorem lkSt_z {V : Nat → Int} (h : ∀ k, V k = 0) : ∀ k, lkSt V k = (-2, -2) := by
  intro k
  induction k with
  | zero => rfl
  | succ k ih => simp only [lkSt]; rw [if_pos (Or.inl (h k))]; exact ih
theorem lkSt_p {V : Nat → Int} (h : ∀ k, V k ≠ 0) : ∀ k, lkSt V (k + 1) = ((bsF V k : Int), V (bsF V k)) := by
  intro k
  induction k with
  | zero =>
    show (if V 0 = 0 ∨ (0 ≤ (-2 : Int) ∧ (-2 : Int) ≤ V 0) then ((-2 : Int), (-2 : Int)) else (((0 : Nat) : Int), V 0)) = _
    rw [if_neg (by intro q; rcases q with q | q; exact h 0 q; omega)]
    rfl
  | succ k ih =>
    rw [lkSt, ih]
    simp only [bsF]
    by_cases q : V (k + 1) < V (bsF V k)
    · rw [if_neg (by intro z; rcases z with z | z; exact h _ z; omega), if_pos q]
    · rw [if_pos (Or.inr (by omega)), if_neg q]
theorem lkSt_rng {V : Nat → Int} (h : ∀ k, 0 ≤ V k ∧ V k ≤ 100) : ∀ k : Nat, (-2 ≤ (lkSt V k).1 ∧ (lkSt V k).1 ≤ (k : Int)) ∧ (-2 ≤ (lkSt V k).2 ∧ (lkSt V k).2 ≤ 100) := by
  intro k
  induction k with
  | zero => simp only [lkSt]; omega
  | succ k ih => have := h k; simp only [lkSt]; split <;> omega
theorem ruL_nil {P : Nat → Bool} {m : Nat} : ((ruL P m).length : Int) = 0 ↔ ∀ r, r < m → P r = false := by
  unfold ruL
  rw [show (((List.range m).filter P).length : Int) = 0 ↔ (List.range m).filter P = [] by rw [← List.length_eq_zero_iff]; omega, List.filter_eq_nil_iff]
  constructor
  · intro h r hr
    have := h r (List.mem_range.2 hr)
    cases e : P r with
    | false => rfl
    | true => exact absurd e this
  · intro h r hr
    rw [h r (List.mem_range.1 hr)]
    decide
theorem lk_end {P : Nat → Bool} {C : Nat → Nat → Int} {m : Nat} (hC : ∀ k r, r < m → -1 ≤ C k r ∧ C k r < 20) (w : Int) : (if w = 0 then (lkSt (lkVk P C m) 6).1 else (lkSt (lkVk P C m) 6).2) = lkAn P C m w := by
  unfold lkAn
  by_cases h : ((ruL P m).length : Int) = 0
  · rw [if_pos h]
    have h' := ruL_nil.1 h
    have hz : ∀ k, lkVk P C m k = 0 := by
      intro k
      refine Int.le_antisymm (mxV_le (Int.le_refl 0) _ (fun j _ => ?_)) (mxV_nn _)
      by_cases e : cV P (C k) ((j : Int) - 1) m = 0
      · show cV P (C k) ((j : Int) - 1) m ≤ 0
        omega
      · obtain ⟨r, q1, q2, _⟩ := cV_ex m e
        rw [h' r q1] at q2
        cases q2
    rw [lkSt_z hz 6]
    split <;> rfl
  · rw [if_neg h]
    have hp : ∃ r, r < m ∧ P r = true := by
      apply Classical.byContradiction
      intro q
      exact h (ruL_nil.2 (fun r hr => by cases e : P r with | false => rfl | true => exact absurd ⟨r, hr, e⟩ q))
    obtain ⟨r, hr, hpr⟩ := hp
    have hnz : ∀ k, lkVk P C m k ≠ 0 := by
      intro k
      have h1 := hC k r hr
      have h2 := le_mxV (G := fun j : Nat => cV P (C k) ((j : Int) - 1) m) 21 (C k r + 1).toNat (by omega)
      rw [show (((C k r + 1).toNat : Nat) : Int) - 1 = C k r by omega] at h2
      have h3 := cV_pos (P := P) (C := C k) hpr rfl m hr
      unfold lkVk
      omega
    rw [lkSt_p hnz 5]
theorem l_lkRef {d : Nat} (hd1 : 1 ≤ d) (hs : Sh σ g) {m : Nat} (hm : 1 ≤ m ∧ m ≤ 7) (hrk : f 219 2 = ((m - 1 : Nat) : Int)) {P : Nat → Bool} {C : Nat → Nat → Int} (hP : ∀ r, r < m → f 234 r = (if P r = true then 1 else 0)) (hC : ∀ r, r < m → ∀ i, i < 6 → f 235 (6 * r + i) = C i r) (hCr : ∀ k r, r < m → -1 ≤ C k r ∧ C k r < 20) {n w : Int} (K : ∀ x, ZWp d zt245 93 [zr (some 219), zi n, zi w, zi (lkSt (lkVk P C m) 6).1, zi (lkSt (lkVk P C m) 6).2, zi ((6 : Nat) : Int), x] [] σ f g Q) (k : Nat) (hk : k ≤ 6) (x : ZV) : ZWp d zt245 46 [zr (some 219), zi n, zi w, zi (lkSt (lkVk P C m) k).1, zi (lkSt (lkVk P C m) k).2, zi (k : Int), x] [] σ f g Q := by
  refine r_iload rfl rfl ?_
  refine r_bipush rfl ?_
  refine r_icmp_ge rfl (by omega) (by omega) (fun hge => ?_) (fun hge => ?_)
  · have e : k = 6 := by omega
    subst e
    exact K _
  · refine r_aload_n rfl rfl ?_
    refine r_iload rfl rfl ?_
    refine r_callV1 rfl rfl (by first | assumption | exact hs.o rfl) rfl (c_alikeAt (m := m) (P := P) (C := C k) (i := k) (by omega) hs hm hrk (by omega) hP (fun r hr => hC r hr k (by omega)) (hCr k) ?_)
    have hV : ∀ j, 0 ≤ lkVk P C m j ∧ lkVk P C m j ≤ 100 := fun j => mxV_rng (by omega) (fun z => by have := (cV_rng (P := P) (C := C j) (v := (z : Int) - 1) m); omega) 21
    have hVk := hV k
    have hSk := lkSt_rng hV k
    change ZWp d zt245 59 _ (zi (lkVk P C m k) :: _) σ f g Q
    refine r_istore (L' := [_, _, _, _, _, _, _]) rfl rfl rfl ?_
    refine r_iload rfl rfl ?_
    refine r_if_eq rfl (by omega) (fun hz => ?_) (fun hz => ?_)
    · refine r_iinc (L' := [_, _, _, _, _, _, _]) rfl rfl rfl ?_
      refine r_goto rfl ?_
      have := l_lkRef hd1 hs hm hrk hP hC hCr (n := n) (w := w) K (k + 1) (by omega) (zi (lkVk P C m k))
      rw [show lkSt (lkVk P C m) (k + 1) = _ from if_pos (by omega)] at this
      exact this
    · refine r_iload_n rfl rfl ?_
      refine r_if_lt rfl (by omega) (fun hneg => ?_) (fun hneg => ?_)
      · refine r_iload rfl rfl ?_
        refine r_istore_n (L' := [_, _, _, _, _, _, _]) rfl rfl rfl ?_
        refine r_iload rfl rfl ?_
        refine r_istore (L' := [_, _, _, _, _, _, _]) rfl rfl rfl ?_
        refine r_iinc (L' := [_, _, _, _, _, _, _]) rfl rfl rfl ?_
        refine r_goto rfl ?_
        have := l_lkRef hd1 hs hm hrk hP hC hCr (n := n) (w := w) K (k + 1) (by omega) (zi (lkVk P C m k))
        rw [show lkSt (lkVk P C m) (k + 1) = _ from if_neg (by omega)] at this
        exact this
      · refine r_iload rfl rfl ?_
        refine r_iload rfl rfl ?_
        refine r_icmp_lt rfl (by omega) (by omega) (fun hlt => ?_) (fun hlt => ?_)
        · refine r_iload rfl rfl ?_
          refine r_istore_n (L' := [_, _, _, _, _, _, _]) rfl rfl rfl ?_
          refine r_iload rfl rfl ?_
          refine r_istore (L' := [_, _, _, _, _, _, _]) rfl rfl rfl ?_
          refine r_iinc (L' := [_, _, _, _, _, _, _]) rfl rfl rfl ?_
          refine r_goto rfl ?_
          have := l_lkRef hd1 hs hm hrk hP hC hCr (n := n) (w := w) K (k + 1) (by omega) (zi (lkVk P C m k))
          rw [show lkSt (lkVk P C m) (k + 1) = _ from if_neg (by omega)] at this
          exact this
        · refine r_goto rfl ?_
          refine r_iinc (L' := [_, _, _, _, _, _, _]) rfl rfl rfl ?_
          refine r_goto rfl ?_
          have := l_lkRef hd1 hs hm hrk hP hC hCr (n := n) (w := w) K (k + 1) (by omega) (zi (lkVk P C m k))
          rw [show lkSt (lkVk P C m) (k + 1) = _ from if_pos (by omega)] at this
          exact this
termination_by 6 - k
theorem c_look (hd : 13 ≤ d) (hs : Sh σ g) (hM : MI f a) (hA : AOk N a) {n w : Int} (hni : IR n) (hwi : IR w) (K : ∀ f', FrMQ f f' → Q (some (zi (qLook a n w))) σ f' g) : ZCt d 245 [zr (some 219), zi n, zi w] σ f g Q := by
  refine ZCt.of' (L0 := [_, _, _, _, _, _, _]) (by omega) rfl rfl rfl (fun d hd1 => ?_)
  refine r_aload_n rfl rfl ?_
  refine r_callV0 rfl rfl (by first | assumption | exact hs.o rfl) rfl (c_shown (by omega) hs hM hA (fun pl rd0 hp => ?_) (fun hnp => ?_))
  · refine r_if_n rfl (by decide) ?_
    refine r_iload_n rfl rfl ?_
    refine r_i2l rfl (by omega) ?_
    refine r_lconst rfl ?_
    refine r_ldc2 rfl ?_
    refine r_callS3 rfl rfl rfl (c_in (by omega) (by omega) (by omega) (by omega) (fun hn => ?_) (fun hn => ?_))
    · refine r_if_n rfl (by decide) ?_
      refine r_iload_n rfl rfl ?_
      refine r_i2l rfl (by omega) ?_
      refine r_lconst rfl ?_
      refine r_lconst rfl ?_
      refine r_callS3 rfl rfl rfl (c_in (by omega) (by omega) (by omega) (by omega) (fun hw => ?_) (fun hw => ?_))
      · refine r_if_y rfl (by decide) ?_
        refine r_aload_n rfl rfl ?_
        refine r_iload_n rfl rfl ?_
        obtain ⟨hplo, hvr, hst⟩ := hA.plS hp
        have hN := hA.2.2.2.2.2.2.2
        have hvs := hvr.vs
        have ht0 : TM σ f g pl (AL a a.fo pl) (-1) := MI.tm hs hM hA hp
        have hm0 : MRd (f 229) a.w.rd := hM.w.2.1
        obtain ⟨nn, rfl⟩ := Int.eq_ofNat_of_zero_le (show 0 ≤ n by omega)
        rw [qLook_yes hp (by omega)] at K
        refine r_callV1 rfl rfl (by first | assumption | exact hs.o rfl) rfl (c_fillsFits (th := nn) (by omega) hs hM hA hp (by omega) (fun f2 hf2 hin2 => ?_))
        refine r_bipush rfl ?_
        refine r_istore_n (L' := [_, _, _, _, _, _, _]) rfl rfl rfl ?_
        refine r_bipush rfl ?_
        refine r_istore (L' := [_, _, _, _, _, _, _]) rfl rfl rfl ?_
        refine r_iconst rfl ?_
        refine r_istore (L' := [_, _, _, _, _, _, _]) rfl rfl rfl ?_
        have hrk := hA.1.2.1
        have hCr : ∀ k r, r < a.rk + 1 → -1 ≤ (fun k r => if k < 6 then lkC0 a pl rd0 nn k r else 0) k r ∧ (fun k r => if k < 6 then lkC0 a pl rd0 nn k r else 0) k r < 20 := fun k r hr => by
          simp only
          split
          · rename_i h6
            have h1 := (hst.vs.it (al := AL a ((r : Int) - 1) pl) hplo nn (by omega)).1
            have h2 := h1.2.2.1 k h6
            have h3 := h1.1
            unfold lkC0
            omega
          · omega
        refine l_lkRef (by omega) hs (m := a.rk + 1) (by omega) (by rw [hf2.2 2 (by omega) (by omega) (by omega) (by omega) (by omega), hM.rk]; omega) (P := ruF a pl rd0) (C := fun k r => if k < 6 then lkC0 a pl rd0 nn k r else 0) (fun r hr => (hin2 r hr).1) (fun r hr i hi => by show _ = (if i < 6 then lkC0 a pl rd0 nn i r else 0); rw [if_pos hi]; exact (hin2 r hr).2 i hi) hCr (fun x => ?_) 0 (by omega) _
        have hke : lkAn (ruF a pl rd0) (lkC0 a pl rd0 nn) (a.rk + 1) w = lkAn (ruF a pl rd0) (fun k r => if k < 6 then lkC0 a pl rd0 nn k r else 0) (a.rk + 1) w := lkAn_congr (fun k hk r => (if_pos hk).symm) w
        rw [hke, ← lk_end hCr w] at K
        refine r_iload_n rfl rfl ?_
        refine r_if_ne rfl (by omega) (fun hw0 => ?_) (fun hw0 => ?_)
        · refine r_iload rfl rfl ?_
          refine r_iret rfl ?_
          first | (rw [if_pos (by omega)] at K; exact K f2 hf2) | (rw [if_neg (by omega)] at K; exact K f2 hf2)
        · refine r_iload_n rfl rfl ?_
          refine r_goto rfl ?_
          refine r_iret rfl ?_
          first | (rw [if_pos (by omega)] at K; exact K f2 hf2) | (rw [if_neg (by omega)] at K; exact K f2 hf2)
      · refine r_if_n rfl (by decide) ?_
        refine r_iconst rfl ?_
        refine r_iret rfl ?_
        first | (rw [qLook_no (Or.inr (by omega))] at K; exact K f (FrMQ.rf f)) | (rw [qLook_no (Or.inl hnp)] at K; exact K f (FrMQ.rf f))
    · refine r_if_y rfl (by decide) ?_
      refine r_iconst rfl ?_
      refine r_iret rfl ?_
      first | (rw [qLook_no (Or.inr (by omega))] at K; exact K f (FrMQ.rf f)) | (rw [qLook_no (Or.inl hnp)] at K; exact K f (FrMQ.rf f))
  · refine r_if_y rfl (by decide) ?_
    refine r_iconst rfl ?_
    refine r_iret rfl ?_
    first | (rw [qLook_no (Or.inr (by omega))] at K; exact K f (FrMQ.rf f)) | (rw [qLook_no (Or.inl hnp)] at K; exact K f (FrMQ.rf f))
end MLOOK
