/-! The class: small tests, the engine made ready, trials -/
abbrev IR (x : Int) : Prop := -2147483648 ≤ x ∧ x ≤ 2147483647
theorem Sh.r3 {σ : ZS} {g : ZG} (h : Sh σ g) : RO σ g 3 := h.2.2.2.2.2.2.1
theorem Sh.r47 {σ : ZS} {g : ZG} (h : Sh σ g) : RO σ g 47 := h.2.2.2.2.2.2.2.1
theorem Sh.n9 {σ : ZS} {g : ZG} (h : Sh σ g) : NO σ g 9 := h.2.2.2.2.2.2.2.2
theorem Sh.rs {σ : ZS} {g : ZG} (h : Sh σ g) {i : Nat} (hi : i < 3) : g 28 i = some (29 + 6 * i) ∧ RO σ g (29 + 6 * i) := h.2.2.2.2.2.1 i hi
theorem Sh.us {σ : ZS} {g : ZG} (h : Sh σ g) {i : Nat} (hi : i < 20) : g 14 i = some (99 + 6 * i) ∧ RO σ g (99 + 6 * i) := h.2.2.2.1 i hi
theorem Sh.is {σ : ZS} {g : ZG} (h : Sh σ g) {i : Nat} (hi : i < 4) : g 13 i = some (55 + 11 * i) ∧ IO' σ g (55 + 11 * i) := h.2.2.2.2.1 i hi
section CTRY
variable {d : Nat} {σ : ZS} {f : ZF} {g : ZG} {Q : ZQ} {N : Int} {rd : Rd} {r p : Nat} {pl : Pl} {rd0 : Rd} {al : Rd → Nat → Bool} {cl : Int} {a : AS}
theorem k_within (hd : 1 ≤ d) {x lo hi : Int} (hx : IR x) (hl : IR lo) (hh : IR hi) (k1 : lo ≤ x ∧ x ≤ hi → Q (some (zi 1)) σ f g) (k2 : ¬ (lo ≤ x ∧ x ≤ hi) → Q (some (zi 0)) σ f g) : ZCt d 78 [zi x, zi lo, zi hi] σ f g Q := by
  refine ZCt.of' (L0 := [_, _, _]) (by omega) rfl rfl rfl (fun d hd1 => ?_)
  refine r_iload_n rfl rfl ?_
  refine r_iload_n rfl rfl ?_
  refine r_icmp_lt rfl (by omega) (by omega) (fun h2 => ?_) (fun h2 => ?_)
  · refine r_iconst rfl ?_
    refine r_zret rfl (by omega) ?_
    exact k2 (by omega)
  · refine r_iload_n rfl rfl ?_
    refine r_iload_n rfl rfl ?_
    refine r_icmp_gt rfl (by omega) (by omega) (fun h7 => ?_) (fun h7 => ?_)
    · refine r_iconst rfl ?_
      refine r_zret rfl (by omega) ?_
      exact k2 (by omega)
    · refine r_iconst rfl ?_
      refine r_goto rfl ?_
      refine r_zret rfl (by omega) ?_
      exact k1 (by omega)
theorem k_isCar (hd : 1 ≤ d) {x : Int} (hx : IR x) (k1 : 0 ≤ x ∧ x < 6 → Q (some (zi 1)) σ f g) (k2 : ¬ (0 ≤ x ∧ x < 6) → Q (some (zi 0)) σ f g) : ZCt d 48 [zi x] σ f g Q := by
  refine ZCt.of' (L0 := [_]) (by omega) rfl rfl rfl (fun d hd1 => ?_)
  refine r_iload_n rfl rfl ?_
  refine r_if_lt rfl (by omega) (fun h1 => ?_) (fun h1 => ?_)
  · refine r_iconst rfl ?_
    refine r_zret rfl (by omega) ?_
    exact k2 (by omega)
  · refine r_iload_n rfl rfl ?_
    refine r_bipush rfl ?_
    refine r_icmp_ge rfl (by omega) (by omega) (fun h7 => ?_) (fun h7 => ?_)
    · refine r_iconst rfl ?_
      refine r_zret rfl (by omega) ?_
      exact k2 (by omega)
    · refine r_iconst rfl ?_
      refine r_goto rfl ?_
      refine r_zret rfl (by omega) ?_
      exact k1 (by omega)
theorem c_min (hd : 1 ≤ d) {x y : Int} (hx : IR x) (hy : IR y) (K : Q (some (zi (if x ≤ y then x else y))) σ f g) : ZCt d 16 [zi x, zi y] σ f g Q := by
  refine ZCt.of' (L0 := [_, _]) (by omega) rfl rfl rfl (fun d hd1 => ?_)
  refine r_iload_n rfl rfl ?_
  refine r_iload_n rfl rfl ?_
  refine r_icmp_gt rfl (by omega) (by omega) (fun h2 => ?_) (fun h2 => ?_)
  · refine r_iload_n rfl rfl ?_
    refine r_iret rfl ?_
    first | (rw [if_pos (by omega)] at K; exact K) | (rw [if_neg (by omega)] at K; exact K)
  · refine r_iload_n rfl rfl ?_
    refine r_goto rfl ?_
    refine r_iret rfl ?_
    first | (rw [if_pos (by omega)] at K; exact K) | (rw [if_neg (by omega)] at K; exact K)
theorem c_max (hd : 1 ≤ d) {x y : Int} (hx : IR x) (hy : IR y) (K : Q (some (zi (if y ≤ x then x else y))) σ f g) : ZCt d 17 [zi x, zi y] σ f g Q := by
  refine ZCt.of' (L0 := [_, _]) (by omega) rfl rfl rfl (fun d hd1 => ?_)
  refine r_iload_n rfl rfl ?_
  refine r_iload_n rfl rfl ?_
  refine r_icmp_lt rfl (by omega) (by omega) (fun h2 => ?_) (fun h2 => ?_)
  · refine r_iload_n rfl rfl ?_
    refine r_iret rfl ?_
    first | (rw [if_pos (by omega)] at K; exact K) | (rw [if_neg (by omega)] at K; exact K)
  · refine r_iload_n rfl rfl ?_
    refine r_goto rfl ?_
    refine r_iret rfl ?_
    first | (rw [if_pos (by omega)] at K; exact K) | (rw [if_neg (by omega)] at K; exact K)
theorem k_isOn (hd : 2 ≤ d) (hI : CI σ f g a) (hA : AOk N a) {x : Int} (hx : IR x) (k1 : ∀ k : Nat, x = (k : Int) → k < 6 → 0 ≤ a.w.rd 0 k → Q (some (zi 1)) σ f g) (k2 : (∀ k : Nat, x = (k : Int) → k < 6 → a.w.rd 0 k = -1) → Q (some (zi 0)) σ f g) : ZCt d 77 [zr (some 0), zi x] σ f g Q := by
  refine ZCt.of' (L0 := [_, _]) (by omega) rfl rfl rfl (fun d hd1 => ?_)
  have hs := hI.sh
  obtain ⟨oo, ⟨a1, a2, a3, a4, a5⟩, g0, g1, g2, g3, g4⟩ := hs.r3
  have h : RC f 3 a.w.rd := hI.w.2.1
  obtain ⟨n, m, ho, hdj⟩ := hA.2.2.1.rd (by have := hA.2.2.2.2.2.2.2; omega)
  refine r_iload_n rfl rfl ?_
  refine r_callS1 rfl rfl rfl (k_isCar (by omega) hx (fun hc => ?_) (fun hc => ?_))
  · refine r_if_n rfl (by decide) ?_
    refine r_aload_n rfl rfl ?_
    refine r_getR rfl (by first | assumption | exact hs.o rfl) (by first | assumption | exact hs.g rfl) ?_
    refine r_getR rfl (by first | assumption | exact hs.o rfl) (by first | assumption | exact hs.g rfl) ?_
    refine r_iload_n rfl rfl ?_
    obtain ⟨k, rfl⟩ := Int.eq_ofNat_of_zero_le hc.1
    have hk := h.1 k (by omega)
    have hok := ho.2.2.1 k (by omega)
    have ho1 := ho.1
    refine r_iald rfl (by first | assumption | exact hs.a rfl) (by omega) (by omega) ((zix (n := k) (by omega)).trans hk.1) ?_
    refine r_iconst rfl ?_
    refine r_icmp_eq rfl (by omega) (by omega) (fun hn => ?_) (fun hn => ?_)
    · refine r_iconst rfl ?_
      refine r_zret rfl (by omega) ?_
      first | exact k2 (fun k q1 q2 => by omega) | exact k2 (fun k' q1 q2 => by have e : k' = k := (by omega); subst e; exact hn)
    · refine r_iconst rfl ?_
      refine r_goto rfl ?_
      refine r_zret rfl (by omega) ?_
      exact k1 k rfl (by omega) (by omega)
  · refine r_if_y rfl (by decide) ?_
    refine r_iconst rfl ?_
    refine r_zret rfl (by omega) ?_
    first | exact k2 (fun k q1 q2 => by omega) | exact k2 (fun k' q1 q2 => by have e : k' = k := (by omega); subst e; exact hn)
/-- what holds where a SHOW is told -/
theorem CI.plS (hI : CI σ f g a) (hp : a.w.pn = some (pl, rd0)) : ∃ p, g 0 4 = some p ∧ 240 ≤ p ∧ PO σ g p ∧ PC f p pl ∧ RC f (p + 3) rd0 := by
  have h := hI.w.1
  rw [hp] at h
  exact h
theorem CI.pln (hI : CI σ f g a) (hp : a.w.pn = none) : g 0 4 = none := by
  have h := hI.w.1
  rw [hp] at h
  exact h
theorem AOk.plS (hA : AOk N a) (hp : a.w.pn = some (pl, rd0)) : PlOk pl ∧ VR pl N a.w.rd ∧ StOk pl rd0 := by
  have h := hA.2.2.1.2
  rw [hp] at h
  exact h
theorem AOk.pln (hA : AOk N a) (hp : a.w.pn = none) : a.w.rd = rdI := by
  have h := hA.2.2.1.2
  rw [hp] at h
  exact h
theorem k_isCell (hd : 1 ≤ d) (hI : CI σ f g a) (hA : AOk N a) {x : Int} (hx : IR x) (k1 : ∀ pl rd0, a.w.pn = some (pl, rd0) → 0 ≤ x ∧ x < pl.1 → Q (some (zi 1)) σ f g) (k2 : (∀ pl rd0, a.w.pn = some (pl, rd0) → ¬ (0 ≤ x ∧ x < pl.1)) → Q (some (zi 0)) σ f g) : ZCt d 52 [zr (some 0), zi x] σ f g Q := by
  refine ZCt.of' (L0 := [_, _]) (by omega) rfl rfl rfl (fun d hd1 => ?_)
  have hs := hI.sh
  cases hp : a.w.pn with
  | none =>
    refine r_aload_n rfl rfl ?_
    refine r_getR rfl (by first | assumption | exact hs.o rfl) (hI.pln hp) ?_
    refine r_ifnullN rfl ?_
    refine r_iconst rfl ?_
    refine r_zret rfl (by omega) ?_
    exact k2 (fun pl rd0 q => by rw [hp] at q; cases q)
  | some q =>
    obtain ⟨pl, rd0⟩ := q
    obtain ⟨p, gp, p240, po, hpc, hrc⟩ := hI.plS hp
    have hpl := (hA.plS hp).1
    have hpl1 := hpl.1
    have hpl2 := hpl.2.1
    refine r_aload_n rfl rfl ?_
    refine r_getR rfl (by first | assumption | exact hs.o rfl) gp ?_
    refine r_ifnullS rfl ?_
    refine r_iload_n rfl rfl ?_
    refine r_if_lt rfl (by omega) (fun h8 => ?_) (fun h8 => ?_)
    · refine r_iconst rfl ?_
      refine r_zret rfl (by omega) ?_
      exact k2 (fun pl' rd0' q => by rw [hp] at q; cases q; omega)
    · refine r_iload_n rfl rfl ?_
      refine r_aload_n rfl rfl ?_
      refine r_getR rfl (by first | assumption | exact hs.o rfl) gp ?_
      refine r_getI rfl po.1 hpc.1 ?_
      refine r_icmp_ge rfl (by omega) (by omega) (fun h19 => ?_) (fun h19 => ?_)
      · refine r_iconst rfl ?_
        refine r_zret rfl (by omega) ?_
        exact k2 (fun pl' rd0' q => by rw [hp] at q; cases q; omega)
      · refine r_iconst rfl ?_
        refine r_goto rfl ?_
        refine r_zret rfl (by omega) ?_
        exact k1 pl rd0 hp (by omega)
theorem k_isRoad (hd : 1 ≤ d) (hI : CI σ f g a) (hA : AOk N a) {x : Int} (hx : IR x) (k1 : ∀ pl rd0, a.w.pn = some (pl, rd0) → 0 ≤ x ∧ x < pl.2.1 → Q (some (zi 1)) σ f g) (k2 : (∀ pl rd0, a.w.pn = some (pl, rd0) → ¬ (0 ≤ x ∧ x < pl.2.1)) → Q (some (zi 0)) σ f g) : ZCt d 50 [zr (some 0), zi x] σ f g Q := by
  refine ZCt.of' (L0 := [_, _]) (by omega) rfl rfl rfl (fun d hd1 => ?_)
  have hs := hI.sh
  cases hp : a.w.pn with
  | none =>
    refine r_aload_n rfl rfl ?_
    refine r_getR rfl (by first | assumption | exact hs.o rfl) (hI.pln hp) ?_
    refine r_ifnullN rfl ?_
    refine r_iconst rfl ?_
    refine r_zret rfl (by omega) ?_
    exact k2 (fun pl rd0 q => by rw [hp] at q; cases q)
  | some q =>
    obtain ⟨pl, rd0⟩ := q
    obtain ⟨p, gp, p240, po, hpc, hrc⟩ := hI.plS hp
    have hpl := (hA.plS hp).1
    have hpl1 := hpl.1
    have hpl2 := hpl.2.1
    refine r_aload_n rfl rfl ?_
    refine r_getR rfl (by first | assumption | exact hs.o rfl) gp ?_
    refine r_ifnullS rfl ?_
    refine r_iload_n rfl rfl ?_
    refine r_if_lt rfl (by omega) (fun h8 => ?_) (fun h8 => ?_)
    · refine r_iconst rfl ?_
      refine r_zret rfl (by omega) ?_
      exact k2 (fun pl' rd0' q => by rw [hp] at q; cases q; omega)
    · refine r_iload_n rfl rfl ?_
      refine r_aload_n rfl rfl ?_
      refine r_getR rfl (by first | assumption | exact hs.o rfl) gp ?_
      refine r_getI rfl po.1 hpc.2.1 ?_
      refine r_icmp_ge rfl (by omega) (by omega) (fun h19 => ?_) (fun h19 => ?_)
      · refine r_iconst rfl ?_
        refine r_zret rfl (by omega) ?_
        exact k2 (fun pl' rd0' q => by rw [hp] at q; cases q; omega)
      · refine r_iconst rfl ?_
        refine r_goto rfl ?_
        refine r_zret rfl (by omega) ?_
        exact k1 pl rd0 hp (by omega)
theorem ALc.mono {dd dd' : Nat} {E : ZF → Prop} (h : ALc dd σ g E p pl al) (hd : dd ≤ dd') : ALc dd' σ g E p pl al := fun d f rd N k r Q q => h d f rd N k r Q (by omega)
theorem fr_E3 {v : Int} : ∀ r f f', RrOk r → FrC r f f' → f 22 3 = v → f' 22 3 = v := fun r f f' _ h e => (h.2 3 (by omega)).trans e
theorem fr_E3R {v : Int} {c : Nat} {l : List Int} (hc : 240 ≤ c) : ∀ r f f', RrOk r → FrC r f f' → (f 22 3 = v ∧ At (f c) 0 l) → (f' 22 3 = v ∧ At (f' c) 0 l) := by
  intro r f f' hr h e
  refine ⟨(h.2 3 (by omega)).trans e.1, ?_⟩
  rw [h.1 c (by omega) (by omega) (by omega) (by unfold RrOk at hr; omega)]
  exact e.2
/-- by which rule -/
def AL (a : AS) (fo : Int) (pl : Pl) : Rd → Nat → Bool := if fo < 0 then alNone else alRule (a.ru fo.toNat) pl
/-- the engine is ready -/
def TR (σ : ZS) (f : ZF) (g : ZG) (p : Nat) (pl : Pl) (al : Rd → Nat → Bool) (cl : Int) : Prop := EnS σ g p ∧ PC f p pl ∧ PlOk pl ∧ f 22 2 = cl ∧ (-1 ≤ cl ∧ cl ≤ 5) ∧ ∃ E : ZF → Prop, (∀ r f f', RrOk r → FrC r f f' → E f → E f') ∧ ALc 4 σ g E p pl al ∧ (∀ f c, E f → E (up2 f 22 2 c)) ∧ E f
theorem TR.fr {f' : ZF} (h : TR σ f g p pl al cl) (hk : RrOk r) (hf : FrC r f f') : TR σ f' g p pl al cl := by
  obtain ⟨h1, h2, h3, h4, h5, E, h6, h7, h8, h9⟩ := h
  exact ⟨h1, h2.fr h1.p240 hk hf, h3, (hf.2 2 (by omega)).trans h4, h5, E, h6, h7, h8, h6 r f f' hk hf h9⟩
theorem TR.clS {c : Int} (h : TR σ f g p pl al cl) (hc : -1 ≤ c ∧ c ≤ 5) : TR σ (up2 f 22 2 c) g p pl al c := by
  obtain ⟨h1, h2, h3, h4, h5, E, h6, h7, h8, h9⟩ := h
  refine ⟨h1, ?_, h3, up2_same _ _ _ _, hc, E, h6, h7, h8, h8 f c h9⟩
  have := h1.p240
  unfold PC at *
  rw [up2_o _ _ (by omega), up2_o _ _ (by omega), up2_o _ _ (by omega)]
  exact h2
theorem TR.set {s : Int} (h : TR σ f g p pl al cl) (hs : -1 < s ∧ s ≤ 2147483647) : TR σ (up2 f 22 3 s) g p pl (alSet s) cl := by
  obtain ⟨h1, h2, h3, h4, h5, E, h6, h7, h8, h9⟩ := h
  refine ⟨h1, ?_, h3, (up2_ne _ _ (by omega)).trans h4, h5, _, fr_E3, (alc_set h1 h3 hs).mono (by omega), fun f c e => (up2_ne _ _ (by omega)).trans e, up2_same _ _ _ _⟩
  have := h1.p240
  unfold PC at *
  rw [up2_o _ _ (by omega), up2_o _ _ (by omega), up2_o _ _ (by omega)]
  exact h2
theorem rRoads_w {i : Nat} : ∀ j : Nat, j ≤ i → (rRoads pl cl rd j).1 4 i = rd 4 i := by
  intro j
  induction j with
  | zero => intro _; rfl
  | succ j ih =>
    intro hj
    simp only [rRoads]
    have h1 : rWait pl cl (rRoads pl cl rd j).1 j 4 i = rd 4 i := by
      unfold rWait
      split
      · simp [up2, show ¬ i = j by omega]; exact ih (by omega)
      · exact ih (by omega)
    unfold rCome
    split
    · exact h1
    · simp [up2, rOn, show ¬ i = j by omega]; exact h1
theorem rStep_wz (h : WZ pl rd) : WZ pl (rStep pl al cl rd).1 := by
  intro j hj
  have h1 : (rStep pl al cl rd).1 4 j = (rRoads pl cl (rCars pl al rd 6).1 pl.2.1.toNat).1 4 j := by simp [rStep, up2]
  rw [h1, rRoads_w _ (by omega), rCars_w]
  exact h j hj
def VS (pl : Pl) (N cl : Int) (rd : Rd) : Prop := RdOk pl.1 pl.2.1 N rd ∧ RdDj rd ∧ ClZ cl rd ∧ WZ pl rd
theorem VS.step (hp : PlOk pl) (h : VS pl N cl rd) (hN : N + 7 ≤ 1000000) : VS pl (N + 7) cl (rStep pl al cl rd).1 := ⟨rStep_ok hp rfl rfl h.1 hN, rStep_dj rfl h.1 hN h.2.1, rStep_cl h.2.2.1, rStep_wz h.2.2.2⟩
theorem VR.vs (h : VR pl N rd) : VS pl N (-1) rd := ⟨h.1, h.2.1, fun j q => by omega, h.2.2.2⟩
theorem k_drv (hd : 5 ≤ d) (ht : TR σ f g p pl al cl) (hk' : RrOk r) (hr : RO σ g r) (h : RC f r rd) (hv : VS pl N cl rd) (hN : N + 7 ≤ 1000000)
    (K : ∀ f', FrC r f f' → TR σ f' g p pl al cl → RC f' r (rStep pl al cl rd).1 → (f' 22 4 = if (rStep pl al cl rd).2.2 = true then 1 else 0) → Q (some (zi (rStep pl al cl rd).2.1)) σ f' g) : ZCt d 61 [zr (some 22), zr (some r)] σ f g Q := by
  have ht' := ht
  obtain ⟨h1, h2, h3, h4, h5, E, h6, h7, h9, h8⟩ := ht
  exact k_drive (dd := 4) (by omega) (by omega) hk' hr h1.o h1.gp h1.po h1.p240 (fun f f' q => h6 r f f' hk' q) h7 h8 h2 h3 rfl rfl h hv.1 hv.2.1 hN h4 h5 hv.2.2.1 (fun f' q1 q2 q3 => K f' q1 (ht'.fr hk' q1) q2 q3)
theorem k_setEngine (hd : 1 ≤ d) (hI : CI σ f g a) (hA : AOk N a) {rl : Int} (hr : -1 ≤ rl ∧ rl < (a.rk : Int)) (K : ∀ g', FrG g g' → g' 22 0 = g 0 4 → (rl < 0 → g' 22 1 = none) → (0 ≤ rl → g' 22 1 = g 2 rl.toNat) → Q none σ (up2 (up2 f 22 2 (-1)) 22 3 (-1)) g') : ZCt d 60 [zr (some 0), zi rl] σ f g Q := by
  refine ZCt.of' (L0 := [_, _]) (by omega) rfl rfl rfl (fun d hd1 => ?_)
  have hs := hI.sh
  have hrk := hA.1
  refine r_aload_n rfl rfl ?_
  refine r_getR rfl (by first | assumption | exact hs.o rfl) (by first | assumption | exact hs.g rfl) ?_
  refine r_aload_n rfl rfl ?_
  refine r_getR rfl (by first | assumption | exact hs.o rfl) rfl ?_
  refine r_putR rfl (by first | assumption | exact hs.o rfl) ?_
  refine r_aload_n rfl rfl ?_
  refine r_getR rfl (by first | assumption | exact hs.o rfl) ((up2_ne _ _ (by omega)).trans (hs.g rfl)) ?_
  refine r_iload_n rfl rfl ?_
  refine r_if_lt rfl (by omega) (fun hneg => ?_) (fun hneg => ?_)
  · refine r_null rfl ?_
    refine r_putR rfl (by first | assumption | exact hs.o rfl) ?_
    refine r_aload_n rfl rfl ?_
    refine r_getR rfl (by first | assumption | exact hs.o rfl) ((up2_ne _ _ (by omega)).trans ((up2_ne _ _ (by omega)).trans (hs.g rfl))) ?_
    refine r_iconst rfl ?_
    refine r_putI rfl (by first | assumption | exact hs.o rfl) ?_
    refine r_aload_n rfl rfl ?_
    refine r_getR rfl (by first | assumption | exact hs.o rfl) ((up2_ne _ _ (by omega)).trans ((up2_ne _ _ (by omega)).trans (hs.g rfl))) ?_
    refine r_iconst rfl ?_
    refine r_putI rfl (by first | assumption | exact hs.o rfl) ?_
    refine r_ret rfl ?_
    refine K _ (((FrG.rf g).up (by omega)).up (by omega)) ((up2_ne _ _ (by omega)).trans (up2_same _ _ _ _)) (fun q => ?_) (fun q => ?_)
    · first | (exfalso; omega) | exact up2_same _ _ _ _
    · first | (exfalso; omega) | exact (up2_same _ _ _ _)
  · refine r_iload_n rfl rfl ?_
    refine r_aload_n rfl rfl ?_
    refine r_getI rfl (by first | assumption | exact hs.o rfl) hI.rk ?_
    refine r_icmp_ge rfl (by omega) (by omega) (fun hlt => ?_) (fun hlt => ?_)
    · refine r_null rfl ?_
      refine r_putR rfl (by first | assumption | exact hs.o rfl) ?_
      refine r_aload_n rfl rfl ?_
      refine r_getR rfl (by first | assumption | exact hs.o rfl) ((up2_ne _ _ (by omega)).trans ((up2_ne _ _ (by omega)).trans (hs.g rfl))) ?_
      refine r_iconst rfl ?_
      refine r_putI rfl (by first | assumption | exact hs.o rfl) ?_
      refine r_aload_n rfl rfl ?_
      refine r_getR rfl (by first | assumption | exact hs.o rfl) ((up2_ne _ _ (by omega)).trans ((up2_ne _ _ (by omega)).trans (hs.g rfl))) ?_
      refine r_iconst rfl ?_
      refine r_putI rfl (by first | assumption | exact hs.o rfl) ?_
      refine r_ret rfl ?_
      refine K _ (((FrG.rf g).up (by omega)).up (by omega)) ((up2_ne _ _ (by omega)).trans (up2_same _ _ _ _)) (fun q => ?_) (fun q => ?_)
      · first | (exfalso; omega) | exact up2_same _ _ _ _
      · first | (exfalso; omega) | exact (up2_same _ _ _ _)
    · refine r_aload_n rfl rfl ?_
      refine r_getR rfl (by first | assumption | exact hs.o rfl) ((up2_ne _ _ (by omega)).trans (hs.g rfl)) ?_
      refine r_iload_n rfl rfl ?_
      refine r_aald rfl (hs.a rfl) (by omega) (by omega) rfl ((up2_ne _ _ (by omega)).trans rfl) ?_
      refine r_goto rfl ?_
      refine r_putR rfl (by first | assumption | exact hs.o rfl) ?_
      refine r_aload_n rfl rfl ?_
      refine r_getR rfl (by first | assumption | exact hs.o rfl) ((up2_ne _ _ (by omega)).trans ((up2_ne _ _ (by omega)).trans (hs.g rfl))) ?_
      refine r_iconst rfl ?_
      refine r_putI rfl (by first | assumption | exact hs.o rfl) ?_
      refine r_aload_n rfl rfl ?_
      refine r_getR rfl (by first | assumption | exact hs.o rfl) ((up2_ne _ _ (by omega)).trans ((up2_ne _ _ (by omega)).trans (hs.g rfl))) ?_
      refine r_iconst rfl ?_
      refine r_putI rfl (by first | assumption | exact hs.o rfl) ?_
      refine r_ret rfl ?_
      refine K _ (((FrG.rf g).up (by omega)).up (by omega)) ((up2_ne _ _ (by omega)).trans (up2_same _ _ _ _)) (fun q => ?_) (fun q => ?_)
      · first | (exfalso; omega) | exact up2_same _ _ _ _
      · first | (exfalso; omega) | exact (up2_same _ _ _ _)
/-- the engine, made ready, is so -/
theorem tr_of (hI : CI σ f g a) (hA : AOk N a) (hp : a.w.pn = some (pl, rd0)) {rl : Int} (hr : -1 ≤ rl ∧ rl < (a.rk : Int)) {p : Nat} (gp : g 0 4 = some p) (p240 : 240 ≤ p) (po : PO σ g p) (hpc : PC f p pl) {g' : ZG} (hg : FrG g g') (e0 : g' 22 0 = g 0 4) (e1 : rl < 0 → g' 22 1 = none) (e2 : 0 ≤ rl → g' 22 1 = g 2 rl.toNat) :
    TR σ (up2 (up2 f 22 2 (-1)) 22 3 (-1)) g' p pl (AL a rl pl) (-1) := by
  have hs' := hI.sh.frg hg
  have hen : EnS σ g' p := ⟨hs'.o rfl, e0.trans gp, po.frg (fun i => hg _ _ (by omega)) (fun i => hg _ _ (by omega)), p240, hs'.a rfl, hs'.a rfl, hs'.g rfl, hs'.g rfl⟩
  have hplo := (hA.plS hp).1
  refine ⟨hen, ?_, hplo, by rw [up2_ne _ _ (by omega), up2_same], by omega, ?_⟩
  · unfold PC at *
    rw [up2_o _ _ (by omega), up2_o _ _ (by omega), up2_o _ _ (by omega), up2_o _ _ (by omega), up2_o _ _ (by omega), up2_o _ _ (by omega)]
    exact hpc
  · unfold AL
    by_cases q : rl < 0
    · rw [if_pos q]
      exact ⟨_, fr_E3, (alc_none hen hplo (e1 q)).mono (by omega), fun f c e => (up2_ne _ _ (by omega)).trans e, up2_same _ _ _ _⟩
    · rw [if_neg q]
      obtain ⟨qq, c, q1, q2, q3, q4⟩ := hI.ru rl.toNat (by omega)
      have h240 := q3.c240
      refine ⟨_, fr_E3R q3.c240, alc_rule hen hplo ((e2 (by omega)).trans q1) (q3.frg (fun i => hg _ _ (by omega))), fun f c' e => ⟨(up2_ne _ _ (by omega)).trans e.1, by rw [up2_o _ _ (by omega)]; exact e.2⟩, up2_same _ _ _ _, ?_⟩
      rw [up2_o _ _ (by omega), up2_o _ _ (by omega)]
      exact q4
theorem k_tryNow (hd : 2 ≤ d) (hI : CI σ f g a) (hA : AOk N a) (hp : a.w.pn = some (pl, rd0)) (gp : g 0 4 = some p) (p240 : 240 ≤ p) (po : PO σ g p) (hpc : PC f p pl) (K : ∀ f' g', FrQ f f' → FrG g g' → TR σ f' g' p pl (AL a a.fo pl) (-1) → RC f' 47 a.w.rd → Q (some (zr (some 47))) σ f' g') : ZCt d 87 [zr (some 0)] σ f g Q := by
  refine ZCt.of' (L0 := [_]) (by omega) rfl rfl rfl (fun d hd1 => ?_)
  have hs := hI.sh
  refine r_aload_n rfl rfl ?_
  refine r_aload_n rfl rfl ?_
  refine r_getI rfl (by first | assumption | exact hs.o rfl) hI.fo ?_
  refine r_callV1 rfl rfl (by first | assumption | exact hs.o rfl) rfl (k_setEngine (by omega) hI hA hA.2.2.2.1 (fun g' hg e0 e1 e2 => ?_))
  have hs' := hs.frg hg
  have hr3 : RO σ g' 3 := hs'.r3
  have hfe : FrQ f (up2 (up2 f 22 2 (-1)) 22 3 (-1)) := ((FrQ.rf f).up (by omega)).up (by omega)
  refine r_aload_n rfl rfl ?_
  refine r_getR rfl (by first | assumption | exact hs.o rfl) (hs'.g rfl) ?_
  refine r_aload_n rfl rfl ?_
  refine r_getR rfl (by first | assumption | exact hs.o rfl) (hs'.g rfl) ?_
  refine r_callV1 rfl rfl (by first | assumption | exact hs.o rfl) rfl (k_copyFrom (rd := a.w.rd) (by omega) hs'.r47 hr3 (by omega) (hI.w.2.1.fr (fun c q1 q2 => hfe c (by omega))) (fun f1 hf1 hc1 => ?_))
  refine r_aload_n rfl rfl ?_
  refine r_getR rfl (by first | assumption | exact hs.o rfl) (hs'.g rfl) ?_
  refine r_aret rfl ?_
  exact K f1 g' (hfe.r hf1 (by omega)) hg ((tr_of hI hA hp hA.2.2.2.1 gp p240 po hpc hg e0 e1 e2).fr (r := 47) (by unfold RrOk; omega) ((FrC.rf 47 _).r (by unfold RrOk; omega) hf1)) hc1
theorem k_tryBegin (hd : 2 ≤ d) (hI : CI σ f g a) (hA : AOk N a) (hp : a.w.pn = some (pl, rd0)) (gp : g 0 4 = some p) (p240 : 240 ≤ p) (po : PO σ g p) (hpc : PC f p pl) (hrc : RC f (p + 3) rd0) {rl : Int} (hr : -1 ≤ rl ∧ rl < (a.rk : Int)) (K : ∀ f' g', FrQ f f' → FrG g g' → TR σ f' g' p pl (AL a rl pl) (-1) → RC f' 47 rd0 → Q (some (zr (some 47))) σ f' g') : ZCt d 116 [zr (some 0), zi rl] σ f g Q := by
  refine ZCt.of' (L0 := [_, _]) (by omega) rfl rfl rfl (fun d hd1 => ?_)
  have hs := hI.sh
  refine r_aload_n rfl rfl ?_
  refine r_iload_n rfl rfl ?_
  refine r_callV1 rfl rfl (by first | assumption | exact hs.o rfl) rfl (k_setEngine (by omega) hI hA hr (fun g' hg e0 e1 e2 => ?_))
  have hs' := hs.frg hg
  have hfe : FrQ f (up2 (up2 f 22 2 (-1)) 22 3 (-1)) := ((FrQ.rf f).up (by omega)).up (by omega)
  have po' : PO σ g' p := po.frg (fun i => hg _ _ (by omega)) (fun i => hg _ _ (by omega))
  have gp' : g' 0 4 = some p := (hg _ _ (by omega)).trans gp
  refine r_aload_n rfl rfl ?_
  refine r_getR rfl (by first | assumption | exact hs.o rfl) gp' ?_
  refine r_ifnullS rfl ?_
  refine r_aload_n rfl rfl ?_
  refine r_getR rfl (by first | assumption | exact hs.o rfl) (hs'.g rfl) ?_
  refine r_aload_n rfl rfl ?_
  refine r_getR rfl (by first | assumption | exact hs.o rfl) gp' ?_
  refine r_getR rfl po'.1 po'.2.2.1.2.2 ?_
  refine r_callV1 rfl rfl (by first | assumption | exact hs.o rfl) rfl (k_copyFrom (rd := rd0) (by omega) hs'.r47 po'.2.2.2 (by omega) (hrc.fr (fun c q1 q2 => hfe c (by omega))) (fun f1 hf1 hc1 => ?_))
  refine r_aload_n rfl rfl ?_
  refine r_getR rfl (by first | assumption | exact hs.o rfl) (hs'.g rfl) ?_
  refine r_aret rfl ?_
  exact K f1 g' (hfe.r hf1 (by omega)) hg ((tr_of hI hA hp hr gp p240 po hpc hg e0 e1 e2).fr (r := 47) (by unfold RrOk; omega) ((FrC.rf 47 _).r (by unfold RrOk; omega) hf1)) hc1
def rIt (pl : Pl) (al : Rd → Nat → Bool) (cl : Int) : Nat → Rd → Rd
  | 0, rd => rd
  | k + 1, rd => (rStep pl al cl (rIt pl al cl k rd)).1
theorem VS.it (hp : PlOk pl) (h : VS pl N cl rd) : ∀ k : Nat, N + 7 * (k : Int) ≤ 1000000 → VS pl (N + 7 * (k : Int)) cl (rIt pl al cl k rd) := by
  intro k
  induction k with
  | zero => intro _; simpa [rIt] using h
  | succ k ih =>
    intro hN
    have := (ih (by omega)).step (al := al) hp (by omega)
    rw [show N + 7 * ((k + 1 : Nat) : Int) = N + 7 * (k : Int) + 7 by omega]
    exact this
theorem l_goneIn (hd1 : 5 ≤ d) {f0 : ZF} (hs : Sh σ g) (ht : TR σ f0 g p pl al cl) (hv : VS pl N cl rd) {n : Nat} (hN : N + 7 * (n : Int) ≤ 1000000) {v : Int} (K : ∀ f', FrC 47 f0 f' → RC f' 47 (rIt pl al cl n rd) → ∀ x, ZWp d zt88 29 [zr (some 0), zr (some 47), zi (n : Int), zi v, x] [] σ f' g Q) (k : Nat) (hk : k ≤ n) (f : ZF) (hf : FrC 47 f0 f) (h : RC f 47 (rIt pl al cl k rd)) : ZWp d zt88 8 [zr (some 0), zr (some 47), zi (n : Int), zi v, zi (k : Int)] [] σ f g Q := by
  have hvN := hv.1.2.2.2.2.2.2
  refine r_iload rfl rfl ?_
  refine r_iload_n rfl rfl ?_
  refine r_icmp_ge rfl (by omega) (by omega) (fun hlt => ?_) (fun hlt => ?_)
  · have e : k = n := by omega
    subst e
    exact K f hf h _
  · refine r_aload_n rfl rfl ?_
    refine r_getR rfl (by first | assumption | exact hs.o rfl) (by first | assumption | exact hs.g rfl) ?_
    refine r_aload_n rfl rfl ?_
    refine r_callV1 rfl rfl (by first | assumption | exact hs.o rfl) rfl (k_drv (by omega) (ht.fr (r := 47) (by unfold RrOk; omega) hf) (by unfold RrOk; omega) hs.r47 h (hv.it ht.2.2.1 k (by omega)) (by omega) (fun f1 hf1 ht1 hc1 hst1 => ?_))
    refine r_popi rfl ?_
    refine r_iinc (L' := [_, _, _, _, _]) rfl rfl rfl ?_
    refine r_goto rfl ?_
    exact l_goneIn hd1 hs ht hv hN K (k + 1) (by omega) f1 (hf.trans hf1) hc1
termination_by n - k
theorem k_goneIn (hd : 6 ≤ d) (hs : Sh σ g) (ht : TR σ f g p pl al cl) (hv : VS pl N cl rd) {n : Nat} (hN : N + 7 * (n : Int) ≤ 1000000) (h : RC f 47 rd) (K : ∀ f', FrC 47 f f' → TR σ f' g p pl al cl → RC f' 47 (rIt pl al cl n rd) → Q (some (zi (rIt pl al cl n rd 5 1 - rd 5 1))) σ f' g) : ZCt d 88 [zr (some 0), zr (some 47), zi (n : Int)] σ f g Q := by
  refine ZCt.of' (L0 := [_, _, _, _, _]) (by omega) rfl rfl rfl (fun d hd1 => ?_)
  have hvN := hv.1.2.2.2.2.2.2
  obtain ⟨oo, ⟨a1, a2, a3, a4, a5⟩, g0, g1, g2, g3, g4⟩ := hs.r47
  refine r_aload_n rfl rfl ?_
  refine r_getI rfl (by first | assumption | exact hs.o rfl) h.2.2.2.1 ?_
  refine r_istore_n (L' := [_, _, _, _, _]) rfl rfl rfl ?_
  refine r_iconst rfl ?_
  refine r_istore (L' := [_, _, _, _, _]) rfl rfl rfl ?_
  refine l_goneIn (by omega) hs ht hv hN (fun f1 hf1 hc1 x => ?_) 0 (by omega) f (FrC.rf 47 f) h
  refine r_aload_n rfl rfl ?_
  refine r_getI rfl (by first | assumption | exact hs.o rfl) hc1.2.2.2.1 ?_
  refine r_iload_n rfl rfl ?_
  refine r_isub rfl ?_
  refine r_iret rfl ?_
  exact K f1 hf1 (ht.fr (r := 47) (by unfold RrOk; omega) hf1) hc1
end CTRY
