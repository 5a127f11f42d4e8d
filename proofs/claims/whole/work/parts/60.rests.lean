/-! Rests of two who wish -/
def gn (pl : Pl) (al : Rd → Nat → Bool) (rd : Rd) (c : Nat) : Nat → Int
  | 0 => 0
  | k + 1 => if gn pl al rd c k = 0 ∧ isBit (rStep pl al (-1) (rIt pl al (-1) k rd)).2.1 c then 100 - ((k + 1 : Nat) : Int) else gn pl al rd c k
def rWi (rd : Rd) (x y u v : Nat) : Rd := up2 (up2 rd 1 x (u : Int)) 1 y (v : Int)
/-- what both gain by a code -/
def rG (pl : Pl) (al : Rd → Nat → Bool) (rd : Rd) (x y n c : Nat) : Int × Int := (gn pl al (rWi rd x y (c / 5) (c % 5)) x n, gn pl al (rWi rd x y (c / 5) (c % 5)) y n)
abbrev rNr (G : Nat → Int × Int) (u v k : Nat) : Prop := (G (5 * u + v)).1 < (G (5 * k + v)).1 ∨ (G (5 * u + v)).2 < (G (5 * u + k)).2
def rRest (G : Nat → Int × Int) (u v : Nat) : Nat → Bool
  | 0 => true
  | k + 1 => rRest G u v k && !decide (rNr G u v k)
def rTwo (m c : Nat) : Bool := decide (c / 5 < m ∧ c % 5 < m)
def rOk (m : Nat) (G : Nat → Int × Int) (c : Nat) : Bool := rTwo m c && rRest G (c / 5) (c % 5) m
def hdI : List Nat → Int
  | [] => -1
  | x :: _ => (x : Int)
def rRL (m : Nat) (G : Nat → Int × Int) : List Nat := (List.range 25).filter (rOk m G)
def rRV (w : Int) (l : List Nat) : Int := if w = 0 then (l.length : Int) else match l with
  | [] => -2
  | c :: _ => if w = 1 then ((c / 5 : Nat) : Int) else ((c % 5 : Nat) : Int)
def qRest (a : AS) (x y n w : Int) : Int := match a.w.pn with
  | none => -1
  | some (pl, _) => if isOnA a x ∧ isOnA a y ∧ x ≠ y ∧ (1 ≤ n ∧ n ≤ 20) ∧ (0 ≤ w ∧ w ≤ 2) then rRV w (rRL pl.2.1.toNat (rG pl (AL a a.fo pl) a.w.rd x.toNat y.toNat n.toNat)) else -1
def rCd (m t : Nat) : Nat := 5 * (t / m) + t % m
theorem rCd_all : ∀ m, m < 6 → (List.range (m * m)).map (rCd m) = (List.range 25).filter (rTwo m) := by decide +kernel
def rCL (m : Nat) (G : Nat → Int × Int) (k : Nat) : List Nat := (List.range k).filter (fun t => rRest G (t / m) (t % m) m)
theorem hdI_app (l : List Nat) (k : Nat) : hdI (l ++ [k]) = if (l.length : Int) = 0 then (k : Int) else hdI l := by
  cases l with
  | nil => rfl
  | cons x r => rw [if_neg (by simp only [List.length_cons]; omega)]; rfl
theorem rCL_y {m k : Nat} {G : Nat → Int × Int} (h : rRest G (k / m) (k % m) m = true) : rCL m G (k + 1) = rCL m G k ++ [k] := by
  unfold rCL
  rw [List.range_succ, List.filter_append]
  simp [h]
theorem rCL_n {m k : Nat} {G : Nat → Int × Int} (h : rRest G (k / m) (k % m) m = false) : rCL m G (k + 1) = rCL m G k := by
  unfold rCL
  rw [List.range_succ, List.filter_append]
  simp [h]
theorem rCd_dm {m t : Nat} (hm : m ≤ 5) (ht : t < m * m) : (rCd m t) / 5 = t / m ∧ (rCd m t) % 5 = t % m := by
  have h0 : 0 < m := by
    cases m with
    | zero => omega
    | succ m => omega
  have h1 := Nat.mod_lt t h0
  unfold rCd
  generalize t / m = q at *
  omega
theorem rRL_eq {m : Nat} (hm : m ≤ 5) (G : Nat → Int × Int) : rRL m G = (rCL m G (m * m)).map (rCd m) := by
  have h1 : rRL m G = ((List.range 25).filter (rTwo m)).filter (fun c => rRest G (c / 5) (c % 5) m) := by
    unfold rRL
    rw [List.filter_filter]
    congr 1
    funext c
    unfold rOk
    exact Bool.and_comm _ _
  rw [h1, ← rCd_all m (by omega), List.filter_map]
  congr 1
  unfold rCL
  apply List.filter_congr
  intro t ht
  have ht' := List.mem_range.1 ht
  have := rCd_dm hm ht'
  simp only [Function.comp]
  rw [this.1, this.2]
theorem rCL_mem {m k t : Nat} {G : Nat → Int × Int} {r : List Nat} (h : rCL m G k = t :: r) : t < k := by
  have : t ∈ rCL m G k := by rw [h]; exact List.mem_cons_self
  unfold rCL at this
  exact List.mem_range.1 (List.mem_filter.1 this).1
/-- the reference's way, from the last on -/
def rDn (p : Nat → Bool) : Nat → List Nat
  | 0 => []
  | i + 1 => if p (24 - i) = true then (24 - i) :: rDn p i else rDn p i
theorem rDn_eq (p : Nat → Bool) : rDn p 25 = (List.range 25).filter p := by
  have h : ∀ i, i ≤ 25 → rDn p i = ((List.range 25).drop (25 - i)).filter p := by
    intro i
    induction i with
    | zero => intro _; rfl
    | succ i ih =>
      intro hi
      have e : (List.range 25).drop (25 - (i + 1)) = (24 - i) :: (List.range 25).drop (25 - i) := by
        rw [List.drop_eq_getElem_cons (by simp; omega)]
        simp only [List.getElem_range]
        rw [show 25 - (i + 1) = 24 - i by omega, show 24 - i + 1 = 25 - i by omega]
      simp only [rDn]
      rw [ih (by omega), e, List.filter_cons]
  exact h 25 (Nat.le_refl 25)
section RESTS
variable {d : Nat} {σ : ZS} {f f0 f' : ZF} {g g' : ZG} {Q : ZQ} {n m N : Int} {rd rd' : Rd} {r p : Nat} {pl : Pl} {rd0 : Rd} {al : Rd → Nat → Bool} {cl : Int} {a : AS}
theorem gn_rng {c : Nat} : ∀ k : Nat, k ≤ 20 → 0 ≤ gn pl al rd c k ∧ gn pl al rd c k ≤ 100 := by
  intro k
  induction k with
  | zero => intro _; simp [gn]
  | succ k ih =>
    intro hk
    have := ih (by omega)
    simp only [gn]
    split <;> omega
theorem VS.want {c : Nat} {v : Int} (h : VS pl N cl rd) (hc : c < 6) (hon : 0 ≤ rd 0 c) (hv : 0 ≤ v ∧ v < pl.2.1) : VS pl N cl (up2 rd 1 c v) := by
  obtain ⟨⟨h1, h2, h3, h4, h5, h6, h7, h8⟩, hd, hz, hw⟩ := h
  refine ⟨⟨h1, h2, fun k hk => ?_, fun j hj => by simpa [up2] using h4 j hj, fun c hc => by simpa [up2] using h5 c hc, by simpa [up2] using h6, by simpa [up2] using h7, h8⟩, hd.same (fun k _ => by simp [up2]), hz.same (fun j => by simp [up2]), fun j hj => by simpa [up2] using hw j hj⟩
  by_cases e : k = c
  · subst e
    have := h3 k hk
    simp only [up2, and_self, if_true, show ¬ (0 : Nat) = 1 by omega, show ¬ (2 : Nat) = 1 by omega, show ¬ (3 : Nat) = 1 by omega, false_and, if_false]
    omega
  · simp only [up2, e, and_false, if_false]; exact h3 k hk
theorem VS.wi {x y u v : Nat} (h : VS pl N cl rd) (hx : x < 6) (hy : y < 6) (h0 : 0 ≤ rd 0 x) (h0' : 0 ≤ rd 0 y) (hu : (u : Int) < pl.2.1) (hv : (v : Int) < pl.2.1) : VS pl N cl (rWi rd x y u v) := (h.want hx h0 (by omega)).want hy (by simpa [up2] using h0') (by omega)
theorem qRest_no {x y n w : Int} (h : a.w.pn = none ∨ ¬ (isOnA a x ∧ isOnA a y ∧ x ≠ y ∧ (1 ≤ n ∧ n ≤ 20) ∧ (0 ≤ w ∧ w ≤ 2))) : qRest a x y n w = -1 := by
  unfold qRest
  cases hp : a.w.pn with
  | none => rfl
  | some z => exact if_neg (by rcases h with h | h; rw [hp] at h; cases h; exact h)
theorem qRest_yes {x y n : Nat} {w : Int} (hp : a.w.pn = some (pl, rd0)) (h : (x < 6 ∧ 0 ≤ a.w.rd 0 x) ∧ (y < 6 ∧ 0 ≤ a.w.rd 0 y) ∧ x ≠ y ∧ (1 ≤ n ∧ n ≤ 20) ∧ (0 ≤ w ∧ w ≤ 2)) : qRest a (x : Int) (y : Int) (n : Int) w = rRV w (rRL pl.2.1.toNat (rG pl (AL a a.fo pl) a.w.rd x y n)) := by
  unfold qRest
  rw [hp]
  simp only
  rw [if_pos ⟨⟨by omega, by omega, by rw [Int.toNat_natCast]; omega⟩, ⟨by omega, by omega, by rw [Int.toNat_natCast]; omega⟩, by omega, by omega, by omega⟩, Int.toNat_natCast, Int.toNat_natCast, Int.toNat_natCast]
theorem rRest_f {G : Nat → Int × Int} {u v j k : Nat} (hj : j < k) (h : rNr G u v j) : rRest G u v k = false := by
  induction k with
  | zero => omega
  | succ k ih =>
    simp only [rRest]
    by_cases e : j = k
    · subst e; rw [decide_eq_true h]; simp
    · rw [ih (by omega), Bool.false_and]
theorem k_tryT (hd : 2 ≤ d) (hI : CI σ f g a) (hA : AOk N a) (hp : a.w.pn = some (pl, rd0)) (K : ∀ f' g' p, FrQ f f' → FrG g g' → TR σ f' g' p pl (AL a a.fo pl) (-1) → RC f' 47 a.w.rd → (∀ c, c = 53 ∨ c = 54 → f' c = f c) → Q (some (zr (some 47))) σ f' g') : ZCt d 87 [zr (some 0)] σ f g Q := by
  refine ZCt.of' (L0 := [_]) (by omega) rfl rfl rfl (fun d hd1 => ?_)
  have hs := hI.sh
  obtain ⟨p, gp, p240, po, hpc, hrc⟩ := hI.plS hp
  refine r_aload_n rfl rfl ?_
  refine r_aload_n rfl rfl ?_
  refine r_getI rfl (by first | assumption | exact hs.o rfl) hI.fo ?_
  refine r_callV1 rfl rfl (by first | assumption | exact hs.o rfl) rfl (k_setEngine (by omega) hI hA hA.2.2.2.1 (fun g' hg e0 e1 e2 => ?_))
  have hs' := hs.frg hg
  have hr3 : RO σ g' 3 := hs'.r3
  have hfe : FrQ f (up2 (up2 f 22 2 (-1)) 22 3 (-1)) := ((FrQ.rf f).up (by omega)).up (by omega)
  refine r_aload_n rfl rfl ?_
  refine r_getR rfl (by first | assumption | exact hs.o rfl) (hs'.g rfl) ?_
  refine r_aload_n rfl rfl ?_
  refine r_getR rfl (by first | assumption | exact hs.o rfl) (hs'.g rfl) ?_
  refine r_callV1 rfl rfl (by first | assumption | exact hs.o rfl) rfl (k_copyFrom (rd := a.w.rd) (by omega) hs'.r47 hr3 (by omega) (hI.w.2.1.fr (fun c q1 q2 => hfe c (by omega))) (fun f1 hf1 hc1 => ?_))
  refine r_aload_n rfl rfl ?_
  refine r_getR rfl (by first | assumption | exact hs.o rfl) (hs'.g rfl) ?_
  refine r_aret rfl ?_
  exact K f1 g' p (hfe.r hf1 (by omega)) hg ((tr_of hI hA hp hA.2.2.2.1 gp p240 po hpc hg e0 e1 e2).fr (r := 47) (by unfold RrOk; omega) ((FrC.rf 47 _).r (by unfold RrOk; omega) hf1)) hc1 (fun c q1 => by rw [hf1 c (by omega), up2_o _ _ (by omega), up2_o _ _ (by omega)])
theorem k_gainAt (hd : 1 ≤ d) {u v : Nat} (K : Q (some (zi ((2 * (5 * u + v) : Nat) : Int))) σ f g) : ZCt d 106 [zi (u : Int), zi (v : Int)] σ f g Q := by
  refine ZCt.of' (L0 := [_, _]) (by omega) rfl rfl rfl (fun d hd1 => ?_)
  refine r_iconst rfl ?_
  refine r_iload_n rfl rfl ?_
  refine r_iconst rfl ?_
  refine r_imul rfl ?_
  refine r_iload_n rfl rfl ?_
  refine r_iadd rfl ?_
  refine r_imul rfl ?_
  refine r_iret rfl ?_
  have e : (2 : Int) * ((u : Int) * 5 + (v : Int)) = ((2 * (5 * u + v) : Nat) : Int) := by omega
  rw [e]
  exact K
theorem k_gainB (hd : 1 ≤ d) {s q k : Int} {c : Nat} (hq : 0 ≤ q ∧ q ≤ 100) (K : Q (some (zi (if q = 0 ∧ isBit s c then 100 - k else q))) σ f g) : ZCt d 107 [zi s, zi (c : Int), zi q, zi k] σ f g Q := by
  refine ZCt.of' (L0 := [_, _, _, _]) (by omega) rfl rfl rfl (fun d hd1 => ?_)
  refine r_iload_n rfl rfl ?_
  refine r_if_ne rfl (by omega) (fun hz => ?_) (fun hz => ?_)
  · refine r_iload_n rfl rfl ?_
    refine r_iret rfl ?_
    first | (rw [if_pos ⟨hz, hb⟩] at K; exact K) | (rw [if_neg (fun q => hb q.2)] at K; exact K) | (rw [if_neg (fun q => hz q.1)] at K; exact K)
  · refine r_iload_n rfl rfl ?_
    refine r_iload_n rfl rfl ?_
    refine r_ishr rfl ?_
    refine r_iconst rfl ?_
    refine r_iand rfl ?_
    refine r_iconst rfl ?_
    refine r_icmp_ne rfl (z_and_rng _ _) (by omega) (fun hb => ?_) (fun hb => ?_)
    · refine r_iload_n rfl rfl ?_
      refine r_iret rfl ?_
      first | (rw [if_pos ⟨hz, hb⟩] at K; exact K) | (rw [if_neg (fun q => hb q.2)] at K; exact K) | (rw [if_neg (fun q => hz q.1)] at K; exact K)
    · refine r_bipush rfl ?_
      refine r_iload_n rfl rfl ?_
      refine r_isub rfl ?_
      refine r_goto rfl ?_
      refine r_iret rfl ?_
      first | (rw [if_pos ⟨hz, hb⟩] at K; exact K) | (rw [if_neg (fun q => hb q.2)] at K; exact K) | (rw [if_neg (fun q => hz q.1)] at K; exact K)
theorem l_ftK (hd1 : 5 ≤ d) (hs : Sh σ g) (hv : VS pl N (-1) rd) {n : Nat} (hn : n ≤ 20) (hN : N + 7 * (n : Int) ≤ 1000000) {x y c : Nat} (hc25 : c < 25) {u v : ZV} {s : Nat → Int} (K : ∀ f' x8 x9, FrQ f0 f' → TR σ f' g p pl al (-1) → f' 53 (2 * c) = gn pl al rd x n → f' 53 (2 * c + 1) = gn pl al rd y n → (∀ i, ¬ (i = 2 * c ∨ i = 2 * c + 1) → f' 53 i = s i) → ZWp d zt105 155 [zr (some 0), zi (x : Int), zi (y : Int), zi (n : Int), u, v, zr (some 47), zi ((2 * c : Nat) : Int), x8, x9] [] σ f' g Q) (k : Nat) (hk : k ≤ n) (f : ZF) (x9 : ZV) (_z : Unit) (hf : FrQ f0 f) (ht : TR σ f g p pl al (-1)) (h : RC f 47 (rIt pl al (-1) k rd)) (h1 : f 53 (2 * c) = gn pl al rd x k) (h2 : f 53 (2 * c + 1) = gn pl al rd y k) (hoth : ∀ i, ¬ (i = 2 * c ∨ i = 2 * c + 1) → f 53 i = s i) : ZWp d zt105 84 [zr (some 0), zi (x : Int), zi (y : Int), zi (n : Int), u, v, zr (some 47), zi ((2 * c : Nat) : Int), zi ((k + 1 : Nat) : Int), x9] [] σ f g Q := by
  have hvN := hv.1.2.2.2.2.2.2
  refine r_iload rfl rfl ?_
  refine r_iload_n rfl rfl ?_
  refine r_icmp_gt rfl (by omega) (by omega) (fun hgt => ?_) (fun hgt => ?_)
  · have e : k = n := by omega
    subst e
    exact K f _ _ hf ht h1 h2 hoth
  · refine r_aload_n rfl rfl ?_
    refine r_getR rfl (by first | assumption | exact hs.o rfl) (by first | assumption | exact hs.g rfl) ?_
    refine r_aload rfl rfl ?_
    refine r_callV1 rfl rfl (by first | assumption | exact hs.o rfl) rfl (k_drv (by omega) ht rr47 hs.r47 h (hv.it ht.2.2.1 k (by omega)) (by omega) (fun f1 hf1 ht1 hc1 hst1 => ?_))
    have e53 : f1 53 = f 53 := hf1.1 53 (by omega) (by omega) (by omega) (by omega)
    have hg1 := gn_rng (pl := pl) (al := al) (rd := rd) (c := x) k (by omega)
    have hg2 := gn_rng (pl := pl) (al := al) (rd := rd) (c := y) k (by omega)
    refine r_istore (L' := [_, _, _, _, _, _, _, _, _, _]) rfl rfl rfl ?_
    refine r_aload_n rfl rfl ?_
    refine r_getR rfl (by first | assumption | exact hs.o rfl) (by first | assumption | exact hs.g rfl) ?_
    refine r_iload rfl rfl ?_
    refine r_iload rfl rfl ?_
    refine r_iload_n rfl rfl ?_
    refine r_aload_n rfl rfl ?_
    refine r_getR rfl (by first | assumption | exact hs.o rfl) (by first | assumption | exact hs.g rfl) ?_
    refine r_iload rfl rfl ?_
    refine r_iald rfl (by first | assumption | exact hs.a rfl) (by omega) (by omega) ((zix (n := 2 * c) (by omega)).trans ((congrFun e53 _).trans h1)) ?_
    refine r_iload rfl rfl ?_
    refine r_callS4 rfl rfl rfl (k_gainB (by omega) hg1 ?_)
    refine r_iastN (2 * c) rfl (by first | assumption | exact hs.a rfl) (by omega) (by omega) (by omega) ?_
    refine r_aload_n rfl rfl ?_
    refine r_getR rfl (by first | assumption | exact hs.o rfl) (by first | assumption | exact hs.g rfl) ?_
    refine r_iload rfl rfl ?_
    refine r_iconst rfl ?_
    refine r_iadd rfl ?_
    refine r_iload rfl rfl ?_
    refine r_iload_n rfl rfl ?_
    refine r_aload_n rfl rfl ?_
    refine r_getR rfl (by first | assumption | exact hs.o rfl) (by first | assumption | exact hs.g rfl) ?_
    refine r_iload rfl rfl ?_
    refine r_iconst rfl ?_
    refine r_iadd rfl ?_
    refine r_iald rfl (by first | assumption | exact hs.a rfl) (by omega) (by omega) ((zix (n := 2 * c + 1) (by omega)).trans ((up2_ne _ _ (by omega)).trans ((congrFun e53 _).trans h2))) ?_
    refine r_iload rfl rfl ?_
    refine r_callS4 rfl rfl rfl (k_gainB (by omega) hg2 ?_)
    refine r_iastN (2 * c + 1) rfl (by first | assumption | exact hs.a rfl) (by omega) (by omega) (by omega) ?_
    refine r_iinc (L' := [_, _, _, _, _, _, _, _, _, _]) rfl rfl rfl ?_
    refine r_goto rfl ?_
    refine l_ftK hd1 hs hv hn hN hc25 K (k + 1) (by omega) _ _ () (((hf.c47 hf1).up (by omega)).up (by omega)) ((ht1.sc (by omega)).sc (by omega)) (hc1.fr (fun c q1 q2 => by rw [up2_o _ _ (by omega), up2_o _ _ (by omega)])) ?_ ?_ (fun i q => ?_)
    · rw [up2_ne _ _ (by omega), up2_same]; rfl
    · rw [up2_same]; rfl
    · rw [up2_ne _ _ (by omega), up2_ne _ _ (by omega), e53]; exact hoth i q
termination_by n - k
theorem l_ftV (hd1 : 7 ≤ d) {f00 : ZF} {g00 : ZG} (hI : CI σ f00 g00 a) (hA : AOk N a) (hp : a.w.pn = some (pl, rd0)) {n : Nat} (hn : n ≤ 20) {x y : Nat} (hx : x < 6 ∧ 0 ≤ a.w.rd 0 x) (hy : y < 6 ∧ 0 ≤ a.w.rd 0 y) {u : Nat} (hu : (u : Int) < pl.2.1) (K : ∀ f'' g'' x6 x7 x8 x9, FrQ f00 f'' → FrG g00 g'' → (∀ c, c < 5 * (u + 1) → rTwo pl.2.1.toNat c = true → f'' 53 (2 * c) = (rG pl (AL a a.fo pl) a.w.rd x y n c).1 ∧ f'' 53 (2 * c + 1) = (rG pl (AL a a.fo pl) a.w.rd x y n c).2) → ZWp d zt105 161 [zr (some 0), zi (x : Int), zi (y : Int), zi (n : Int), zi (u : Int), zi ((pl.2.1.toNat : Nat) : Int), x6, x7, x8, x9] [] σ f'' g'' Q) (v : Nat) (hv : v ≤ pl.2.1.toNat) (f : ZF) (g : ZG) (x6 x7 x8 x9 : ZV) (hf : FrQ f00 f) (hg : FrG g00 g) (htab : (∀ c, c < 5 * u + v → rTwo pl.2.1.toNat c = true → f 53 (2 * c) = (rG pl (AL a a.fo pl) a.w.rd x y n c).1 ∧ f 53 (2 * c + 1) = (rG pl (AL a a.fo pl) a.w.rd x y n c).2)) : ZWp d zt105 18 [zr (some 0), zi (x : Int), zi (y : Int), zi (n : Int), zi (u : Int), zi (v : Int), x6, x7, x8, x9] [] σ f g Q := by
  have hIf := hI.fr hf hg
  have hs := hIf.sh
  obtain ⟨p0, gp, p240, po, hpc, hrc⟩ := hIf.plS hp
  obtain ⟨hplo, hvr, hst⟩ := hA.plS hp
  have hN := hA.2.2.2.2.2.2.2
  have hvs := hvr.vs
  have hp2 := hplo.2.1
  refine r_iload rfl rfl ?_
  refine r_aload_n rfl rfl ?_
  refine r_getR rfl (by first | assumption | exact hs.o rfl) gp ?_
  refine r_getI rfl po.1 hpc.2.1 ?_
  refine r_icmp_ge rfl (by omega) (by omega) (fun hge => ?_) (fun hge => ?_)
  · have e : v = pl.2.1.toNat := by omega
    subst e
    exact K f g _ _ _ _ hf hg (fun c h1 h2 => htab c (by have h2 := of_decide_eq_true h2; omega) h2)
  · refine r_aload_n rfl rfl ?_
    refine r_callV0 rfl rfl (by first | assumption | exact hs.o rfl) rfl (k_tryT (by omega) hIf hA hp (fun f1 g1 p hf1 hg1 ht1 hc1 hsc1 => ?_))
    have hs1 := hs.frg hg1
    obtain ⟨oo, ⟨a1, a2, a3, a4, a5⟩, gg0, gg1, gg2, gg3, gg4⟩ := hs1.r47
    have e531 : f1 53 = f 53 := hsc1 53 (by omega)
    refine r_astore (L' := [_, _, _, _, _, _, _, _, _, _]) rfl rfl rfl ?_
    refine r_aload rfl rfl ?_
    refine r_getR rfl (by first | assumption | exact hs.o rfl) gg1 ?_
    refine r_iload_n rfl rfl ?_
    refine r_iload rfl rfl ?_
    refine r_iastN (x) rfl (by first | assumption | exact hs.a rfl) (by omega) (by omega) (by omega) ?_
    refine r_aload rfl rfl ?_
    refine r_getR rfl (by first | assumption | exact hs.o rfl) gg1 ?_
    refine r_iload_n rfl rfl ?_
    refine r_iload rfl rfl ?_
    refine r_iastN (y) rfl (by first | assumption | exact hs.a rfl) (by omega) (by omega) (by omega) ?_
    refine r_iload rfl rfl ?_
    refine r_iload rfl rfl ?_
    refine r_callS2 rfl rfl rfl (k_gainAt (u := u) (v := v) (by omega) ?_)
    refine r_istore (L' := [_, _, _, _, _, _, _, _, _, _]) rfl rfl rfl ?_
    refine r_aload_n rfl rfl ?_
    refine r_getR rfl (by first | assumption | exact hs.o rfl) (hs1.g rfl) ?_
    refine r_iload rfl rfl ?_
    refine r_iconst rfl ?_
    refine r_iastN (2 * (5 * u + v)) rfl (by first | assumption | exact hs.a rfl) (by omega) (by omega) (by omega) ?_
    refine r_aload_n rfl rfl ?_
    refine r_getR rfl (by first | assumption | exact hs.o rfl) (hs1.g rfl) ?_
    refine r_iload rfl rfl ?_
    refine r_iconst rfl ?_
    refine r_iadd rfl ?_
    refine r_iconst rfl ?_
    refine r_iastN (2 * (5 * u + v) + 1) rfl (by first | assumption | exact hs.a rfl) (by omega) (by omega) (by omega) ?_
    refine r_iconst rfl ?_
    refine r_istore (L' := [_, _, _, _, _, _, _, _, _, _]) rfl rfl rfl ?_
    have hrc2 : RC (up2 (up2 f1 (47 + 2) x (u : Int)) (47 + 2) y (v : Int)) 47 (rWi a.w.rd x y u v) := (hc1.want hx.1).want hy.1
    refine l_ftK (f0 := f00) (rd := rWi a.w.rd x y u v) (x := x) (y := y) (c := 5 * u + v) (by omega) hs1 (hvs.wi hx.1 hy.1 hx.2 hy.2 (by omega) (by omega)) hn (by omega) (by omega) (fun f2 x8 x9 h2 ht2 h21 h22 h23 => ?_) 0 (by omega) _ _ () (((((hf.trans hf1).up (by omega)).up (by omega)).up (by omega)).up (by omega)) (((ht1.fr rr47 (((FrC.rf 47 f1).up rr47 (by omega)).up rr47 (by omega))).sc (by omega)).sc (by omega)) (hrc2.fr (fun c q1 q2 => by rw [up2_o _ _ (by omega), up2_o _ _ (by omega)])) ?_ ?_ (fun i q => rfl)
    · refine r_iinc (L' := [_, _, _, _, _, _, _, _, _, _]) rfl rfl rfl ?_
      refine r_goto rfl ?_
      refine l_ftV hd1 hI hA hp hn hx hy hu K (v + 1) (by omega) f2 g1 _ _ _ _ h2 (hg.trans hg1) (fun c hc1 hc2 => ?_)
      by_cases e : c = 5 * u + v
      · subst e
        have e1 : (5 * u + v) / 5 = u := by omega
        have e2 : (5 * u + v) % 5 = v := by omega
        unfold rG
        rw [e1, e2]
        exact ⟨h21, h22⟩
      · rw [h23 _ (by omega), h23 _ (by omega)]
        rw [up2_ne _ _ (by omega), up2_ne _ _ (by omega), up2_o _ _ (by omega), up2_o _ _ (by omega), up2_ne _ _ (by omega), up2_ne _ _ (by omega), up2_o _ _ (by omega), up2_o _ _ (by omega), e531]
        exact htab c (by omega) hc2
    · rw [up2_ne _ _ (by omega), up2_same]; rfl
    · rw [up2_same]; rfl
termination_by pl.2.1.toNat - v
theorem l_ftU (hd1 : 7 ≤ d) {f00 : ZF} {g00 : ZG} (hI : CI σ f00 g00 a) (hA : AOk N a) (hp : a.w.pn = some (pl, rd0)) {n : Nat} (hn : n ≤ 20) {x y : Nat} (hx : x < 6 ∧ 0 ≤ a.w.rd 0 x) (hy : y < 6 ∧ 0 ≤ a.w.rd 0 y) (K : ∀ f'' g'', FrQ f00 f'' → FrG g00 g'' → (∀ c, c < 25 → rTwo pl.2.1.toNat c = true → f'' 53 (2 * c) = (rG pl (AL a a.fo pl) a.w.rd x y n c).1 ∧ f'' 53 (2 * c + 1) = (rG pl (AL a a.fo pl) a.w.rd x y n c).2) → Q none σ f'' g'') (u : Nat) (hu : u ≤ pl.2.1.toNat) (f : ZF) (g : ZG) (x5 x6 x7 x8 x9 : ZV) (hf : FrQ f00 f) (hg : FrG g00 g) (htab : (∀ c, c < 5 * u → rTwo pl.2.1.toNat c = true → f 53 (2 * c) = (rG pl (AL a a.fo pl) a.w.rd x y n c).1 ∧ f 53 (2 * c + 1) = (rG pl (AL a a.fo pl) a.w.rd x y n c).2)) : ZWp d zt105 3 [zr (some 0), zi (x : Int), zi (y : Int), zi (n : Int), zi (u : Int), x5, x6, x7, x8, x9] [] σ f g Q := by
  have hIf := hI.fr hf hg
  have hs := hIf.sh
  obtain ⟨p0, gp, p240, po, hpc, hrc⟩ := hIf.plS hp
  obtain ⟨hplo, hvr, hst⟩ := hA.plS hp
  have hN := hA.2.2.2.2.2.2.2
  have hvs := hvr.vs
  have hp2 := hplo.2.1
  refine r_iload rfl rfl ?_
  refine r_aload_n rfl rfl ?_
  refine r_getR rfl (by first | assumption | exact hs.o rfl) gp ?_
  refine r_getI rfl po.1 hpc.2.1 ?_
  refine r_icmp_ge rfl (by omega) (by omega) (fun hge => ?_) (fun hge => ?_)
  · refine r_ret rfl ?_
    exact K f g hf hg (fun c h1 h2 => htab c (by have h2 := of_decide_eq_true h2; omega) h2)
  · refine r_iconst rfl ?_
    refine r_istore (L' := [_, _, _, _, _, _, _, _, _, _]) rfl rfl rfl ?_
    refine l_ftV hd1 hI hA hp hn hx hy (u := u) (by omega) (fun f2 g2 x6 x7 x8 x9 h2 h3 h4 => ?_) 0 (by omega) f g _ _ _ _ hf hg (fun c h1 h2 => htab c (by omega) h2)
    refine r_iinc (L' := [_, _, _, _, _, _, _, _, _, _]) rfl rfl rfl ?_
    refine r_goto rfl ?_
    exact l_ftU hd1 hI hA hp hn hx hy K (u + 1) (by omega) f2 g2 _ _ _ _ _ h2 h3 h4
termination_by pl.2.1.toNat - u
theorem k_fillTable (hd : 8 ≤ d) (hI : CI σ f g a) (hA : AOk N a) (hp : a.w.pn = some (pl, rd0)) {n : Nat} (hn : n ≤ 20) {x y : Nat} (hx : x < 6 ∧ 0 ≤ a.w.rd 0 x) (hy : y < 6 ∧ 0 ≤ a.w.rd 0 y) (K : ∀ f'' g'', FrQ f f'' → FrG g g'' → (∀ c, c < 25 → rTwo pl.2.1.toNat c = true → f'' 53 (2 * c) = (rG pl (AL a a.fo pl) a.w.rd x y n c).1 ∧ f'' 53 (2 * c + 1) = (rG pl (AL a a.fo pl) a.w.rd x y n c).2) → Q none σ f'' g'') : ZCt d 105 [zr (some 0), zi (x : Int), zi (y : Int), zi (n : Int)] σ f g Q := by
  refine ZCt.of' (L0 := [_, _, _, _, _, _, _, _, _, _]) (by omega) rfl rfl rfl (fun d hd1 => ?_)
  refine r_iconst rfl ?_
  refine r_istore (L' := [_, _, _, _, _, _, _, _, _, _]) rfl rfl rfl ?_
  exact l_ftU (by omega) hI hA hp hn hx hy K 0 (by omega) f g _ _ _ _ _ (FrQ.rf f) (FrG.rf g) (fun c h1 _ => by omega)
theorem l_isRest (hd1 : 1 ≤ d) (hs : Sh σ g) (gp : g 0 4 = some p) (po : PO σ g p) (hpc : PC f p pl) {m : Nat} (hm : pl.2.1 = (m : Int)) (hm5 : m ≤ 5) {G : Nat → Int × Int} (hG : ∀ c, -1 ≤ (G c).1 ∧ (G c).1 ≤ 100 ∧ -1 ≤ (G c).2 ∧ (G c).2 ≤ 100) (htab : ∀ c, c < 25 → rTwo m c = true → f 53 (2 * c) = (G c).1 ∧ f 53 (2 * c + 1) = (G c).2) {u v : Nat} (hu : u < m) (hv : v < m) (k1 : rRest G u v m = true → Q (some (zi 1)) σ f g) (k2 : rRest G u v m = false → Q (some (zi 0)) σ f g) (k : Nat) (hk : k ≤ m) (hall : rRest G u v k = true) : ZWp d zt108 9 [zr (some 0), zi (u : Int), zi (v : Int), zi ((2 * (5 * u + v) : Nat) : Int), zi (k : Int)] [] σ f g Q := by
  refine r_iload rfl rfl ?_
  refine r_aload_n rfl rfl ?_
  refine r_getR rfl (by first | assumption | exact hs.o rfl) gp ?_
  refine r_getI rfl po.1 (hpc.2.1.trans hm) ?_
  refine r_icmp_ge rfl (by omega) (by omega) (fun hge => ?_) (fun hge => ?_)
  · have e : k = m := by omega
    subst e
    refine r_iconst rfl ?_
    refine r_zret rfl (by omega) ?_
    exact k1 hall
  · have t0 := htab (5 * u + v) (by omega) (decide_eq_true (by omega))
    have t1 := htab (5 * k + v) (by omega) (decide_eq_true (by omega))
    have t2 := htab (5 * u + k) (by omega) (decide_eq_true (by omega))
    have g0 := hG (5 * u + v)
    have g1 := hG (5 * k + v)
    have g2 := hG (5 * u + k)
    refine r_aload_n rfl rfl ?_
    refine r_getR rfl (by first | assumption | exact hs.o rfl) (by first | assumption | exact hs.g rfl) ?_
    refine r_iload rfl rfl ?_
    refine r_iload_n rfl rfl ?_
    refine r_callS2 rfl rfl rfl (k_gainAt (u := k) (v := v) (by omega) ?_)
    refine r_iald rfl (by first | assumption | exact hs.a rfl) (by omega) (by omega) ((zix (n := 2 * (5 * k + v)) (by omega)).trans t1.1) ?_
    refine r_aload_n rfl rfl ?_
    refine r_getR rfl (by first | assumption | exact hs.o rfl) (by first | assumption | exact hs.g rfl) ?_
    refine r_iload_n rfl rfl ?_
    refine r_iald rfl (by first | assumption | exact hs.a rfl) (by omega) (by omega) ((zix (n := 2 * (5 * u + v)) (by omega)).trans t0.1) ?_
    refine r_icmp_le rfl (by omega) (by omega) (fun hle1 => ?_) (fun hle1 => ?_)
    · refine r_aload_n rfl rfl ?_
      refine r_getR rfl (by first | assumption | exact hs.o rfl) (by first | assumption | exact hs.g rfl) ?_
      refine r_iload_n rfl rfl ?_
      refine r_iload rfl rfl ?_
      refine r_callS2 rfl rfl rfl (k_gainAt (u := u) (v := k) (by omega) ?_)
      refine r_iconst rfl ?_
      refine r_iadd rfl ?_
      refine r_iald rfl (by first | assumption | exact hs.a rfl) (by omega) (by omega) ((zix (n := 2 * (5 * u + k) + 1) (by omega)).trans t2.2) ?_
      refine r_aload_n rfl rfl ?_
      refine r_getR rfl (by first | assumption | exact hs.o rfl) (by first | assumption | exact hs.g rfl) ?_
      refine r_iload_n rfl rfl ?_
      refine r_iconst rfl ?_
      refine r_iadd rfl ?_
      refine r_iald rfl (by first | assumption | exact hs.a rfl) (by omega) (by omega) ((zix (n := 2 * (5 * u + v) + 1) (by omega)).trans t0.2) ?_
      refine r_icmp_le rfl (by omega) (by omega) (fun hle2 => ?_) (fun hle2 => ?_)
      · refine r_iinc (L' := [_, _, _, _, _]) rfl rfl rfl ?_
        refine r_goto rfl ?_
        exact l_isRest hd1 hs gp po hpc hm hm5 hG htab hu hv k1 k2 (k + 1) (by omega) (by simp only [rRest]; rw [hall, decide_eq_false (fun q => by rcases q with q | q <;> omega)]; rfl)
      · refine r_iconst rfl ?_
        refine r_zret rfl (by omega) ?_
        first | exact k2 (rRest_f (j := k) (by omega) (Or.inl (by omega))) | exact k2 (rRest_f (j := k) (by omega) (Or.inr (by omega)))
    · refine r_iconst rfl ?_
      refine r_zret rfl (by omega) ?_
      first | exact k2 (rRest_f (j := k) (by omega) (Or.inl (by omega))) | exact k2 (rRest_f (j := k) (by omega) (Or.inr (by omega)))
termination_by m - k
theorem k_isRest (hd : 2 ≤ d) (hs : Sh σ g) (gp : g 0 4 = some p) (po : PO σ g p) (hpc : PC f p pl) {m : Nat} (hm : pl.2.1 = (m : Int)) (hm5 : m ≤ 5) {G : Nat → Int × Int} (hG : ∀ c, -1 ≤ (G c).1 ∧ (G c).1 ≤ 100 ∧ -1 ≤ (G c).2 ∧ (G c).2 ≤ 100) (htab : ∀ c, c < 25 → rTwo m c = true → f 53 (2 * c) = (G c).1 ∧ f 53 (2 * c + 1) = (G c).2) {u v : Nat} (hu : u < m) (hv : v < m) (k1 : rRest G u v m = true → Q (some (zi 1)) σ f g) (k2 : rRest G u v m = false → Q (some (zi 0)) σ f g) : ZCt d 108 [zr (some 0), zi (u : Int), zi (v : Int)] σ f g Q := by
  refine ZCt.of' (L0 := [_, _, _, _, _]) (by omega) rfl rfl rfl (fun d hd1 => ?_)
  refine r_iload_n rfl rfl ?_
  refine r_iload_n rfl rfl ?_
  refine r_callS2 rfl rfl rfl (k_gainAt (u := u) (v := v) (by omega) ?_)
  refine r_istore_n (L' := [_, _, _, _, _]) rfl rfl rfl ?_
  refine r_iconst rfl ?_
  refine r_istore (L' := [_, _, _, _, _]) rfl rfl rfl ?_
  exact l_isRest (by omega) hs gp po hpc hm hm5 hG htab hu hv k1 k2 0 (by omega) rfl
theorem l_rsC (hd1 : 2 ≤ d) (hs : Sh σ g) (gp : g 0 4 = some p) (po : PO σ g p) (hpc : PC f p pl) {m : Nat} (hm : pl.2.1 = (m : Int)) (hm5 : m ≤ 5) {G : Nat → Int × Int} (hG : ∀ c, -1 ≤ (G c).1 ∧ (G c).1 ≤ 100 ∧ -1 ≤ (G c).2 ∧ (G c).2 ≤ 100) (htab : ∀ c, c < 25 → rTwo m c = true → f 53 (2 * c) = (G c).1 ∧ f 53 (2 * c + 1) = (G c).2)  {x y n w : Int} (K : ∀ z, ZWp d zt104 138 [zr (some 0), zi x, zi y, zi n, zi w, zi ((rCL m G (m * m)).length : Int), zi (hdI (rCL m G (m * m))), z] [] σ f g Q) (k : Nat) (hk : k ≤ m * m) : ZWp d zt104 68 [zr (some 0), zi x, zi y, zi n, zi w, zi ((rCL m G k).length : Int), zi (hdI (rCL m G k)), zi (k : Int)] [] σ f g Q := by
  refine r_iload rfl rfl ?_
  refine r_aload_n rfl rfl ?_
  refine r_getR rfl (by first | assumption | exact hs.o rfl) gp ?_
  refine r_getI rfl po.1 (hpc.2.1.trans hm) ?_
  refine r_aload_n rfl rfl ?_
  refine r_getR rfl (by first | assumption | exact hs.o rfl) gp ?_
  refine r_getI rfl po.1 (hpc.2.1.trans hm) ?_
  refine r_imul rfl ?_
  rw [show (m : Int) * (m : Int) = ((m * m : Nat) : Int) by rw [Int.natCast_mul]]
  have hmm : m * m ≤ 25 := Nat.mul_le_mul hm5 hm5
  refine r_icmp_ge rfl (by omega) (by omega) (fun hge => ?_) (fun hge => ?_)
  · have e : k = m * m := by omega
    subst e
    exact K _
  · refine r_aload_n rfl rfl ?_
    refine r_iload rfl rfl ?_
    refine r_aload_n rfl rfl ?_
    refine r_getR rfl (by first | assumption | exact hs.o rfl) gp ?_
    refine r_getI rfl po.1 (hpc.2.1.trans hm) ?_
    have hm0 : 0 < m := by
      cases m with
      | zero => omega
      | succ m => omega
    have hdm : k / m < m := Nat.div_lt_of_lt_mul (by omega)
    have hmm2 := Nat.mod_lt k hm0
    refine r_idiv rfl (by omega) (by omega) (by omega) ?_
    refine r_iload rfl rfl ?_
    refine r_aload_n rfl rfl ?_
    refine r_getR rfl (by first | assumption | exact hs.o rfl) gp ?_
    refine r_getI rfl po.1 (hpc.2.1.trans hm) ?_
    refine r_irem rfl (by omega) (by omega) (by omega) ?_
    rw [show ((k : Nat) : Int).tdiv (m : Int) = ((k / m : Nat) : Int) from rfl, show ((k : Nat) : Int).tmod (m : Int) = ((k % m : Nat) : Int) from rfl]
    refine r_callV2 rfl rfl (by first | assumption | exact hs.o rfl) rfl (k_isRest (u := k / m) (v := k % m) (by omega) hs gp po hpc hm hm5 hG htab hdm hmm2 (fun hre => ?_) (fun hre => ?_))
    · refine r_if_n rfl (by decide) ?_
      refine r_iload rfl rfl ?_
      have hlen : (rCL m G k).length ≤ k := by have := List.length_filter_le (fun t => rRest G (t / m) (t % m) m) (List.range k); rw [List.length_range] at this; exact this
      refine r_if_ne rfl (by omega) (fun hmany => ?_) (fun hmany => ?_)
      · refine r_iload rfl rfl ?_
        refine r_istore (L' := [_, _, _, _, _, _, _, _]) rfl rfl rfl ?_
        refine r_iinc (L' := [_, _, _, _, _, _, _, _]) rfl rfl rfl ?_
        refine r_iinc (L' := [_, _, _, _, _, _, _, _]) rfl rfl rfl ?_
        refine r_goto rfl ?_
        first
        | (have e1 := rCL_n hre; have := l_rsC hd1 hs gp po hpc hm hm5 hG htab K (k + 1) (by omega); rw [e1] at this; exact this)
        | (have e1 := rCL_y hre; have := l_rsC hd1 hs gp po hpc hm hm5 hG htab K (k + 1) (by omega); rw [e1, hdI_app, List.length_append, if_pos hmany] at this; exact this)
        | (have e1 := rCL_y hre; have := l_rsC hd1 hs gp po hpc hm hm5 hG htab K (k + 1) (by omega); rw [e1, hdI_app, List.length_append, if_neg hmany] at this; exact this)
      · refine r_iload rfl rfl ?_
        refine r_goto rfl ?_
        refine r_istore (L' := [_, _, _, _, _, _, _, _]) rfl rfl rfl ?_
        refine r_iinc (L' := [_, _, _, _, _, _, _, _]) rfl rfl rfl ?_
        refine r_iinc (L' := [_, _, _, _, _, _, _, _]) rfl rfl rfl ?_
        refine r_goto rfl ?_
        first
        | (have e1 := rCL_n hre; have := l_rsC hd1 hs gp po hpc hm hm5 hG htab K (k + 1) (by omega); rw [e1] at this; exact this)
        | (have e1 := rCL_y hre; have := l_rsC hd1 hs gp po hpc hm hm5 hG htab K (k + 1) (by omega); rw [e1, hdI_app, List.length_append, if_pos hmany] at this; exact this)
        | (have e1 := rCL_y hre; have := l_rsC hd1 hs gp po hpc hm hm5 hG htab K (k + 1) (by omega); rw [e1, hdI_app, List.length_append, if_neg hmany] at this; exact this)
    · refine r_if_y rfl (by decide) ?_
      refine r_iinc (L' := [_, _, _, _, _, _, _, _]) rfl rfl rfl ?_
      refine r_goto rfl ?_
      first
      | (have e1 := rCL_n hre; have := l_rsC hd1 hs gp po hpc hm hm5 hG htab K (k + 1) (by omega); rw [e1] at this; exact this)
      | (have e1 := rCL_y hre; have := l_rsC hd1 hs gp po hpc hm hm5 hG htab K (k + 1) (by omega); rw [e1, hdI_app, List.length_append, if_pos hmany] at this; exact this)
      | (have e1 := rCL_y hre; have := l_rsC hd1 hs gp po hpc hm hm5 hG htab K (k + 1) (by omega); rw [e1, hdI_app, List.length_append, if_neg hmany] at this; exact this)
termination_by m * m - k
theorem rG_rng {x y n : Nat} (hn : n ≤ 20) (c : Nat) : -1 ≤ (rG pl al rd x y n c).1 ∧ (rG pl al rd x y n c).1 ≤ 100 ∧ -1 ≤ (rG pl al rd x y n c).2 ∧ (rG pl al rd x y n c).2 ≤ 100 := by
  have h1 := gn_rng (pl := pl) (al := al) (rd := rWi rd x y (c / 5) (c % 5)) (c := x) n hn
  have h2 := gn_rng (pl := pl) (al := al) (rd := rWi rd x y (c / 5) (c % 5)) (c := y) n hn
  unfold rG
  simp only
  omega
theorem k_rests (hd : 9 ≤ d) (hI : CI σ f g a) (hA : AOk N a) {x y n w : Int} (hxi : IR x) (hyi : IR y) (hni : IR n) (hwi : IR w) (K : ∀ f' g', FrQ f f' → FrG g g' → Q (some (zi (qRest a x y n w))) σ f' g') : ZCt d 104 [zr (some 0), zi x, zi y, zi n, zi w] σ f g Q := by
  refine ZCt.of' (L0 := [_, _, _, _, _, _, _, _]) (by omega) rfl rfl rfl (fun d hd1 => ?_)
  have hs := hI.sh
  refine r_aload_n rfl rfl ?_
  refine r_iload_n rfl rfl ?_
  refine r_callV1 rfl rfl (by first | assumption | exact hs.o rfl) rfl (k_isOn (by omega) hI hA hxi (fun x' hxk hx6 hx0 => ?_) (fun hoffx => ?_))
  · refine r_if_n rfl (by decide) ?_
    refine r_aload_n rfl rfl ?_
    refine r_iload_n rfl rfl ?_
    refine r_callV1 rfl rfl (by first | assumption | exact hs.o rfl) rfl (k_isOn (by omega) hI hA hyi (fun y' hyk hy6 hy0 => ?_) (fun hoffy => ?_))
    · refine r_if_n rfl (by decide) ?_
      refine r_iload_n rfl rfl ?_
      refine r_iload_n rfl rfl ?_
      refine r_icmp_ne rfl (by omega) (by omega) (fun hxy => ?_) (fun hxy => ?_)
      · refine r_aload_n rfl rfl ?_
        obtain ⟨pl, rd0, hp⟩ := hA.onPl hx6 (by omega)
        obtain ⟨p0, gp0, p240, po, hpc, hrc⟩ := hI.plS hp
        obtain ⟨hplo, hvr, hst⟩ := hA.plS hp
        have hp2 := hplo.2.1
        refine r_getR rfl (by first | assumption | exact hs.o rfl) gp0 ?_
        refine r_ifnullS rfl ?_
        refine r_iload_n rfl rfl ?_
        refine r_iconst rfl ?_
        refine r_bipush rfl ?_
        refine r_callS3 rfl rfl rfl (k_within (by omega) hni (by omega) (by omega) (fun hn => ?_) (fun hn => ?_))
        · refine r_if_n rfl (by decide) ?_
          refine r_iload rfl rfl ?_
          refine r_iconst rfl ?_
          refine r_iconst rfl ?_
          refine r_callS3 rfl rfl rfl (k_within (by omega) hwi (by omega) (by omega) (fun hw => ?_) (fun hw => ?_))
          · refine r_if_y rfl (by decide) ?_
            refine r_aload_n rfl rfl ?_
            refine r_iload_n rfl rfl ?_
            refine r_iload_n rfl rfl ?_
            refine r_iload_n rfl rfl ?_
            subst hxk
            subst hyk
            obtain ⟨nn, rfl⟩ := Int.eq_ofNat_of_zero_le (show 0 ≤ n by omega)
            refine r_callV3 rfl rfl (by first | assumption | exact hs.o rfl) rfl (k_fillTable (n := nn) (x := x') (y := y') (by omega) hI hA hp (by omega) ⟨hx6, hx0⟩ ⟨hy6, hy0⟩ (fun f1 g1 hf1 hg1 htab => ?_))
            refine r_iconst rfl ?_
            refine r_istore (L' := [_, _, _, _, _, _, _, _]) rfl rfl rfl ?_
            refine r_iconst rfl ?_
            refine r_istore (L' := [_, _, _, _, _, _, _, _]) rfl rfl rfl ?_
            refine r_iconst rfl ?_
            refine r_istore (L' := [_, _, _, _, _, _, _, _]) rfl rfl rfl ?_
            have hI1 := hI.fr hf1 hg1
            have hs1 := hI1.sh
            obtain ⟨p1, gp1, p2401, po1, hpc1, hrc1⟩ := hI1.plS hp
            have hm : pl.2.1 = ((pl.2.1.toNat : Nat) : Int) := by omega
            rw [qRest_yes hp (by omega)] at K
            have hmm : pl.2.1.toNat * pl.2.1.toNat ≤ 25 := Nat.mul_le_mul (show pl.2.1.toNat ≤ 5 by omega) (show pl.2.1.toNat ≤ 5 by omega)
            refine l_rsC (m := pl.2.1.toNat) (by omega) hs1 gp1 po1 hpc1 hm (by omega) (rG_rng (by omega)) htab (fun z => ?_) 0 (by omega)
            rw [rRL_eq (by omega)] at K
            have hlen : (rCL pl.2.1.toNat (rG pl (AL a a.fo pl) a.w.rd x' y' nn) (pl.2.1.toNat * pl.2.1.toNat)).length ≤ pl.2.1.toNat * pl.2.1.toNat := by
              have := List.length_filter_le (fun t => rRest (rG pl (AL a a.fo pl) a.w.rd x' y' nn) (t / pl.2.1.toNat) (t % pl.2.1.toNat) pl.2.1.toNat) (List.range (pl.2.1.toNat * pl.2.1.toNat))
              rw [List.length_range] at this
              exact this
            cases hl : rCL pl.2.1.toNat (rG pl (AL a a.fo pl) a.w.rd x' y' nn) (pl.2.1.toNat * pl.2.1.toNat) with
            | nil =>
              rw [hl] at K hlen
              refine r_iload rfl rfl ?_
              refine r_if_ne rfl (by omega) (fun hw0 => ?_) (fun hw0 => ?_)
              · refine r_iload rfl rfl ?_
                refine r_iconst rfl ?_
                refine r_icmp_n rfl (by decide) ?_
                refine r_bipush rfl ?_
                refine r_iret rfl ?_
                first | (rw [show rRV w (List.map (rCd pl.2.1.toNat) []) = 0 from if_pos (by omega)] at K; exact K f1 g1 hf1 hg1) | (rw [show rRV w (List.map (rCd pl.2.1.toNat) []) = -2 from if_neg (by omega)] at K; exact K f1 g1 hf1 hg1)
              · refine r_iload rfl rfl ?_
                refine r_iret rfl ?_
                first | (rw [show rRV w (List.map (rCd pl.2.1.toNat) []) = 0 from if_pos (by omega)] at K; exact K f1 g1 hf1 hg1) | (rw [show rRV w (List.map (rCd pl.2.1.toNat) []) = -2 from if_neg (by omega)] at K; exact K f1 g1 hf1 hg1)
            | cons t r =>
              have ht := rCL_mem hl
              have hcd := rCd_dm (m := pl.2.1.toNat) (by omega) ht
              have hm0 : 0 < pl.2.1.toNat := by
                generalize pl.2.1.toNat = q at ht
                cases q with
                | zero => omega
                | succ q => omega
              rw [hl] at K hlen
              refine r_iload rfl rfl ?_
              refine r_if_ne rfl (by omega) (fun hw0 => ?_) (fun hw0 => ?_)
              · refine r_iload rfl rfl ?_
                refine r_iconst rfl ?_
                refine r_icmp_ne rfl (by simp only [hdI]; omega) (by omega) (fun hneg => ?_) (fun hneg => ?_)
                · refine r_iload rfl rfl ?_
                  refine r_iconst rfl ?_
                  refine r_icmp_ne rfl (by omega) (by omega) (fun hw1 => ?_) (fun hw1 => ?_)
                  · refine r_iload rfl rfl ?_
                    refine r_aload_n rfl rfl ?_
                    refine r_getR rfl (by first | assumption | exact hs.o rfl) gp1 ?_
                    refine r_getI rfl po1.1 (hpc1.2.1.trans hm) ?_
                    refine r_irem rfl (by simp only [hdI]; omega) (by omega) (by omega) ?_
                    refine r_iret rfl ?_
                    first
                    | (rw [show rRV w (List.map (rCd pl.2.1.toNat) (t :: r)) = ((t :: r).length : Int) from (if_pos (by omega)).trans (by rw [List.length_map])] at K; exact K f1 g1 hf1 hg1)
                    | (have ev : rRV w (List.map (rCd pl.2.1.toNat) (t :: r)) = ((t / pl.2.1.toNat : Nat) : Int) := (if_neg (by omega)).trans ((if_pos (by omega)).trans (by rw [hcd.1])); rw [ev] at K; exact K f1 g1 hf1 hg1)
                    | (have ev : rRV w (List.map (rCd pl.2.1.toNat) (t :: r)) = ((t % pl.2.1.toNat : Nat) : Int) := (if_neg (by omega)).trans ((if_neg (by omega)).trans (by rw [hcd.2])); rw [ev] at K; exact K f1 g1 hf1 hg1)
                  · refine r_iload rfl rfl ?_
                    refine r_aload_n rfl rfl ?_
                    refine r_getR rfl (by first | assumption | exact hs.o rfl) gp1 ?_
                    refine r_getI rfl po1.1 (hpc1.2.1.trans hm) ?_
                    refine r_idiv rfl (by simp only [hdI]; omega) (by omega) (by omega) ?_
                    refine r_goto rfl ?_
                    refine r_iret rfl ?_
                    first
                    | (rw [show rRV w (List.map (rCd pl.2.1.toNat) (t :: r)) = ((t :: r).length : Int) from (if_pos (by omega)).trans (by rw [List.length_map])] at K; exact K f1 g1 hf1 hg1)
                    | (have ev : rRV w (List.map (rCd pl.2.1.toNat) (t :: r)) = ((t / pl.2.1.toNat : Nat) : Int) := (if_neg (by omega)).trans ((if_pos (by omega)).trans (by rw [hcd.1])); rw [ev] at K; exact K f1 g1 hf1 hg1)
                    | (have ev : rRV w (List.map (rCd pl.2.1.toNat) (t :: r)) = ((t % pl.2.1.toNat : Nat) : Int) := (if_neg (by omega)).trans ((if_neg (by omega)).trans (by rw [hcd.2])); rw [ev] at K; exact K f1 g1 hf1 hg1)
                · exfalso; simp only [hdI] at hneg; omega
              · refine r_iload rfl rfl ?_
                refine r_iret rfl ?_
                first
                | (rw [show rRV w (List.map (rCd pl.2.1.toNat) (t :: r)) = ((t :: r).length : Int) from (if_pos (by omega)).trans (by rw [List.length_map])] at K; exact K f1 g1 hf1 hg1)
                | (have ev : rRV w (List.map (rCd pl.2.1.toNat) (t :: r)) = ((t / pl.2.1.toNat : Nat) : Int) := (if_neg (by omega)).trans ((if_pos (by omega)).trans (by rw [hcd.1])); rw [ev] at K; exact K f1 g1 hf1 hg1)
                | (have ev : rRV w (List.map (rCd pl.2.1.toNat) (t :: r)) = ((t % pl.2.1.toNat : Nat) : Int) := (if_neg (by omega)).trans ((if_neg (by omega)).trans (by rw [hcd.2])); rw [ev] at K; exact K f1 g1 hf1 hg1)
          · refine r_if_n rfl (by decide) ?_
            refine r_iconst rfl ?_
            refine r_iret rfl ?_
            first
            | (rw [qRest_no (Or.inr (fun q => q.1.2.2 (hoffx x.toNat (by omega) (by omega))))] at K; exact K f g (FrQ.rf f) (FrG.rf g))
            | (rw [qRest_no (Or.inr (fun q => q.2.1.2.2 (hoffy y.toNat (by omega) (by omega))))] at K; exact K f g (FrQ.rf f) (FrG.rf g))
            | (rw [qRest_no (Or.inr (fun q => by have q1 := q.2.2.1; have q2 := q.2.2.2.1; have q3 := q.2.2.2.2; omega))] at K; exact K f g (FrQ.rf f) (FrG.rf g))
        · refine r_if_y rfl (by decide) ?_
          refine r_iconst rfl ?_
          refine r_iret rfl ?_
          first
          | (rw [qRest_no (Or.inr (fun q => q.1.2.2 (hoffx x.toNat (by omega) (by omega))))] at K; exact K f g (FrQ.rf f) (FrG.rf g))
          | (rw [qRest_no (Or.inr (fun q => q.2.1.2.2 (hoffy y.toNat (by omega) (by omega))))] at K; exact K f g (FrQ.rf f) (FrG.rf g))
          | (rw [qRest_no (Or.inr (fun q => by have q1 := q.2.2.1; have q2 := q.2.2.2.1; have q3 := q.2.2.2.2; omega))] at K; exact K f g (FrQ.rf f) (FrG.rf g))
      · refine r_iconst rfl ?_
        refine r_iret rfl ?_
        first
        | (rw [qRest_no (Or.inr (fun q => q.1.2.2 (hoffx x.toNat (by omega) (by omega))))] at K; exact K f g (FrQ.rf f) (FrG.rf g))
        | (rw [qRest_no (Or.inr (fun q => q.2.1.2.2 (hoffy y.toNat (by omega) (by omega))))] at K; exact K f g (FrQ.rf f) (FrG.rf g))
        | (rw [qRest_no (Or.inr (fun q => by have q1 := q.2.2.1; have q2 := q.2.2.2.1; have q3 := q.2.2.2.2; omega))] at K; exact K f g (FrQ.rf f) (FrG.rf g))
    · refine r_if_y rfl (by decide) ?_
      refine r_iconst rfl ?_
      refine r_iret rfl ?_
      first
      | (rw [qRest_no (Or.inr (fun q => q.1.2.2 (hoffx x.toNat (by omega) (by omega))))] at K; exact K f g (FrQ.rf f) (FrG.rf g))
      | (rw [qRest_no (Or.inr (fun q => q.2.1.2.2 (hoffy y.toNat (by omega) (by omega))))] at K; exact K f g (FrQ.rf f) (FrG.rf g))
      | (rw [qRest_no (Or.inr (fun q => by have q1 := q.2.2.1; have q2 := q.2.2.2.1; have q3 := q.2.2.2.2; omega))] at K; exact K f g (FrQ.rf f) (FrG.rf g))
  · refine r_if_y rfl (by decide) ?_
    refine r_iconst rfl ?_
    refine r_iret rfl ?_
    first
    | (rw [qRest_no (Or.inr (fun q => q.1.2.2 (hoffx x.toNat (by omega) (by omega))))] at K; exact K f g (FrQ.rf f) (FrG.rf g))
    | (rw [qRest_no (Or.inr (fun q => q.2.1.2.2 (hoffy y.toNat (by omega) (by omega))))] at K; exact K f g (FrQ.rf f) (FrG.rf g))
    | (rw [qRest_no (Or.inr (fun q => by have q1 := q.2.2.1; have q2 := q.2.2.2.1; have q3 := q.2.2.2.2; omega))] at K; exact K f g (FrQ.rf f) (FrG.rf g))
end RESTS
