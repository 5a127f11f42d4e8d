/-! Shows of drawn children -/
def drw (x : Int) : Int := (x * 1103515245 + 12345) % 2147483648
def drS (pl : Pl) (p : Int) (s : Int × Rd) : Int × Rd := if (drw s.1 / 65536) % 100 < p ∧ 0 < pl.2.1 then (drw (drw s.1), up2 s.2 4 ((drw (drw s.1) / 65536) % pl.2.1).toNat (if s.2 4 ((drw (drw s.1) / 65536) % pl.2.1).toNat < 99 then s.2 4 ((drw (drw s.1) / 65536) % pl.2.1).toNat + 1 else 99)) else (drw s.1, s.2)
def shI (pl : Pl) (al : Rd → Nat → Bool) (p : Int) (s : Int × Rd) : Nat → Int × Rd
  | 0 => s
  | k + 1 => ((drS pl p (shI pl al p s k)).1, (rStep pl al (-1) (drS pl p (shI pl al p s k)).2).1)
def shO (pl : Pl) (al : Rd → Nat → Bool) (p : Int) (n : Nat) (x : Int) (rd : Rd) : Nat → Int × Int × Int
  | 0 => (x, 0, 0)
  | y + 1 => ((shI pl al p ((shO pl al p n x rd y).1, rd) n).1, (shO pl al p n x rd y).2.1 + ((shI pl al p ((shO pl al p n x rd y).1, rd) n).2 5 1 - rd 5 1), (shO pl al p n x rd y).2.2 + rAllW (shI pl al p ((shO pl al p n x rd y).1, rd) n).2 5)
def qShows (a : AS) (m n p w : Int) : Int := match a.w.pn with
  | none => -1
  | some (pl, _) => if (1 ≤ m ∧ m ≤ 10) ∧ (1 ≤ n ∧ n ≤ 60) ∧ (0 ≤ p ∧ p ≤ 100) ∧ (0 ≤ w ∧ w ≤ 1) then (if w = 0 then (shO pl (AL a a.fo pl) p n.toNat a.x a.w.rd m.toNat).2.1 else (shO pl (AL a a.fo pl) p n.toNat a.x a.w.rd m.toNat).2.2) else -1
section SHOWS
variable {d : Nat} {σ : ZS} {f f0 f' : ZF} {g g' : ZG} {Q : ZQ} {N : Int} {rd rd' : Rd} {r p : Nat} {pl : Pl} {rd0 : Rd} {al : Rd → Nat → Bool} {cl : Int} {a : AS} {x : Int}
theorem drw_rng (x : Int) : 0 ≤ drw x ∧ drw x ≤ 2147483647 := by unfold drw; omega
theorem drw_d (x : Int) : 0 ≤ drw x / 65536 ∧ drw x / 65536 ≤ 32767 := by have := drw_rng x; omega
theorem drw_and {x : Int} (hx : 0 ≤ x ∧ x ≤ 2147483647) : z_land (x * 1103515245 + 12345) 2147483647 = drw x := by
  obtain ⟨n, rfl⟩ := Int.eq_ofNat_of_zero_le hx.1
  have e : ((n : Int) * 1103515245 + 12345) = ((n * 1103515245 + 12345 : Nat) : Int) := by omega
  unfold drw z_land
  rw [e]
  show ((Int64.ofInt ((n * 1103515245 + 12345 : Nat) : Int) &&& Int64.ofInt ((2147483647 : Nat) : Int)).toBitVec).toInt = _
  rw [Int64.toBitVec_and, bvl_of, bvl_of]
  have e2 : (BitVec.ofNat 64 (n * 1103515245 + 12345) &&& BitVec.ofNat 64 2147483647).toNat = (n * 1103515245 + 12345) % 2147483648 := by
    rw [BitVec.toNat_and, BitVec.toNat_ofNat, BitVec.toNat_ofNat, Nat.mod_eq_of_lt (by omega), Nat.mod_eq_of_lt (by omega)]
    exact Nat.and_two_pow_sub_one_eq_mod _ 31
  rw [bvl_toInt (by rw [e2]; omega), e2]
  omega
theorem drw_mod {x : Int} (hx : 0 ≤ x ∧ x ≤ 2147483647) : z_lrem (x * 1103515245 + 12345) 2147483648 = drw x := by
  unfold z_lrem drw
  rw [wl_id (by omega), wl_id (by omega), Int.tmod_eq_emod_of_nonneg (by omega)]
theorem drS_n {p : Int} (h : ¬ ((drw x / 65536) % 100 < p ∧ 0 < pl.2.1)) : drS pl p (x, rd) = (drw x, rd) := if_neg h
theorem drS_y {p : Int} (h : (drw x / 65536) % 100 < p ∧ 0 < pl.2.1) : drS pl p (x, rd) = (drw (drw x), up2 rd 4 ((drw (drw x) / 65536) % pl.2.1).toNat (if rd 4 ((drw (drw x) / 65536) % pl.2.1).toNat < 99 then rd 4 ((drw (drw x) / 65536) % pl.2.1).toNat + 1 else 99)) := if_pos h
theorem drS_x {p : Int} {s : Int × Rd} : 0 ≤ (drS pl p s).1 ∧ (drS pl p s).1 ≤ 2147483647 := by
  unfold drS
  split
  · exact drw_rng _
  · exact drw_rng _
theorem shI_x {p : Int} {s : Int × Rd} (hs : 0 ≤ s.1 ∧ s.1 ≤ 2147483647) : ∀ k, 0 ≤ (shI pl al p s k).1 ∧ (shI pl al p s k).1 ≤ 2147483647 := by
  intro k
  cases k with
  | zero => exact hs
  | succ k => exact drS_x
theorem VS.w {j : Nat} {v : Int} (h : VS pl N (-1) rd) (hj : j < 5) (hv : 0 ≤ v ∧ v ≤ 99) (hr : (j : Int) < pl.2.1) : VS pl N (-1) (up2 rd 4 j v) := by
  obtain ⟨h1, h2, h3, h4⟩ := h
  refine ⟨h1.w hj hv, h2.same (fun i _ => by simp [up2]), fun i hi => by omega, fun i hi => ?_⟩
  have e : i ≠ j := by omega
  simpa [up2, e] using h4 i hi
theorem VS.dr {p : Int} {s : Int × Rd} (hp : PlOk pl) (h : VS pl N (-1) s.2) : VS pl N (-1) (drS pl p s).2 := by
  unfold drS
  split
  · rename_i q
    have h2 := hp.2.1
    have hm := Int.emod_nonneg (drw (drw s.1) / 65536) (show pl.2.1 ≠ 0 by omega)
    have hm2 := Int.emod_lt_of_pos (drw (drw s.1) / 65536) q.2
    have hw := h.1.2.2.2.1 ((drw (drw s.1) / 65536) % pl.2.1).toNat (by omega)
    refine h.w (by omega) ?_ (by omega)
    split <;> omega
  · exact h
theorem VS.sh {p : Int} {s : Int × Rd} (hp : PlOk pl) (h : VS pl N (-1) s.2) : ∀ k : Nat, N + 7 * (k : Int) ≤ 1000000 → VS pl (N + 7 * (k : Int)) (-1) (shI pl al p s k).2 := by
  intro k
  induction k with
  | zero => intro _; simpa [shI] using h
  | succ k ih =>
    intro hN
    have := ((ih (by omega)).dr (p := p) hp).step (al := al) hp (by omega)
    rw [show N + 7 * ((k + 1 : Nat) : Int) = N + 7 * (k : Int) + 7 by omega]
    exact this
/-- as many bits as go off -/
theorem rCars_g : ∀ k, k ≤ 6 → (rCars pl al rd k).1 5 1 = rd 5 1 + cnt (fun i => decide (i < k) && (rCar pl al (rCars pl al rd i).1 i).2.1) 20 := by
  intro k
  induction k with
  | zero =>
    intro _
    have : cnt (fun i => decide (i < 0) && (rCar pl al (rCars pl al rd i).1 i).2.1) 20 = cnt (fun _ => false) 20 := cnt_congr 20 (fun i _ => by simp)
    rw [this]
    simp [rCars, cnt]
  | succ k ih =>
    intro hk
    have h1 := ih (by omega)
    simp only [rCars]
    have hg : (rCar pl al (rCars pl al rd k).1 k).1 5 1 = (rCars pl al rd k).1 5 1 + (if (rCar pl al (rCars pl al rd k).1 k).2.1 = true then 1 else 0) := by
      unfold rCar
      split
      · simp
      · split
        · split
          · simp [rOff, up2]
          · split
            · simp [rAge, rGo, up2]
            · simp [rAge, up2]
        · simp [rAge, up2]
    rw [hg, h1]
    cases e : (rCar pl al (rCars pl al rd k).1 k).2.1 with
    | true =>
      have hc := cnt_add (p := fun i => decide (i < k) && (rCar pl al (rCars pl al rd i).1 i).2.1) (c := k) (by simp) 20
      rw [if_pos (by omega)] at hc
      have : cnt (fun i => decide (i < k + 1) && (rCar pl al (rCars pl al rd i).1 i).2.1) 20 = cnt (fun i => (decide (i < k) && (rCar pl al (rCars pl al rd i).1 i).2.1) || i == k) 20 := cnt_congr 20 (fun i _ => by
        by_cases q : i = k
        · subst q; simp [e]
        · have q' : (i == k) = false := by simp [q]
          have : decide (i < k) = decide (i < k + 1) := decide_eq_decide.2 (by omega)
          rw [q', Bool.or_false, this])
      rw [this, hc]
      simp only [if_true]
      omega
    | false =>
      have : cnt (fun i => decide (i < k + 1) && (rCar pl al (rCars pl al rd i).1 i).2.1) 20 = cnt (fun i => decide (i < k) && (rCar pl al (rCars pl al rd i).1 i).2.1) 20 := cnt_congr 20 (fun i _ => by
        by_cases q : i = k
        · subst q; simp [e]
        · have : decide (i < k) = decide (i < k + 1) := decide_eq_decide.2 (by omega)
          rw [this])
      rw [this]
      simp
theorem rRoads_g (j : Nat) : (rRoads pl cl rd j).1 5 1 = rd 5 1 := by
  induction j with
  | zero => rfl
  | succ j ih =>
    simp only [rRoads]
    rw [← ih]
    have hw : rWait pl cl (rRoads pl cl rd j).1 j 5 1 = (rRoads pl cl rd j).1 5 1 := by
      unfold rWait
      split
      · simp [up2]
      · rfl
    unfold rCome
    split
    · exact hw
    · simp [up2, rOn, hw]
theorem rStep_g : (rStep pl al cl rd).1 5 1 = rd 5 1 + cnt (fun i => decide (i < 6) && (rCar pl al (rCars pl al rd i).1 i).2.1) 20 := by
  have : (rStep pl al cl rd).1 5 1 = (rRoads pl cl (rCars pl al rd 6).1 pl.2.1.toNat).1 5 1 := by simp [rStep, up2]
  rw [this, rRoads_g, rCars_g 6 (Nat.le_refl 6)]
theorem drS_g {p : Int} {s : Int × Rd} : (drS pl p s).2 5 1 = s.2 5 1 := by
  unfold drS
  split
  · simp [up2]
  · rfl
theorem rAllW_rng (h : ∀ j, j < 5 → 0 ≤ rd 4 j ∧ rd 4 j ≤ 99) : ∀ k : Nat, k ≤ 5 → 0 ≤ rAllW rd k ∧ rAllW rd k ≤ 99 * (k : Int) := by
  intro k
  induction k with
  | zero => intro _; simp [rAllW]
  | succ k ih =>
    intro hk
    have h1 := ih (by omega)
    have h2 := h k (by omega)
    simp only [rAllW]
    omega
theorem qShows_no {m n p w : Int} (h : a.w.pn = none ∨ ¬ ((1 ≤ m ∧ m ≤ 10) ∧ (1 ≤ n ∧ n ≤ 60) ∧ (0 ≤ p ∧ p ≤ 100) ∧ (0 ≤ w ∧ w ≤ 1))) : qShows a m n p w = -1 := by
  unfold qShows
  cases hp : a.w.pn with
  | none => rfl
  | some z => exact if_neg (by rcases h with h | h; rw [hp] at h; cases h; exact h)
theorem qShows_yes {m n : Nat} {p w : Int} (hp : a.w.pn = some (pl, rd0)) (h : (1 ≤ m ∧ m ≤ 10) ∧ (1 ≤ n ∧ n ≤ 60) ∧ (0 ≤ p ∧ p ≤ 100) ∧ (0 ≤ w ∧ w ≤ 1)) : qShows a (m : Int) (n : Int) p w = (if w = 0 then (shO pl (AL a a.fo pl) p n a.x a.w.rd m).2.1 else (shO pl (AL a a.fo pl) p n a.x a.w.rd m).2.2) := by
  unfold qShows
  rw [hp]
  simp only
  rw [if_pos (by omega), Int.toNat_natCast, Int.toNat_natCast]
theorem shO_x {p : Int} {n : Nat} (hx : 0 ≤ x ∧ x ≤ 2147483647) : ∀ y, 0 ≤ (shO pl al p n x rd y).1 ∧ (shO pl al p n x rd y).1 ≤ 2147483647 := by
  intro y
  induction y with
  | zero => exact hx
  | succ y ih => exact shI_x ih n
/-- what a show of the class may change -/
def FrS (f f' : ZF) : Prop := (∀ c, c ≠ 0 → (c < 13 ∨ 54 < c) → f' c = f c) ∧ ∀ i, i ≠ 7 → f' 0 i = f 0 i
theorem FrS.q {f0 f f' : ZF} (h : FrS f0 f) (h' : FrQ f f') : FrS f0 f' := ⟨fun c q1 q2 => (h' c q2).trans (h.1 c q1 q2), fun i q => (congrFun (h' 0 (by omega)) i).trans (h.2 i q)⟩
theorem FrS.sX0 {f0 f : ZF} {v : Int} (h : FrS f0 f) : FrS f0 (up2 f 0 7 v) := ⟨fun c q1 q2 => (up2_o _ _ q1).trans (h.1 c q1 q2), fun i q => (up2_ne _ _ (fun z => q z.2)).trans (h.2 i q)⟩
theorem FrS.end {f0 f : ZF} {v : Int} (h : FrS f0 f) (hv : f0 0 7 = v) : FrQ f0 (up2 f 0 7 v) := by
  intro c q
  by_cases e : c = 0
  · subst e
    funext i
    by_cases e2 : i = 7
    · subst e2; rw [up2_same]; exact hv.symm
    · rw [up2_ne _ _ (fun z => e2 z.2)]; exact h.2 i e2
  · rw [up2_o _ _ e]; exact h.1 c e q
theorem CI.sx (hI : CI σ f0 g a) (h : FrS f0 f) (hg : FrG g g') (h7 : f 0 7 = x) : CI σ f g' (a.sX x) := by
  have h1 : CI σ (up2 f0 0 7 x) g (a.sX x) := hI.c0 (b := a.sX x) ⟨rfl, rfl, rfl, rfl, rfl, Nat.le_refl _⟩ (fun c q1 q2 => up2_o _ _ q1) (up2_ne _ _ (by omega)) (up2_ne _ _ (by omega)) ((up2_ne _ _ (by omega)).trans hI.tl) (by rw [up2_o _ _ (by omega)]; exact hI.tp) (fun i hi => by rw [up2_o _ _ (by omega)]; exact hI.tq i hi) ((up2_ne _ _ (by omega)).trans hI.fo) (up2_same _ _ _ _) ((up2_ne _ _ (by omega)).trans hI.uc)
  refine h1.fr (fun c q => ?_) hg
  by_cases e : c = 0
  · subst e
    funext i
    by_cases e2 : i = 7
    · subst e2; rw [up2_same]; exact h7
    · rw [up2_ne _ _ (fun z => e2 z.2)]; exact h.2 i e2
  · rw [up2_o _ _ e]; exact h.1 c e q
theorem AOk.sx (hA : AOk N a) (hx : 0 ≤ x ∧ x ≤ 2147483647) : AOk N (a.sX x) := ⟨hA.1, hA.2.1, hA.2.2.1, hA.2.2.2.1, hx, hA.2.2.2.2.2⟩
theorem rr0 : RrOk 0 := by unfold RrOk; omega
theorem TR.sX0 {v : Int} (h : TR σ f g p pl al cl) : TR σ (up2 f 0 7 v) g p pl al cl := h.fr rr0 ((FrC.rf 0 f).up rr0 (by omega))
theorem k_draw (hd : 1 ≤ d) (hs : Sh σ g) (hx : f 0 7 = x) (h01 : 0 ≤ x ∧ x ≤ 2147483647) (K : Q (some (zi (drw x / 65536))) σ (up2 f 0 7 (drw x)) g) : ZCt d 128 [zr (some 0)] σ f g Q := by
  refine ZCt.of' (L0 := [_]) (by omega) rfl rfl rfl (fun d hd1 => ?_)
  refine r_aload_n rfl rfl ?_
  refine r_aload_n rfl rfl ?_
  refine r_getI rfl (by first | assumption | exact hs.o rfl) hx ?_
  refine r_i2l rfl (by omega) ?_
  refine r_ldc2 rfl ?_
  refine r_lmul rfl ?_
  refine r_ldc2 rfl ?_
  refine r_ladd rfl ?_
  refine r_ldc2 rfl ?_
  refine r_land rfl ?_
  rw [drw_and h01]
  have hdr := drw_rng x
  refine r_l2i rfl ?_
  refine r_putI rfl (by first | assumption | exact hs.o rfl) ?_
  refine r_aload_n rfl rfl ?_
  refine r_getI rfl (by first | assumption | exact hs.o rfl) (up2_same _ _ _ _) ?_
  refine r_ldc_w rfl ?_
  refine r_idiv rfl (by omega) (by omega) (by omega) ?_
  refine r_iret rfl ?_
  rw [Int.tdiv_eq_ediv_of_nonneg (by omega)]
  exact K
def FrSx (f f' : ZF) : Prop := (∀ c, c ≠ 0 → (c < 47 ∨ 52 < c) → f' c = f c) ∧ ∀ i, i ≠ 7 → f' 0 i = f 0 i
theorem k_drawW (hd : 2 ≤ d) (hs : Sh σ g) (gp : g 0 4 = some p) (hx : f 0 7 = x) (h01 : 0 ≤ x ∧ x ≤ 2147483647) (ht : TR σ f g p pl al (-1)) (hrc : RC f 47 rd) (hr : ∀ j, j < 5 → 0 ≤ rd 4 j ∧ rd 4 j ≤ 99) {pp : Int} (hpp : 0 ≤ pp ∧ pp ≤ 100) (K : ∀ f', FrSx f f' → f' 0 7 = (drS pl pp (x, rd)).1 → RC f' 47 (drS pl pp (x, rd)).2 → TR σ f' g p pl al (-1) → Q none σ f' g) : ZCt d 127 [zr (some 0), zr (some 47), zi pp] σ f g Q := by
  refine ZCt.of' (L0 := [_, _, _, _, _]) (by omega) rfl rfl rfl (fun d hd1 => ?_)
  have po := ht.1.po
  have p240 := ht.1.p240
  have hpc := ht.2.1
  have hp2 := ht.2.2.1.2.1
  obtain ⟨oo, ⟨a1, a2, a3, a4, a5⟩, g0, g1, g2, g3, g4⟩ := hs.r47
  refine r_aload_n rfl rfl ?_
  refine r_callV0 rfl rfl (by first | assumption | exact hs.o rfl) rfl (k_draw (by omega) hs hx h01 ?_)
  have hdd := drw_d x
  have hd2 := drw_d (drw x)
  have hdr := drw_rng x
  have hdr2 := drw_rng (drw x)
  refine r_bipush rfl ?_
  refine r_irem rfl (by omega) (by omega) (by omega) ?_
  refine r_istore_n (L' := [_, _, _, _, _]) rfl rfl rfl ?_
  rw [Int.tmod_eq_emod_of_nonneg (by omega)]
  refine r_iload_n rfl rfl ?_
  refine r_iload_n rfl rfl ?_
  refine r_icmp_ge rfl (by omega) (by omega) (fun hge => ?_) (fun hge => ?_)
  · refine r_ret rfl ?_
    first
    | (have e1 : drS pl pp (x, rd) = (drw x, rd) := drS_n (by omega)
       rw [e1] at K
       exact K _ ⟨fun c q1 q2 => up2_o _ _ q1, fun i q => up2_ne _ _ (fun z => q z.2)⟩ (up2_same _ _ _ _) (hrc.fr (fun c q1 q2 => up2_o _ _ (by omega))) ht.sX0)
    | (have e1 := drS_y (pl := pl) (rd := rd) (x := x) (p := pp) (by omega)
       have e2 : (if (99 : Int) ≤ rd 4 ((drw (drw x) / 65536) % pl.2.1).toNat + 1 then 99 else rd 4 ((drw (drw x) / 65536) % pl.2.1).toNat + 1) = (if rd 4 ((drw (drw x) / 65536) % pl.2.1).toNat < 99 then rd 4 ((drw (drw x) / 65536) % pl.2.1).toNat + 1 else 99) := by split <;> split <;> omega
       rw [e1] at K
       rw [e2]
       refine K _ ⟨fun c q1 q2 => ?_, fun i q => ?_⟩ ?_ ?_ ?_
       · rw [up2_o _ _ (by omega), up2_o _ _ q1, up2_o _ _ q1]
       · rw [up2_o _ _ (by omega), up2_ne _ _ (fun z => q z.2), up2_ne _ _ (fun z => q z.2)]
       · rw [up2_o _ _ (by omega), up2_same]
       · exact RC.w (hrc.fr (fun c q1 q2 => by rw [up2_o _ _ (by omega), up2_o _ _ (by omega)])) (by omega)
       · exact (ht.sX0.sX0).fr rr47 ((FrC.rf 47 _).up rr47 (by omega)))
  · refine r_aload_n rfl rfl ?_
    refine r_getR rfl (by first | assumption | exact hs.o rfl) gp ?_
    refine r_getI rfl po.1 ((hpc.fr p240 rr0 ((FrC.rf 0 f).up rr0 (by omega))).2.1) ?_
    refine r_if_le rfl (by omega) (fun hle => ?_) (fun hle => ?_)
    · refine r_ret rfl ?_
      first
      | (have e1 : drS pl pp (x, rd) = (drw x, rd) := drS_n (by omega)
         rw [e1] at K
         exact K _ ⟨fun c q1 q2 => up2_o _ _ q1, fun i q => up2_ne _ _ (fun z => q z.2)⟩ (up2_same _ _ _ _) (hrc.fr (fun c q1 q2 => up2_o _ _ (by omega))) ht.sX0)
      | (have e1 := drS_y (pl := pl) (rd := rd) (x := x) (p := pp) (by omega)
         have e2 : (if (99 : Int) ≤ rd 4 ((drw (drw x) / 65536) % pl.2.1).toNat + 1 then 99 else rd 4 ((drw (drw x) / 65536) % pl.2.1).toNat + 1) = (if rd 4 ((drw (drw x) / 65536) % pl.2.1).toNat < 99 then rd 4 ((drw (drw x) / 65536) % pl.2.1).toNat + 1 else 99) := by split <;> split <;> omega
         rw [e1] at K
         rw [e2]
         refine K _ ⟨fun c q1 q2 => ?_, fun i q => ?_⟩ ?_ ?_ ?_
         · rw [up2_o _ _ (by omega), up2_o _ _ q1, up2_o _ _ q1]
         · rw [up2_o _ _ (by omega), up2_ne _ _ (fun z => q z.2), up2_ne _ _ (fun z => q z.2)]
         · rw [up2_o _ _ (by omega), up2_same]
         · exact RC.w (hrc.fr (fun c q1 q2 => by rw [up2_o _ _ (by omega), up2_o _ _ (by omega)])) (by omega)
         · exact (ht.sX0.sX0).fr rr47 ((FrC.rf 47 _).up rr47 (by omega)))
    · refine r_aload_n rfl rfl ?_
      refine r_callV0 rfl rfl (by first | assumption | exact hs.o rfl) rfl (k_draw (by omega) hs (up2_same _ _ _ _) hdr ?_)
      refine r_aload_n rfl rfl ?_
      refine r_getR rfl (by first | assumption | exact hs.o rfl) gp ?_
      refine r_getI rfl po.1 ((hpc.fr p240 rr0 (((FrC.rf 0 f).up rr0 (by omega)).up rr0 (by omega))).2.1) ?_
      refine r_irem rfl (by omega) (by omega) (by omega) ?_
      rw [Int.tmod_eq_emod_of_nonneg (by omega)]
      have hm1 := Int.emod_nonneg (drw (drw x) / 65536) (show pl.2.1 ≠ 0 by omega)
      have hm2 := Int.emod_lt_of_pos (drw (drw x) / 65536) (show 0 < pl.2.1 by omega)
      have hwj := hrc.2.1 ((drw (drw x) / 65536) % pl.2.1).toNat (by omega)
      have hwr := hr ((drw (drw x) / 65536) % pl.2.1).toNat (by omega)
      refine r_istore (L' := [_, _, _, _, _]) rfl rfl rfl ?_
      refine r_aload_n rfl rfl ?_
      refine r_getR rfl (by first | assumption | exact hs.o rfl) g4 ?_
      refine r_iload rfl rfl ?_
      refine r_bipush rfl ?_
      refine r_aload_n rfl rfl ?_
      refine r_getR rfl (by first | assumption | exact hs.o rfl) g4 ?_
      refine r_iload rfl rfl ?_
      refine r_iald rfl (by first | assumption | exact hs.a rfl) (by omega) (by omega) ((congrFun (up2_o _ _ (by omega)) _).trans ((congrFun (up2_o _ _ (by omega)) _).trans hwj)) ?_
      refine r_iconst rfl ?_
      refine r_iadd rfl ?_
      refine r_callS2 rfl rfl rfl (c_min (by omega) (by omega) (by omega) ?_)
      refine r_iast rfl (by first | assumption | exact hs.a rfl) (by omega) (by omega) ?_
      refine r_ret rfl ?_
      first
      | (have e1 : drS pl pp (x, rd) = (drw x, rd) := drS_n (by omega)
         rw [e1] at K
         exact K _ ⟨fun c q1 q2 => up2_o _ _ q1, fun i q => up2_ne _ _ (fun z => q z.2)⟩ (up2_same _ _ _ _) (hrc.fr (fun c q1 q2 => up2_o _ _ (by omega))) ht.sX0)
      | (have e1 := drS_y (pl := pl) (rd := rd) (x := x) (p := pp) (by omega)
         have e2 : (if (99 : Int) ≤ rd 4 ((drw (drw x) / 65536) % pl.2.1).toNat + 1 then 99 else rd 4 ((drw (drw x) / 65536) % pl.2.1).toNat + 1) = (if rd 4 ((drw (drw x) / 65536) % pl.2.1).toNat < 99 then rd 4 ((drw (drw x) / 65536) % pl.2.1).toNat + 1 else 99) := by split <;> split <;> omega
         rw [e1] at K
         rw [e2]
         refine K _ ⟨fun c q1 q2 => ?_, fun i q => ?_⟩ ?_ ?_ ?_
         · rw [up2_o _ _ (by omega), up2_o _ _ q1, up2_o _ _ q1]
         · rw [up2_o _ _ (by omega), up2_ne _ _ (fun z => q z.2), up2_ne _ _ (fun z => q z.2)]
         · rw [up2_o _ _ (by omega), up2_same]
         · exact RC.w (hrc.fr (fun c q1 q2 => by rw [up2_o _ _ (by omega), up2_o _ _ (by omega)])) (by omega)
         · exact (ht.sX0.sX0).fr rr47 ((FrC.rf 47 _).up rr47 (by omega)))
theorem FrS.sx {f0 f f' : ZF} (h : FrS f0 f) (h' : FrSx f f') : FrS f0 f' := ⟨fun c q1 q2 => (h'.1 c q1 (by omega)).trans (h.1 c q1 q2), fun i q => (h'.2 i q).trans (h.2 i q)⟩
theorem l_shI (hd1 : 5 ≤ d) (hs : Sh σ g) (gp : g 0 4 = some p) (hplo : PlOk pl) (hv : VS pl N (-1) rd) {n : Nat} (hN : N + 7 * (n : Int) ≤ 1000000) (hx : 0 ≤ x ∧ x ≤ 2147483647) {pp : Int} (hpp : 0 ≤ pp ∧ pp ≤ 100) {m w kp gg wt : Int} {yy : Int} (K : ∀ f' v, FrS f0 f' → f' 0 7 = (shI pl al pp (x, rd) n).1 → RC f' 47 (shI pl al pp (x, rd) n).2 → TR σ f' g p pl al (-1) → v = v → ZWp d zt126 117 [zr (some 0), zi m, zi (n : Int), zi pp, zi w, zi kp, zi (gg + ((shI pl al pp (x, rd) n).2 5 1 - rd 5 1)), zi wt, zi yy, zr (some 47), v] [] σ f' g Q) (k : Nat) (hk : k ≤ n) (f : ZF) (hf : FrS f0 f) (h7 : f 0 7 = (shI pl al pp (x, rd) k).1) (h : RC f 47 (shI pl al pp (x, rd) k).2) (ht : TR σ f g p pl al (-1)) : ZWp d zt126 81 [zr (some 0), zi m, zi (n : Int), zi pp, zi w, zi kp, zi (gg + ((shI pl al pp (x, rd) k).2 5 1 - rd 5 1)), zi wt, zi yy, zr (some 47), zi (k : Int)] [] σ f g Q := by
  have hvN := hv.1.2.2.2.2.2.2
  refine r_iload rfl rfl ?_
  refine r_iload_n rfl rfl ?_
  refine r_icmp_ge rfl (by omega) (by omega) (fun hge => ?_) (fun hge => ?_)
  · have e : k = n := by omega
    subst e
    exact K f _ hf h7 h ht rfl
  · refine r_aload_n rfl rfl ?_
    refine r_aload rfl rfl ?_
    refine r_iload_n rfl rfl ?_
    refine r_callV2 rfl rfl (by first | assumption | exact hs.o rfl) rfl (k_drawW (by omega) hs gp h7 (shI_x hx k) ht h (hv.sh (al := al) (p := pp) hplo k (by omega)).1.2.2.2.1 hpp (fun f1 hf1 h71 hc1 ht1 => ?_))
    refine r_iload rfl rfl ?_
    refine r_aload_n rfl rfl ?_
    refine r_getR rfl (by first | assumption | exact hs.o rfl) (by first | assumption | exact hs.g rfl) ?_
    refine r_aload rfl rfl ?_
    refine r_callV1 rfl rfl (by first | assumption | exact hs.o rfl) rfl (k_drv (N := N + 7 * (k : Int)) (by omega) ht1 rr47 hs.r47 hc1 ((hv.sh (al := al) (p := pp) hplo k (by omega)).dr hplo) (by omega) (fun f2 hf2 ht2 hc2 hst2 => ?_))
    refine r_callS1 rfl rfl rfl (c_bitCount (by omega) rStep_bits ?_)
    refine r_iadd rfl ?_
    refine r_istore (L' := [_, _, _, _, _, _, _, _, _, _, _]) rfl rfl rfl ?_
    refine r_iinc (L' := [_, _, _, _, _, _, _, _, _, _, _]) rfl rfl rfl ?_
    refine r_goto rfl ?_
    have hg1 := rStep_g (pl := pl) (al := al) (cl := -1) (rd := (drS pl pp (shI pl al pp (x, rd) k)).2)
    rw [drS_g] at hg1
    have e1 : gg + (((shI pl al pp (x, rd) k).2 5 1) - rd 5 1) + cnt (fun i => decide (i < 6) && (rCar pl al (rCars pl al (drS pl pp (shI pl al pp (x, rd) k)).2 i).1 i).2.1) 20 = gg + ((shI pl al pp (x, rd) (k + 1)).2 5 1 - rd 5 1) := by
      show _ = gg + ((rStep pl al (-1) (drS pl pp (shI pl al pp (x, rd) k)).2).1 5 1 - rd 5 1)
      omega
    rw [e1]
    exact l_shI hd1 hs gp hplo hv hN hx hpp K (k + 1) (by omega) f2 ((hf.sx hf1).q ((FrQ.rf f1).c47 hf2)) ((congrFun (hf2.1 0 (by omega) (by omega) (by omega) (by omega)) 7).trans h71) hc2 ht2
termination_by n - k
theorem l_shO (hd1 : 6 ≤ d) {f00 : ZF} {g00 : ZG} (hI : CI σ f00 g00 a) (hA : AOk N a) (hp : a.w.pn = some (pl, rd0)) {n m : Nat} (hm10 : m ≤ 10) (hN : N + 7 * (n : Int) ≤ 1000000) {pp w kp : Int} (hpp : 0 ≤ pp ∧ pp ≤ 100) (K : ∀ f' g' x8 x9 x10, FrS f00 f' → FrG g00 g' → ZWp d zt126 133 [zr (some 0), zi (m : Int), zi (n : Int), zi pp, zi w, zi kp, zi (shO pl (AL a a.fo pl) pp n a.x a.w.rd m).2.1, zi (shO pl (AL a a.fo pl) pp n a.x a.w.rd m).2.2, x8, x9, x10] [] σ f' g' Q) (k : Nat) (hk : k ≤ m) (f : ZF) (g : ZG) (x9 x10 : ZV) (hf : FrS f00 f) (hg : FrG g00 g) (h7 : f 0 7 = (shO pl (AL a a.fo pl) pp n a.x a.w.rd k).1) : ZWp d zt126 66 [zr (some 0), zi (m : Int), zi (n : Int), zi pp, zi w, zi kp, zi (shO pl (AL a a.fo pl) pp n a.x a.w.rd k).2.1, zi (shO pl (AL a a.fo pl) pp n a.x a.w.rd k).2.2, zi (k : Int), x9, x10] [] σ f g Q := by
  have hIx := hI.sx hf hg h7
  have hAx := hA.sx (x := (shO pl (AL a a.fo pl) pp n a.x a.w.rd k).1) (shO_x hA.2.2.2.2.1 k)
  have hs := hIx.sh
  obtain ⟨p0, gp, p240, po, hpc, hrc⟩ := hIx.plS hp
  obtain ⟨hplo, hvr, hst⟩ := hA.plS hp
  have hN2 := hA.2.2.2.2.2.2.2
  have hvs := hvr.vs
  refine r_iload rfl rfl ?_
  refine r_iload_n rfl rfl ?_
  refine r_icmp_ge rfl (by omega) (by omega) (fun hge => ?_) (fun hge => ?_)
  · have e : k = m := by omega
    subst e
    exact K f g _ _ _ hf hg
  · refine r_aload_n rfl rfl ?_
    refine r_callV0 rfl rfl (by first | assumption | exact hs.o rfl) rfl (k_tryNow (by omega) hIx hAx hp gp p240 po hpc (fun f1 g1 hf1 hg1 ht1 hc1 => ?_))
    have hs1 := hIx.sh.frg hg1
    refine r_astore (L' := [_, _, _, _, _, _, _, _, _, _, _]) rfl rfl rfl ?_
    refine r_iconst rfl ?_
    refine r_istore (L' := [_, _, _, _, _, _, _, _, _, _, _]) rfl rfl rfl ?_
    rw [show (shO pl (AL a a.fo pl) pp n a.x a.w.rd k).2.1 = (shO pl (AL a a.fo pl) pp n a.x a.w.rd k).2.1 + ((shI pl (AL a a.fo pl) pp ((shO pl (AL a a.fo pl) pp n a.x a.w.rd k).1, a.w.rd) 0).2 5 1 - a.w.rd 5 1) by show _ = _ + (a.w.rd 5 1 - a.w.rd 5 1); omega]
    refine l_shI (f0 := f00) (rd := a.w.rd) (x := (shO pl (AL a a.fo pl) pp n a.x a.w.rd k).1) (al := AL a a.fo pl) (n := n) (gg := (shO pl (AL a a.fo pl) pp n a.x a.w.rd k).2.1) (p := p0) (by omega) hs1 ((hg1 0 4 (by omega)).trans gp) hplo hvs (by omega) (shO_x hA.2.2.2.2.1 k) hpp (fun f2 v hf2 h72 hc2 ht2 _ => ?_) 0 (by omega) f1 (hf.q hf1) ((congrFun (hf1 0 (by omega)) 7).trans h7) hc1 ht1
    refine r_iload rfl rfl ?_
    refine r_aload rfl rfl ?_
    refine r_callV0 rfl rfl hs1.r47.1 rfl (k_allWaiting (by omega) hs1.r47 hc2 ?_)
    refine r_iadd rfl ?_
    refine r_istore (L' := [_, _, _, _, _, _, _, _, _, _, _]) rfl rfl rfl ?_
    refine r_iinc (L' := [_, _, _, _, _, _, _, _, _, _, _]) rfl rfl rfl ?_
    refine r_goto rfl ?_
    exact l_shO hd1 hI hA hp hm10 hN hpp K (k + 1) (by omega) f2 g1 _ _ hf2 (hg.trans hg1) h72
termination_by m - k
theorem k_shows (hd : 7 ≤ d) (hI : CI σ f g a) (hA : AOk N a)  {m n pp w : Int} (hmi : IR m) (hni : IR n) (hpi : IR pp) (hwi : IR w) (K : ∀ f' g', FrQ f f' → FrG g g' → Q (some (zi (qShows a m n pp w))) σ f' g') : ZCt d 126 [zr (some 0), zi m, zi n, zi pp, zi w] σ f g Q := by
  refine ZCt.of' (L0 := [_, _, _, _, _, _, _, _, _, _, _]) (by omega) rfl rfl rfl (fun d hd1 => ?_)
  have hs := hI.sh
  cases hp : a.w.pn with
  | none =>
    rw [qShows_no (Or.inl hp)] at K
    refine r_aload_n rfl rfl ?_
    refine r_getR rfl (by first | assumption | exact hs.o rfl) (hI.pln hp) ?_
    refine r_ifnullN rfl ?_
    refine r_iconst rfl ?_
    refine r_iret rfl ?_
    exact K f g (FrQ.rf f) (FrG.rf g)
  | some q =>
    obtain ⟨pl, rd0⟩ := q
    obtain ⟨p0, gp, p240, po, hpc, hrc⟩ := hI.plS hp
    have hN := hA.2.2.2.2.2.2.2
    refine r_aload_n rfl rfl ?_
    refine r_getR rfl (by first | assumption | exact hs.o rfl) gp ?_
    refine r_ifnullS rfl ?_
    refine r_iload_n rfl rfl ?_
    refine r_iconst rfl ?_
    refine r_bipush rfl ?_
    refine r_callS3 rfl rfl rfl (k_within (by omega) hmi (by omega) (by omega) (fun hm => ?_) (fun hm => ?_))
    · refine r_if_n rfl (by decide) ?_
      refine r_iload_n rfl rfl ?_
      refine r_iconst rfl ?_
      refine r_bipush rfl ?_
      refine r_callS3 rfl rfl rfl (k_within (by omega) hni (by omega) (by omega) (fun hn => ?_) (fun hn => ?_))
      · refine r_if_y rfl (by decide) ?_
        refine r_iload_n rfl rfl ?_
        refine r_iconst rfl ?_
        refine r_bipush rfl ?_
        refine r_callS3 rfl rfl rfl (k_within (by omega) hpi (by omega) (by omega) (fun hpp => ?_) (fun hpp => ?_))
        · refine r_if_n rfl (by decide) ?_
          refine r_iload rfl rfl ?_
          refine r_iconst rfl ?_
          refine r_iconst rfl ?_
          refine r_callS3 rfl rfl rfl (k_within (by omega) hwi (by omega) (by omega) (fun hw => ?_) (fun hw => ?_))
          · refine r_if_y rfl (by decide) ?_
            refine r_aload_n rfl rfl ?_
            refine r_getI rfl (by first | assumption | exact hs.o rfl) hI.x ?_
            refine r_istore (L' := [_, _, _, _, _, _, _, _, _, _, _]) rfl rfl rfl ?_
            refine r_iconst rfl ?_
            refine r_istore (L' := [_, _, _, _, _, _, _, _, _, _, _]) rfl rfl rfl ?_
            refine r_iconst rfl ?_
            refine r_istore (L' := [_, _, _, _, _, _, _, _, _, _, _]) rfl rfl rfl ?_
            refine r_iconst rfl ?_
            refine r_istore (L' := [_, _, _, _, _, _, _, _, _, _, _]) rfl rfl rfl ?_
            obtain ⟨mm, rfl⟩ := Int.eq_ofNat_of_zero_le (show 0 ≤ m by omega)
            obtain ⟨nn, rfl⟩ := Int.eq_ofNat_of_zero_le (show 0 ≤ n by omega)
            rw [qShows_yes hp (by omega)] at K
            refine l_shO (by omega) hI hA hp (n := nn) (m := mm) (by omega) (by omega) hpp (fun f2 g2 x8 x9 x10 hf2 hg2 => ?_) 0 (by omega) f g _ _ ⟨fun _ _ _ => rfl, fun _ _ => rfl⟩ (FrG.rf g) hI.x
            have hs2 := hs.frg hg2
            refine r_aload_n rfl rfl ?_
            refine r_iload rfl rfl ?_
            refine r_putI rfl (by first | assumption | exact hs.o rfl) ?_
            refine r_iload rfl rfl ?_
            refine r_if_ne rfl (by omega) (fun hw0 => ?_) (fun hw0 => ?_)
            · refine r_iload rfl rfl ?_
              refine r_iret rfl ?_
              first | (rw [if_pos (by omega)] at K; exact K _ g2 (hf2.end hI.x) hg2) | (rw [if_neg (by omega)] at K; exact K _ g2 (hf2.end hI.x) hg2)
            · refine r_iload rfl rfl ?_
              refine r_goto rfl ?_
              refine r_iret rfl ?_
              first | (rw [if_pos (by omega)] at K; exact K _ g2 (hf2.end hI.x) hg2) | (rw [if_neg (by omega)] at K; exact K _ g2 (hf2.end hI.x) hg2)
          · refine r_if_n rfl (by decide) ?_
            refine r_iconst rfl ?_
            refine r_iret rfl ?_
            rw [qShows_no (Or.inr (by omega))] at K
            exact K f g (FrQ.rf f) (FrG.rf g)
        · refine r_if_y rfl (by decide) ?_
          refine r_iconst rfl ?_
          refine r_iret rfl ?_
          rw [qShows_no (Or.inr (by omega))] at K
          exact K f g (FrQ.rf f) (FrG.rf g)
      · refine r_if_n rfl (by decide) ?_
        refine r_iconst rfl ?_
        refine r_iret rfl ?_
        rw [qShows_no (Or.inr (by omega))] at K
        exact K f g (FrQ.rf f) (FrG.rf g)
    · refine r_if_y rfl (by decide) ?_
      refine r_iconst rfl ?_
      refine r_iret rfl ?_
      rw [qShows_no (Or.inr (by omega))] at K
      exact K f g (FrQ.rf f) (FrG.rf g)
end SHOWS
