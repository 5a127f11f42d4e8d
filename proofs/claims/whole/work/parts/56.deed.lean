/-! Which deed is best -/
abbrev Deed : Type := Nat → Option (Rd × Int)
def dGrass (rd : Rd) : Deed := fun k => if k < 6 ∧ rd 0 k ≠ -1 then some (rCross rd k, -1) else none
def dFill (pl : Pl) (rd : Rd) : Deed := fun k => if (k : Int) < pl.1 ∧ rd 6 k = 1 then some (up2 rd 6 k 0, -1) else none
def dClose (pl : Pl) (rd : Rd) : Deed := fun k => if (k : Int) < pl.2.1 then some (up2 rd 4 k 0, (k : Int)) else none
def rGn (pl : Pl) (al : Rd → Nat → Bool) (cl : Int) (n : Nat) (rd : Rd) : Int := rIt pl al cl n rd 5 1 - rd 5 1
/-- the best of the first k, with how many it lets off; -1 is none -/
def rBest (pl : Pl) (al : Rd → Nat → Bool) (n : Nat) (rd : Rd) (dd : Deed) : Nat → Int × Int
  | 0 => (-1, rGn pl al (-1) n rd)
  | k + 1 => match dd k with
    | none => rBest pl al n rd dd k
    | some (rd', cl) => if (rBest pl al n rd dd k).2 < rGn pl al cl n rd' then ((k : Int), rGn pl al cl n rd') else rBest pl al n rd dd k
def qDeed (a : AS) (dd : Pl → Deed) (n w : Int) : Int := match a.w.pn with
  | none => -2
  | some (pl, _) => if (1 ≤ n ∧ n ≤ 40) ∧ (0 ≤ w ∧ w ≤ 1) then (if w = 0 then (rBest pl (AL a a.fo pl) n.toNat a.w.rd (dd pl) 20).1 else (rBest pl (AL a a.fo pl) n.toNat a.w.rd (dd pl) 20).2) else -2
section DEED
variable {d : Nat} {σ : ZS} {f f0 f' : ZF} {g g' : ZG} {Q : ZQ} {N : Int} {rd : Rd} {p : Nat} {pl : Pl} {rd0 : Rd} {al : Rd → Nat → Bool} {cl : Int} {a : AS} {dd : Deed} {n : Nat}
theorem rBest_more {m : Nat} (h : ∀ k, m ≤ k → dd k = none) : ∀ k, m ≤ k → rBest pl al n rd dd k = rBest pl al n rd dd m := by
  intro k
  induction k with
  | zero => intro q; rw [show m = 0 by omega]
  | succ k ih =>
    intro q
    by_cases e : m = k + 1
    · rw [e]
    · simp only [rBest]
      rw [h k (by omega)]
      exact ih (by omega)
theorem rBest_none {k : Nat} (h : dd k = none) : rBest pl al n rd dd (k + 1) = rBest pl al n rd dd k := by simp only [rBest, h]
theorem rBest_lt {k : Nat} {rd' : Rd} (h : dd k = some (rd', cl)) (q : (rBest pl al n rd dd k).2 < rGn pl al cl n rd') : rBest pl al n rd dd (k + 1) = ((k : Int), rGn pl al cl n rd') := by
  simp only [rBest, h]
  rw [if_pos q]
theorem rBest_ge {k : Nat} {rd' : Rd} (h : dd k = some (rd', cl)) (q : ¬ (rBest pl al n rd dd k).2 < rGn pl al cl n rd') : rBest pl al n rd dd (k + 1) = rBest pl al n rd dd k := by
  simp only [rBest, h]
  rw [if_neg q]
theorem rGn_rng (hp : PlOk pl) (hv : VS pl N cl rd) (hN : N + 7 * (n : Int) ≤ 1000000) : -1000000 ≤ rGn pl al cl n rd ∧ rGn pl al cl n rd ≤ 1000000 := by
  have h1 := (hv.it (al := al) hp n hN).1.2.2.2.2.2.2
  have h2 := hv.1.2.2.2.2.2.2
  unfold rGn
  omega
theorem rBest_rng (hp : PlOk pl) (hv : VS pl N (-1) rd) (hN : N + 7 * (n : Int) ≤ 1000000) (hd : ∀ k rd' cl, dd k = some (rd', cl) → -1000000 ≤ rGn pl al cl n rd' ∧ rGn pl al cl n rd' ≤ 1000000) : ∀ k, -1000000 ≤ (rBest pl al n rd dd k).2 ∧ (rBest pl al n rd dd k).2 ≤ 1000000 := by
  intro k
  induction k with
  | zero => exact rGn_rng hp hv hN
  | succ k ih =>
    cases h : dd k with
    | none => rw [rBest_none h]; exact ih
    | some z =>
      obtain ⟨rd', cl⟩ := z
      by_cases q : (rBest pl al n rd dd k).2 < rGn pl al cl n rd'
      · rw [rBest_lt h q]; exact hd k rd' cl h
      · rw [rBest_ge h q]; exact ih
theorem VS.grass {k : Nat} (h : VS pl N cl rd) (hk : k < 6) (h0 : rd 0 k ≠ -1) (hN : N + 1 ≤ 1000000) : VS pl (N + 1) cl (rCross rd k) := by
  obtain ⟨h1, h2, h3, h4⟩ := h
  have hc := h1.2.2.1 k hk
  have hn := h1.1
  have hg : RdOk pl.1 pl.2.1 N (up2 rd 6 (rd 0 k).toNat 1) := by
    obtain ⟨q1, q2, q3, q4, q5, q6, q7, q8⟩ := h1
    refine ⟨q1, q2, fun j hj => by simpa [up2] using q3 j hj, fun j hj => by simpa [up2] using q4 j hj, fun c hc => ?_, by simpa [up2] using q6, by simpa [up2] using q7, q8⟩
    by_cases e : c = (rd 0 k).toNat
    · simp [up2, e]
    · simpa [up2, e] using q5 c hc
  refine ⟨hg.off hN hk, (h2.same (fun j _ => by simp [up2])).off, (h3.same (fun j => by simp [rCross, rOff, up2])), fun j hj => ?_⟩
  have := h4 j hj
  simpa [rCross, rOff, up2] using this
theorem VS.gap {c : Nat} (h : VS pl N cl rd) : VS pl N cl (up2 rd 6 c 0) := by
  obtain ⟨⟨q1, q2, q3, q4, q5, q6, q7, q8⟩, h2, h3, h4⟩ := h
  refine ⟨⟨q1, q2, fun j hj => by simpa [up2] using q3 j hj, fun j hj => by simpa [up2] using q4 j hj, fun i hi => ?_, by simpa [up2] using q6, by simpa [up2] using q7, q8⟩, h2.same (fun j _ => by simp [up2]), h3.same (fun j => by simp [up2]), fun j hj => by simpa [up2] using h4 j hj⟩
  by_cases e : i = c
  · simp [up2, e]
  · simpa [up2, e] using q5 i hi
theorem VS.close {j : Nat} (h : VS pl N (-1) rd) (hj : j < 5) : VS pl N (j : Int) (up2 rd 4 j 0) := by
  obtain ⟨h1, h2, h3, h4⟩ := h
  refine ⟨h1.w hj (by omega), h2.same (fun i _ => by simp [up2]), fun i hi => ?_, fun i hi => ?_⟩
  · have e : i = j := by omega
    subst e
    simp [up2]
  · by_cases e : i = j
    · subst e; simp [up2]
    · simpa [up2, e] using h4 i hi
theorem VS.mono {N' : Int} (h : VS pl N cl rd) (h1 : N ≤ N') (h2 : N' ≤ 1000000) : VS pl N' cl rd := ⟨h.1.mono h1 h2, h.2⟩
theorem dGrass_some {k : Nat} (hk : k < 6) (h : rd 0 k ≠ -1) : dGrass rd k = some (rCross rd k, -1) := if_pos ⟨hk, h⟩
theorem dFill_some {k : Nat} (hk : (k : Int) < pl.1) (h : rd 6 k = 1) : dFill pl rd k = some (up2 rd 6 k 0, -1) := if_pos ⟨hk, h⟩
theorem dClose_some {k : Nat} (hk : (k : Int) < pl.2.1) : dClose pl rd k = some (up2 rd 4 k 0, (k : Int)) := if_pos hk
/-- a deed leads to states in order -/
def DOk (pl : Pl) (N : Int) (dd : Deed) : Prop := ∀ k rd' cl, dd k = some (rd', cl) → VS pl (N + 1) cl rd' ∧ (-1 ≤ cl ∧ cl ≤ 5)
theorem dGrass_ok (h : VS pl N (-1) rd) (hN : N + 1 ≤ 1000000) : DOk pl N (dGrass rd) := by
  intro k rd' cl e
  unfold dGrass at e
  split at e
  · rename_i q
    cases e
    exact ⟨h.grass q.1 q.2 hN, by omega⟩
  · cases e
theorem dFill_ok (h : VS pl N (-1) rd) (hN : N + 1 ≤ 1000000) : DOk pl N (dFill pl rd) := by
  intro k rd' cl e
  unfold dFill at e
  split at e
  · cases e
    exact ⟨h.gap.mono (by omega) hN, by omega⟩
  · cases e
theorem dClose_ok (hp : PlOk pl) (h : VS pl N (-1) rd) (hN : N + 1 ≤ 1000000) : DOk pl N (dClose pl rd) := by
  intro k rd' cl e
  have := hp.2.1
  unfold dClose at e
  split at e
  · cases e
    exact ⟨(h.close (by omega)).mono (by omega) hN, by omega⟩
  · cases e
theorem DOk.rng (hp : PlOk pl) (h : DOk pl N dd) (hN : N + 1 + 7 * (n : Int) ≤ 1000000) : ∀ k rd' cl, dd k = some (rd', cl) → -1000000 ≤ rGn pl al cl n rd' ∧ rGn pl al cl n rd' ≤ 1000000 := fun k rd' cl e => rGn_rng hp (h k rd' cl e).1 hN
theorem qDeed_no {dd : Pl → Deed} {n w : Int} (h : a.w.pn = none ∨ ¬ ((1 ≤ n ∧ n ≤ 40) ∧ (0 ≤ w ∧ w ≤ 1))) : qDeed a dd n w = -2 := by
  unfold qDeed
  cases hp : a.w.pn with
  | none => rfl
  | some z => exact if_neg (by rcases h with h | h; rw [hp] at h; cases h; exact h)
theorem qDeed_yes {dd : Pl → Deed} {n : Nat} {w : Int} (hp : a.w.pn = some (pl, rd0)) (h : (1 ≤ n ∧ n ≤ 40) ∧ (0 ≤ w ∧ w ≤ 1)) {m : Nat} (hm : m ≤ 20) (hd : ∀ k, m ≤ k → dd pl k = none) : qDeed a dd (n : Int) w = if w = 0 then (rBest pl (AL a a.fo pl) n a.w.rd (dd pl) m).1 else (rBest pl (AL a a.fo pl) n a.w.rd (dd pl) m).2 := by
  unfold qDeed
  rw [hp]
  simp only
  rw [if_pos (by omega), Int.toNat_natCast, rBest_more hd 20 hm]
theorem mrd_wait (hm : MRd (f 229) rd) {j : Nat} (hj : j < 5) {x : Int} : MRd ((up2 f 229 (42 + j) x) 229) (up2 rd 4 j x) := by
  rw [up2_u1]
  obtain ⟨h0', h1, h2, h3, h4⟩ := hm
  refine MRd.of ?_ ?_ (fun i hi => ?_) (fun i hi => ?_) (fun i hi => ?_)
  · simp only [u1]; rw [if_neg (by omega), h0']; simp [up2]
  · simp only [u1]; rw [if_neg (by omega), h1]; simp [up2]
  · refine (h2 i hi).same (fun a ha => ?_) (fun a ha => ?_)
    · simp only [u1]; rw [if_neg (by omega)]
    · simp [up2, show ¬ a = 4 by omega]
  · simp only [u1]
    by_cases e : i = j
    · subst e; simp [up2]
    · rw [if_neg (by omega), h3 i hi]; simp [up2, e]
  · simp only [u1]; rw [if_neg (by omega), h4 i hi]; simp [up2]
theorem c_weighs (hd : 1 ≤ d) (hs : Sh σ g) {x m b : Int} (hx : IR x) (hm : IR m) (hbr : IR b) (hb : f 219 30 = b) (k1 : ¬ (0 ≤ x ∧ m ≤ b) → Q none σ (up2 (up2 f 219 29 x) 219 30 m) g) (k2 : 0 ≤ x → m ≤ b → Q none σ f g) : ZCt d 224 [zr (some 219), zi x, zi m] σ f g Q := by
  refine ZCt.of' (L0 := [_, _, _]) (by omega) rfl rfl rfl (fun d hd1 => ?_)
  refine r_iload_n rfl rfl ?_
  refine r_if_lt rfl (by omega) (fun h1 => ?_) (fun h1 => ?_)
  · refine r_aload_n rfl rfl ?_
    refine r_iload_n rfl rfl ?_
    refine r_putI rfl (by first | assumption | exact hs.o rfl) ?_
    refine r_aload_n rfl rfl ?_
    refine r_iload_n rfl rfl ?_
    refine r_putI rfl (by first | assumption | exact hs.o rfl) ?_
    refine r_ret rfl ?_
    first | exact k2 (by omega) (by omega) | exact k1 (by omega)
  · refine r_iload_n rfl rfl ?_
    refine r_aload_n rfl rfl ?_
    refine r_getI rfl (by first | assumption | exact hs.o rfl) hb ?_
    refine r_icmp_gt rfl (by omega) (by omega) (fun h9 => ?_) (fun h9 => ?_)
    · refine r_aload_n rfl rfl ?_
      refine r_iload_n rfl rfl ?_
      refine r_putI rfl (by first | assumption | exact hs.o rfl) ?_
      refine r_aload_n rfl rfl ?_
      refine r_iload_n rfl rfl ?_
      refine r_putI rfl (by first | assumption | exact hs.o rfl) ?_
      refine r_ret rfl ?_
      first | exact k2 (by omega) (by omega) | exact k1 (by omega)
    · refine r_ret rfl ?_
      first | exact k2 (by omega) (by omega) | exact k1 (by omega)
theorem l_bGrass (hd1 : 14 ≤ d) (hs : Sh σ g) {f00 : ZF} (hplo : PlOk pl) (hv : VS pl N (-1) rd) {n : Nat} (hN : N + 1 + 7 * (n : Int) ≤ 1000000) {w : Int} (hm : MRd (f00 229) rd) (hmp : MPl (f00 229) pl) (KE : ∀ f' x, Kp f00 f' → f' 229 = f00 229 → (∀ i, i = 21 ∨ i = 24 ∨ i = 23 → f' 219 i = f00 219 i) → f' 219 29 = (rBest pl al n rd (dGrass rd) 6).1 → f' 219 30 = (rBest pl al n rd (dGrass rd) 6).2 → ZWp d zt222 86 [zr (some 219), zi (n : Int), zi w, x] [] σ f' g Q) (k : Nat) (hk : k ≤ 6) (f : ZF) (hkp : Kp f00 f) (h9 : f 229 = f00 229) (hf : ∀ i, i = 21 ∨ i = 24 ∨ i = 23 → f 219 i = f00 219 i) (ht : TM σ f g pl al (-1)) (h29 : f 219 29 = (rBest pl al n rd (dGrass rd) k).1) (h30 : f 219 30 = (rBest pl al n rd (dGrass rd) k).2) : ZWp d zt222 48 [zr (some 219), zi (n : Int), zi w, zi (k : Int)] [] σ f g Q := by
  have hvN := hv.1.2.2.2.2.2.2
  have hp1 := hplo.1
  have hp2 := hplo.2.1
  have hdok : DOk pl N (dGrass rd) := dGrass_ok hv (by omega)
  have hbr := rBest_rng (al := al) hplo hv (n := n) (by omega) (hdok.rng hplo hN) k
  have hm' : MRd (f 229) rd := by rw [h9]; exact hm
  have hmp' : MPl (f 229) pl := by rw [h9]; exact hmp
  refine r_iload_n rfl rfl ?_
  refine r_bipush rfl ?_
  refine r_icmp_ge rfl (by omega) (by omega) (fun hlt => ?_) (fun hlt => ?_)
  · have e : k = 6 := by omega
    subst e
    exact KE f _ hkp h9 hf h29 h30
  · refine r_aload_n rfl rfl ?_
    refine r_iload_n rfl rfl ?_
    refine r_callV1 rfl rfl (by first | assumption | exact hs.o rfl) rfl (c_mOn (by omega) hs hm' hv.1 (by omega) (fun hon => ?_) (fun hoff => ?_))
    · refine r_if_y rfl (by decide) ?_
      refine r_aload_n rfl rfl ?_
      refine r_iload_n rfl rfl ?_
      have hdd := dGrass_some (rd := rd) (show k < 6 by omega) (show rd 0 k ≠ -1 by omega)
      refine r_callV1 rfl rfl (by first | assumption | exact hs.o rfl) rfl (c_crosses (by omega) hs hm' (by omega) (by omega) (fun f2 hf2 hm2 => ?_))
      have H30 : f2 219 30 = _ := (hf2.2.1 30 (by omega) (by omega)).trans h30
      have H29 : f2 219 29 = _ := (hf2.2.1 29 (by omega) (by omega)).trans h29
      refine r_aload_n rfl rfl ?_
      refine r_iload_n rfl rfl ?_
      refine r_aload_n rfl rfl ?_
      refine r_iload_n rfl rfl ?_
      refine r_callV1 rfl rfl (by first | assumption | exact hs.o rfl) rfl (c_offAllIn (N := N + 1) (cl := -1) (rd := rCross rd k) (n := n) (by omega) hs (ht.fr hf2) (hv.grass (by omega) (by omega) (by omega)) (by omega) (hkp.m hf2) hm2 (fun f3 hk3 h93 h219 ht3 => ?_))
      have hrg := hdok.rng (al := al) (n := n) hplo hN k _ _ hdd
      unfold rGn at hrg
      have h303 : f3 219 30 = _ := (h219 30 (by omega) (by omega)).trans H30
      refine r_callV2 rfl rfl (by first | assumption | exact hs.o rfl) rfl (c_weighs (by omega) hs (by omega) (by omega) (by omega) h303 (fun hq => ?_) (fun hq1 hq2 => ?_)  )
      · refine r_iinc (L' := [_, _, _, _]) rfl rfl rfl ?_
        refine r_goto rfl ?_
        have e1 : rBest pl al n rd (dGrass rd) (k + 1) = ((k : Int), rGn pl al (-1) n (rCross rd k)) := rBest_lt hdd (by unfold rGn; omega)
        refine l_bGrass hd1 hs hplo hv hN hm hmp KE (k + 1) (by omega) _ ((hk3.upM (by omega)).upM (by omega)) (by rw [up2_o _ _ (by omega), up2_o _ _ (by omega)]; exact h93) (fun i q => by rw [up2_ne _ _ (by omega), up2_ne _ _ (by omega), h219 i (by omega) (by omega)]; rw [hf2.2.1 i (by omega) (by omega)]; exact hf i q) (ht3.fr2 (fun c q1 q2 => by rw [up2_o _ _ q1, up2_o _ _ q1]) (fun i q => by rw [up2_o _ _ (by omega), up2_o _ _ (by omega)]) (fun i q => by rw [up2_ne _ _ (by omega), up2_ne _ _ (by omega)]) ht3.2.2.2.1 (by rw [up2_ne _ _ (by omega), up2_ne _ _ (by omega)]; exact ht3.2.2.1)) (by rw [e1, up2_ne _ _ (by omega), up2_same]) (by rw [e1, up2_same]; rfl)
      · refine r_iinc (L' := [_, _, _, _]) rfl rfl rfl ?_
        refine r_goto rfl ?_
        have e1 : rBest pl al n rd (dGrass rd) (k + 1) = rBest pl al n rd (dGrass rd) k := rBest_ge hdd (by unfold rGn; omega)
        exact l_bGrass hd1 hs hplo hv hN hm hmp KE (k + 1) (by omega) f3 hk3 h93 (fun i q => by rw [h219 i (by omega) (by omega)]; rw [hf2.2.1 i (by omega) (by omega)]; exact hf i q) ht3 (by rw [e1]; exact (h219 29 (by omega) (by omega)).trans H29) (by rw [e1]; exact h303)
    · refine r_if_n rfl (by decide) ?_
      refine r_goto rfl ?_
      refine r_iinc (L' := [_, _, _, _]) rfl rfl rfl ?_
      refine r_goto rfl ?_
      have e1 : rBest pl al n rd (dGrass rd) (k + 1) = rBest pl al n rd (dGrass rd) k := rBest_none (if_neg (fun q => q.2 hoff))
      exact l_bGrass hd1 hs hplo hv hN hm hmp KE (k + 1) (by omega) f hkp h9 hf ht (by rw [e1]; exact h29) (by rw [e1]; exact h30)
termination_by 6 - k
theorem l_bFill (hd1 : 14 ≤ d) (hs : Sh σ g) {f00 : ZF} (hplo : PlOk pl) (hv : VS pl N (-1) rd) {n : Nat} (hN : N + 1 + 7 * (n : Int) ≤ 1000000) {w : Int} (hm : MRd (f00 229) rd) (hmp : MPl (f00 229) pl) (KE : ∀ f' x, Kp f00 f' → f' 229 = f00 229 → (∀ i, i = 21 ∨ i = 24 ∨ i = 23 → f' 219 i = f00 219 i) → f' 219 29 = (rBest pl al n rd (dFill pl rd) pl.1.toNat).1 → f' 219 30 = (rBest pl al n rd (dFill pl rd) pl.1.toNat).2 → ZWp d zt225 99 [zr (some 219), zi (n : Int), zi w, x] [] σ f' g Q) (k : Nat) (hk : k ≤ pl.1.toNat) (f : ZF) (hkp : Kp f00 f) (h9 : f 229 = f00 229) (hf : ∀ i, i = 21 ∨ i = 24 ∨ i = 23 → f 219 i = f00 219 i) (ht : TM σ f g pl al (-1)) (h29 : f 219 29 = (rBest pl al n rd (dFill pl rd) k).1) (h30 : f 219 30 = (rBest pl al n rd (dFill pl rd) k).2) : ZWp d zt225 48 [zr (some 219), zi (n : Int), zi w, zi (k : Int)] [] σ f g Q := by
  have hvN := hv.1.2.2.2.2.2.2
  have hp1 := hplo.1
  have hp2 := hplo.2.1
  have hdok : DOk pl N (dFill pl rd) := dFill_ok hv (by omega)
  have hbr := rBest_rng (al := al) hplo hv (n := n) (by omega) (hdok.rng hplo hN) k
  have hm' : MRd (f 229) rd := by rw [h9]; exact hm
  have hmp' : MPl (f 229) pl := by rw [h9]; exact hmp
  refine r_iload_n rfl rfl ?_
  refine r_aload_n rfl rfl ?_
  refine r_getR rfl (by first | assumption | exact hs.o rfl) (by first | assumption | exact hs.g rfl) ?_
  refine r_iconst rfl ?_
  refine r_iald rfl (by first | assumption | exact hs.a rfl) (by omega) (by omega) ((zix (n := 1) rfl).trans hmp'.2.1) ?_
  refine r_icmp_ge rfl (by omega) (by omega) (fun hlt => ?_) (fun hlt => ?_)
  · have e : k = pl.1.toNat := by omega
    subst e
    exact KE f _ hkp h9 hf h29 h30
  · refine r_aload_n rfl rfl ?_
    refine r_getR rfl (by first | assumption | exact hs.o rfl) (by first | assumption | exact hs.g rfl) ?_
    refine r_bipush rfl ?_
    refine r_iload_n rfl rfl ?_
    refine r_iadd rfl ?_
    have hgk := hv.1.2.2.2.2.1 k (by omega)
    refine r_iald rfl (by first | assumption | exact hs.a rfl) (by omega) (by omega) ((zix (n := 47 + k) (by omega)).trans (hm'.2.2.2.2 k (by omega))) ?_
    refine r_if_ne rfl (by omega) (fun hgap => ?_) (fun hgap => ?_)
    · refine r_aload_n rfl rfl ?_
      refine r_getR rfl (by first | assumption | exact hs.o rfl) (by first | assumption | exact hs.g rfl) ?_
      refine r_bipush rfl ?_
      refine r_iload_n rfl rfl ?_
      refine r_iadd rfl ?_
      refine r_iconst rfl ?_
      have hdd := dFill_some (pl := pl) (rd := rd) (show (k : Int) < pl.1 by omega) (show rd 6 k = 1 by omega)
      refine r_iastN (47 + k) rfl (by first | assumption | exact hs.a rfl) (by omega) (by omega) (by omega) ?_
      have H30 : (up2 f 229 (47 + k) 0) 219 30 = _ := (congrFun (up2_o _ _ (by omega)) _).trans h30
      have H29 : (up2 f 229 (47 + k) 0) 219 29 = _ := (congrFun (up2_o _ _ (by omega)) _).trans h29
      refine r_aload_n rfl rfl ?_
      refine r_iload_n rfl rfl ?_
      refine r_aload_n rfl rfl ?_
      refine r_iload_n rfl rfl ?_
      refine r_callV1 rfl rfl (by first | assumption | exact hs.o rfl) rfl (c_offAllIn (N := N + 1) (cl := -1) (rd := up2 rd 6 k 0) (n := n) (by omega) hs (ht.sd (by omega)) (hv.gap.mono (by omega) (by omega)) (by omega) (hkp.upS (by omega)) (mrd_gap hm' (by omega)) (fun f3 hk3 h93 h219 ht3 => ?_))
      have hrg := hdok.rng (al := al) (n := n) hplo hN k _ _ hdd
      unfold rGn at hrg
      have h303 : f3 219 30 = _ := (h219 30 (by omega) (by omega)).trans H30
      refine r_callV2 rfl rfl (by first | assumption | exact hs.o rfl) rfl (c_weighs (by omega) hs (by omega) (by omega) (by omega) h303 (fun hq => ?_) (fun hq1 hq2 => ?_)  )
      · refine r_iinc (L' := [_, _, _, _]) rfl rfl rfl ?_
        refine r_goto rfl ?_
        have e1 : rBest pl al n rd (dFill pl rd) (k + 1) = ((k : Int), rGn pl al (-1) n (up2 rd 6 k 0)) := rBest_lt hdd (by unfold rGn; omega)
        refine l_bFill hd1 hs hplo hv hN hm hmp KE (k + 1) (by omega) _ ((hk3.upM (by omega)).upM (by omega)) (by rw [up2_o _ _ (by omega), up2_o _ _ (by omega)]; exact h93) (fun i q => by rw [up2_ne _ _ (by omega), up2_ne _ _ (by omega), h219 i (by omega) (by omega)]; rw [up2_o _ _ (by omega)]; exact hf i q) (ht3.fr2 (fun c q1 q2 => by rw [up2_o _ _ q1, up2_o _ _ q1]) (fun i q => by rw [up2_o _ _ (by omega), up2_o _ _ (by omega)]) (fun i q => by rw [up2_ne _ _ (by omega), up2_ne _ _ (by omega)]) ht3.2.2.2.1 (by rw [up2_ne _ _ (by omega), up2_ne _ _ (by omega)]; exact ht3.2.2.1)) (by rw [e1, up2_ne _ _ (by omega), up2_same]) (by rw [e1, up2_same]; rfl)
      · refine r_iinc (L' := [_, _, _, _]) rfl rfl rfl ?_
        refine r_goto rfl ?_
        have e1 : rBest pl al n rd (dFill pl rd) (k + 1) = rBest pl al n rd (dFill pl rd) k := rBest_ge hdd (by unfold rGn; omega)
        exact l_bFill hd1 hs hplo hv hN hm hmp KE (k + 1) (by omega) f3 hk3 h93 (fun i q => by rw [h219 i (by omega) (by omega)]; rw [up2_o _ _ (by omega)]; exact hf i q) ht3 (by rw [e1]; exact (h219 29 (by omega) (by omega)).trans H29) (by rw [e1]; exact h303)
    · refine r_goto rfl ?_
      refine r_iinc (L' := [_, _, _, _]) rfl rfl rfl ?_
      refine r_goto rfl ?_
      have e1 : rBest pl al n rd (dFill pl rd) (k + 1) = rBest pl al n rd (dFill pl rd) k := rBest_none (if_neg (fun q => by omega))
      exact l_bFill hd1 hs hplo hv hN hm hmp KE (k + 1) (by omega) f hkp h9 hf ht (by rw [e1]; exact h29) (by rw [e1]; exact h30)
termination_by pl.1.toNat - k
theorem l_bClose (hd1 : 14 ≤ d) (hs : Sh σ g) {f00 : ZF} (hplo : PlOk pl) (hv : VS pl N (-1) rd) {n : Nat} (hN : N + 1 + 7 * (n : Int) ≤ 1000000) {w : Int} (hm : MRd (f00 229) rd) (hmp : MPl (f00 229) pl) (KE : ∀ f' x, Kp f00 f' → f' 229 = f00 229 → (∀ i, i = 21 ∨ i = 24 → f' 219 i = f00 219 i) → f' 219 29 = (rBest pl al n rd (dClose pl rd) pl.2.1.toNat).1 → f' 219 30 = (rBest pl al n rd (dClose pl rd) pl.2.1.toNat).2 → ZWp d zt226 89 [zr (some 219), zi (n : Int), zi w, x] [] σ f' g Q) (k : Nat) (hk : k ≤ pl.2.1.toNat) (f : ZF) (hkp : Kp f00 f) (h9 : f 229 = f00 229) (hf : ∀ i, i = 21 ∨ i = 24 → f 219 i = f00 219 i) (ht : ∃ c, TM σ f g pl al c) (h29 : f 219 29 = (rBest pl al n rd (dClose pl rd) k).1) (h30 : f 219 30 = (rBest pl al n rd (dClose pl rd) k).2) : ZWp d zt226 48 [zr (some 219), zi (n : Int), zi w, zi (k : Int)] [] σ f g Q := by
  have hvN := hv.1.2.2.2.2.2.2
  have hp1 := hplo.1
  have hp2 := hplo.2.1
  have hdok : DOk pl N (dClose pl rd) := dClose_ok hplo hv (by omega)
  have hbr := rBest_rng (al := al) hplo hv (n := n) (by omega) (hdok.rng hplo hN) k
  have hm' : MRd (f 229) rd := by rw [h9]; exact hm
  have hmp' : MPl (f 229) pl := by rw [h9]; exact hmp
  refine r_iload_n rfl rfl ?_
  refine r_aload_n rfl rfl ?_
  refine r_getR rfl (by first | assumption | exact hs.o rfl) (by first | assumption | exact hs.g rfl) ?_
  refine r_iconst rfl ?_
  refine r_iald rfl (by first | assumption | exact hs.a rfl) (by omega) (by omega) ((zix (n := 2) rfl).trans hmp'.2.2.1) ?_
  refine r_icmp_ge rfl (by omega) (by omega) (fun hlt => ?_) (fun hlt => ?_)
  · have e : k = pl.2.1.toNat := by omega
    subst e
    exact KE f _ hkp h9 hf h29 h30
  · refine r_aload_n rfl rfl ?_
    refine r_iload_n rfl rfl ?_
    refine r_putI rfl (by first | assumption | exact hs.o rfl) ?_
    refine r_aload_n rfl rfl ?_
    refine r_getR rfl (by first | assumption | exact hs.o rfl) (by first | assumption | exact hs.g rfl) ?_
    refine r_bipush rfl ?_
    refine r_iload_n rfl rfl ?_
    refine r_iadd rfl ?_
    refine r_iconst rfl ?_
    have hdd := dClose_some (pl := pl) (rd := rd) (show (k : Int) < pl.2.1 by omega)
    refine r_iastN (42 + k) rfl (by first | assumption | exact hs.a rfl) (by omega) (by omega) (by omega) ?_
    have hm2 : MRd ((up2 (up2 f 219 23 (k : Int)) 229 (42 + k) 0) 229) (up2 rd 4 k 0) := mrd_wait (f := up2 f 219 23 (k : Int)) (by rw [up2_o _ _ (by omega)]; exact hm') (by omega)
    obtain ⟨c0, ht0⟩ := ht
    have ht2 : TM σ (up2 (up2 f 219 23 (k : Int)) 229 (42 + k) 0) g pl al (k : Int) := TM.sd (ht0.fr2 (fun c q1 q2 => up2_o _ _ q1) (fun i q => by rw [up2_o _ _ (by omega)]) (fun i q => up2_ne _ _ (by omega)) (by omega) (up2_same _ _ _ _)) (by omega)
    have H30 : (up2 (up2 f 219 23 (k : Int)) 229 (42 + k) 0) 219 30 = _ := (congrFun (up2_o _ _ (by omega)) _).trans ((up2_ne _ _ (by omega)).trans h30)
    have H29 : (up2 (up2 f 219 23 (k : Int)) 229 (42 + k) 0) 219 29 = _ := (congrFun (up2_o _ _ (by omega)) _).trans ((up2_ne _ _ (by omega)).trans h29)
    refine r_aload_n rfl rfl ?_
    refine r_iload_n rfl rfl ?_
    refine r_aload_n rfl rfl ?_
    refine r_iload_n rfl rfl ?_
    refine r_callV1 rfl rfl (by first | assumption | exact hs.o rfl) rfl (c_offAllIn (N := N + 1) (cl := (k : Int)) (rd := up2 rd 4 k 0) (n := n) (by omega) hs ht2 ((hv.close (by omega)).mono (by omega) (by omega)) (by omega) ((hkp.upM (by omega)).upS (by omega)) hm2 (fun f3 hk3 h93 h219 ht3 => ?_))
    have hrg := hdok.rng (al := al) (n := n) hplo hN k _ _ hdd
    unfold rGn at hrg
    have h303 : f3 219 30 = _ := (h219 30 (by omega) (by omega)).trans H30
    refine r_callV2 rfl rfl (by first | assumption | exact hs.o rfl) rfl (c_weighs (by omega) hs (by omega) (by omega) (by omega) h303 (fun hq => ?_) (fun hq1 hq2 => ?_)  )
    · refine r_iinc (L' := [_, _, _, _]) rfl rfl rfl ?_
      refine r_goto rfl ?_
      have e1 : rBest pl al n rd (dClose pl rd) (k + 1) = ((k : Int), rGn pl al ((k : Int)) n (up2 rd 4 k 0)) := rBest_lt hdd (by unfold rGn; omega)
      refine l_bClose hd1 hs hplo hv hN hm hmp KE (k + 1) (by omega) _ ((hk3.upM (by omega)).upM (by omega)) (by rw [up2_o _ _ (by omega), up2_o _ _ (by omega)]; exact h93) (fun i q => by rw [up2_ne _ _ (by omega), up2_ne _ _ (by omega), h219 i (by omega) (by omega)]; rw [up2_o _ _ (by omega), up2_ne _ _ (by omega)]; exact hf i q) ⟨_, (ht3.fr2 (fun c q1 q2 => by rw [up2_o _ _ q1, up2_o _ _ q1]) (fun i q => by rw [up2_o _ _ (by omega), up2_o _ _ (by omega)]) (fun i q => by rw [up2_ne _ _ (by omega), up2_ne _ _ (by omega)]) ht3.2.2.2.1 (by rw [up2_ne _ _ (by omega), up2_ne _ _ (by omega)]; exact ht3.2.2.1))⟩ (by rw [e1, up2_ne _ _ (by omega), up2_same]) (by rw [e1, up2_same]; rfl)
    · refine r_iinc (L' := [_, _, _, _]) rfl rfl rfl ?_
      refine r_goto rfl ?_
      have e1 : rBest pl al n rd (dClose pl rd) (k + 1) = rBest pl al n rd (dClose pl rd) k := rBest_ge hdd (by unfold rGn; omega)
      exact l_bClose hd1 hs hplo hv hN hm hmp KE (k + 1) (by omega) f3 hk3 h93 (fun i q => by rw [h219 i (by omega) (by omega)]; rw [up2_o _ _ (by omega), up2_ne _ _ (by omega)]; exact hf i q) ⟨_, ht3⟩ (by rw [e1]; exact (h219 29 (by omega) (by omega)).trans H29) (by rw [e1]; exact h303)
termination_by pl.2.1.toNat - k
/-- the first is laid down whatever stood there -/
theorem c_weighs1 (hd : 1 ≤ d) (hs : Sh σ g) {m : Int} (hm : IR m) (k1 : Q none σ (up2 (up2 f 219 29 (-1)) 219 30 m) g) : ZCt d 224 [zr (some 219), zi (-1), zi m] σ f g Q := by
  refine ZCt.of' (L0 := [_, _, _]) (by omega) rfl rfl rfl (fun d hd1 => ?_)
  refine r_iload_n rfl rfl ?_
  refine r_if_y rfl (by decide) ?_
  refine r_aload_n rfl rfl ?_
  refine r_iload_n rfl rfl ?_
  refine r_putI rfl (by first | assumption | exact hs.o rfl) ?_
  refine r_aload_n rfl rfl ?_
  refine r_iload_n rfl rfl ?_
  refine r_putI rfl (by first | assumption | exact hs.o rfl) ?_
  refine r_ret rfl ?_
  exact k1
theorem c_bestGrass (hd : 15 ≤ d) (hs : Sh σ g) (hM : MI f a) (hA : AOk N a) {n w : Int} (hni : IR n) (hwi : IR w) (K : ∀ f', FrMQ f f' → Q (some (zi (qDeed a (fun _ => dGrass a.w.rd) n w))) σ f' g) : ZCt d 222 [zr (some 219), zi n, zi w] σ f g Q := by
  refine ZCt.of' (L0 := [_, _, _, _]) (by omega) rfl rfl rfl (fun d hd1 => ?_)
  refine r_aload_n rfl rfl ?_
  refine r_callV0 rfl rfl (by first | assumption | exact hs.o rfl) rfl (c_shown (by omega) hs hM hA (fun pl rd0 hp => ?_) (fun hnp => ?_))
  · refine r_if_n rfl (by decide) ?_
    refine r_iload_n rfl rfl ?_
    refine r_i2l rfl (by omega) ?_
    refine r_lconst rfl ?_
    refine r_ldc2 rfl ?_
    refine r_callS3 rfl rfl rfl (c_in (by omega) (by omega) (by omega) (by omega) (fun hn => ?_) (fun hn => ?_))
    · refine r_if_n rfl (by decide) ?_
      refine r_iload_n rfl rfl ?_
      refine r_i2l rfl (by omega) ?_
      refine r_lconst rfl ?_
      refine r_lconst rfl ?_
      refine r_callS3 rfl rfl rfl (c_in (by omega) (by omega) (by omega) (by omega) (fun hw => ?_) (fun hw => ?_))
      · refine r_if_y rfl (by decide) ?_
        refine r_aload_n rfl rfl ?_
        obtain ⟨hplo, hvr, hst⟩ := hA.plS hp
        have hN := hA.2.2.2.2.2.2.2
        have hvs := hvr.vs
        have ht0 : TM σ f g pl (AL a a.fo pl) (-1) := MI.tm hs hM hA hp
        have hm0 : MRd (f 229) a.w.rd := hM.w.2.1
        refine r_callV0 rfl rfl (by first | assumption | exact hs.o rfl) rfl (c_keeps (by omega) hs (fun f1 hk1 he1 => ?_))
        have ht1 : TM σ f1 g pl (AL a a.fo pl) (-1) := ht0.k1 he1
        have hm1 : MRd (f1 229) a.w.rd := by rw [he1 229 (by omega)]; exact hm0
        obtain ⟨nn, rfl⟩ := Int.eq_ofNat_of_zero_le (show 0 ≤ n by omega)
        have hr0 := rGn_rng (al := AL a a.fo pl) (n := nn) hplo hvs (by omega)
        unfold rGn at hr0
        refine r_aload_n rfl rfl ?_
        refine r_iconst rfl ?_
        refine r_aload_n rfl rfl ?_
        refine r_iload_n rfl rfl ?_
        refine r_callV1 rfl rfl (by first | assumption | exact hs.o rfl) rfl (c_offAllIn (n := nn) (by omega) hs ht1 hvs (by omega) hk1 hm1 (fun f3 hk3 h93 h219 ht3 => ?_))
        refine r_callV2 rfl rfl (by first | assumption | exact hs.o rfl) rfl (c_weighs1 (by omega) hs (by omega) ?_  )
        refine r_iconst rfl ?_
        refine r_istore_n (L' := [_, _, _, _]) rfl rfl rfl ?_
        have h219b : ∀ i, i = 21 ∨ i = 24 ∨ i = 23 → up2 (up2 f3 219 29 (-1)) 219 30 (rIt pl (AL a a.fo pl) (-1) nn a.w.rd 5 1 - a.w.rd 5 1) 219 i = f 219 i := fun i q => by rw [up2_ne _ _ (by omega), up2_ne _ _ (by omega), h219 i (by omega) (by omega), he1 219 (by omega)]
        refine l_bGrass (rd := a.w.rd) (al := AL a a.fo pl) (by omega) hs (f00 := f) hplo hvs (n := nn) (by omega) hm0 (hM.plS hp).1 (fun f4 x hk4 h94 hf4 h29 h30 => ?_) 0 (by omega) _ ((hk3.upM (by omega)).upM (by omega)) (by rw [up2_o _ _ (by omega), up2_o _ _ (by omega)]; exact h93) (fun i q => h219b i (by omega)) (ht3.fr2 (fun c q1 q2 => by rw [up2_o _ _ q1, up2_o _ _ q1]) (fun i q => by rw [up2_o _ _ (by omega), up2_o _ _ (by omega)]) (fun i q => by rw [up2_ne _ _ (by omega), up2_ne _ _ (by omega)]) ht3.2.2.2.1 (by rw [up2_ne _ _ (by omega), up2_ne _ _ (by omega)]; exact ht3.2.2.1)) (by rw [up2_ne _ _ (by omega), up2_same]; rfl) (by rw [up2_same]; rfl)
        rw [qDeed_yes (dd := fun _ => dGrass a.w.rd) hp (by omega) (m := 6) (by have := hplo.1; have := hplo.2.1; omega) (fun k q => if_neg (fun z => by omega))] at K
        refine r_iload_n rfl rfl ?_
        refine r_if_ne rfl (by omega) (fun hw0 => ?_) (fun hw0 => ?_)
        · refine r_aload_n rfl rfl ?_
          refine r_getI rfl (by first | assumption | exact hs.o rfl) h30 ?_
          refine r_iret rfl ?_
          first | (rw [if_pos (by omega)] at K; exact K f4 (hk4.back h94 (fun i q => hf4 i (by omega)))) | (rw [if_neg (by omega)] at K; exact K f4 (hk4.back h94 (fun i q => hf4 i (by omega))))
        · refine r_aload_n rfl rfl ?_
          refine r_getI rfl (by first | assumption | exact hs.o rfl) h29 ?_
          refine r_goto rfl ?_
          refine r_iret rfl ?_
          first | (rw [if_pos (by omega)] at K; exact K f4 (hk4.back h94 (fun i q => hf4 i (by omega)))) | (rw [if_neg (by omega)] at K; exact K f4 (hk4.back h94 (fun i q => hf4 i (by omega))))
      · refine r_if_n rfl (by decide) ?_
        refine r_bipush rfl ?_
        refine r_iret rfl ?_
        first | (rw [qDeed_no (Or.inr (by omega))] at K; exact K f (FrMQ.rf f)) | (rw [qDeed_no (Or.inl hnp)] at K; exact K f (FrMQ.rf f))
    · refine r_if_y rfl (by decide) ?_
      refine r_bipush rfl ?_
      refine r_iret rfl ?_
      first | (rw [qDeed_no (Or.inr (by omega))] at K; exact K f (FrMQ.rf f)) | (rw [qDeed_no (Or.inl hnp)] at K; exact K f (FrMQ.rf f))
  · refine r_if_y rfl (by decide) ?_
    refine r_bipush rfl ?_
    refine r_iret rfl ?_
    first | (rw [qDeed_no (Or.inr (by omega))] at K; exact K f (FrMQ.rf f)) | (rw [qDeed_no (Or.inl hnp)] at K; exact K f (FrMQ.rf f))
theorem c_bestFill (hd : 15 ≤ d) (hs : Sh σ g) (hM : MI f a) (hA : AOk N a) {n w : Int} (hni : IR n) (hwi : IR w) (K : ∀ f', FrMQ f f' → Q (some (zi (qDeed a (fun pl => dFill pl a.w.rd) n w))) σ f' g) : ZCt d 225 [zr (some 219), zi n, zi w] σ f g Q := by
  refine ZCt.of' (L0 := [_, _, _, _]) (by omega) rfl rfl rfl (fun d hd1 => ?_)
  refine r_aload_n rfl rfl ?_
  refine r_callV0 rfl rfl (by first | assumption | exact hs.o rfl) rfl (c_shown (by omega) hs hM hA (fun pl rd0 hp => ?_) (fun hnp => ?_))
  · refine r_if_n rfl (by decide) ?_
    refine r_iload_n rfl rfl ?_
    refine r_i2l rfl (by omega) ?_
    refine r_lconst rfl ?_
    refine r_ldc2 rfl ?_
    refine r_callS3 rfl rfl rfl (c_in (by omega) (by omega) (by omega) (by omega) (fun hn => ?_) (fun hn => ?_))
    · refine r_if_n rfl (by decide) ?_
      refine r_iload_n rfl rfl ?_
      refine r_i2l rfl (by omega) ?_
      refine r_lconst rfl ?_
      refine r_lconst rfl ?_
      refine r_callS3 rfl rfl rfl (c_in (by omega) (by omega) (by omega) (by omega) (fun hw => ?_) (fun hw => ?_))
      · refine r_if_y rfl (by decide) ?_
        refine r_aload_n rfl rfl ?_
        obtain ⟨hplo, hvr, hst⟩ := hA.plS hp
        have hN := hA.2.2.2.2.2.2.2
        have hvs := hvr.vs
        have ht0 : TM σ f g pl (AL a a.fo pl) (-1) := MI.tm hs hM hA hp
        have hm0 : MRd (f 229) a.w.rd := hM.w.2.1
        refine r_callV0 rfl rfl (by first | assumption | exact hs.o rfl) rfl (c_keeps (by omega) hs (fun f1 hk1 he1 => ?_))
        have ht1 : TM σ f1 g pl (AL a a.fo pl) (-1) := ht0.k1 he1
        have hm1 : MRd (f1 229) a.w.rd := by rw [he1 229 (by omega)]; exact hm0
        obtain ⟨nn, rfl⟩ := Int.eq_ofNat_of_zero_le (show 0 ≤ n by omega)
        have hr0 := rGn_rng (al := AL a a.fo pl) (n := nn) hplo hvs (by omega)
        unfold rGn at hr0
        refine r_aload_n rfl rfl ?_
        refine r_iconst rfl ?_
        refine r_aload_n rfl rfl ?_
        refine r_iload_n rfl rfl ?_
        refine r_callV1 rfl rfl (by first | assumption | exact hs.o rfl) rfl (c_offAllIn (n := nn) (by omega) hs ht1 hvs (by omega) hk1 hm1 (fun f3 hk3 h93 h219 ht3 => ?_))
        refine r_callV2 rfl rfl (by first | assumption | exact hs.o rfl) rfl (c_weighs1 (by omega) hs (by omega) ?_  )
        refine r_iconst rfl ?_
        refine r_istore_n (L' := [_, _, _, _]) rfl rfl rfl ?_
        have h219b : ∀ i, i = 21 ∨ i = 24 ∨ i = 23 → up2 (up2 f3 219 29 (-1)) 219 30 (rIt pl (AL a a.fo pl) (-1) nn a.w.rd 5 1 - a.w.rd 5 1) 219 i = f 219 i := fun i q => by rw [up2_ne _ _ (by omega), up2_ne _ _ (by omega), h219 i (by omega) (by omega), he1 219 (by omega)]
        refine l_bFill (rd := a.w.rd) (al := AL a a.fo pl) (by omega) hs (f00 := f) hplo hvs (n := nn) (by omega) hm0 (hM.plS hp).1 (fun f4 x hk4 h94 hf4 h29 h30 => ?_) 0 (by omega) _ ((hk3.upM (by omega)).upM (by omega)) (by rw [up2_o _ _ (by omega), up2_o _ _ (by omega)]; exact h93) (fun i q => h219b i (by omega)) (ht3.fr2 (fun c q1 q2 => by rw [up2_o _ _ q1, up2_o _ _ q1]) (fun i q => by rw [up2_o _ _ (by omega), up2_o _ _ (by omega)]) (fun i q => by rw [up2_ne _ _ (by omega), up2_ne _ _ (by omega)]) ht3.2.2.2.1 (by rw [up2_ne _ _ (by omega), up2_ne _ _ (by omega)]; exact ht3.2.2.1)) (by rw [up2_ne _ _ (by omega), up2_same]; rfl) (by rw [up2_same]; rfl)
        rw [qDeed_yes (dd := fun pl => dFill pl a.w.rd) hp (by omega) (m := pl.1.toNat) (by have := hplo.1; have := hplo.2.1; omega) (fun k q => if_neg (fun z => by omega))] at K
        refine r_iload_n rfl rfl ?_
        refine r_if_ne rfl (by omega) (fun hw0 => ?_) (fun hw0 => ?_)
        · refine r_aload_n rfl rfl ?_
          refine r_getI rfl (by first | assumption | exact hs.o rfl) h30 ?_
          refine r_iret rfl ?_
          first | (rw [if_pos (by omega)] at K; exact K f4 (hk4.back h94 (fun i q => hf4 i (by omega)))) | (rw [if_neg (by omega)] at K; exact K f4 (hk4.back h94 (fun i q => hf4 i (by omega))))
        · refine r_aload_n rfl rfl ?_
          refine r_getI rfl (by first | assumption | exact hs.o rfl) h29 ?_
          refine r_goto rfl ?_
          refine r_iret rfl ?_
          first | (rw [if_pos (by omega)] at K; exact K f4 (hk4.back h94 (fun i q => hf4 i (by omega)))) | (rw [if_neg (by omega)] at K; exact K f4 (hk4.back h94 (fun i q => hf4 i (by omega))))
      · refine r_if_n rfl (by decide) ?_
        refine r_bipush rfl ?_
        refine r_iret rfl ?_
        first | (rw [qDeed_no (Or.inr (by omega))] at K; exact K f (FrMQ.rf f)) | (rw [qDeed_no (Or.inl hnp)] at K; exact K f (FrMQ.rf f))
    · refine r_if_y rfl (by decide) ?_
      refine r_bipush rfl ?_
      refine r_iret rfl ?_
      first | (rw [qDeed_no (Or.inr (by omega))] at K; exact K f (FrMQ.rf f)) | (rw [qDeed_no (Or.inl hnp)] at K; exact K f (FrMQ.rf f))
  · refine r_if_y rfl (by decide) ?_
    refine r_bipush rfl ?_
    refine r_iret rfl ?_
    first | (rw [qDeed_no (Or.inr (by omega))] at K; exact K f (FrMQ.rf f)) | (rw [qDeed_no (Or.inl hnp)] at K; exact K f (FrMQ.rf f))
theorem c_closed (hd : 15 ≤ d) (hs : Sh σ g) (hM : MI f a) (hA : AOk N a) {n w : Int} (hni : IR n) (hwi : IR w) (K : ∀ f', FrMQ f f' → Q (some (zi (qDeed a (fun pl => dClose pl a.w.rd) n w))) σ f' g) : ZCt d 226 [zr (some 219), zi n, zi w] σ f g Q := by
  refine ZCt.of' (L0 := [_, _, _, _]) (by omega) rfl rfl rfl (fun d hd1 => ?_)
  refine r_aload_n rfl rfl ?_
  refine r_callV0 rfl rfl (by first | assumption | exact hs.o rfl) rfl (c_shown (by omega) hs hM hA (fun pl rd0 hp => ?_) (fun hnp => ?_))
  · refine r_if_n rfl (by decide) ?_
    refine r_iload_n rfl rfl ?_
    refine r_i2l rfl (by omega) ?_
    refine r_lconst rfl ?_
    refine r_ldc2 rfl ?_
    refine r_callS3 rfl rfl rfl (c_in (by omega) (by omega) (by omega) (by omega) (fun hn => ?_) (fun hn => ?_))
    · refine r_if_n rfl (by decide) ?_
      refine r_iload_n rfl rfl ?_
      refine r_i2l rfl (by omega) ?_
      refine r_lconst rfl ?_
      refine r_lconst rfl ?_
      refine r_callS3 rfl rfl rfl (c_in (by omega) (by omega) (by omega) (by omega) (fun hw => ?_) (fun hw => ?_))
      · refine r_if_y rfl (by decide) ?_
        refine r_aload_n rfl rfl ?_
        obtain ⟨hplo, hvr, hst⟩ := hA.plS hp
        have hN := hA.2.2.2.2.2.2.2
        have hvs := hvr.vs
        have ht0 : TM σ f g pl (AL a a.fo pl) (-1) := MI.tm hs hM hA hp
        have hm0 : MRd (f 229) a.w.rd := hM.w.2.1
        refine r_callV0 rfl rfl (by first | assumption | exact hs.o rfl) rfl (c_keeps (by omega) hs (fun f1 hk1 he1 => ?_))
        have ht1 : TM σ f1 g pl (AL a a.fo pl) (-1) := ht0.k1 he1
        have hm1 : MRd (f1 229) a.w.rd := by rw [he1 229 (by omega)]; exact hm0
        obtain ⟨nn, rfl⟩ := Int.eq_ofNat_of_zero_le (show 0 ≤ n by omega)
        have hr0 := rGn_rng (al := AL a a.fo pl) (n := nn) hplo hvs (by omega)
        unfold rGn at hr0
        refine r_aload_n rfl rfl ?_
        refine r_iconst rfl ?_
        refine r_aload_n rfl rfl ?_
        refine r_iload_n rfl rfl ?_
        refine r_callV1 rfl rfl (by first | assumption | exact hs.o rfl) rfl (c_offAllIn (n := nn) (by omega) hs ht1 hvs (by omega) hk1 hm1 (fun f3 hk3 h93 h219 ht3 => ?_))
        refine r_callV2 rfl rfl (by first | assumption | exact hs.o rfl) rfl (c_weighs1 (by omega) hs (by omega) ?_  )
        refine r_iconst rfl ?_
        refine r_istore_n (L' := [_, _, _, _]) rfl rfl rfl ?_
        have h219b : ∀ i, i = 21 ∨ i = 24 ∨ i = 23 → up2 (up2 f3 219 29 (-1)) 219 30 (rIt pl (AL a a.fo pl) (-1) nn a.w.rd 5 1 - a.w.rd 5 1) 219 i = f 219 i := fun i q => by rw [up2_ne _ _ (by omega), up2_ne _ _ (by omega), h219 i (by omega) (by omega), he1 219 (by omega)]
        refine l_bClose (rd := a.w.rd) (al := AL a a.fo pl) (by omega) hs (f00 := f) hplo hvs (n := nn) (by omega) hm0 (hM.plS hp).1 (fun f4 x hk4 h94 hf4 h29 h30 => ?_) 0 (by omega) _ ((hk3.upM (by omega)).upM (by omega)) (by rw [up2_o _ _ (by omega), up2_o _ _ (by omega)]; exact h93) (fun i q => h219b i (by omega)) ⟨_, (ht3.fr2 (fun c q1 q2 => by rw [up2_o _ _ q1, up2_o _ _ q1]) (fun i q => by rw [up2_o _ _ (by omega), up2_o _ _ (by omega)]) (fun i q => by rw [up2_ne _ _ (by omega), up2_ne _ _ (by omega)]) ht3.2.2.2.1 (by rw [up2_ne _ _ (by omega), up2_ne _ _ (by omega)]; exact ht3.2.2.1))⟩ (by rw [up2_ne _ _ (by omega), up2_same]; rfl) (by rw [up2_same]; rfl)
        rw [qDeed_yes (dd := fun pl => dClose pl a.w.rd) hp (by omega) (m := pl.2.1.toNat) (by have := hplo.1; have := hplo.2.1; omega) (fun k q => if_neg (fun z => by omega))] at K
        have hB : ∀ i, i = 21 ∨ i = 23 ∨ i = 24 → up2 f4 219 23 (-1) 219 i = f 219 i := by
          intro i q
          by_cases e : i = 23
          · subst e; rw [up2_same]; exact hM.cl.symm
          · rw [up2_ne _ _ (fun z => e z.2)]; exact hf4 i (by omega)
        refine r_aload_n rfl rfl ?_
        refine r_iconst rfl ?_
        refine r_putI rfl (by first | assumption | exact hs.o rfl) ?_
        refine r_iload_n rfl rfl ?_
        refine r_if_ne rfl (by omega) (fun hw0 => ?_) (fun hw0 => ?_)
        · refine r_aload_n rfl rfl ?_
          refine r_getI rfl (by first | assumption | exact hs.o rfl) ((up2_ne _ _ (by omega)).trans h30) ?_
          refine r_iret rfl ?_
          first | (rw [if_pos (by omega)] at K; exact K _ ((hk4.upM (by omega)).back (by rw [up2_o _ _ (by omega)]; exact h94) hB)) | (rw [if_neg (by omega)] at K; exact K _ ((hk4.upM (by omega)).back (by rw [up2_o _ _ (by omega)]; exact h94) hB))
        · refine r_aload_n rfl rfl ?_
          refine r_getI rfl (by first | assumption | exact hs.o rfl) ((up2_ne _ _ (by omega)).trans h29) ?_
          refine r_goto rfl ?_
          refine r_iret rfl ?_
          first | (rw [if_pos (by omega)] at K; exact K _ ((hk4.upM (by omega)).back (by rw [up2_o _ _ (by omega)]; exact h94) hB)) | (rw [if_neg (by omega)] at K; exact K _ ((hk4.upM (by omega)).back (by rw [up2_o _ _ (by omega)]; exact h94) hB))
      · refine r_if_n rfl (by decide) ?_
        refine r_bipush rfl ?_
        refine r_iret rfl ?_
        first | (rw [qDeed_no (Or.inr (by omega))] at K; exact K f (FrMQ.rf f)) | (rw [qDeed_no (Or.inl hnp)] at K; exact K f (FrMQ.rf f))
    · refine r_if_y rfl (by decide) ?_
      refine r_bipush rfl ?_
      refine r_iret rfl ?_
      first | (rw [qDeed_no (Or.inr (by omega))] at K; exact K f (FrMQ.rf f)) | (rw [qDeed_no (Or.inl hnp)] at K; exact K f (FrMQ.rf f))
  · refine r_if_y rfl (by decide) ?_
    refine r_bipush rfl ?_
    refine r_iret rfl ?_
    first | (rw [qDeed_no (Or.inr (by omega))] at K; exact K f (FrMQ.rf f)) | (rw [qDeed_no (Or.inl hnp)] at K; exact K f (FrMQ.rf f))
theorem k_doGrass (hd : 3 ≤ d) {f00 : ZF} {g00 : ZG} {k : Nat} (hk : k < 20) (hI : CI σ f00 g00 a) (hA : AOk N a) (hp : a.w.pn = some (pl, rd0)) (hf : FrQ f00 f) (hg : FrG g00 g) (ht : TR σ f g p pl al (-1)) (h : RC f 47 a.w.rd) (k1 : ∀ f' rd' cl, (dGrass a.w.rd) k = some (rd', cl) → FrQ f00 f' → TR σ f' g p pl al cl → RC f' 47 rd' → Q (some (zi 1)) σ f' g) (k2 : (dGrass a.w.rd) k = none → Q (some (zi 0)) σ f g) : ZCt d 95 [zr (some 0), zr (some 47), zi 0, zi (k : Int)] σ f g Q := by
  refine ZCt.of' (L0 := [_, _, _, _]) (by omega) rfl rfl rfl (fun d hd1 => ?_)
  have hIf := hI.fr hf hg
  have hs := hIf.sh
  obtain ⟨oo, ⟨a1, a2, a3, a4, a5⟩, g0, g1, g2, g3, g4⟩ := hs.r47
  obtain ⟨hplo, hvr, hst⟩ := hA.plS hp
  have hp1 := hplo.1
  have hp2 := hplo.2.1
  refine r_iload_n rfl rfl ?_
  refine r_lsw rfl (by omega) (And.intro (fun _ => ?_) (fun e => absurd rfl e))
  refine r_aload_n rfl rfl ?_
  refine r_iload_n rfl rfl ?_
  refine r_callV1 rfl rfl (by first | assumption | exact hs.o rfl) rfl (k_isOn (by omega) hIf hA (x := (k : Int)) (by omega) (fun k' hxk hk6 hk0 => ?_) (fun hoff => ?_))
  · refine r_if_y rfl (by decide) ?_
    refine r_aload_n rfl rfl ?_
    refine r_iload_n rfl rfl ?_
    have e : k' = k := by omega
    subst e
    have hok := hvr.1.2.2.1 k' hk6
    refine r_callV1 rfl rfl (by first | assumption | exact hs.o rfl) rfl (k_goOverGrass (by omega) hs.r47 h hk6 (by omega) hvr.2.1 (fun f1 hf1 hc1 => ?_))
    refine r_iconst rfl ?_
    refine r_zret rfl (by omega) ?_
    exact k1 f1 _ _ (dGrass_some hk6 (by omega)) (hf.r hf1 (by omega)) (ht.fr rr47 ((FrC.rf 47 f).r rr47 hf1)) hc1
  · refine r_if_n rfl (by decide) ?_
    refine r_iconst rfl ?_
    refine r_zret rfl (by omega) ?_
    exact k2 (if_neg (fun q => q.2 (hoff k rfl q.1)))
theorem k_doFill (hd : 3 ≤ d) {f00 : ZF} {g00 : ZG} {k : Nat} (hk : k < 20) (hI : CI σ f00 g00 a) (hA : AOk N a) (hp : a.w.pn = some (pl, rd0)) (hf : FrQ f00 f) (hg : FrG g00 g) (ht : TR σ f g p pl al (-1)) (h : RC f 47 a.w.rd) (k1 : ∀ f' rd' cl, (dFill pl a.w.rd) k = some (rd', cl) → FrQ f00 f' → TR σ f' g p pl al cl → RC f' 47 rd' → Q (some (zi 1)) σ f' g) (k2 : (dFill pl a.w.rd) k = none → Q (some (zi 0)) σ f g) : ZCt d 95 [zr (some 0), zr (some 47), zi 1, zi (k : Int)] σ f g Q := by
  refine ZCt.of' (L0 := [_, _, _, _]) (by omega) rfl rfl rfl (fun d hd1 => ?_)
  have hIf := hI.fr hf hg
  have hs := hIf.sh
  obtain ⟨oo, ⟨a1, a2, a3, a4, a5⟩, g0, g1, g2, g3, g4⟩ := hs.r47
  obtain ⟨hplo, hvr, hst⟩ := hA.plS hp
  have hp1 := hplo.1
  have hp2 := hplo.2.1
  refine r_iload_n rfl rfl ?_
  refine r_lsw rfl (by omega) (And.intro (fun e => absurd e (by decide)) (fun _ => (And.intro (fun _ => ?_) (fun e => absurd rfl e))))
  refine r_aload_n rfl rfl ?_
  refine r_iload_n rfl rfl ?_
  refine r_callV1 rfl rfl (by first | assumption | exact hs.o rfl) rfl (k_isCell (by omega) hIf hA (x := (k : Int)) (by omega) (fun pl1 rd1 hp1' hcell => ?_) (fun hnc => ?_))
  · refine r_if_n rfl (by decide) ?_
    refine r_aload_n rfl rfl ?_
    refine r_iload_n rfl rfl ?_
    rw [hp] at hp1'
    cases hp1'
    refine r_callV1 rfl rfl (by first | assumption | exact hs.o rfl) rfl (k_hasGap (by omega) hs.r47 h hk (fun hgap => ?_) (fun hgap => ?_))
    · refine r_if_y rfl (by decide) ?_
      refine r_aload_n rfl rfl ?_
      refine r_iload_n rfl rfl ?_
      refine r_callV1 rfl rfl (by first | assumption | exact hs.o rfl) rfl (k_closeGap (by omega) hs.r47 h hk (fun f1 hf1 hc1 => ?_))
      refine r_iconst rfl ?_
      refine r_zret rfl (by omega) ?_
      exact k1 f1 _ _ (dFill_some (by omega) hgap) (hf.r hf1 (by omega)) (ht.fr rr47 ((FrC.rf 47 f).r rr47 hf1)) hc1
    · refine r_if_n rfl (by decide) ?_
      refine r_iconst rfl ?_
      refine r_zret rfl (by omega) ?_
      first | exact k2 (if_neg (fun q => hgap q.2)) | exact k2 (if_neg (fun q => hnc pl rd0 hp ⟨by omega, q.1⟩))
  · refine r_if_y rfl (by decide) ?_
    refine r_iconst rfl ?_
    refine r_zret rfl (by omega) ?_
    first | exact k2 (if_neg (fun q => hgap q.2)) | exact k2 (if_neg (fun q => hnc pl rd0 hp ⟨by omega, q.1⟩))
theorem k_doClose (hd : 3 ≤ d) {f00 : ZF} {g00 : ZG} {k : Nat} (hk : k < 20) (hI : CI σ f00 g00 a) (hA : AOk N a) (hp : a.w.pn = some (pl, rd0)) (hf : FrQ f00 f) (hg : FrG g00 g) (ht : TR σ f g p pl al (-1)) (h : RC f 47 a.w.rd) (k1 : ∀ f' rd' cl, (dClose pl a.w.rd) k = some (rd', cl) → FrQ f00 f' → TR σ f' g p pl al cl → RC f' 47 rd' → Q (some (zi 1)) σ f' g) (k2 : (dClose pl a.w.rd) k = none → Q (some (zi 0)) σ f g) : ZCt d 95 [zr (some 0), zr (some 47), zi 2, zi (k : Int)] σ f g Q := by
  refine ZCt.of' (L0 := [_, _, _, _]) (by omega) rfl rfl rfl (fun d hd1 => ?_)
  have hIf := hI.fr hf hg
  have hs := hIf.sh
  obtain ⟨oo, ⟨a1, a2, a3, a4, a5⟩, g0, g1, g2, g3, g4⟩ := hs.r47
  obtain ⟨hplo, hvr, hst⟩ := hA.plS hp
  have hp1 := hplo.1
  have hp2 := hplo.2.1
  refine r_iload_n rfl rfl ?_
  refine r_lsw rfl (by omega) (And.intro (fun e => absurd e (by decide)) (fun _ => (And.intro (fun e => absurd e (by decide)) (fun _ => ?_))))
  refine r_aload_n rfl rfl ?_
  refine r_iload_n rfl rfl ?_
  refine r_callV1 rfl rfl (by first | assumption | exact hs.o rfl) rfl (k_isRoad (by omega) hIf hA (x := (k : Int)) (by omega) (fun pl1 rd1 hp1' hroad => ?_) (fun hnr => ?_))
  · refine r_if_y rfl (by decide) ?_
    rw [hp] at hp1'
    cases hp1'
    refine r_aload_n rfl rfl ?_
    refine r_getR rfl (by first | assumption | exact hs.o rfl) (by first | assumption | exact hs.g rfl) ?_
    refine r_iload_n rfl rfl ?_
    refine r_iconst rfl ?_
    refine r_iastN (k) rfl (by first | assumption | exact hs.a rfl) (by omega) (by omega) (by omega) ?_
    refine r_aload_n rfl rfl ?_
    refine r_getR rfl (by first | assumption | exact hs.o rfl) (by first | assumption | exact hs.g rfl) ?_
    refine r_iload_n rfl rfl ?_
    refine r_putI rfl (by first | assumption | exact hs.o rfl) ?_
    refine r_iconst rfl ?_
    refine r_zret rfl (by omega) ?_
    exact k1 _ _ _ (dClose_some (by omega)) ((hf.up (by omega)).up (by omega)) ((ht.fr rr47 ((FrC.rf 47 f).up rr47 (by omega))).clS (by omega)) ((h.w (by omega)).fr (fun c q1 q2 => up2_o _ _ (by omega)))
  · refine r_if_n rfl (by decide) ?_
    refine r_iconst rfl ?_
    refine r_zret rfl (by omega) ?_
    exact k2 (if_neg (fun q => hnr pl rd0 hp ⟨by omega, q⟩))
theorem l_cBestGrass (hd1 : 7 ≤ d) {f00 : ZF} {g00 : ZG} (hI : CI σ f00 g00 a) (hA : AOk N a) (hp : a.w.pn = some (pl, rd0)) {n : Nat} (hN : N + 1 + 7 * (n : Int) ≤ 1000000) {w : Int} (KE : ∀ f' g' x6 x7 x8, FrQ f00 f' → FrG g00 g' → ZWp d zt94 104 [zr (some 0), zi 0, zi (n : Int), zi w, zi (rBest pl (AL a a.fo pl) n a.w.rd (dGrass a.w.rd) 20).1, zi (rBest pl (AL a a.fo pl) n a.w.rd (dGrass a.w.rd) 20).2, x6, x7, x8] [] σ f' g' Q) (k : Nat) (hk : k ≤ 20) (f : ZF) (g : ZG) (x7 x8 : ZV) (hf : FrQ f00 f) (hg : FrG g00 g) : ZWp d zt94 46 [zr (some 0), zi 0, zi (n : Int), zi w, zi (rBest pl (AL a a.fo pl) n a.w.rd (dGrass a.w.rd) k).1, zi (rBest pl (AL a a.fo pl) n a.w.rd (dGrass a.w.rd) k).2, zi (k : Int), x7, x8] [] σ f g Q := by
  have hIf := hI.fr hf hg
  have hs := hIf.sh
  obtain ⟨hplo, hvr, hst⟩ := hA.plS hp
  have hvs := hvr.vs
  have hvN := hvr.1.2.2.2.2.2.2
  have hdok : DOk pl N (dGrass a.w.rd) := dGrass_ok hvs (by omega)
  have hbr := rBest_rng (al := AL a a.fo pl) hplo hvs (n := n) (by omega) (hdok.rng hplo hN) k
  refine r_iload rfl rfl ?_
  refine r_bipush rfl ?_
  refine r_icmp_ge rfl (by omega) (by omega) (fun hlt => ?_) (fun hlt => ?_)
  · have e : k = 20 := by omega
    subst e
    exact KE f g _ _ _ hf hg
  · refine r_aload_n rfl rfl ?_
    refine r_callV0 rfl rfl (by first | assumption | exact hs.o rfl) rfl (k_tryN (by omega) hIf hA hp (fun f1 g1 p hf1 hg1 ht1 hc1 => ?_))
    have hs1 := hs.frg hg1
    obtain ⟨oo, ⟨a1, a2, a3, a4, a5⟩, gg0, gg1, gg2, gg3, gg4⟩ := hs1.r47
    refine r_astore (L' := [_, _, _, _, _, _, _, _, _]) rfl rfl rfl ?_
    refine r_aload_n rfl rfl ?_
    refine r_aload rfl rfl ?_
    refine r_iload_n rfl rfl ?_
    refine r_iload rfl rfl ?_
    refine r_callV3 rfl rfl (by first | assumption | exact hs.o rfl) rfl (k_doGrass (by omega) (by omega) hI hA hp (hf.trans hf1) (hg.trans hg1) ht1 hc1 (fun f2 rd' cl hdd hf2 ht2 hc2 => ?_) (fun hnone => ?_))
    · refine r_if_y rfl (by decide) ?_
      refine r_aload_n rfl rfl ?_
      refine r_aload rfl rfl ?_
      refine r_iload_n rfl rfl ?_
      have hvs2 := (hdok k rd' cl hdd).1
      have hrg := hdok.rng (al := AL a a.fo pl) (n := n) hplo hN k _ _ hdd
      unfold rGn at hrg
      refine r_callV2 rfl rfl (by first | assumption | exact hs.o rfl) rfl (k_goneIn (n := n) (by omega) hs1 ht2 hvs2 (by omega) hc2 (fun f3 hf3 ht3 hc3 => ?_))
      refine r_istore (L' := [_, _, _, _, _, _, _, _, _]) rfl rfl rfl ?_
      refine r_iload rfl rfl ?_
      refine r_iload rfl rfl ?_
      refine r_icmp_le rfl (by omega) (by omega) (fun hle => ?_) (fun hle => ?_)
      · refine r_iinc (L' := [_, _, _, _, _, _, _, _, _]) rfl rfl rfl ?_
        refine r_goto rfl ?_
        first
        | (rw [← rBest_none (pl := pl) (al := AL a a.fo pl) (n := n) (rd := a.w.rd) hnone]; exact l_cBestGrass hd1 hI hA hp hN KE (k + 1) (by omega) _ _ _ _ (hf.trans hf1) (hg.trans hg1))
        | (rw [← rBest_ge (pl := pl) (al := AL a a.fo pl) (n := n) (rd := a.w.rd) hdd (by unfold rGn; omega)]; exact l_cBestGrass hd1 hI hA hp hN KE (k + 1) (by omega) _ _ _ _ (hf2.c47 hf3) (hg.trans hg1))
        | (have e1 := rBest_lt (pl := pl) (al := AL a a.fo pl) (n := n) (rd := a.w.rd) hdd (by unfold rGn; omega); have := fun x7 x8 => l_cBestGrass hd1 hI hA hp hN KE (k + 1) (by omega) f3 g1 x7 x8 (hf2.c47 hf3) (hg.trans hg1); simp only [e1] at this; exact this _ _)
      · refine r_iload rfl rfl ?_
        refine r_istore (L' := [_, _, _, _, _, _, _, _, _]) rfl rfl rfl ?_
        refine r_iload rfl rfl ?_
        refine r_istore (L' := [_, _, _, _, _, _, _, _, _]) rfl rfl rfl ?_
        refine r_iinc (L' := [_, _, _, _, _, _, _, _, _]) rfl rfl rfl ?_
        refine r_goto rfl ?_
        first
        | (rw [← rBest_none (pl := pl) (al := AL a a.fo pl) (n := n) (rd := a.w.rd) hnone]; exact l_cBestGrass hd1 hI hA hp hN KE (k + 1) (by omega) _ _ _ _ (hf.trans hf1) (hg.trans hg1))
        | (rw [← rBest_ge (pl := pl) (al := AL a a.fo pl) (n := n) (rd := a.w.rd) hdd (by unfold rGn; omega)]; exact l_cBestGrass hd1 hI hA hp hN KE (k + 1) (by omega) _ _ _ _ (hf2.c47 hf3) (hg.trans hg1))
        | (have e1 := rBest_lt (pl := pl) (al := AL a a.fo pl) (n := n) (rd := a.w.rd) hdd (by unfold rGn; omega); have := fun x7 x8 => l_cBestGrass hd1 hI hA hp hN KE (k + 1) (by omega) f3 g1 x7 x8 (hf2.c47 hf3) (hg.trans hg1); simp only [e1] at this; exact this _ _)
    · refine r_if_n rfl (by decide) ?_
      refine r_goto rfl ?_
      refine r_iinc (L' := [_, _, _, _, _, _, _, _, _]) rfl rfl rfl ?_
      refine r_goto rfl ?_
      first
      | (rw [← rBest_none (pl := pl) (al := AL a a.fo pl) (n := n) (rd := a.w.rd) hnone]; exact l_cBestGrass hd1 hI hA hp hN KE (k + 1) (by omega) _ _ _ _ (hf.trans hf1) (hg.trans hg1))
      | (rw [← rBest_ge (pl := pl) (al := AL a a.fo pl) (n := n) (rd := a.w.rd) hdd (by unfold rGn; omega)]; exact l_cBestGrass hd1 hI hA hp hN KE (k + 1) (by omega) _ _ _ _ (hf2.c47 hf3) (hg.trans hg1))
      | (have e1 := rBest_lt (pl := pl) (al := AL a a.fo pl) (n := n) (rd := a.w.rd) hdd (by unfold rGn; omega); have := fun x7 x8 => l_cBestGrass hd1 hI hA hp hN KE (k + 1) (by omega) f3 g1 x7 x8 (hf2.c47 hf3) (hg.trans hg1); simp only [e1] at this; exact this _ _)
termination_by 20 - k
theorem k_deedGrass (hd : 8 ≤ d) (hI : CI σ f g a) (hA : AOk N a)  {n w : Int} (hni : IR n) (hwi : IR w) (K : ∀ f' g', FrQ f f' → FrG g g' → Q (some (zi (qDeed a (fun pl => dGrass a.w.rd) n w))) σ f' g') : ZCt d 94 [zr (some 0), zi 0, zi n, zi w] σ f g Q := by
  refine ZCt.of' (L0 := [_, _, _, _, _, _, _, _, _]) (by omega) rfl rfl rfl (fun d hd1 => ?_)
  have hs := hI.sh
  cases hp : a.w.pn with
  | none =>
    rw [qDeed_no (Or.inl hp)] at K
    refine r_aload_n rfl rfl ?_
    refine r_getR rfl (by first | assumption | exact hs.o rfl) (hI.pln hp) ?_
    refine r_ifnullN rfl ?_
    refine r_bipush rfl ?_
    refine r_iret rfl ?_
    exact K f g (FrQ.rf f) (FrG.rf g)
  | some q =>
    obtain ⟨pl, rd0⟩ := q
    obtain ⟨p0, gp, p240, po, hpc, hrc⟩ := hI.plS hp
    obtain ⟨hplo, hvr, hst⟩ := hA.plS hp
    have hN := hA.2.2.2.2.2.2.2
    have hvs := hvr.vs
    have hp1 := hplo.1
    have hp2 := hplo.2.1
    refine r_aload_n rfl rfl ?_
    refine r_getR rfl (by first | assumption | exact hs.o rfl) gp ?_
    refine r_ifnullS rfl ?_
    refine r_iload_n rfl rfl ?_
    refine r_iconst rfl ?_
    refine r_bipush rfl ?_
    refine r_callS3 rfl rfl rfl (k_within (by omega) hni (by omega) (by omega) (fun hn => ?_) (fun hn => ?_))
    · refine r_if_n rfl (by decide) ?_
      refine r_iload_n rfl rfl ?_
      refine r_iconst rfl ?_
      refine r_iconst rfl ?_
      refine r_callS3 rfl rfl rfl (k_within (by omega) hwi (by omega) (by omega) (fun hw => ?_) (fun hw => ?_))
      · refine r_if_y rfl (by decide) ?_
        refine r_iconst rfl ?_
        refine r_istore (L' := [_, _, _, _, _, _, _, _, _]) rfl rfl rfl ?_
        refine r_aload_n rfl rfl ?_
        refine r_aload_n rfl rfl ?_
        refine r_callV0 rfl rfl (by first | assumption | exact hs.o rfl) rfl (k_tryN (by omega) hI hA hp (fun f1 g1 p hf1 hg1 ht1 hc1 => ?_))
        have hs1 := hs.frg hg1
        obtain ⟨oo, ⟨a1, a2, a3, a4, a5⟩, gg0, gg1, gg2, gg3, gg4⟩ := hs1.r47
        obtain ⟨nn, rfl⟩ := Int.eq_ofNat_of_zero_le (show 0 ≤ n by omega)
        refine r_iload_n rfl rfl ?_
        refine r_callV2 rfl rfl (by first | assumption | exact hs.o rfl) rfl (k_goneIn (n := nn) (by omega) hs1 ht1 hvs (by omega) hc1 (fun f2 hf2 ht2 hc2 => ?_))
        refine r_istore (L' := [_, _, _, _, _, _, _, _, _]) rfl rfl rfl ?_
        refine r_iconst rfl ?_
        refine r_istore (L' := [_, _, _, _, _, _, _, _, _]) rfl rfl rfl ?_
        rw [qDeed_yes (dd := fun pl => dGrass a.w.rd) hp (by omega) (m := 20) (Nat.le_refl 20) (fun k q => if_neg (by omega))] at K
        refine l_cBestGrass (by omega) hI hA hp (n := nn) (by omega) (fun f3 g3 x6 x7 x8 h3 h4 => ?_) 0 (by omega) f2 g1 _ _ (hf1.c47 hf2) hg1
        refine r_iload_n rfl rfl ?_
        refine r_if_ne rfl (by omega) (fun hw0 => ?_) (fun hw0 => ?_)
        · refine r_iload rfl rfl ?_
          refine r_iret rfl ?_
          first | (rw [if_pos (by omega)] at K; exact K f3 g3 h3 h4) | (rw [if_neg (by omega)] at K; exact K f3 g3 h3 h4)
        · refine r_iload rfl rfl ?_
          refine r_goto rfl ?_
          refine r_iret rfl ?_
          first | (rw [if_pos (by omega)] at K; exact K f3 g3 h3 h4) | (rw [if_neg (by omega)] at K; exact K f3 g3 h3 h4)
      · refine r_if_n rfl (by decide) ?_
        refine r_bipush rfl ?_
        refine r_iret rfl ?_
        rw [qDeed_no (Or.inr (by omega))] at K
        exact K f g (FrQ.rf f) (FrG.rf g)
    · refine r_if_y rfl (by decide) ?_
      refine r_bipush rfl ?_
      refine r_iret rfl ?_
      rw [qDeed_no (Or.inr (by omega))] at K
      exact K f g (FrQ.rf f) (FrG.rf g)
theorem l_cBestFill (hd1 : 7 ≤ d) {f00 : ZF} {g00 : ZG} (hI : CI σ f00 g00 a) (hA : AOk N a) (hp : a.w.pn = some (pl, rd0)) {n : Nat} (hN : N + 1 + 7 * (n : Int) ≤ 1000000) {w : Int} (KE : ∀ f' g' x6 x7 x8, FrQ f00 f' → FrG g00 g' → ZWp d zt94 104 [zr (some 0), zi 1, zi (n : Int), zi w, zi (rBest pl (AL a a.fo pl) n a.w.rd (dFill pl a.w.rd) 20).1, zi (rBest pl (AL a a.fo pl) n a.w.rd (dFill pl a.w.rd) 20).2, x6, x7, x8] [] σ f' g' Q) (k : Nat) (hk : k ≤ 20) (f : ZF) (g : ZG) (x7 x8 : ZV) (hf : FrQ f00 f) (hg : FrG g00 g) : ZWp d zt94 46 [zr (some 0), zi 1, zi (n : Int), zi w, zi (rBest pl (AL a a.fo pl) n a.w.rd (dFill pl a.w.rd) k).1, zi (rBest pl (AL a a.fo pl) n a.w.rd (dFill pl a.w.rd) k).2, zi (k : Int), x7, x8] [] σ f g Q := by
  have hIf := hI.fr hf hg
  have hs := hIf.sh
  obtain ⟨hplo, hvr, hst⟩ := hA.plS hp
  have hvs := hvr.vs
  have hvN := hvr.1.2.2.2.2.2.2
  have hdok : DOk pl N (dFill pl a.w.rd) := dFill_ok hvs (by omega)
  have hbr := rBest_rng (al := AL a a.fo pl) hplo hvs (n := n) (by omega) (hdok.rng hplo hN) k
  refine r_iload rfl rfl ?_
  refine r_bipush rfl ?_
  refine r_icmp_ge rfl (by omega) (by omega) (fun hlt => ?_) (fun hlt => ?_)
  · have e : k = 20 := by omega
    subst e
    exact KE f g _ _ _ hf hg
  · refine r_aload_n rfl rfl ?_
    refine r_callV0 rfl rfl (by first | assumption | exact hs.o rfl) rfl (k_tryN (by omega) hIf hA hp (fun f1 g1 p hf1 hg1 ht1 hc1 => ?_))
    have hs1 := hs.frg hg1
    obtain ⟨oo, ⟨a1, a2, a3, a4, a5⟩, gg0, gg1, gg2, gg3, gg4⟩ := hs1.r47
    refine r_astore (L' := [_, _, _, _, _, _, _, _, _]) rfl rfl rfl ?_
    refine r_aload_n rfl rfl ?_
    refine r_aload rfl rfl ?_
    refine r_iload_n rfl rfl ?_
    refine r_iload rfl rfl ?_
    refine r_callV3 rfl rfl (by first | assumption | exact hs.o rfl) rfl (k_doFill (by omega) (by omega) hI hA hp (hf.trans hf1) (hg.trans hg1) ht1 hc1 (fun f2 rd' cl hdd hf2 ht2 hc2 => ?_) (fun hnone => ?_))
    · refine r_if_y rfl (by decide) ?_
      refine r_aload_n rfl rfl ?_
      refine r_aload rfl rfl ?_
      refine r_iload_n rfl rfl ?_
      have hvs2 := (hdok k rd' cl hdd).1
      have hrg := hdok.rng (al := AL a a.fo pl) (n := n) hplo hN k _ _ hdd
      unfold rGn at hrg
      refine r_callV2 rfl rfl (by first | assumption | exact hs.o rfl) rfl (k_goneIn (n := n) (by omega) hs1 ht2 hvs2 (by omega) hc2 (fun f3 hf3 ht3 hc3 => ?_))
      refine r_istore (L' := [_, _, _, _, _, _, _, _, _]) rfl rfl rfl ?_
      refine r_iload rfl rfl ?_
      refine r_iload rfl rfl ?_
      refine r_icmp_le rfl (by omega) (by omega) (fun hle => ?_) (fun hle => ?_)
      · refine r_iinc (L' := [_, _, _, _, _, _, _, _, _]) rfl rfl rfl ?_
        refine r_goto rfl ?_
        first
        | (rw [← rBest_none (pl := pl) (al := AL a a.fo pl) (n := n) (rd := a.w.rd) hnone]; exact l_cBestFill hd1 hI hA hp hN KE (k + 1) (by omega) _ _ _ _ (hf.trans hf1) (hg.trans hg1))
        | (rw [← rBest_ge (pl := pl) (al := AL a a.fo pl) (n := n) (rd := a.w.rd) hdd (by unfold rGn; omega)]; exact l_cBestFill hd1 hI hA hp hN KE (k + 1) (by omega) _ _ _ _ (hf2.c47 hf3) (hg.trans hg1))
        | (have e1 := rBest_lt (pl := pl) (al := AL a a.fo pl) (n := n) (rd := a.w.rd) hdd (by unfold rGn; omega); have := fun x7 x8 => l_cBestFill hd1 hI hA hp hN KE (k + 1) (by omega) f3 g1 x7 x8 (hf2.c47 hf3) (hg.trans hg1); simp only [e1] at this; exact this _ _)
      · refine r_iload rfl rfl ?_
        refine r_istore (L' := [_, _, _, _, _, _, _, _, _]) rfl rfl rfl ?_
        refine r_iload rfl rfl ?_
        refine r_istore (L' := [_, _, _, _, _, _, _, _, _]) rfl rfl rfl ?_
        refine r_iinc (L' := [_, _, _, _, _, _, _, _, _]) rfl rfl rfl ?_
        refine r_goto rfl ?_
        first
        | (rw [← rBest_none (pl := pl) (al := AL a a.fo pl) (n := n) (rd := a.w.rd) hnone]; exact l_cBestFill hd1 hI hA hp hN KE (k + 1) (by omega) _ _ _ _ (hf.trans hf1) (hg.trans hg1))
        | (rw [← rBest_ge (pl := pl) (al := AL a a.fo pl) (n := n) (rd := a.w.rd) hdd (by unfold rGn; omega)]; exact l_cBestFill hd1 hI hA hp hN KE (k + 1) (by omega) _ _ _ _ (hf2.c47 hf3) (hg.trans hg1))
        | (have e1 := rBest_lt (pl := pl) (al := AL a a.fo pl) (n := n) (rd := a.w.rd) hdd (by unfold rGn; omega); have := fun x7 x8 => l_cBestFill hd1 hI hA hp hN KE (k + 1) (by omega) f3 g1 x7 x8 (hf2.c47 hf3) (hg.trans hg1); simp only [e1] at this; exact this _ _)
    · refine r_if_n rfl (by decide) ?_
      refine r_goto rfl ?_
      refine r_iinc (L' := [_, _, _, _, _, _, _, _, _]) rfl rfl rfl ?_
      refine r_goto rfl ?_
      first
      | (rw [← rBest_none (pl := pl) (al := AL a a.fo pl) (n := n) (rd := a.w.rd) hnone]; exact l_cBestFill hd1 hI hA hp hN KE (k + 1) (by omega) _ _ _ _ (hf.trans hf1) (hg.trans hg1))
      | (rw [← rBest_ge (pl := pl) (al := AL a a.fo pl) (n := n) (rd := a.w.rd) hdd (by unfold rGn; omega)]; exact l_cBestFill hd1 hI hA hp hN KE (k + 1) (by omega) _ _ _ _ (hf2.c47 hf3) (hg.trans hg1))
      | (have e1 := rBest_lt (pl := pl) (al := AL a a.fo pl) (n := n) (rd := a.w.rd) hdd (by unfold rGn; omega); have := fun x7 x8 => l_cBestFill hd1 hI hA hp hN KE (k + 1) (by omega) f3 g1 x7 x8 (hf2.c47 hf3) (hg.trans hg1); simp only [e1] at this; exact this _ _)
termination_by 20 - k
theorem k_deedFill (hd : 8 ≤ d) (hI : CI σ f g a) (hA : AOk N a)  {n w : Int} (hni : IR n) (hwi : IR w) (K : ∀ f' g', FrQ f f' → FrG g g' → Q (some (zi (qDeed a (fun pl => dFill pl a.w.rd) n w))) σ f' g') : ZCt d 94 [zr (some 0), zi 1, zi n, zi w] σ f g Q := by
  refine ZCt.of' (L0 := [_, _, _, _, _, _, _, _, _]) (by omega) rfl rfl rfl (fun d hd1 => ?_)
  have hs := hI.sh
  cases hp : a.w.pn with
  | none =>
    rw [qDeed_no (Or.inl hp)] at K
    refine r_aload_n rfl rfl ?_
    refine r_getR rfl (by first | assumption | exact hs.o rfl) (hI.pln hp) ?_
    refine r_ifnullN rfl ?_
    refine r_bipush rfl ?_
    refine r_iret rfl ?_
    exact K f g (FrQ.rf f) (FrG.rf g)
  | some q =>
    obtain ⟨pl, rd0⟩ := q
    obtain ⟨p0, gp, p240, po, hpc, hrc⟩ := hI.plS hp
    obtain ⟨hplo, hvr, hst⟩ := hA.plS hp
    have hN := hA.2.2.2.2.2.2.2
    have hvs := hvr.vs
    have hp1 := hplo.1
    have hp2 := hplo.2.1
    refine r_aload_n rfl rfl ?_
    refine r_getR rfl (by first | assumption | exact hs.o rfl) gp ?_
    refine r_ifnullS rfl ?_
    refine r_iload_n rfl rfl ?_
    refine r_iconst rfl ?_
    refine r_bipush rfl ?_
    refine r_callS3 rfl rfl rfl (k_within (by omega) hni (by omega) (by omega) (fun hn => ?_) (fun hn => ?_))
    · refine r_if_n rfl (by decide) ?_
      refine r_iload_n rfl rfl ?_
      refine r_iconst rfl ?_
      refine r_iconst rfl ?_
      refine r_callS3 rfl rfl rfl (k_within (by omega) hwi (by omega) (by omega) (fun hw => ?_) (fun hw => ?_))
      · refine r_if_y rfl (by decide) ?_
        refine r_iconst rfl ?_
        refine r_istore (L' := [_, _, _, _, _, _, _, _, _]) rfl rfl rfl ?_
        refine r_aload_n rfl rfl ?_
        refine r_aload_n rfl rfl ?_
        refine r_callV0 rfl rfl (by first | assumption | exact hs.o rfl) rfl (k_tryN (by omega) hI hA hp (fun f1 g1 p hf1 hg1 ht1 hc1 => ?_))
        have hs1 := hs.frg hg1
        obtain ⟨oo, ⟨a1, a2, a3, a4, a5⟩, gg0, gg1, gg2, gg3, gg4⟩ := hs1.r47
        obtain ⟨nn, rfl⟩ := Int.eq_ofNat_of_zero_le (show 0 ≤ n by omega)
        refine r_iload_n rfl rfl ?_
        refine r_callV2 rfl rfl (by first | assumption | exact hs.o rfl) rfl (k_goneIn (n := nn) (by omega) hs1 ht1 hvs (by omega) hc1 (fun f2 hf2 ht2 hc2 => ?_))
        refine r_istore (L' := [_, _, _, _, _, _, _, _, _]) rfl rfl rfl ?_
        refine r_iconst rfl ?_
        refine r_istore (L' := [_, _, _, _, _, _, _, _, _]) rfl rfl rfl ?_
        rw [qDeed_yes (dd := fun pl => dFill pl a.w.rd) hp (by omega) (m := 20) (Nat.le_refl 20) (fun k q => if_neg (by omega))] at K
        refine l_cBestFill (by omega) hI hA hp (n := nn) (by omega) (fun f3 g3 x6 x7 x8 h3 h4 => ?_) 0 (by omega) f2 g1 _ _ (hf1.c47 hf2) hg1
        refine r_iload_n rfl rfl ?_
        refine r_if_ne rfl (by omega) (fun hw0 => ?_) (fun hw0 => ?_)
        · refine r_iload rfl rfl ?_
          refine r_iret rfl ?_
          first | (rw [if_pos (by omega)] at K; exact K f3 g3 h3 h4) | (rw [if_neg (by omega)] at K; exact K f3 g3 h3 h4)
        · refine r_iload rfl rfl ?_
          refine r_goto rfl ?_
          refine r_iret rfl ?_
          first | (rw [if_pos (by omega)] at K; exact K f3 g3 h3 h4) | (rw [if_neg (by omega)] at K; exact K f3 g3 h3 h4)
      · refine r_if_n rfl (by decide) ?_
        refine r_bipush rfl ?_
        refine r_iret rfl ?_
        rw [qDeed_no (Or.inr (by omega))] at K
        exact K f g (FrQ.rf f) (FrG.rf g)
    · refine r_if_y rfl (by decide) ?_
      refine r_bipush rfl ?_
      refine r_iret rfl ?_
      rw [qDeed_no (Or.inr (by omega))] at K
      exact K f g (FrQ.rf f) (FrG.rf g)
theorem l_cBestClose (hd1 : 7 ≤ d) {f00 : ZF} {g00 : ZG} (hI : CI σ f00 g00 a) (hA : AOk N a) (hp : a.w.pn = some (pl, rd0)) {n : Nat} (hN : N + 1 + 7 * (n : Int) ≤ 1000000) {w : Int} (KE : ∀ f' g' x6 x7 x8, FrQ f00 f' → FrG g00 g' → ZWp d zt94 104 [zr (some 0), zi 2, zi (n : Int), zi w, zi (rBest pl (AL a a.fo pl) n a.w.rd (dClose pl a.w.rd) 20).1, zi (rBest pl (AL a a.fo pl) n a.w.rd (dClose pl a.w.rd) 20).2, x6, x7, x8] [] σ f' g' Q) (k : Nat) (hk : k ≤ 20) (f : ZF) (g : ZG) (x7 x8 : ZV) (hf : FrQ f00 f) (hg : FrG g00 g) : ZWp d zt94 46 [zr (some 0), zi 2, zi (n : Int), zi w, zi (rBest pl (AL a a.fo pl) n a.w.rd (dClose pl a.w.rd) k).1, zi (rBest pl (AL a a.fo pl) n a.w.rd (dClose pl a.w.rd) k).2, zi (k : Int), x7, x8] [] σ f g Q := by
  have hIf := hI.fr hf hg
  have hs := hIf.sh
  obtain ⟨hplo, hvr, hst⟩ := hA.plS hp
  have hvs := hvr.vs
  have hvN := hvr.1.2.2.2.2.2.2
  have hdok : DOk pl N (dClose pl a.w.rd) := dClose_ok hplo hvs (by omega)
  have hbr := rBest_rng (al := AL a a.fo pl) hplo hvs (n := n) (by omega) (hdok.rng hplo hN) k
  refine r_iload rfl rfl ?_
  refine r_bipush rfl ?_
  refine r_icmp_ge rfl (by omega) (by omega) (fun hlt => ?_) (fun hlt => ?_)
  · have e : k = 20 := by omega
    subst e
    exact KE f g _ _ _ hf hg
  · refine r_aload_n rfl rfl ?_
    refine r_callV0 rfl rfl (by first | assumption | exact hs.o rfl) rfl (k_tryN (by omega) hIf hA hp (fun f1 g1 p hf1 hg1 ht1 hc1 => ?_))
    have hs1 := hs.frg hg1
    obtain ⟨oo, ⟨a1, a2, a3, a4, a5⟩, gg0, gg1, gg2, gg3, gg4⟩ := hs1.r47
    refine r_astore (L' := [_, _, _, _, _, _, _, _, _]) rfl rfl rfl ?_
    refine r_aload_n rfl rfl ?_
    refine r_aload rfl rfl ?_
    refine r_iload_n rfl rfl ?_
    refine r_iload rfl rfl ?_
    refine r_callV3 rfl rfl (by first | assumption | exact hs.o rfl) rfl (k_doClose (by omega) (by omega) hI hA hp (hf.trans hf1) (hg.trans hg1) ht1 hc1 (fun f2 rd' cl hdd hf2 ht2 hc2 => ?_) (fun hnone => ?_))
    · refine r_if_y rfl (by decide) ?_
      refine r_aload_n rfl rfl ?_
      refine r_aload rfl rfl ?_
      refine r_iload_n rfl rfl ?_
      have hvs2 := (hdok k rd' cl hdd).1
      have hrg := hdok.rng (al := AL a a.fo pl) (n := n) hplo hN k _ _ hdd
      unfold rGn at hrg
      refine r_callV2 rfl rfl (by first | assumption | exact hs.o rfl) rfl (k_goneIn (n := n) (by omega) hs1 ht2 hvs2 (by omega) hc2 (fun f3 hf3 ht3 hc3 => ?_))
      refine r_istore (L' := [_, _, _, _, _, _, _, _, _]) rfl rfl rfl ?_
      refine r_iload rfl rfl ?_
      refine r_iload rfl rfl ?_
      refine r_icmp_le rfl (by omega) (by omega) (fun hle => ?_) (fun hle => ?_)
      · refine r_iinc (L' := [_, _, _, _, _, _, _, _, _]) rfl rfl rfl ?_
        refine r_goto rfl ?_
        first
        | (rw [← rBest_none (pl := pl) (al := AL a a.fo pl) (n := n) (rd := a.w.rd) hnone]; exact l_cBestClose hd1 hI hA hp hN KE (k + 1) (by omega) _ _ _ _ (hf.trans hf1) (hg.trans hg1))
        | (rw [← rBest_ge (pl := pl) (al := AL a a.fo pl) (n := n) (rd := a.w.rd) hdd (by unfold rGn; omega)]; exact l_cBestClose hd1 hI hA hp hN KE (k + 1) (by omega) _ _ _ _ (hf2.c47 hf3) (hg.trans hg1))
        | (have e1 := rBest_lt (pl := pl) (al := AL a a.fo pl) (n := n) (rd := a.w.rd) hdd (by unfold rGn; omega); have := fun x7 x8 => l_cBestClose hd1 hI hA hp hN KE (k + 1) (by omega) f3 g1 x7 x8 (hf2.c47 hf3) (hg.trans hg1); simp only [e1] at this; exact this _ _)
      · refine r_iload rfl rfl ?_
        refine r_istore (L' := [_, _, _, _, _, _, _, _, _]) rfl rfl rfl ?_
        refine r_iload rfl rfl ?_
        refine r_istore (L' := [_, _, _, _, _, _, _, _, _]) rfl rfl rfl ?_
        refine r_iinc (L' := [_, _, _, _, _, _, _, _, _]) rfl rfl rfl ?_
        refine r_goto rfl ?_
        first
        | (rw [← rBest_none (pl := pl) (al := AL a a.fo pl) (n := n) (rd := a.w.rd) hnone]; exact l_cBestClose hd1 hI hA hp hN KE (k + 1) (by omega) _ _ _ _ (hf.trans hf1) (hg.trans hg1))
        | (rw [← rBest_ge (pl := pl) (al := AL a a.fo pl) (n := n) (rd := a.w.rd) hdd (by unfold rGn; omega)]; exact l_cBestClose hd1 hI hA hp hN KE (k + 1) (by omega) _ _ _ _ (hf2.c47 hf3) (hg.trans hg1))
        | (have e1 := rBest_lt (pl := pl) (al := AL a a.fo pl) (n := n) (rd := a.w.rd) hdd (by unfold rGn; omega); have := fun x7 x8 => l_cBestClose hd1 hI hA hp hN KE (k + 1) (by omega) f3 g1 x7 x8 (hf2.c47 hf3) (hg.trans hg1); simp only [e1] at this; exact this _ _)
    · refine r_if_n rfl (by decide) ?_
      refine r_goto rfl ?_
      refine r_iinc (L' := [_, _, _, _, _, _, _, _, _]) rfl rfl rfl ?_
      refine r_goto rfl ?_
      first
      | (rw [← rBest_none (pl := pl) (al := AL a a.fo pl) (n := n) (rd := a.w.rd) hnone]; exact l_cBestClose hd1 hI hA hp hN KE (k + 1) (by omega) _ _ _ _ (hf.trans hf1) (hg.trans hg1))
      | (rw [← rBest_ge (pl := pl) (al := AL a a.fo pl) (n := n) (rd := a.w.rd) hdd (by unfold rGn; omega)]; exact l_cBestClose hd1 hI hA hp hN KE (k + 1) (by omega) _ _ _ _ (hf2.c47 hf3) (hg.trans hg1))
      | (have e1 := rBest_lt (pl := pl) (al := AL a a.fo pl) (n := n) (rd := a.w.rd) hdd (by unfold rGn; omega); have := fun x7 x8 => l_cBestClose hd1 hI hA hp hN KE (k + 1) (by omega) f3 g1 x7 x8 (hf2.c47 hf3) (hg.trans hg1); simp only [e1] at this; exact this _ _)
termination_by 20 - k
theorem k_deedClose (hd : 8 ≤ d) (hI : CI σ f g a) (hA : AOk N a)  {n w : Int} (hni : IR n) (hwi : IR w) (K : ∀ f' g', FrQ f f' → FrG g g' → Q (some (zi (qDeed a (fun pl => dClose pl a.w.rd) n w))) σ f' g') : ZCt d 94 [zr (some 0), zi 2, zi n, zi w] σ f g Q := by
  refine ZCt.of' (L0 := [_, _, _, _, _, _, _, _, _]) (by omega) rfl rfl rfl (fun d hd1 => ?_)
  have hs := hI.sh
  cases hp : a.w.pn with
  | none =>
    rw [qDeed_no (Or.inl hp)] at K
    refine r_aload_n rfl rfl ?_
    refine r_getR rfl (by first | assumption | exact hs.o rfl) (hI.pln hp) ?_
    refine r_ifnullN rfl ?_
    refine r_bipush rfl ?_
    refine r_iret rfl ?_
    exact K f g (FrQ.rf f) (FrG.rf g)
  | some q =>
    obtain ⟨pl, rd0⟩ := q
    obtain ⟨p0, gp, p240, po, hpc, hrc⟩ := hI.plS hp
    obtain ⟨hplo, hvr, hst⟩ := hA.plS hp
    have hN := hA.2.2.2.2.2.2.2
    have hvs := hvr.vs
    have hp1 := hplo.1
    have hp2 := hplo.2.1
    refine r_aload_n rfl rfl ?_
    refine r_getR rfl (by first | assumption | exact hs.o rfl) gp ?_
    refine r_ifnullS rfl ?_
    refine r_iload_n rfl rfl ?_
    refine r_iconst rfl ?_
    refine r_bipush rfl ?_
    refine r_callS3 rfl rfl rfl (k_within (by omega) hni (by omega) (by omega) (fun hn => ?_) (fun hn => ?_))
    · refine r_if_n rfl (by decide) ?_
      refine r_iload_n rfl rfl ?_
      refine r_iconst rfl ?_
      refine r_iconst rfl ?_
      refine r_callS3 rfl rfl rfl (k_within (by omega) hwi (by omega) (by omega) (fun hw => ?_) (fun hw => ?_))
      · refine r_if_y rfl (by decide) ?_
        refine r_iconst rfl ?_
        refine r_istore (L' := [_, _, _, _, _, _, _, _, _]) rfl rfl rfl ?_
        refine r_aload_n rfl rfl ?_
        refine r_aload_n rfl rfl ?_
        refine r_callV0 rfl rfl (by first | assumption | exact hs.o rfl) rfl (k_tryN (by omega) hI hA hp (fun f1 g1 p hf1 hg1 ht1 hc1 => ?_))
        have hs1 := hs.frg hg1
        obtain ⟨oo, ⟨a1, a2, a3, a4, a5⟩, gg0, gg1, gg2, gg3, gg4⟩ := hs1.r47
        obtain ⟨nn, rfl⟩ := Int.eq_ofNat_of_zero_le (show 0 ≤ n by omega)
        refine r_iload_n rfl rfl ?_
        refine r_callV2 rfl rfl (by first | assumption | exact hs.o rfl) rfl (k_goneIn (n := nn) (by omega) hs1 ht1 hvs (by omega) hc1 (fun f2 hf2 ht2 hc2 => ?_))
        refine r_istore (L' := [_, _, _, _, _, _, _, _, _]) rfl rfl rfl ?_
        refine r_iconst rfl ?_
        refine r_istore (L' := [_, _, _, _, _, _, _, _, _]) rfl rfl rfl ?_
        rw [qDeed_yes (dd := fun pl => dClose pl a.w.rd) hp (by omega) (m := 20) (Nat.le_refl 20) (fun k q => if_neg (by omega))] at K
        refine l_cBestClose (by omega) hI hA hp (n := nn) (by omega) (fun f3 g3 x6 x7 x8 h3 h4 => ?_) 0 (by omega) f2 g1 _ _ (hf1.c47 hf2) hg1
        refine r_iload_n rfl rfl ?_
        refine r_if_ne rfl (by omega) (fun hw0 => ?_) (fun hw0 => ?_)
        · refine r_iload rfl rfl ?_
          refine r_iret rfl ?_
          first | (rw [if_pos (by omega)] at K; exact K f3 g3 h3 h4) | (rw [if_neg (by omega)] at K; exact K f3 g3 h3 h4)
        · refine r_iload rfl rfl ?_
          refine r_goto rfl ?_
          refine r_iret rfl ?_
          first | (rw [if_pos (by omega)] at K; exact K f3 g3 h3 h4) | (rw [if_neg (by omega)] at K; exact K f3 g3 h3 h4)
      · refine r_if_n rfl (by decide) ?_
        refine r_bipush rfl ?_
        refine r_iret rfl ?_
        rw [qDeed_no (Or.inr (by omega))] at K
        exact K f g (FrQ.rf f) (FrG.rf g)
    · refine r_if_y rfl (by decide) ?_
      refine r_bipush rfl ?_
      refine r_iret rfl ?_
      rw [qDeed_no (Or.inr (by omega))] at K
      exact K f g (FrQ.rf f) (FrG.rf g)
theorem k_bestGrass (hd : 9 ≤ d) (hI : CI σ f g a) (hA : AOk N a) {n w : Int} (hni : IR n) (hwi : IR w) (K : ∀ f' g', FrQ f f' → FrG g g' → Q (some (zi (qDeed a (fun pl => dGrass a.w.rd) n w))) σ f' g') : ZCt d 93 [zr (some 0), zi n, zi w] σ f g Q := by
  refine ZCt.of' (L0 := [_, _, _]) (by omega) rfl rfl rfl (fun d hd1 => ?_)
  have hs := hI.sh
  refine r_aload_n rfl rfl ?_
  refine r_iconst rfl ?_
  refine r_iload_n rfl rfl ?_
  refine r_iload_n rfl rfl ?_
  refine r_callV3 rfl rfl (by first | assumption | exact hs.o rfl) rfl (k_deedGrass (by omega) hI hA hni hwi (fun f1 g1 h1 h2 => ?_))
  refine r_iret rfl ?_
  exact K f1 g1 h1 h2
theorem k_bestFill (hd : 9 ≤ d) (hI : CI σ f g a) (hA : AOk N a) {n w : Int} (hni : IR n) (hwi : IR w) (K : ∀ f' g', FrQ f f' → FrG g g' → Q (some (zi (qDeed a (fun pl => dFill pl a.w.rd) n w))) σ f' g') : ZCt d 96 [zr (some 0), zi n, zi w] σ f g Q := by
  refine ZCt.of' (L0 := [_, _, _]) (by omega) rfl rfl rfl (fun d hd1 => ?_)
  have hs := hI.sh
  refine r_aload_n rfl rfl ?_
  refine r_iconst rfl ?_
  refine r_iload_n rfl rfl ?_
  refine r_iload_n rfl rfl ?_
  refine r_callV3 rfl rfl (by first | assumption | exact hs.o rfl) rfl (k_deedFill (by omega) hI hA hni hwi (fun f1 g1 h1 h2 => ?_))
  refine r_iret rfl ?_
  exact K f1 g1 h1 h2
theorem k_closed (hd : 9 ≤ d) (hI : CI σ f g a) (hA : AOk N a) {n w : Int} (hni : IR n) (hwi : IR w) (K : ∀ f' g', FrQ f f' → FrG g g' → Q (some (zi (qDeed a (fun pl => dClose pl a.w.rd) n w))) σ f' g') : ZCt d 97 [zr (some 0), zi n, zi w] σ f g Q := by
  refine ZCt.of' (L0 := [_, _, _]) (by omega) rfl rfl rfl (fun d hd1 => ?_)
  have hs := hI.sh
  refine r_aload_n rfl rfl ?_
  refine r_iconst rfl ?_
  refine r_iload_n rfl rfl ?_
  refine r_iload_n rfl rfl ?_
  refine r_callV3 rfl rfl (by first | assumption | exact hs.o rfl) rfl (k_deedClose (by omega) hI hA hni hwi (fun f1 g1 h1 h2 => ?_))
  refine r_iret rfl ?_
  exact K f1 g1 h1 h2
end DEED
