/-! Facts about steps; what the questions about the first steps answer -/
abbrev isBit (s : Int) (k : Nat) : Prop := z_and (z_shr s (k : Int)) 1 = 1
section PURE
variable {pl : Pl} {al : Rd → Nat → Bool} {cl : Int} {rd : Rd}
theorem rCar_o {k c : Nat} (h : c ≠ k) {i : Nat} (hi : i < 4) : (rCar pl al rd k).1 i c = rd i c := by
  unfold rCar
  split
  · rfl
  · split
    · split
      · simp [rOff, up2, h, show ¬ i = 5 by omega]
      · split
        · simp [rAge, rGo, up2, h]
        · simp [rAge, up2, h]
    · simp [rAge, up2, h]
theorem rCars_o {c : Nat} {i : Nat} (hi : i < 4) : ∀ k, k ≤ c → (rCars pl al rd k).1 i c = rd i c := by
  intro k
  induction k with
  | zero => intro _; rfl
  | succ k ih => intro hk; simp only [rCars]; rw [rCar_o (by omega) hi, ih (by omega)]
theorem rCars_p {c : Nat} {i : Nat} (hi : i < 4) : ∀ k, c < k → (rCars pl al rd k).1 i c = (rCar pl al (rCars pl al rd c).1 c).1 i c := by
  intro k
  induction k with
  | zero => intro h; omega
  | succ k ih =>
    intro hk
    simp only [rCars]
    by_cases e : c = k
    · subst e; rfl
    · rw [rCar_o (by omega) hi, ih (by omega)]
theorem rCars_bits : ∀ k, k ≤ 6 → Bits (rCars pl al rd k).2.1 (fun i => decide (i < k) && (rCar pl al (rCars pl al rd i).1 i).2.1) := by
  intro k
  induction k with
  | zero => intro _; exact Bits.zero.imp (fun c hc => by simp)
  | succ k ih =>
    intro hk
    simp only [rCars]
    cases e : (rCar pl al (rCars pl al rd k).1 k).2.1 with
    | true =>
      rw [if_pos rfl]
      refine ((ih (by omega)).set (show k < 20 by omega)).imp (fun c hc => ?_)
      by_cases q : c = k
      · subst q; simp [e]
      · have q' : (c == k) = false := by simp [q]
        have : decide (c < k) = decide (c < k + 1) := decide_eq_decide.2 (by omega)
        rw [q', Bool.or_false, this]
    | false =>
      rw [if_neg (by decide)]
      refine (ih (by omega)).imp (fun c hc => ?_)
      by_cases q : c = k
      · subst q; simp [e]
      · have : decide (c < k) = decide (c < k + 1) := decide_eq_decide.2 (by omega)
        rw [this]
theorem rStep_bits : Bits (rStep pl al cl rd).2.1 (fun i => decide (i < 6) && (rCar pl al (rCars pl al rd i).1 i).2.1) := rCars_bits 6 (Nat.le_refl 6)
theorem rStep_bit {c : Nat} (hc : c < 6) : isBit (rStep pl al cl rd).2.1 c ↔ (rCar pl al (rCars pl al rd c).1 c).2.1 = true := by
  have h := (rStep_bits (pl := pl) (al := al) (cl := cl) (rd := rd)).test (show c < 20 by omega)
  unfold isBit
  rw [h]
  simp only [hc, decide_true, Bool.true_and]
  cases (rCar pl al (rCars pl al rd c).1 c).2.1 <;> simp
theorem rRoads_o {c i : Nat} (hi : i < 4) (hon : rd 0 c ≠ -1) : ∀ j, (rRoads pl cl rd j).1 i c = rd i c ∧ (rRoads pl cl rd j).1 0 c = rd 0 c := by
  intro j
  induction j with
  | zero => exact ⟨rfl, rfl⟩
  | succ j ih =>
    simp only [rRoads]
    have hw : ∀ i, i < 4 → rWait pl cl (rRoads pl cl rd j).1 j i c = (rRoads pl cl rd j).1 i c := by
      intro i hi
      unfold rWait
      split
      · simp [up2, show ¬ i = 4 by omega]
      · rfl
    unfold rCome
    split
    · simp only; rw [hw i hi, hw 0 (by omega)]; exact ih
    · rename_i hc
      have hf := (rFst_lt (fun q => hc (Or.inr (Or.inr q)))).2.1
      have hne : c ≠ rFst (rWait pl cl (rRoads pl cl rd j).1 j) := by
        intro q
        rw [← q, hw 0 (by omega), ih.2] at hf
        exact hon hf
      refine ⟨?_, ?_⟩
      · simp only [up2, rOn, hne, and_false, if_false, show ¬ i = 4 by omega, false_and]
        rw [hw i hi]; exact ih.1
      · simp only [up2, rOn, hne, and_false, if_false, show ¬ (0 : Nat) = 4 by omega, false_and]
        rw [hw 0 (by omega)]; exact ih.2
theorem rStep_row {c i : Nat} (hi : i < 4) (hc : c < 6) (hon : (rCar pl al (rCars pl al rd c).1 c).1 0 c ≠ -1) : (rStep pl al cl rd).1 i c = (rCar pl al (rCars pl al rd c).1 c).1 i c := by
  have h1 : (rStep pl al cl rd).1 i c = (rRoads pl cl (rCars pl al rd 6).1 pl.2.1.toNat).1 i c := by simp [rStep, up2, show ¬ i = 5 by omega]
  rw [h1, (rRoads_o hi (by rw [rCars_p (by omega) 6 hc]; exact hon) _).1, rCars_p hi 6 hc]
/-- who is on and does not go off stays on -/
theorem rStep_stays {n m N : Int} (ho : RdOk n m N rd) (hn : pl.1 = n) {c : Nat} (hc : c < 6) (hon : rd 0 c ≠ -1) (hb : ¬ isBit (rStep pl al cl rd).2.1 c) : (rStep pl al cl rd).1 0 c ≠ -1 := by
  rw [rStep_bit hc] at hb
  have e0 := rCars_o (pl := pl) (al := al) (rd := rd) (c := c) (i := 0) (by omega) c (Nat.le_refl c)
  have hk := ho.2.2.1 c hc
  have hn0 := ho.1
  have h : (rCar pl al (rCars pl al rd c).1 c).1 0 c ≠ -1 := by
    unfold rCar at hb ⊢
    rw [if_neg (by rw [e0]; exact hon)] at hb ⊢
    split
    · rename_i h2
      rw [if_pos h2] at hb
      split
      · rename_i h3
        rw [if_pos h3] at hb
        exact absurd rfl hb
      · split
        · have := rNx_rng (n := pl.1) (c := (rCars pl al rd c).1 0 c) (by rw [e0, hn]; omega)
          simp only [rAge, rGo, up2, and_self, if_true, show ¬ (0 : Nat) = 3 by omega, show ¬ (0 : Nat) = 2 by omega, false_and, if_false]
          omega
        · simp only [rAge, up2, show ¬ (0 : Nat) = 3 by omega, false_and, if_false]
          rw [e0]; exact hon
    · simp only [rAge, up2, show ¬ (0 : Nat) = 3 by omega, false_and, if_false]
      rw [e0]; exact hon
  rw [rStep_row (by omega) hc h]
  exact h
/-- without fuel it stands -/
theorem rStep_stands {c : Nat} (hc : c < 6) (hon : rd 0 c ≠ -1) (hf : rd 2 c = 0) : ¬ isBit (rStep pl al cl rd).2.1 c ∧ (rStep pl al cl rd).1 0 c ≠ -1 ∧ (rStep pl al cl rd).1 2 c = 0 := by
  have e0 := rCars_o (pl := pl) (al := al) (rd := rd) (c := c) (i := 0) (by omega) c (Nat.le_refl c)
  have e2 := rCars_o (pl := pl) (al := al) (rd := rd) (c := c) (i := 2) (by omega) c (Nat.le_refl c)
  have e : rCar pl al (rCars pl al rd c).1 c = (rAge (rCars pl al rd c).1 c, false, false) := by
    unfold rCar
    rw [if_neg (by rw [e0]; exact hon), if_neg (by rw [e2, hf]; omega)]
  have h0 : (rCar pl al (rCars pl al rd c).1 c).1 0 c ≠ -1 := by
    rw [e]
    simp only [rAge, up2, show ¬ (0 : Nat) = 3 by omega, false_and, if_false]
    rw [e0]; exact hon
  refine ⟨?_, ?_, ?_⟩
  · rw [rStep_bit hc, e]; exact Bool.false_ne_true
  · rw [rStep_row (by omega) hc h0]; exact h0
  · rw [rStep_row (by omega) hc h0, e]
    simp only [rAge, up2, show ¬ (2 : Nat) = 3 by omega, false_and, if_false]
    rw [e2]; exact hf
theorem rCars_t (k : Nat) : (rCars pl al rd k).1 5 0 = rd 5 0 := by
  induction k with
  | zero => rfl
  | succ k ih =>
    simp only [rCars]
    rw [← ih]
    unfold rCar
    split
    · rfl
    · split
      · split
        · simp [rOff, up2]
        · split
          · simp [rAge, rGo, up2]
          · simp [rAge, up2]
      · simp [rAge, up2]
theorem rRoads_t (j : Nat) : (rRoads pl cl rd j).1 5 0 = rd 5 0 := by
  induction j with
  | zero => rfl
  | succ j ih =>
    simp only [rRoads]
    rw [← ih]
    have hw : rWait pl cl (rRoads pl cl rd j).1 j 5 0 = (rRoads pl cl rd j).1 5 0 := by
      unfold rWait
      split
      · simp [up2]
      · rfl
    unfold rCome
    split
    · exact hw
    · simp [up2, rOn, hw]
theorem rStep_t : (rStep pl al cl rd).1 5 0 = rd 5 0 + 1 := by
  have : (rStep pl al cl rd).1 5 0 = (rRoads pl cl (rCars pl al rd 6).1 pl.2.1.toNat).1 5 0 + 1 := by simp [rStep, up2]
  rw [this, rRoads_t, rCars_t]
theorem rIt_t (k : Nat) : rIt pl al cl k rd 5 0 = rd 5 0 + (k : Int) := by
  induction k with
  | zero => simp [rIt]
  | succ k ih => simp only [rIt]; rw [rStep_t, ih]; omega
/-- the first of j steps, the k-th and on, in which c goes off: 1 the first; 0 none -/
def rFo (pl : Pl) (al : Rd → Nat → Bool) (cl : Int) (rd : Rd) (c : Nat) : Nat → Nat → Nat
  | 0, _ => 0
  | j + 1, k => if isBit (rStep pl al cl (rIt pl al cl k rd)).2.1 c then k + 1 else rFo pl al cl rd c j (k + 1)
theorem rFo_z {c : Nat} (hc : c < 6) : ∀ j k, rIt pl al cl k rd 0 c ≠ -1 → rIt pl al cl k rd 2 c = 0 → rFo pl al cl rd c j k = 0 := by
  intro j
  induction j with
  | zero => intro k _ _; rfl
  | succ j ih =>
    intro k h0 h2
    have h := rStep_stands (pl := pl) (al := al) (cl := cl) hc h0 h2
    simp only [rFo]
    rw [if_neg h.1]
    exact ih (k + 1) h.2.1 h.2.2
theorem rFo_le {c : Nat} : ∀ j k, rFo pl al cl rd c j k ≤ k + j := by
  intro j
  induction j with
  | zero => intro k; simp [rFo]
  | succ j ih =>
    intro k
    simp only [rFo]
    split
    · omega
    · have := ih (k + 1); omega
def rStl (pl : Pl) (al : Rd → Nat → Bool) (cl : Int) (rd : Rd) : Nat → Nat → Int
  | 0, _ => -2
  | j + 1, k => if (rStep pl al cl (rIt pl al cl k rd)).2.2 = true then rStl pl al cl rd j (k + 1) else rd 5 0 + (k : Int)
def rLf (pl : Pl) (al : Rd → Nat → Bool) (rd : Rd) (c n : Nat) : Nat → Nat → Int
  | 0, _ => -2
  | j + 1, k => if rFo pl al (-1) (up2 rd 2 c (k : Int)) c n 0 = 0 then rLf pl al rd c n j (k + 1) else (k : Int)
theorem VS.fuel {N : Int} {c : Nat} {v : Int} (h : VS pl N cl rd) (hc : c < 6) (hon : 0 ≤ rd 0 c) (hv : 0 ≤ v ∧ v ≤ 99) : VS pl N cl (up2 rd 2 c v) := by
  obtain ⟨⟨h1, h2, h3, h4, h5, h6, h7, h8⟩, hd, hz, hw⟩ := h
  refine ⟨⟨h1, h2, fun k hk => ?_, fun j hj => ?_, fun c hc => ?_, ?_, ?_, h8⟩, hd.same (fun k _ => by simp [up2]), hz.same (fun j => by simp [up2]), fun j hj => ?_⟩
  · by_cases e : k = c
    · subst e
      have := h3 k hk
      simp only [up2, and_self, if_true, show ¬ (0 : Nat) = 2 by omega, show ¬ (1 : Nat) = 2 by omega, show ¬ (3 : Nat) = 2 by omega, false_and, if_false]
      omega
    · simp only [up2, e, and_false, if_false]; exact h3 k hk
  · simp only [up2, show ¬ (4 : Nat) = 2 by omega, false_and, if_false]; exact h4 j hj
  · simp only [up2, show ¬ (6 : Nat) = 2 by omega, false_and, if_false]; exact h5 c hc
  · simp only [up2, show ¬ (5 : Nat) = 2 by omega, false_and, if_false]; exact h6
  · simp only [up2, show ¬ (5 : Nat) = 2 by omega, false_and, if_false]; exact h7
  · simp only [up2, show ¬ (4 : Nat) = 2 by omega, false_and, if_false]; exact hw j hj
/-- what is asked of the next steps -/
def qAhead (a : AS) (c n w : Int) : Int := match a.w.pn with
  | none => -2
  | some (pl, _) => if (0 ≤ n ∧ n ≤ 100) ∧ (0 ≤ w ∧ w ≤ 2) ∧ (w = 2 ∨ (0 ≤ c ∧ c < 6)) then (if w = 2 then rIt pl (AL a a.fo pl) (-1) n.toNat a.w.rd 5 1 else if w = 0 then rIt pl (AL a a.fo pl) (-1) n.toNat a.w.rd 0 c.toNat else rIt pl (AL a a.fo pl) (-1) n.toNat a.w.rd 2 c.toNat) else -2
def qLets (a : AS) (c : Int) : Int := match a.w.pn with
  | none => -1
  | some (pl, _) => if isOnA a c then (if rFo pl (AL a a.fo pl) (-1) a.w.rd c.toNat 200 0 = 0 then -2 else a.w.rd 5 0 + (rFo pl (AL a a.fo pl) (-1) a.w.rd c.toNat 200 0 : Int) - 1) else -1
def qStill (a : AS) : Int := match a.w.pn with
  | none => -1
  | some (pl, _) => rStl pl (AL a a.fo pl) (-1) a.w.rd 200 0
def qLeast (a : AS) (c n : Int) : Int := match a.w.pn with
  | none => -1
  | some (pl, _) => if isOnA a c ∧ (1 ≤ n ∧ n ≤ 100) then rLf pl (AL a a.fo pl) a.w.rd c.toNat n.toNat 61 0 else -1
end PURE
