/-! One step, as a function; the reference makes it -/
def rNx (n c : Int) : Int := if c + 1 < n then c + 1 else 0
def rFstF (rd : Rd) : Nat → Nat → Nat
  | 0, k => k
  | j + 1, k => if rd 0 k = -1 then k else rFstF rd j (k + 1)
def rFst (rd : Rd) : Nat := rFstF rd 6 0
def rCar (pl : Pl) (al : Rd → Nat → Bool) (rd : Rd) (k : Nat) : Rd × Bool × Bool :=
  if rd 0 k = -1 then (rd, false, false)
  else if 0 < rd 2 k then
    (if pl.2.2.2.1 (rd 1 k).toNat = rd 0 k ∧ al rd k = true then (rOff rd k, true, true)
    else if rFree rd (rNx pl.1 (rd 0 k)) then (rAge (rGo rd k (rNx pl.1 (rd 0 k))) k, false, true) else (rAge rd k, false, false))
  else (rAge rd k, false, false)
def rCars (pl : Pl) (al : Rd → Nat → Bool) (rd : Rd) : Nat → Rd × Int × Bool
  | 0 => (rd, 0, false)
  | k + 1 => ((rCar pl al (rCars pl al rd k).1 k).1, (if (rCar pl al (rCars pl al rd k).1 k).2.1 = true then z_or (rCars pl al rd k).2.1 (z_shl 1 (k : Int)) else (rCars pl al rd k).2.1), (rCars pl al rd k).2.2 || (rCar pl al (rCars pl al rd k).1 k).2.2)
def rWait (pl : Pl) (cl : Int) (rd : Rd) (j : Nat) : Rd := if (j : Int) ≠ cl ∧ (rd 5 0).tmod (pl.2.2.2.2 j) = 0 ∧ rd 4 j < 99 then up2 rd 4 j (rd 4 j + 1) else rd
def rCome (pl : Pl) (rd : Rd) (j : Nat) : Rd × Bool :=
  if rd 4 j = 0 ∨ ¬ rFree rd (pl.2.2.2.1 j) ∨ rOns rd 6 = 6 then (rd, false)
  else (up2 (rOn rd (rFst rd) (pl.2.2.2.1 j) (rNx pl.2.1 (j : Int)) 20) 4 j (rd 4 j - 1), true)
def rRoads (pl : Pl) (cl : Int) (rd : Rd) : Nat → Rd × Bool
  | 0 => (rd, false)
  | j + 1 => ((rCome pl (rWait pl cl (rRoads pl cl rd j).1 j) j).1, (rRoads pl cl rd j).2 || (rCome pl (rWait pl cl (rRoads pl cl rd j).1 j) j).2)
def rStep (pl : Pl) (al : Rd → Nat → Bool) (cl : Int) (rd : Rd) : Rd × Int × Bool :=
  (up2 (rRoads pl cl (rCars pl al rd 6).1 pl.2.1.toNat).1 5 0 ((rRoads pl cl (rCars pl al rd 6).1 pl.2.1.toNat).1 5 0 + 1), (rCars pl al rd 6).2.1, (rCars pl al rd 6).2.2 || (rRoads pl cl (rCars pl al rd 6).1 pl.2.1.toNat).2)
theorem rNx_mod {n c : Int} (hc : 0 ≤ c ∧ c < n) : (c + 1).tmod n = rNx n c := by
  rw [Int.tmod_eq_emod_of_nonneg (by omega)]
  unfold rNx
  by_cases h : c + 1 < n
  · rw [if_pos h, Int.emod_eq_of_lt (by omega) h]
  · rw [if_neg h, show c + 1 = n by omega, Int.emod_self]
theorem rNx_rng {n c : Int} (hc : 0 ≤ c ∧ c < n) : 0 ≤ rNx n c ∧ rNx n c < n := by
  unfold rNx
  split <;> omega
theorem rOns_le (rd : Rd) : ∀ k, 0 ≤ rOns rd k ∧ rOns rd k ≤ (k : Int) := by
  intro k
  induction k with
  | zero => simp [rOns]
  | succ k ih => simp only [rOns]; split <;> omega
theorem rOns_all {rd : Rd} : ∀ k, rOns rd k = (k : Int) → ∀ j, j < k → rd 0 j ≠ -1 := by
  intro k
  induction k with
  | zero => intro _ j hj; omega
  | succ k ih =>
    intro h
    simp only [rOns] at h
    have := rOns_le rd k
    split at h
    · omega
    · rename_i hne
      exact all_succ (ih (by omega)) hne
theorem rOns_of {rd : Rd} : ∀ k, (∀ j, j < k → rd 0 j ≠ -1) → rOns rd k = (k : Int) := by
  intro k
  induction k with
  | zero => intro _; rfl
  | succ k ih =>
    intro h
    simp only [rOns]
    rw [if_neg (h k (by omega)), ih (fun j hj => h j (by omega))]
    omega
theorem rFstF_eq {rd : Rd} {k : Nat} (h0 : rd 0 k = -1) : ∀ (j i : Nat), i ≤ k → k < i + j → (∀ t, i ≤ t → t < k → rd 0 t ≠ -1) → rFstF rd j i = k := by
  intro j
  induction j with
  | zero => intro i h1 h2; omega
  | succ j ih =>
    intro i h1 h2 h3
    simp only [rFstF]
    by_cases e : i = k
    · rw [if_pos (by rw [e]; exact h0), e]
    · rw [if_neg (h3 i (by omega) (by omega))]
      exact ih (i + 1) (by omega) (by omega) (fun t q1 q2 => h3 t (by omega) q2)
theorem rFst_eq {rd : Rd} {k : Nat} (hk : k < 6) (h0 : rd 0 k = -1) (h1 : ∀ t, t < k → rd 0 t ≠ -1) : rFst rd = k := rFstF_eq h0 6 0 (by omega) (by omega) (fun t _ q => h1 t q)
theorem rFst_lt {rd : Rd} (h : rOns rd 6 ≠ 6) : rFst rd < 6 ∧ rd 0 (rFst rd) = -1 ∧ ∀ t, t < rFst rd → rd 0 t ≠ -1 := by
  have g : ∀ (j i : Nat), i + j = 6 → (∀ t, t < i → rd 0 t ≠ -1) → (rFstF rd j i < 6 ∧ rd 0 (rFstF rd j i) = -1 ∧ ∀ t, t < rFstF rd j i → rd 0 t ≠ -1) := by
    intro j
    induction j with
    | zero =>
      intro i hi ht
      exact absurd (rOns_of 6 (fun t q => ht t (by omega))) h
    | succ j ih =>
      intro i hi ht
      simp only [rFstF]
      by_cases e : rd 0 i = -1
      · rw [if_pos e]; exact ⟨by omega, e, ht⟩
      · rw [if_neg e]; exact ih (i + 1) (by omega) (all_succ ht e)
  exact g 6 0 (by omega) (fun t q => by omega)
section MPASS
variable {d : Nat} {σ : ZS} {f : ZF} {g : ZG} {Q : ZQ} {n m N : Int} {rd : Rd} {pl : Pl} {al : Rd → Nat → Bool} {cl : Int}
theorem rCar_ok (hn : pl.1 = n) (ho : RdOk n m N rd) (hN : N + 1 ≤ 1000000) {k : Nat} (hk : k < 6) : RdOk n m (N + 1) (rCar pl al rd k).1 := by
  have hk3 := ho.2.2.1 k hk
  have h1 := ho.1
  unfold rCar
  split
  · exact ho.mono (by omega) hN
  · split
    · split
      · exact ho.off hN hk
      · split
        · rename_i h0 h2 _ _
          refine RdOk.age (ho.go hk (by have := rNx_rng (n := pl.1) (c := rd 0 k) (by omega); omega) h0 h2) hN hk ?_
          simp [rGo, up2]
          have := rNx_rng (n := pl.1) (c := rd 0 k) (by omega)
          omega
        · exact ho.age hN hk (by assumption)
    · exact ho.age hN hk (by assumption)
theorem rCars_ok (hn : pl.1 = n) (ho : RdOk n m N rd) : ∀ k : Nat, k ≤ 6 → N + (k : Int) ≤ 1000000 → RdOk n m (N + (k : Int)) (rCars pl al rd k).1 := by
  intro k
  induction k with
  | zero =>
    intro _ _
    show RdOk n m (N + ((0 : Nat) : Int)) rd
    rw [show N + ((0 : Nat) : Int) = N by omega]
    exact ho
  | succ k ih =>
    intro hk hN
    have := rCar_ok (al := al) (pl := pl) hn (ih (by omega) (by omega)) (k := k) (by omega) (by omega)
    rw [show N + ((k + 1 : Nat) : Int) = N + (k : Int) + 1 by omega]
    exact this
theorem rWait_ok (ho : RdOk n m N rd) {j : Nat} (hj : j < 5) : RdOk n m N (rWait pl cl rd j) := by
  have := ho.2.2.2.1 j hj
  unfold rWait
  split
  · exact ho.w hj (by omega)
  · exact ho
theorem rCome_ok (hp : PlOk pl) (hn : pl.1 = n) (hm : pl.2.1 = m) (ho : RdOk n m N rd) {j : Nat} (hj : (j : Int) < m) : RdOk n m N (rCome pl rd j).1 := by
  have h4 := ho.2.2.2.1 j (by have := ho.2.1; omega)
  unfold rCome
  split
  · exact ho
  · rename_i hc
    have hf := rFst_lt (rd := rd) (fun q => hc (Or.inr (Or.inr q)))
    have hr := hp.2.2.2 j (by omega)
    exact (ho.on hf.1 (by omega) (by have := rNx_rng (n := pl.2.1) (c := (j : Int)) (by omega); omega) (by omega)).w (by have := ho.2.1; omega) (by omega)
theorem rRoads_ok (hp : PlOk pl) (hn : pl.1 = n) (hm : pl.2.1 = m) (ho : RdOk n m N rd) : ∀ j : Nat, (j : Int) ≤ m → RdOk n m N (rRoads pl cl rd j).1 := by
  intro j
  induction j with
  | zero => intro _; exact ho
  | succ j ih =>
    intro hj
    exact rCome_ok hp hn hm (rWait_ok (ih (by omega)) (by have := ho.2.1; omega)) (by omega)
theorem rStep_ok (hp : PlOk pl) (hn : pl.1 = n) (hm : pl.2.1 = m) (ho : RdOk n m N rd) (hN : N + 7 ≤ 1000000) : RdOk n m (N + 7) (rStep pl al cl rd).1 := by
  have h1 := rCars_ok (al := al) (pl := pl) hn ho 6 (by omega) (by omega)
  have h2 := rRoads_ok (cl := cl) hp hn hm h1 pl.2.1.toNat (by have := ho.2.1; omega)
  have h3 := h2.t (by omega)
  have e : N + ((6 : Nat) : Int) + 1 = N + 7 := by omega
  rw [e] at h3
  exact h3
theorem mrd_go (hm : MRd (f 229) rd) {k : Nat} (hk : k < 6) (h0 : 0 ≤ rd 0 k) {c : Int} (hc : 0 ≤ c) : MRd ((up2 (up2 f 229 (13 + 5 * k) c) 229 (15 + 5 * k) (f 229 (15 + 5 * k) - 1)) 229) (rGo rd k c) := by
  rw [up2_u1, up2_u1]
  obtain ⟨q0, q1, h2, h3, h4⟩ := hm
  refine MRd.of ?_ ?_ (fun i hi => ?_) (fun i hi => ?_) (fun i hi => ?_)
  · simp only [u1]; rw [if_neg (by omega), if_neg (by omega), q0]; simp [rGo, up2]
  · simp only [u1]; rw [if_neg (by omega), if_neg (by omega), q1]; simp [rGo, up2]
  · by_cases e : i = k
    · subst e
      have := h2 i hi
      unfold MC at this
      have hc2 : (f 229 (12 + 5 * i) = 1 ∧ f 229 (13 + 5 * i) = rd 0 i ∧ f 229 (14 + 5 * i) = rd 1 i ∧ f 229 (15 + 5 * i) = rd 2 i ∧ f 229 (16 + 5 * i) = rd 3 i) := by omega
      refine Or.inr ⟨by simp [rGo, up2]; omega, ?_, ?_, ?_, ?_, ?_⟩
      · simp only [u1]; rw [if_neg (by omega), if_neg (by omega)]; exact hc2.1
      · simp only [u1]; rw [if_neg (by omega), if_pos (by first | trivial | omega)]; simp [rGo, up2]
      · simp only [u1]; rw [if_neg (by omega), if_neg (by omega)]; simp [rGo, up2]; exact hc2.2.2.1
      · simp only [u1]; rw [if_pos (by first | trivial | omega)]; simp [rGo, up2]; omega
      · simp only [u1]; rw [if_neg (by omega), if_neg (by omega)]; simp [rGo, up2]; exact hc2.2.2.2.2
    · refine (h2 i hi).same (fun a ha => ?_) (fun a ha => ?_)
      · simp only [u1]; rw [if_neg (by omega), if_neg (by omega)]
      · simp [rGo, up2, e]
  · simp only [u1]; rw [if_neg (by omega), if_neg (by omega), h3 i hi]; simp [rGo, up2]
  · simp only [u1]; rw [if_neg (by omega), if_neg (by omega), h4 i hi]; simp [rGo, up2]
theorem mrd_age (hm : MRd (f 229) rd) {k : Nat} (hk : k < 6) (h0 : 0 ≤ rd 0 k) : MRd ((up2 f 229 (16 + 5 * k) (f 229 (16 + 5 * k) + 1)) 229) (rAge rd k) := by
  rw [up2_u1]
  obtain ⟨q0, q1, h2, h3, h4⟩ := hm
  refine MRd.of ?_ ?_ (fun i hi => ?_) (fun i hi => ?_) (fun i hi => ?_)
  · simp only [u1]; rw [if_neg (by omega), q0]; simp [rAge, up2]
  · simp only [u1]; rw [if_neg (by omega), q1]; simp [rAge, up2]
  · by_cases e : i = k
    · subst e
      have := h2 i hi
      unfold MC at this
      have hc2 : (f 229 (12 + 5 * i) = 1 ∧ f 229 (13 + 5 * i) = rd 0 i ∧ f 229 (14 + 5 * i) = rd 1 i ∧ f 229 (15 + 5 * i) = rd 2 i ∧ f 229 (16 + 5 * i) = rd 3 i) := by omega
      refine Or.inr ⟨by simp [rAge, up2]; omega, ?_, ?_, ?_, ?_, ?_⟩
      · simp only [u1]; rw [if_neg (by omega)]; exact hc2.1
      · simp only [u1]; rw [if_neg (by omega)]; simp [rAge, up2]; exact hc2.2.1
      · simp only [u1]; rw [if_neg (by omega)]; simp [rAge, up2]; exact hc2.2.2.1
      · simp only [u1]; rw [if_neg (by omega)]; simp [rAge, up2]; exact hc2.2.2.2.1
      · simp only [u1]; rw [if_pos (by first | trivial | omega)]; simp [rAge, up2]; omega
    · refine (h2 i hi).same (fun a ha => ?_) (fun a ha => ?_)
      · simp only [u1]; rw [if_neg (by omega)]
      · simp [rAge, up2, e]
  · simp only [u1]; rw [if_neg (by omega), h3 i hi]; simp [rAge, up2]
  · simp only [u1]; rw [if_neg (by omega), h4 i hi]; simp [rAge, up2]
theorem mrd_t (hm : MRd (f 229) rd) : MRd ((up2 f 229 10 (f 229 10 + 1)) 229) (up2 rd 5 0 (rd 5 0 + 1)) := by
  rw [up2_u1]
  obtain ⟨q0, q1, h2, h3, h4⟩ := hm
  refine MRd.of ?_ ?_ (fun i hi => ?_) (fun i hi => ?_) (fun i hi => ?_)
  · simp only [u1]; rw [if_pos trivial, q0]; simp [up2]
  · simp only [u1]; rw [if_neg (by omega), q1]; simp [up2]
  · refine (h2 i hi).same (fun a ha => ?_) (fun a ha => ?_)
    · simp only [u1]; rw [if_neg (by omega)]
    · simp [up2, show ¬ a = 5 by omega]
  · simp only [u1]; rw [if_neg (by omega), h3 i hi]; simp [up2]
  · simp only [u1]; rw [if_neg (by omega), h4 i hi]; simp [up2]
theorem mrd_on (hm : MRd (f 229) rd) {k : Nat} (hk : k < 6) {c r u : Int} (hc : 0 ≤ c) : MRd ((fSt f k 1 c r u) 229) (rOn rd k c r u) := by
  obtain ⟨q0, q1, h2, h3, h4⟩ := hm
  have hat : ∀ i, (i < 12 + 5 * k ∨ 16 + 5 * k < i) → fSt f k 1 c r u 229 i = f 229 i := fun i hi => by
    rw [fSt_at, if_neg (by omega), if_neg (by omega), if_neg (by omega), if_neg (by omega), if_neg (by omega)]
  refine MRd.of ?_ ?_ (fun i hi => ?_) (fun i hi => ?_) (fun i hi => ?_)
  · rw [hat _ (by omega), q0]; simp [rOn, up2]
  · rw [hat _ (by omega), q1]; simp [rOn, up2]
  · by_cases e : i = k
    · subst e
      refine Or.inr ⟨by simp [rOn, up2]; omega, ?_, ?_, ?_, ?_, ?_⟩
      · rw [fSt_at, if_neg (by omega), if_neg (by omega), if_neg (by omega), if_neg (by omega), if_pos rfl]
      · rw [fSt_at, if_neg (by omega), if_neg (by omega), if_neg (by omega), if_pos rfl]; simp [rOn, up2]
      · rw [fSt_at, if_neg (by omega), if_neg (by omega), if_pos rfl]; simp [rOn, up2]
      · rw [fSt_at, if_neg (by omega), if_pos rfl]; simp [rOn, up2]
      · rw [fSt_at, if_pos rfl]; simp [rOn, up2]
    · refine (h2 i hi).same (fun a ha => ?_) (fun a ha => ?_)
      · exact hat _ (by omega)
      · simp [rOn, up2, e]
  · rw [hat _ (by omega), h3 i hi]; simp [rOn, up2]
  · rw [hat _ (by omega), h4 i hi]; simp [rOn, up2]
theorem MPl.fr {f' : ZF} (h : MPl (f 229) pl) (hf : FrM f f') : MPl (f' 229) pl := by
  obtain ⟨h0, h1, h2, h3, h4⟩ := h
  refine ⟨by rw [hf.2.2 0 (by omega)]; exact h0, by rw [hf.2.2 1 (by omega)]; exact h1, by rw [hf.2.2 2 (by omega)]; exact h2, by rw [hf.2.2 3 (by omega)]; exact h3, fun j hj => ?_⟩
  rw [hf.2.2 (67 + j) (by omega), hf.2.2 (72 + j) (by omega)]
  exact h4 j hj
/-- what isLetOff answers, whatever decides it -/
def ALm (dd : Nat) (σ : ZS) (g : ZG) (E : ZF → Prop) (n m : Int) (al : Rd → Nat → Bool) : Prop := ∀ (d : Nat) (f : ZF) (rd : Rd) (N : Int) (k : Nat) (Q : ZQ), dd ≤ d → k < 6 → E f → MRd (f 229) rd → RdOk n m N rd → 0 ≤ rd 0 k →
  (∀ f', FrM f f' → f' 229 = f 229 → f' 219 25 = f 219 25 → (al rd k = true → Q (some (zi 1)) σ f' g) ∧ (al rd k = false → Q (some (zi 0)) σ f' g)) → ZCt d 193 [zr (some 219), zi (k : Int)] σ f g Q
theorem c_drives (hd : 9 ≤ d) (hs : Sh σ g) {E : ZF → Prop} (hE : ∀ f f', FrM f f' → E f → E f') (hal : ALm 8 σ g E n m al) (hEf : E f) (hp : MPl (f 229) pl) (hpo : PlOk pl) (hn : pl.1 = n) (hmm : pl.2.1 = m) (hm : MRd (f 229) rd) (ho : RdOk n m N rd) {k : Nat} (hk : k < 6) (h0 : 0 ≤ rd 0 k) (h2 : 0 < rd 2 k)
    (k1 : (pl.2.2.2.1 (rd 1 k).toNat = rd 0 k ∧ al rd k = true) → ∀ f', FrM f f' → MRd (f' 229) (rOff rd k) → f' 219 25 = 1 → Q (some (zi 1)) σ f' g)
    (k2 : ¬ (pl.2.2.2.1 (rd 1 k).toNat = rd 0 k ∧ al rd k = true) → rFree rd (rNx pl.1 (rd 0 k)) → ∀ f', FrM f f' → MRd (f' 229) (rGo rd k (rNx pl.1 (rd 0 k))) → f' 219 25 = 1 → Q (some (zi 0)) σ f' g)
    (k3 : ¬ (pl.2.2.2.1 (rd 1 k).toNat = rd 0 k ∧ al rd k = true) → ¬ rFree rd (rNx pl.1 (rd 0 k)) → ∀ f', FrM f f' → MRd (f' 229) rd → f' 219 25 = f 219 25 → Q (some (zi 0)) σ f' g) : ZCt d 190 [zr (some 219), zi (k : Int)] σ f g Q := by
  refine ZCt.of' (L0 := [_, _, _]) (by omega) rfl rfl rfl (fun d hd1 => ?_)
  have hc := hm.2.2.1 k hk
  unfold MC at hc
  have hr := ho.2.2.1 k hk
  have ho1 := ho.1
  have ho2 := ho.2.1
  have hrc := (hp.2.2.2.2 (rd 1 k).toNat (by omega)).1
  have hrr := hpo.2.2.2 (rd 1 k).toNat (by omega)
  have hp1 := hp.2.1
  have hnx := rNx_rng (n := n) (c := rd 0 k) (by omega)
  have step2 : ¬ (pl.2.2.2.1 (rd 1 k).toNat = rd 0 k ∧ al rd k = true) → ∀ f1, FrM f f1 → f1 229 = f 229 → f1 219 25 = f 219 25 → ZWp d zt190 41 [zr (some 219), zi (k : Int), zu] [] σ f1 g Q := by
    intro hno f1 hf1 e1 e2
    have hm1 : MRd (f1 229) rd := by rw [e1]; exact hm
    have ec : f1 229 (13 + 5 * k) = rd 0 k := by rw [e1]; omega
    have en : f1 229 1 = n := by rw [e1]; omega
    refine r_aload_n rfl rfl ?_
    refine r_iload_n rfl rfl ?_
    refine r_callV1 rfl rfl (by first | assumption | exact hs.o rfl) rfl (c_cellOf (by omega) hs (by omega) ?_)
    refine r_iconst rfl ?_
    refine r_iadd rfl ?_
    refine r_aload_n rfl rfl ?_
    refine r_getR rfl (by first | assumption | exact hs.o rfl) (by first | assumption | exact hs.g rfl) ?_
    refine r_iconst rfl ?_
    refine r_iald rfl (by first | assumption | exact hs.a rfl) (by omega) (by omega) (zix (n := 1) rfl) ?_
    refine r_irem rfl (by omega) (by omega) (by omega) ?_
    rw [ec, en, rNx_mod (by omega)]
    refine r_istore_n (L' := [_, _, _]) rfl rfl rfl ?_
    refine r_aload_n rfl rfl ?_
    refine r_iload_n rfl rfl ?_
    refine r_callV1 rfl rfl (by first | assumption | exact hs.o rfl) rfl (c_isFree (by omega) hs hm1 ho (by omega) (fun hfr => ?_) (fun hfr => ?_))
    · refine r_if_n rfl (by decide) ?_
      refine r_aload_n rfl rfl ?_
      refine r_getR rfl (by first | assumption | exact hs.o rfl) (by first | assumption | exact hs.g rfl) ?_
      refine r_bipush rfl ?_
      refine r_iconst rfl ?_
      refine r_iload_n rfl rfl ?_
      refine r_imul rfl ?_
      refine r_iadd rfl ?_
      refine r_iconst rfl ?_
      refine r_iadd rfl ?_
      refine r_iload_n rfl rfl ?_
      refine r_iastN (13 + 5 * k) rfl (by first | assumption | exact hs.a rfl) (by omega) (by omega) (by omega) ?_
      refine r_aload_n rfl rfl ?_
      refine r_getR rfl (by first | assumption | exact hs.o rfl) (by first | assumption | exact hs.g rfl) ?_
      refine r_bipush rfl ?_
      refine r_iconst rfl ?_
      refine r_iload_n rfl rfl ?_
      refine r_imul rfl ?_
      refine r_iadd rfl ?_
      refine r_iconst rfl ?_
      refine r_iadd rfl ?_
      refine r_dup2 rfl ?_
      refine r_iald rfl (by first | assumption | exact hs.a rfl) (by omega) (by omega) (zix (n := 15 + 5 * k) (by omega)) ?_
      refine r_iconst rfl ?_
      refine r_isub rfl ?_
      refine r_iastN (15 + 5 * k) rfl (by first | assumption | exact hs.a rfl) (by omega) (by omega) (by omega) ?_
      refine r_aload_n rfl rfl ?_
      refine r_iconst rfl ?_
      refine r_putZ rfl (by first | assumption | exact hs.o rfl) (by omega) ?_
      refine r_iconst rfl ?_
      refine r_zret rfl (by omega) ?_
      have e15 : up2 f1 229 (13 + 5 * k) (rNx n (rd 0 k)) 229 (15 + 5 * k) = f1 229 (15 + 5 * k) := up2_ne _ _ (by omega)
      rw [e15]
      refine k2 hno (by rw [hn]; exact hfr) _ (((hf1.said (by omega)).said (by omega)).moved) ?_ (up2_same _ _ _ _)
      rw [up2_o _ _ (by omega), hn]
      exact mrd_go hm1 hk h0 (by omega)
    · refine r_if_y rfl (by decide) ?_
      refine r_iconst rfl ?_
      refine r_zret rfl (by omega) ?_
      exact k3 hno (by rw [hn]; exact hfr) f1 hf1 hm1 e2
  refine r_aload_n rfl rfl ?_
  refine r_iload_n rfl rfl ?_
  refine r_callV1 rfl rfl (by first | assumption | exact hs.o rfl) rfl (c_cellOf (by omega) hs (by omega) ?_)
  refine r_aload_n rfl rfl ?_
  refine r_getR rfl (by first | assumption | exact hs.o rfl) (by first | assumption | exact hs.g rfl) ?_
  refine r_bipush rfl ?_
  refine r_aload_n rfl rfl ?_
  refine r_iload_n rfl rfl ?_
  refine r_callV1 rfl rfl (by first | assumption | exact hs.o rfl) rfl (c_roadOf (by omega) hs (by omega) ?_)
  refine r_iadd rfl ?_
  refine r_iald rfl (by first | assumption | exact hs.a rfl) (by omega) (by omega) ((zix (n := 67 + (rd 1 k).toNat) (by omega)).trans hrc) ?_
  refine r_icmp_ne rfl (by omega) (by omega) (fun hat => ?_) (fun hat => ?_)
  · exact step2 (fun q => by omega) f (FrM.rf f) rfl rfl
  · refine r_aload_n rfl rfl ?_
    refine r_iload_n rfl rfl ?_
    refine r_callV1 rfl rfl (hs.o rfl) rfl (hal _ f rd N k _ (by omega) hk hEf hm ho h0 (fun f1 hf1 e1 e2 => ⟨fun ht => ?_, fun ht => ?_⟩))
    · refine r_if_n rfl (by decide) ?_
      refine r_aload_n rfl rfl ?_
      refine r_iload_n rfl rfl ?_
      refine r_callV1 rfl rfl (by first | assumption | exact hs.o rfl) rfl (c_leaves (by omega) hs (show MRd (f1 229) rd by rw [e1]; exact hm) hk (fun f2 hf2 hm2 => ?_))
      refine r_aload_n rfl rfl ?_
      refine r_iconst rfl ?_
      refine r_putZ rfl (by first | assumption | exact hs.o rfl) (by omega) ?_
      refine r_iconst rfl ?_
      refine r_zret rfl (by omega) ?_
      exact k1 ⟨by omega, ht⟩ _ ((hf1.trans hf2).moved) (by rw [up2_o _ _ (by omega)]; exact hm2) (up2_same _ _ _ _)
    · refine r_if_y rfl (by decide) ?_
      exact step2 (fun q => by rw [ht] at q; exact absurd q.2 (by decide)) f1 hf1 e1 e2
theorem l_comesOn (hd1 : 1 ≤ d) (hs : Sh σ g) (hm : MRd (f 229) rd) (ho : RdOk n m N rd) {j : Nat} (hno : rOns rd 6 ≠ 6) (K : ZWp d zt206 54 [zr (some 219), zi (j : Int), zi ((rFst rd : Nat) : Int)] [] σ f g Q) (k : Nat) (hk : k ≤ 6) (hall : ∀ t, t < k → rd 0 t ≠ -1) : ZWp d zt206 40 [zr (some 219), zi (j : Int), zi (k : Int)] [] σ f g Q := by
  have hk6 : k < 6 := by
    apply Nat.lt_of_not_le
    intro q
    exact hno (rOns_of 6 (fun t ht => hall t (by omega)))
  refine r_aload_n rfl rfl ?_
  refine r_iload_n rfl rfl ?_
  refine r_callV1 rfl rfl (by first | assumption | exact hs.o rfl) rfl (c_mOn (by omega) hs hm ho (by omega) (fun hon => ?_) (fun hon => ?_))
  · refine r_if_n rfl (by decide) ?_
    refine r_iinc (L' := [_, _, _]) rfl rfl rfl ?_
    refine r_goto rfl ?_
    exact l_comesOn hd1 hs hm ho hno K (k + 1) (by omega) (all_succ hall (by omega))
  · refine r_if_y rfl (by decide) ?_
    have e := rFst_eq hk6 (by omega) hall
    rw [e] at K
    exact K
termination_by 6 - k
theorem c_comesOn (hd : 4 ≤ d) (hs : Sh σ g) (hp : MPl (f 229) pl) (hpo : PlOk pl) (hn : pl.1 = n) (hmm : pl.2.1 = m) (hm : MRd (f 229) rd) (ho : RdOk n m N rd) {j : Nat} (hj : (j : Int) < m) (K : ∀ f', FrM f f' → MRd (f' 229) (rCome pl rd j).1 → (f' 219 25 = if (rCome pl rd j).2 = true then 1 else f 219 25) → Q none σ f' g) : ZCt d 206 [zr (some 219), zi (j : Int)] σ f g Q := by
  refine ZCt.of' (L0 := [_, _, _]) (by omega) rfl rfl rfl (fun d hd1 => ?_)
  have ho1 := ho.1
  have ho2 := ho.2.1
  have hw4 := hm.2.2.2.1 j (by omega)
  have hw5 := ho.2.2.2.1 j (by omega)
  have hrc := (hp.2.2.2.2 j (by omega)).1
  have hrr := hpo.2.2.2 j (by omega)
  have hp2 := hp.2.2.1
  have hons := rOns_le rd 6
  have hnx := rNx_mod (n := m) (c := (j : Int)) (by omega)
  have no : (rd 4 j = 0 ∨ ¬ rFree rd (pl.2.2.2.1 j) ∨ rOns rd 6 = 6) → Q none σ f g := by
    intro hc
    refine K f (FrM.rf f) ?_ ?_
    · unfold rCome; rw [if_pos hc]; exact hm
    · unfold rCome; rw [if_pos hc]; simp
  have yes : ¬ (rd 4 j = 0 ∨ ¬ rFree rd (pl.2.2.2.1 j) ∨ rOns rd 6 = 6) → Q none σ (up2 (up2 (fSt f (rFst rd) 1 (pl.2.2.2.1 j) (rNx m (j : Int)) 20) 229 (42 + j) (rd 4 j - 1)) 219 25 1) g := by
    intro hc
    have hf := rFst_lt (rd := rd) (fun q => hc (Or.inr (Or.inr q)))
    refine K _ (((fSt_fr hf.1 (FrM.rf f)).said (by omega)).moved) ?_ ?_
    · unfold rCome
      rw [if_neg hc, up2_o _ _ (by omega), hmm]
      exact mrd_w (mrd_on hm hf.1 (by omega)) (by omega)
    · unfold rCome
      rw [if_neg hc]
      simp [up2]
  refine r_aload_n rfl rfl ?_
  refine r_getR rfl (by first | assumption | exact hs.o rfl) (by first | assumption | exact hs.g rfl) ?_
  refine r_bipush rfl ?_
  refine r_iload_n rfl rfl ?_
  refine r_iadd rfl ?_
  refine r_iald rfl (by first | assumption | exact hs.a rfl) (by omega) (by omega) ((zix (n := 42 + j) (by omega)).trans hw4) ?_
  refine r_if_eq rfl (by omega) (fun hz => ?_) (fun hz => ?_)
  · refine r_ret rfl ?_
    exact no (Or.inl hz)
  · refine r_aload_n rfl rfl ?_
    refine r_aload_n rfl rfl ?_
    refine r_getR rfl (by first | assumption | exact hs.o rfl) (by first | assumption | exact hs.g rfl) ?_
    refine r_bipush rfl ?_
    refine r_iload_n rfl rfl ?_
    refine r_iadd rfl ?_
    refine r_iald rfl (by first | assumption | exact hs.a rfl) (by omega) (by omega) ((zix (n := 67 + j) (by omega)).trans hrc) ?_
    refine r_callV1 rfl rfl (by first | assumption | exact hs.o rfl) rfl (c_isFree (by omega) hs hm ho (by omega) (fun hfr => ?_) (fun hfr => ?_))
    · refine r_if_n rfl (by decide) ?_
      refine r_aload_n rfl rfl ?_
      refine r_callV0 rfl rfl (by first | assumption | exact hs.o rfl) rfl (c_manyOn (by omega) hs hm ho ?_)
      refine r_bipush rfl ?_
      refine r_icmp_ne rfl (by omega) (by omega) (fun hmn => ?_) (fun hmn => ?_)
      · refine r_iconst rfl ?_
        refine r_istore_n (L' := [_, _, _]) rfl rfl rfl ?_
        refine l_comesOn (by omega) hs hm ho hmn ?_ 0 (by omega) (fun t ht => by omega)
        refine r_aload_n rfl rfl ?_
        refine r_iload_n rfl rfl ?_
        refine r_iconst rfl ?_
        refine r_aload_n rfl rfl ?_
        refine r_getR rfl (by first | assumption | exact hs.o rfl) (by first | assumption | exact hs.g rfl) ?_
        refine r_bipush rfl ?_
        refine r_iload_n rfl rfl ?_
        refine r_iadd rfl ?_
        refine r_iald rfl (by first | assumption | exact hs.a rfl) (by omega) (by omega) ((zix (n := 67 + j) (by omega)).trans hrc) ?_
        refine r_iload_n rfl rfl ?_
        refine r_iconst rfl ?_
        refine r_iadd rfl ?_
        refine r_aload_n rfl rfl ?_
        refine r_getR rfl (by first | assumption | exact hs.o rfl) (by first | assumption | exact hs.g rfl) ?_
        refine r_iconst rfl ?_
        refine r_iald rfl (by first | assumption | exact hs.a rfl) (by omega) (by omega) ((zix (n := 2) rfl).trans (show f 229 2 = m by omega)) ?_
        refine r_irem rfl (by omega) (by omega) (by omega) ?_
        rw [hnx]
        refine r_bipush rfl ?_
        refine r_callV5 rfl rfl (by first | assumption | exact hs.o rfl) rfl (c_stands (by omega) hs (rFst_lt hmn).1 ?_)
        refine r_aload_n rfl rfl ?_
        refine r_getR rfl (by first | assumption | exact hs.o rfl) (by first | assumption | exact hs.g rfl) ?_
        refine r_bipush rfl ?_
        refine r_iload_n rfl rfl ?_
        refine r_iadd rfl ?_
        refine r_dup2 rfl ?_
        refine r_iald rfl (by first | assumption | exact hs.a rfl) (by omega) (by omega) (zix (n := 42 + j) (by omega)) ?_
        refine r_iconst rfl ?_
        refine r_isub rfl ?_
        refine r_iastN (42 + j) rfl (by first | assumption | exact hs.a rfl) (by omega) (by omega) (by omega) ?_
        refine r_aload_n rfl rfl ?_
        refine r_iconst rfl ?_
        refine r_putZ rfl (by first | assumption | exact hs.o rfl) (by omega) ?_
        refine r_ret rfl ?_
        have ew : fSt f (rFst rd) 1 (pl.2.2.2.1 j) (rNx m (j : Int)) 20 229 (42 + j) = rd 4 j := by
          have := (rFst_lt hmn).1
          rw [fSt_at, if_neg (by omega), if_neg (by omega), if_neg (by omega), if_neg (by omega), if_neg (by omega)]
          exact hw4
        rw [ew]
        exact yes (fun q => q.elim (fun z => by omega) (fun z => z.elim (fun z => z hfr) (fun z => hmn z)))
      · refine r_ret rfl ?_
        first | exact no (Or.inr (Or.inl hfr)) | exact no (Or.inr (Or.inr (by omega)))
    · refine r_if_y rfl (by decide) ?_
      refine r_ret rfl ?_
      first | exact no (Or.inr (Or.inl hfr)) | exact no (Or.inr (Or.inr (by omega)))
theorem l_cars (hd1 : 9 ≤ d) (hs : Sh σ g) {E : ZF → Prop} (hE : ∀ f f', FrM f f' → E f → E f') (hal : ALm 8 σ g E n m al) {f0 : ZF} (hE0 : E f0) (hp : MPl (f0 229) pl) (hpo : PlOk pl) (hn : pl.1 = n) (hmm : pl.2.1 = m) (ho : RdOk n m N rd) (hN : N + 7 ≤ 1000000)
    (K : ∀ f', FrM f0 f' → MRd (f' 229) (rCars pl al rd 6).1 → (f' 219 25 = if (rCars pl al rd 6).2.2 = true then 1 else 0) → ∀ x, ZWp d zt188 74 [zr (some 219), zi (rCars pl al rd 6).2.1, x] [] σ f' g Q)
    (k : Nat) (hk : k ≤ 6) (f : ZF) (hf : FrM f0 f) (hm : MRd (f 229) (rCars pl al rd k).1) (hmv : f 219 25 = if (rCars pl al rd k).2.2 = true then 1 else 0) : ZWp d zt188 9 [zr (some 219), zi (rCars pl al rd k).2.1, zi (k : Int)] [] σ f g Q := by
  have hok := rCars_ok (al := al) (pl := pl) hn ho k hk (by omega)
  have next : ∀ (f1 : ZF) (v : Int) (hk6 : k < 6), FrM f0 f1 → MRd (f1 229) (rCar pl al (rCars pl al rd k).1 k).1 → v = (rCars pl al rd (k + 1)).2.1 → (f1 219 25 = if (rCars pl al rd (k + 1)).2.2 = true then 1 else 0) → ZWp d zt188 68 [zr (some 219), zi v, zi (k : Int)] [] σ f1 g Q := by
    intro f1 v hk6 h1 h2 h3 h4
    subst h3
    refine r_iinc (L' := [_, _, _]) rfl rfl rfl ?_
    refine r_goto rfl ?_
    exact l_cars hd1 hs hE hal hE0 hp hpo hn hmm ho hN K (k + 1) (by omega) f1 h1 h2 h4
  have hcz : ∀ hk6 : k < 6, MC (f 229) (rCars pl al rd k).1 k := fun hk6 => hm.2.2.1 k hk6
  refine r_iload_n rfl rfl ?_
  refine r_bipush rfl ?_
  refine r_icmp_ge rfl (by omega) (by omega) (fun hlt => ?_) (fun hlt => ?_)
  · have e : k = 6 := by omega
    subst e
    exact K f hf hm hmv _
  · refine r_aload_n rfl rfl ?_
    refine r_iload_n rfl rfl ?_
    refine r_callV1 rfl rfl (by first | assumption | exact hs.o rfl) rfl (c_mOn (by omega) hs hm hok (by omega) (fun hon => ?_) (fun hon => ?_))
    · refine r_if_y rfl (by decide) ?_
      refine r_aload_n rfl rfl ?_
      refine r_iload_n rfl rfl ?_
      refine r_callV1 rfl rfl (by first | assumption | exact hs.o rfl) rfl (c_fuelOf (by omega) hs (by omega) ?_)
      refine r_if_le rfl (by omega) (fun hfu => ?_) (fun hfu => ?_)
      · refine r_aload_n rfl rfl ?_
        refine r_getR rfl (by first | assumption | exact hs.o rfl) (by first | assumption | exact hs.g rfl) ?_
        refine r_bipush rfl ?_
        refine r_iconst rfl ?_
        refine r_iload_n rfl rfl ?_
        refine r_imul rfl ?_
        refine r_iadd rfl ?_
        refine r_iconst rfl ?_
        refine r_iadd rfl ?_
        refine r_dup2 rfl ?_
        refine r_iald rfl (by first | assumption | exact hs.a rfl) (by omega) (by omega) (zix (n := 16 + 5 * k) (by omega)) ?_
        refine r_iconst rfl ?_
        refine r_iadd rfl ?_
        refine r_iastN (16 + 5 * k) rfl (by first | assumption | exact hs.a rfl) (by omega) (by omega) (by omega) ?_
        have e : rCar pl al (rCars pl al rd k).1 k = (rAge (rCars pl al rd k).1 k, false, false) := by unfold rCar; rw [if_neg (show ¬ (rCars pl al rd k).1 0 k = -1 by omega), if_neg (show ¬ 0 < (rCars pl al rd k).1 2 k by omega)]
        refine next _ _ (by omega) (hf.said (by omega)) ?_ ?_ ?_
        · rw [e]
          exact mrd_age hm (by omega) (by omega)
        · simp [rCars, e]
        · rw [up2_o _ _ (by omega), hmv]; simp [rCars, e]
      · refine r_aload_n rfl rfl ?_
        refine r_iload_n rfl rfl ?_
        refine r_callV1 rfl rfl (by first | assumption | exact hs.o rfl) rfl (c_drives (by omega) hs hE hal (hE _ _ hf hE0) (hp.fr hf) hpo hn hmm hm hok (by omega) (by omega) (by omega) (fun hg f1 hf1 hm1 hv1 => ?_) (fun hg hfr f1 hf1 hm1 hv1 => ?_) (fun hg hfr f1 hf1 hm1 hv1 => ?_))
        · refine r_if_n rfl (by decide) ?_
          refine r_iload_n rfl rfl ?_
          refine r_iconst rfl ?_
          refine r_iload_n rfl rfl ?_
          refine r_ishl rfl ?_
          refine r_ior rfl ?_
          refine r_istore_n (L' := [_, _, _]) rfl rfl rfl ?_
          refine r_goto rfl ?_
          have e : rCar pl al (rCars pl al rd k).1 k = (rOff (rCars pl al rd k).1 k, true, true) := by unfold rCar; rw [if_neg (show ¬ (rCars pl al rd k).1 0 k = -1 by omega), if_pos (show 0 < (rCars pl al rd k).1 2 k by omega), if_pos hg]
          refine next _ _ (by omega) (hf.trans hf1) ?_ ?_ ?_
          · rw [e]
            exact hm1
          · simp [rCars, e]
          · rw [hv1]; simp [rCars, e]
        · refine r_if_y rfl (by decide) ?_
          refine r_aload_n rfl rfl ?_
          refine r_getR rfl (by first | assumption | exact hs.o rfl) (by first | assumption | exact hs.g rfl) ?_
          refine r_bipush rfl ?_
          refine r_iconst rfl ?_
          refine r_iload_n rfl rfl ?_
          refine r_imul rfl ?_
          refine r_iadd rfl ?_
          refine r_iconst rfl ?_
          refine r_iadd rfl ?_
          refine r_dup2 rfl ?_
          refine r_iald rfl (by first | assumption | exact hs.a rfl) (by omega) (by omega) (zix (n := 16 + 5 * k) (by omega)) ?_
          refine r_iconst rfl ?_
          refine r_iadd rfl ?_
          refine r_iastN (16 + 5 * k) rfl (by first | assumption | exact hs.a rfl) (by omega) (by omega) (by omega) ?_
          have e : rCar pl al (rCars pl al rd k).1 k = (rAge (rGo (rCars pl al rd k).1 k (rNx pl.1 ((rCars pl al rd k).1 0 k))) k, false, true) := by unfold rCar; rw [if_neg (show ¬ (rCars pl al rd k).1 0 k = -1 by omega), if_pos (show 0 < (rCars pl al rd k).1 2 k by omega), if_neg hg, if_pos hfr]
          refine next _ _ (by omega) ((hf.trans hf1).said (by omega)) ?_ ?_ ?_
          · rw [e]
            refine mrd_age hm1 (by omega) ?_
            have := rNx_rng (n := pl.1) (c := (rCars pl al rd k).1 0 k) (by omega)
            simp [rGo, up2]; omega
          · simp [rCars, e]
          · rw [up2_o _ _ (by omega), hv1]; simp [rCars, e]
        · refine r_if_y rfl (by decide) ?_
          refine r_aload_n rfl rfl ?_
          refine r_getR rfl (by first | assumption | exact hs.o rfl) (by first | assumption | exact hs.g rfl) ?_
          refine r_bipush rfl ?_
          refine r_iconst rfl ?_
          refine r_iload_n rfl rfl ?_
          refine r_imul rfl ?_
          refine r_iadd rfl ?_
          refine r_iconst rfl ?_
          refine r_iadd rfl ?_
          refine r_dup2 rfl ?_
          refine r_iald rfl (by first | assumption | exact hs.a rfl) (by omega) (by omega) (zix (n := 16 + 5 * k) (by omega)) ?_
          refine r_iconst rfl ?_
          refine r_iadd rfl ?_
          refine r_iastN (16 + 5 * k) rfl (by first | assumption | exact hs.a rfl) (by omega) (by omega) (by omega) ?_
          have e : rCar pl al (rCars pl al rd k).1 k = (rAge (rCars pl al rd k).1 k, false, false) := by unfold rCar; rw [if_neg (show ¬ (rCars pl al rd k).1 0 k = -1 by omega), if_pos (show 0 < (rCars pl al rd k).1 2 k by omega), if_neg hg, if_neg hfr]
          refine next _ _ (by omega) ((hf.trans hf1).said (by omega)) ?_ ?_ ?_
          · rw [e]
            exact mrd_age hm1 (by omega) (by omega)
          · simp [rCars, e]
          · rw [up2_o _ _ (by omega), hv1, hmv]; simp [rCars, e]
    · refine r_if_n rfl (by decide) ?_
      refine r_goto rfl ?_
      have e : rCar pl al (rCars pl al rd k).1 k = ((rCars pl al rd k).1, false, false) := by unfold rCar; rw [if_pos (show (rCars pl al rd k).1 0 k = -1 by omega)]
      refine next _ _ (by omega) hf ?_ ?_ ?_
      · rw [e]
        exact hm
      · simp [rCars, e]
      · rw [hmv]; simp [rCars, e]
termination_by 6 - k
end MPASS
