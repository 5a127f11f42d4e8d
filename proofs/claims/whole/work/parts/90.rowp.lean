/-! Rows of sets: the best of them, the first of these -/
def rdy (pl : Pl) (rd : Rd) (k : Nat) : Bool := decide (rd 0 k ≠ -1 ∧ 0 < rd 2 k ∧ pl.2.2.2.1 (rd 1 k).toNat = rd 0 k)
def rNf (P : Nat → Bool) : Nat → Nat
  | 0 => 0
  | k + 1 => rNf P k ||| (if P k = true then 2 ^ k else 0)
theorem rNf_bit (P : Nat → Bool) : ∀ (k i : Nat), (rNf P k).testBit i = (decide (i < k) && P i) := by
  intro k
  induction k with
  | zero => intro i; simp [rNf]
  | succ k ih =>
    intro i
    unfold rNf
    rw [Nat.testBit_or, ih i]
    by_cases e : i = k
    · subst e
      cases hp : P i with
      | true => simp [Nat.testBit_two_pow_self]
      | false => simp
    · have h2 : (if P k = true then 2 ^ k else 0).testBit i = false := by
        split
        · rw [Nat.testBit_two_pow]; exact decide_eq_false_iff_not.2 (fun q => e q.symm)
        · exact Nat.zero_testBit i
      rw [h2, Bool.or_false]
      congr 1
      apply decide_eq_decide.2
      omega
theorem rNf_lt (P : Nat → Bool) : ∀ k, rNf P k < 2 ^ k := by
  intro k
  induction k with
  | zero => simp [rNf]
  | succ k ih =>
    unfold rNf
    apply Nat.or_lt_two_pow
    · rw [Nat.pow_succ]; omega
    · split
      · rw [Nat.pow_succ]; have := Nat.two_pow_pos k; omega
      · exact Nat.two_pow_pos _
def rN (pl : Pl) (rd : Rd) : Nat := rNf (rdy pl rd) 6
theorem rN_bit {pl : Pl} {rd : Rd} (i : Nat) : (rN pl rd).testBit i = (decide (i < 6) && rdy pl rd i) := rNf_bit _ 6 i
theorem rN_lt (pl : Pl) (rd : Rd) : rN pl rd < 64 := rNf_lt _ 6
def cS (pl : Pl) (s : Nat) (rd : Rd) : Int := cnt (fun i => decide (i < 6) && (rdy pl rd i && s.testBit i)) 20
def tS (pl : Pl) (s : Nat) (rd : Rd) : Rd := (rStep pl (alSet (s : Int)) (-1) rd).1
theorem alSet_bit {s k : Nat} (hs : s < 64) (hk : k < 6) (rd : Rd) : alSet (s : Int) rd k = s.testBit k := by
  have hb : Bits (s : Int) s.testBit := ⟨s, rfl, by omega, fun _ _ => rfl⟩
  unfold alSet
  rw [hb.test (by omega)]
  cases s.testBit k <;> decide
section ROWP
variable {pl : Pl} {rd : Rd} {al al' : Rd → Nat → Bool} {cl : Int}
theorem rCar_cg {k : Nat} (h : rd 0 k ≠ -1 → 0 < rd 2 k → pl.2.2.2.1 (rd 1 k).toNat = rd 0 k → al rd k = al' rd k) : rCar pl al rd k = rCar pl al' rd k := by
  unfold rCar
  by_cases h0 : rd 0 k = -1
  · rw [if_pos h0, if_pos h0]
  · rw [if_neg h0, if_neg h0]
    by_cases h2 : 0 < rd 2 k
    · rw [if_pos h2, if_pos h2]
      by_cases h3 : pl.2.2.2.1 (rd 1 k).toNat = rd 0 k
      · rw [h h0 h2 h3]
      · rw [if_neg (show ¬ (pl.2.2.2.1 (rd 1 k).toNat = rd 0 k ∧ al rd k = true) from fun z => h3 z.1), if_neg (show ¬ (pl.2.2.2.1 (rd 1 k).toNat = rd 0 k ∧ al' rd k = true) from fun z => h3 z.1)]
    · rw [if_neg h2, if_neg h2]
theorem rCars_cg (h : ∀ (rd' : Rd) k, k < 6 → (∀ i, i < 4 → rd' i k = rd i k) → rd' 0 k ≠ -1 → 0 < rd' 2 k → pl.2.2.2.1 (rd' 1 k).toNat = rd' 0 k → al rd' k = al' rd' k) : ∀ k, k ≤ 6 → rCars pl al rd k = rCars pl al' rd k := by
  intro k
  induction k with
  | zero => intro _; rfl
  | succ k ih =>
    intro hk
    have h1 := ih (by omega)
    have h2 : rCar pl al (rCars pl al' rd k).1 k = rCar pl al' (rCars pl al' rd k).1 k := rCar_cg (fun a b c => h _ k (by omega) (fun i hi => rCars_o hi k (Nat.le_refl k)) a b c)
    unfold rCars
    rw [h1, h2]
theorem rStep_cg (h : ∀ (rd' : Rd) k, k < 6 → (∀ i, i < 4 → rd' i k = rd i k) → rd' 0 k ≠ -1 → 0 < rd' 2 k → pl.2.2.2.1 (rd' 1 k).toNat = rd' 0 k → al rd' k = al' rd' k) : rStep pl al cl rd = rStep pl al' cl rd := by
  unfold rStep
  rw [rCars_cg h 6 (Nat.le_refl 6)]
theorem rStep_set {s s' : Nat} (hs : s < 64) (hs' : s' < 64) (h : ∀ k, k < 6 → rdy pl rd k = true → s.testBit k = s'.testBit k) : rStep pl (alSet (s : Int)) cl rd = rStep pl (alSet (s' : Int)) cl rd := by
  refine rStep_cg (fun rd' k hk e h0 h2 h3 => ?_)
  rw [alSet_bit hs hk, alSet_bit hs' hk]
  refine h k hk (decide_eq_true_iff.2 ?_)
  rw [← e 0 (by omega), ← e 1 (by omega), ← e 2 (by omega)]
  exact ⟨h0, h2, h3⟩
theorem rCar_off {s k : Nat} (hs : s < 64) (hk : k < 6) : (rCar pl (alSet (s : Int)) (rCars pl (alSet (s : Int)) rd k).1 k).2.1 = (rdy pl rd k && s.testBit k) := by
  have e : ∀ i, i < 4 → (rCars pl (alSet (s : Int)) rd k).1 i k = rd i k := fun i hi => rCars_o hi k (Nat.le_refl k)
  unfold rCar rdy
  rw [e 0 (by omega), e 1 (by omega), e 2 (by omega), alSet_bit hs hk]
  by_cases h0 : rd 0 k = -1
  · rw [if_pos h0]; simp [h0]
  · rw [if_neg h0]
    by_cases h2 : 0 < rd 2 k
    · rw [if_pos h2]
      by_cases h3 : pl.2.2.2.1 (rd 1 k).toNat = rd 0 k
      · cases hb : s.testBit k with
        | true => rw [if_pos ⟨h3, rfl⟩]; simp [h0, h2, h3]
        | false => rw [if_neg (fun z => by cases z.2)]; split <;> simp
      · rw [if_neg (fun z => h3 z.1)]; split <;> simp [h3]
    · rw [if_neg h2]; simp [h2]
theorem tS_gone {s : Nat} (hs : s < 64) : tS pl s rd 5 1 = rd 5 1 + cS pl s rd := by
  unfold tS cS
  rw [rStep_g]
  congr 1
  refine cnt_congr 20 (fun i _ => ?_)
  by_cases h : i < 6
  · rw [rCar_off hs h]
  · simp [h]
theorem tS_bits {s : Nat} (hs : s < 64) : Bits (rStep pl (alSet (s : Int)) (-1) rd).2.1 (fun i => decide (i < 6) && (rdy pl rd i && s.testBit i)) := by
  refine rStep_bits.imp (fun i _ => ?_)
  by_cases h : i < 6
  · rw [rCar_off hs h]
  · simp [h]
theorem cnt_mono {p q : Nat → Bool} : ∀ n, (∀ i, i < n → p i = true → q i = true) → cnt p n ≤ cnt q n := by
  intro n
  induction n with
  | zero => intro _; exact Int.le_refl 0
  | succ n ih =>
    intro h
    have h1 := ih (fun i hi => h i (by omega))
    have h2 := h n (by omega)
    show cnt p n + (if p n = true then 1 else 0) ≤ cnt q n + (if q n = true then 1 else 0)
    by_cases hp : p n = true
    · rw [if_pos hp, if_pos (h2 hp)]; omega
    · rw [if_neg hp]; split <;> omega
theorem cnt_less {p q : Nat → Bool} : ∀ n, (∀ i, i < n → p i = true → q i = true) → (∃ i, i < n ∧ q i = true ∧ p i = false) → cnt p n < cnt q n := by
  intro n
  induction n with
  | zero => intro _ ⟨i, h, _⟩; omega
  | succ n ih =>
    intro h ⟨i, h1, h2, h3⟩
    have hm := cnt_mono n (fun i hi => h i (by omega))
    have hn := h n (by omega)
    show cnt p n + (if p n = true then 1 else 0) < cnt q n + (if q n = true then 1 else 0)
    by_cases e : i = n
    · subst e
      rw [if_pos h2, if_neg (by rw [h3]; decide)]
      omega
    · have := ih (fun i hi => h i (by omega)) ⟨i, by omega, h2, h3⟩
      by_cases hp : p n = true
      · rw [if_pos hp, if_pos (hn hp)]; omega
      · rw [if_neg hp]; split <;> omega
theorem cnt_nn {p : Nat → Bool} : ∀ n : Nat, 0 ≤ cnt p n ∧ cnt p n ≤ (n : Int) := by
  intro n
  induction n with
  | zero => exact ⟨Int.le_refl 0, Int.le_refl 0⟩
  | succ n ih =>
    show 0 ≤ cnt p n + (if p n = true then 1 else 0) ∧ cnt p n + (if p n = true then 1 else 0) ≤ _
    split <;> omega
theorem cS_nn (pl : Pl) (s : Nat) (rd : Rd) : 0 ≤ cS pl s rd ∧ cS pl s rd ≤ 20 := cnt_nn 20
def tot (pl : Pl) : Rd → List Nat → Int
  | _, [] => 0
  | rd, s :: r => cS pl s rd + tot pl (tS pl s rd) r
def cdR : List Nat → Nat
  | [] => 0
  | s :: r => s * 64 ^ r.length + cdR r
theorem cdR_lt : ∀ (r : List Nat), (∀ s ∈ r, s < 64) → cdR r < 64 ^ r.length := by
  intro r
  induction r with
  | nil => intro _; simp [cdR]
  | cons s r ih =>
    intro h
    have h1 := ih (fun x hx => h x (List.mem_cons_of_mem _ hx))
    have h2 := h s List.mem_cons_self
    show s * 64 ^ r.length + cdR r < 64 ^ (r.length + 1)
    rw [Nat.pow_succ]
    have h3 : s * 64 ^ r.length ≤ 63 * 64 ^ r.length := Nat.mul_le_mul_right _ (by omega)
    omega
def cand (pl : Pl) : Rd → List Nat → Prop
  | _, [] => True
  | rd, s :: r => s < 64 ∧ (∀ k, k < 6 → s.testBit k = true → rdy pl rd k = true) ∧ (r = [] → s = rN pl rd) ∧ cand pl (tS pl s rd) r
theorem cand.lt {pl : Pl} : ∀ (r : List Nat) (rd : Rd), cand pl rd r → ∀ s ∈ r, s < 64 := by
  intro r
  induction r with
  | nil => intro _ _ s hs; cases hs
  | cons x r ih =>
    intro rd h s hs
    rcases List.mem_cons.1 hs with q | q
    · rw [q]; exact h.1
    · exact ih _ h.2.2.2 s q
theorem bits_eq {a b : Nat} (ha : a < 64) (hb : b < 64) (h : ∀ k, k < 6 → a.testBit k = b.testBit k) : a = b := by
  apply Nat.eq_of_testBit_eq
  intro i
  by_cases hi : i < 6
  · exact h i hi
  · rw [Nat.testBit_lt_two_pow (Nat.lt_of_lt_of_le ha (show 64 ≤ 2 ^ i from Nat.pow_le_pow_right (n := 2) (by omega) (show 6 ≤ i by omega))), Nat.testBit_lt_two_pow (Nat.lt_of_lt_of_le hb (show 64 ≤ 2 ^ i from Nat.pow_le_pow_right (n := 2) (by omega) (show 6 ≤ i by omega)))]
/-- no row does better than some that is tried, nor as well ahead of them all -/
theorem dominated {pl : Pl} : ∀ (row : List Nat) (rd : Rd), (∀ s ∈ row, s < 64) → ∃ row', cand pl rd row' ∧ row'.length = row.length ∧ (tot pl rd row < tot pl rd row' ∨ (tot pl rd row = tot pl rd row' ∧ cdR row' ≤ cdR row)) := by
  intro row
  induction row with
  | nil => intro rd _; exact ⟨[], trivial, rfl, Or.inr ⟨rfl, Nat.le_refl _⟩⟩
  | cons s r ih =>
    intro rd h
    have hs := h s List.mem_cons_self
    have hR := rN_lt pl rd
    cases r with
    | nil =>
      refine ⟨[rN pl rd], ⟨hR, fun k hk q => by rw [rN_bit] at q; simp only [Bool.and_eq_true] at q; exact q.2, fun _ => rfl, trivial⟩, rfl, ?_⟩
      by_cases e : s &&& rN pl rd = rN pl rd
      · refine Or.inr ⟨?_, ?_⟩
        · show cS pl s rd + 0 = cS pl (rN pl rd) rd + 0
          congr 1
          unfold cS
          refine cnt_congr 20 (fun i _ => ?_)
          have hb : (s &&& rN pl rd).testBit i = (rN pl rd).testBit i := by rw [e]
          rw [Nat.testBit_and, rN_bit] at hb
          rw [rN_bit]
          revert hb
          cases decide (i < 6) <;> cases rdy pl rd i <;> cases s.testBit i <;> simp
        · show rN pl rd * 1 + 0 ≤ s * 1 + 0
          have := Nat.and_le_left (n := s) (m := rN pl rd)
          omega
      · refine Or.inl ?_
        show cS pl s rd + 0 < cS pl (rN pl rd) rd + 0
        have hex : ∃ i, i < 6 ∧ rdy pl rd i = true ∧ s.testBit i = false := by
          apply Classical.byContradiction
          intro q
          apply e
          refine bits_eq (Nat.lt_of_le_of_lt Nat.and_le_right hR) hR (fun k hk => ?_)
          rw [Nat.testBit_and, rN_bit]
          cases h1 : rdy pl rd k with
          | false => simp
          | true =>
            cases h2 : s.testBit k with
            | true => simp
            | false => exact absurd ⟨k, hk, h1, h2⟩ q
        obtain ⟨i, i1, i2, i3⟩ := hex
        have := cnt_less (p := fun i => decide (i < 6) && (rdy pl rd i && s.testBit i)) (q := fun i => decide (i < 6) && (rdy pl rd i && (rN pl rd).testBit i)) 20 (fun j _ hj => by
          rw [rN_bit]
          revert hj
          cases decide (j < 6) <;> cases rdy pl rd j <;> simp) ⟨i, by omega, by rw [rN_bit]; simp [i1, i2], by simp [i3]⟩
        unfold cS
        omega
    | cons s2 r2 =>
      have hs' : s &&& rN pl rd < 64 := Nat.lt_of_le_of_lt Nat.and_le_right hR
      have hbit : ∀ k, k < 6 → rdy pl rd k = true → (s &&& rN pl rd).testBit k = s.testBit k := fun k hk q => by
        rw [Nat.testBit_and, rN_bit, q]; simp [hk]
      have eT : tS pl (s &&& rN pl rd) rd = tS pl s rd := by
        unfold tS
        rw [rStep_set hs' hs hbit]
      have eC : cS pl (s &&& rN pl rd) rd = cS pl s rd := by
        unfold cS
        refine cnt_congr 20 (fun i _ => ?_)
        by_cases hi : i < 6
        · cases hq : rdy pl rd i with
          | true => rw [hbit i hi hq]
          | false => simp
        · simp [hi]
      obtain ⟨r', c1, c2, c3⟩ := ih (tS pl s rd) (fun x hx => h x (List.mem_cons_of_mem _ hx))
      refine ⟨(s &&& rN pl rd) :: r', ⟨hs', fun k hk q => ?_, fun q => ?_, by rw [eT]; exact c1⟩, by simp only [List.length_cons] at c2 ⊢; omega, ?_⟩
      · rw [Nat.testBit_and, rN_bit] at q
        simp only [Bool.and_eq_true] at q
        exact q.2.2
      · rw [q] at c2; simp at c2
      · show (cS pl s rd + tot pl (tS pl s rd) (s2 :: r2) < cS pl (s &&& rN pl rd) rd + tot pl (tS pl (s &&& rN pl rd) rd) r') ∨ (cS pl s rd + tot pl (tS pl s rd) (s2 :: r2) = cS pl (s &&& rN pl rd) rd + tot pl (tS pl (s &&& rN pl rd) rd) r' ∧ (s &&& rN pl rd) * 64 ^ r'.length + cdR r' ≤ s * 64 ^ (s2 :: r2).length + cdR (s2 :: r2))
        rw [eC, eT, c2]
        rcases c3 with c3 | ⟨c3, c4⟩
        · exact Or.inl (by omega)
        · refine Or.inr ⟨by omega, ?_⟩
          have := Nat.mul_le_mul_right (64 ^ (s2 :: r2).length) (Nat.and_le_left (n := s) (m := rN pl rd))
          omega
/-- of the rows that are in X, the best came in, if it is better -/
def Upd (pl : Pl) (g : Int) (pre : List Nat) (rd : Rd) (X : List Nat → Prop) (m : Int) (c : List Nat) (m' : Int) (c' : List Nat) : Prop :=
  ((m' = m ∧ c' = c) ∧ ∀ r, X r → g + tot pl rd r ≤ m) ∨ (∃ r, X r ∧ c' = pre ++ r ∧ m' = g + tot pl rd r ∧ m < m' ∧ (∀ r2, X r2 → g + tot pl rd r2 ≤ m') ∧ ∀ r2, X r2 → cdR r2 < cdR r → g + tot pl rd r2 < m')
theorem Upd.none {g : Int} {pre : List Nat} {X : List Nat → Prop} {m : Int} {c : List Nat} (h : ∀ r, ¬ X r) : Upd pl g pre rd X m c m c := Or.inl ⟨⟨rfl, rfl⟩, fun r hr => absurd hr (h r)⟩
theorem Upd.app {g : Int} {pre : List Nat} {X Y : List Nat → Prop} {m m1 m2 : Int} {c c1 c2 : List Nat} (h1 : Upd pl g pre rd X m c m1 c1) (h2 : Upd pl g pre rd Y m1 c1 m2 c2) (hXY : ∀ a b, X a → Y b → cdR a < cdR b) : Upd pl g pre rd (fun r => X r ∨ Y r) m c m2 c2 := by
  rcases h2 with ⟨⟨rfl, rfl⟩, b2⟩ | ⟨r, b1, b2, b3, b4, b5, b6⟩
  · rcases h1 with ⟨⟨rfl, rfl⟩, a2⟩ | ⟨r, a1, a2, a3, a4, a5, a6⟩
    · exact Or.inl ⟨⟨rfl, rfl⟩, fun r hr => by rcases hr with q | q; exact a2 r q; exact b2 r q⟩
    · refine Or.inr ⟨r, Or.inl a1, a2, a3, a4, fun r2 hr => ?_, fun r2 hr hlt => ?_⟩
      · rcases hr with q | q
        · exact a5 r2 q
        · exact b2 r2 q
      · rcases hr with q | q
        · exact a6 r2 q hlt
        · have := hXY r r2 a1 q; omega
  · have hm : m ≤ m1 := by
      rcases h1 with ⟨⟨q, _⟩, _⟩ | ⟨_, _, _, _, q, _⟩ <;> omega
    have hX : ∀ r2, X r2 → g + tot pl rd r2 ≤ m1 := fun r2 hr => by
      rcases h1 with ⟨⟨q, _⟩, a2⟩ | ⟨_, _, _, _, _, a5, _⟩
      · have := a2 r2 hr; omega
      · exact a5 r2 hr
    refine Or.inr ⟨r, Or.inr b1, b2, b3, by omega, fun r2 hr => ?_, fun r2 hr hlt => ?_⟩
    · rcases hr with q | q
      · have := hX r2 q; omega
      · exact b5 r2 q
    · rcases hr with q | q
      · have := hX r2 q; omega
      · exact b6 r2 q hlt
theorem Upd.cg {g : Int} {pre : List Nat} {X Y : List Nat → Prop} {m m1 : Int} {c c1 : List Nat} (h : Upd pl g pre rd X m c m1 c1) (e : ∀ r, X r ↔ Y r) : Upd pl g pre rd Y m c m1 c1 := by
  rcases h with ⟨a1, a2⟩ | ⟨r, a1, a2, a3, a4, a5, a6⟩
  · exact Or.inl ⟨a1, fun r hr => a2 r ((e r).2 hr)⟩
  · exact Or.inr ⟨r, (e r).1 a1, a2, a3, a4, fun r2 hr => a5 r2 ((e r2).2 hr), fun r2 hr => a6 r2 ((e r2).2 hr)⟩
/-- rows that begin with s -/
theorem Upd.cons {g : Int} {pre : List Nat} {s j : Nat} {m m1 : Int} {c c1 : List Nat} (h : Upd pl (g + cS pl s rd) (pre ++ [s]) (tS pl s rd) (fun r => cand pl (tS pl s rd) r ∧ r.length = j) m c m1 c1) : Upd pl g pre rd (fun r => ∃ r', r = s :: r' ∧ cand pl (tS pl s rd) r' ∧ r'.length = j) m c m1 c1 := by
  have ht : ∀ r', g + tot pl rd (s :: r') = g + cS pl s rd + tot pl (tS pl s rd) r' := fun r' => by
    show g + (cS pl s rd + tot pl (tS pl s rd) r') = _
    omega
  rcases h with ⟨a1, a2⟩ | ⟨r, a1, a2, a3, a4, a5, a6⟩
  · refine Or.inl ⟨a1, fun r hr => ?_⟩
    obtain ⟨r', rfl, q1, q2⟩ := hr
    rw [ht]
    exact a2 r' ⟨q1, q2⟩
  · refine Or.inr ⟨s :: r, ⟨r, rfl, a1.1, a1.2⟩, by rw [a2]; simp, by rw [ht]; exact a3, a4, fun r2 hr => ?_, fun r2 hr hlt => ?_⟩
    · obtain ⟨r', rfl, q1, q2⟩ := hr
      rw [ht]
      exact a5 r' ⟨q1, q2⟩
    · obtain ⟨r', rfl, q1, q2⟩ := hr
      rw [ht]
      refine a6 r' ⟨q1, q2⟩ ?_
      have : s * 64 ^ r'.length + cdR r' < s * 64 ^ r.length + cdR r := hlt
      rw [q2, a1.2] at this
      omega
/-- all codes, one after the other -/
def dg : Nat → Nat → List Nat
  | 0, _ => []
  | n + 1, c => (c / 64 ^ n % 64) :: dg n c
def bF (pl : Pl) (rd : Rd) (n : Nat) : Nat → Int × Int
  | 0 => (-1, -1)
  | k + 1 => if (bF pl rd n k).1 < tot pl rd (dg n k) then (tot pl rd (dg n k), (k : Int)) else bF pl rd n k
theorem dg_len : ∀ n c, (dg n c).length = n := by
  intro n
  induction n with
  | zero => intro c; rfl
  | succ n ih => intro c; show (dg n c).length + 1 = _; rw [ih c]
theorem dg_lt : ∀ n c, ∀ s ∈ dg n c, s < 64 := by
  intro n
  induction n with
  | zero => intro c s hs; cases hs
  | succ n ih =>
    intro c s hs
    rcases List.mem_cons.1 hs with q | q
    · rw [q]; exact Nat.mod_lt _ (by omega)
    · exact ih c s q
theorem cd_dg : ∀ n c, cdR (dg n c) = c % 64 ^ n := by
  intro n
  induction n with
  | zero => intro c; simp [dg, cdR, Nat.mod_one]
  | succ n ih =>
    intro c
    show (c / 64 ^ n % 64) * 64 ^ (dg n c).length + cdR (dg n c) = _
    rw [dg_len, ih c, Nat.pow_succ, Nat.mod_mul]
    rw [Nat.mul_comm]
    omega
theorem dg_cd : ∀ (row : List Nat), (∀ s ∈ row, s < 64) → dg row.length (cdR row) = row := by
  have key : ∀ (row : List Nat) (x : Nat), (∀ s ∈ row, s < 64) → dg row.length (x * 64 ^ row.length + cdR row) = row := by
    intro row
    induction row with
    | nil => intro x _; rfl
    | cons s r ih =>
      intro x h
      have hs := h s List.mem_cons_self
      have hr : ∀ y ∈ r, y < 64 := fun y hy => h y (List.mem_cons_of_mem _ hy)
      have hl := cdR_lt r hr
      show ((x * 64 ^ (r.length + 1) + (s * 64 ^ r.length + cdR r)) / 64 ^ r.length % 64) :: dg r.length (x * 64 ^ (r.length + 1) + (s * 64 ^ r.length + cdR r)) = s :: r
      have e : x * 64 ^ (r.length + 1) + (s * 64 ^ r.length + cdR r) = (x * 64 + s) * 64 ^ r.length + cdR r := by
        rw [Nat.pow_succ, Nat.add_mul, ← Nat.mul_assoc, Nat.mul_right_comm]
        omega
      rw [e, ih _ hr]
      congr 1
      rw [Nat.mul_comm (x * 64 + s), Nat.mul_add_div (Nat.pow_pos (by omega)), Nat.div_eq_of_lt hl]
      omega
  intro row h
  have := key row 0 h
  rw [Nat.zero_mul, Nat.zero_add] at this
  exact this
theorem tot_nn : ∀ (r : List Nat) (rd : Rd), 0 ≤ tot pl rd r ∧ tot pl rd r ≤ 20 * (r.length : Int) := by
  intro r
  induction r with
  | nil => intro rd; exact ⟨Int.le_refl 0, Int.le_refl 0⟩
  | cons s r ih =>
    intro rd
    have h1 := cS_nn pl s rd
    have h2 := ih (tS pl s rd)
    show 0 ≤ cS pl s rd + tot pl (tS pl s rd) r ∧ cS pl s rd + tot pl (tS pl s rd) r ≤ 20 * ((r.length + 1 : Nat) : Int)
    omega
/-- the best and the first of them, told in another way -/
def IsB (pl : Pl) (rd : Rd) (n K : Nat) (m c : Int) : Prop := ∃ k : Nat, c = (k : Int) ∧ k < K ∧ tot pl rd (dg n k) = m ∧ (∀ k', k' < K → tot pl rd (dg n k') ≤ m) ∧ ∀ k', k' < k → tot pl rd (dg n k') < m
theorem bF_is (pl : Pl) (rd : Rd) (n : Nat) : ∀ K, 0 < K → IsB pl rd n K (bF pl rd n K).1 (bF pl rd n K).2 := by
  intro K
  induction K with
  | zero => intro h; omega
  | succ K ih =>
    intro _
    have hn := (tot_nn (pl := pl) (dg n K) rd).1
    by_cases h0 : K = 0
    · subst h0
      have e : bF pl rd n 1 = (tot pl rd (dg n 0), ((0 : Nat) : Int)) := if_pos (Int.lt_of_lt_of_le (show (-1 : Int) < 0 by decide) hn)
      rw [e]
      exact ⟨0, rfl, by omega, rfl, fun k' hk => by rw [show k' = 0 by omega]; exact Int.le_refl _, fun k' hk => by omega⟩
    · obtain ⟨k, a1, a2, a3, a4, a5⟩ := ih (by omega)
      by_cases h1 : (bF pl rd n K).1 < tot pl rd (dg n K)
      · have e : bF pl rd n (K + 1) = (tot pl rd (dg n K), (K : Int)) := if_pos h1
        rw [e]
        refine ⟨K, rfl, by omega, rfl, fun k' hk => ?_, fun k' hk => ?_⟩
        · by_cases q : k' = K
          · rw [q]; exact Int.le_refl _
          · have := a4 k' (by omega); show _ ≤ tot pl rd (dg n K); omega
        · have := a4 k' hk; show _ < tot pl rd (dg n K); omega
      · have e : bF pl rd n (K + 1) = bF pl rd n K := if_neg h1
        rw [e]
        refine ⟨k, a1, by omega, a3, fun k' hk => ?_, a5⟩
        by_cases q : k' = K
        · rw [q]; omega
        · exact a4 k' (by omega)
theorem IsB.uniq {n K : Nat} {m c m' c' : Int} (h : IsB pl rd n K m c) (h' : IsB pl rd n K m' c') : m = m' ∧ c = c' := by
  obtain ⟨k, a1, a2, a3, a4, a5⟩ := h
  obtain ⟨k', b1, b2, b3, b4, b5⟩ := h'
  have h1 := a4 k' b2
  have h2 := b4 k a2
  have hm : m = m' := by omega
  refine ⟨hm, ?_⟩
  rcases Nat.lt_trichotomy k k' with q | q | q
  · have := b5 k q; omega
  · omega
  · have := a5 k' q; omega
/-- what the search of all that need be tried finds is the best of all -/
theorem Upd.best {n : Nat} (hn : 1 ≤ n) {m : Int} {c : List Nat} (h : Upd pl 0 [] rd (fun r => cand pl rd r ∧ r.length = n) (-1) [] m c) : m = (bF pl rd n (64 ^ n)).1 ∧ dg n (bF pl rd n (64 ^ n)).2.toNat = c ∧ c.length = n ∧ (∀ s ∈ c, s < 64) ∧ (bF pl rd n (64 ^ n)).2 = (cdR c : Int) := by
  have hcand : ∃ r, cand pl rd r ∧ r.length = n := by
    obtain ⟨r', c1, c2, _⟩ := dominated (pl := pl) (dg n 0) rd (dg_lt n 0)
    exact ⟨r', c1, by rw [c2, dg_len]⟩
  rcases h with ⟨⟨q1, q2⟩, a2⟩ | ⟨r, a1, a2, a3, a4, a5, a6⟩
  · obtain ⟨r, hr⟩ := hcand
    have h1 := a2 r hr
    have h2 := (tot_nn (pl := pl) r rd).1
    omega
  · have hc : c = r := by rw [a2]; rfl
    subst hc
    have hlt := cand.lt c rd a1.1
    have hcd := cdR_lt c hlt
    rw [a1.2] at hcd
    have hdg : dg n (cdR c) = c := by have := dg_cd c hlt; rw [a1.2] at this; exact this
    have hB : IsB pl rd n (64 ^ n) m (cdR c : Int) := by
      refine ⟨cdR c, rfl, hcd, by rw [hdg, a3]; omega, fun k' hk => ?_, fun k' hk => ?_⟩
      · obtain ⟨r', c1, c2, c3⟩ := dominated (pl := pl) (dg n k') rd (dg_lt n k')
        have := a5 r' ⟨c1, by rw [c2, dg_len]⟩
        rcases c3 with c3 | c3 <;> omega
      · obtain ⟨r', c1, c2, c3⟩ := dominated (pl := pl) (dg n k') rd (dg_lt n k')
        have h5 := a5 r' ⟨c1, by rw [c2, dg_len]⟩
        rcases c3 with c3 | ⟨c3, c4⟩
        · omega
        · have e := cd_dg n k'
          rw [Nat.mod_eq_of_lt (by omega)] at e
          have := a6 r' ⟨c1, by rw [c2, dg_len]⟩ (by omega)
          omega
    obtain ⟨e1, e2⟩ := hB.uniq (bF_is pl rd n (64 ^ n) (Nat.pow_pos (by omega)))
    refine ⟨e1, ?_, a1.2, hlt, e2.symm⟩
    rw [← e2]
    exact hdg
end ROWP
