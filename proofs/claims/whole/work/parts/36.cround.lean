/-! The class's Round -/
abbrev rOc (rd : Rd) (c : Nat) : Bool := decide (¬ rNo rd (c : Int))
/-- the Round at r tells this state -/
def RC (f : ZF) (r : Nat) (rd : Rd) : Prop := (∀ k, k < 6 → f (r + 1) k = rd 0 k ∧ f (r + 2) k = rd 1 k ∧ f (r + 3) k = rd 2 k ∧ f (r + 4) k = rd 3 k) ∧ (∀ j, j < 5 → f (r + 5) j = rd 4 j) ∧ f r 7 = rd 5 0 ∧ f r 8 = rd 5 1 ∧ Bits (f r 6) (fun c => decide (rd 6 c = 1)) ∧ Bits (f r 5) (rOc rd)
/-- no two in one cell -/
def RdDj (rd : Rd) : Prop := ∀ j k, j < 6 → k < 6 → 0 ≤ rd 0 j → rd 0 j = rd 0 k → j = k
def FrR (r : Nat) (f f' : ZF) : Prop := ∀ c, (c < r ∨ r + 5 < c) → f' c = f c
theorem FrR.rf (r : Nat) (f : ZF) : FrR r f f := fun _ _ => rfl
theorem FrR.trans {r : Nat} {a b c : ZF} (h1 : FrR r a b) (h2 : FrR r b c) : FrR r a c := fun k q => (h2 k q).trans (h1 k q)
theorem FrR.up {r k i : Nat} {f0 f : ZF} {v : Int} (h : FrR r f0 f) (hk : r ≤ k ∧ k ≤ r + 5) : FrR r f0 (up2 f k i v) := fun c q => (up2_o f v (by omega)).trans (h c q)
theorem bd_clr {P P' : Prop} [Decidable P] [Decidable P'] {i c : Nat} (e : P' ↔ P ∨ i = c) : (decide (¬ P) && !(i == c)) = decide (¬ P') := by
  by_cases h1 : P <;> by_cases h2 : i = c <;> simp [h1, h2, e]
theorem bd_set {P P' : Prop} [Decidable P] [Decidable P'] {i c : Nat} (e : P' ↔ P ∧ i ≠ c) : (decide (¬ P) || i == c) = decide (¬ P') := by
  by_cases h1 : P <;> by_cases h2 : i = c <;> simp [h1, h2, e]
theorem bd_mov {P P' : Prop} [Decidable P] [Decidable P'] {i c c' : Nat} (e : P' ↔ (P ∨ i = c) ∧ i ≠ c') : ((decide (¬ P) && !(i == c)) || i == c') = decide (¬ P') := by
  by_cases h1 : P <;> by_cases h2 : i = c <;> by_cases h3 : i = c' <;> simp [h1, h2, h3, e] <;> rfl
theorem rOff0 (rd : Rd) (k j : Nat) : rOff rd k 0 j = if j = k then -1 else rd 0 j := by
  simp [rOff, up2]
theorem rGo0 (rd : Rd) (k j : Nat) (c : Int) : rGo rd k c 0 j = if j = k then c else rd 0 j := by
  simp [rGo, up2]
theorem rOn0 (rd : Rd) (k j : Nat) (c r fu : Int) : rOn rd k c r fu 0 j = if j = k then c else rd 0 j := by
  simp [rOn, up2]
theorem rAge0 (rd : Rd) (k j : Nat) : rAge rd k 0 j = rd 0 j := by
  simp [rAge, up2]
section CROUND
variable {d : Nat} {σ : ZS} {f : ZF} {g : ZG} {Q : ZQ} {n m N : Int} {rd : Rd} {r : Nat}
theorem rNo_off {k : Nat} (hk : k < 6) (h0 : 0 ≤ rd 0 k) (hdj : RdDj rd) {c : Int} (hc : 0 ≤ c) : rNo (rOff rd k) c ↔ rNo rd c ∨ c = rd 0 k := by
  constructor
  · intro h
    by_cases e : c = rd 0 k
    · exact Or.inr e
    · refine Or.inl (fun j hj => ?_)
      have := h j hj
      rw [rOff0] at this
      by_cases q : j = k
      · subst q; exact fun z => e z.symm
      · rw [if_neg q] at this; exact this
  · intro h j hj
    rw [rOff0]
    by_cases q : j = k
    · rw [if_pos q]; omega
    · rw [if_neg q]
      rcases h with h | h
      · exact h j hj
      · intro z
        exact q (hdj j k hj hk (by omega) (by omega))
theorem rNo_go {k : Nat} (hk : k < 6) (h0 : 0 ≤ rd 0 k) (hdj : RdDj rd) {c c' : Int} (hc : 0 ≤ c) : rNo (rGo rd k c') c ↔ (rNo rd c ∨ c = rd 0 k) ∧ c ≠ c' := by
  constructor
  · intro h
    refine ⟨?_, ?_⟩
    · by_cases e : c = rd 0 k
      · exact Or.inr e
      · refine Or.inl (fun j hj => ?_)
        have := h j hj
        rw [rGo0] at this
        by_cases q : j = k
        · subst q; exact fun z => e z.symm
        · rw [if_neg q] at this; exact this
    · have := h k hk
      rw [rGo0, if_pos rfl] at this
      exact fun z => this z.symm
  · intro h j hj
    rw [rGo0]
    by_cases q : j = k
    · rw [if_pos q]; exact fun z => h.2 z.symm
    · rw [if_neg q]
      rcases h.1 with h | h
      · exact h j hj
      · intro z
        exact q (hdj j k hj hk (by omega) (by omega))
theorem rNo_on {k : Nat} (hk : k < 6) (h0 : rd 0 k = -1) {c c' x y : Int} (hc : 0 ≤ c) : rNo (rOn rd k c' x y) c ↔ rNo rd c ∧ c ≠ c' := by
  constructor
  · intro h
    refine ⟨fun j hj => ?_, ?_⟩
    · have := h j hj
      rw [rOn0] at this
      by_cases q : j = k
      · subst q; omega
      · rw [if_neg q] at this; exact this
    · have := h k hk
      rw [rOn0, if_pos rfl] at this
      exact fun z => this z.symm
  · intro h j hj
    rw [rOn0]
    by_cases q : j = k
    · rw [if_pos q]; exact fun z => h.2 z.symm
    · rw [if_neg q]; exact h.1 j hj
theorem rNo_same {rd' : Rd} (h : ∀ k, k < 6 → rd' 0 k = rd 0 k) (c : Int) : rNo rd' c ↔ rNo rd c := ⟨fun q k hk => by rw [← h k hk]; exact q k hk, fun q k hk => by rw [h k hk]; exact q k hk⟩
theorem rOc_same {rd' : Rd} (h : ∀ k, k < 6 → rd' 0 k = rd 0 k) (i : Nat) : rOc rd i = rOc rd' i := by
  unfold rOc
  rw [decide_eq_decide]
  exact not_congr (rNo_same h _).symm
theorem RdDj.same {rd' : Rd} (hd : RdDj rd) (h : ∀ k, k < 6 → rd' 0 k = rd 0 k) : RdDj rd' := fun j k hj hk q1 q2 => hd j k hj hk (by rw [← h j hj]; exact q1) (by rw [← h j hj, ← h k hk]; exact q2)
theorem RdDj.off (hd : RdDj rd) {k : Nat} : RdDj (rOff rd k) := by
  intro i j hi hj q1 q2
  rw [rOff0] at q1 q2
  rw [rOff0] at q2
  by_cases e1 : i = k
  · rw [if_pos e1] at q1; omega
  · rw [if_neg e1] at q1 q2
    by_cases e2 : j = k
    · rw [if_pos e2] at q2; omega
    · rw [if_neg e2] at q2; exact hd i j hi hj q1 q2
theorem RdDj.go (hd : RdDj rd) {k : Nat} {c : Int} (hn : rNo rd c) : RdDj (rGo rd k c) := by
  intro i j hi hj q1 q2
  rw [rGo0] at q1 q2
  rw [rGo0] at q2
  by_cases e1 : i = k
  · rw [if_pos e1] at q2
    by_cases e2 : j = k
    · omega
    · rw [if_neg e2] at q2; exact absurd q2.symm (hn j hj)
  · rw [if_neg e1] at q1 q2
    by_cases e2 : j = k
    · rw [if_pos e2] at q2; exact absurd q2 (hn i hi)
    · rw [if_neg e2] at q2; exact hd i j hi hj q1 q2
theorem RdDj.on (hd : RdDj rd) {k : Nat} {c x y : Int} (hn : rNo rd c) : RdDj (rOn rd k c x y) := by
  intro i j hi hj q1 q2
  rw [rOn0] at q1 q2
  rw [rOn0] at q2
  by_cases e1 : i = k
  · rw [if_pos e1] at q2
    by_cases e2 : j = k
    · omega
    · rw [if_neg e2] at q2; exact absurd q2.symm (hn j hj)
  · rw [if_neg e1] at q1 q2
    by_cases e2 : j = k
    · rw [if_pos e2] at q2; exact absurd q2 (hn i hi)
    · rw [if_neg e2] at q2; exact hd i j hi hj q1 q2
theorem RC.taken (h : RC f r rd) : Bits (f r 5) (rOc rd) := h.2.2.2.2.2
theorem RC.gaps (h : RC f r rd) : Bits (f r 6) (fun c => decide (rd 6 c = 1)) := h.2.2.2.2.1
theorem RC.fr {f' : ZF} (h : RC f r rd) (e : ∀ c, r ≤ c → c ≤ r + 5 → f' c = f c) : RC f' r rd := by
  unfold RC
  rw [e r (by omega) (by omega), e (r + 1) (by omega) (by omega), e (r + 2) (by omega) (by omega), e (r + 3) (by omega) (by omega), e (r + 4) (by omega) (by omega), e (r + 5) (by omega) (by omega)]
  exact h
theorem RC.off (h : RC f r rd) {k : Nat} (hk : k < 6) (h0 : 0 ≤ rd 0 k ∧ rd 0 k < 20) (hdj : RdDj rd) {x : Int} (hx : x = rd 0 k) :
    RC (up2 (up2 (up2 (up2 (up2 (up2 f r 5 (z_and (f r 5) (z_xor (z_shl 1 x) (-1)))) (r + 1) k (-1)) (r + 2) k (-1)) (r + 3) k 0) (r + 4) k 0) r 8 (f r 8 + 1)) r (rOff rd k) := by
  obtain ⟨h1, h2, h3, h4, h5, h6⟩ := h
  obtain ⟨c, hc⟩ := Int.eq_ofNat_of_zero_le h0.1
  refine ⟨fun j hj => ?_, fun j hj => ?_, ?_, ?_, ?_, ?_⟩
  · have := h1 j hj
    by_cases e : j = k
    · subst e
      simp [up2, rOff]
    · simp [up2, rOff, e]
      exact this
  · simpa [up2, rOff] using h2 j hj
  · simpa [up2, rOff] using h3
  · simp [up2, rOff, h4]
  · simpa [up2, rOff] using h5
  · have e : (up2 (up2 (up2 (up2 (up2 (up2 f r 5 (z_and (f r 5) (z_xor (z_shl 1 x) (-1)))) (r + 1) k (-1)) (r + 2) k (-1)) (r + 3) k 0) (r + 4) k 0) r 8 (f r 8 + 1)) r 5 = z_and (f r 5) (z_xor (z_shl 1 (c : Int)) (-1)) := by simp [up2, hx, hc]
    rw [e]
    exact (h6.clr (by omega)).imp (fun i hi => bd_clr (by rw [rNo_off hk h0.1 hdj (by omega)]; constructor <;> intro q <;> rcases q with q | q <;> first | exact Or.inl q | exact Or.inr (by omega)))
theorem RC.go (h : RC f r rd) {k : Nat} (hk : k < 6) (h0 : 0 ≤ rd 0 k ∧ rd 0 k < 20) (hdj : RdDj rd) {x c : Int} (hx : x = rd 0 k) (hc : 0 ≤ c ∧ c < 20) {y : Int} (hy : y = rd 2 k) :
    RC (up2 (up2 (up2 f r 5 (z_or (z_and (f r 5) (z_xor (z_shl 1 x) (-1))) (z_shl 1 c))) (r + 1) k c) (r + 3) k (y - 1)) r (rGo rd k c) := by
  obtain ⟨h1, h2, h3, h4, h5, h6⟩ := h
  obtain ⟨c0, hc0⟩ := Int.eq_ofNat_of_zero_le h0.1
  obtain ⟨c1, rfl⟩ := Int.eq_ofNat_of_zero_le hc.1
  refine ⟨fun j hj => ?_, fun j hj => ?_, ?_, ?_, ?_, ?_⟩
  · have := h1 j hj
    by_cases e : j = k
    · subst e
      simp [up2, rGo, hy]
      omega
    · simp [up2, rGo, e]
      exact this
  · simpa [up2, rGo] using h2 j hj
  · simpa [up2, rGo] using h3
  · simpa [up2, rGo] using h4
  · simpa [up2, rGo] using h5
  · have e : (up2 (up2 (up2 f r 5 (z_or (z_and (f r 5) (z_xor (z_shl 1 x) (-1))) (z_shl 1 (c1 : Int)))) (r + 1) k (c1 : Int)) (r + 3) k (y - 1)) r 5 = z_or (z_and (f r 5) (z_xor (z_shl 1 (c0 : Int)) (-1))) (z_shl 1 (c1 : Int)) := by simp [up2, hx, hc0]
    rw [e]
    exact ((h6.clr (by omega)).set (by omega)).imp (fun i hi => bd_mov (by rw [rNo_go hk h0.1 hdj (by omega)]; constructor <;> intro q <;> refine ⟨?_, by omega⟩ <;> rcases q.1 with q | q <;> first | exact Or.inl q | exact Or.inr (by omega)))
theorem RC.on (h : RC f r rd) {k : Nat} (hk : k < 6) (h0 : rd 0 k = -1) (h3 : rd 3 k = 0) {c x y : Int} (hc : 0 ≤ c ∧ c < 20) :
    RC (up2 (up2 (up2 (up2 f (r + 1) k c) (r + 2) k x) (r + 3) k y) r 5 (z_or (f r 5) (z_shl 1 c))) r (rOn rd k c x y) := by
  obtain ⟨h1, h2, h3', h4, h5, h6⟩ := h
  obtain ⟨c1, rfl⟩ := Int.eq_ofNat_of_zero_le hc.1
  refine ⟨fun j hj => ?_, fun j hj => ?_, ?_, ?_, ?_, ?_⟩
  · have := h1 j hj
    by_cases e : j = k
    · subst e
      simp [up2, rOn]
      omega
    · simp [up2, rOn, e]
      exact this
  · simpa [up2, rOn] using h2 j hj
  · simpa [up2, rOn] using h3'
  · simpa [up2, rOn] using h4
  · simpa [up2, rOn] using h5
  · rw [up2_same]
    exact (h6.set (by omega)).imp (fun i hi => bd_set (by rw [rNo_on hk h0 (by omega)]; constructor <;> intro q <;> exact ⟨q.1, by omega⟩))
theorem RC.age (h : RC f r rd) {k : Nat} (hk : k < 6) {x : Int} (hx : x = rd 3 k) : RC (up2 f (r + 4) k (x + 1)) r (rAge rd k) := by
  obtain ⟨h1, h2, h3, h4, h5, h6⟩ := h
  refine ⟨fun j hj => ?_, fun j hj => ?_, ?_, ?_, ?_, ?_⟩
  · have := h1 j hj
    by_cases e : j = k
    · subst e
      simp [up2, rAge, hx]
      omega
    · simp [up2, rAge, e]
      exact this
  · simpa [up2, rAge] using h2 j hj
  · simpa [up2, rAge] using h3
  · simpa [up2, rAge] using h4
  · simpa [up2, rAge] using h5
  · have e : up2 f (r + 4) k (x + 1) r 5 = f r 5 := by simp [up2]
    rw [e]
    exact h6.imp (fun i hi => rOc_same (fun j _ => rAge0 rd k j) i)
theorem RC.w (h : RC f r rd) {j : Nat} (hj : j < 5) {x : Int} : RC (up2 f (r + 5) j x) r (up2 rd 4 j x) := by
  obtain ⟨h1, h2, h3, h4, h5, h6⟩ := h
  refine ⟨fun i hi => ?_, fun i hi => ?_, ?_, ?_, ?_, ?_⟩
  · simpa [up2] using h1 i hi
  · by_cases e : i = j
    · subst e; simp [up2]
    · simpa [up2, e] using h2 i hi
  · simpa [up2] using h3
  · simpa [up2] using h4
  · simpa [up2] using h5
  · have e : up2 f (r + 5) j x r 5 = f r 5 := by simp [up2]
    rw [e]
    exact h6.imp (fun i hi => rOc_same (fun k _ => by simp [up2]) i)
theorem RC.t (h : RC f r rd) {x : Int} (hx : x = rd 5 0) : RC (up2 f r 7 (x + 1)) r (up2 rd 5 0 (rd 5 0 + 1)) := by
  obtain ⟨h1, h2, h3, h4, h5, h6⟩ := h
  refine ⟨fun i hi => ?_, fun i hi => ?_, ?_, ?_, ?_, ?_⟩
  · simpa [up2] using h1 i hi
  · simpa [up2] using h2 i hi
  · simp [up2, hx]
  · simpa [up2] using h4
  · simpa [up2] using h5
  · have e : up2 f r 7 (x + 1) r 5 = f r 5 := by simp [up2]
    rw [e]
    exact h6.imp (fun i hi => rOc_same (fun k _ => by simp [up2]) i)
theorem RC.closeGap (h : RC f r rd) {c : Nat} (hc : c < 20) : RC (up2 f r 6 (z_and (f r 6) (z_xor (z_shl 1 (c : Int)) (-1)))) r (up2 rd 6 c 0) := by
  obtain ⟨h1, h2, h3, h4, h5, h6⟩ := h
  refine ⟨fun i hi => ?_, fun i hi => ?_, ?_, ?_, ?_, ?_⟩
  · simpa [up2] using h1 i hi
  · simpa [up2] using h2 i hi
  · simpa [up2] using h3
  · simpa [up2] using h4
  · rw [up2_same]
    refine (h5.clr hc).imp (fun i hi => ?_)
    by_cases e : i = c
    · simp [up2, e]
    · simp [up2, e]
  · have e : ∀ x, up2 f r 6 x r 5 = f r 5 := fun x => by simp [up2]
    rw [e]
    exact h6.imp (fun i hi => rOc_same (fun k _ => by simp [up2]) i)
theorem RC.openGap (h : RC f r rd) {c : Nat} (hc : c < 20) : RC (up2 f r 6 (z_or (f r 6) (z_shl 1 (c : Int)))) r (up2 rd 6 c 1) := by
  obtain ⟨h1, h2, h3, h4, h5, h6⟩ := h
  refine ⟨fun i hi => ?_, fun i hi => ?_, ?_, ?_, ?_, ?_⟩
  · simpa [up2] using h1 i hi
  · simpa [up2] using h2 i hi
  · simpa [up2] using h3
  · simpa [up2] using h4
  · rw [up2_same]
    refine (h5.set hc).imp (fun i hi => ?_)
    by_cases e : i = c
    · simp [up2, e]
    · simp [up2, e]
  · have e : ∀ x, up2 f r 6 x r 5 = f r 5 := fun x => by simp [up2]
    rw [e]
    exact h6.imp (fun i hi => rOc_same (fun k _ => by simp [up2]) i)
/-- a car's numbers set by hand -/
theorem RC.want (h : RC f r rd) {k : Nat} (hk : k < 6) {x : Int} : RC (up2 f (r + 2) k x) r (up2 rd 1 k x) := by
  obtain ⟨h1, h2, h3, h4, h5, h6⟩ := h
  refine ⟨fun j hj => ?_, fun j hj => ?_, ?_, ?_, ?_, ?_⟩
  · have := h1 j hj
    by_cases e : j = k
    · subst e
      simp [up2]
      omega
    · simp [up2, e]
      exact this
  · simpa [up2] using h2 j hj
  · simpa [up2] using h3
  · simpa [up2] using h4
  · simpa [up2] using h5
  · have e : up2 f (r + 2) k x r 5 = f r 5 := by simp [up2]
    rw [e]
    exact h6.imp (fun i hi => rOc_same (fun k _ => by simp [up2]) i)
theorem RC.fuel (h : RC f r rd) {k : Nat} (hk : k < 6) {x : Int} : RC (up2 f (r + 3) k x) r (up2 rd 2 k x) := by
  obtain ⟨h1, h2, h3, h4, h5, h6⟩ := h
  refine ⟨fun j hj => ?_, fun j hj => ?_, ?_, ?_, ?_, ?_⟩
  · have := h1 j hj
    by_cases e : j = k
    · subst e
      simp [up2]
      omega
    · simp [up2, e]
      exact this
  · simpa [up2] using h2 j hj
  · simpa [up2] using h3
  · simpa [up2] using h4
  · simpa [up2] using h5
  · have e : up2 f (r + 3) k x r 5 = f r 5 := by simp [up2]
    rw [e]
    exact h6.imp (fun i hi => rOc_same (fun k _ => by simp [up2]) i)
theorem k_hasGap (hd : 1 ≤ d) (hr : RO σ g r) (h : RC f r rd) {c : Nat} (hc : c < 20) (k1 : rd 6 c = 1 → Q (some (zi 1)) σ f g) (k2 : ¬ rd 6 c = 1 → Q (some (zi 0)) σ f g) : ZCt d 53 [zr (some r), zi (c : Int)] σ f g Q := by
  refine ZCt.of' (L0 := [_, _]) (by omega) rfl rfl rfl (fun d hd1 => ?_)
  obtain ⟨oo, ⟨a1, a2, a3, a4, a5⟩, g0, g1, g2, g3, g4⟩ := hr
  have hb := h.gaps.test hc
  refine r_aload_n rfl rfl ?_
  refine r_getI rfl (by first | assumption | exact hs.o rfl) rfl ?_
  refine r_iload_n rfl rfl ?_
  refine r_ishr rfl ?_
  refine r_iconst rfl ?_
  refine r_iand rfl ?_
  refine r_iconst rfl ?_
  refine r_icmp_ne rfl (z_and_rng _ _) (by omega) (fun ht => ?_) (fun ht => ?_)
  · refine r_iconst rfl ?_
    refine r_zret rfl (by omega) ?_
    exact k2 (by simpa [hb] using ht)
  · refine r_iconst rfl ?_
    refine r_goto rfl ?_
    refine r_zret rfl (by omega) ?_
    exact k1 (by simpa [hb] using ht)
theorem k_closeGap (hd : 1 ≤ d) (hr : RO σ g r) (h : RC f r rd) {c : Nat} (hc : c < 20) (K : ∀ f', FrR r f f' → RC f' r (up2 rd 6 c 0) → Q none σ f' g) : ZCt d 82 [zr (some r), zi (c : Int)] σ f g Q := by
  refine ZCt.of' (L0 := [_, _]) (by omega) rfl rfl rfl (fun d hd1 => ?_)
  obtain ⟨oo, ⟨a1, a2, a3, a4, a5⟩, g0, g1, g2, g3, g4⟩ := hr
  refine r_aload_n rfl rfl ?_
  refine r_dupr rfl ?_
  refine r_getI rfl (by first | assumption | exact hs.o rfl) rfl ?_
  refine r_iconst rfl ?_
  refine r_iload_n rfl rfl ?_
  refine r_ishl rfl ?_
  refine r_iconst rfl ?_
  refine r_ixor rfl ?_
  refine r_iand rfl ?_
  refine r_putI rfl (by first | assumption | exact hs.o rfl) ?_
  refine r_ret rfl ?_
  exact K _ ((FrR.rf r f).up (by omega)) (h.closeGap hc)
theorem bd_free {P : Prop} [Decidable P] {x : Int} (h : x = 0 ∨ x = 1) : (x = 0 ∧ P) ↔ (decide (¬ P) || decide (x = 1)) = false := by
  by_cases q : P <;> rcases h with rfl | rfl <;> simp [q]
theorem rFree_b {c : Nat} (h6 : rd 6 c = 0 ∨ rd 6 c = 1) : rFree rd (c : Int) ↔ (rOc rd c || decide (rd 6 c = 1)) = false := bd_free h6
theorem k_isFree (hd : 1 ≤ d) (hr : RO σ g r) (h : RC f r rd) (ho : RdOk n m N rd) {c : Int} (hc : 0 ≤ c ∧ c < 20) (k1 : rFree rd c → Q (some (zi 1)) σ f g) (k2 : ¬ rFree rd c → Q (some (zi 0)) σ f g) : ZCt d 72 [zr (some r), zi c] σ f g Q := by
  refine ZCt.of' (L0 := [_, _]) (by omega) rfl rfl rfl (fun d hd1 => ?_)
  obtain ⟨c, rfl⟩ := Int.eq_ofNat_of_zero_le hc.1
  have hb := (h.taken.or2 h.gaps).test (c := c) (by omega)
  have h6 := ho.2.2.2.2.1 c (by omega)
  have hfr : rFree rd (c : Int) ↔ (rOc rd c || decide (rd 6 c = 1)) = false := rFree_b h6
  obtain ⟨oo, ⟨a1, a2, a3, a4, a5⟩, g0, g1, g2, g3, g4⟩ := hr
  refine r_aload_n rfl rfl ?_
  refine r_getI rfl (by first | assumption | exact hs.o rfl) rfl ?_
  refine r_aload_n rfl rfl ?_
  refine r_getI rfl (by first | assumption | exact hs.o rfl) rfl ?_
  refine r_ior rfl ?_
  refine r_iload_n rfl rfl ?_
  refine r_ishr rfl ?_
  refine r_iconst rfl ?_
  refine r_iand rfl ?_
  refine r_if_ne rfl (z_and_rng _ _) (fun ht => ?_) (fun ht => ?_)
  · refine r_iconst rfl ?_
    refine r_zret rfl (by omega) ?_
    exact k2 (fun q => ht (by rw [hb, hfr.1 q]; rfl))
  · refine r_iconst rfl ?_
    refine r_goto rfl ?_
    refine r_zret rfl (by omega) ?_
    exact k1 (hfr.2 (by rw [hb] at ht; cases hq : (rOc rd c || decide (rd 6 c = 1)) with
      | false => rfl
      | true => rw [hq] at ht; simp at ht))
theorem k_comeOn (hd : 1 ≤ d) (hr : RO σ g r) (h : RC f r rd) {k : Nat} (hk : k < 6) (h0 : rd 0 k = -1) (h3 : rd 3 k = 0) {c x y : Int} (hc : 0 ≤ c ∧ c < 20) (K : ∀ f', FrR r f f' → RC f' r (rOn rd k c x y) → Q none σ f' g) : ZCt d 28 [zr (some r), zi (k : Int), zi c, zi x, zi y] σ f g Q := by
  refine ZCt.of' (L0 := [_, _, _, _, _]) (by omega) rfl rfl rfl (fun d hd1 => ?_)
  obtain ⟨oo, ⟨a1, a2, a3, a4, a5⟩, g0, g1, g2, g3, g4⟩ := hr
  refine r_aload_n rfl rfl ?_
  refine r_getR rfl (by first | assumption | exact hs.o rfl) (by first | assumption | exact hs.g rfl) ?_
  refine r_iload_n rfl rfl ?_
  refine r_iload_n rfl rfl ?_
  refine r_iastN (k) rfl (by first | assumption | exact hs.a rfl) (by omega) (by omega) (by omega) ?_
  refine r_aload_n rfl rfl ?_
  refine r_getR rfl (by first | assumption | exact hs.o rfl) (by first | assumption | exact hs.g rfl) ?_
  refine r_iload_n rfl rfl ?_
  refine r_iload_n rfl rfl ?_
  refine r_iastN (k) rfl (by first | assumption | exact hs.a rfl) (by omega) (by omega) (by omega) ?_
  refine r_aload_n rfl rfl ?_
  refine r_getR rfl (by first | assumption | exact hs.o rfl) (by first | assumption | exact hs.g rfl) ?_
  refine r_iload_n rfl rfl ?_
  refine r_iload rfl rfl ?_
  refine r_iastN (k) rfl (by first | assumption | exact hs.a rfl) (by omega) (by omega) (by omega) ?_
  refine r_aload_n rfl rfl ?_
  refine r_dupr rfl ?_
  refine r_getI rfl (by first | assumption | exact hs.o rfl) rfl ?_
  refine r_iconst rfl ?_
  refine r_iload_n rfl rfl ?_
  refine r_ishl rfl ?_
  refine r_ior rfl ?_
  refine r_putI rfl (by first | assumption | exact hs.o rfl) ?_
  refine r_ret rfl ?_
  refine K _ (((((FrR.rf r f).up (by omega)).up (by omega)).up (by omega)).up (by omega)) ?_
  have e := h.on hk h0 h3 (x := x) (y := y) hc
  rw [show (up2 (up2 (up2 f (r + 1) k c) (r + 2) k x) (r + 3) k y) r 5 = f r 5 by simp [up2]]
  exact e
theorem k_goOn (hd : 1 ≤ d) (hr : RO σ g r) (h : RC f r rd) {k : Nat} (hk : k < 6) (h0 : 0 ≤ rd 0 k ∧ rd 0 k < 20) (hdj : RdDj rd) {c : Int} (hc : 0 ≤ c ∧ c < 20) (K : ∀ f', FrR r f f' → RC f' r (rGo rd k c) → Q none σ f' g) : ZCt d 73 [zr (some r), zi (k : Int), zi c] σ f g Q := by
  refine ZCt.of' (L0 := [_, _, _]) (by omega) rfl rfl rfl (fun d hd1 => ?_)
  obtain ⟨oo, ⟨a1, a2, a3, a4, a5⟩, g0, g1, g2, g3, g4⟩ := hr
  refine r_aload_n rfl rfl ?_
  refine r_aload_n rfl rfl ?_
  refine r_getI rfl (by first | assumption | exact hs.o rfl) rfl ?_
  refine r_iconst rfl ?_
  refine r_aload_n rfl rfl ?_
  refine r_getR rfl (by first | assumption | exact hs.o rfl) (by first | assumption | exact hs.g rfl) ?_
  refine r_iload_n rfl rfl ?_
  refine r_iald rfl (by first | assumption | exact hs.a rfl) (by omega) (by omega) (zix (n := k) (by omega)) ?_
  refine r_ishl rfl ?_
  refine r_iconst rfl ?_
  refine r_ixor rfl ?_
  refine r_iand rfl ?_
  refine r_iconst rfl ?_
  refine r_iload_n rfl rfl ?_
  refine r_ishl rfl ?_
  refine r_ior rfl ?_
  refine r_putI rfl (by first | assumption | exact hs.o rfl) ?_
  refine r_aload_n rfl rfl ?_
  refine r_getR rfl (by first | assumption | exact hs.o rfl) (by first | assumption | exact hs.g rfl) ?_
  refine r_iload_n rfl rfl ?_
  refine r_iload_n rfl rfl ?_
  refine r_iastN (k) rfl (by first | assumption | exact hs.a rfl) (by omega) (by omega) (by omega) ?_
  refine r_aload_n rfl rfl ?_
  refine r_getR rfl (by first | assumption | exact hs.o rfl) (by first | assumption | exact hs.g rfl) ?_
  refine r_iload_n rfl rfl ?_
  refine r_dup2 rfl ?_
  refine r_iald rfl (by first | assumption | exact hs.a rfl) (by omega) (by omega) (zix (n := k) (by omega)) ?_
  refine r_iconst rfl ?_
  refine r_isub rfl ?_
  refine r_iastN (k) rfl (by first | assumption | exact hs.a rfl) (by omega) (by omega) (by omega) ?_
  refine r_ret rfl ?_
  refine K _ ((((FrR.rf r f).up (by omega)).up (by omega)).up (by omega)) ?_
  exact h.go hk h0 hdj (h.1 k hk).1 hc (by simp [up2]; exact (h.1 k hk).2.2.1)
theorem k_goOff (hd : 1 ≤ d) (hr : RO σ g r) (h : RC f r rd) {k : Nat} (hk : k < 6) (h0 : 0 ≤ rd 0 k ∧ rd 0 k < 20) (hdj : RdDj rd) (K : ∀ f', FrR r f f' → RC f' r (rOff rd k) → Q none σ f' g) : ZCt d 70 [zr (some r), zi (k : Int)] σ f g Q := by
  refine ZCt.of' (L0 := [_, _]) (by omega) rfl rfl rfl (fun d hd1 => ?_)
  obtain ⟨oo, ⟨a1, a2, a3, a4, a5⟩, g0, g1, g2, g3, g4⟩ := hr
  refine r_aload_n rfl rfl ?_
  refine r_dupr rfl ?_
  refine r_getI rfl (by first | assumption | exact hs.o rfl) rfl ?_
  refine r_iconst rfl ?_
  refine r_aload_n rfl rfl ?_
  refine r_getR rfl (by first | assumption | exact hs.o rfl) (by first | assumption | exact hs.g rfl) ?_
  refine r_iload_n rfl rfl ?_
  refine r_iald rfl (by first | assumption | exact hs.a rfl) (by omega) (by omega) (zix (n := k) (by omega)) ?_
  refine r_ishl rfl ?_
  refine r_iconst rfl ?_
  refine r_ixor rfl ?_
  refine r_iand rfl ?_
  refine r_putI rfl (by first | assumption | exact hs.o rfl) ?_
  refine r_aload_n rfl rfl ?_
  refine r_getR rfl (by first | assumption | exact hs.o rfl) (by first | assumption | exact hs.g rfl) ?_
  refine r_iload_n rfl rfl ?_
  refine r_iconst rfl ?_
  refine r_iastN (k) rfl (by first | assumption | exact hs.a rfl) (by omega) (by omega) (by omega) ?_
  refine r_aload_n rfl rfl ?_
  refine r_getR rfl (by first | assumption | exact hs.o rfl) (by first | assumption | exact hs.g rfl) ?_
  refine r_iload_n rfl rfl ?_
  refine r_iconst rfl ?_
  refine r_iastN (k) rfl (by first | assumption | exact hs.a rfl) (by omega) (by omega) (by omega) ?_
  refine r_aload_n rfl rfl ?_
  refine r_getR rfl (by first | assumption | exact hs.o rfl) (by first | assumption | exact hs.g rfl) ?_
  refine r_iload_n rfl rfl ?_
  refine r_iconst rfl ?_
  refine r_iastN (k) rfl (by first | assumption | exact hs.a rfl) (by omega) (by omega) (by omega) ?_
  refine r_aload_n rfl rfl ?_
  refine r_getR rfl (by first | assumption | exact hs.o rfl) (by first | assumption | exact hs.g rfl) ?_
  refine r_iload_n rfl rfl ?_
  refine r_iconst rfl ?_
  refine r_iastN (k) rfl (by first | assumption | exact hs.a rfl) (by omega) (by omega) (by omega) ?_
  refine r_aload_n rfl rfl ?_
  refine r_dupr rfl ?_
  refine r_getI rfl (by first | assumption | exact hs.o rfl) rfl ?_
  refine r_iconst rfl ?_
  refine r_iadd rfl ?_
  refine r_putI rfl (by first | assumption | exact hs.o rfl) ?_
  refine r_ret rfl ?_
  refine K _ (((((((FrR.rf r f).up (by omega)).up (by omega)).up (by omega)).up (by omega)).up (by omega)).up (by omega)) ?_
  have e := h.off hk h0 hdj (h.1 k hk).1
  rw [show (up2 (up2 (up2 (up2 (up2 f r 5 (z_and (f r 5) (z_xor (z_shl 1 (f (r + 1) k)) (-1)))) (r + 1) k (-1)) (r + 2) k (-1)) (r + 3) k 0) (r + 4) k 0) r 8 = f r 8 by simp [up2]]
  exact e
theorem k_goOverGrass (hd : 2 ≤ d) (hr : RO σ g r) (h : RC f r rd) {k : Nat} (hk : k < 6) (h0 : 0 ≤ rd 0 k ∧ rd 0 k < 20) (hdj : RdDj rd) (K : ∀ f', FrR r f f' → RC f' r (rOff (up2 rd 6 (rd 0 k).toNat 1) k) → Q none σ f' g) : ZCt d 80 [zr (some r), zi (k : Int)] σ f g Q := by
  refine ZCt.of' (L0 := [_, _]) (by omega) rfl rfl rfl (fun d hd1 => ?_)
  have hr' := hr
  obtain ⟨oo, ⟨a1, a2, a3, a4, a5⟩, g0, g1, g2, g3, g4⟩ := hr
  refine r_aload_n rfl rfl ?_
  refine r_dupr rfl ?_
  refine r_getI rfl (by first | assumption | exact hs.o rfl) rfl ?_
  refine r_iconst rfl ?_
  refine r_aload_n rfl rfl ?_
  refine r_getR rfl (by first | assumption | exact hs.o rfl) (by first | assumption | exact hs.g rfl) ?_
  refine r_iload_n rfl rfl ?_
  refine r_iald rfl (by first | assumption | exact hs.a rfl) (by omega) (by omega) (zix (n := k) (by omega)) ?_
  refine r_ishl rfl ?_
  refine r_ior rfl ?_
  refine r_putI rfl (by first | assumption | exact hs.o rfl) ?_
  refine r_aload_n rfl rfl ?_
  refine r_iload_n rfl rfl ?_
  refine r_callV1 rfl rfl (by first | assumption | exact hs.o rfl) rfl (k_goOff (by omega) hr' (rd := up2 rd 6 (rd 0 k).toNat 1) ?_ hk (by simpa [up2] using h0) (hdj.same (fun j _ => by simp [up2])) (fun f1 hf1 hc1 => ?_))
  · obtain ⟨c, hc⟩ := Int.eq_ofNat_of_zero_le h0.1
    rw [(h.1 k hk).1, hc]
    exact h.openGap (by omega)
  refine r_ret rfl ?_
  exact K _ (((FrR.rf r f).up (by omega)).trans hf1) hc1
/-- the copy, as far as car k and road j -/
def CpC (f f' : ZF) (r r0 k j : Nat) : Prop := FrR r f f' ∧ (∀ i, i < k → f' (r + 1) i = f (r0 + 1) i ∧ f' (r + 2) i = f (r0 + 2) i ∧ f' (r + 3) i = f (r0 + 3) i ∧ f' (r + 4) i = f (r0 + 4) i) ∧ (∀ i, i < j → f' (r + 5) i = f (r0 + 5) i)
theorem CpC.car {f f' : ZF} {r r0 k j : Nat} (h : CpC f f' r r0 k j) {x1 x2 x3 x4 : Int} (h1 : x1 = f (r0 + 1) k) (h2 : x2 = f (r0 + 2) k) (h3 : x3 = f (r0 + 3) k) (h4 : x4 = f (r0 + 4) k) : CpC f (up2 (up2 (up2 (up2 f' (r + 1) k x1) (r + 2) k x2) (r + 3) k x3) (r + 4) k x4) r r0 (k + 1) j := by
  obtain ⟨q1, q2, q3⟩ := h
  refine ⟨(((q1.up (by omega)).up (by omega)).up (by omega)).up (by omega), fun i hi => ?_, fun i hi => by simpa [up2] using q3 i hi⟩
  by_cases e : i = k
  · subst e; simp [up2, h1, h2, h3, h4]
  · simpa [up2, e] using q2 i (by omega)
theorem CpC.road {f f' : ZF} {r r0 k j : Nat} (h : CpC f f' r r0 k j) {x : Int} (h1 : x = f (r0 + 5) j) : CpC f (up2 f' (r + 5) j x) r r0 k (j + 1) := by
  obtain ⟨q1, q2, q3⟩ := h
  refine ⟨q1.up (by omega), fun i hi => by simpa [up2] using q2 i hi, fun i hi => ?_⟩
  by_cases e : i = j
  · subst e; simp [up2, h1]
  · simpa [up2, e] using q3 i (by omega)
theorem CpC.rc {f f' : ZF} {r r0 : Nat} (h : CpC f f' r r0 6 5) (h0 : RC f r0 rd) : RC (up2 (up2 (up2 (up2 f' r 5 (f r0 5)) r 6 (f r0 6)) r 7 (f r0 7)) r 8 (f r0 8)) r rd := by
  obtain ⟨q1, q2, q3⟩ := h
  obtain ⟨h1, h2, h3, h4, h5, h6⟩ := h0
  refine ⟨fun i hi => ?_, fun i hi => ?_, ?_, ?_, ?_, ?_⟩
  · have := h1 i hi
    have q := q2 i hi
    simp [up2]
    omega
  · have := h2 i hi
    have q := q3 i hi
    simp [up2]
    omega
  · simpa [up2] using h3
  · simpa [up2] using h4
  · have e : (up2 (up2 (up2 (up2 f' r 5 (f r0 5)) r 6 (f r0 6)) r 7 (f r0 7)) r 8 (f r0 8)) r 6 = f r0 6 := by simp [up2]
    rw [e]; exact h5
  · have e : (up2 (up2 (up2 (up2 f' r 5 (f r0 5)) r 6 (f r0 6)) r 7 (f r0 7)) r 8 (f r0 8)) r 5 = f r0 5 := by simp [up2]
    rw [e]; exact h6
theorem l_copyC (hd1 : 0 ≤ d) (hr : RO σ g r) {r0 : Nat} (hr0 : RO σ g r0) (hdis : r + 5 < r0 ∨ r0 + 5 < r) {f0 : ZF} (K : ∀ f, CpC f0 f r r0 6 0 → ∀ x, ZWp d zt32 62 [zr (some r), zr (some r0), x] [] σ f g Q) (k : Nat) (hk : k ≤ 6) (f : ZF) (hC : CpC f0 f r r0 k 0) : ZWp d zt32 2 [zr (some r), zr (some r0), zi (k : Int)] [] σ f g Q := by
  have hr' := hr
  have hr0' := hr0
  obtain ⟨oo, ⟨a1, a2, a3, a4, a5⟩, g0, g1, g2, g3, g4⟩ := hr
  obtain ⟨p, ⟨b1, b2, b3, b4, b5⟩, q0, q1, q2, q3, q4⟩ := hr0
  have E1 : f (r0 + 1) k = f0 (r0 + 1) k := congrFun (hC.1 (r0 + 1) (by omega)) k
  have E2 : (up2 f (r + 1) k (f (r0 + 1) k)) (r0 + 2) k = f0 (r0 + 2) k := by rw [up2_o _ _ (by omega)]; exact congrFun (hC.1 (r0 + 2) (by omega)) k
  have E3 : (up2 (up2 f (r + 1) k (f (r0 + 1) k)) (r + 2) k (up2 f (r + 1) k (f (r0 + 1) k) (r0 + 2) k)) (r0 + 3) k = f0 (r0 + 3) k := by rw [up2_o _ _ (by omega), up2_o _ _ (by omega)]; exact congrFun (hC.1 (r0 + 3) (by omega)) k
  have E4 : (up2 (up2 (up2 f (r + 1) k (f (r0 + 1) k)) (r + 2) k (up2 f (r + 1) k (f (r0 + 1) k) (r0 + 2) k)) (r + 3) k ((up2 (up2 f (r + 1) k (f (r0 + 1) k)) (r + 2) k (up2 f (r + 1) k (f (r0 + 1) k) (r0 + 2) k)) (r0 + 3) k)) (r0 + 4) k = f0 (r0 + 4) k := by rw [up2_o _ _ (by omega), up2_o _ _ (by omega), up2_o _ _ (by omega)]; exact congrFun (hC.1 (r0 + 4) (by omega)) k
  refine r_iload_n rfl rfl ?_
  refine r_bipush rfl ?_
  refine r_icmp_ge rfl (by omega) (by omega) (fun hlt => ?_) (fun hlt => ?_)
  · have e : k = 6 := by omega
    subst e
    exact K f hC _
  · refine r_aload_n rfl rfl ?_
    refine r_getR rfl (by first | assumption | exact hs.o rfl) (by first | assumption | exact hs.g rfl) ?_
    refine r_iload_n rfl rfl ?_
    refine r_aload_n rfl rfl ?_
    refine r_getR rfl (by first | assumption | exact hs.o rfl) (by first | assumption | exact hs.g rfl) ?_
    refine r_iload_n rfl rfl ?_
    refine r_iald rfl (by first | assumption | exact hs.a rfl) (by omega) (by omega) (zix (n := k) (by omega)) ?_
    refine r_iastN (k) rfl (by first | assumption | exact hs.a rfl) (by omega) (by omega) (by omega) ?_
    refine r_aload_n rfl rfl ?_
    refine r_getR rfl (by first | assumption | exact hs.o rfl) (by first | assumption | exact hs.g rfl) ?_
    refine r_iload_n rfl rfl ?_
    refine r_aload_n rfl rfl ?_
    refine r_getR rfl (by first | assumption | exact hs.o rfl) (by first | assumption | exact hs.g rfl) ?_
    refine r_iload_n rfl rfl ?_
    refine r_iald rfl (by first | assumption | exact hs.a rfl) (by omega) (by omega) (zix (n := k) (by omega)) ?_
    refine r_iastN (k) rfl (by first | assumption | exact hs.a rfl) (by omega) (by omega) (by omega) ?_
    refine r_aload_n rfl rfl ?_
    refine r_getR rfl (by first | assumption | exact hs.o rfl) (by first | assumption | exact hs.g rfl) ?_
    refine r_iload_n rfl rfl ?_
    refine r_aload_n rfl rfl ?_
    refine r_getR rfl (by first | assumption | exact hs.o rfl) (by first | assumption | exact hs.g rfl) ?_
    refine r_iload_n rfl rfl ?_
    refine r_iald rfl (by first | assumption | exact hs.a rfl) (by omega) (by omega) (zix (n := k) (by omega)) ?_
    refine r_iastN (k) rfl (by first | assumption | exact hs.a rfl) (by omega) (by omega) (by omega) ?_
    refine r_aload_n rfl rfl ?_
    refine r_getR rfl (by first | assumption | exact hs.o rfl) (by first | assumption | exact hs.g rfl) ?_
    refine r_iload_n rfl rfl ?_
    refine r_aload_n rfl rfl ?_
    refine r_getR rfl (by first | assumption | exact hs.o rfl) (by first | assumption | exact hs.g rfl) ?_
    refine r_iload_n rfl rfl ?_
    refine r_iald rfl (by first | assumption | exact hs.a rfl) (by omega) (by omega) (zix (n := k) (by omega)) ?_
    refine r_iastN (k) rfl (by first | assumption | exact hs.a rfl) (by omega) (by omega) (by omega) ?_
    refine r_iinc (L' := [_, _, _]) rfl rfl rfl ?_
    refine r_goto rfl ?_
    exact l_copyC hd1 hr' hr0' hdis K (k + 1) (by omega) _ (hC.car E1 E2 E3 E4)
termination_by 6 - k
theorem l_copyW (hd1 : 0 ≤ d) (hr : RO σ g r) {r0 : Nat} (hr0 : RO σ g r0) (hdis : r + 5 < r0 ∨ r0 + 5 < r) {f0 : ZF} (K : ∀ f, CpC f0 f r r0 6 5 → ∀ x, ZWp d zt32 87 [zr (some r), zr (some r0), x] [] σ f g Q) (k : Nat) (hk : k ≤ 5) (f : ZF) (hC : CpC f0 f r r0 6 k) : ZWp d zt32 64 [zr (some r), zr (some r0), zi (k : Int)] [] σ f g Q := by
  have hr' := hr
  have hr0' := hr0
  obtain ⟨oo, ⟨a1, a2, a3, a4, a5⟩, g0, g1, g2, g3, g4⟩ := hr
  obtain ⟨p, ⟨b1, b2, b3, b4, b5⟩, q0, q1, q2, q3, q4⟩ := hr0
  have E1 : f (r0 + 5) k = f0 (r0 + 5) k := congrFun (hC.1 (r0 + 5) (by omega)) k
  refine r_iload_n rfl rfl ?_
  refine r_iconst rfl ?_
  refine r_icmp_ge rfl (by omega) (by omega) (fun hlt => ?_) (fun hlt => ?_)
  · have e : k = 5 := by omega
    subst e
    exact K f hC _
  · refine r_aload_n rfl rfl ?_
    refine r_getR rfl (by first | assumption | exact hs.o rfl) (by first | assumption | exact hs.g rfl) ?_
    refine r_iload_n rfl rfl ?_
    refine r_aload_n rfl rfl ?_
    refine r_getR rfl (by first | assumption | exact hs.o rfl) (by first | assumption | exact hs.g rfl) ?_
    refine r_iload_n rfl rfl ?_
    refine r_iald rfl (by first | assumption | exact hs.a rfl) (by omega) (by omega) (zix (n := k) (by omega)) ?_
    refine r_iastN (k) rfl (by first | assumption | exact hs.a rfl) (by omega) (by omega) (by omega) ?_
    refine r_iinc (L' := [_, _, _]) rfl rfl rfl ?_
    refine r_goto rfl ?_
    exact l_copyW hd1 hr' hr0' hdis K (k + 1) (by omega) _ (hC.road E1)
termination_by 5 - k
theorem k_copyFrom (hd : 1 ≤ d) (hr : RO σ g r) {r0 : Nat} (hr0 : RO σ g r0) (hdis : r + 5 < r0 ∨ r0 + 5 < r) (h : RC f r0 rd) (K : ∀ f', FrR r f f' → RC f' r rd → Q none σ f' g) : ZCt d 32 [zr (some r), zr (some r0)] σ f g Q := by
  refine ZCt.of' (L0 := [_, _, _]) (by omega) rfl rfl rfl (fun d hd1 => ?_)
  have hr' := hr
  have hr0' := hr0
  obtain ⟨oo, ⟨a1, a2, a3, a4, a5⟩, g0, g1, g2, g3, g4⟩ := hr
  obtain ⟨p, ⟨b1, b2, b3, b4, b5⟩, q0, q1, q2, q3, q4⟩ := hr0
  refine r_iconst rfl ?_
  refine r_istore_n (L' := [_, _, _]) rfl rfl rfl ?_
  refine l_copyC (by omega) hr' hr0' hdis (f0 := f) (fun f1 h1 x => ?_) 0 (by omega) f ⟨FrR.rf r f, fun i hi => by omega, fun i hi => by omega⟩
  refine r_iconst rfl ?_
  refine r_istore_n (L' := [_, _, _]) rfl rfl rfl ?_
  refine l_copyW (by omega) hr' hr0' hdis (f0 := f) (fun f2 h2 x => ?_) 0 (by omega) f1 h1
  refine r_aload_n rfl rfl ?_
  refine r_aload_n rfl rfl ?_
  refine r_getI rfl (by first | assumption | exact hs.o rfl) rfl ?_
  refine r_putI rfl (by first | assumption | exact hs.o rfl) ?_
  refine r_aload_n rfl rfl ?_
  refine r_aload_n rfl rfl ?_
  refine r_getI rfl (by first | assumption | exact hs.o rfl) rfl ?_
  refine r_putI rfl (by first | assumption | exact hs.o rfl) ?_
  refine r_aload_n rfl rfl ?_
  refine r_aload_n rfl rfl ?_
  refine r_getI rfl (by first | assumption | exact hs.o rfl) rfl ?_
  refine r_putI rfl (by first | assumption | exact hs.o rfl) ?_
  refine r_aload_n rfl rfl ?_
  refine r_aload_n rfl rfl ?_
  refine r_getI rfl (by first | assumption | exact hs.o rfl) rfl ?_
  refine r_putI rfl (by first | assumption | exact hs.o rfl) ?_
  refine r_ret rfl ?_
  have E5 : f2 r0 5 = f r0 5 := congrFun (h2.1 r0 (by omega)) 5
  have E6 : f2 r0 6 = f r0 6 := congrFun (h2.1 r0 (by omega)) 6
  have E7 : f2 r0 7 = f r0 7 := congrFun (h2.1 r0 (by omega)) 7
  have E8 : f2 r0 8 = f r0 8 := congrFun (h2.1 r0 (by omega)) 8
  have ne : ∀ (f3 : ZF) (i : Nat) (x : Int), up2 f3 r i x r0 = f3 r0 := fun f3 i x => up2_o _ _ (by omega)
  simp only [ne, E5, E6, E7, E8]
  exact K _ ((((h2.1.up (by omega)).up (by omega)).up (by omega)).up (by omega)) (h2.rc h)
theorem l_fno (hd1 : 0 ≤ d) (hr : RO σ g r) (h : RC f r rd) (ho : RdOk n m N rd) (k1 : ∀ k : Nat, k < 6 → rd 0 k = -1 → (∀ j, j < k → rd 0 j ≠ -1) → Q (some (zi (k : Int))) σ f g) (k2 : (∀ j, j < 6 → rd 0 j ≠ -1) → Q (some (zi (-1))) σ f g) (k : Nat) (hk : k ≤ 6) (hno : ∀ j, j < k → rd 0 j ≠ -1) : ZWp d zt75 2 [zr (some r), zi (k : Int)] [] σ f g Q := by
  have hr' := hr
  have hrn : k < 6 → -1 ≤ rd 0 k ∧ rd 0 k ≤ 100 := fun q => by have := ho.2.2.1 k q; have := ho.1; omega
  obtain ⟨oo, ⟨a1, a2, a3, a4, a5⟩, g0, g1, g2, g3, g4⟩ := hr
  refine r_iload_n rfl rfl ?_
  refine r_bipush rfl ?_
  refine r_icmp_ge rfl (by omega) (by omega) (fun hlt => ?_) (fun hlt => ?_)
  · refine r_iconst rfl ?_
    refine r_iret rfl ?_
    exact k2 (fun j hj => hno j (by omega))
  · refine r_aload_n rfl rfl ?_
    refine r_getR rfl (by first | assumption | exact hs.o rfl) (by first | assumption | exact hs.g rfl) ?_
    refine r_iload_n rfl rfl ?_
    refine r_iald rfl (by first | assumption | exact hs.a rfl) (by omega) (by omega) ((zix (n := k) (by omega)).trans (h.1 k (by omega)).1) ?_
    refine r_iconst rfl ?_
    refine r_icmp_ne rfl (by omega) (by omega) (fun hc => ?_) (fun hc => ?_)
    · refine r_iinc (L' := [_, _]) rfl rfl rfl ?_
      refine r_goto rfl ?_
      exact l_fno hd1 hr' h ho k1 k2 (k + 1) (by omega) (all_succ hno (by omega))
    · refine r_iload_n rfl rfl ?_
      refine r_iret rfl ?_
      exact k1 k (by omega) (by omega) hno
termination_by 6 - k
theorem k_firstNotOn (hd : 1 ≤ d) (hr : RO σ g r) (h : RC f r rd) (ho : RdOk n m N rd) (k1 : ∀ k : Nat, k < 6 → rd 0 k = -1 → (∀ j, j < k → rd 0 j ≠ -1) → Q (some (zi (k : Int))) σ f g) (k2 : (∀ j, j < 6 → rd 0 j ≠ -1) → Q (some (zi (-1))) σ f g) : ZCt d 75 [zr (some r)] σ f g Q := by
  refine ZCt.of' (L0 := [_, _]) (by omega) rfl rfl rfl (fun d hd1 => ?_)
  refine r_iconst rfl ?_
  refine r_istore_n (L' := [_, _]) rfl rfl rfl ?_
  exact l_fno (by omega) hr h ho k1 k2 0 (by omega) (fun j hj => by omega)
def rSet (rd : Rd) : Nat → Int
  | 0 => 0
  | k + 1 => if rd 0 k = -1 then rSet rd k else z_or (rSet rd k) (z_shl 1 (k : Int))
def rAllW (rd : Rd) : Nat → Int
  | 0 => 0
  | k + 1 => rAllW rd k + rd 4 k
theorem l_carsOn (hd1 : 0 ≤ d) (hr : RO σ g r) (h : RC f r rd) (ho : RdOk n m N rd) (K : Q (some (zi (rSet rd 6))) σ f g) (k : Nat) (hk : k ≤ 6) {v : Int} (hv : v = rSet rd k) : ZWp d zt55 4 [zr (some r), zi v, zi (k : Int)] [] σ f g Q := by
  have hr' := hr
  have hrn : k < 6 → -1 ≤ rd 0 k ∧ rd 0 k ≤ 100 := fun q => by have := ho.2.2.1 k q; have := ho.1; omega
  obtain ⟨oo, ⟨a1, a2, a3, a4, a5⟩, g0, g1, g2, g3, g4⟩ := hr
  refine r_iload_n rfl rfl ?_
  refine r_bipush rfl ?_
  refine r_icmp_ge rfl (by omega) (by omega) (fun hlt => ?_) (fun hlt => ?_)
  · refine r_iload_n rfl rfl ?_
    refine r_iret rfl ?_
    have e : k = 6 := by omega
    subst e
    rw [hv]
    exact K
  · refine r_aload_n rfl rfl ?_
    refine r_getR rfl (by first | assumption | exact hs.o rfl) (by first | assumption | exact hs.g rfl) ?_
    refine r_iload_n rfl rfl ?_
    refine r_iald rfl (by first | assumption | exact hs.a rfl) (by omega) (by omega) ((zix (n := k) (by omega)).trans (h.1 k (by omega)).1) ?_
    refine r_iconst rfl ?_
    refine r_icmp_eq rfl (by omega) (by omega) (fun hc => ?_) (fun hc => ?_)
    · refine r_iinc (L' := [_, _, _]) rfl rfl rfl ?_
      refine r_goto rfl ?_
      exact l_carsOn hd1 hr' h ho K (k + 1) (by omega) (by simp only [rSet]; first | (rw [if_pos (by omega), hv]) | (rw [if_neg (by omega), hv]))
    · refine r_iload_n rfl rfl ?_
      refine r_iconst rfl ?_
      refine r_iload_n rfl rfl ?_
      refine r_ishl rfl ?_
      refine r_ior rfl ?_
      refine r_istore_n (L' := [_, _, _]) rfl rfl rfl ?_
      refine r_iinc (L' := [_, _, _]) rfl rfl rfl ?_
      refine r_goto rfl ?_
      exact l_carsOn hd1 hr' h ho K (k + 1) (by omega) (by simp only [rSet]; first | (rw [if_pos (by omega), hv]) | (rw [if_neg (by omega), hv]))
termination_by 6 - k
theorem k_carsOn (hd : 1 ≤ d) (hr : RO σ g r) (h : RC f r rd) (ho : RdOk n m N rd) (K : Q (some (zi (rSet rd 6))) σ f g) : ZCt d 55 [zr (some r)] σ f g Q := by
  refine ZCt.of' (L0 := [_, _, _]) (by omega) rfl rfl rfl (fun d hd1 => ?_)
  refine r_iconst rfl ?_
  refine r_istore_n (L' := [_, _, _]) rfl rfl rfl ?_
  refine r_iconst rfl ?_
  refine r_istore_n (L' := [_, _, _]) rfl rfl rfl ?_
  exact l_carsOn (by omega) hr h ho K 0 (by omega) rfl
theorem l_allW (hd1 : 0 ≤ d) (hr : RO σ g r) (h : RC f r rd) (K : Q (some (zi (rAllW rd 5))) σ f g) (k : Nat) (hk : k ≤ 5) {v : Int} (hv : v = rAllW rd k) : ZWp d zt57 4 [zr (some r), zi v, zi (k : Int)] [] σ f g Q := by
  have hr' := hr
  obtain ⟨oo, ⟨a1, a2, a3, a4, a5⟩, g0, g1, g2, g3, g4⟩ := hr
  refine r_iload_n rfl rfl ?_
  refine r_iconst rfl ?_
  refine r_icmp_ge rfl (by omega) (by omega) (fun hlt => ?_) (fun hlt => ?_)
  · refine r_iload_n rfl rfl ?_
    refine r_iret rfl ?_
    have e : k = 5 := by omega
    subst e
    rw [hv]
    exact K
  · refine r_iload_n rfl rfl ?_
    refine r_aload_n rfl rfl ?_
    refine r_getR rfl (by first | assumption | exact hs.o rfl) (by first | assumption | exact hs.g rfl) ?_
    refine r_iload_n rfl rfl ?_
    refine r_iald rfl (by first | assumption | exact hs.a rfl) (by omega) (by omega) ((zix (n := k) (by omega)).trans (h.2.1 k (by omega))) ?_
    refine r_iadd rfl ?_
    refine r_istore_n (L' := [_, _, _]) rfl rfl rfl ?_
    refine r_iinc (L' := [_, _, _]) rfl rfl rfl ?_
    refine r_goto rfl ?_
    exact l_allW hd1 hr' h K (k + 1) (by omega) (by simp only [rAllW]; rw [hv])
termination_by 5 - k
theorem k_allWaiting (hd : 1 ≤ d) (hr : RO σ g r) (h : RC f r rd) (K : Q (some (zi (rAllW rd 5))) σ f g) : ZCt d 57 [zr (some r)] σ f g Q := by
  refine ZCt.of' (L0 := [_, _, _]) (by omega) rfl rfl rfl (fun d hd1 => ?_)
  refine r_iconst rfl ?_
  refine r_istore_n (L' := [_, _, _]) rfl rfl rfl ?_
  refine r_iconst rfl ?_
  refine r_istore_n (L' := [_, _, _]) rfl rfl rfl ?_
  exact l_allW (by omega) hr h K 0 (by omega) rfl
end CROUND
