/-! The reference reads a SHOW -/
theorem dNum_b0 {t : Tx} {lo hi e : Int} {bar : Int → Bool} {p : Nat} (h : dNum t lo hi (fun _ => false) p = .inl e) : dNum t lo hi bar p = .inl e := by
  unfold dNum at *
  split at h
  · rename_i hD
    rw [if_pos hD]
    split at h
    · cases h
    · rename_i hb
      rw [if_neg (fun z => hb ⟨z.1, z.2.1, rfl⟩)]
      exact h
  · rename_i hD
    rw [if_neg hD]
    exact h
theorem dNum_b1 {t : Tx} {lo hi v : Int} {bar : Int → Bool} {p p1 : Nat} (h : dNum t lo hi (fun _ => false) p = .inr (p1, v)) : dNum t lo hi bar p = if bar v = true then .inl (err p 1) else .inr (p1, v) := by
  unfold dNum at *
  split at h
  · rename_i hD
    rw [if_pos hD]
    split at h
    · rename_i hb
      cases h
      cases hz : bar (num t p (dE t p - p)) with
      | true => rw [if_neg (fun z => by cases z.2.2), if_pos rfl]
      | false => rw [if_pos ⟨hb.1, hb.2.1, rfl⟩, if_neg (by decide)]
    · cases h
  · cases h
/-- what was read stands in the row -/
def RdA (s : Nat → Int) (z : Int) (pl : Pl) (rd : Rd) : Prop := s 0 = z ∧ s 1 = pl.1 ∧ s 2 = pl.2.1 ∧ s 3 = pl.2.2.1 ∧ (∀ j, j < 5 → s (67 + j) = pl.2.2.2.1 j ∧ s (72 + j) = pl.2.2.2.2 j) ∧ (∀ k : Nat, (k : Int) < pl.2.2.1 → s (77 + 3 * k) = rd 0 k ∧ s (78 + 3 * k) = rd 1 k ∧ s (79 + 3 * k) = rd 2 k) ∧ (∀ c, c < 20 → s (95 + c) = rd 6 c)
def FrE (f f' : ZF) : Prop := (∀ c, c ≠ 219 → c ≠ 225 → f' c = f c) ∧ ∀ i, i ≠ 8 → i ≠ 9 → i ≠ 10 → i ≠ 14 → f' 219 i = f 219 i
theorem FrE.rf (f : ZF) : FrE f f := ⟨fun _ _ _ => rfl, fun _ _ _ _ _ => rfl⟩
theorem FrE.trans {a b c : ZF} (h1 : FrE a b) (h2 : FrE b c) : FrE a c := ⟨fun k q1 q2 => (h2.1 k q1 q2).trans (h1.1 k q1 q2), fun i q1 q2 q3 q4 => (h2.2 i q1 q2 q3 q4).trans (h1.2 i q1 q2 q3 q4)⟩
theorem FrE.up {i : Nat} {f0 f : ZF} {v : Int} (h : FrE f0 f) (hi : i = 8 ∨ i = 9 ∨ i = 10 ∨ i = 14) : FrE f0 (up2 f 219 i v) := ⟨fun c q1 q2 => (up2_o _ _ q1).trans (h.1 c q1 q2), fun j q1 q2 q3 q4 => (up2_ne _ _ (by omega)).trans (h.2 j q1 q2 q3 q4)⟩
theorem FrE.rd {i : Nat} {f0 f : ZF} {v : Int} (h : FrE f0 f) : FrE f0 (up2 f 225 i v) := ⟨fun c q1 q2 => (up2_o _ _ q2).trans (h.1 c q1 q2), fun j q1 q2 q3 q4 => by rw [up2_o _ _ (by omega)]; exact h.2 j q1 q2 q3 q4⟩
/-- NX, nothing wrong, the text is a SHOW -/
def SN (f : ZF) (t : Tx) (p : Nat) : Prop := NX f t p ∧ f 219 9 = 0 ∧ f 219 11 = 6
theorem SN.at {f : ZF} {t : Tx} {p q : Nat} (h : SN f t p) (hq : q ≤ t.2) : SN (up2 f 219 8 (q : Int)) t (sk t q) := ⟨h.1.mx.at hq, (up2_ne _ _ (by omega)).trans h.2.1, (up2_ne _ _ (by omega)).trans h.2.2⟩
theorem SN.now {f : ZF} {t : Tx} {p : Nat} (h : SN f t p) : SN (up2 f 219 8 (p : Int)) t p := ⟨h.1.now, (up2_ne _ _ (by omega)).trans h.2.1, (up2_ne _ _ (by omega)).trans h.2.2⟩
theorem SN.rd {f : ZF} {t : Tx} {p i : Nat} {v : Int} (h : SN f t p) : SN (up2 f 225 i v) t p := by
  obtain ⟨⟨⟨m1, m2⟩, x, h8, hx, hp⟩, h2, h3⟩ := h
  exact ⟨⟨⟨by rw [up2_o _ _ (by omega)]; exact m1, by rw [up2_o _ _ (by omega)]; exact m2⟩, x, by rw [up2_o _ _ (by omega)]; exact h8, hx, hp⟩, by rw [up2_o _ _ (by omega)]; exact h2, by rw [up2_o _ _ (by omega)]; exact h3⟩
theorem SN.ln {f : ZF} {t : Tx} {p : Nat} {v : Int} (h : SN f t p) : SN (up2 f 219 14 v) t p := by
  obtain ⟨⟨hm, x, h8, hx, hp⟩, h2, h3⟩ := h
  exact ⟨⟨hm.up (by omega), x, (up2_ne _ _ (by omega)).trans h8, hx, hp⟩, (up2_ne _ _ (by omega)).trans h2, (up2_ne _ _ (by omega)).trans h3⟩
theorem wOk_S : ∀ w ∈ wShows, wOk w := by
  have h : ∀ w ∈ wShows, (∀ i, i < w.length → 1 ≤ w.getD i 0 ∧ w.getD i 0 ≤ 255) ∧ w.length < 8 ∧ 0 < w.length := by decide
  exact h
section MSHOW
variable {d : Nat} {σ : ZS} {f : ZF} {g : ZG} {Q : ZQ} {p c : Nat} {t : Tx} {pl : Pl} {rd : Rd} {z : Int}
def BK (Q : ZQ) (σ : ZS) (g : ZG) (f0 : ZF) (e : Int) : Prop := ∀ f', FrE f0 f' → f' 219 9 = e → (1 ≤ e ∧ e ≤ 4000) → Q (some (zi 0)) σ f' g
theorem dNum_er {lo hi e : Int} {bar : Int → Bool} (hT : TxOk t) (hp : p ≤ t.2) (h : dNum t lo hi bar p = .inl e) : 1 ≤ e ∧ e ≤ 4000 := by
  unfold dNum at h
  split at h
  · split at h
    · cases h
    · cases h; exact err_rng hT hp (by omega)
  · cases h; exact err_rng hT hp (by omega)
theorem c_cellHere (hd : 3 ≤ d) (hs : Sh σ g) (hT : TxOk t) (h : SN f t p) {i : Nat} (hi : i < 115) {lo hi : Int} (hlo : IR lo) (hhi : IR hi) (k1 : ∀ p1 v, dNum t lo hi (fun _ => false) p = .inr (p1, v) → ∀ f', FrE f f' → SN f' t p1 → f' 219 10 = v → (∀ j, f' 225 j = if j = i then v else f 225 j) → f' 219 14 = f 219 14 → Q (some (zi 1)) σ f' g) (k2 : ∀ e, dNum t lo hi (fun _ => false) p = .inl e → BK Q σ g f e) : ZCt d 147 [zr (some 219), zi (i : Int), zi lo, zi hi] σ f g Q := by
  refine ZCt.of' (L0 := [_, _, _, _]) (by omega) rfl rfl rfl (fun d hd1 => ?_)
  refine r_aload_n rfl rfl ?_
  refine r_iload_n rfl rfl ?_
  refine r_iload_n rfl rfl ?_
  refine r_callV2 rfl rfl (by first | assumption | exact hs.o rfl) rfl (c_numberHere (by omega) hs hT h.1 h.2.1 hlo hhi (fun p1 v n1 f1 hf1 h1 h10 => ?_) (fun e n1 f1 hf1 h9 => ?_))
  · refine r_if_y rfl (by decide) ?_
    refine r_aload_n rfl rfl ?_
    refine r_getR rfl (by first | assumption | exact hs.o rfl) (by first | assumption | exact hs.g rfl) ?_
    refine r_iload_n rfl rfl ?_
    refine r_aload_n rfl rfl ?_
    refine r_getI rfl (by first | assumption | exact hs.o rfl) h10 ?_
    refine r_iastN (i) rfl (by first | assumption | exact hs.a rfl) (by omega) (by omega) (by omega) ?_
    refine r_iconst rfl ?_
    refine r_zret rfl (by omega) ?_
    exact k1 p1 v n1 _ (FrE.rd ⟨fun c q1 _ => hf1.1 c q1, fun i q1 q2 q3 _ => hf1.2 i q1 q3⟩) (SN.rd ⟨h1, (hf1.2 9 (by omega) (by omega)).trans h.2.1, (hf1.2 11 (by omega) (by omega)).trans h.2.2⟩) (by rw [up2_o _ _ (by omega)]; exact h10) (fun j => by by_cases q : j = i; rw [q, up2_same, if_pos rfl]; rw [up2_ne _ _ (by omega), if_neg q, hf1.1 225 (by omega)]) (by rw [up2_o _ _ (by omega)]; exact hf1.2 14 (by omega) (by omega))
  · refine r_if_n rfl (by decide) ?_
    refine r_iconst rfl ?_
    refine r_zret rfl (by omega) ?_
    exact k2 e n1 f1 ⟨fun c q1 _ => hf1.1 c q1, fun i q1 q2 q3 _ => hf1.2 i q1 q3 q2⟩ h9 (dNum_er hT h.1.le n1)
theorem l_rin (hs : Sh σ g) {s : Nat → Int} {m : Nat} (h2 : f 225 2 = (m : Int)) (h67 : ∀ j, j < m → f 225 (67 + j) = s j) (hr : ∀ j, j < m → 0 ≤ s j ∧ s j ≤ 100) (hm : m ≤ 5) {v : Int} (hv : IR v) (k1 : exB (fun j => decide (s j = v)) m = true → Q (some (zi 1)) σ f g) (k2 : ¬ exB (fun j => decide (s j = v)) m = true → Q (some (zi 0)) σ f g) (k : Nat) (hk : k ≤ m) (hno : ∀ j, j < k → s j ≠ v) : ZWp d zt152 2 [zr (some 219), zi v, zi (k : Int)] [] σ f g Q := by
  refine r_iload_n rfl rfl ?_
  refine r_aload_n rfl rfl ?_
  refine r_getR rfl (by first | assumption | exact hs.o rfl) (by first | assumption | exact hs.g rfl) ?_
  refine r_iconst rfl ?_
  refine r_iald rfl (by first | assumption | exact hs.a rfl) (by omega) (by omega) ((zix (n := 2) rfl).trans h2) ?_
  refine r_icmp_ge rfl (by omega) (by omega) (fun h9 => ?_) (fun h9 => ?_)
  · refine r_iconst rfl ?_
    refine r_zret rfl (by omega) ?_
    refine k2 (fun q => ?_)
    obtain ⟨j, q1, q2⟩ := (exB_iff _).1 q
    exact hno j (by omega) (decide_eq_true_iff.1 q2)
  · refine r_aload_n rfl rfl ?_
    refine r_getR rfl (by first | assumption | exact hs.o rfl) (by first | assumption | exact hs.g rfl) ?_
    refine r_bipush rfl ?_
    refine r_iload_n rfl rfl ?_
    refine r_iadd rfl ?_
    refine r_iald rfl (by first | assumption | exact hs.a rfl) (by omega) (by omega) ((zix (n := 67 + k) (by omega)).trans (h67 k (by omega))) ?_
    refine r_iload_n rfl rfl ?_
    refine r_icmp_ne rfl (by have := hr k (by omega); omega) (by omega) (fun h22 => ?_) (fun h22 => ?_)
    · refine r_iinc (L' := [_, _, _]) rfl rfl rfl ?_
      refine r_goto rfl ?_
      exact l_rin hs h2 h67 hr hm hv k1 k2 (k + 1) (by omega) (all_succ hno h22)
    · refine r_iconst rfl ?_
      refine r_zret rfl (by omega) ?_
      exact k1 ((exB_iff _).2 ⟨k, by omega, decide_eq_true_iff.2 h22⟩)
termination_by m - k
theorem c_isRoadIn (hd : 1 ≤ d) (hs : Sh σ g) {s : Nat → Int} {m : Nat} (h2 : f 225 2 = (m : Int)) (h67 : ∀ j, j < m → f 225 (67 + j) = s j) (hr : ∀ j, j < m → 0 ≤ s j ∧ s j ≤ 100) (hm : m ≤ 5) {v : Int} (hv : IR v) (k1 : exB (fun j => decide (s j = v)) m = true → Q (some (zi 1)) σ f g) (k2 : ¬ exB (fun j => decide (s j = v)) m = true → Q (some (zi 0)) σ f g) : ZCt d 152 [zr (some 219), zi v] σ f g Q := by
  refine ZCt.of' (L0 := [_, _, _]) (by omega) rfl rfl rfl (fun d hd1 => ?_)
  refine r_iconst rfl ?_
  refine r_istore_n (L' := [_, _, _]) rfl rfl rfl ?_
  exact l_rin hs h2 h67 hr hm hv k1 k2 0 (by omega) (fun j hj => absurd hj (by omega))
theorem l_cin (hs : Sh σ g) {s : Nat → Int} {m : Nat} (h3 : f 225 3 = (m : Int)) (h77 : ∀ j, j < m → f 225 (77 + 3 * j) = s j) (hr : ∀ j, j < m → 0 ≤ s j ∧ s j ≤ 100) (hm : m ≤ 6) {v : Int} (hv : IR v) (k1 : exB (fun j => decide (s j = v)) m = true → Q (some (zi 1)) σ f g) (k2 : ¬ exB (fun j => decide (s j = v)) m = true → Q (some (zi 0)) σ f g) (k : Nat) (hk : k ≤ m) (hno : ∀ j, j < k → s j ≠ v) : ZWp d zt154 2 [zr (some 219), zi v, zi (k : Int)] [] σ f g Q := by
  refine r_iload_n rfl rfl ?_
  refine r_aload_n rfl rfl ?_
  refine r_getR rfl (by first | assumption | exact hs.o rfl) (by first | assumption | exact hs.g rfl) ?_
  refine r_iconst rfl ?_
  refine r_iald rfl (by first | assumption | exact hs.a rfl) (by omega) (by omega) ((zix (n := 3) rfl).trans h3) ?_
  refine r_icmp_ge rfl (by omega) (by omega) (fun h9 => ?_) (fun h9 => ?_)
  · refine r_iconst rfl ?_
    refine r_zret rfl (by omega) ?_
    refine k2 (fun q => ?_)
    obtain ⟨j, q1, q2⟩ := (exB_iff _).1 q
    exact hno j (by omega) (decide_eq_true_iff.1 q2)
  · refine r_aload_n rfl rfl ?_
    refine r_getR rfl (by first | assumption | exact hs.o rfl) (by first | assumption | exact hs.g rfl) ?_
    refine r_bipush rfl ?_
    refine r_iconst rfl ?_
    refine r_iload_n rfl rfl ?_
    refine r_imul rfl ?_
    refine r_iadd rfl ?_
    refine r_iald rfl (by first | assumption | exact hs.a rfl) (by omega) (by omega) ((zix (n := 77 + 3 * k) (by omega)).trans (h77 k (by omega))) ?_
    refine r_iload_n rfl rfl ?_
    refine r_icmp_ne rfl (by have := hr k (by omega); omega) (by omega) (fun h24 => ?_) (fun h24 => ?_)
    · refine r_iinc (L' := [_, _, _]) rfl rfl rfl ?_
      refine r_goto rfl ?_
      exact l_cin hs h3 h77 hr hm hv k1 k2 (k + 1) (by omega) (all_succ hno h24)
    · refine r_iconst rfl ?_
      refine r_zret rfl (by omega) ?_
      exact k1 ((exB_iff _).2 ⟨k, by omega, decide_eq_true_iff.2 h24⟩)
termination_by m - k
theorem c_isCarIn (hd : 1 ≤ d) (hs : Sh σ g) {s : Nat → Int} {m : Nat} (h3 : f 225 3 = (m : Int)) (h77 : ∀ j, j < m → f 225 (77 + 3 * j) = s j) (hr : ∀ j, j < m → 0 ≤ s j ∧ s j ≤ 100) (hm : m ≤ 6) {v : Int} (hv : IR v) (k1 : exB (fun j => decide (s j = v)) m = true → Q (some (zi 1)) σ f g) (k2 : ¬ exB (fun j => decide (s j = v)) m = true → Q (some (zi 0)) σ f g) : ZCt d 154 [zr (some 219), zi v] σ f g Q := by
  refine ZCt.of' (L0 := [_, _, _]) (by omega) rfl rfl rfl (fun d hd1 => ?_)
  refine r_iconst rfl ?_
  refine r_istore_n (L' := [_, _, _]) rfl rfl rfl ?_
  exact l_cin hs h3 h77 hr hm hv k1 k2 0 (by omega) (fun j hj => absurd hj (by omega))
theorem exB_car {rd : Rd} {m : Nat} (hm : m ≤ 6) (hno : ∀ k, m ≤ k → k < 6 → rd 0 k = -1) {v : Int} (hv : 0 ≤ v) : exB (fun j => decide (rd 0 j = v)) m = carInP rd v := by
  have : exB (fun j => decide (rd 0 j = v)) m = true ↔ carInP rd v = true := by
    unfold carInP
    rw [exB_iff, exB_iff]
    constructor
    · intro ⟨j, h1, h2⟩; exact ⟨j, by omega, h2⟩
    · intro ⟨j, h1, h2⟩
      refine ⟨j, ?_, h2⟩
      apply Nat.lt_of_not_le
      intro q
      have q1 := hno j q h1
      have q2 := decide_eq_true_iff.1 h2
      omega
  cases h1 : exB (fun j => decide (rd 0 j = v)) m <;> cases h2 : carInP rd v <;> simp_all
/-- how it goes on behind a CLAUSE -/
def SMK (Q : ZQ) (σ : ZS) (g : ZG) (f0 : ZF) (t : Tx) (r : SR) : Prop := (∀ p' pl' rd', r = .inr (p', pl', rd') → ∀ f', FrE f0 f' → SN f' t p' → RdA (f' 225) 1 pl' rd' → f' 219 14 = f0 219 14 → Q (some (zi 1)) σ f' g) ∧ (∀ e, r = .inl e → BK Q σ g f0 e)
theorem c_isShowHere (hd : 4 ≤ d) (hs : Sh σ g) (hT : TxOk t) (h : SN f t p) (h8 : f 219 8 = (p : Int)) (hr : RdA (f 225) 0 pl0 rdI) {x : Int} (K : SMK Q σ g f t (sCells t pl0 rdI (sk t (lE t p)))) : ZCt d 145 [zr (some 219), zi x] σ f g Q := by
  refine ZCt.of' (L0 := [_, _]) (by omega) rfl rfl rfl (fun d hd1 => ?_)
  have hp := h.1.le
  have hLl := lE_le hp
  refine r_aload_n rfl rfl ?_
  refine r_getR rfl (by first | assumption | exact hs.o rfl) (by first | assumption | exact hs.g rfl) ?_
  refine r_iconst rfl ?_
  refine r_iald rfl (by first | assumption | exact hs.a rfl) (by omega) (by omega) ((zix (n := 0) rfl).trans hr.1) ?_
  refine r_if_le rfl (by omega) (fun h6 => ?_) (fun h6 => ?_)
  · refine r_aload_n rfl rfl ?_
    refine r_callV0 rfl rfl (by first | assumption | exact hs.o rfl) rfl (c_passWord (q := p) (by omega) hs hT h.1.mx h8 h.1.le ?_)
    refine r_aload_n rfl rfl ?_
    refine r_iconst rfl ?_
    refine r_iconst rfl ?_
    refine r_bipush rfl ?_
    refine r_callV3 rfl rfl (by first | assumption | exact hs.o rfl) rfl (c_cellHere (i := 1) (by omega) hs hT (h.at hLl) (by omega) (by omega) (by omega) (fun p2 v2 n2 f2 hf2 h2 h102 h252 h142 => ?_) (fun e2 n2 f2 hf2 h92 hr2 => ?_))
    · refine r_if_y rfl (by decide) ?_
      refine r_aload_n rfl rfl ?_
      refine r_getR rfl (by first | assumption | exact hs.o rfl) (by first | assumption | exact hs.g rfl) ?_
      refine r_iconst rfl ?_
      refine r_iconst rfl ?_
      refine r_iastN (0) rfl (by first | assumption | exact hs.a rfl) (by omega) (by omega) (by omega) ?_
      refine r_iconst rfl ?_
      refine r_zret rfl (by omega) ?_
      have e25 : ∀ j, up2 f2 225 0 1 225 j = if j = 0 then 1 else if j = 1 then v2 else f 225 j := fun j => by
        by_cases q : j = 0
        · rw [q, up2_same, if_pos rfl]
        · rw [up2_ne _ _ (by omega), if_neg q, h252 j, up2_o _ _ (by omega)]
      obtain ⟨a1, a2, a3, a4, a5, a6, a7⟩ := hr
      refine K.1 p2 (v2, pl0.2) rdI (by unfold sCells; rw [n2]) _ ((((FrE.rf f).up (by omega)).trans hf2).rd) h2.rd ⟨?_, ?_, ?_, ?_, fun j hj => ?_, fun k hk => ?_, fun c hc => ?_⟩ ?_
      · rw [e25, if_pos rfl]
      · rw [e25, if_neg (by omega), if_pos rfl]
      · rw [e25, if_neg (by omega), if_neg (by omega)]; exact a3
      · rw [e25, if_neg (by omega), if_neg (by omega)]; exact a4
      · rw [e25, e25, if_neg (by omega), if_neg (by omega), if_neg (by omega), if_neg (by omega)]; exact a5 j hj
      · simp only [pl0] at hk; omega
      · rw [e25, if_neg (by omega), if_neg (by omega)]; exact a7 c hc
      · rw [up2_o _ _ (by omega), h142]; exact up2_ne _ _ (by omega)
    · refine r_if_n rfl (by decide) ?_
      refine r_iconst rfl ?_
      refine r_zret rfl (by omega) ?_
      exact K.2 e2 (by unfold sCells; rw [n2]) f2 (((FrE.rf f).up (by omega)).trans hf2) h92 hr2
  · exfalso; omega
theorem c_isRoadHere (hd : 4 ≤ d) (hs : Sh σ g) (hT : TxOk t) (h : SN f t p) (h8 : f 219 8 = (p : Int)) (hr : RdA (f 225) 1 pl rd) (hpl : PlOk pl) (hst : StOk pl rd) (h5 : pl.2.1 < 5) {x : Int} (K : SMK Q σ g f t (sRoad t pl rd (sk t (lE t p)))) : ZCt d 151 [zr (some 219), zi x] σ f g Q := by
  refine ZCt.of' (L0 := [_, _, _]) (by omega) rfl rfl rfl (fun d hd1 => ?_)
  have hp := h.1.le
  have hLl := lE_le hp
  have hp1 := hpl.1
  have hp2 := hpl.2.1
  have hp3 := hpl.2.2.1
  obtain ⟨m, hm⟩ := Int.eq_ofNat_of_zero_le hp2.1
  obtain ⟨u, hu⟩ := Int.eq_ofNat_of_zero_le hp3.1
  obtain ⟨a1, a2, a3, a4, a5, a6, a7⟩ := hr
  have hsk := sk_le hLl
  refine r_aload_n rfl rfl ?_
  refine r_getR rfl (by first | assumption | exact hs.o rfl) (by first | assumption | exact hs.g rfl) ?_
  refine r_iconst rfl ?_
  refine r_iald rfl (by first | assumption | exact hs.a rfl) (by omega) (by omega) ((zix (n := 2) rfl).trans (a3.trans hm)) ?_
  refine r_iconst rfl ?_
  refine r_icmp_ne rfl (by omega) (by omega) (fun h7 => ?_) (fun h7 => ?_)
  · refine r_aload_n rfl rfl ?_
    refine r_callV0 rfl rfl (by first | assumption | exact hs.o rfl) rfl (c_passWord (q := p) (by omega) hs hT h.1.mx h8 h.1.le ?_)
    refine r_aload_n rfl rfl ?_
    refine r_callV0 rfl rfl (by first | assumption | exact hs.o rfl) rfl (c_see (by omega) hs hT (h.at hLl).1 ?_)
    rw [up2_up2]
    have h1 := (h.at hLl).now
    rw [up2_up2] at h1
    refine r_popi rfl ?_
    refine r_aload_n rfl rfl ?_
    refine r_getI rfl (by first | assumption | exact hs.o rfl) (up2_same _ _ _ _) ?_
    refine r_istore_n (L' := [_, _, _]) rfl rfl rfl ?_
    refine r_aload_n rfl rfl ?_
    refine r_bipush rfl ?_
    refine r_aload_n rfl rfl ?_
    refine r_getR rfl (by first | assumption | exact hs.o rfl) (by first | assumption | exact hs.g rfl) ?_
    refine r_iconst rfl ?_
    refine r_iald rfl (by first | assumption | exact hs.a rfl) (by omega) (by omega) ((zix (n := 2) rfl).trans ((congrFun (up2_o _ _ (by omega)) _).trans (a3.trans hm))) ?_
    refine r_iadd rfl ?_
    refine r_iconst rfl ?_
    refine r_aload_n rfl rfl ?_
    refine r_getR rfl (by first | assumption | exact hs.o rfl) (by first | assumption | exact hs.g rfl) ?_
    refine r_iconst rfl ?_
    refine r_iald rfl (by first | assumption | exact hs.a rfl) (by omega) (by omega) ((zix (n := 1) rfl).trans ((congrFun (up2_o _ _ (by omega)) _).trans a2)) ?_
    refine r_iconst rfl ?_
    refine r_isub rfl ?_
    rw [show ((67 : Int) + (m : Int)) = ((67 + m : Nat) : Int) by omega]
    refine r_callV3 rfl rfl (by first | assumption | exact hs.o rfl) rfl (c_cellHere (i := 67 + m) (by omega) hs hT h1 (by omega) (by omega) (by omega) (fun p2 v2 n2 f2 hf2 h2 h102 h252 h142 => ?_) (fun e2 n2 f2 hf2 h92 hr2 => ?_))
    · refine r_if_y rfl (by decide) ?_
      refine r_aload_n rfl rfl ?_
      refine r_aload_n rfl rfl ?_
      refine r_getI rfl (by first | assumption | exact hs.o rfl) h102 ?_
      have q2 := dNum_inr n2 hsk
      have e2 : ∀ j, j ≠ 67 + m → f2 225 j = f 225 j := fun j hj => by rw [h252 j, if_neg hj, up2_o _ _ (by omega)]
      have eb : ∀ b, exB (fun j => decide (pl.2.2.2.1 j = v2)) m = b → roadIn pl v2 = b := fun b hb => by unfold roadIn; rw [show pl.2.1.toNat = m by omega]; exact hb
      refine r_callV1 rfl rfl (by first | assumption | exact hs.o rfl) rfl (c_isRoadIn (s := pl.2.2.2.1) (m := m) (by omega) hs (by rw [e2 2 (by omega)]; exact a3.trans hm) (fun j hj => by rw [e2 (67 + j) (by omega)]; exact (a5 j (by omega)).1) (fun j hj => by have := hpl.2.2.2 j (by omega); omega) (by omega) (by omega) (fun hin => ?_) (fun hin => ?_))
      · refine r_if_n rfl (by decide) ?_
        refine r_aload_n rfl rfl ?_
        refine r_iconst rfl ?_
        refine r_iload_n rfl rfl ?_
        refine r_callV2 rfl rfl (by first | assumption | exact hs.o rfl) rfl (c_fails (p := sk t (lE t p)) (by omega) hs h2.2.1 ?_)
        refine r_zret rfl (by omega) ?_
        exact K.2 _ (by unfold sRoad; rw [dNum_b1 n2, if_pos (eb true hin)]) _ ((((FrE.rf f).up (by omega)).trans hf2).up (by omega)) (up2_same _ _ _ _) (err_rng hT hsk (by omega))
      · refine r_if_y rfl (by decide) ?_
        refine r_aload_n rfl rfl ?_
        refine r_bipush rfl ?_
        refine r_aload_n rfl rfl ?_
        refine r_getR rfl (by first | assumption | exact hs.o rfl) (by first | assumption | exact hs.g rfl) ?_
        refine r_iconst rfl ?_
        refine r_iald rfl (by first | assumption | exact hs.a rfl) (by omega) (by omega) ((zix (n := 2) rfl).trans ((e2 2 (by omega)).trans (a3.trans hm))) ?_
        refine r_iadd rfl ?_
        refine r_iconst rfl ?_
        refine r_bipush rfl ?_
        have ebf := eb false (by cases hz : exB (fun j => decide (pl.2.2.2.1 j = v2)) m with
          | false => rfl
          | true => exact absurd hz hin)
        have n2b := (dNum_b1 (bar := roadIn pl) n2).trans (if_neg (by rw [ebf]; decide))
        rw [show ((72 : Int) + (m : Int)) = ((72 + m : Nat) : Int) by omega]
        refine r_callV3 rfl rfl (by first | assumption | exact hs.o rfl) rfl (c_cellHere (i := 72 + m) (by omega) hs hT h2 (by omega) (by omega) (by omega) (fun p3 v3 n3 f3 hf3 h3 h103 h253 h143 => ?_) (fun e3 n3 f3 hf3 h93 hr3 => ?_))
        · refine r_if_y rfl (by decide) ?_
          refine r_aload_n rfl rfl ?_
          refine r_getR rfl (by first | assumption | exact hs.o rfl) (by first | assumption | exact hs.g rfl) ?_
          refine r_iconst rfl ?_
          refine r_dup2 rfl ?_
          refine r_iald rfl (by first | assumption | exact hs.a rfl) (by omega) (by omega) ((zix (n := 2) rfl).trans (show _ = (m : Int) from by rw [h253 2, if_neg (by omega), e2 2 (by omega)]; exact a3.trans hm)) ?_
          refine r_iconst rfl ?_
          refine r_iadd rfl ?_
          refine r_iastN (2) rfl (by first | assumption | exact hs.a rfl) (by omega) (by omega) (by omega) ?_
          refine r_iconst rfl ?_
          refine r_zret rfl (by omega) ?_
          have e25 : ∀ j, up2 f3 225 2 ((m : Int) + 1) 225 j = if j = 2 then (m : Int) + 1 else if j = 72 + m then v3 else if j = 67 + m then v2 else f 225 j := fun j => by
            by_cases q : j = 2
            · rw [q, up2_same, if_pos rfl]
            · rw [up2_ne _ _ (by omega), if_neg q, h253 j, h252 j, up2_o _ _ (by omega)]
          refine K.1 p3 _ rd (by unfold sRoad; rw [n2b]; simp only; rw [n3]) _ (((((FrE.rf f).up (by omega)).trans hf2).trans hf3).rd) h3.rd ⟨?_, ?_, ?_, ?_, fun j hj => ⟨?_, ?_⟩, fun k hk => ?_, fun c hc => ?_⟩ ?_
          · rw [e25, if_neg (by omega), if_neg (by omega), if_neg (by omega)]; exact a1
          · rw [e25, if_neg (by omega), if_neg (by omega), if_neg (by omega)]; exact a2
          · rw [e25, if_pos rfl]; show _ = pl.2.1 + 1; omega
          · rw [e25, if_neg (by omega), if_neg (by omega), if_neg (by omega)]; exact a4
          · show _ = u1 pl.2.2.2.1 pl.2.1.toNat v2 j
            rw [e25, if_neg (by omega), if_neg (by omega)]
            unfold u1
            by_cases q : j = m
            · rw [if_pos (by omega), if_pos (by omega)]
            · rw [if_neg (by omega), if_neg (by omega)]; exact (a5 j hj).1
          · show _ = u1 pl.2.2.2.2 pl.2.1.toNat v3 j
            rw [e25, if_neg (by omega)]
            unfold u1
            by_cases q : j = m
            · rw [if_pos (by omega), if_pos (by omega)]
            · rw [if_neg (by omega), if_neg (by omega), if_neg (by omega)]; exact (a5 j hj).2
          · have hk' : (k : Int) < pl.2.2.1 := hk
            rw [e25, e25, e25, if_neg (by omega), if_neg (by omega), if_neg (by omega), if_neg (by omega), if_neg (by omega), if_neg (by omega), if_neg (by omega), if_neg (by omega), if_neg (by omega)]; exact a6 k hk'
          · rw [e25, if_neg (by omega), if_neg (by omega), if_neg (by omega)]; exact a7 c hc
          · rw [up2_o _ _ (by omega), h143, h142]; exact up2_ne _ _ (by omega)
        · refine r_if_n rfl (by decide) ?_
          refine r_iconst rfl ?_
          refine r_zret rfl (by omega) ?_
          exact K.2 e3 (by unfold sRoad; rw [n2b]; simp only; rw [n3]) f3 ((((FrE.rf f).up (by omega)).trans hf2).trans hf3) h93 hr3
    · refine r_if_n rfl (by decide) ?_
      refine r_iconst rfl ?_
      refine r_zret rfl (by omega) ?_
      exact K.2 e2 (by unfold sRoad; rw [dNum_b0 n2]) f2 (((FrE.rf f).up (by omega)).trans hf2) h92 hr2
  · exfalso; omega
end MSHOW
