/-! The reference reads signs, words, numbers -/
theorem up2_up2 {α : Type} (f : Nat → Nat → α) (a i : Nat) (v w : α) : up2 (up2 f a i v) a i w = up2 f a i w := by
  funext b j
  unfold up2
  split <;> rfl
theorem up2_self {α : Type} (f : Nat → Nat → α) {a i : Nat} {v : α} (h : f a i = v) : up2 f a i v = f := by
  funext b j
  unfold up2
  split
  · rename_i q; rw [q.1, q.2]; exact h.symm
  · rfl
theorem and255 : ∀ n : Nat, n < 256 → z_and ((n : Int) - 128) 255 = if n < 128 then (n : Int) + 128 else (n : Int) - 128 := by decide +kernel
theorem z_and255 {x : Int} (h : -128 ≤ x ∧ x ≤ 127) : z_and x 255 = if x < 0 then x + 256 else x := by
  obtain ⟨n, hn⟩ := Int.eq_ofNat_of_zero_le (show 0 ≤ x + 128 by omega)
  have := and255 n (by omega)
  rw [show x = (n : Int) - 128 by omega, this]
  split <;> split <;> omega
/-- what is seen at p -/
def ch (t : Tx) (p : Nat) : Int := if p < t.2 then z_and (t.1 p) 255 else -1
theorem ch_iff {t : Tx} (hT : TxOk t) {p : Nat} {c : Int} (hc : 0 ≤ c ∧ c ≤ 127) : ch t p = c ↔ isS t p c = true := by
  rw [isS_iff]
  unfold ch
  by_cases h : p < t.2
  · have h1 := hT.2 p h
    rw [if_pos h, z_and255 h1]
    split <;> omega
  · rw [if_neg h]; omega
theorem ch_rng {t : Tx} (hT : TxOk t) (p : Nat) : -1 ≤ ch t p ∧ ch t p ≤ 255 := by
  unfold ch
  by_cases h : p < t.2
  · have h1 := hT.2 p h
    rw [if_pos h, z_and255 h1]
    split <;> omega
  · rw [if_neg h]; omega
theorem ch_end {t : Tx} (hT : TxOk t) {p : Nat} : ch t p = -1 ↔ ¬ p < t.2 := by
  unfold ch
  by_cases h : p < t.2
  · have h1 := hT.2 p h
    rw [if_pos h, z_and255 h1]
    split <;> omega
  · rw [if_neg h]; omega
def EN (s : Nat → Int) : Nat → Int
  | 0 => 0
  | k + 1 => 256 * EN s k + s k
theorem EN_pos {s : Nat → Int} : ∀ k, (∀ i, i < k → 1 ≤ s i ∧ s i ≤ 255) → 0 ≤ EN s k ∧ (0 < k → 1 ≤ EN s k) := by
  intro k
  induction k with
  | zero => intro _; exact ⟨Int.le_refl 0, fun h => by omega⟩
  | succ k ih =>
    intro h
    have h1 := ih (fun i hi => h i (by omega))
    have h2 := h k (by omega)
    unfold EN
    omega
theorem EN_inj {s w : Nat → Int} : ∀ k m, (∀ i, i < k → 1 ≤ s i ∧ s i ≤ 255) → (∀ i, i < m → 1 ≤ w i ∧ w i ≤ 255) → EN s k = EN w m → k = m ∧ ∀ i, i < k → s i = w i := by
  intro k
  induction k with
  | zero =>
    intro m hs hw h
    have := (EN_pos m hw).2
    have h0 : EN s 0 = 0 := rfl
    refine ⟨by omega, fun i hi => by omega⟩
  | succ k ih =>
    intro m hs hw h
    cases m with
    | zero =>
      have := (EN_pos (k + 1) hs).2 (by omega)
      have h0 : EN w 0 = 0 := rfl
      omega
    | succ m =>
      have a1 := hs k (by omega)
      have a2 := hw m (by omega)
      have e : 256 * EN s k + s k = 256 * EN w m + w m := h
      have e1 : s k = w m := by omega
      obtain ⟨b1, b2⟩ := ih m (fun i hi => hs i (by omega)) (fun i hi => hw i (by omega)) (by omega)
      refine ⟨by omega, fun i hi => ?_⟩
      by_cases q : i = k
      · rw [q, e1, b1]
      · exact b2 i (by omega)
theorem EN_congr {s w : Nat → Int} : ∀ k, (∀ i, i < k → s i = w i) → EN s k = EN w k := by
  intro k
  induction k with
  | zero => intro _; rfl
  | succ k ih =>
    intro h
    unfold EN
    rw [ih (fun i hi => h i (by omega)), h k (by omega)]
theorem EN_up {s : Nat → Int} : ∀ k, (∀ i, i < k → 1 ≤ s i ∧ s i ≤ 122) → EN s k < 123 * 256 ^ (k - 1) ∨ k = 0 := by
  intro k
  induction k with
  | zero => intro _; exact Or.inr rfl
  | succ k ih =>
    intro h
    have h1 := ih (fun i hi => h i (by omega))
    have h2 := h k (by omega)
    refine Or.inl ?_
    unfold EN
    cases k with
    | zero => simp only [EN]; show 256 * 0 + s 0 < 123 * 256 ^ 0; simp; omega
    | succ k =>
      have h3 : EN s (k + 1) < 123 * 256 ^ k := by
        rcases h1 with h1 | h1
        · exact h1
        · omega
      show _ < 123 * (256 : Int) ^ (k + 1)
      rw [Int.pow_succ]
      have : (0 : Int) < 256 ^ k := Int.pow_pos (by decide)
      generalize (256 : Int) ^ k = z at *
      omega
theorem mt_iff {t : Tx} : ∀ (w : List Int) (p : Nat), mt t p w = true ↔ ∀ i, i < w.length → t.1 (p + i) = w.getD i 0 := by
  intro w
  induction w with
  | nil => intro p; exact ⟨fun _ i hi => absurd hi (by simp), fun _ => rfl⟩
  | cons c w ih =>
    intro p
    unfold mt
    rw [Bool.and_eq_true, decide_eq_true_iff, ih (p + 1)]
    constructor
    · intro ⟨h1, h2⟩ i hi
      cases i with
      | zero => simpa using h1
      | succ i =>
        have := h2 i (by simpa using hi)
        rw [show p + (i + 1) = p + 1 + i by omega]
        simpa using this
    · intro h
      refine ⟨by simpa using h 0 (by simp), fun i hi => ?_⟩
      have := h (i + 1) (by simpa using hi)
      rw [show p + (i + 1) = p + 1 + i by omega] at this
      simpa using this
/-- a word's number -/
def enW (w : List Int) : Int := EN (fun i => w.getD i 0) w.length
def wOk (w : List Int) : Prop := (∀ i, i < w.length → 1 ≤ w.getD i 0 ∧ w.getD i 0 ≤ 255) ∧ w.length < 8 ∧ 0 < w.length
theorem wIs_en {t : Tx} {p : Nat} {w : List Int} (hw : wOk w) : wIs t p w = true ↔ (0 < lE t p - p ∧ lE t p - p < 8 ∧ EN (fun i => t.1 (p + i)) (lE t p - p) = enW w) := by
  have hge := lE_ge t p
  have hL : ∀ i, i < lE t p - p → 1 ≤ t.1 (p + i) ∧ t.1 (p + i) ≤ 255 := fun i hi => by
    have := (isL_iff.1 (rE_in (P := isL t) (n := t.2) (p := p) (i := p + i) (by omega) (by show p + i < lE t p; omega))).2
    omega
  unfold wIs
  rw [Bool.and_eq_true, decide_eq_true_iff, mt_iff]
  constructor
  · intro ⟨h1, h2⟩
    have e : lE t p - p = w.length := by omega
    refine ⟨by have := hw.2.2; omega, by have := hw.2.1; omega, ?_⟩
    rw [e]
    exact EN_congr _ h2
  · intro ⟨h1, h2, h3⟩
    obtain ⟨e1, e2⟩ := EN_inj _ _ hL hw.1 h3
    exact ⟨by omega, fun i hi => e2 i (by omega)⟩
theorem or8 (a b : Nat) (hb : b < 256) : 256 * a ||| b = 256 * a + b := by
  exact (Nat.two_pow_add_eq_or_of_lt (i := 8) (b := b) hb a).symm
/-- the text lies there; the next sign is at p or ahead of it, behind blanks -/
def MX (f : ZF) (t : Tx) : Prop := f 219 1 = (t.2 : Int) ∧ ∀ i, i < t.2 → f 220 i = t.1 i
def NX (f : ZF) (t : Tx) (p : Nat) : Prop := MX f t ∧ ∃ x : Nat, f 219 8 = (x : Int) ∧ x ≤ t.2 ∧ sk t x = p
theorem MX.up {f : ZF} {t : Tx} {i : Nat} {v : Int} (h : MX f t) (hi : i ≠ 1) : MX (up2 f 219 i v) t := ⟨(up2_ne _ _ (by omega)).trans h.1, fun j hj => by rw [up2_o _ _ (by omega)]; exact h.2 j hj⟩
theorem NX.mx {f : ZF} {t : Tx} {p : Nat} (h : NX f t p) : MX f t := h.1
theorem NX.le {f : ZF} {t : Tx} {p : Nat} (h : NX f t p) : p ≤ t.2 := by
  obtain ⟨_, x, _, h2, h3⟩ := h
  rw [← h3]
  exact sk_le h2
theorem NX.sk {f : ZF} {t : Tx} {p : Nat} (h : NX f t p) : sk t p = p := by
  obtain ⟨_, x, _, h2, h3⟩ := h
  rw [← h3]
  exact sk_sk h2
theorem MX.at {f : ZF} {t : Tx} (h : MX f t) {q : Nat} (hq : q ≤ t.2) : NX (up2 f 219 8 (q : Int)) t (sk t q) := ⟨h.up (by omega), q, up2_same _ _ _ _, hq, rfl⟩
theorem NX.now {f : ZF} {t : Tx} {p : Nat} (h : NX f t p) : NX (up2 f 219 8 (p : Int)) t p := ⟨h.1.up (by omega), p, up2_same _ _ _ _, h.le, h.sk⟩
section MLEX
variable {d : Nat} {σ : ZS} {f : ZF} {g : ZG} {Q : ZQ} {p q : Nat} {t : Tx}
theorem l_see (hs : Sh σ g) (hT : TxOk t) (x : Nat) (hx : x ≤ t.2) (f : ZF) (hm : MX f t) (h8 : f 219 8 = (x : Int)) (hp : sk t x = p) (K : Q (some (zi (ch t p))) σ (up2 f 219 8 (p : Int)) g) : ZWp d zt139 0 [zr (some 219)] [] σ f g Q := by
  have hT1 := hT.1
  refine r_aload_n rfl rfl ?_
  refine r_getI rfl (by first | assumption | exact hs.o rfl) h8 ?_
  refine r_aload_n rfl rfl ?_
  refine r_getI rfl (by first | assumption | exact hs.o rfl) hm.1 ?_
  refine r_icmp_ge rfl (by omega) (by omega) (fun h8a => ?_) (fun h8a => ?_)
  · refine r_aload_n rfl rfl ?_
    refine r_getI rfl (by first | assumption | exact hs.o rfl) h8 ?_
    refine r_aload_n rfl rfl ?_
    refine r_getI rfl (by first | assumption | exact hs.o rfl) hm.1 ?_
    refine r_icmp_ge rfl (by omega) (by omega) (fun h46 => ?_) (fun h46 => ?_)
    · refine r_iconst rfl ?_
      refine r_iret rfl ?_
      have ex : x = sk t x := (rE_no (isB_no.2 (by omega))).symm
      have ec : (-1 : Int) = ch t (sk t x) := by rw [← ex]; unfold ch; rw [if_neg (by omega)]
      rw [← hp, ← ec, ← ex, up2_self f h8] at K
      exact K
    · exfalso; omega
  · refine r_aload_n rfl rfl ?_
    refine r_getR rfl (by first | assumption | exact hs.o rfl) (by first | assumption | exact hs.g rfl) ?_
    refine r_aload_n rfl rfl ?_
    refine r_getI rfl (by first | assumption | exact hs.o rfl) h8 ?_
    refine r_bald rfl (by first | assumption | exact hs.a rfl) (by omega) (by omega) ((zix (n := x) (by omega)).trans (hm.2 x (by omega))) ?_
    refine r_bipush rfl ?_
    refine r_icmp_ne rfl (by have := hT.2 x (by omega); omega) (by omega) (fun h22 => ?_) (fun h22 => ?_)
    · refine r_aload_n rfl rfl ?_
      refine r_getI rfl (by first | assumption | exact hs.o rfl) h8 ?_
      refine r_aload_n rfl rfl ?_
      refine r_getI rfl (by first | assumption | exact hs.o rfl) hm.1 ?_
      refine r_icmp_ge rfl (by omega) (by omega) (fun h46 => ?_) (fun h46 => ?_)
      · exfalso; omega
      · refine r_aload_n rfl rfl ?_
        refine r_getR rfl (by first | assumption | exact hs.o rfl) (by first | assumption | exact hs.g rfl) ?_
        refine r_aload_n rfl rfl ?_
        refine r_getI rfl (by first | assumption | exact hs.o rfl) h8 ?_
        refine r_bald rfl (by first | assumption | exact hs.a rfl) (by omega) (by omega) ((zix (n := x) (by omega)).trans (hm.2 x (by omega))) ?_
        refine r_sipush rfl ?_
        refine r_iand rfl ?_
        refine r_goto rfl ?_
        refine r_iret rfl ?_
        have ex : x = sk t x := (rE_no (isB_no.2 (by omega))).symm
        have ec : z_and (t.1 x) 255 = ch t (sk t x) := by rw [← ex]; unfold ch; rw [if_pos (by omega)]
        rw [← hp, ← ec, ← ex, up2_self f h8] at K
        exact K
    · refine r_aload_n rfl rfl ?_
      refine r_dupr rfl ?_
      refine r_getI rfl (by first | assumption | exact hs.o rfl) h8 ?_
      refine r_iconst rfl ?_
      refine r_iadd rfl ?_
      refine r_putI rfl (by first | assumption | exact hs.o rfl) ?_
      refine r_goto rfl ?_
      refine l_see hs hT (x + 1) (by omega) (up2 f 219 8 ((x : Int) + 1)) (hm.up (by omega)) ((up2_same _ _ _ _).trans (by omega)) (by rw [← hp]; exact (show sk t x = _ from rE_yes (isB_iff.2 (by omega)) (by omega)).symm) ?_
      rw [up2_up2]
      exact K
termination_by t.2 - x
theorem c_see (hd : 1 ≤ d) (hs : Sh σ g) (hT : TxOk t) (h : NX f t p) (K : Q (some (zi (ch t p))) σ (up2 f 219 8 (p : Int)) g) : ZCt d 139 [zr (some 219)] σ f g Q := by
  obtain ⟨hm, x, h8, hx, hp⟩ := h
  refine ZCt.of' (L0 := [_]) (by omega) rfl rfl rfl (fun d hd1 => ?_)
  exact l_see hs hT x hx f hm h8 hp K
theorem c_isLetter (hd : 1 ≤ d) (hs : Sh σ g) (hT : TxOk t) (hm : MX f t) {k : Nat} (hk : k ≤ 1000) (k1 : isL t k = true → Q (some (zi 1)) σ f g) (k2 : ¬ isL t k = true → Q (some (zi 0)) σ f g) : ZCt d 142 [zr (some 219), zi (k : Int)] σ f g Q := by
  refine ZCt.of' (L0 := [_, _]) (by omega) rfl rfl rfl (fun d hd1 => ?_)
  have hT1 := hT.1
  refine r_iload_n rfl rfl ?_
  refine r_aload_n rfl rfl ?_
  refine r_getI rfl (by first | assumption | exact hs.o rfl) hm.1 ?_
  refine r_icmp_ge rfl (by omega) (by omega) (fun h5 => ?_) (fun h5 => ?_)
  · refine r_iconst rfl ?_
    refine r_zret rfl (by omega) ?_
    first | exact k1 (isL_iff.2 (by omega)) | exact k2 (fun q => by have := isL_iff.1 q; omega)
  · refine r_aload_n rfl rfl ?_
    refine r_getR rfl (by first | assumption | exact hs.o rfl) (by first | assumption | exact hs.g rfl) ?_
    refine r_iload_n rfl rfl ?_
    refine r_bald rfl (by first | assumption | exact hs.a rfl) (by omega) (by omega) ((zix (n := k) (by omega)).trans (hm.2 k (by omega))) ?_
    refine r_bipush rfl ?_
    refine r_icmp_lt rfl (by have := hT.2 k (by omega); omega) (by omega) (fun h16 => ?_) (fun h16 => ?_)
    · refine r_iconst rfl ?_
      refine r_zret rfl (by omega) ?_
      first | exact k1 (isL_iff.2 (by omega)) | exact k2 (fun q => by have := isL_iff.1 q; omega)
    · refine r_aload_n rfl rfl ?_
      refine r_getR rfl (by first | assumption | exact hs.o rfl) (by first | assumption | exact hs.g rfl) ?_
      refine r_iload_n rfl rfl ?_
      refine r_bald rfl (by first | assumption | exact hs.a rfl) (by omega) (by omega) ((zix (n := k) (by omega)).trans (hm.2 k (by omega))) ?_
      refine r_bipush rfl ?_
      refine r_icmp_gt rfl (by have := hT.2 k (by omega); omega) (by omega) (fun h27 => ?_) (fun h27 => ?_)
      · refine r_iconst rfl ?_
        refine r_zret rfl (by omega) ?_
        first | exact k1 (isL_iff.2 (by omega)) | exact k2 (fun q => by have := isL_iff.1 q; omega)
      · refine r_iconst rfl ?_
        refine r_goto rfl ?_
        refine r_zret rfl (by omega) ?_
        first | exact k1 (isL_iff.2 (by omega)) | exact k2 (fun q => by have := isL_iff.1 q; omega)
theorem c_isDigit (hd : 1 ≤ d) (hs : Sh σ g) (hT : TxOk t) (hm : MX f t) {k : Nat} (hk : k ≤ 1000) (k1 : isD t k = true → Q (some (zi 1)) σ f g) (k2 : ¬ isD t k = true → Q (some (zi 0)) σ f g) : ZCt d 149 [zr (some 219), zi (k : Int)] σ f g Q := by
  refine ZCt.of' (L0 := [_, _]) (by omega) rfl rfl rfl (fun d hd1 => ?_)
  have hT1 := hT.1
  refine r_iload_n rfl rfl ?_
  refine r_aload_n rfl rfl ?_
  refine r_getI rfl (by first | assumption | exact hs.o rfl) hm.1 ?_
  refine r_icmp_ge rfl (by omega) (by omega) (fun h5 => ?_) (fun h5 => ?_)
  · refine r_iconst rfl ?_
    refine r_zret rfl (by omega) ?_
    first | exact k1 (isD_iff.2 (by omega)) | exact k2 (fun q => by have := isD_iff.1 q; omega)
  · refine r_aload_n rfl rfl ?_
    refine r_getR rfl (by first | assumption | exact hs.o rfl) (by first | assumption | exact hs.g rfl) ?_
    refine r_iload_n rfl rfl ?_
    refine r_bald rfl (by first | assumption | exact hs.a rfl) (by omega) (by omega) ((zix (n := k) (by omega)).trans (hm.2 k (by omega))) ?_
    refine r_bipush rfl ?_
    refine r_icmp_lt rfl (by have := hT.2 k (by omega); omega) (by omega) (fun h16 => ?_) (fun h16 => ?_)
    · refine r_iconst rfl ?_
      refine r_zret rfl (by omega) ?_
      first | exact k1 (isD_iff.2 (by omega)) | exact k2 (fun q => by have := isD_iff.1 q; omega)
    · refine r_aload_n rfl rfl ?_
      refine r_getR rfl (by first | assumption | exact hs.o rfl) (by first | assumption | exact hs.g rfl) ?_
      refine r_iload_n rfl rfl ?_
      refine r_bald rfl (by first | assumption | exact hs.a rfl) (by omega) (by omega) ((zix (n := k) (by omega)).trans (hm.2 k (by omega))) ?_
      refine r_bipush rfl ?_
      refine r_icmp_gt rfl (by have := hT.2 k (by omega); omega) (by omega) (fun h27 => ?_) (fun h27 => ?_)
      · refine r_iconst rfl ?_
        refine r_zret rfl (by omega) ?_
        first | exact k1 (isD_iff.2 (by omega)) | exact k2 (fun q => by have := isD_iff.1 q; omega)
      · refine r_iconst rfl ?_
        refine r_goto rfl ?_
        refine r_zret rfl (by omega) ?_
        first | exact k1 (isD_iff.2 (by omega)) | exact k2 (fun q => by have := isD_iff.1 q; omega)
theorem en_small {n : Nat} (h : ∀ i, i < n → 97 ≤ t.1 (p + i) ∧ t.1 (p + i) ≤ 122) (hn : n < 8) : EN (fun i => t.1 (p + i)) n < 36028797018963968 := by
  have hbd := EN_up (s := fun i => t.1 (p + i)) n (fun i hi => by have := h i hi; omega)
  rcases hbd with q | q
  · have hn8 : n = 0 ∨ n = 1 ∨ n = 2 ∨ n = 3 ∨ n = 4 ∨ n = 5 ∨ n = 6 ∨ n = 7 := by omega
    rcases hn8 with r | r | r | r | r | r | r | r <;> rw [r] at q ⊢ <;> simp at q <;> omega
  · rw [q]; show (0 : Int) < _; decide
theorem EN_up2 {s : Nat → Int} : ∀ k, (∀ i, i < k → 1 ≤ s i ∧ s i ≤ 255) → EN s k < 256 ^ k := by
  intro k
  induction k with
  | zero => intro _; show (0 : Int) < 256 ^ 0; decide
  | succ k ih =>
    intro h
    have h1 := ih (fun i hi => h i (by omega))
    have h2 := h k (by omega)
    unfold EN
    rw [Int.pow_succ]
    omega
theorem enW_small {w : List Int} (hw : wOk w) : -9223372036854775808 ≤ enW w ∧ enW w ≤ 9223372036854775807 := by
  have h1 := EN_up2 (s := fun i => w.getD i 0) w.length hw.1
  have h2 := (EN_pos (s := fun i => w.getD i 0) w.length hw.1).1
  have h3 := hw.2.1
  unfold enW
  have hn8 : w.length = 0 ∨ w.length = 1 ∨ w.length = 2 ∨ w.length = 3 ∨ w.length = 4 ∨ w.length = 5 ∨ w.length = 6 ∨ w.length = 7 := by omega
  have hp : (256 : Int) ^ w.length ≤ 72057594037927936 := by
    rcases hn8 with r | r | r | r | r | r | r | r <;> rw [r] <;> decide
  omega
theorem l_isW (hs : Sh σ g) (hT : TxOk t) {wd : List Int} (hw : wOk wd) (hm : MX f t) (h8 : f 219 8 = (p : Int)) (hp : p ≤ t.2) (k1 : wIs t p wd = true → Q (some (zi 1)) σ f g) (k2 : ¬ wIs t p wd = true → Q (some (zi 0)) σ f g) {hd1 : 1 ≤ d} (n : Nat) (v : Int) (hn : p + n ≤ t.2) (e : lE t p = lE t (p + n)) (hv : v = EN (fun i => t.1 (p + i)) (min n 8)) (hlet : ∀ i, i < n → 97 ≤ t.1 (p + i) ∧ t.1 (p + i) ≤ 122) : ZWp d zt141 10 [zr (some 219), zl (enW wd), zu, zl v, zu, zi (n : Int)] [] σ f g Q := by
  have hT1 := hT.1
  refine r_aload_n rfl rfl ?_
  refine r_aload_n rfl rfl ?_
  refine r_getI rfl (by first | assumption | exact hs.o rfl) h8 ?_
  refine r_iload rfl rfl ?_
  refine r_iadd rfl ?_
  refine r_callV1 rfl rfl (by first | assumption | exact hs.o rfl) rfl (c_isLetter (k := p + n) (by omega) hs hT hm (by omega) (fun hL => ?_) (fun hL => ?_))
  · refine r_if_n rfl (by decide) ?_
    have hlt := (isL_iff.1 hL).1
    have hlr := (isL_iff.1 hL).2
    refine r_iload rfl rfl ?_
    refine r_bipush rfl ?_
    refine r_icmp_ge rfl (by omega) (by omega) (fun h28 => ?_) (fun h28 => ?_)
    · refine r_iinc (L' := [_, _, _, _, _, _]) rfl rfl rfl ?_
      refine r_goto rfl ?_
      have e' : lE t p = lE t (p + (n + 1)) := by
        rw [e, show lE t (p + n) = _ from rE_yes hL (by omega)]
        rfl
      exact l_isW (hd1 := hd1) hs hT hw hm h8 hp k1 k2 (n + 1) v (by omega) e' (by rw [hv, show min n 8 = 8 by omega, show min (n + 1) 8 = 8 by omega]) (all_succ hlet (by omega))
    · refine r_lload_n rfl rfl ?_
      refine r_bipush rfl ?_
      refine r_lshl rfl ?_
      refine r_aload_n rfl rfl ?_
      refine r_getR rfl (by first | assumption | exact hs.o rfl) (by first | assumption | exact hs.g rfl) ?_
      refine r_aload_n rfl rfl ?_
      refine r_getI rfl (by first | assumption | exact hs.o rfl) h8 ?_
      refine r_iload rfl rfl ?_
      refine r_iadd rfl ?_
      refine r_bald rfl (by first | assumption | exact hs.a rfl) (by omega) (by omega) ((zix (n := p + n) (by omega)).trans (hm.2 (p + n) (by omega))) ?_
      refine r_i2l rfl (by have := hT.2 (p + n) (by omega); omega) ?_
      refine r_lor rfl ?_
      refine r_lstore_n (L' := [_, _, _, _, _, _]) rfl rfl rfl ?_
      refine r_iinc (L' := [_, _, _, _, _, _]) rfl rfl rfl ?_
      refine r_goto rfl ?_
      have e' : lE t p = lE t (p + (n + 1)) := by
        rw [e, show lE t (p + n) = _ from rE_yes hL (by omega)]
        rfl
      have hv' : z_lor (z_lshl v 8) (t.1 (p + n)) = EN (fun i => t.1 (p + i)) (min (n + 1) 8) := by
        rw [show min (n + 1) 8 = (min n 8) + 1 by omega, show min n 8 = n by omega]
        show _ = 256 * EN (fun i => t.1 (p + i)) n + t.1 (p + n)
        rw [show min n 8 = n by omega] at hv
        have hbd := EN_up (s := fun i => t.1 (p + i)) n (fun i hi => by have := hlet i hi; omega)
        have hpo := (EN_pos (s := fun i => t.1 (p + i)) n (fun i hi => by have := hlet i hi; omega)).1
        have hb2 : EN (fun i => t.1 (p + i)) n < 36028797018963968 := by
          rcases hbd with q | q
          · have hn8 : n = 0 ∨ n = 1 ∨ n = 2 ∨ n = 3 ∨ n = 4 ∨ n = 5 ∨ n = 6 ∨ n = 7 := by omega
            rcases hn8 with r | r | r | r | r | r | r | r <;> rw [r] at q ⊢ <;> simp at q <;> omega
          · rw [q]; show (0 : Int) < _; decide
        rw [hv]
        obtain ⟨u, hu⟩ := Int.eq_ofNat_of_zero_le hpo
        obtain ⟨c, hc⟩ := Int.eq_ofNat_of_zero_le (show 0 ≤ t.1 (p + n) by omega)
        rw [hu, hc, z_lshl8 (by omega), z_lor_nat (by omega) (by omega), or8 u c (by omega)]
        omega
      exact l_isW (hd1 := hd1) hs hT hw hm h8 hp k1 k2 (n + 1) _ (by omega) e' hv' (all_succ hlet (by omega))
  · refine r_if_y rfl (by decide) ?_
    refine r_iload rfl rfl ?_
    refine r_if_le rfl (by omega) (fun h58 => ?_) (fun h58 => ?_)
    · refine r_iconst rfl ?_
      refine r_zret rfl (by omega) ?_
      have en : lE t p - p = n := by
        have e8 : lE t (p + n) = p + n := lE_no (by cases hz : isL t (p + n) with
          | false => rfl
          | true => exact absurd hz hL)
        omega
      exact k2 (fun q => by have := (wIs_en hw).1 q; omega)
    · refine r_iload rfl rfl ?_
      refine r_bipush rfl ?_
      refine r_icmp_ge rfl (by omega) (by omega) (fun h65 => ?_) (fun h65 => ?_)
      · refine r_iconst rfl ?_
        refine r_zret rfl (by omega) ?_
        have en : lE t p - p = n := by
          have e8 : lE t (p + n) = p + n := lE_no (by cases hz : isL t (p + n) with
            | false => rfl
            | true => exact absurd hz hL)
          omega
        exact k2 (fun q => by have := (wIs_en hw).1 q; omega)
      · refine r_lload_n rfl rfl ?_
        refine r_lload_n rfl rfl ?_
        refine r_lcmpK rfl (by rw [hv, show min n 8 = n by omega]; have hpo := (EN_pos (s := fun i => t.1 (p + i)) n (fun i hi => by have := hlet i hi; omega)).1; have hb2 := en_small hlet (by omega); omega) (by have := enW_small hw; omega) (fun w70 e70a e70b e70c => ?_)
        refine r_if_ne rfl (by omega) (fun h71 => ?_) (fun h71 => ?_)
        · refine r_iconst rfl ?_
          refine r_zret rfl (by omega) ?_
          have en : lE t p - p = n := by
            have e8 : lE t (p + n) = p + n := lE_no (by cases hz : isL t (p + n) with
              | false => rfl
              | true => exact absurd hz hL)
            omega
          refine k2 (fun q => ?_)
          have q3 := ((wIs_en hw).1 q).2.2
          rw [en] at q3
          rw [hv, show min n 8 = n by omega, q3] at e70c
          exact h71 (e70c.2 rfl)
        · refine r_iconst rfl ?_
          refine r_goto rfl ?_
          refine r_zret rfl (by omega) ?_
          have en : lE t p - p = n := by
            have e8 : lE t (p + n) = p + n := lE_no (by cases hz : isL t (p + n) with
              | false => rfl
              | true => exact absurd hz hL)
            omega
          refine k1 ((wIs_en hw).2 ⟨by omega, by omega, ?_⟩)
          rw [en]
          rw [hv, show min n 8 = n by omega] at e70c
          exact e70c.1 h71
termination_by t.2 - (p + n)
theorem c_isWordE (hd : 2 ≤ d) (hs : Sh σ g) (hT : TxOk t) {wd : List Int} (hw : wOk wd) (h : NX f t p) (k1 : wIs t p wd = true → Q (some (zi 1)) σ (up2 f 219 8 (p : Int)) g) (k2 : ¬ wIs t p wd = true → Q (some (zi 0)) σ (up2 f 219 8 (p : Int)) g) : ZCt d 141 [zr (some 219), zl (enW wd)] σ f g Q := by
  refine ZCt.of' (L0 := [_, _, _, _, _, _]) (by omega) rfl rfl rfl (fun d hd1 => ?_)
  refine r_aload_n rfl rfl ?_
  refine r_callV0 rfl rfl (by first | assumption | exact hs.o rfl) rfl (c_see (by omega) hs hT h ?_)
  refine r_popi rfl ?_
  refine r_lconst rfl ?_
  refine r_lstore_n (L' := [_, _, _, _, _, _]) rfl rfl rfl ?_
  refine r_iconst rfl ?_
  refine r_istore (L' := [_, _, _, _, _, _]) rfl rfl rfl ?_
  exact l_isW (hd1 := by omega) hs hT hw h.now.mx (up2_same _ _ _ _) h.le k1 k2 0 0 (by have := h.le; omega) rfl rfl (fun i hi => by omega)
theorem c_isWord (hd : 2 ≤ d) (hs : Sh σ g) (hT : TxOk t) {wd : List Int} (hw : wOk wd) {W : Int} (hW : enW wd = W) (h : NX f t p) (k1 : wIs t p wd = true → Q (some (zi 1)) σ (up2 f 219 8 (p : Int)) g) (k2 : ¬ wIs t p wd = true → Q (some (zi 0)) σ (up2 f 219 8 (p : Int)) g) : ZCt d 141 [zr (some 219), zl W] σ f g Q := by
  subst hW
  exact c_isWordE hd hs hT hw h k1 k2
theorem l_pw (hs : Sh σ g) (hT : TxOk t) (q : Nat) (hq : q ≤ t.2) (f : ZF) (hm : MX f t) (h8 : f 219 8 = (q : Int)) {r : Nat} {hd1 : 1 ≤ d} (e : lE t q = r) (K : Q none σ (up2 f 219 8 (r : Int)) g) : ZWp d zt146 0 [zr (some 219)] [] σ f g Q := by
  have hT1 := hT.1
  refine r_aload_n rfl rfl ?_
  refine r_aload_n rfl rfl ?_
  refine r_getI rfl (by first | assumption | exact hs.o rfl) h8 ?_
  refine r_callV1 rfl rfl (by first | assumption | exact hs.o rfl) rfl (c_isLetter (k := q) (by omega) hs hT hm (by omega) (fun hL => ?_) (fun hL => ?_))
  · refine r_if_n rfl (by decide) ?_
    refine r_aload_n rfl rfl ?_
    refine r_dupr rfl ?_
    refine r_getI rfl (by first | assumption | exact hs.o rfl) h8 ?_
    refine r_iconst rfl ?_
    refine r_iadd rfl ?_
    refine r_putI rfl (by first | assumption | exact hs.o rfl) ?_
    refine r_goto rfl ?_
    have hlt := (isL_iff.1 hL).1
    refine l_pw (r := r) hs hT (q + 1) (by omega) (up2 f 219 8 ((q : Int) + 1)) (hm.up (by omega)) ((up2_same _ _ _ _).trans (by omega)) (hd1 := hd1) (by rw [← e]; exact (show lE t q = _ from rE_yes hL hlt).symm) ?_
    rw [up2_up2]
    exact K
  · refine r_if_y rfl (by decide) ?_
    refine r_ret rfl ?_
    have eq : lE t q = q := lE_no (by cases hz : isL t q with
      | false => rfl
      | true => exact absurd hz hL)
    rw [← e, eq, up2_self f h8] at K
    exact K
termination_by t.2 - q
theorem c_passWord (hd : 2 ≤ d) (hs : Sh σ g) (hT : TxOk t) (hm : MX f t) (h8 : f 219 8 = (q : Int)) (hq : q ≤ t.2) (K : Q none σ (up2 f 219 8 ((lE t q : Nat) : Int)) g) : ZCt d 146 [zr (some 219)] σ f g Q := by
  refine ZCt.of' (L0 := [_]) (by omega) rfl rfl rfl (fun d hd1 => ?_)
  exact l_pw (hd1 := by omega) hs hT q hq f hm h8 rfl K
theorem c_takesWord (hd : 3 ≤ d) (hs : Sh σ g) (hT : TxOk t) {wd : List Int} (hw : wOk wd) {W : Int} (hW : enW wd = W) (h : NX f t p) (k1 : wIs t p wd = true → Q (some (zi 1)) σ (up2 f 219 8 ((lE t p : Nat) : Int)) g) (k2 : ¬ wIs t p wd = true → Q (some (zi 0)) σ (up2 f 219 8 (p : Int)) g) : ZCt d 163 [zr (some 219), zl W] σ f g Q := by
  refine ZCt.of' (L0 := [_, _, _]) (by omega) rfl rfl rfl (fun d hd1 => ?_)
  refine r_aload_n rfl rfl ?_
  refine r_lload_n rfl rfl ?_
  refine r_callV1 rfl rfl (by first | assumption | exact hs.o rfl) rfl (c_isWord (by omega) hs hT hw hW h (fun hwd => ?_) (fun hwd => ?_))
  · refine r_if_y rfl (by decide) ?_
    refine r_aload_n rfl rfl ?_
    refine r_callV0 rfl rfl (by first | assumption | exact hs.o rfl) rfl (c_passWord (q := p) (by omega) hs hT h.now.mx (up2_same _ _ _ _) h.le ?_)
    refine r_iconst rfl ?_
    refine r_zret rfl (by omega) ?_
    first | exact k2 hwd | (rw [up2_up2]; exact k1 hwd)
  · refine r_if_n rfl (by decide) ?_
    refine r_iconst rfl ?_
    refine r_zret rfl (by omega) ?_
    first | exact k2 hwd | (rw [up2_up2]; exact k1 hwd)
theorem c_fails (hd : 1 ≤ d) (hs : Sh σ g) (h0 : f 219 9 = 0) {k : Int} (K : Q (some (zi 0)) σ (up2 f 219 9 (err p k)) g) : ZCt d 143 [zr (some 219), zi k, zi (p : Int)] σ f g Q := by
  refine ZCt.of' (L0 := [_, _, _]) (by omega) rfl rfl rfl (fun d hd1 => ?_)
  refine r_aload_n rfl rfl ?_
  refine r_getI rfl (by first | assumption | exact hs.o rfl) h0 ?_
  refine r_if_ne rfl (by omega) (fun h4 => ?_) (fun h4 => ?_)
  · exact absurd rfl h4
  · refine r_aload_n rfl rfl ?_
    refine r_iconst rfl ?_
    refine r_bipush rfl ?_
    refine r_iload_n rfl rfl ?_
    refine r_imul rfl ?_
    refine r_iadd rfl ?_
    refine r_iload_n rfl rfl ?_
    refine r_iadd rfl ?_
    refine r_putI rfl (by first | assumption | exact hs.o rfl) ?_
    refine r_iconst rfl ?_
    refine r_zret rfl (by omega) ?_
    rw [show (1 + 8 * (p : Int) + k) = err p k from rfl]
    exact K
def FrN8 (f f' : ZF) : Prop := (∀ c, c ≠ 219 → f' c = f c) ∧ ∀ i, i ≠ 8 → f' 219 i = f 219 i
theorem l_nh (hd1 : 1 ≤ d) (hs : Sh σ g) (hT : TxOk t) {f0 : ZF} {x y : Int} {r : Nat} (K : ∀ f, MX f t → f 219 8 = (r : Int) → FrN8 f0 f → ZWp d zt148 88 [zr (some 219), zi x, zi y, zi (p : Int), zi (num t p (min (r - p) 5))] [] σ f g Q) (q : Nat) (hpq : p ≤ q) (hq : q ≤ t.2) (f : ZF) (v : Int) (hm : MX f t) (h8 : f 219 8 = (q : Int)) (e : dE t q = r) (hv : v = num t p (min (q - p) 5)) (hf : FrN8 f0 f) : ZWp d zt148 34 [zr (some 219), zi x, zi y, zi (p : Int), zi v] [] σ f g Q := by
  have hT1 := hT.1
  refine r_aload_n rfl rfl ?_
  refine r_aload_n rfl rfl ?_
  refine r_getI rfl (by first | assumption | exact hs.o rfl) h8 ?_
  refine r_callV1 rfl rfl (by first | assumption | exact hs.o rfl) rfl (c_isDigit (k := q) (by omega) hs hT hm (by omega) (fun hD => ?_) (fun hD => ?_))
  · refine r_if_n rfl (by decide) ?_
    have hlt := (isD_iff.1 hD).1
    have hlr := (isD_iff.1 hD).2
    refine r_aload_n rfl rfl ?_
    refine r_getI rfl (by first | assumption | exact hs.o rfl) h8 ?_
    refine r_iload_n rfl rfl ?_
    refine r_isub rfl ?_
    refine r_iconst rfl ?_
    refine r_icmp_ge rfl (by omega) (by omega) (fun h52 => ?_) (fun h52 => ?_)
    · refine r_aload_n rfl rfl ?_
      refine r_dupr rfl ?_
      refine r_getI rfl (by first | assumption | exact hs.o rfl) h8 ?_
      refine r_iconst rfl ?_
      refine r_iadd rfl ?_
      refine r_putI rfl (by first | assumption | exact hs.o rfl) ?_
      refine r_goto rfl ?_
      refine l_nh hd1 hs hT K (q + 1) (by omega) (by omega) _ _ (hm.up (by omega)) ((up2_same _ _ _ _).trans (by omega)) (by rw [← e]; exact (show dE t q = _ from rE_yes hD hlt).symm) (by rw [hv, show min (q - p) 5 = 5 by omega, show min (q + 1 - p) 5 = 5 by omega]) ?_
      exact ⟨fun c q1 => (up2_o _ _ q1).trans (hf.1 c q1), fun i q1 => (up2_ne _ _ (by omega)).trans (hf.2 i q1)⟩
    · refine r_bipush rfl ?_
      refine r_iload rfl rfl ?_
      refine r_imul rfl ?_
      refine r_aload_n rfl rfl ?_
      refine r_getR rfl (by first | assumption | exact hs.o rfl) (by first | assumption | exact hs.g rfl) ?_
      refine r_aload_n rfl rfl ?_
      refine r_getI rfl (by first | assumption | exact hs.o rfl) h8 ?_
      refine r_bald rfl (by first | assumption | exact hs.a rfl) (by omega) (by omega) ((zix (n := q) (by omega)).trans (hm.2 q (by omega))) ?_
      refine r_iadd rfl ?_
      refine r_bipush rfl ?_
      refine r_isub rfl ?_
      refine r_istore (L' := [_, _, _, _, _]) rfl rfl rfl ?_
      refine r_aload_n rfl rfl ?_
      refine r_dupr rfl ?_
      refine r_getI rfl (by first | assumption | exact hs.o rfl) h8 ?_
      refine r_iconst rfl ?_
      refine r_iadd rfl ?_
      refine r_putI rfl (by first | assumption | exact hs.o rfl) ?_
      refine r_goto rfl ?_
      refine l_nh hd1 hs hT K (q + 1) (by omega) (by omega) _ _ (hm.up (by omega)) ((up2_same _ _ _ _).trans (by omega)) (by rw [← e]; exact (show dE t q = _ from rE_yes hD hlt).symm) (by rw [hv, show min (q + 1 - p) 5 = (min (q - p) 5) + 1 by omega, show min (q - p) 5 = q - p by omega]; show _ = 10 * num t p (q - p) + t.1 (p + (q - p)) - 48; rw [show p + (q - p) = q by omega]) ?_
      exact ⟨fun c q1 => (up2_o _ _ q1).trans (hf.1 c q1), fun i q1 => (up2_ne _ _ (by omega)).trans (hf.2 i q1)⟩
  · refine r_if_y rfl (by decide) ?_
    have eq : dE t q = q := dE_no (by cases hz : isD t q with
      | false => rfl
      | true => exact absurd hz hD)
    rw [eq] at e
    subst e
    rw [hv]
    exact K f hm h8 hf
termination_by t.2 - q
def FrN1 (f f' : ZF) : Prop := (∀ c, c ≠ 219 → f' c = f c) ∧ ∀ i, i ≠ 8 → i ≠ 10 → f' 219 i = f 219 i
def FrNB (f f' : ZF) : Prop := (∀ c, c ≠ 219 → f' c = f c) ∧ ∀ i, i ≠ 8 → i ≠ 10 → i ≠ 9 → f' 219 i = f 219 i
theorem c_numberHere (hd : 2 ≤ d) (hs : Sh σ g) (hT : TxOk t) (h : NX f t p) (h0 : f 219 9 = 0) {lo hi : Int} (hlo : IR lo) (hhi : IR hi) (k1 : ∀ p1 v, dNum t lo hi (fun _ => false) p = .inr (p1, v) → ∀ f', FrN1 f f' → NX f' t p1 → f' 219 10 = v → Q (some (zi 1)) σ f' g) (k2 : ∀ e, dNum t lo hi (fun _ => false) p = .inl e → ∀ f', FrNB f f' → f' 219 9 = e → Q (some (zi 0)) σ f' g) : ZCt d 148 [zr (some 219), zi lo, zi hi] σ f g Q := by
  refine ZCt.of' (L0 := [_, _, _, _, _]) (by omega) rfl rfl rfl (fun d hd1 => ?_)
  have hT1 := hT.1
  refine r_aload_n rfl rfl ?_
  refine r_callV0 rfl rfl (by first | assumption | exact hs.o rfl) rfl (c_see (by omega) hs hT h ?_)
  refine r_popi rfl ?_
  refine r_aload_n rfl rfl ?_
  refine r_aload_n rfl rfl ?_
  refine r_getI rfl (by first | assumption | exact hs.o rfl) (up2_same _ _ _ _) ?_
  refine r_callV1 rfl rfl (by first | assumption | exact hs.o rfl) rfl (c_isDigit (k := p) (by omega) hs hT h.now.mx (by have := h.le; omega) (fun hD => ?_) (fun hD => ?_))
  · refine r_if_y rfl (by decide) ?_
    refine r_aload_n rfl rfl ?_
    refine r_getI rfl (by first | assumption | exact hs.o rfl) (up2_same _ _ _ _) ?_
    refine r_istore_n (L' := [_, _, _, _, _]) rfl rfl rfl ?_
    refine r_iconst rfl ?_
    refine r_istore (L' := [_, _, _, _, _]) rfl rfl rfl ?_
    refine l_nh (p := p) (f0 := up2 f 219 8 (p : Int)) (by omega) hs hT (r := dE t p) (fun f1 hm h8 hf => ?_) p (Nat.le_refl p) h.le _ 0 h.now.mx (up2_same _ _ _ _) rfl (by rw [show min (p - p) 5 = 0 by omega]; rfl) ⟨fun c _ => rfl, fun i _ => rfl⟩
    have hdl := dE_le h.le
    have hdg := dE_ge t p
    refine r_aload_n rfl rfl ?_
    refine r_iload rfl rfl ?_
    refine r_putI rfl (by first | assumption | exact hs.o rfl) ?_
    refine r_aload_n rfl rfl ?_
    refine r_getI rfl (by first | assumption | exact hs.o rfl) ((up2_ne _ _ (by omega)).trans h8) ?_
    refine r_iload_n rfl rfl ?_
    refine r_isub rfl ?_
    refine r_iconst rfl ?_
    refine r_icmp_gt rfl (by omega) (by omega) (fun h101 => ?_) (fun h101 => ?_)
    · refine r_aload_n rfl rfl ?_
      refine r_iconst rfl ?_
      refine r_iload_n rfl rfl ?_
      refine r_callV2 rfl rfl (by first | assumption | exact hs.o rfl) rfl (c_fails (p := p) (by omega) hs (by rw [up2_ne _ _ (by omega), hf.2 9 (by omega), up2_ne _ _ (by omega)]; exact h0) ?_)
      refine r_if_y rfl (by decide) ?_
      refine r_iconst rfl ?_
      refine r_zret rfl (by omega) ?_
      refine k2 _ (dNum_bad hD (fun z => by omega)) _ ⟨fun c q => by rw [up2_o _ _ q, up2_o _ _ q, hf.1 c q, up2_o _ _ q], fun i q1 q2 q3 => by rw [up2_ne _ _ (by omega), up2_ne _ _ (by omega), hf.2 i q1, up2_ne _ _ (by omega)]⟩ (up2_same _ _ _ _)
    · refine r_iload rfl rfl ?_
      refine r_i2l rfl (by have := num_ok (t := t) (p := p) (by omega); rw [show min (dE t p - p) 5 = dE t p - p by omega]; omega) ?_
      refine r_iload_n rfl rfl ?_
      refine r_i2l rfl (by omega) ?_
      refine r_iload_n rfl rfl ?_
      refine r_i2l rfl (by omega) ?_
      refine r_callS3 rfl rfl rfl (c_in (by omega) (by have := num_ok (t := t) (p := p) (by omega); rw [show min (dE t p - p) 5 = dE t p - p by omega]; omega) (by omega) (by omega) (fun hin => ?_) (fun hin => ?_))
      · refine r_if_y rfl (by decide) ?_
        refine r_iconst rfl ?_
        refine r_goto rfl ?_
        refine r_zret rfl (by omega) ?_
        rw [show min (dE t p - p) 5 = dE t p - p by omega] at hin
        refine k1 _ _ (dNum_yes hD ⟨by omega, hin, rfl⟩) _ ⟨fun c q => by rw [up2_o _ _ q, hf.1 c q, up2_o _ _ q], fun i q1 q2 => by rw [up2_ne _ _ (by omega), hf.2 i q1, up2_ne _ _ (by omega)]⟩ ⟨hm.up (by omega), dE t p, (up2_ne _ _ (by omega)).trans h8, dE_le h.le, rfl⟩ ?_
        rw [up2_same, show min (dE t p - p) 5 = dE t p - p by omega]
      · refine r_if_n rfl (by decide) ?_
        refine r_aload_n rfl rfl ?_
        refine r_iconst rfl ?_
        refine r_iload_n rfl rfl ?_
        refine r_callV2 rfl rfl (by first | assumption | exact hs.o rfl) rfl (c_fails (p := p) (by omega) hs (by rw [up2_ne _ _ (by omega), hf.2 9 (by omega), up2_ne _ _ (by omega)]; exact h0) ?_)
        refine r_if_y rfl (by decide) ?_
        refine r_iconst rfl ?_
        refine r_zret rfl (by omega) ?_
        refine k2 _ (dNum_bad hD (fun z => by rw [show min (dE t p - p) 5 = dE t p - p by omega] at hin; exact hin z.2.1)) _ ⟨fun c q => by rw [up2_o _ _ q, up2_o _ _ q, hf.1 c q, up2_o _ _ q], fun i q1 q2 q3 => by rw [up2_ne _ _ (by omega), up2_ne _ _ (by omega), hf.2 i q1, up2_ne _ _ (by omega)]⟩ (up2_same _ _ _ _)
  · refine r_if_n rfl (by decide) ?_
    refine r_aload_n rfl rfl ?_
    refine r_iconst rfl ?_
    refine r_aload_n rfl rfl ?_
    refine r_getI rfl (by first | assumption | exact hs.o rfl) (up2_same _ _ _ _) ?_
    refine r_callV2 rfl rfl (by first | assumption | exact hs.o rfl) rfl (c_fails (p := p) (by omega) hs (by rw [up2_ne _ _ (by omega)]; exact h0) ?_)
    refine r_zret rfl (by omega) ?_
    exact k2 _ (dNum_no hD) _ ⟨fun c q => by rw [up2_o _ _ q, up2_o _ _ q], fun i q1 q2 q3 => by rw [up2_ne _ _ (by omega), up2_ne _ _ (by omega)]⟩ (up2_same _ _ _ _)
end MLEX
