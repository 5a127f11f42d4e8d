/-! Who is let off, in both programs -/
def ocF (rd : Rd) : Nat → Nat → Bool
  | 0, _ => false
  | k + 1, c => ocF rd k c || c == (rd 0 k).toNat && decide (rd 0 k ≠ -1)
theorem cnt_add {p : Nat → Bool} {c : Nat} (hp : p c = false) : ∀ k, cnt (fun i => p i || i == c) k = cnt p k + (if c < k then 1 else 0) := by
  intro k
  induction k with
  | zero => simp [cnt]
  | succ k ih =>
    simp only [cnt]
    rw [ih]
    by_cases e : k = c
    · subst e
      simp [hp]
    · have e1 : (k == c) = false := by simp [e]
      have e2 : (if c < k + 1 then (1 : Int) else 0) = if c < k then 1 else 0 := by
        by_cases h : c < k
        · rw [if_pos h, if_pos (by omega)]
        · rw [if_neg h, if_neg (by omega)]
      rw [e2]
      simp only [e1, Bool.or_false]
      generalize (if c < k then (1 : Int) else 0) = u
      generalize (if p k = true then (1 : Int) else 0) = v
      omega
theorem ocF_iff (rd : Rd) : ∀ k c, ocF rd k c = true ↔ ∃ j, j < k ∧ rd 0 j ≠ -1 ∧ c = (rd 0 j).toNat := by
  intro k
  induction k with
  | zero => intro c; simp [ocF]
  | succ k ih =>
    intro c
    simp only [ocF, Bool.or_eq_true, Bool.and_eq_true, decide_eq_true_eq, beq_iff_eq, ih]
    constructor
    · intro h
      rcases h with ⟨j, h1, h2⟩ | ⟨h1, h2⟩
      · exact ⟨j, by omega, h2⟩
      · exact ⟨k, by omega, h2, h1⟩
    · intro ⟨j, h1, h2, h3⟩
      by_cases e : j = k
      · subst e; exact Or.inr ⟨h3, h2⟩
      · exact Or.inl ⟨j, by omega, h2, h3⟩
section LETOFF
variable {d : Nat} {σ : ZS} {f : ZF} {g : ZG} {Q : ZQ} {n m N : Int} {rd : Rd} {r p : Nat} {pl : Pl}
theorem cnt_ocF (ho : RdOk n m N rd) (hdj : RdDj rd) : ∀ k, k ≤ 6 → cnt (ocF rd k) 20 = rOns rd k := by
  intro k
  induction k with
  | zero => intro _; rfl
  | succ k ih =>
    intro hk
    have h1 := ho.2.2.1 k (by omega)
    have h0 := ho.1
    simp only [rOns]
    rw [← ih (by omega)]
    by_cases e : rd 0 k = -1
    · rw [if_pos e, Int.add_zero]
      apply cnt_congr
      intro i hi
      simp [ocF, e]
    · rw [if_neg e]
      have hf : ocF rd k (rd 0 k).toNat = false := by
        cases q : ocF rd k (rd 0 k).toNat with
        | false => rfl
        | true =>
          obtain ⟨j, q1, q2, q3⟩ := (ocF_iff rd k _).1 q
          have hj := ho.2.2.1 j (by omega)
          have := hdj j k (by omega) (by omega) (by omega) (by omega)
          omega
      have := cnt_add hf 20
      rw [if_pos (by omega)] at this
      rw [← this]
      apply cnt_congr
      intro i hi
      simp [ocF, e]
theorem cnt_oc (ho : RdOk n m N rd) (hdj : RdDj rd) : cnt (rOc rd) 20 = rOns rd 6 := by
  rw [← cnt_ocF ho hdj 6 (by omega)]
  apply cnt_congr
  intro i hi
  have h : rOc rd i = true ↔ ocF rd 6 i = true := by
    rw [ocF_iff, decide_eq_true_eq]
    constructor
    · intro h
      apply Classical.byContradiction
      intro hn
      apply h
      intro k hk e
      have := ho.2.2.1 k hk
      exact hn ⟨k, hk, by omega, by omega⟩
    · intro ⟨j, q1, q2, q3⟩ h
      have := ho.2.2.1 j q1
      exact h j q1 (by omega)
  cases q : rOc rd i <;> cases q' : ocF rd 6 i <;> simp [q, q'] at h <;> rfl
theorem beh_eq {c n k : Int} (hc : 0 ≤ c ∧ c < n) (hk : 1 ≤ k ∧ k < n) : (if c - k < 0 then c - k + n else c - k) = (c + n - k) % n := by
  by_cases h : c - k < 0
  · rw [if_pos h, Int.emod_eq_of_lt (by omega) (by omega)]; omega
  · rw [if_neg h, show c + n - k = (c - k) + n by omega, Int.add_emod_right, Int.emod_eq_of_lt (by omega) (by omega)]
theorem l_behM (hd1 : 2 ≤ d) (hs : Sh σ g) (hm : MRd (f 229) rd) (ho : RdOk n m N rd) (h1 : f 229 1 = n) {k : Nat} (hk : k < 6) (h0 : 0 ≤ rd 0 k) (hc : f 229 (13 + 5 * k) = rd 0 k) (hb : 0 ≤ rd 0 k ∧ rd 0 k < n ∧ 3 ≤ n ∧ n ≤ 20) (j e : Nat) (he : 1 ≤ e) (hje : ((j + e : Nat) : Int) = n) (K : Q (some (zi (rBehF n rd (rd 0 k) j e))) σ f g) : ZWp d zt195 2 [zr (some 219), zi (k : Int), zi (e : Int)] [] σ f g Q := by
  refine r_iload_n rfl rfl ?_
  refine r_aload_n rfl rfl ?_
  refine r_getR rfl (by first | assumption | exact hs.o rfl) (by first | assumption | exact hs.g rfl) ?_
  refine r_iconst rfl ?_
  refine r_iald rfl (by first | assumption | exact hs.a rfl) (by omega) (by omega) ((zix (n := 1) rfl).trans h1) ?_
  refine r_icmp_ge rfl (by omega) (by omega) (fun hlt => ?_) (fun hlt => ?_)
  · have e0 : j = 0 := by omega
    refine r_aload_n rfl rfl ?_
    refine r_getR rfl (by first | assumption | exact hs.o rfl) (by first | assumption | exact hs.g rfl) ?_
    refine r_iconst rfl ?_
    refine r_iald rfl (by first | assumption | exact hs.a rfl) (by omega) (by omega) ((zix (n := 1) rfl).trans h1) ?_
    refine r_iret rfl ?_
    subst e0
    exact K
  · refine r_aload_n rfl rfl ?_
    refine r_aload_n rfl rfl ?_
    refine r_iload_n rfl rfl ?_
    refine r_callV1 rfl rfl (by first | assumption | exact hs.o rfl) rfl (c_cellOf (by omega) hs (by omega) ?_)
    rw [hc]
    refine r_aload_n rfl rfl ?_
    refine r_getR rfl (by first | assumption | exact hs.o rfl) (by first | assumption | exact hs.g rfl) ?_
    refine r_iconst rfl ?_
    refine r_iald rfl (by first | assumption | exact hs.a rfl) (by omega) (by omega) ((zix (n := 1) rfl).trans h1) ?_
    refine r_iadd rfl ?_
    refine r_iload_n rfl rfl ?_
    refine r_isub rfl ?_
    refine r_aload_n rfl rfl ?_
    refine r_getR rfl (by first | assumption | exact hs.o rfl) (by first | assumption | exact hs.g rfl) ?_
    refine r_iconst rfl ?_
    refine r_iald rfl (by first | assumption | exact hs.a rfl) (by omega) (by omega) ((zix (n := 1) rfl).trans h1) ?_
    refine r_irem rfl (by omega) (by omega) (by omega) ?_
    rw [Int.tmod_eq_emod_of_nonneg (by omega)]
    have hm1 := Int.emod_nonneg (rd 0 k + n - (e : Int)) (show n ≠ 0 by omega)
    have hm2 := Int.emod_lt_of_pos (rd 0 k + n - (e : Int)) (show 0 < n by omega)
    refine r_callV1 rfl rfl (by first | assumption | exact hs.o rfl) rfl (c_carIn (by omega) hs hm ho (by omega) (fun t ht htc => ?_) (fun hno => ?_))
    · refine r_if_lt rfl (by omega) (fun h37 => ?_) (fun h37 => ?_)
      · exfalso; omega
      · refine r_iload_n rfl rfl ?_
        refine r_iret rfl ?_
        obtain ⟨j, rfl⟩ : ∃ i, j = i + 1 := ⟨j - 1, by omega⟩
        simp only [rBehF] at K
        rw [if_neg (fun q => q t ht htc)] at K
        exact K
    · refine r_if_y rfl (by decide) ?_
      refine r_iinc (L' := [_, _, _]) rfl rfl rfl ?_
      refine r_goto rfl ?_
      obtain ⟨j, rfl⟩ : ∃ i, j = i + 1 := ⟨j - 1, by omega⟩
      refine l_behM hd1 hs hm ho h1 hk h0 hc hb j (e + 1) (by omega) (by omega) ?_
      simp only [rBehF] at K
      rw [if_pos hno] at K
      exact K
termination_by j
theorem c_behindOf (hd : 3 ≤ d) (hs : Sh σ g) (hm : MRd (f 229) rd) (ho : RdOk n m N rd) (h1 : f 229 1 = n) {k : Nat} (hk : k < 6) (h0 : 0 ≤ rd 0 k) (hc : f 229 (13 + 5 * k) = rd 0 k) (K : Q (some (zi (rBeh n rd (rd 0 k)))) σ f g) : ZCt d 195 [zr (some 219), zi (k : Int)] σ f g Q := by
  refine ZCt.of' (L0 := [_, _, _]) (by omega) rfl rfl rfl (fun d hd1 => ?_)
  refine r_iconst rfl ?_
  refine r_istore_n (L' := [_, _, _]) rfl rfl rfl ?_
  exact l_behM (by omega) hs hm ho h1 hk h0 hc (by have := ho.1; have := ho.2.2.1 k hk; omega) (n.toNat - 1) 1 (by omega) (by have := ho.1; omega) K
theorem l_behC (hd1 : 0 ≤ d) (hr : RO σ g r) (hO : zO σ 22 0) (hgp : g 22 0 = some p) (hpO : PO σ g p) (hpc : PC f p pl) (h : RC f r rd) {c : Int} (hb : 0 ≤ c ∧ c < pl.1 ∧ 3 ≤ pl.1 ∧ pl.1 ≤ 20) {x4 : ZV} (j e : Nat) (he : 1 ≤ e) (hje : ((j + e : Nat) : Int) = pl.1) (K : Q (some (zi (rBehF pl.1 rd c j e))) σ f g) : ZWp d zt65 2 [zr (some 22), zr (some r), zi c, zi (e : Int), x4] [] σ f g Q := by
  have hr' := hr
  obtain ⟨oo, ⟨a1, a2, a3, a4, a5⟩, g0, g1, g2, g3, g4⟩ := hr
  have hpo' := hpO
  obtain ⟨po, ⟨pa1, pa2⟩, ⟨pg3, pg4, pg5⟩, -⟩ := hpO
  have hbe := beh_eq (c := c) (n := pl.1) (k := (e : Int)) ⟨hb.1, hb.2.1⟩
  have step2 : (e : Int) < pl.1 → ∀ b : Int, b = (c + pl.1 - (e : Int)) % pl.1 → ZWp d zt65 36 [zr (some 22), zr (some r), zi c, zi (e : Int), x4] [zi b] σ f g Q := by
    intro hlt b hbb
    have hm1 := Int.emod_nonneg (c + pl.1 - (e : Int)) (show pl.1 ≠ 0 by omega)
    have hm2 := Int.emod_lt_of_pos (c + pl.1 - (e : Int)) (show 0 < pl.1 by omega)
    rw [← hbb] at hm1 hm2
    obtain ⟨b', rfl⟩ := Int.eq_ofNat_of_zero_le hm1
    have ht := h.taken.test (c := b') (by omega)
    obtain ⟨j, rfl⟩ : ∃ i, j = i + 1 := ⟨j - 1, by omega⟩
    simp only [rBehF, ← hbb] at K
    refine r_istore (L' := [_, _, _, _, _]) rfl rfl rfl ?_
    refine r_aload_n rfl rfl ?_
    refine r_getI rfl (by first | assumption | exact hs.o rfl) rfl ?_
    refine r_iload rfl rfl ?_
    refine r_ishr rfl ?_
    refine r_iconst rfl ?_
    refine r_iand rfl ?_
    refine r_iconst rfl ?_
    refine r_icmp_ne rfl (z_and_rng _ _) (by omega) (fun hb1 => ?_) (fun hb1 => ?_)
    · refine r_iinc (L' := [_, _, _, _, _]) rfl rfl rfl ?_
      refine r_goto rfl ?_
      rw [ht] at hb1
      have hno : rNo rd (b' : Int) := by
        apply Classical.byContradiction
        intro q
        exact hb1 (by rw [if_pos (decide_eq_true q)])
      rw [if_pos hno] at K
      exact l_behC hd1 hr' hO hgp hpo' hpc h hb j (e + 1) (by omega) (by omega) K
    · refine r_iload_n rfl rfl ?_
      refine r_iret rfl ?_
      rw [ht] at hb1
      have hno : ¬ rNo rd (b' : Int) := by
        intro q
        rw [if_neg (fun z => absurd q (of_decide_eq_true z))] at hb1
        omega
      rw [if_neg hno] at K
      exact K
  refine r_iload_n rfl rfl ?_
  refine r_aload_n rfl rfl ?_
  refine r_getR rfl (by first | assumption | exact hs.o rfl) (by first | assumption | exact hs.g rfl) ?_
  refine r_getI rfl (by first | assumption | exact hs.o rfl) hpc.1 ?_
  refine r_icmp_ge rfl (by omega) (by omega) (fun hlt => ?_) (fun hlt => ?_)
  · refine r_aload_n rfl rfl ?_
    refine r_getR rfl (by first | assumption | exact hs.o rfl) (by first | assumption | exact hs.g rfl) ?_
    refine r_getI rfl (by first | assumption | exact hs.o rfl) hpc.1 ?_
    refine r_iret rfl ?_
    have e0 : j = 0 := by omega
    subst e0
    exact K
  · refine r_iload_n rfl rfl ?_
    refine r_iload_n rfl rfl ?_
    refine r_isub rfl ?_
    refine r_if_ge rfl (by omega) (fun hneg => ?_) (fun hneg => ?_)
    · refine r_iload_n rfl rfl ?_
      refine r_iload_n rfl rfl ?_
      refine r_isub rfl ?_
      refine step2 (by omega) _ ?_
      rw [← hbe (by omega)]
      first | rw [if_pos (by omega)] | rw [if_neg (by omega)]
    · refine r_iload_n rfl rfl ?_
      refine r_iload_n rfl rfl ?_
      refine r_isub rfl ?_
      refine r_aload_n rfl rfl ?_
      refine r_getR rfl (by first | assumption | exact hs.o rfl) (by first | assumption | exact hs.g rfl) ?_
      refine r_getI rfl (by first | assumption | exact hs.o rfl) hpc.1 ?_
      refine r_iadd rfl ?_
      refine r_goto rfl ?_
      refine step2 (by omega) _ ?_
      rw [← hbe (by omega)]
      first | rw [if_pos (by omega)] | rw [if_neg (by omega)]
termination_by j
theorem k_behind (hd : 1 ≤ d) (hr : RO σ g r) (hO : zO σ 22 0) (hgp : g 22 0 = some p) (hpO : PO σ g p) (hpc : PC f p pl) (h : RC f r rd) {c : Int} (hb : 0 ≤ c ∧ c < pl.1 ∧ 3 ≤ pl.1 ∧ pl.1 ≤ 20) (K : Q (some (zi (rBeh pl.1 rd c))) σ f g) : ZCt d 65 [zr (some 22), zr (some r), zi c] σ f g Q := by
  refine ZCt.of' (L0 := [_, _, _, _, _]) (by omega) rfl rfl rfl (fun d hd1 => ?_)
  refine r_iconst rfl ?_
  refine r_istore_n (L' := [_, _, _, _, _]) rfl rfl rfl ?_
  exact l_behC (by omega) hr hO hgp hpO hpc h hb (pl.1.toNat - 1) 1 (by omega) (by omega) K
theorem rBehF_rng {n c : Int} (hn : 3 ≤ n ∧ n ≤ 20) : ∀ j e : Nat, 1 ≤ e → ((j + e : Nat) : Int) = n → 1 ≤ rBehF n rd c j e ∧ rBehF n rd c j e ≤ 20 := by
  intro j
  induction j with
  | zero => intro e h1 h2; simp only [rBehF]; omega
  | succ j ih =>
    intro e h1 h2
    simp only [rBehF]
    split
    · exact ih (e + 1) (by omega) (by omega)
    · omega
theorem rBeh_rng {n c : Int} (hn : 3 ≤ n ∧ n ≤ 20) : 1 ≤ rBeh n rd c ∧ rBeh n rd c ≤ 20 := rBehF_rng hn _ 1 (by omega) (by omega)
/-- the ten words -/
def rWd (pl : Pl) (rd : Rd) (k : Nat) : Nat → Int
  | 0 => (k : Int)
  | 1 => rd 1 k
  | 2 => rd 2 k
  | 3 => rd 4 (rd 1 k).toNat
  | 4 => rBeh pl.1 rd (rd 0 k)
  | 5 => rOns rd 6
  | 6 => rd 5 1
  | 7 => (rd 3 k).tdiv pl.1
  | 8 => pl.2.2.2.2 (rd 1 k).toNat
  | 9 => rd 5 0
  | _ => 0
theorem Rev_congr {w w' : Nat → Int} (h : ∀ i, i < 10 → w i = w' i) : ∀ cls : Cls, (∀ x ∈ cls, clOk x) → Rev w cls = Rev w' cls := by
  intro cls
  induction cls with
  | nil => intro _; rfl
  | cons p r ih =>
    obtain ⟨s, o⟩ := p
    intro hok
    have hp := hok (s, o) List.mem_cons_self
    cases o with
    | none => simp only [Rev]; rw [val_congr h hp.1]
    | some t => simp only [Rev]; rw [val_congr h hp.1, val_congr h hp.2.1, ih (fun x hx => hok x (List.mem_cons_of_mem _ hx))]
theorem Rev_w10 {w : Nat → Int} {pl : Pl} {rd : Rd} {k : Nat} (h : ∀ i, i < 10 → w i = rWd pl rd k i) {cls : Cls} (hok : ∀ x ∈ cls, clOk x) : Rev w cls = Rev (rWd pl rd k) cls := Rev_congr h cls hok
theorem td_rng {x y : Int} (hx : 0 ≤ x ∧ x ≤ 1000000) (hy : 1 ≤ y) : 0 ≤ x.tdiv y ∧ x.tdiv y ≤ 1000000 := by
  rw [Int.tdiv_eq_ediv_of_nonneg hx.1]
  have h1 := Int.ediv_nonneg hx.1 (show 0 ≤ y by omega)
  have h2 := Int.ediv_le_self y hx.1
  omega
def alNone (rd : Rd) (k : Nat) : Bool := decide (rd 4 (rd 1 k).toNat = 0)
def alSet (s : Int) (_ : Rd) (k : Nat) : Bool := decide (z_and (z_shr s (k : Int)) 1 = 1)
def alRule (cls : Cls) (pl : Pl) (rd : Rd) (k : Nat) : Bool := Rev (rWd pl rd k) cls
/-- the ten words laid down one after the other -/
def wUp (c : Nat) (f : ZF) (w : Nat → Int) : Nat → ZF
  | 0 => f
  | k + 1 => up2 (wUp c f w k) c k (w k)
theorem wUp_o {c : Nat} {f : ZF} {w : Nat → Int} {b : Nat} (h : b ≠ c) : ∀ k, wUp c f w k b = f b := by
  intro k
  induction k with
  | zero => rfl
  | succ k ih => simp only [wUp]; rw [up2_o _ _ h, ih]
theorem wUp_at {c : Nat} {f : ZF} {w : Nat → Int} : ∀ k i, i < k → wUp c f w k c i = w i := by
  intro k
  induction k with
  | zero => intro i h; omega
  | succ k ih =>
    intro i h
    simp only [wUp]
    by_cases e : i = k
    · subst e; exact up2_same _ _ _ _
    · rw [up2_ne _ _ (fun q => e q.2), ih i (by omega)]
theorem k_setWords (hd : 2 ≤ d) (hk' : RrOk r) (hr : RO σ g r) (hO : zO σ 22 0) (hgp : g 22 0 = some p) (hpO : PO σ g p) (hpc : PC f p pl) (h : RC f r rd) (hp : 240 ≤ p) (hpl : PlOk pl) (ho : RdOk pl.1 pl.2.1 N rd) (hdj : RdDj rd) (hw23 : zA σ 23 103 10) (hg5 : g 22 5 = some 23) {k : Nat} (hk : k < 6) (h0 : 0 ≤ rd 0 k) (K : Q none σ (wUp 23 f (rWd pl rd k) 10) g) : ZCt d 64 [zr (some 22), zr (some r), zi (k : Int)] σ f g Q := by
  refine ZCt.of' (L0 := [_, _, _, _]) (by omega) rfl rfl rfl (fun d hd1 => ?_)
  have hr' := hr
  obtain ⟨oo, ⟨a1, a2, a3, a4, a5⟩, g0, g1, g2, g3, g4⟩ := hr
  have hpo' := hpO
  obtain ⟨po, ⟨pa1, pa2⟩, ⟨pg3, pg4, pg5⟩, -⟩ := hpO
  have hc := h.1 k hk
  have hok := ho.2.2.1 k hk
  have ho1 := ho.1
  have ho2 := ho.2.1
  have hw := h.2.1 (rd 1 k).toNat (by omega)
  have hw2 := ho.2.2.2.1 (rd 1 k).toNat (by omega)
  have hpj := hpc.2.2.2 (rd 1 k).toNat (by omega)
  have hpj2 := hpl.2.2.2 (rd 1 k).toNat (by omega)
  have h50 := ho.2.2.2.2.2.1
  have h51 := ho.2.2.2.2.2.2.1
  have hNN := ho.2.2.2.2.2.2.2
  have hb := rBeh_rng (rd := rd) (n := pl.1) (c := rd 0 k) (by omega)
  have hon := rOns_le rd 6
  have htd := td_rng (x := rd 3 k) (y := pl.1) (by omega) (by omega)
  have fO : ∀ (b : Nat) (i : Nat), b ≠ 23 → ∀ k', wUp 23 f (rWd pl rd k) k' b i = f b i := fun b i q k' => by rw [wUp_o q]
  have PC4 : ∀ k', PC (wUp 23 f (rWd pl rd k) k') p pl := fun k' => by
    unfold PC
    rw [wUp_o (by omega), wUp_o (by omega), wUp_o (by omega)]
    exact hpc
  have RC4 : ∀ k', RC (wUp 23 f (rWd pl rd k) k') r rd := fun k' => h.fr (fun c q1 q2 => wUp_o (by unfold RrOk at hk'; omega) k')
  refine r_aload_n rfl rfl ?_
  refine r_getR rfl (by first | assumption | exact hs.o rfl) (by first | assumption | exact hs.g rfl) ?_
  refine r_iload_n rfl rfl ?_
  refine r_iald rfl (by first | assumption | exact hs.a rfl) (by omega) (by omega) ((zix (n := k) (by omega)).trans hc.2.1) ?_
  refine r_istore_n (L' := [_, _, _, _]) rfl rfl rfl ?_
  refine r_aload_n rfl rfl ?_
  refine r_getR rfl (by first | assumption | exact hs.o rfl) (by first | assumption | exact hs.g rfl) ?_
  refine r_iconst rfl ?_
  refine r_iload_n rfl rfl ?_
  refine r_i2l rfl (by omega) ?_
  refine r_lastN (0) rfl (by first | assumption | exact hs.a rfl) (by omega) (by omega) (by omega) ?_
  change ZWp _ _ _ _ _ σ (wUp 23 f (rWd pl rd k) 1) g Q
  refine r_aload_n rfl rfl ?_
  refine r_getR rfl (by first | assumption | exact hs.o rfl) (by first | assumption | exact hs.g rfl) ?_
  refine r_iconst rfl ?_
  refine r_iload_n rfl rfl ?_
  refine r_i2l rfl (by omega) ?_
  refine r_lastN (1) rfl (by first | assumption | exact hs.a rfl) (by omega) (by omega) (by omega) ?_
  change ZWp _ _ _ _ _ σ (wUp 23 f (rWd pl rd k) 2) g Q
  refine r_aload_n rfl rfl ?_
  refine r_getR rfl (by first | assumption | exact hs.o rfl) (by first | assumption | exact hs.g rfl) ?_
  refine r_iconst rfl ?_
  refine r_aload_n rfl rfl ?_
  refine r_getR rfl (by first | assumption | exact hs.o rfl) (by first | assumption | exact hs.g rfl) ?_
  refine r_iload_n rfl rfl ?_
  refine r_iald rfl (by first | assumption | exact hs.a rfl) (by omega) (by omega) ((zix (n := k) (by omega)).trans ((fO _ _ (by unfold RrOk at hk'; omega) 2).trans hc.2.2.1)) ?_
  refine r_i2l rfl (by omega) ?_
  refine r_lastN (2) rfl (by first | assumption | exact hs.a rfl) (by omega) (by omega) (by omega) ?_
  change ZWp _ _ _ _ _ σ (wUp 23 f (rWd pl rd k) 3) g Q
  refine r_aload_n rfl rfl ?_
  refine r_getR rfl (by first | assumption | exact hs.o rfl) (by first | assumption | exact hs.g rfl) ?_
  refine r_iconst rfl ?_
  refine r_aload_n rfl rfl ?_
  refine r_getR rfl (by first | assumption | exact hs.o rfl) (by first | assumption | exact hs.g rfl) ?_
  refine r_iload_n rfl rfl ?_
  refine r_iald rfl (by first | assumption | exact hs.a rfl) (by omega) (by omega) ((zix (n := (rd 1 k).toNat) (by omega)).trans ((fO _ _ (by unfold RrOk at hk'; omega) 3).trans hw)) ?_
  refine r_i2l rfl (by omega) ?_
  refine r_lastN (3) rfl (by first | assumption | exact hs.a rfl) (by omega) (by omega) (by omega) ?_
  change ZWp _ _ _ _ _ σ (wUp 23 f (rWd pl rd k) 4) g Q
  refine r_aload_n rfl rfl ?_
  refine r_getR rfl (by first | assumption | exact hs.o rfl) (by first | assumption | exact hs.g rfl) ?_
  refine r_iconst rfl ?_
  refine r_aload_n rfl rfl ?_
  refine r_aload_n rfl rfl ?_
  refine r_aload_n rfl rfl ?_
  refine r_getR rfl (by first | assumption | exact hs.o rfl) (by first | assumption | exact hs.g rfl) ?_
  refine r_iload_n rfl rfl ?_
  refine r_iald rfl (by first | assumption | exact hs.a rfl) (by omega) (by omega) ((zix (n := k) (by omega)).trans ((fO _ _ (by unfold RrOk at hk'; omega) 4).trans hc.1)) ?_
  refine r_callV2 rfl rfl (by first | assumption | exact hs.o rfl) rfl (k_behind (by omega) hr' hO hgp hpo' (PC4 4) (RC4 4) (by omega) ?_)
  refine r_i2l rfl (by omega) ?_
  refine r_lastN (4) rfl (by first | assumption | exact hs.a rfl) (by omega) (by omega) (by omega) ?_
  change ZWp _ _ _ _ _ σ (wUp 23 f (rWd pl rd k) 5) g Q
  refine r_aload_n rfl rfl ?_
  refine r_getR rfl (by first | assumption | exact hs.o rfl) (by first | assumption | exact hs.g rfl) ?_
  refine r_iconst rfl ?_
  refine r_aload_n rfl rfl ?_
  refine r_getI rfl (by first | assumption | exact hs.o rfl) rfl ?_
  refine r_callS1 rfl rfl rfl (c_bitCount (by omega) (RC4 5).taken ?_)
  rw [cnt_oc ho hdj]
  refine r_i2l rfl (by omega) ?_
  refine r_lastN (5) rfl (by first | assumption | exact hs.a rfl) (by omega) (by omega) (by omega) ?_
  change ZWp _ _ _ _ _ σ (wUp 23 f (rWd pl rd k) 6) g Q
  refine r_aload_n rfl rfl ?_
  refine r_getR rfl (by first | assumption | exact hs.o rfl) (by first | assumption | exact hs.g rfl) ?_
  refine r_bipush rfl ?_
  refine r_aload_n rfl rfl ?_
  refine r_getI rfl (by first | assumption | exact hs.o rfl) ((fO _ _ (by unfold RrOk at hk'; omega) 6).trans h.2.2.2.1) ?_
  refine r_i2l rfl (by omega) ?_
  refine r_lastN (6) rfl (by first | assumption | exact hs.a rfl) (by omega) (by omega) (by omega) ?_
  change ZWp _ _ _ _ _ σ (wUp 23 f (rWd pl rd k) 7) g Q
  refine r_aload_n rfl rfl ?_
  refine r_getR rfl (by first | assumption | exact hs.o rfl) (by first | assumption | exact hs.g rfl) ?_
  refine r_bipush rfl ?_
  refine r_aload_n rfl rfl ?_
  refine r_getR rfl (by first | assumption | exact hs.o rfl) (by first | assumption | exact hs.g rfl) ?_
  refine r_getI rfl (by first | assumption | exact hs.o rfl) ((fO _ _ (by unfold RrOk at hk'; omega) 7).trans hpc.1) ?_
  refine r_if_le rfl (by omega) (fun h106 => ?_) (fun h106 => ?_)
  · exfalso; omega
  · refine r_aload_n rfl rfl ?_
    refine r_getR rfl (by first | assumption | exact hs.o rfl) (by first | assumption | exact hs.g rfl) ?_
    refine r_iload_n rfl rfl ?_
    refine r_iald rfl (by first | assumption | exact hs.a rfl) (by omega) (by omega) ((zix (n := k) (by omega)).trans ((fO _ _ (by unfold RrOk at hk'; omega) 7).trans hc.2.2.2)) ?_
    refine r_aload_n rfl rfl ?_
    refine r_getR rfl (by first | assumption | exact hs.o rfl) (by first | assumption | exact hs.g rfl) ?_
    refine r_getI rfl (by first | assumption | exact hs.o rfl) ((fO _ _ (by unfold RrOk at hk'; omega) 7).trans hpc.1) ?_
    refine r_idiv rfl (by omega) (by omega) (by omega) ?_
    refine r_i2l rfl (by omega) ?_
    refine r_goto rfl ?_
    refine r_lastN (7) rfl (by first | assumption | exact hs.a rfl) (by omega) (by omega) (by omega) ?_
    change ZWp _ _ _ _ _ σ (wUp 23 f (rWd pl rd k) 8) g Q
    refine r_aload_n rfl rfl ?_
    refine r_getR rfl (by first | assumption | exact hs.o rfl) (by first | assumption | exact hs.g rfl) ?_
    refine r_bipush rfl ?_
    refine r_aload_n rfl rfl ?_
    refine r_getR rfl (by first | assumption | exact hs.o rfl) (by first | assumption | exact hs.g rfl) ?_
    refine r_getR rfl (by first | assumption | exact hs.o rfl) (by first | assumption | exact hs.g rfl) ?_
    refine r_iload_n rfl rfl ?_
    refine r_iald rfl (by first | assumption | exact hs.a rfl) (by omega) (by omega) ((zix (n := (rd 1 k).toNat) (by omega)).trans ((fO _ _ (by unfold RrOk at hk'; omega) 8).trans hpj.2)) ?_
    refine r_i2l rfl (by omega) ?_
    refine r_lastN (8) rfl (by first | assumption | exact hs.a rfl) (by omega) (by omega) (by omega) ?_
    change ZWp _ _ _ _ _ σ (wUp 23 f (rWd pl rd k) 9) g Q
    refine r_aload_n rfl rfl ?_
    refine r_getR rfl (by first | assumption | exact hs.o rfl) (by first | assumption | exact hs.g rfl) ?_
    refine r_bipush rfl ?_
    refine r_aload_n rfl rfl ?_
    refine r_getI rfl (by first | assumption | exact hs.o rfl) ((fO _ _ (by unfold RrOk at hk'; omega) 9).trans h.2.2.1) ?_
    refine r_i2l rfl (by omega) ?_
    refine r_lastN (9) rfl (by first | assumption | exact hs.a rfl) (by omega) (by omega) (by omega) ?_
    change ZWp _ _ _ _ _ σ (wUp 23 f (rWd pl rd k) 10) g Q
    refine r_ret rfl ?_
    exact K
/-- the engine's rows stand -/
abbrev EnS (σ : ZS) (g : ZG) (p : Nat) : Prop := (zO σ 22 0) ∧
  (g 22 0 = some p) ∧
  (PO σ g p) ∧
  (240 ≤ p) ∧
  (zA σ 23 103 10) ∧
  (zA σ 24 103 60) ∧
  (g 22 5 = some 23) ∧
  (g 22 6 = some 24)
theorem EnS.o  (h : EnS σ g p) : zO σ 22 0 := h.1
theorem EnS.gp  (h : EnS σ g p) : g 22 0 = some p := h.2.1
theorem EnS.po  (h : EnS σ g p) : PO σ g p := h.2.2.1
theorem EnS.p240  (h : EnS σ g p) : 240 ≤ p := h.2.2.2.1
theorem EnS.w  (h : EnS σ g p) : zA σ 23 103 10 := h.2.2.2.2.1
theorem EnS.s  (h : EnS σ g p) : zA σ 24 103 60 := h.2.2.2.2.2.1
theorem EnS.g5  (h : EnS σ g p) : g 22 5 = some 23 := h.2.2.2.2.2.2.1
theorem EnS.g6  (h : EnS σ g p) : g 22 6 = some 24 := h.2.2.2.2.2.2.2
theorem alc_set {s : Int} (he : EnS σ g p) (hpl : PlOk pl) (hs : -1 < s ∧ s ≤ 2147483647) : ALc 2 σ g (fun f => f 22 3 = s) p pl (alSet s) := by
  intro d f rd N k r Q hd hk hk' hr hE hpc h ho hdj h0 K
  obtain ⟨hO, hgp, hpO, hp, hw23, hs24, hg5, hg6⟩ := he
  refine ZCt.of' (L0 := [_, _, _]) (by omega) rfl rfl rfl (fun d hd1 => ?_)
  refine r_aload_n rfl rfl ?_
  refine r_aload_n rfl rfl ?_
  refine r_iload_n rfl rfl ?_
  refine r_callV2 rfl rfl (by first | assumption | exact hs.o rfl) rfl (k_isAt (by omega) hk' hr hO hgp hpO hp hpc hpl rfl rfl h ho hk (fun q0 hat => ?_) (fun hnat => ?_))
  · refine r_if_y rfl (by decide) ?_
    refine r_aload_n rfl rfl ?_
    refine r_getI rfl (by first | assumption | exact hs.o rfl) hE ?_
    refine r_iconst rfl ?_
    refine r_icmp_eq rfl (by omega) (by omega) (fun h16 => ?_) (fun h16 => ?_)
    · exfalso; omega
    · refine r_aload_n rfl rfl ?_
      refine r_getI rfl (by first | assumption | exact hs.o rfl) hE ?_
      refine r_iload_n rfl rfl ?_
      refine r_ishr rfl ?_
      refine r_iconst rfl ?_
      refine r_iand rfl ?_
      refine r_iconst rfl ?_
      refine r_icmp_ne rfl (z_and_rng _ _) (by omega) (fun hb => ?_) (fun hb => ?_)
      · refine r_iconst rfl ?_
        refine r_zret rfl (by omega) ?_
        first | exact (K f (FrC.rf r f) (fun _ _ _ => rfl) rfl).2 (fun q => hnat ⟨h0, q.1⟩) | exact (K f (FrC.rf r f) (fun _ _ _ => rfl) rfl).2 (fun q => hb (of_decide_eq_true q.2))
      · refine r_iconst rfl ?_
        refine r_goto rfl ?_
        refine r_zret rfl (by omega) ?_
        exact (K f (FrC.rf r f) (fun _ _ _ => rfl) rfl).1 ⟨hat, decide_eq_true hb⟩
  · refine r_if_n rfl (by decide) ?_
    refine r_iconst rfl ?_
    refine r_zret rfl (by omega) ?_
    first | exact (K f (FrC.rf r f) (fun _ _ _ => rfl) rfl).2 (fun q => hnat ⟨h0, q.1⟩) | exact (K f (FrC.rf r f) (fun _ _ _ => rfl) rfl).2 (fun q => hb (of_decide_eq_true q.2))
theorem alc_none (he : EnS σ g p) (hpl : PlOk pl) (hr1 : g 22 1 = none) : ALc 2 σ g (fun f => f 22 3 = -1) p pl alNone := by
  intro d f rd N k r Q hd hk hk' hr hE hpc h ho hdj h0 K
  obtain ⟨hO, hgp, hpO, hp, hw23, hs24, hg5, hg6⟩ := he
  refine ZCt.of' (L0 := [_, _, _]) (by omega) rfl rfl rfl (fun d hd1 => ?_)
  have hr' := hr
  obtain ⟨oo, ⟨a1, a2, a3, a4, a5⟩, g0, g1, g2, g3, g4⟩ := hr'
  have hc := h.1 k hk
  have hok := ho.2.2.1 k hk
  have ho2 := ho.2.1
  have hw := h.2.1 (rd 1 k).toNat (by omega)
  have hw2 := ho.2.2.2.1 (rd 1 k).toNat (by omega)
  refine r_aload_n rfl rfl ?_
  refine r_aload_n rfl rfl ?_
  refine r_iload_n rfl rfl ?_
  refine r_callV2 rfl rfl (by first | assumption | exact hs.o rfl) rfl (k_isAt (by omega) hk' hr hO hgp hpO hp hpc hpl rfl rfl h ho hk (fun q0 hat => ?_) (fun hnat => ?_))
  · refine r_if_y rfl (by decide) ?_
    refine r_aload_n rfl rfl ?_
    refine r_getI rfl (by first | assumption | exact hs.o rfl) hE ?_
    refine r_iconst rfl ?_
    refine r_icmp_eq rfl (by omega) (by omega) (fun h16 => ?_) (fun h16 => ?_)
    · refine r_aload_n rfl rfl ?_
      refine r_getR rfl (by first | assumption | exact hs.o rfl) hr1 ?_
      refine r_ifnonnullN rfl ?_
      refine r_aload_n rfl rfl ?_
      refine r_getR rfl (by first | assumption | exact hs.o rfl) (by first | assumption | exact hs.g rfl) ?_
      refine r_aload_n rfl rfl ?_
      refine r_getR rfl (by first | assumption | exact hs.o rfl) (by first | assumption | exact hs.g rfl) ?_
      refine r_iload_n rfl rfl ?_
      refine r_iald rfl (by first | assumption | exact hs.a rfl) (by omega) (by omega) ((zix (n := k) (by omega)).trans hc.2.1) ?_
      refine r_iald rfl (by first | assumption | exact hs.a rfl) (by omega) (by omega) ((zix (n := (rd 1 k).toNat) (by omega)).trans hw) ?_
      refine r_if_ne rfl (by omega) (fun hb => ?_) (fun hb => ?_)
      · refine r_iconst rfl ?_
        refine r_zret rfl (by omega) ?_
        first | exact (K f (FrC.rf r f) (fun _ _ _ => rfl) rfl).2 (fun q => hnat ⟨h0, q.1⟩) | exact (K f (FrC.rf r f) (fun _ _ _ => rfl) rfl).2 (fun q => hb (of_decide_eq_true q.2))
      · refine r_iconst rfl ?_
        refine r_goto rfl ?_
        refine r_zret rfl (by omega) ?_
        exact (K f (FrC.rf r f) (fun _ _ _ => rfl) rfl).1 ⟨hat, decide_eq_true hb⟩
    · exfalso; omega
  · refine r_if_n rfl (by decide) ?_
    refine r_iconst rfl ?_
    refine r_zret rfl (by omega) ?_
    first | exact (K f (FrC.rf r f) (fun _ _ _ => rfl) rfl).2 (fun q => hnat ⟨h0, q.1⟩) | exact (K f (FrC.rf r f) (fun _ _ _ => rfl) rfl).2 (fun q => hb (of_decide_eq_true q.2))
/-- the class's rule at q -/
abbrev RuC (σ : ZS) (g : ZG) (q c : Nat) (cls : Cls) : Prop := (zO σ q 7) ∧
  (g q 0 = some c) ∧
  (zA σ c 100 (cCodes cls).length) ∧
  ((cCodes cls).length ≤ 400) ∧
  (240 ≤ c) ∧
  (∀ x ∈ cls, clOk x)
theorem RuC.o {q c : Nat} {cls : Cls} (h : RuC σ g q c cls) : zO σ q 7 := h.1
theorem RuC.gc {q c : Nat} {cls : Cls} (h : RuC σ g q c cls) : g q 0 = some c := h.2.1
theorem RuC.a {q c : Nat} {cls : Cls} (h : RuC σ g q c cls) : zA σ c 100 (cCodes cls).length := h.2.2.1
theorem RuC.l {q c : Nat} {cls : Cls} (h : RuC σ g q c cls) : (cCodes cls).length ≤ 400 := h.2.2.2.1
theorem RuC.c240 {q c : Nat} {cls : Cls} (h : RuC σ g q c cls) : 240 ≤ c := h.2.2.2.2.1
theorem RuC.ok {q c : Nat} {cls : Cls} (h : RuC σ g q c cls) : ∀ x ∈ cls, clOk x := h.2.2.2.2.2
theorem alc_rule {q c : Nat} {cls : Cls} (he : EnS σ g p) (hpl : PlOk pl) (hr1 : g 22 1 = some q) (hru : RuC σ g q c cls) : ALc 4 σ g (fun f => f 22 3 = -1 ∧ At (f c) 0 (cCodes cls)) p pl (alRule cls pl) := by
  intro d f rd N k r Q hd hk hk' hr hE hpc h ho hdj h0 K
  obtain ⟨hO, hgp, hpO, hp, hw23, hs24, hg5, hg6⟩ := he
  obtain ⟨qo, qg, qa, ql, qc, qok⟩ := hru
  refine ZCt.of' (L0 := [_, _, _]) (by omega) rfl rfl rfl (fun d hd1 => ?_)
  refine r_aload_n rfl rfl ?_
  refine r_aload_n rfl rfl ?_
  refine r_iload_n rfl rfl ?_
  refine r_callV2 rfl rfl (by first | assumption | exact hs.o rfl) rfl (k_isAt (by omega) hk' hr hO hgp hpO hp hpc hpl rfl rfl h ho hk (fun q0 hat => ?_) (fun hnat => ?_))
  · refine r_if_y rfl (by decide) ?_
    refine r_aload_n rfl rfl ?_
    refine r_getI rfl (by first | assumption | exact hs.o rfl) hE.1 ?_
    refine r_iconst rfl ?_
    refine r_icmp_eq rfl (by omega) (by omega) (fun h16 => ?_) (fun h16 => ?_)
    · refine r_aload_n rfl rfl ?_
      refine r_getR rfl (by first | assumption | exact hs.o rfl) hr1 ?_
      refine r_ifnonnullS rfl ?_
      refine r_aload_n rfl rfl ?_
      refine r_aload_n rfl rfl ?_
      refine r_iload_n rfl rfl ?_
      refine r_callV2 rfl rfl (by first | assumption | exact hs.o rfl) rfl (k_setWords (by omega) hk' hr hO hgp hpO hpc h hp hpl ho hdj hw23 hg5 hk h0 ?_)
      refine r_aload_n rfl rfl ?_
      refine r_getR rfl (by first | assumption | exact hs.o rfl) hr1 ?_
      refine r_aload_n rfl rfl ?_
      refine r_getR rfl (by first | assumption | exact hs.o rfl) (by first | assumption | exact hs.g rfl) ?_
      refine r_aload_n rfl rfl ?_
      refine r_getR rfl (by first | assumption | exact hs.o rfl) (by first | assumption | exact hs.g rfl) ?_
      refine r_callV2 rfl rfl (by first | assumption | exact hs.o rfl) rfl (k_allows (by omega) qo qg qa ql hw23 hs24 (by omega) qok (by rw [wUp_o (by omega)]; exact hE.2) rfl (fun f1 h1 => ⟨fun hb => ?_, fun hb => ?_⟩)  )
      · refine r_zret rfl (by omega) ?_
        rw [Rev_w10 (wUp_at 10) qok] at hb
        exact (K f1 ⟨fun c q1 q2 q3 q4 => (h1.1 c q3).trans (wUp_o q2 10), fun i q1 => by rw [h1.1 22 (by omega), wUp_o (by omega)]⟩ (fun c q1 q2 => (h1.1 c (by unfold RrOk at hk'; omega)).trans (wUp_o (by unfold RrOk at hk'; omega) 10)) (by rw [h1.1 22 (by omega), wUp_o (by omega)])).1 ⟨hat, hb⟩
      · refine r_zret rfl (by omega) ?_
        first | exact (K f (FrC.rf r f) (fun _ _ _ => rfl) rfl).2 (fun q => hnat ⟨h0, q.1⟩) | (rw [Rev_w10 (wUp_at 10) qok] at hb; exact (K f1 ⟨fun c q1 q2 q3 q4 => (h1.1 c q3).trans (wUp_o q2 10), fun i q1 => by rw [h1.1 22 (by omega), wUp_o (by omega)]⟩ (fun c q1 q2 => (h1.1 c (by unfold RrOk at hk'; omega)).trans (wUp_o (by unfold RrOk at hk'; omega) 10)) (by rw [h1.1 22 (by omega), wUp_o (by omega)])).2 (fun q => by rw [show alRule cls pl rd k = Rev (rWd pl rd k) cls from rfl, hb] at q; exact absurd q.2 (by decide)))
    · exfalso; omega
  · refine r_if_n rfl (by decide) ?_
    refine r_iconst rfl ?_
    refine r_zret rfl (by omega) ?_
    first | exact (K f (FrC.rf r f) (fun _ _ _ => rfl) rfl).2 (fun q => hnat ⟨h0, q.1⟩) | (rw [Rev_w10 (wUp_at 10) qok] at hb; exact (K f1 ⟨fun c q1 q2 q3 q4 => (h1.1 c q3).trans (wUp_o q2 10), fun i q1 => by rw [h1.1 22 (by omega), wUp_o (by omega)]⟩ (fun c q1 q2 => (h1.1 c (by unfold RrOk at hk'; omega)).trans (wUp_o (by unfold RrOk at hk'; omega) 10)) (by rw [h1.1 22 (by omega), wUp_o (by omega)])).2 (fun q => by rw [show alRule cls pl rd k = Rev (rWd pl rd k) cls from rfl, hb] at q; exact absurd q.2 (by decide)))
end LETOFF
