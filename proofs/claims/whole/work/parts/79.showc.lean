/-! A SHOW: what is told is in order; the class reads it -/
theorem dNum_inr {t : Tx} {lo hi : Int} {bar : Int → Bool} {p p1 : Nat} {v : Int} (h : dNum t lo hi bar p = .inr (p1, v)) (hp : p ≤ t.2) : p1 ≤ t.2 ∧ p < p1 ∧ (lo ≤ v ∧ v ≤ hi) ∧ bar v = false ∧ (0 ≤ v ∧ v ≤ 99999) := by
  unfold dNum at h
  split at h
  · rename_i hD
    split at h
    · rename_i hb
      cases h
      have h1 := dE_gt hD
      have h2 := sk_ge t (dE t p)
      exact ⟨sk_le (dE_le hp), by omega, hb.2.1, hb.2.2, num_ok hb.1⟩
    · cases h
  · cases h
theorem carIn_no {rd : Rd} {c : Int} : carInP rd c = false ↔ rNo rd c := by
  unfold carInP
  constructor
  · intro h k hk q
    have : exB (fun j => decide (rd 0 j = c)) 6 = true := (exB_iff 6).2 ⟨k, hk, decide_eq_true_iff.2 q⟩
    rw [this] at h
    cases h
  · intro h
    cases hz : exB (fun j => decide (rd 0 j = c)) 6 with
    | false => rfl
    | true =>
      obtain ⟨j, h1, h2⟩ := (exB_iff 6).1 hz
      exact absurd (decide_eq_true_iff.1 h2) (h j h1)
theorem carIn_oc {rd : Rd} (c : Nat) : rOc rd c = carInP rd (c : Int) := by
  cases hz : carInP rd (c : Int) with
  | false => exact decide_eq_false_iff_not.2 (fun q => q (carIn_no.1 hz))
  | true => exact decide_eq_true_iff.2 (fun q => by rw [carIn_no.2 q] at hz; cases hz)
theorem RdOk.gapS {n m N : Int} {rd : Rd} (h : RdOk n m N rd) {c : Nat} : RdOk n m N (up2 rd 6 c 1) := by
  obtain ⟨a1, a2, a3, a4, a5, a6, a7, a8⟩ := h
  refine ⟨a1, a2, fun i hi => ?_, fun i hi => ?_, fun i hi => ?_, ?_, ?_, a8⟩
  · have := a3 i hi
    simpa [up2] using this
  · have := a4 i hi
    simpa [up2] using this
  · have := a5 i hi
    simp only [up2]
    by_cases e : i = c
    · simp [e]
    · simp [e]; omega
  · simp [up2]; omega
  · simp [up2]; omega
theorem sCells_ok {t : Tx} {p p' : Nat} {pl' : Pl} {rd' : Rd} (h : sCells t pl0 rdI p = .inr (p', pl', rd')) (hp : p ≤ t.2) : PlOk pl' ∧ StOk pl' rd' := by
  unfold sCells at h
  rcases hn : dNum t 3 20 (fun _ => false) p with e | ⟨p1, v⟩
  · rw [hn] at h; cases h
  · rw [hn] at h
    cases h
    obtain ⟨a1, a2, a3, a4, a5⟩ := dNum_inr hn hp
    refine ⟨⟨a3, by simp [pl0], by simp [pl0], fun j hj => ?_⟩, rdI_ok v 0 0 a3 (by omega) (by omega), rdI_dj, fun j => by simp [rdI], fun k hk => ?_⟩
    · simp only [pl0] at hj; omega
    · simp [rdI, pl0]
theorem sRoad_ok {t : Tx} {pl pl' : Pl} {rd rd' : Rd} {p p' : Nat} (h : sRoad t pl rd p = .inr (p', pl', rd')) (hp : p ≤ t.2) (hP : PlOk pl) (hS : StOk pl rd) (hr : pl.2.1 < 5) : PlOk pl' ∧ StOk pl' rd' := by
  unfold sRoad at h
  rcases hn : dNum t 0 (pl.1 - 1) (roadIn pl) p with e | ⟨p1, v⟩
  · rw [hn] at h; cases h
  · rw [hn] at h
    simp only at h
    rcases hn2 : dNum t 1 20 (fun _ => false) p1 with e | ⟨p2, w⟩
    · rw [hn2] at h; cases h
    · rw [hn2] at h
      cases h
      obtain ⟨a1, a2, a3, a4, a5⟩ := dNum_inr hn hp
      obtain ⟨b1, b2, b3, b4, b5⟩ := dNum_inr hn2 a1
      obtain ⟨q1, q2, q3, q4⟩ := hP
      obtain ⟨s1, s2, s3, s4⟩ := hS
      obtain ⟨r1, r2, r3, r4, r5, r6, r7, r8⟩ := s1
      refine ⟨⟨q1, by simp only; omega, q3, fun j hj => ?_⟩, ⟨r1, by simp only; omega, fun k hk => ?_, r4, r5, r6, r7, r8⟩, s2, s3, s4⟩
      · simp only at hj
        by_cases e : j = pl.2.1.toNat
        · simp only [u1, e, if_true]; omega
        · simp only [u1, e, if_false]
          exact q4 j (by omega)
      · have := r3 k hk
        simp only
        omega
theorem sCar_ok {t : Tx} {pl pl' : Pl} {rd rd' : Rd} {p p' : Nat} (h : sCar t pl rd p = .inr (p', pl', rd')) (hp : p ≤ t.2) (hP : PlOk pl) (hS : StOk pl rd) (hr : pl.2.2.1 < 6) : PlOk pl' ∧ StOk pl' rd' := by
  unfold sCar at h
  rcases hn : dNum t 0 (pl.1 - 1) (fun c => carInP rd c || gapInP rd c) p with e | ⟨p1, v⟩
  · rw [hn] at h; cases h
  · rw [hn] at h
    simp only at h
    rcases hn2 : dNum t 0 (pl.2.1 - 1) (fun _ => false) p1 with e | ⟨p2, w⟩
    · rw [hn2] at h; cases h
    · rw [hn2] at h
      simp only at h
      rcases hn3 : dNum t 0 60 (fun _ => false) p2 with e | ⟨p3, u⟩
      · rw [hn3] at h; cases h
      · rw [hn3] at h
        cases h
        obtain ⟨a1, a2, a3, a4, a5⟩ := dNum_inr hn hp
        obtain ⟨b1, b2, b3, b4, b5⟩ := dNum_inr hn2 a1
        obtain ⟨c1, c2, c3, c4, c5⟩ := dNum_inr hn3 b1
        obtain ⟨q1, q2, q3, q4⟩ := hP
        obtain ⟨s1, s2, s3, s4⟩ := hS
        simp only [Bool.or_eq_false_iff] at a4
        refine ⟨⟨q1, q2, by simp only; omega, q4⟩, s1.on (by omega) (by omega) (by omega) (by omega), s2.on (carIn_no.1 a4.1), fun j => ?_, fun k hk => ?_⟩
        · have := s3 j
          simpa [rOn, up2] using this
        · have := s4 k hk
          rw [rOn0]
          simp only
          split <;> omega
theorem sGap_ok {t : Tx} {pl pl' : Pl} {rd rd' : Rd} {p p' : Nat} (h : sGap t pl rd p = .inr (p', pl', rd')) (hp : p ≤ t.2) (hP : PlOk pl) (hS : StOk pl rd) : PlOk pl' ∧ StOk pl' rd' := by
  unfold sGap at h
  rcases hn : dNum t 0 (pl.1 - 1) (carInP rd) p with e | ⟨p1, v⟩
  · rw [hn] at h; cases h
  · rw [hn] at h
    cases h
    obtain ⟨s1, s2, s3, s4⟩ := hS
    refine ⟨hP, s1.gapS, s2.same (fun k hk => by simp [up2]), fun j => ?_, fun k hk => ?_⟩
    · have := s3 j
      simpa [up2] using this
    · have := s4 k hk
      simpa [up2] using this
/-- how a SHOW stands while it is read -/
def SI (c : Nat) (pl : Pl) (rd : Rd) : Prop := (c = 0 ∧ pl = pl0 ∧ rd = rdI) ∨ (0 < c ∧ PlOk pl ∧ StOk pl rd)
def SG (f : ZF) (t : Tx) (P p : Nat) (pl : Pl) (rd : Rd) : Prop := Rdr f 16 t p ∧ p ≤ t.2 ∧ PC f P pl ∧ RC f (P + 3) rd
def FrSh (P : Nat) (f f' : ZF) : Prop := ∀ c, c ≠ 16 → c ≠ 17 → (c < P ∨ P + 8 < c) → f' c = f c
theorem FrSh.rf (P : Nat) (f : ZF) : FrSh P f f := fun _ _ _ _ => rfl
theorem FrSh.trans {P : Nat} {a b c : ZF} (h1 : FrSh P a b) (h2 : FrSh P b c) : FrSh P a c := fun k q1 q2 q3 => (h2 k q1 q2 q3).trans (h1 k q1 q2 q3)
theorem FrSh.r {P : Nat} {f0 f f' : ZF} (h : FrSh P f0 f) (h' : Fr1 16 f f') : FrSh P f0 f' := fun c q1 q2 q3 => (h' c q1).trans (h c q1 q2 q3)
theorem FrSh.up {P k i : Nat} {f0 f : ZF} {v : Int} (h : FrSh P f0 f) (hk : P ≤ k ∧ k ≤ P + 8) : FrSh P f0 (up2 f k i v) := fun c q1 q2 q3 => (up2_o _ _ (by omega)).trans (h c q1 q2 q3)
theorem FrSh.rr {P : Nat} {f0 f f' : ZF} (h : FrSh P f0 f) (h' : FrR (P + 3) f f') : FrSh P f0 f' := fun c q1 q2 q3 => (h' c (by omega)).trans (h c q1 q2 q3)
theorem SG.to {f f' : ZF} {t : Tx} {P p p' : Nat} {pl : Pl} {rd : Rd} (h : SG f t P p pl rd) (hP : 240 ≤ P) (hf : Fr1 16 f f') (hr : Rdr f' 16 t p') (hp : p' ≤ t.2) : SG f' t P p' pl rd := by
  refine ⟨hr, hp, ?_, h.2.2.2.fr (fun c q1 q2 => hf c (by omega))⟩
  have := h.2.2.1
  unfold PC at *
  rw [hf P (by omega), hf (P + 1) (by omega), hf (P + 2) (by omega)]
  exact this
def SK (Q : ZQ) (σ : ZS) (g : ZG) (f0 : ZF) (t : Tx) (P : Nat) (r : SR) : Prop := (∀ p' pl' rd', r = .inr (p', pl', rd') → ∀ f', FrSh P f0 f' → SG f' t P p' pl' rd' → Q none σ f' g) ∧ (∀ e, r = .inl e → ∀ f', FrSh P f0 f' → RdF f' 16 e → Q none σ f' g)
section SHOWC
variable {d : Nat} {σ : ZS} {f : ZF} {g : ZG} {Q : ZQ} {P p : Nat} {t : Tx} {e : Int} {pl : Pl} {rd : Rd} {a : AS} {N : Int}
theorem PC.fr16 {f' : ZF} (h : PC f P pl) (hP : 240 ≤ P) (hf : Fr1 16 f f') : PC f' P pl := by
  unfold PC at *
  rw [hf P (by omega), hf (P + 1) (by omega), hf (P + 2) (by omega)]
  exact h
theorem l_rc (hd1 : 0 ≤ d) (hP : 240 ≤ P) (hpc : PC f P pl) (hpl : PlOk pl) (po : zO σ P 3) (pa1 : zA σ (P + 1) 100 5) (pg3 : g P 3 = some (P + 1)) (K : ∀ x, Bits x (fun i => roadIn pl (i : Int)) → Q (some (zi x)) σ f g) (k : Nat) (hk : k ≤ pl.2.1.toNat) (x : Int) (hx : Bits x (fun i => exB (fun j => decide (pl.2.2.2.1 j = (i : Int))) k)) : ZWp d zt26 4 [zr (some P), zi x, zi (k : Int)] [] σ f g Q := by
  have hp1 := hpl.1
  have hp2 := hpl.2.1
  have hxr := hx.rng
  refine r_iload_n rfl rfl ?_
  refine r_aload_n rfl rfl ?_
  refine r_getI rfl po hpc.2.1 ?_
  refine r_icmp_ge rfl (by omega) (by omega) (fun hge => ?_) (fun hge => ?_)
  · have ek : k = pl.2.1.toNat := by omega
    subst ek
    refine r_iload_n rfl rfl ?_
    refine r_iret rfl ?_
    exact K x hx
  · refine r_iload_n rfl rfl ?_
    refine r_iconst rfl ?_
    refine r_aload_n rfl rfl ?_
    refine r_getR rfl po pg3 ?_
    refine r_iload_n rfl rfl ?_
    refine r_iald rfl pa1 (by omega) (by omega) ((zix (n := k) (by omega)).trans (hpc.2.2.2 k (by omega)).1) ?_
    refine r_ishl rfl ?_
    refine r_ior rfl ?_
    have hrc := hpl.2.2.2 k (by omega)
    obtain ⟨c, hc⟩ := Int.eq_ofNat_of_zero_le hrc.1.1
    refine r_istore_n (L' := [_, _, _]) rfl rfl rfl ?_
    refine r_iinc (L' := [_, _, _]) rfl rfl rfl ?_
    refine r_goto rfl ?_
    refine l_rc hd1 hP hpc hpl po pa1 pg3 K (k + 1) (by omega) _ ?_
    rw [hc]
    refine (hx.set (c := c) (by omega)).imp (fun i hi => ?_)
    show (_ || _) = (exB _ k || decide (pl.2.2.2.1 k = (i : Int)))
    rw [hc]
    congr 1
    by_cases e : i = c
    · subst e; simp
    · rw [decide_eq_false_iff_not.2 (by omega : ¬ (c : Int) = (i : Int))]; simp [e]
termination_by pl.2.1.toNat - k
theorem k_roadCells (hd : 1 ≤ d) (hP : 240 ≤ P) (hpc : PC f P pl) (hpl : PlOk pl) (po : zO σ P 3) (pa1 : zA σ (P + 1) 100 5) (pg3 : g P 3 = some (P + 1)) (K : ∀ x, Bits x (fun i => roadIn pl (i : Int)) → Q (some (zi x)) σ f g) : ZCt d 26 [zr (some P)] σ f g Q := by
  refine ZCt.of' (L0 := [_, _, _]) (by omega) rfl rfl rfl (fun d hd1 => ?_)
  refine r_iconst rfl ?_
  refine r_istore_n (L' := [_, _, _]) rfl rfl rfl ?_
  refine r_iconst rfl ?_
  refine r_istore_n (L' := [_, _, _]) rfl rfl rfl ?_
  exact l_rc (by omega) hP hpc hpl po pa1 pg3 K 0 (by omega) 0 (Bits.zero.imp (fun i _ => rfl))
theorem k_readRoad (hd : 4 ≤ d) (hs : Sh σ g) (hP : 240 ≤ P) (hpO : PO σ g P) (hT : TxOk t) (h : SG f t P p pl rd) (hpl : PlOk pl) (hst : StOk pl rd) (hr5 : pl.2.1 < 5) (K : SK Q σ g f t P (sRoad t pl rd p)) : ZCt d 25 [zr (some 15), zr (some P)] σ f g Q := by
  refine ZCt.of' (L0 := [_, _, _, _]) (by omega) rfl rfl rfl (fun d hd1 => ?_)
  have hpo' := hpO
  obtain ⟨po, ⟨pa1, pa2⟩, ⟨pg3, pg4, pg5⟩, pro⟩ := hpO
  have hp1 := hpl.1
  have hp2 := hpl.2.1
  refine r_aload_n rfl rfl ?_
  refine r_getR rfl (by first | assumption | exact hs.o rfl) (by first | assumption | exact hs.g rfl) ?_
  refine r_iconst rfl ?_
  refine r_aload_n rfl rfl ?_
  refine r_getI rfl (by first | assumption | exact hs.o rfl) h.2.2.1.1 ?_
  refine r_iconst rfl ?_
  refine r_isub rfl ?_
  refine r_aload_n rfl rfl ?_
  refine r_callV0 rfl rfl po rfl (k_roadCells (by omega) hP h.2.2.1 hpl po pa1 pg3 (fun x hx => ?_))
  refine r_callV3 rfl rfl (by first | assumption | exact hs.o rfl) rfl (k_takeNumber (by omega) hs.r16 h.1 hT h.2.1 (by omega) (by omega) (Bar.bits hx (by omega) (fun c hc => rfl)) (fun p1 v1 n1 f1 hf1 h1 => ?_) (fun e1 n1 f1 hf1 hF1 => ?_))
  · refine r_istore_n (L' := [_, _, _, _]) rfl rfl rfl ?_
    refine r_aload_n rfl rfl ?_
    refine r_getR rfl (by first | assumption | exact hs.o rfl) (by first | assumption | exact hs.g rfl) ?_
    refine r_iconst rfl ?_
    refine r_bipush rfl ?_
    refine r_iconst rfl ?_
    refine r_callV3 rfl rfl (by first | assumption | exact hs.o rfl) rfl (k_takeNumber (by omega) hs.r16 h1 hT (dNum_inr n1 h.2.1).1 (by omega) (by omega) (Bar.zero 20) (fun p2 v2 n2 f2 hf2 h2 => ?_) (fun e2 n2 f2 hf2 hF2 => ?_))
    · refine r_istore_n (L' := [_, _, _, _]) rfl rfl rfl ?_
      refine r_aload_n rfl rfl ?_
      refine r_getR rfl (by first | assumption | exact hs.o rfl) (by first | assumption | exact hs.g rfl) ?_
      refine r_getI rfl (by first | assumption | exact hs.o rfl) h2.2.1 ?_
      refine r_if_ne rfl (by omega) (fun h38 => ?_) (fun h38 => ?_)
      · exact absurd rfl h38
      · have hpc1 := h.2.2.1.fr16 hP hf1
        have hpc2 := hpc1.fr16 hP hf2
        refine r_aload_n rfl rfl ?_
        refine r_getR rfl (by first | assumption | exact hs.o rfl) pg3 ?_
        refine r_aload_n rfl rfl ?_
        refine r_getI rfl (by first | assumption | exact hs.o rfl) hpc2.2.1 ?_
        refine r_iload_n rfl rfl ?_
        refine r_iastN (pl.2.1.toNat) rfl pa1 (by omega) (by omega) (by omega) ?_
        refine r_aload_n rfl rfl ?_
        refine r_getR rfl (by first | assumption | exact hs.o rfl) pg4 ?_
        refine r_aload_n rfl rfl ?_
        refine r_getI rfl (by first | assumption | exact hs.o rfl) (show _ = pl.2.1 from by rw [up2_o _ _ (by omega)]; exact hpc2.2.1) ?_
        refine r_iload_n rfl rfl ?_
        refine r_iastN (pl.2.1.toNat) rfl pa2 (by omega) (by omega) (by omega) ?_
        refine r_aload_n rfl rfl ?_
        refine r_dupr rfl ?_
        refine r_getI rfl (by first | assumption | exact hs.o rfl) (show _ = pl.2.1 from by rw [up2_o _ _ (by omega), up2_o _ _ (by omega)]; exact hpc2.2.1) ?_
        refine r_iconst rfl ?_
        refine r_iadd rfl ?_
        refine r_putI rfl (by first | assumption | exact hs.o rfl) ?_
        refine r_ret rfl ?_
        have hq1 := dNum_inr n1 h.2.1
        have hq2 := dNum_inr n2 hq1.1
        refine K.1 p2 _ rd (show sRoad t pl rd p = _ by unfold sRoad; rw [n1]; simp only; rw [n2]) _ (((((FrSh.rf P f).r hf1).r hf2).up (by omega)).up (by omega) |>.up (by omega)) ⟨h2.fr (by rw [up2_o _ _ (by omega), up2_o _ _ (by omega), up2_o _ _ (by omega)]) (by rw [up2_o _ _ (by omega), up2_o _ _ (by omega), up2_o _ _ (by omega)]), hq2.1, ⟨?_, ?_, ?_, fun j hj => ⟨?_, ?_⟩⟩, h.2.2.2.fr (fun c q1 q2 => by rw [up2_o _ _ (by omega), up2_o _ _ (by omega), up2_o _ _ (by omega), hf2 c (by omega), hf1 c (by omega)])⟩
        · rw [up2_ne _ _ (by omega), up2_o _ _ (by omega), up2_o _ _ (by omega)]; exact hpc2.1
        · rw [up2_same]
        · rw [up2_ne _ _ (by omega), up2_o _ _ (by omega), up2_o _ _ (by omega)]; exact hpc2.2.2.1
        · rw [up2_o _ _ (by omega), up2_o _ _ (by omega)]
          simp only [u1]
          by_cases e : j = pl.2.1.toNat
          · rw [e, up2_same, if_pos rfl]
          · rw [up2_ne _ _ (by omega), if_neg e]; exact (hpc2.2.2.2 j hj).1
        · rw [up2_o _ _ (by omega)]
          simp only [u1]
          by_cases e : j = pl.2.1.toNat
          · rw [e, up2_same, if_pos rfl]
          · rw [up2_ne _ _ (by omega), up2_o _ _ (by omega), if_neg e]; exact (hpc2.2.2.2 j hj).2
    · refine r_istore_n (L' := [_, _, _, _]) rfl rfl rfl ?_
      refine r_aload_n rfl rfl ?_
      refine r_getR rfl (by first | assumption | exact hs.o rfl) (by first | assumption | exact hs.g rfl) ?_
      refine r_getI rfl (by first | assumption | exact hs.o rfl) hF2.1 ?_
      refine r_if_ne rfl (by have := hF2.2.1; omega) (fun h38 => ?_) (fun h38 => ?_)
      · refine r_ret rfl ?_
        exact K.2 _ (show sRoad t pl rd p = .inl e2 by unfold sRoad; rw [n1]; simp only; rw [n2]) f2 (((FrSh.rf P f).r hf1).r hf2) hF2
      · exact absurd h38 (by have := hF2.2.1; omega)
  · refine r_istore_n (L' := [_, _, _, _]) rfl rfl rfl ?_
    refine r_aload_n rfl rfl ?_
    refine r_getR rfl (by first | assumption | exact hs.o rfl) (by first | assumption | exact hs.g rfl) ?_
    refine r_iconst rfl ?_
    refine r_bipush rfl ?_
    refine r_iconst rfl ?_
    refine r_callV3 rfl rfl (by first | assumption | exact hs.o rfl) rfl (k_takeNumberF (by omega) hs.r16 hF1 ?_)
    refine r_istore_n (L' := [_, _, _, _]) rfl rfl rfl ?_
    refine r_aload_n rfl rfl ?_
    refine r_getR rfl (by first | assumption | exact hs.o rfl) (by first | assumption | exact hs.g rfl) ?_
    refine r_getI rfl (by first | assumption | exact hs.o rfl) hF1.1 ?_
    refine r_if_ne rfl (by have := hF1.2.1; omega) (fun h38 => ?_) (fun h38 => ?_)
    · refine r_ret rfl ?_
      exact K.2 _ (show sRoad t pl rd p = .inl e1 by unfold sRoad; rw [n1]) f1 ((FrSh.rf P f).r hf1) hF1
    · exact absurd h38 (by have := hF1.2.1; omega)
theorem k_readCar (hd : 4 ≤ d) (hs : Sh σ g) (hP : 240 ≤ P) (hpO : PO σ g P) (hT : TxOk t) (h : SG f t P p pl rd) (hpl : PlOk pl) (hst : StOk pl rd) (hr6 : pl.2.2.1 < 6) (K : SK Q σ g f t P (sCar t pl rd p)) : ZCt d 27 [zr (some 15), zr (some P)] σ f g Q := by
  refine ZCt.of' (L0 := [_, _, _, _, _, _]) (by omega) rfl rfl rfl (fun d hd1 => ?_)
  have hpo' := hpO
  obtain ⟨po, ⟨pa1, pa2⟩, ⟨pg3, pg4, pg5⟩, pro⟩ := hpO
  have hp1 := hpl.1
  have hp2 := hpl.2.1
  have hp3 := hpl.2.2.1
  refine r_aload_n rfl rfl ?_
  refine r_getR rfl (by first | assumption | exact hs.o rfl | exact pro.1) pg5 ?_
  refine r_astore_n (L' := [_, _, _, _, _, _]) rfl rfl rfl ?_
  refine r_aload_n rfl rfl ?_
  refine r_getR rfl (by first | assumption | exact hs.o rfl | exact pro.1) (by first | assumption | exact hs.g rfl) ?_
  refine r_iconst rfl ?_
  refine r_aload_n rfl rfl ?_
  refine r_getI rfl (by first | assumption | exact hs.o rfl | exact pro.1) h.2.2.1.1 ?_
  refine r_iconst rfl ?_
  refine r_isub rfl ?_
  refine r_aload_n rfl rfl ?_
  refine r_getI rfl pro.1 rfl ?_
  refine r_aload_n rfl rfl ?_
  refine r_getI rfl pro.1 rfl ?_
  refine r_ior rfl ?_
  refine r_callV3 rfl rfl (by first | assumption | exact hs.o rfl | exact pro.1) rfl (k_takeNumber (by omega) hs.r16 h.1 hT h.2.1 (by omega) (by omega) (Bar.bits (bar := fun c => carInP rd c || gapInP rd c) (h.2.2.2.taken.or2 h.2.2.2.gaps) (by omega) (fun c hc => by rw [carIn_oc]; rfl)) (fun p1 v1 n1 f1 hf1 h1 => ?_) (fun e1 n1 f1 hf1 hF1 => ?_))
  · refine r_istore_n (L' := [_, _, _, _, _, _]) rfl rfl rfl ?_
    refine r_aload_n rfl rfl ?_
    refine r_getR rfl (by first | assumption | exact hs.o rfl | exact pro.1) (by first | assumption | exact hs.g rfl) ?_
    refine r_iconst rfl ?_
    refine r_aload_n rfl rfl ?_
    have hpcx := h.2.2.1.fr16 hP hf1
    refine r_getI rfl (by first | assumption | exact hs.o rfl | exact pro.1) (hpcx.2.1) ?_
    refine r_iconst rfl ?_
    refine r_isub rfl ?_
    refine r_iconst rfl ?_
    refine r_callV3 rfl rfl (by first | assumption | exact hs.o rfl | exact pro.1) rfl (k_takeNumber (by omega) hs.r16 h1 hT (dNum_inr n1 h.2.1).1 (by omega) (by omega) (Bar.zero _) (fun p2 v2 n2 f2 hf2 h2 => ?_) (fun e2 n2 f2 hf2 hF2 => ?_))
    · refine r_istore (L' := [_, _, _, _, _, _]) rfl rfl rfl ?_
      refine r_aload_n rfl rfl ?_
      refine r_getR rfl (by first | assumption | exact hs.o rfl | exact pro.1) (by first | assumption | exact hs.g rfl) ?_
      refine r_iconst rfl ?_
      refine r_bipush rfl ?_
      refine r_iconst rfl ?_
      refine r_callV3 rfl rfl (by first | assumption | exact hs.o rfl | exact pro.1) rfl (k_takeNumber (by omega) hs.r16 h2 hT (dNum_inr n2 (dNum_inr n1 h.2.1).1).1 (by omega) (by omega) (Bar.zero _) (fun p3 v3 n3 f3 hf3 h3 => ?_) (fun e3 n3 f3 hf3 hF3 => ?_))
      · refine r_istore (L' := [_, _, _, _, _, _]) rfl rfl rfl ?_
        refine r_aload_n rfl rfl ?_
        refine r_getR rfl (by first | assumption | exact hs.o rfl | exact pro.1) (by first | assumption | exact hs.g rfl) ?_
        refine r_getI rfl (by first | assumption | exact hs.o rfl | exact pro.1) h3.2.1 ?_
        refine r_if_ne rfl (by omega) (fun h66 => ?_) (fun h66 => ?_)
        · exact absurd rfl h66
        · have hpc3 := (hpcx.fr16 hP hf2).fr16 hP hf3
          have hrc3 : RC f3 (P + 3) rd := h.2.2.2.fr (fun c q1 q2 => by rw [hf3 c (by omega), hf2 c (by omega), hf1 c (by omega)])
          obtain ⟨k, hk⟩ := Int.eq_ofNat_of_zero_le (show 0 ≤ pl.2.2.1 by omega)
          have hq1 := dNum_inr n1 h.2.1
          have hq2 := dNum_inr n2 hq1.1
          have hq3 := dNum_inr n3 hq2.1
          have hsk := hst.2.2.2 k (by omega)
          have hsr := hst.1.2.2.1 k (by omega)
          refine r_aload_n rfl rfl ?_
          refine r_aload_n rfl rfl ?_
          refine r_getI rfl (by first | assumption | exact hs.o rfl | exact pro.1) (hpc3.2.2.1.trans hk) ?_
          refine r_iload_n rfl rfl ?_
          refine r_iload rfl rfl ?_
          refine r_iload rfl rfl ?_
          refine r_callV4 rfl rfl pro.1 rfl (k_comeOn (by omega) pro hrc3 (k := k) (by omega) (by omega) (by omega) (by omega) (fun f4 hf4 h4 => ?_))
          refine r_aload_n rfl rfl ?_
          refine r_dupr rfl ?_
          refine r_getI rfl (by first | assumption | exact hs.o rfl | exact pro.1) (show _ = pl.2.2.1 from by rw [hf4 P (by omega)]; exact hpc3.2.2.1) ?_
          refine r_iconst rfl ?_
          refine r_iadd rfl ?_
          refine r_putI rfl (by first | assumption | exact hs.o rfl | exact pro.1) ?_
          refine r_ret rfl ?_
          refine K.1 p3 _ _ (show sCar t pl rd p = _ by unfold sCar; rw [n1]; simp only; rw [n2]; simp only; rw [n3]) _ ((((((FrSh.rf P f).r hf1).r hf2).r hf3).rr hf4).up (by omega)) ⟨h3.fr (by rw [up2_o _ _ (by omega), hf4 16 (by omega)]) (by rw [up2_o _ _ (by omega), hf4 17 (by omega)]), hq3.1, ⟨?_, ?_, ?_, fun j hj => ?_⟩, ?_⟩
          · rw [up2_ne _ _ (by omega), hf4 P (by omega)]; exact hpc3.1
          · rw [up2_ne _ _ (by omega), hf4 P (by omega)]; exact hpc3.2.1
          · rw [up2_same]
          · rw [up2_o _ _ (by omega), up2_o _ _ (by omega), hf4 (P + 1) (by omega), hf4 (P + 2) (by omega)]; exact hpc3.2.2.2 j hj
          · rw [show pl.2.2.1.toNat = k by omega]
            exact h4.fr (fun c q1 q2 => up2_o _ _ (by omega))
      · refine r_istore (L' := [_, _, _, _, _, _]) rfl rfl rfl ?_
        refine r_aload_n rfl rfl ?_
        refine r_getR rfl (by first | assumption | exact hs.o rfl | exact pro.1) (by first | assumption | exact hs.g rfl) ?_
        refine r_getI rfl (by first | assumption | exact hs.o rfl | exact pro.1) hF3.1 ?_
        refine r_if_ne rfl (by have := hF3.2.1; omega) (fun h66 => ?_) (fun h66 => ?_)
        · refine r_ret rfl ?_
          exact K.2 _ (show sCar t pl rd p = .inl e3 by unfold sCar; rw [n1]; simp only; rw [n2]; simp only; rw [n3]) f3 ((((FrSh.rf P f).r hf1).r hf2).r hf3) hF3
        · exact absurd h66 (by have := hF3.2.1; omega)
    · refine r_istore (L' := [_, _, _, _, _, _]) rfl rfl rfl ?_
      refine r_aload_n rfl rfl ?_
      refine r_getR rfl (by first | assumption | exact hs.o rfl | exact pro.1) (by first | assumption | exact hs.g rfl) ?_
      refine r_iconst rfl ?_
      refine r_bipush rfl ?_
      refine r_iconst rfl ?_
      refine r_callV3 rfl rfl (by first | assumption | exact hs.o rfl | exact pro.1) rfl (k_takeNumberF (by omega) hs.r16 hF2 ?_)
      refine r_istore (L' := [_, _, _, _, _, _]) rfl rfl rfl ?_
      refine r_aload_n rfl rfl ?_
      refine r_getR rfl (by first | assumption | exact hs.o rfl | exact pro.1) (by first | assumption | exact hs.g rfl) ?_
      refine r_getI rfl (by first | assumption | exact hs.o rfl | exact pro.1) hF2.1 ?_
      refine r_if_ne rfl (by have := hF2.2.1; omega) (fun h66 => ?_) (fun h66 => ?_)
      · refine r_ret rfl ?_
        exact K.2 _ (show sCar t pl rd p = .inl e2 by unfold sCar; rw [n1]; simp only; rw [n2]) f2 (((FrSh.rf P f).r hf1).r hf2) hF2
      · exact absurd h66 (by have := hF2.2.1; omega)
  · refine r_istore_n (L' := [_, _, _, _, _, _]) rfl rfl rfl ?_
    refine r_aload_n rfl rfl ?_
    refine r_getR rfl (by first | assumption | exact hs.o rfl | exact pro.1) (by first | assumption | exact hs.g rfl) ?_
    refine r_iconst rfl ?_
    refine r_aload_n rfl rfl ?_
    have hpcx := h.2.2.1.fr16 hP hf1
    refine r_getI rfl (by first | assumption | exact hs.o rfl | exact pro.1) (hpcx.2.1) ?_
    refine r_iconst rfl ?_
    refine r_isub rfl ?_
    refine r_iconst rfl ?_
    refine r_callV3 rfl rfl (by first | assumption | exact hs.o rfl | exact pro.1) rfl (k_takeNumberF (by omega) hs.r16 hF1 ?_)
    refine r_istore (L' := [_, _, _, _, _, _]) rfl rfl rfl ?_
    refine r_aload_n rfl rfl ?_
    refine r_getR rfl (by first | assumption | exact hs.o rfl | exact pro.1) (by first | assumption | exact hs.g rfl) ?_
    refine r_iconst rfl ?_
    refine r_bipush rfl ?_
    refine r_iconst rfl ?_
    refine r_callV3 rfl rfl (by first | assumption | exact hs.o rfl | exact pro.1) rfl (k_takeNumberF (by omega) hs.r16 hF1 ?_)
    refine r_istore (L' := [_, _, _, _, _, _]) rfl rfl rfl ?_
    refine r_aload_n rfl rfl ?_
    refine r_getR rfl (by first | assumption | exact hs.o rfl | exact pro.1) (by first | assumption | exact hs.g rfl) ?_
    refine r_getI rfl (by first | assumption | exact hs.o rfl | exact pro.1) hF1.1 ?_
    refine r_if_ne rfl (by have := hF1.2.1; omega) (fun h66 => ?_) (fun h66 => ?_)
    · refine r_ret rfl ?_
      exact K.2 _ (show sCar t pl rd p = .inl e1 by unfold sCar; rw [n1]) f1 ((FrSh.rf P f).r hf1) hF1
    · exact absurd h66 (by have := hF1.2.1; omega)
theorem k_readGap (hd : 4 ≤ d) (hs : Sh σ g) (hP : 240 ≤ P) (hpO : PO σ g P) (hT : TxOk t) (h : SG f t P p pl rd) (hpl : PlOk pl) (hst : StOk pl rd) (K : SK Q σ g f t P (sGap t pl rd p)) : ZCt d 29 [zr (some 15), zr (some P)] σ f g Q := by
  refine ZCt.of' (L0 := [_, _, _]) (by omega) rfl rfl rfl (fun d hd1 => ?_)
  have hpo' := hpO
  obtain ⟨po, ⟨pa1, pa2⟩, ⟨pg3, pg4, pg5⟩, pro⟩ := hpO
  have hp1 := hpl.1
  refine r_aload_n rfl rfl ?_
  refine r_getR rfl (by first | assumption | exact hs.o rfl | exact pro.1) (by first | assumption | exact hs.g rfl) ?_
  refine r_iconst rfl ?_
  refine r_aload_n rfl rfl ?_
  refine r_getI rfl (by first | assumption | exact hs.o rfl | exact pro.1) h.2.2.1.1 ?_
  refine r_iconst rfl ?_
  refine r_isub rfl ?_
  refine r_aload_n rfl rfl ?_
  refine r_getR rfl (by first | assumption | exact hs.o rfl | exact pro.1) pg5 ?_
  refine r_getI rfl pro.1 rfl ?_
  refine r_callV3 rfl rfl (by first | assumption | exact hs.o rfl | exact pro.1) rfl (k_takeNumber (by omega) hs.r16 h.1 hT h.2.1 (by omega) (by omega) (Bar.bits (bar := carInP rd) h.2.2.2.taken (by omega) (fun c hc => carIn_oc c)) (fun p1 v1 n1 f1 hf1 h1 => ?_) (fun e1 n1 f1 hf1 hF1 => ?_))
  · refine r_istore_n (L' := [_, _, _]) rfl rfl rfl ?_
    refine r_aload_n rfl rfl ?_
    refine r_getR rfl (by first | assumption | exact hs.o rfl | exact pro.1) (by first | assumption | exact hs.g rfl) ?_
    refine r_getI rfl (by first | assumption | exact hs.o rfl | exact pro.1) h1.2.1 ?_
    refine r_if_ne rfl (by omega) (fun h29 => ?_) (fun h29 => ?_)
    · exact absurd rfl h29
    · have hrc3 : RC f1 (P + 3) rd := h.2.2.2.fr (fun c q1 q2 => hf1 c (by omega))
      have hq1 := dNum_inr n1 h.2.1
      obtain ⟨c, hc⟩ := Int.eq_ofNat_of_zero_le (show 0 ≤ v1 by omega)
      subst hc
      refine r_aload_n rfl rfl ?_
      refine r_getR rfl (by first | assumption | exact hs.o rfl | exact pro.1) pg5 ?_
      refine r_dupr rfl ?_
      refine r_getI rfl pro.1 rfl ?_
      refine r_iconst rfl ?_
      refine r_iload_n rfl rfl ?_
      refine r_ishl rfl ?_
      refine r_ior rfl ?_
      refine r_putI rfl pro.1 ?_
      refine r_ret rfl ?_
      refine K.1 p1 pl (up2 rd 6 c 1) (show sGap t pl rd p = _ by unfold sGap; rw [n1]; rfl) _ (((FrSh.rf P f).r hf1).up (by omega)) ⟨h1.fr (by rw [up2_o _ _ (by omega)]) (by rw [up2_o _ _ (by omega)]), hq1.1, ?_, hrc3.openGap (by omega)⟩
      have hpc1 := h.2.2.1.fr16 hP hf1
      unfold PC at *
      rw [up2_o _ _ (by omega), up2_o _ _ (by omega), up2_o _ _ (by omega)]
      exact hpc1
  · refine r_istore_n (L' := [_, _, _]) rfl rfl rfl ?_
    refine r_aload_n rfl rfl ?_
    refine r_getR rfl (by first | assumption | exact hs.o rfl | exact pro.1) (by first | assumption | exact hs.g rfl) ?_
    refine r_getI rfl (by first | assumption | exact hs.o rfl | exact pro.1) hF1.1 ?_
    refine r_if_ne rfl (by have := hF1.2.1; omega) (fun h29 => ?_) (fun h29 => ?_)
    · refine r_ret rfl ?_
      exact K.2 _ (show sGap t pl rd p = .inl e1 by unfold sGap; rw [n1]) f1 ((FrSh.rf P f).r hf1) hF1
    · exact absurd h29 (by have := hF1.2.1; omega)
theorem k_wordS (hd : 5 ≤ d) {R : Nat} (ho : RdO σ g R) (h : Rdr f R t p) (hT : TxOk t) (hp : p ≤ t.2) (kn : woL t p wShows 0 = -1 → Q (some (zi (-1))) σ f g) (k0 : woL t p wShows 0 = 0 → isL t p = true → Q (some (zi 0)) σ f g) (k1 : woL t p wShows 0 = 1 → isL t p = true → Q (some (zi 1)) σ f g) (k2 : woL t p wShows 0 = 2 → isL t p = true → Q (some (zi 2)) σ f g) (k3 : woL t p wShows 0 = 3 → isL t p = true → Q (some (zi 3)) σ f g) : ZCt d 21 [zr (some R), zr (some (zX + 0))] σ f g Q := by
  refine k_wordOf hd ho h hT hp (by omega) ?_
  have h3 := woL_rng (t := t) (p := p) wShows 0
  have h4 : wShows.length = 4 := rfl
  have hL : ¬ woL t p wShows 0 = -1 → isL t p = true := fun q => by
    cases hl : isL t p with
    | true => rfl
    | false => exact absurd (woL_L wShows 0 wShows_ne hl) q
  show Q (some (zi (woL t p wShows 0))) σ f g
  have h5 : woL t p wShows 0 = -1 ∨ woL t p wShows 0 = 0 ∨ woL t p wShows 0 = 1 ∨ woL t p wShows 0 = 2 ∨ woL t p wShows 0 = 3 := by omega
  rcases h5 with q | q | q | q | q
  · rw [q]; exact kn q
  · rw [q]; exact k0 q (hL (by omega))
  · rw [q]; exact k1 q (hL (by omega))
  · rw [q]; exact k2 q (hL (by omega))
  · rw [q]; exact k3 q (hL (by omega))
theorem dShC_0 {c : Nat} (h : woL t p wShows 0 = -1) : dShC t c pl rd p = .inl (err p 0) := if_pos (by omega)
theorem dShC_4 {c : Nat} (h : ¬ woL t p wShows 0 = -1) (hc : 40 ≤ c ∨ (woL t p wShows 0 = 0 ∧ c ≠ 0) ∨ (woL t p wShows 0 ≠ 0 ∧ c = 0) ∨ (woL t p wShows 0 = 1 ∧ 5 ≤ pl.2.1) ∨ (woL t p wShows 0 = 2 ∧ 6 ≤ pl.2.2.1)) : dShC t c pl rd p = .inl (err p 4) := by
  have h3 := woL_rng (t := t) (p := p) wShows 0
  exact (if_neg (by omega)).trans (if_pos hc)
theorem dShC_g {c : Nat} (h : ¬ woL t p wShows 0 = -1) (hc : ¬ (40 ≤ c ∨ (woL t p wShows 0 = 0 ∧ c ≠ 0) ∨ (woL t p wShows 0 ≠ 0 ∧ c = 0) ∨ (woL t p wShows 0 = 1 ∧ 5 ≤ pl.2.1) ∨ (woL t p wShows 0 = 2 ∧ 6 ≤ pl.2.2.1))) : dShC t c pl rd p = if woL t p wShows 0 = 0 then sCells t pl rd (sk t (lE t p)) else if woL t p wShows 0 = 1 then sRoad t pl rd (sk t (lE t p)) else if woL t p wShows 0 = 2 then sCar t pl rd (sk t (lE t p)) else sGap t pl rd (sk t (lE t p)) := by
  have h3 := woL_rng (t := t) (p := p) wShows 0
  exact (if_neg (by omega)).trans (if_neg hc)
theorem SI.good {c : Nat} (h : SI c pl rd) (hc : c ≠ 0) : PlOk pl ∧ StOk pl rd := by
  rcases h with h | h
  · exact absurd h.1 hc
  · exact h.2
theorem SI.rng {c : Nat} (h : SI c pl rd) : (0 ≤ pl.2.1 ∧ pl.2.1 ≤ 5) ∧ (0 ≤ pl.2.2.1 ∧ pl.2.2.1 ≤ 6) := by
  rcases h with h | h
  · rw [h.2.1]; simp [pl0]
  · exact ⟨h.2.1.2.1, h.2.1.2.2.1⟩
theorem dShC_ok {c p' : Nat} {pl' : Pl} {rd' : Rd} (h : dShC t c pl rd p = .inr (p', pl', rd')) (hp : p ≤ t.2) (hS : SI c pl rd) : PlOk pl' ∧ StOk pl' rd' := by
  have h3 := woL_rng (t := t) (p := p) wShows 0
  have hsk := sk_le (lE_le hp)
  unfold dShC at h
  split at h
  · cases h
  · split at h
    · cases h
    · rename_i hc
      split at h
      · have hc0 : c = 0 := by omega
        rcases hS with q | q
        · rw [q.2.1, q.2.2] at h; exact sCells_ok h hsk
        · omega
      · have hc0 : c ≠ 0 := by omega
        obtain ⟨hpl, hst⟩ := hS.good hc0
        split at h
        · exact sRoad_ok h hsk hpl hst (by omega)
        · split at h
          · exact sCar_ok h hsk hpl hst (by omega)
          · exact sGap_ok h hsk hpl hst
theorem k_readClause (hd : 6 ≤ d) (hs : Sh σ g) (hP : 240 ≤ P) (hpO : PO σ g P) (hT : TxOk t) (h : SG f t P p pl rd) {c : Nat} (hc : c ≤ 40) (hS : SI c pl rd) (K : SK Q σ g f t P (dShC t c pl rd p)) : ZCt d 20 [zr (some 15), zr (some P), zi (c : Int)] σ f g Q := by
  refine ZCt.of' (L0 := [_, _, _, _]) (by omega) rfl rfl rfl (fun d hd1 => ?_)
  have po := hpO.1
  have hgood := hS.good
  have hrng := hS.rng
  have hp := h.2.1
  refine r_aload_n rfl rfl ?_
  refine r_getR rfl (by first | assumption | exact hs.o rfl | exact po) (by first | assumption | exact hs.g rfl) ?_
  refine r_ldcs rfl ?_
  refine r_callV1 rfl rfl (by first | assumption | exact hs.o rfl | exact po) rfl (k_wordS (by omega) hs.r16 h.1 hT h.2.1 (fun hW => ?_) (fun hW hL => ?_) (fun hW hL => ?_) (fun hW hL => ?_) (fun hW hL => ?_))
  · refine r_istore_n (L' := [_, _, _, _]) rfl rfl rfl ?_
    refine r_iload_n rfl rfl ?_
    refine r_iconst rfl ?_
    refine r_icmp_n rfl (by decide) ?_
    refine r_aload_n rfl rfl ?_
    refine r_getR rfl (by first | assumption | exact hs.o rfl | exact po) (by first | assumption | exact hs.g rfl) ?_
    refine r_iconst rfl ?_
    refine r_callV1 rfl rfl (by first | assumption | exact hs.o rfl | exact po) rfl (k_refuse (by omega) hs.r16 h.1 (by have := hT.1; have := h.2.1; omega) (by omega) (fun f1 hf1 hF => ?_))
    refine r_ret rfl ?_
    exact K.2 _ (dShC_0 hW) f1 ((FrSh.rf P f).r hf1) hF
  · refine r_istore_n (L' := [_, _, _, _]) rfl rfl rfl ?_
    refine r_iload_n rfl rfl ?_
    refine r_iconst rfl ?_
    refine r_icmp_y rfl (by decide) ?_
    refine r_iload_n rfl rfl ?_
    refine r_bipush rfl ?_
    refine r_icmp_ge rfl (by omega) (by omega) (fun h27 => ?_) (fun h27 => ?_)
    · refine r_aload_n rfl rfl ?_
      refine r_getR rfl (by first | assumption | exact hs.o rfl | exact po) (by first | assumption | exact hs.g rfl) ?_
      refine r_iconst rfl ?_
      refine r_callV1 rfl rfl (by first | assumption | exact hs.o rfl | exact po) rfl (k_refuse (by omega) hs.r16 h.1 (by have := hT.1; have := h.2.1; omega) (by omega) (fun f1 hf1 hF => ?_))
      refine r_ret rfl ?_
      exact K.2 _ (dShC_4 (by omega) (by omega)) f1 ((FrSh.rf P f).r hf1) hF
    · refine r_iload_n rfl rfl ?_
      refine r_if_n rfl (by decide) ?_
      refine r_iconst rfl ?_
      refine r_goto rfl ?_
      refine r_iload_n rfl rfl ?_
      refine r_if_ne rfl (by omega) (fun h40 => ?_) (fun h40 => ?_)
      · refine r_iconst rfl ?_
        refine r_icmp_y rfl (by decide) ?_
        refine r_aload_n rfl rfl ?_
        refine r_getR rfl (by first | assumption | exact hs.o rfl | exact po) (by first | assumption | exact hs.g rfl) ?_
        refine r_iconst rfl ?_
        refine r_callV1 rfl rfl (by first | assumption | exact hs.o rfl | exact po) rfl (k_refuse (by omega) hs.r16 h.1 (by have := hT.1; have := h.2.1; omega) (by omega) (fun f1 hf1 hF => ?_))
        refine r_ret rfl ?_
        exact K.2 _ (dShC_4 (by omega) (by omega)) f1 ((FrSh.rf P f).r hf1) hF
      · refine r_iconst rfl ?_
        refine r_goto rfl ?_
        refine r_icmp_n rfl (by decide) ?_
        refine r_iload_n rfl rfl ?_
        refine r_iconst rfl ?_
        refine r_icmp_y rfl (by decide) ?_
        refine r_iload_n rfl rfl ?_
        refine r_iconst rfl ?_
        refine r_icmp_y rfl (by decide) ?_
        refine r_aload_n rfl rfl ?_
        refine r_getR rfl (by first | assumption | exact hs.o rfl | exact po) (by first | assumption | exact hs.g rfl) ?_
        have hsk := sk_le (lE_le h.2.1)
        refine r_callV0 rfl rfl (by first | assumption | exact hs.o rfl | exact po) rfl (k_next (q := lE t p) (by omega) hs.r16 hT h.1.1 h.1.2.1 (h.1.2.2.2.1.trans (by rw [tE_L hL])) (lE_le h.2.1) (fun f1 hf1 h1 => ?_))
        refine r_iload_n rfl rfl ?_
        refine r_tsw rfl (by omega) rfl (And.intro (fun _ => ?_) (fun e => absurd rfl e))
        refine r_aload_n rfl rfl ?_
        refine r_aload_n rfl rfl ?_
        refine r_getR rfl (by first | assumption | exact hs.o rfl | exact po) (by first | assumption | exact hs.g rfl) ?_
        refine r_iconst rfl ?_
        refine r_bipush rfl ?_
        refine r_iconst rfl ?_
        have eq := dShC_g (t := t) (c := c) (pl := pl) (rd := rd) (p := p) (by omega) (by omega)
        rw [if_pos hW] at eq
        have hpc1 := h.2.2.1.fr16 hP hf1
        refine r_callV3 rfl rfl (by first | assumption | exact hs.o rfl | exact po) rfl (k_takeNumber (by omega) hs.r16 h1 hT hsk (by omega) (by omega) (Bar.zero 20) (fun p2 v2 n2 f2 hf2 h2 => ?_) (fun e2 n2 f2 hf2 hF2 => ?_))
        · refine r_putI rfl po ?_
          refine r_goto rfl ?_
          refine r_ret rfl ?_
          refine K.1 p2 _ rd (eq.trans (by unfold sCells; rw [n2])) _ ((((FrSh.rf P f).r hf1).r hf2).up (by omega)) ⟨h2.fr (by rw [up2_o _ _ (by omega)]) (by rw [up2_o _ _ (by omega)]), (dNum_inr n2 hsk).1, ?_, h.2.2.2.fr (fun c q1 q2 => by rw [up2_o _ _ (by omega), hf2 c (by omega), hf1 c (by omega)])⟩
          have hpc2 := hpc1.fr16 hP hf2
          refine ⟨up2_same _ _ _ _, ?_, ?_, fun j hj => ?_⟩
          · rw [up2_ne _ _ (by omega)]; exact hpc2.2.1
          · rw [up2_ne _ _ (by omega)]; exact hpc2.2.2.1
          · rw [up2_o _ _ (by omega), up2_o _ _ (by omega)]; exact hpc2.2.2.2 j hj
        · refine r_putI rfl po ?_
          refine r_goto rfl ?_
          refine r_ret rfl ?_
          exact K.2 _ (eq.trans (by unfold sCells; rw [n2])) _ ((((FrSh.rf P f).r hf1).r hf2).up (by omega)) (hF2.fr (by rw [up2_o _ _ (by omega)]))
  · refine r_istore_n (L' := [_, _, _, _]) rfl rfl rfl ?_
    refine r_iload_n rfl rfl ?_
    refine r_iconst rfl ?_
    refine r_icmp_y rfl (by decide) ?_
    refine r_iload_n rfl rfl ?_
    refine r_bipush rfl ?_
    refine r_icmp_ge rfl (by omega) (by omega) (fun h27 => ?_) (fun h27 => ?_)
    · refine r_aload_n rfl rfl ?_
      refine r_getR rfl (by first | assumption | exact hs.o rfl | exact po) (by first | assumption | exact hs.g rfl) ?_
      refine r_iconst rfl ?_
      refine r_callV1 rfl rfl (by first | assumption | exact hs.o rfl | exact po) rfl (k_refuse (by omega) hs.r16 h.1 (by have := hT.1; have := h.2.1; omega) (by omega) (fun f1 hf1 hF => ?_))
      refine r_ret rfl ?_
      exact K.2 _ (dShC_4 (by omega) (by omega)) f1 ((FrSh.rf P f).r hf1) hF
    · refine r_iload_n rfl rfl ?_
      refine r_if_y rfl (by decide) ?_
      refine r_iconst rfl ?_
      refine r_iload_n rfl rfl ?_
      refine r_if_ne rfl (by omega) (fun h40 => ?_) (fun h40 => ?_)
      · refine r_iconst rfl ?_
        refine r_icmp_n rfl (by decide) ?_
        refine r_iload_n rfl rfl ?_
        refine r_iconst rfl ?_
        refine r_icmp_n rfl (by decide) ?_
        refine r_aload_n rfl rfl ?_
        refine r_getI rfl (by first | assumption | exact hs.o rfl | exact po) h.2.2.1.2.1 ?_
        refine r_iconst rfl ?_
        refine r_icmp_ge rfl (by have := hrng; omega) (by omega) (fun h61 => ?_) (fun h61 => ?_)
        · refine r_aload_n rfl rfl ?_
          refine r_getR rfl (by first | assumption | exact hs.o rfl | exact po) (by first | assumption | exact hs.g rfl) ?_
          refine r_iconst rfl ?_
          refine r_callV1 rfl rfl (by first | assumption | exact hs.o rfl | exact po) rfl (k_refuse (by omega) hs.r16 h.1 (by have := hT.1; have := h.2.1; omega) (by omega) (fun f1 hf1 hF => ?_))
          refine r_ret rfl ?_
          exact K.2 _ (dShC_4 (by omega) (by omega)) f1 ((FrSh.rf P f).r hf1) hF
        · refine r_iload_n rfl rfl ?_
          refine r_iconst rfl ?_
          refine r_icmp_y rfl (by decide) ?_
          refine r_aload_n rfl rfl ?_
          refine r_getR rfl (by first | assumption | exact hs.o rfl | exact po) (by first | assumption | exact hs.g rfl) ?_
          have hsk := sk_le (lE_le h.2.1)
          refine r_callV0 rfl rfl (by first | assumption | exact hs.o rfl | exact po) rfl (k_next (q := lE t p) (by omega) hs.r16 hT h.1.1 h.1.2.1 (h.1.2.2.2.1.trans (by rw [tE_L hL])) (lE_le h.2.1) (fun f1 hf1 h1 => ?_))
          refine r_iload_n rfl rfl ?_
          refine r_tsw rfl (by omega) rfl (And.intro (fun e => absurd e (by decide)) (fun _ => (And.intro (fun _ => ?_) (fun e => absurd rfl e))))
          refine r_aload_n rfl rfl ?_
          refine r_aload_n rfl rfl ?_
          have eq := dShC_g (t := t) (c := c) (pl := pl) (rd := rd) (p := p) (by omega) (by omega)
          rw [if_neg (by omega), if_pos hW] at eq
          obtain ⟨hpl, hst⟩ := hgood (by omega)
          rw [eq] at K
          refine r_callV1 rfl rfl (by first | assumption | exact hs.o rfl | exact po) rfl (k_readRoad (by omega) hs hP hpO hT (h.to hP hf1 h1 hsk) hpl hst (by omega) ⟨fun p2 pl2 rd2 n2 f2 hf2 h2 => ?_, fun e2 n2 f2 hf2 hF2 => ?_⟩)
          · refine r_goto rfl ?_
            refine r_ret rfl ?_
            exact K.1 _ _ _ n2 f2 (((FrSh.rf P f).r hf1).trans hf2) h2
          · refine r_goto rfl ?_
            refine r_ret rfl ?_
            exact K.2 _ n2 f2 (((FrSh.rf P f).r hf1).trans hf2) hF2
      · refine r_iconst rfl ?_
        refine r_goto rfl ?_
        refine r_icmp_y rfl (by decide) ?_
        refine r_aload_n rfl rfl ?_
        refine r_getR rfl (by first | assumption | exact hs.o rfl | exact po) (by first | assumption | exact hs.g rfl) ?_
        refine r_iconst rfl ?_
        refine r_callV1 rfl rfl (by first | assumption | exact hs.o rfl | exact po) rfl (k_refuse (by omega) hs.r16 h.1 (by have := hT.1; have := h.2.1; omega) (by omega) (fun f1 hf1 hF => ?_))
        refine r_ret rfl ?_
        exact K.2 _ (dShC_4 (by omega) (by omega)) f1 ((FrSh.rf P f).r hf1) hF
  · refine r_istore_n (L' := [_, _, _, _]) rfl rfl rfl ?_
    refine r_iload_n rfl rfl ?_
    refine r_iconst rfl ?_
    refine r_icmp_y rfl (by decide) ?_
    refine r_iload_n rfl rfl ?_
    refine r_bipush rfl ?_
    refine r_icmp_ge rfl (by omega) (by omega) (fun h27 => ?_) (fun h27 => ?_)
    · refine r_aload_n rfl rfl ?_
      refine r_getR rfl (by first | assumption | exact hs.o rfl | exact po) (by first | assumption | exact hs.g rfl) ?_
      refine r_iconst rfl ?_
      refine r_callV1 rfl rfl (by first | assumption | exact hs.o rfl | exact po) rfl (k_refuse (by omega) hs.r16 h.1 (by have := hT.1; have := h.2.1; omega) (by omega) (fun f1 hf1 hF => ?_))
      refine r_ret rfl ?_
      exact K.2 _ (dShC_4 (by omega) (by omega)) f1 ((FrSh.rf P f).r hf1) hF
    · refine r_iload_n rfl rfl ?_
      refine r_if_y rfl (by decide) ?_
      refine r_iconst rfl ?_
      refine r_iload_n rfl rfl ?_
      refine r_if_ne rfl (by omega) (fun h40 => ?_) (fun h40 => ?_)
      · refine r_iconst rfl ?_
        refine r_icmp_n rfl (by decide) ?_
        refine r_iload_n rfl rfl ?_
        refine r_iconst rfl ?_
        refine r_icmp_y rfl (by decide) ?_
        refine r_iload_n rfl rfl ?_
        refine r_iconst rfl ?_
        refine r_icmp_n rfl (by decide) ?_
        refine r_aload_n rfl rfl ?_
        refine r_getI rfl (by first | assumption | exact hs.o rfl | exact po) h.2.2.1.2.2.1 ?_
        refine r_bipush rfl ?_
        refine r_icmp_lt rfl (by have := hrng; omega) (by omega) (fun h75 => ?_) (fun h75 => ?_)
        · refine r_aload_n rfl rfl ?_
          refine r_getR rfl (by first | assumption | exact hs.o rfl | exact po) (by first | assumption | exact hs.g rfl) ?_
          have hsk := sk_le (lE_le h.2.1)
          refine r_callV0 rfl rfl (by first | assumption | exact hs.o rfl | exact po) rfl (k_next (q := lE t p) (by omega) hs.r16 hT h.1.1 h.1.2.1 (h.1.2.2.2.1.trans (by rw [tE_L hL])) (lE_le h.2.1) (fun f1 hf1 h1 => ?_))
          refine r_iload_n rfl rfl ?_
          refine r_tsw rfl (by omega) rfl (And.intro (fun e => absurd e (by decide)) (fun _ => (And.intro (fun e => absurd e (by decide)) (fun _ => (And.intro (fun _ => ?_) (fun e => absurd rfl e))))))
          refine r_aload_n rfl rfl ?_
          refine r_aload_n rfl rfl ?_
          have eq := dShC_g (t := t) (c := c) (pl := pl) (rd := rd) (p := p) (by omega) (by omega)
          rw [if_neg (by omega), if_neg (by omega), if_pos hW] at eq
          obtain ⟨hpl, hst⟩ := hgood (by omega)
          rw [eq] at K
          refine r_callV1 rfl rfl (by first | assumption | exact hs.o rfl | exact po) rfl (k_readCar (by omega) hs hP hpO hT (h.to hP hf1 h1 hsk) hpl hst (by omega) ⟨fun p2 pl2 rd2 n2 f2 hf2 h2 => ?_, fun e2 n2 f2 hf2 hF2 => ?_⟩)
          · refine r_goto rfl ?_
            refine r_ret rfl ?_
            exact K.1 _ _ _ n2 f2 (((FrSh.rf P f).r hf1).trans hf2) h2
          · refine r_goto rfl ?_
            refine r_ret rfl ?_
            exact K.2 _ n2 f2 (((FrSh.rf P f).r hf1).trans hf2) hF2
        · refine r_aload_n rfl rfl ?_
          refine r_getR rfl (by first | assumption | exact hs.o rfl | exact po) (by first | assumption | exact hs.g rfl) ?_
          refine r_iconst rfl ?_
          refine r_callV1 rfl rfl (by first | assumption | exact hs.o rfl | exact po) rfl (k_refuse (by omega) hs.r16 h.1 (by have := hT.1; have := h.2.1; omega) (by omega) (fun f1 hf1 hF => ?_))
          refine r_ret rfl ?_
          exact K.2 _ (dShC_4 (by omega) (by omega)) f1 ((FrSh.rf P f).r hf1) hF
      · refine r_iconst rfl ?_
        refine r_goto rfl ?_
        refine r_icmp_y rfl (by decide) ?_
        refine r_aload_n rfl rfl ?_
        refine r_getR rfl (by first | assumption | exact hs.o rfl | exact po) (by first | assumption | exact hs.g rfl) ?_
        refine r_iconst rfl ?_
        refine r_callV1 rfl rfl (by first | assumption | exact hs.o rfl | exact po) rfl (k_refuse (by omega) hs.r16 h.1 (by have := hT.1; have := h.2.1; omega) (by omega) (fun f1 hf1 hF => ?_))
        refine r_ret rfl ?_
        exact K.2 _ (dShC_4 (by omega) (by omega)) f1 ((FrSh.rf P f).r hf1) hF
  · refine r_istore_n (L' := [_, _, _, _]) rfl rfl rfl ?_
    refine r_iload_n rfl rfl ?_
    refine r_iconst rfl ?_
    refine r_icmp_y rfl (by decide) ?_
    refine r_iload_n rfl rfl ?_
    refine r_bipush rfl ?_
    refine r_icmp_ge rfl (by omega) (by omega) (fun h27 => ?_) (fun h27 => ?_)
    · refine r_aload_n rfl rfl ?_
      refine r_getR rfl (by first | assumption | exact hs.o rfl | exact po) (by first | assumption | exact hs.g rfl) ?_
      refine r_iconst rfl ?_
      refine r_callV1 rfl rfl (by first | assumption | exact hs.o rfl | exact po) rfl (k_refuse (by omega) hs.r16 h.1 (by have := hT.1; have := h.2.1; omega) (by omega) (fun f1 hf1 hF => ?_))
      refine r_ret rfl ?_
      exact K.2 _ (dShC_4 (by omega) (by omega)) f1 ((FrSh.rf P f).r hf1) hF
    · refine r_iload_n rfl rfl ?_
      refine r_if_y rfl (by decide) ?_
      refine r_iconst rfl ?_
      refine r_iload_n rfl rfl ?_
      refine r_if_ne rfl (by omega) (fun h40 => ?_) (fun h40 => ?_)
      · refine r_iconst rfl ?_
        refine r_icmp_n rfl (by decide) ?_
        refine r_iload_n rfl rfl ?_
        refine r_iconst rfl ?_
        refine r_icmp_y rfl (by decide) ?_
        refine r_iload_n rfl rfl ?_
        refine r_iconst rfl ?_
        refine r_icmp_y rfl (by decide) ?_
        refine r_aload_n rfl rfl ?_
        refine r_getR rfl (by first | assumption | exact hs.o rfl | exact po) (by first | assumption | exact hs.g rfl) ?_
        have hsk := sk_le (lE_le h.2.1)
        refine r_callV0 rfl rfl (by first | assumption | exact hs.o rfl | exact po) rfl (k_next (q := lE t p) (by omega) hs.r16 hT h.1.1 h.1.2.1 (h.1.2.2.2.1.trans (by rw [tE_L hL])) (lE_le h.2.1) (fun f1 hf1 h1 => ?_))
        refine r_iload_n rfl rfl ?_
        refine r_tsw rfl (by omega) rfl (And.intro (fun e => absurd e (by decide)) (fun _ => (And.intro (fun e => absurd e (by decide)) (fun _ => (And.intro (fun e => absurd e (by decide)) (fun _ => ?_))))))
        refine r_aload_n rfl rfl ?_
        refine r_aload_n rfl rfl ?_
        have eq := dShC_g (t := t) (c := c) (pl := pl) (rd := rd) (p := p) (by omega) (by omega)
        rw [if_neg (by omega), if_neg (by omega), if_neg (by omega)] at eq
        obtain ⟨hpl, hst⟩ := hgood (by omega)
        rw [eq] at K
        refine r_callV1 rfl rfl (by first | assumption | exact hs.o rfl | exact po) rfl (k_readGap (by omega) hs hP hpO hT (h.to hP hf1 h1 hsk) hpl hst ⟨fun p2 pl2 rd2 n2 f2 hf2 h2 => ?_, fun e2 n2 f2 hf2 hF2 => ?_⟩)
        · refine r_ret rfl ?_
          exact K.1 _ _ _ n2 f2 (((FrSh.rf P f).r hf1).trans hf2) h2
        · refine r_ret rfl ?_
          exact K.2 _ n2 f2 (((FrSh.rf P f).r hf1).trans hf2) hF2
      · refine r_iconst rfl ?_
        refine r_goto rfl ?_
        refine r_icmp_y rfl (by decide) ?_
        refine r_aload_n rfl rfl ?_
        refine r_getR rfl (by first | assumption | exact hs.o rfl | exact po) (by first | assumption | exact hs.g rfl) ?_
        refine r_iconst rfl ?_
        refine r_callV1 rfl rfl (by first | assumption | exact hs.o rfl | exact po) rfl (k_refuse (by omega) hs.r16 h.1 (by have := hT.1; have := h.2.1; omega) (by omega) (fun f1 hf1 hF => ?_))
        refine r_ret rfl ?_
        exact K.2 _ (dShC_4 (by omega) (by omega)) f1 ((FrSh.rf P f).r hf1) hF
end SHOWC
