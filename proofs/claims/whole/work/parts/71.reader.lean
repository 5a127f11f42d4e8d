/-! The class's Reader -/
def kdc (x : Int) : Int := if 48 ≤ x ∧ x ≤ 57 then 1 else if 97 ≤ x ∧ x ≤ 122 then 2 else 3
theorem kdc_rng (x : Int) : 1 ≤ kdc x ∧ kdc x ≤ 3 := by
  unfold kdc
  split
  · omega
  · split <;> omega
def kd (t : Tx) (p : Nat) : Int := if p < t.2 then (if isD t p = true then 1 else if isL t p = true then 2 else 3) else 0
def tE (t : Tx) (p : Nat) : Nat := if p < t.2 then (if isD t p = true then dE t p else if isL t p = true then lE t p else cmpE t p) else p
def sv (t : Tx) (p : Nat) : Int := t.1 p + (if (isS t p 60 = true ∨ isS t p 62 = true) ∧ isS t (p + 1) 61 = true then 256 else 0)
theorem kdc_D {t : Tx} {i : Nat} (h : i < t.2) : isD t i = true ↔ kdc (t.1 i) = 1 := by
  rw [isD_iff]
  unfold kdc
  split
  · omega
  · split <;> omega
theorem kdc_L {t : Tx} {i : Nat} (h : i < t.2) : isL t i = true ↔ kdc (t.1 i) = 2 := by
  rw [isL_iff]
  unfold kdc
  split
  · omega
  · split <;> omega
theorem kd_lt {t : Tx} {p : Nat} (h : p < t.2) : kd t p = kdc (t.1 p) := by
  unfold kd
  rw [if_pos h]
  by_cases h1 : isD t p = true
  · rw [if_pos h1, (kdc_D h).1 h1]
  · rw [if_neg h1]
    by_cases h2 : isL t p = true
    · rw [if_pos h2, (kdc_L h).1 h2]
    · rw [if_neg h2]
      have h3 := kdc_rng (t.1 p)
      have h4 : ¬ kdc (t.1 p) = 1 := fun q => h1 ((kdc_D h).2 q)
      have h5 : ¬ kdc (t.1 p) = 2 := fun q => h2 ((kdc_L h).2 q)
      omega
theorem kd_rng (t : Tx) (p : Nat) : 0 ≤ kd t p ∧ kd t p ≤ 3 := by
  unfold kd
  split
  · split
    · omega
    · split <;> omega
  · omega
theorem tE_D {t : Tx} {p : Nat} (h : isD t p = true) : tE t p = dE t p := by
  unfold tE
  rw [if_pos (isD_iff.1 h).1, if_pos h]
theorem kd_D {t : Tx} {p : Nat} : kd t p = 1 ↔ isD t p = true := by
  unfold kd
  constructor
  · intro h
    split at h
    · split at h
      · assumption
      · split at h <;> omega
    · omega
  · intro h
    rw [if_pos (isD_iff.1 h).1, if_pos h]
theorem kd_L {t : Tx} {p : Nat} : kd t p = 2 ↔ isL t p = true := by
  by_cases h : p < t.2
  · rw [kd_lt h, kdc_L h]
  · constructor
    · intro q
      unfold kd at q
      rw [if_neg h] at q
      omega
    · intro q
      exact absurd (isL_iff.1 q).1 h
theorem tE_L {t : Tx} {p : Nat} (h : isL t p = true) : tE t p = lE t p := by
  have h1 := (isL_iff.1 h).1
  unfold tE
  rw [if_pos h1, if_neg (fun q => by have := (kdc_D h1).1 q; have := (kdc_L h1).1 h; omega), if_pos h]
theorem kd_S {t : Tx} {p : Nat} (h : p < t.2) (h3 : kdc (t.1 p) = 3) : kd t p = 3 ∧ tE t p = cmpE t p := by
  refine ⟨by rw [kd_lt h, h3], ?_⟩
  unfold tE
  rw [if_pos h, if_neg (fun q => by have := (kdc_D h).1 q; omega), if_neg (fun q => by have := (kdc_L h).1 q; omega)]
theorem kd_0 {t : Tx} {p : Nat} : kd t p = 0 ↔ ¬ p < t.2 := by
  by_cases h : p < t.2
  · rw [kd_lt h]
    have := kdc_rng (t.1 p)
    omega
  · unfold kd
    rw [if_neg h]
    exact ⟨fun _ => h, fun _ => rfl⟩
theorem tE_ge (t : Tx) (p : Nat) : p ≤ tE t p := by
  have h1 := dE_ge t p
  have h2 := lE_ge t p
  unfold tE cmpE
  split
  · split
    · exact h1
    · split
      · exact h2
      · split <;> omega
  · omega
theorem tE_le {t : Tx} {p : Nat} (h : p ≤ t.2) : tE t p ≤ t.2 := by
  have h1 := dE_le h
  have h2 := lE_le h
  unfold tE
  split
  · split
    · exact h1
    · split
      · exact h2
      · unfold cmpE
        split
        · rename_i q
          have := (isS_iff.1 q.2).1
          omega
        · omega
  · omega
/-- a sign that isn't of two -/
theorem sg_one {t : Tx} {p : Nat} {c : Int} (h : isS t p c = true) (hc : kdc c = 3) (h1 : c ≠ 60) (h2 : c ≠ 62) : kd t p = 3 ∧ tE t p = p + 1 ∧ sv t p = c := by
  obtain ⟨q1, q2⟩ := isS_iff.1 h
  obtain ⟨a1, a2⟩ := kd_S q1 (by rw [q2]; exact hc)
  have e : ¬ ((isS t p 60 = true ∨ isS t p 62 = true) ∧ isS t (p + 1) 61 = true) := by
    intro z
    rcases z.1 with z | z
    · have := (isS_iff.1 z).2; omega
    · have := (isS_iff.1 z).2; omega
  refine ⟨a1, ?_, ?_⟩
  · rw [a2]; unfold cmpE; rw [if_neg e]
  · unfold sv; rw [if_neg e, q2]; omega
theorem sv_one {t : Tx} {p : Nat} {c : Int} (hp : kd t p = 3) (hT : ∀ i, i < t.2 → -128 ≤ t.1 i ∧ t.1 i ≤ 127) (hc : 0 ≤ c ∧ c ≤ 127) (h1 : c ≠ 60) (h2 : c ≠ 62) (h : sv t p = c) : isS t p c = true := by
  have hlt : p < t.2 := by
    apply Classical.byContradiction
    intro q
    rw [kd_0.2 q] at hp
    omega
  have := hT p hlt
  unfold sv at h
  split at h
  · rename_i z
    rcases z.1 with z | z
    · have := (isS_iff.1 z).2; omega
    · have := (isS_iff.1 z).2; omega
  · exact isS_iff.2 ⟨hlt, by omega⟩
def RdO (σ : ZS) (g : ZG) (R : Nat) : Prop := zO σ R 4 ∧ zA σ (R + 1) 101 400 ∧ g R 3 = some (R + 1)
def TxOk (t : Tx) : Prop := t.2 ≤ 400 ∧ ∀ i, i < t.2 → -128 ≤ t.1 i ∧ t.1 i ≤ 127
/-- a text is laid in -/
def RdX (f : ZF) (R : Nat) (t : Tx) : Prop := f R 4 = (t.2 : Int) ∧ ∀ i, i < t.2 → f (R + 1) i = t.1 i
/-- the token at p is the one that stands -/
def Rdr (f : ZF) (R : Nat) (t : Tx) (p : Nat) : Prop := RdX f R t ∧ f R 2 = 0 ∧ f R 5 = (p : Int) ∧ f R 6 = (tE t p : Int) ∧ f R 0 = kd t p ∧ (kd t p = 3 → f R 1 = sv t p) ∧ (kd t p = 1 → f R 1 = num t p (tE t p - p))
/-- behind a fault -/
def RdF (f : ZF) (R : Nat) (e : Int) : Prop := f R 2 = e ∧ (1 ≤ e ∧ e ≤ 4000) ∧ f R 0 = 4
def Fr1 (R : Nat) (f f' : ZF) : Prop := ∀ c, c ≠ R → f' c = f c
theorem Fr1.rf (R : Nat) (f : ZF) : Fr1 R f f := fun _ _ => rfl
theorem Fr1.trans {R : Nat} {a b c : ZF} (h1 : Fr1 R a b) (h2 : Fr1 R b c) : Fr1 R a c := fun k q => (h2 k q).trans (h1 k q)
theorem Fr1.up {R i : Nat} {f0 f : ZF} {v : Int} (h : Fr1 R f0 f) : Fr1 R f0 (up2 f R i v) := fun c q => (up2_o _ _ q).trans (h c q)
theorem RdX.fr {f f' : ZF} {R : Nat} {t : Tx} (h : RdX f R t) (hf : Fr1 R f f') (h4 : f' R 4 = f R 4) : RdX f' R t := ⟨h4.trans h.1, fun i hi => by rw [hf (R + 1) (by omega)]; exact h.2 i hi⟩
theorem Rdr.fr {f f' : ZF} {R : Nat} {t : Tx} {p : Nat} (h : Rdr f R t p) (h0 : f' R = f R) (h1 : f' (R + 1) = f (R + 1)) : Rdr f' R t p := by
  unfold Rdr RdX at *
  rw [h0, h1]
  exact h
theorem RdF.fr {f f' : ZF} {R : Nat} {e : Int} (h : RdF f R e) (h0 : f' R = f R) : RdF f' R e := by
  unfold RdF at *
  rw [h0]
  exact h
section READER
variable {d : Nat} {σ : ZS} {f : ZF} {g : ZG} {Q : ZQ} {R p q : Nat} {t : Tx} {e : Int}
theorem c_kindOf (hd : 1 ≤ d) {x : Int} (hx : -128 ≤ x ∧ x ≤ 127) (K : Q (some (zi (kdc x))) σ f g) : ZCt d 19 [zi x] σ f g Q := by
  refine ZCt.of' (L0 := [_]) (by omega) rfl rfl rfl (fun d hd1 => ?_)
  refine r_iload_n rfl rfl ?_
  refine r_bipush rfl ?_
  refine r_icmp_lt rfl (by omega) (by omega) (fun h3 => ?_) (fun h3 => ?_)
  · refine r_iload_n rfl rfl ?_
    refine r_bipush rfl ?_
    refine r_icmp_lt rfl (by omega) (by omega) (fun h17 => ?_) (fun h17 => ?_)
    · refine r_iconst rfl ?_
      refine r_iret rfl ?_
      first | exact Eq.mp (congrArg (fun z => Q (some (zi z)) σ f g) (show kdc x = 1 by unfold kdc; rw [if_pos (by omega)])) K | exact Eq.mp (congrArg (fun z => Q (some (zi z)) σ f g) (show kdc x = 2 by unfold kdc; rw [if_neg (by omega), if_pos (by omega)])) K | exact Eq.mp (congrArg (fun z => Q (some (zi z)) σ f g) (show kdc x = 3 by unfold kdc; rw [if_neg (by omega), if_neg (by omega)])) K
    · refine r_iload_n rfl rfl ?_
      refine r_bipush rfl ?_
      refine r_icmp_gt rfl (by omega) (by omega) (fun h23 => ?_) (fun h23 => ?_)
      · refine r_iconst rfl ?_
        refine r_iret rfl ?_
        first | exact Eq.mp (congrArg (fun z => Q (some (zi z)) σ f g) (show kdc x = 1 by unfold kdc; rw [if_pos (by omega)])) K | exact Eq.mp (congrArg (fun z => Q (some (zi z)) σ f g) (show kdc x = 2 by unfold kdc; rw [if_neg (by omega), if_pos (by omega)])) K | exact Eq.mp (congrArg (fun z => Q (some (zi z)) σ f g) (show kdc x = 3 by unfold kdc; rw [if_neg (by omega), if_neg (by omega)])) K
      · refine r_iconst rfl ?_
        refine r_goto rfl ?_
        refine r_iret rfl ?_
        first | exact Eq.mp (congrArg (fun z => Q (some (zi z)) σ f g) (show kdc x = 1 by unfold kdc; rw [if_pos (by omega)])) K | exact Eq.mp (congrArg (fun z => Q (some (zi z)) σ f g) (show kdc x = 2 by unfold kdc; rw [if_neg (by omega), if_pos (by omega)])) K | exact Eq.mp (congrArg (fun z => Q (some (zi z)) σ f g) (show kdc x = 3 by unfold kdc; rw [if_neg (by omega), if_neg (by omega)])) K
  · refine r_iload_n rfl rfl ?_
    refine r_bipush rfl ?_
    refine r_icmp_gt rfl (by omega) (by omega) (fun h9 => ?_) (fun h9 => ?_)
    · refine r_iload_n rfl rfl ?_
      refine r_bipush rfl ?_
      refine r_icmp_lt rfl (by omega) (by omega) (fun h17 => ?_) (fun h17 => ?_)
      · refine r_iconst rfl ?_
        refine r_iret rfl ?_
        first | exact Eq.mp (congrArg (fun z => Q (some (zi z)) σ f g) (show kdc x = 1 by unfold kdc; rw [if_pos (by omega)])) K | exact Eq.mp (congrArg (fun z => Q (some (zi z)) σ f g) (show kdc x = 2 by unfold kdc; rw [if_neg (by omega), if_pos (by omega)])) K | exact Eq.mp (congrArg (fun z => Q (some (zi z)) σ f g) (show kdc x = 3 by unfold kdc; rw [if_neg (by omega), if_neg (by omega)])) K
      · refine r_iload_n rfl rfl ?_
        refine r_bipush rfl ?_
        refine r_icmp_gt rfl (by omega) (by omega) (fun h23 => ?_) (fun h23 => ?_)
        · refine r_iconst rfl ?_
          refine r_iret rfl ?_
          first | exact Eq.mp (congrArg (fun z => Q (some (zi z)) σ f g) (show kdc x = 1 by unfold kdc; rw [if_pos (by omega)])) K | exact Eq.mp (congrArg (fun z => Q (some (zi z)) σ f g) (show kdc x = 2 by unfold kdc; rw [if_neg (by omega), if_pos (by omega)])) K | exact Eq.mp (congrArg (fun z => Q (some (zi z)) σ f g) (show kdc x = 3 by unfold kdc; rw [if_neg (by omega), if_neg (by omega)])) K
        · refine r_iconst rfl ?_
          refine r_goto rfl ?_
          refine r_iret rfl ?_
          first | exact Eq.mp (congrArg (fun z => Q (some (zi z)) σ f g) (show kdc x = 1 by unfold kdc; rw [if_pos (by omega)])) K | exact Eq.mp (congrArg (fun z => Q (some (zi z)) σ f g) (show kdc x = 2 by unfold kdc; rw [if_neg (by omega), if_pos (by omega)])) K | exact Eq.mp (congrArg (fun z => Q (some (zi z)) σ f g) (show kdc x = 3 by unfold kdc; rw [if_neg (by omega), if_neg (by omega)])) K
    · refine r_iconst rfl ?_
      refine r_iret rfl ?_
      first | exact Eq.mp (congrArg (fun z => Q (some (zi z)) σ f g) (show kdc x = 1 by unfold kdc; rw [if_pos (by omega)])) K | exact Eq.mp (congrArg (fun z => Q (some (zi z)) σ f g) (show kdc x = 2 by unfold kdc; rw [if_neg (by omega), if_pos (by omega)])) K | exact Eq.mp (congrArg (fun z => Q (some (zi z)) σ f g) (show kdc x = 3 by unfold kdc; rw [if_neg (by omega), if_neg (by omega)])) K
theorem l_nxB (hd1 : 0 ≤ d) (ho : RdO σ g R) (hT : TxOk t) {f0 : ZF} (hx : RdX f0 R t) {q0 : Nat} (K : ∀ f, Fr1 R f0 f → (∀ i, i ≠ 5 → f R i = f0 R i) → f R 5 = ((sk t q0 : Nat) : Int) → ZWp d zt18 54 [zr (some R)] [] σ f g Q) (q : Nat) (hq : q ≤ t.2) (e : sk t q = sk t q0) (f : ZF) (hf : Fr1 R f0 f) (hi : ∀ i, i ≠ 5 → f R i = f0 R i) (h5 : f R 5 = (q : Int)) : ZWp d zt18 16 [zr (some R)] [] σ f g Q := by
  have hT1 := hT.1
  refine r_aload_n rfl rfl ?_
  refine r_getI rfl ho.1 h5 ?_
  refine r_aload_n rfl rfl ?_
  refine r_getI rfl ho.1 ((hi 4 (by omega)).trans hx.1) ?_
  refine r_icmp_ge rfl (by omega) (by omega) (fun h24 => ?_) (fun h24 => ?_)
  · exact K f hf hi (by rw [h5, ← e, show sk t q = q from rE_no (isB_no.2 (by omega))])
  · refine r_aload_n rfl rfl ?_
    refine r_getR rfl ho.1 ho.2.2 ?_
    refine r_aload_n rfl rfl ?_
    refine r_getI rfl ho.1 h5 ?_
    refine r_bald rfl ho.2.1 (by omega) (by omega) ((zix (n := q) (by omega)).trans ((congrFun (hf (R + 1) (by omega)) q).trans (hx.2 q (by omega)))) ?_
    refine r_bipush rfl ?_
    refine r_icmp_ne rfl (by have := hT.2 q (by omega); omega) (by omega) (fun h38 => ?_) (fun h38 => ?_)
    · exact K f hf hi (by rw [h5, ← e, show sk t q = q from rE_no (isB_no.2 (by omega))])
    · refine r_aload_n rfl rfl ?_
      refine r_dupr rfl ?_
      refine r_getI rfl ho.1 h5 ?_
      refine r_iconst rfl ?_
      refine r_iadd rfl ?_
      refine r_putI rfl ho.1 ?_
      refine r_goto rfl ?_
      exact l_nxB hd1 ho hT hx K (q + 1) (by omega) (by rw [← e, show sk t q = _ from rE_yes (isB_iff.2 (by omega)) (by omega)]; rfl) _ hf.up (fun i q1 => (up2_ne _ _ (by omega)).trans (hi i q1)) ((up2_same _ _ _ _).trans (by omega))
termination_by t.2 - q
theorem l_nxR (hd1 : 1 ≤ d) (ho : RdO σ g R) (hT : TxOk t) {f0 : ZF} (hx : RdX f0 R t) {kk : Int} (hkk : 1 ≤ kk ∧ kk ≤ 2) {P : Nat → Bool} (hP : ∀ i, i < t.2 → (P i = true ↔ kdc (t.1 i) = kk)) (hPn : ∀ i, P i = true → i < t.2) (h0 : f0 R 0 = kk) (K : ∀ f, Fr1 R f0 f → (∀ i, i ≠ 1 → i ≠ 6 → f R i = f0 R i) → f R 6 = ((rE P t.2 p : Nat) : Int) → f R 1 = num t p (rE P t.2 p - p) → Q none σ f g) (q : Nat) (hpq : p ≤ q) (hq : q ≤ t.2) (e : rE P t.2 q = rE P t.2 p) (f : ZF) (hf : Fr1 R f0 f) (hi : ∀ i, i ≠ 1 → i ≠ 6 → f R i = f0 R i) (h6 : f R 6 = (q : Int)) (h1 : f R 1 = num t p (q - p)) : ZWp d zt18 208 [zr (some R)] [] σ f g Q := by
  have hT1 := hT.1
  refine r_aload_n rfl rfl ?_
  refine r_getI rfl ho.1 h6 ?_
  refine r_aload_n rfl rfl ?_
  refine r_getI rfl ho.1 ((hi 4 (by omega) (by omega)).trans hx.1) ?_
  refine r_icmp_ge rfl (by omega) (by omega) (fun hge => ?_) (fun hge => ?_)
  · have e2 : rE P t.2 q = q := by
      apply rE_no
      cases hz : P q with
      | false => rfl
      | true => exact absurd (hPn q hz) (by omega)
    refine r_ret rfl ?_
    rw [e2] at e
    exact K f hf hi (by rw [h6, e]) (by rw [h1, e])
  · refine r_aload_n rfl rfl ?_
    refine r_getR rfl ho.1 ho.2.2 ?_
    refine r_aload_n rfl rfl ?_
    refine r_getI rfl ho.1 h6 ?_
    refine r_bald rfl ho.2.1 (by omega) (by omega) ((zix (n := q) (by omega)).trans ((congrFun (hf (R + 1) (by omega)) q).trans (hx.2 q (by omega)))) ?_
    refine r_callS1 rfl rfl rfl (c_kindOf (x := t.1 q) (by omega) (hT.2 q (by omega)) ?_)
    refine r_aload_n rfl rfl ?_
    refine r_getI rfl ho.1 ((hi 0 (by omega) (by omega)).trans h0) ?_
    refine r_icmp_ne rfl (by have := kdc_rng (t.1 q); omega) (by omega) (fun hne => ?_) (fun hne => ?_)
    · have e2 : rE P t.2 q = q := by
        apply rE_no
        cases hz : P q with
        | false => rfl
        | true => exact absurd ((hP q (by omega)).1 hz) hne
      refine r_ret rfl ?_
      rw [e2] at e
      exact K f hf hi (by rw [h6, e]) (by rw [h1, e])
    · refine r_aload_n rfl rfl ?_
      refine r_aload_n rfl rfl ?_
      refine r_getI rfl ho.1 h1 ?_
      refine r_bipush rfl ?_
      refine r_imul rfl ?_
      refine r_aload_n rfl rfl ?_
      refine r_getR rfl ho.1 ho.2.2 ?_
      refine r_aload_n rfl rfl ?_
      refine r_getI rfl ho.1 h6 ?_
      refine r_bald rfl ho.2.1 (by omega) (by omega) ((zix (n := q) (by omega)).trans ((congrFun (hf (R + 1) (by omega)) q).trans (hx.2 q (by omega)))) ?_
      refine r_iadd rfl ?_
      refine r_bipush rfl ?_
      refine r_isub rfl ?_
      refine r_putI rfl ho.1 ?_
      refine r_aload_n rfl rfl ?_
      refine r_dupr rfl ?_
      refine r_getI rfl ho.1 (show _ = (q : Int) from by simp [up2, h6]) ?_
      refine r_iconst rfl ?_
      refine r_iadd rfl ?_
      refine r_putI rfl ho.1 ?_
      refine r_goto rfl ?_
      refine l_nxR hd1 ho hT hx hkk hP hPn h0 K (q + 1) (by omega) (by omega) (by rw [← e, show rE P t.2 q = _ from rE_yes ((hP q (by omega)).2 hne) (by omega)]) _ hf.up.up (fun i q1 q2 => (up2_ne _ _ (by omega)).trans ((up2_ne _ _ (by omega)).trans (hi i q1 q2))) ((up2_same _ _ _ _).trans (by omega)) ?_
      rw [up2_ne _ _ (by omega), up2_same, show q + 1 - p = (q - p) + 1 by omega]
      show _ = 10 * num t p (q - p) + t.1 (p + (q - p)) - 48
      rw [show p + (q - p) = q by omega]
      omega
termination_by t.2 - q
theorem Rdr.mk' {f' : ZF} (hx : RdX f R t) (hf : Fr1 R f f') (h4 : f' R 4 = f R 4) (h2 : f' R 2 = 0) (h5 : f' R 5 = (p : Int)) (h6 : f' R 6 = (tE t p : Int)) (h0 : f' R 0 = kd t p) (h3 : kd t p = 3 → f' R 1 = sv t p) (h1 : kd t p = 1 → f' R 1 = num t p (tE t p - p)) : Rdr f' R t p := ⟨hx.fr hf h4, h2, h5, h6, h0, h3, h1⟩
theorem l_nx2 (hd1 : 1 ≤ d) (ho : RdO σ g R) (hT : TxOk t) (hx : RdX f R t) (h2 : f R 2 = 0) (h5 : f R 5 = (p : Int)) (hp : p ≤ t.2) (K : ∀ f', Fr1 R f f' → Rdr f' R t p → Q none σ f' g) : ZWp d zt18 54 [zr (some R)] [] σ f g Q := by
  have hT1 := hT.1
  refine r_aload_n rfl rfl ?_
  refine r_aload_n rfl rfl ?_
  refine r_getI rfl ho.1 h5 ?_
  refine r_putI rfl ho.1 ?_
  refine r_aload_n rfl rfl ?_
  refine r_getI rfl ho.1 (show _ = (p : Int) from by simp [up2, h5]) ?_
  refine r_aload_n rfl rfl ?_
  refine r_getI rfl ho.1 (show _ = (t.2 : Int) from by simp [up2, hx.1]) ?_
  refine r_icmp_lt rfl (by omega) (by omega) (fun h70 => ?_) (fun h70 => ?_)
  · refine r_aload_n rfl rfl ?_
    refine r_aload_n rfl rfl ?_
    refine r_getR rfl ho.1 ho.2.2 ?_
    refine r_aload_n rfl rfl ?_
    refine r_getI rfl ho.1 (show _ = (p : Int) from by simp [up2, h5]) ?_
    refine r_bald rfl ho.2.1 (by omega) (by omega) (show _ = t.1 p from by rw [show ((p : Nat) : Int).toNat = p by omega, up2_o _ _ (by omega)]; exact hx.2 p (by omega)) ?_
    refine r_callS1 rfl rfl rfl (c_kindOf (x := t.1 p) (by omega) (hT.2 p (by omega)) ?_)
    refine r_putI rfl ho.1 ?_
    refine r_aload_n rfl rfl ?_
    refine r_dupr rfl ?_
    refine r_getI rfl ho.1 (show _ = (p : Int) from by simp [up2]) ?_
    refine r_iconst rfl ?_
    refine r_iadd rfl ?_
    refine r_putI rfl ho.1 ?_
    refine r_aload_n rfl rfl ?_
    refine r_getI rfl ho.1 (show _ = kdc (t.1 p) from by simp [up2]) ?_
    refine r_iconst rfl ?_
    refine r_icmp_ne rfl (by have := kdc_rng (t.1 p); omega) (by omega) (fun h110 => ?_) (fun h110 => ?_)
    · refine r_aload_n rfl rfl ?_
      refine r_aload_n rfl rfl ?_
      refine r_getR rfl ho.1 ho.2.2 ?_
      refine r_aload_n rfl rfl ?_
      refine r_getI rfl ho.1 (show _ = (p : Int) from by simp [up2, h5]) ?_
      refine r_bald rfl ho.2.1 (by omega) (by omega) (show _ = t.1 p from by rw [show ((p : Nat) : Int).toNat = p by omega, up2_o _ _ (by omega), up2_o _ _ (by omega), up2_o _ _ (by omega)]; exact hx.2 p (by omega)) ?_
      refine r_bipush rfl ?_
      refine r_isub rfl ?_
      refine r_putI rfl ho.1 ?_
      have hk := kdc_rng (t.1 p)
      by_cases c1 : kdc (t.1 p) = 1
      · have hDp : isD t p = true := (kdc_D (by omega)).2 c1
        refine l_nxR (p := p) (kk := 1) (P := isD t) (by omega) ho hT (hx.fr (fun c hc => by simp only [up2_o _ _ hc]) (by simp [up2])) (by omega) (fun i hi => kdc_D hi) (fun i q => (isD_iff.1 q).1) (by simp [up2, c1]) (fun f' hf hi h6 h1 => ?_) (p + 1) (by omega) (by omega) (rE_yes hDp (by omega)).symm _ (Fr1.rf R _) (fun i _ _ => rfl) (by simp [up2]) (by rw [show p + 1 - p = 0 + 1 by omega]; show _ = 10 * 0 + t.1 (p + 0) - 48; simp [up2])
        have hff : Fr1 R f f' := fun c hc => (hf c hc).trans (by simp only [up2_o _ _ hc])
        refine K f' hff (Rdr.mk' hx hff (by rw [hi 4 (by omega) (by omega)]; simp [up2]) (by rw [hi 2 (by omega) (by omega)]; simp [up2, h2]) (by rw [hi 5 (by omega) (by omega)]; simp [up2, h5]) (by rw [h6, tE_D hDp]; rfl) (by rw [hi 0 (by omega) (by omega), kd_D.2 hDp]; simp [up2, c1]) (fun q => by rw [kd_D.2 hDp] at q; omega) (fun q => by rw [h1, tE_D hDp]; rfl))
      · have c2 : kdc (t.1 p) = 2 := by omega
        have hLp : isL t p = true := (kdc_L (by omega)).2 c2
        refine l_nxR (p := p) (kk := 2) (P := isL t) (by omega) ho hT (hx.fr (fun c hc => by simp only [up2_o _ _ hc]) (by simp [up2])) (by omega) (fun i hi => kdc_L hi) (fun i q => (isL_iff.1 q).1) (by simp [up2, c2]) (fun f' hf hi h6 h1 => ?_) (p + 1) (by omega) (by omega) (rE_yes hLp (by omega)).symm _ (Fr1.rf R _) (fun i _ _ => rfl) (by simp [up2]) (by rw [show p + 1 - p = 0 + 1 by omega]; show _ = 10 * 0 + t.1 (p + 0) - 48; simp [up2])
        have hff : Fr1 R f f' := fun c hc => (hf c hc).trans (by simp only [up2_o _ _ hc])
        refine K f' hff (Rdr.mk' hx hff (by rw [hi 4 (by omega) (by omega)]; simp [up2]) (by rw [hi 2 (by omega) (by omega)]; simp [up2, h2]) (by rw [hi 5 (by omega) (by omega)]; simp [up2, h5]) (by rw [h6, tE_L hLp]; rfl) (by rw [hi 0 (by omega) (by omega), kd_L.2 hLp]; simp [up2, c2]) (fun q => by rw [kd_L.2 hLp] at q; omega) (fun q => by rw [kd_L.2 hLp] at q; omega))
    · refine r_aload_n rfl rfl ?_
      refine r_aload_n rfl rfl ?_
      refine r_getR rfl ho.1 ho.2.2 ?_
      refine r_aload_n rfl rfl ?_
      refine r_getI rfl ho.1 (show _ = (p : Int) from by simp [up2, h5]) ?_
      refine r_bald rfl ho.2.1 (by omega) (by omega) (show _ = t.1 p from by rw [show ((p : Nat) : Int).toNat = p by omega, up2_o _ _ (by omega), up2_o _ _ (by omega), up2_o _ _ (by omega)]; exact hx.2 p (by omega)) ?_
      refine r_putI rfl ho.1 ?_
      refine r_aload_n rfl rfl ?_
      refine r_getI rfl ho.1 (show _ = t.1 p from by simp [up2]) ?_
      refine r_bipush rfl ?_
      refine r_icmp_eq rfl (by have := hT.2 p (by omega); omega) (by omega) (fun h132 => ?_) (fun h132 => ?_)
      · refine r_aload_n rfl rfl ?_
        refine r_getI rfl ho.1 (show _ = ((p : Int) + 1) from by simp [up2]) ?_
        refine r_aload_n rfl rfl ?_
        refine r_getI rfl ho.1 (show _ = (t.2 : Int) from by simp [up2, hx.1]) ?_
        refine r_icmp_ge rfl (by omega) (by omega) (fun h152 => ?_) (fun h152 => ?_)
        · refine r_ret rfl ?_
          obtain ⟨k3, k4⟩ := kd_S (t := t) (p := p) (by omega) h110
          refine K _ (fun c hc => by simp only [up2_o _ _ hc]) (Rdr.mk' hx (fun c hc => by simp only [up2_o _ _ hc]) (by simp [up2]) (by simp [up2, h2]) (by simp [up2, h5]) ?_ (by simp [up2, k3, h110]) (fun _ => ?_) (fun q => by omega))
          · rw [k4]
            simp [up2]
            unfold cmpE
            rw [if_neg (by rw [isS_iff, isS_iff, isS_iff]; omega)]
            try omega
          · simp [up2]
            unfold sv
            rw [if_neg (by rw [isS_iff, isS_iff, isS_iff]; omega)]
            try omega
        · refine r_aload_n rfl rfl ?_
          refine r_getR rfl ho.1 ho.2.2 ?_
          refine r_aload_n rfl rfl ?_
          refine r_getI rfl ho.1 (show _ = ((p : Int) + 1) from by simp [up2]) ?_
          refine r_bald rfl ho.2.1 (by omega) (by omega) (show _ = t.1 (p + 1) from by rw [show ((p : Int) + 1).toNat = (p + 1) by omega, up2_o _ _ (by omega), up2_o _ _ (by omega), up2_o _ _ (by omega), up2_o _ _ (by omega)]; exact hx.2 (p + 1) (by omega)) ?_
          refine r_bipush rfl ?_
          refine r_icmp_ne rfl (by have := hT.2 (p + 1) (by omega); omega) (by omega) (fun h166 => ?_) (fun h166 => ?_)
          · refine r_ret rfl ?_
            obtain ⟨k3, k4⟩ := kd_S (t := t) (p := p) (by omega) h110
            refine K _ (fun c hc => by simp only [up2_o _ _ hc]) (Rdr.mk' hx (fun c hc => by simp only [up2_o _ _ hc]) (by simp [up2]) (by simp [up2, h2]) (by simp [up2, h5]) ?_ (by simp [up2, k3, h110]) (fun _ => ?_) (fun q => by omega))
            · rw [k4]
              simp [up2]
              unfold cmpE
              rw [if_neg (by rw [isS_iff, isS_iff, isS_iff]; omega)]
              try omega
            · simp [up2]
              unfold sv
              rw [if_neg (by rw [isS_iff, isS_iff, isS_iff]; omega)]
              try omega
          · refine r_aload_n rfl rfl ?_
            refine r_dupr rfl ?_
            refine r_getI rfl ho.1 (show _ = t.1 p from by simp [up2]) ?_
            refine r_sipush rfl ?_
            refine r_iadd rfl ?_
            refine r_putI rfl ho.1 ?_
            refine r_aload_n rfl rfl ?_
            refine r_dupr rfl ?_
            refine r_getI rfl ho.1 (show _ = ((p : Int) + 1) from by simp [up2]) ?_
            refine r_iconst rfl ?_
            refine r_iadd rfl ?_
            refine r_putI rfl ho.1 ?_
            refine r_ret rfl ?_
            obtain ⟨k3, k4⟩ := kd_S (t := t) (p := p) (by omega) h110
            refine K _ (fun c hc => by simp only [up2_o _ _ hc]) (Rdr.mk' hx (fun c hc => by simp only [up2_o _ _ hc]) (by simp [up2]) (by simp [up2, h2]) (by simp [up2, h5]) ?_ (by simp [up2, k3, h110]) (fun _ => ?_) (fun q => by omega))
            · rw [k4]
              simp [up2]
              unfold cmpE
              rw [if_pos (by rw [isS_iff, isS_iff, isS_iff]; omega)]
              try omega
            · simp [up2]
              unfold sv
              rw [if_pos (by rw [isS_iff, isS_iff, isS_iff]; omega)]
              try omega
      · refine r_aload_n rfl rfl ?_
        refine r_getI rfl ho.1 (show _ = t.1 p from by simp [up2]) ?_
        refine r_bipush rfl ?_
        refine r_icmp_ne rfl (by have := hT.2 p (by omega); omega) (by omega) (fun h141 => ?_) (fun h141 => ?_)
        · refine r_ret rfl ?_
          obtain ⟨k3, k4⟩ := kd_S (t := t) (p := p) (by omega) h110
          refine K _ (fun c hc => by simp only [up2_o _ _ hc]) (Rdr.mk' hx (fun c hc => by simp only [up2_o _ _ hc]) (by simp [up2]) (by simp [up2, h2]) (by simp [up2, h5]) ?_ (by simp [up2, k3, h110]) (fun _ => ?_) (fun q => by omega))
          · rw [k4]
            simp [up2]
            unfold cmpE
            rw [if_neg (by rw [isS_iff, isS_iff, isS_iff]; omega)]
            try omega
          · simp [up2]
            unfold sv
            rw [if_neg (by rw [isS_iff, isS_iff, isS_iff]; omega)]
            try omega
        · refine r_aload_n rfl rfl ?_
          refine r_getI rfl ho.1 (show _ = ((p : Int) + 1) from by simp [up2]) ?_
          refine r_aload_n rfl rfl ?_
          refine r_getI rfl ho.1 (show _ = (t.2 : Int) from by simp [up2, hx.1]) ?_
          refine r_icmp_ge rfl (by omega) (by omega) (fun h152 => ?_) (fun h152 => ?_)
          · refine r_ret rfl ?_
            obtain ⟨k3, k4⟩ := kd_S (t := t) (p := p) (by omega) h110
            refine K _ (fun c hc => by simp only [up2_o _ _ hc]) (Rdr.mk' hx (fun c hc => by simp only [up2_o _ _ hc]) (by simp [up2]) (by simp [up2, h2]) (by simp [up2, h5]) ?_ (by simp [up2, k3, h110]) (fun _ => ?_) (fun q => by omega))
            · rw [k4]
              simp [up2]
              unfold cmpE
              rw [if_neg (by rw [isS_iff, isS_iff, isS_iff]; omega)]
              try omega
            · simp [up2]
              unfold sv
              rw [if_neg (by rw [isS_iff, isS_iff, isS_iff]; omega)]
              try omega
          · refine r_aload_n rfl rfl ?_
            refine r_getR rfl ho.1 ho.2.2 ?_
            refine r_aload_n rfl rfl ?_
            refine r_getI rfl ho.1 (show _ = ((p : Int) + 1) from by simp [up2]) ?_
            refine r_bald rfl ho.2.1 (by omega) (by omega) (show _ = t.1 (p + 1) from by rw [show ((p : Int) + 1).toNat = (p + 1) by omega, up2_o _ _ (by omega), up2_o _ _ (by omega), up2_o _ _ (by omega), up2_o _ _ (by omega)]; exact hx.2 (p + 1) (by omega)) ?_
            refine r_bipush rfl ?_
            refine r_icmp_ne rfl (by have := hT.2 (p + 1) (by omega); omega) (by omega) (fun h166 => ?_) (fun h166 => ?_)
            · refine r_ret rfl ?_
              obtain ⟨k3, k4⟩ := kd_S (t := t) (p := p) (by omega) h110
              refine K _ (fun c hc => by simp only [up2_o _ _ hc]) (Rdr.mk' hx (fun c hc => by simp only [up2_o _ _ hc]) (by simp [up2]) (by simp [up2, h2]) (by simp [up2, h5]) ?_ (by simp [up2, k3, h110]) (fun _ => ?_) (fun q => by omega))
              · rw [k4]
                simp [up2]
                unfold cmpE
                rw [if_neg (by rw [isS_iff, isS_iff, isS_iff]; omega)]
                try omega
              · simp [up2]
                unfold sv
                rw [if_neg (by rw [isS_iff, isS_iff, isS_iff]; omega)]
                try omega
            · refine r_aload_n rfl rfl ?_
              refine r_dupr rfl ?_
              refine r_getI rfl ho.1 (show _ = t.1 p from by simp [up2]) ?_
              refine r_sipush rfl ?_
              refine r_iadd rfl ?_
              refine r_putI rfl ho.1 ?_
              refine r_aload_n rfl rfl ?_
              refine r_dupr rfl ?_
              refine r_getI rfl ho.1 (show _ = ((p : Int) + 1) from by simp [up2]) ?_
              refine r_iconst rfl ?_
              refine r_iadd rfl ?_
              refine r_putI rfl ho.1 ?_
              refine r_ret rfl ?_
              obtain ⟨k3, k4⟩ := kd_S (t := t) (p := p) (by omega) h110
              refine K _ (fun c hc => by simp only [up2_o _ _ hc]) (Rdr.mk' hx (fun c hc => by simp only [up2_o _ _ hc]) (by simp [up2]) (by simp [up2, h2]) (by simp [up2, h5]) ?_ (by simp [up2, k3, h110]) (fun _ => ?_) (fun q => by omega))
              · rw [k4]
                simp [up2]
                unfold cmpE
                rw [if_pos (by rw [isS_iff, isS_iff, isS_iff]; omega)]
                try omega
              · simp [up2]
                unfold sv
                rw [if_pos (by rw [isS_iff, isS_iff, isS_iff]; omega)]
                try omega
  · refine r_aload_n rfl rfl ?_
    refine r_iconst rfl ?_
    refine r_putI rfl ho.1 ?_
    refine r_ret rfl ?_
    refine K _ (fun c hc => by simp only [up2_o _ _ hc]) (Rdr.mk' hx (fun c hc => by simp only [up2_o _ _ hc]) (by simp [up2]) (by simp [up2, h2]) (by simp [up2, h5]) ?_ ?_ (fun q => ?_) (fun q => ?_))
    · rw [show tE t p = p from if_neg (by omega)]; simp [up2]
    · rw [kd_0.2 (by omega)]; simp [up2]
    · rw [kd_0.2 (by omega)] at q; omega
    · rw [kd_0.2 (by omega)] at q; omega
theorem k_next (hd : 2 ≤ d) (ho : RdO σ g R) (hT : TxOk t) (hx : RdX f R t) (h2 : f R 2 = 0) (h6 : f R 6 = (q : Int)) (hq : q ≤ t.2) (K : ∀ f', Fr1 R f f' → Rdr f' R t (sk t q) → Q none σ f' g) : ZCt d 18 [zr (some R)] σ f g Q := by
  refine ZCt.of' (L0 := [_]) (by omega) rfl rfl rfl (fun d hd1 => ?_)
  refine r_aload_n rfl rfl ?_
  refine r_getI rfl ho.1 h2 ?_
  refine r_if_eq rfl (by omega) (fun h4 => ?_) (fun h4 => ?_)
  · refine r_aload_n rfl rfl ?_
    refine r_aload_n rfl rfl ?_
    refine r_getI rfl ho.1 h6 ?_
    refine r_putI rfl ho.1 ?_
    refine l_nxB (q0 := q) (by omega) ho hT (hx.fr (f' := up2 f R 5 (q : Int)) (Fr1.rf R f).up (by simp [up2])) (fun f1 hf1 hi1 h51 => ?_) q hq rfl _ (Fr1.rf R _) (fun i _ => rfl) (by simp [up2])
    have hf2 : Fr1 R f f1 := (Fr1.rf R f).up.trans hf1
    exact l_nx2 (p := sk t q) (by omega) ho hT (hx.fr hf2 (by rw [hi1 4 (by omega)]; simp [up2])) (by rw [hi1 2 (by omega)]; simp [up2, h2]) h51 (sk_le hq) (fun f3 hf3 hr => K f3 (hf2.trans hf3) hr)
  · exact absurd rfl h4
theorem k_nextF (hd : 1 ≤ d) (ho : RdO σ g R) (hF : RdF f R e) (K : Q none σ f g) : ZCt d 18 [zr (some R)] σ f g Q := by
  refine ZCt.of' (L0 := [_]) (by omega) rfl rfl rfl (fun d hd1 => ?_)
  refine r_aload_n rfl rfl ?_
  refine r_getI rfl ho.1 hF.1 ?_
  refine r_if_eq rfl (by have := hF.2.1; omega) (fun h4 => ?_) (fun h4 => ?_)
  · exact absurd h4 (by have := hF.2.1; omega)
  · refine r_ret rfl ?_
    exact K
theorem k_refuse (hd : 1 ≤ d) (ho : RdO σ g R) (h : Rdr f R t p) (hp : p ≤ 400) {k : Int} (hk : 0 ≤ k ∧ k ≤ 4) (K : ∀ f', Fr1 R f f' → RdF f' R (err p k) → Q none σ f' g) : ZCt d 22 [zr (some R), zi k] σ f g Q := by
  refine ZCt.of' (L0 := [_, _]) (by omega) rfl rfl rfl (fun d hd1 => ?_)
  refine r_aload_n rfl rfl ?_
  refine r_getI rfl ho.1 h.2.1 ?_
  refine r_if_ne rfl (by omega) (fun h4 => ?_) (fun h4 => ?_)
  · exact absurd rfl h4
  · refine r_aload_n rfl rfl ?_
    refine r_iconst rfl ?_
    refine r_bipush rfl ?_
    refine r_aload_n rfl rfl ?_
    refine r_getI rfl ho.1 h.2.2.1 ?_
    refine r_imul rfl ?_
    refine r_iadd rfl ?_
    refine r_iload_n rfl rfl ?_
    refine r_iadd rfl ?_
    refine r_putI rfl ho.1 ?_
    refine r_aload_n rfl rfl ?_
    refine r_iconst rfl ?_
    refine r_putI rfl ho.1 ?_
    refine r_ret rfl ?_
    exact K _ (fun c hc => by simp only [up2_o _ _ hc]) ⟨by simp [up2, err], by unfold err; omega, by simp [up2]⟩
theorem k_refuseF (hd : 1 ≤ d) (ho : RdO σ g R) (hF : RdF f R e) {k : Int} (K : Q none σ f g) : ZCt d 22 [zr (some R), zi k] σ f g Q := by
  refine ZCt.of' (L0 := [_, _]) (by omega) rfl rfl rfl (fun d hd1 => ?_)
  refine r_aload_n rfl rfl ?_
  refine r_getI rfl ho.1 hF.1 ?_
  refine r_if_ne rfl (by have := hF.2.1; omega) (fun h4 => ?_) (fun h4 => ?_)
  · refine r_ret rfl ?_
    exact K
  · exact absurd h4 (by have := hF.2.1; omega)
theorem sv_rng {t : Tx} {p : Nat} (h : kd t p = 3) (hT : ∀ i, i < t.2 → -128 ≤ t.1 i ∧ t.1 i ≤ 127) : -128 ≤ sv t p ∧ sv t p ≤ 400 := by
  have hlt : p < t.2 := by
    apply Classical.byContradiction
    intro q
    rw [kd_0.2 q] at h
    omega
  have := hT p hlt
  unfold sv
  split <;> omega
theorem k_isSign (hd : 1 ≤ d) (ho : RdO σ g R) (h : Rdr f R t p) (hT : TxOk t) {c : Int} (hk : kdc c = 3) (hc : 0 ≤ c ∧ c ≤ 127) (h1 : c ≠ 60) (h2 : c ≠ 62) (k1 : isS t p c = true → Q (some (zi 1)) σ f g) (k2 : ¬ isS t p c = true → Q (some (zi 0)) σ f g) : ZCt d 31 [zr (some R), zi c] σ f g Q := by
  refine ZCt.of' (L0 := [_, _]) (by omega) rfl rfl rfl (fun d hd1 => ?_)
  refine r_aload_n rfl rfl ?_
  refine r_getI rfl ho.1 h.2.2.2.2.1 ?_
  refine r_iconst rfl ?_
  refine r_icmp_ne rfl (by have := kd_rng t p; omega) (by omega) (fun h5 => ?_) (fun h5 => ?_)
  · refine r_iconst rfl ?_
    refine r_zret rfl (by omega) ?_
    first | exact k1 (sv_one h5 hT.2 hc h1 h2 h13) | exact k2 (fun q => h13 (sg_one q hk h1 h2).2.2) | exact k2 (fun q => h5 (sg_one q hk h1 h2).1)
  · refine r_aload_n rfl rfl ?_
    refine r_getI rfl ho.1 (h.2.2.2.2.2.1 h5) ?_
    refine r_iload_n rfl rfl ?_
    refine r_icmp_ne rfl (by have := sv_rng h5 hT.2; omega) (by omega) (fun h13 => ?_) (fun h13 => ?_)
    · refine r_iconst rfl ?_
      refine r_zret rfl (by omega) ?_
      first | exact k1 (sv_one h5 hT.2 hc h1 h2 h13) | exact k2 (fun q => h13 (sg_one q hk h1 h2).2.2) | exact k2 (fun q => h5 (sg_one q hk h1 h2).1)
    · refine r_iconst rfl ?_
      refine r_goto rfl ?_
      refine r_zret rfl (by omega) ?_
      first | exact k1 (sv_one h5 hT.2 hc h1 h2 h13) | exact k2 (fun q => h13 (sg_one q hk h1 h2).2.2) | exact k2 (fun q => h5 (sg_one q hk h1 h2).1)
theorem k_isSignF (hd : 1 ≤ d) (ho : RdO σ g R) (hF : RdF f R e) {c : Int} (K : Q (some (zi 0)) σ f g) : ZCt d 31 [zr (some R), zi c] σ f g Q := by
  refine ZCt.of' (L0 := [_, _]) (by omega) rfl rfl rfl (fun d hd1 => ?_)
  refine r_aload_n rfl rfl ?_
  refine r_getI rfl ho.1 hF.2.2 ?_
  refine r_iconst rfl ?_
  refine r_icmp_ne rfl (by omega) (by omega) (fun h5 => ?_) (fun h5 => ?_)
  · refine r_iconst rfl ?_
    refine r_zret rfl (by omega) ?_
    exact K
  · exact absurd h5 (by decide)
theorem k_takeSign (hd : 3 ≤ d) (ho : RdO σ g R) (h : Rdr f R t p) (hp : p ≤ t.2) (hT : TxOk t) {c : Int} (hk : kdc c = 3) (hc : 0 ≤ c ∧ c ≤ 127) (h1 : c ≠ 60) (h2 : c ≠ 62) (k1 : isS t p c = true → ∀ f', Fr1 R f f' → Rdr f' R t (sk t (p + 1)) → Q none σ f' g) (k2 : ¬ isS t p c = true → ∀ f', Fr1 R f f' → RdF f' R (err p 0) → Q none σ f' g) : ZCt d 30 [zr (some R), zi c] σ f g Q := by
  refine ZCt.of' (L0 := [_, _]) (by omega) rfl rfl rfl (fun d hd1 => ?_)
  refine r_aload_n rfl rfl ?_
  refine r_iload_n rfl rfl ?_
  refine r_callV1 rfl rfl ho.1 rfl (k_isSign (by omega) ho h hT hk hc h1 h2 (fun hs => ?_) (fun hs => ?_))
  · refine r_if_y rfl (by decide) ?_
    refine r_aload_n rfl rfl ?_
    refine r_callV0 rfl rfl ho.1 rfl (k_next (q := p + 1) (by omega) ho hT h.1 h.2.1 (h.2.2.2.1.trans (by rw [(sg_one hs hk h1 h2).2.1])) (by have := (isS_iff.1 hs).1; omega) (fun f1 hf1 hr => ?_))
    refine r_ret rfl ?_
    exact k1 hs f1 hf1 hr
  · refine r_if_n rfl (by decide) ?_
    refine r_aload_n rfl rfl ?_
    refine r_iconst rfl ?_
    refine r_callV1 rfl rfl ho.1 rfl (k_refuse (by omega) ho h (by have := hT.1; omega) (by omega) (fun f1 hf1 hF => ?_))
    refine r_aload_n rfl rfl ?_
    refine r_callV0 rfl rfl ho.1 rfl (k_nextF (by omega) ho hF ?_)
    refine r_ret rfl ?_
    exact k2 hs f1 hf1 hF
theorem k_takeSignF (hd : 2 ≤ d) (ho : RdO σ g R) (hF : RdF f R e) {c : Int} (K : Q none σ f g) : ZCt d 30 [zr (some R), zi c] σ f g Q := by
  refine ZCt.of' (L0 := [_, _]) (by omega) rfl rfl rfl (fun d hd1 => ?_)
  refine r_aload_n rfl rfl ?_
  refine r_iload_n rfl rfl ?_
  refine r_callV1 rfl rfl ho.1 rfl (k_isSignF (by omega) ho hF ?_)
  refine r_if_n rfl (by decide) ?_
  refine r_aload_n rfl rfl ?_
  refine r_iconst rfl ?_
  refine r_callV1 rfl rfl ho.1 rfl (k_refuseF (by omega) ho hF ?_)
  refine r_aload_n rfl rfl ?_
  refine r_callV0 rfl rfl ho.1 rfl (k_nextF (by omega) ho hF ?_)
  refine r_ret rfl ?_
  exact K
theorem k_isTooLong (hd : 1 ≤ d) (ho : RdO σ g R) (h : Rdr f R t p) (hT : TxOk t) (hp : p ≤ t.2) (k1 : 5 < tE t p - p → Q (some (zi 1)) σ f g) (k2 : ¬ 5 < tE t p - p → Q (some (zi 0)) σ f g) : ZCt d 24 [zr (some R)] σ f g Q := by
  refine ZCt.of' (L0 := [_]) (by omega) rfl rfl rfl (fun d hd1 => ?_)
  have hT1 := hT.1
  have hh := tE_ge t p
  have hh2 := tE_le hp
  refine r_aload_n rfl rfl ?_
  refine r_getI rfl ho.1 h.2.2.2.1 ?_
  refine r_aload_n rfl rfl ?_
  refine r_getI rfl ho.1 h.2.2.1 ?_
  refine r_isub rfl ?_
  refine r_iconst rfl ?_
  refine r_icmp_le rfl (by omega) (by omega) (fun h10 => ?_) (fun h10 => ?_)
  · refine r_iconst rfl ?_
    refine r_zret rfl (by omega) ?_
    first | exact k1 (by omega) | exact k2 (by omega)
  · refine r_iconst rfl ?_
    refine r_goto rfl ?_
    refine r_zret rfl (by omega) ?_
    first | exact k1 (by omega) | exact k2 (by omega)
end READER
