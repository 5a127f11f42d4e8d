/-! The reference's row -/
theorem dg_pos {n c : Nat} (h : 0 < n) : dg n c = (c / 64 ^ (n - 1) % 64) :: dg (n - 1) c := by
  obtain ⟨k, rfl⟩ : ∃ k, n = k + 1 := ⟨n - 1, by omega⟩
  rfl
theorem dg_get : ∀ (n c i : Nat), i < n → (dg n c).getD i 0 = c / 64 ^ (n - 1 - i) % 64 := by
  intro n
  induction n with
  | zero => intro c i h; omega
  | succ n ih =>
    intro c i h
    cases i with
    | zero => rfl
    | succ i =>
      have := ih c i (by omega)
      show (dg n c).getD i 0 = _
      rw [this, show n + 1 - 1 - (i + 1) = n - 1 - i by omega]
theorem dg_bits {c j : Nat} (hc : c < 2147483648) (hj : 6 * j < 31) {x : Int} (hx : x = (j : Int)) : z_and (z_shr (c : Int) (6 * x)) 63 = ((c / 64 ^ j % 64 : Nat) : Int) := by
  subst hx
  rw [show (6 : Int) * (j : Int) = ((6 * j : Nat) : Int) by omega, z_shr_nat hc hj]
  have hl : c >>> (6 * j) ≤ c := Nat.shiftRight_le _ _
  have e := z_and_nat (a := c >>> (6 * j)) (b := 63) (by omega) (by omega)
  rw [show ((63 : Nat) : Int) = 63 from rfl] at e
  rw [e]
  have h1 := Nat.and_two_pow_sub_one_eq_mod (c >>> (6 * j)) 6
  rw [show (2 : Nat) ^ 6 - 1 = 63 from rfl, show (2 : Nat) ^ 6 = 64 from rfl] at h1
  rw [h1, Nat.shiftRight_eq_div_pow, Nat.pow_mul]
theorem p64 {n : Nat} (hn : n ≤ 3) : 64 ^ n ≤ 262144 := Nat.le_trans (Nat.pow_le_pow_right (n := 64) (by omega) hn) (by decide)
section ROWM
variable {d : Nat} {σ : ZS} {f f0 f' : ZF} {g : ZG} {Q : ZQ} {N : Int} {rd : Rd} {pl : Pl} {rd0 : Rd} {al : Rd → Nat → Bool} {cl : Int} {a : AS}
/-- ready for a set -/
def TW (f : ZF) (pl : Pl) : Prop := MPl (f 229) pl ∧ PlOk pl ∧ f 219 23 = -1
theorem TW.set {s : Int} (hs : Sh σ g) (h : TW f pl) (h0 : 0 ≤ s ∧ s ≤ 2147483647) : TM σ (up2 f 219 24 s) g pl (alSet s) (-1) := by
  refine ⟨by rw [up2_o _ _ (by omega)]; exact h.1, h.2.1, (up2_ne _ _ (by omega)).trans h.2.2, by omega, (fun f => f 219 24 = s), fun f f' q e => (q.2.1 24 (by omega) (by omega)).trans e, alm_set hs h0, fun f f' q1 q2 q3 e => (q3 24 (Or.inr rfl)).trans e, up2_same _ _ _ _⟩
theorem l_offRow (hd1 : 10 ≤ d) (hs : Sh σ g) {code n : Nat} {f00 : ZF} (hc : code < 262144) (hn : n ≤ 3) {s3 X : Int} (KE : ∀ f' rd', Kp f00 f' → (∀ i, i = 21 ∨ i = 23 → f' 219 i = f00 219 i) → MRd (f' 229) rd' → rd' 5 1 = X → ZWp d zt228 43 [zr (some 219), zi (code : Int), zi (n : Int), zi s3, zi (-1)] [] σ f' g Q) (j : Nat) (hj : j ≤ n) (x : Int) (hx : x + 1 = (j : Int)) (f : ZF) (rd : Rd) (N : Int) (ht : TW f pl) (hv : VS pl N (-1) rd) (hN : N + 7 * (j : Int) ≤ 1000000) (hm : MRd (f 229) rd) (hX : rd 5 1 + tot pl rd (dg j code) = X) (hkp : Kp f00 f) (h219 : ∀ i, i = 21 ∨ i = 23 → f 219 i = f00 219 i) : ZWp d zt228 13 [zr (some 219), zi (code : Int), zi (n : Int), zi s3, zi x] [] σ f g Q := by
  refine r_iload rfl rfl ?_
  refine r_if_lt rfl (by omega) (fun hneg => ?_) (fun hneg => ?_)
  · have e : j = 0 := by omega
    subst e
    have ex : x = -1 := by omega
    subst ex
    have e0 : tot pl rd (dg 0 code) = 0 := rfl
    exact KE f rd hkp h219 hm (by omega)
  · refine r_aload_n rfl rfl ?_
    refine r_iload_n rfl rfl ?_
    refine r_bipush rfl ?_
    refine r_iload rfl rfl ?_
    refine r_imul rfl ?_
    refine r_ishr rfl ?_
    refine r_bipush rfl ?_
    refine r_iand rfl ?_
    have hs64 : code / 64 ^ (j - 1) % 64 < 64 := Nat.mod_lt _ (by omega)
    rw [dg_bits (j := j - 1) (by omega) (by omega) (by omega)]
    refine r_putI rfl (by first | assumption | exact hs.o rfl) ?_
    refine r_aload_n rfl rfl ?_
    refine r_callV0 rfl rfl (by first | assumption | exact hs.o rfl) rfl (c_psv (N := N) (by omega) hs (ht.set hs (s := ((code / 64 ^ (j - 1) % 64 : Nat) : Int)) (by omega)) (by rw [up2_o _ _ (by omega)]; exact hm) hv.1 (by omega) (fun f1 hf1 ht1 hm1 _ => ?_))
    refine r_popi rfl ?_
    refine r_iinc (L' := [_, _, _, _, _]) rfl rfl rfl ?_
    refine r_goto rfl ?_
    refine l_offRow hd1 hs hc hn KE (j - 1) (by omega) (x + -1) (by omega) f1 (tS pl (code / 64 ^ (j - 1) % 64) rd) (N + 7) ⟨ht1.1, ht1.2.1, ht1.2.2.1⟩ (hv.step ht.2.1 (by omega)) (by omega) hm1 ?_ ((hkp.upM (by omega)).m hf1) (fun i q => (hf1.2.1 i (by omega) (by omega)).trans ((up2_ne _ _ (by omega)).trans (h219 i q)))
    have hg := tS_gone (pl := pl) (rd := rd) hs64
    have e1 : tot pl rd (dg j code) = cS pl (code / 64 ^ (j - 1) % 64) rd + tot pl (tS pl (code / 64 ^ (j - 1) % 64) rd) (dg (j - 1) code) := by rw [dg_pos (by omega)]; rfl
    omega
termination_by j
theorem c_offByRow (hd : 11 ≤ d) (hs : Sh σ g) {code n : Nat} (hc : code < 262144) (hn : n ≤ 3) (ht : TW f pl) (hv : VS pl N (-1) rd) (hN : N + 7 * (n : Int) ≤ 1000000) (hm : MRd (f 229) rd) (hkp : Kp f0 f) (h219 : ∀ i, i = 21 ∨ i = 23 → f 219 i = f0 219 i) (K : ∀ f', Kp f0 f' → f' 229 = f0 229 → (∀ i, i = 21 ∨ i = 23 → f' 219 i = f0 219 i) → f' 219 24 = -1 → Q (some (zi (tot pl rd (dg n code)))) σ f' g) : ZCt d 228 [zr (some 219), zi (code : Int), zi (n : Int)] σ f g Q := by
  refine ZCt.of' (L0 := [_, _, _, _, _]) (by omega) rfl rfl rfl (fun d hd1 => ?_)
  refine r_aload_n rfl rfl ?_
  refine r_getR rfl (by first | assumption | exact hs.o rfl) (by first | assumption | exact hs.g rfl) ?_
  refine r_bipush rfl ?_
  refine r_iald rfl (by first | assumption | exact hs.a rfl) (by omega) (by omega) ((zix (n := 11) rfl).trans hm.2.1) ?_
  refine r_istore_n (L' := [_, _, _, _, _]) rfl rfl rfl ?_
  refine r_iload_n rfl rfl ?_
  refine r_iconst rfl ?_
  refine r_isub rfl ?_
  refine r_istore (L' := [_, _, _, _, _]) rfl rfl rfl ?_
  refine l_offRow (by omega) hs hc hn (fun f2 rd2 hk2 hi2 hm2 hX2 => ?_) n (Nat.le_refl n) _ (by omega) f rd N ht hv hN hm rfl hkp h219
  refine r_aload_n rfl rfl ?_
  refine r_iconst rfl ?_
  refine r_putI rfl (by first | assumption | exact hs.o rfl) ?_
  refine r_aload_n rfl rfl ?_
  refine r_getR rfl (by first | assumption | exact hs.o rfl) (by first | assumption | exact hs.g rfl) ?_
  refine r_bipush rfl ?_
  refine r_iald rfl (by first | assumption | exact hs.a rfl) (by omega) (by omega) ((zix (n := 11) rfl).trans ((congrFun (up2_o _ _ (by omega)) _).trans hm2.2.1)) ?_
  refine r_iload_n rfl rfl ?_
  refine r_isub rfl ?_
  refine r_istore (L' := [_, _, _, _, _]) rfl rfl rfl ?_
  refine r_aload_n rfl rfl ?_
  refine r_callV0 rfl rfl (by first | assumption | exact hs.o rfl) rfl (c_laysBack (by omega) hs (hk2.upM (by omega)) (fun f3 hk3 h93 he3 => ?_))
  refine r_iload rfl rfl ?_
  refine r_iret rfl ?_
  rw [hX2, show rd 5 1 + tot pl rd (dg n code) - rd 5 1 = tot pl rd (dg n code) by omega]
  exact K f3 hk3 h93 (fun i q => by rw [he3 219 (by omega), up2_ne _ _ (by omega)]; exact hi2 i q) (by rw [he3 219 (by omega), up2_same])
theorem bF_up {n k : Nat} (h : (bF pl rd n k).1 < tot pl rd (dg n k)) : bF pl rd n (k + 1) = (tot pl rd (dg n k), (k : Int)) := if_pos h
theorem bF_st {n k : Nat} (h : ¬ (bF pl rd n k).1 < tot pl rd (dg n k)) : bF pl rd n (k + 1) = bF pl rd n k := if_neg h
theorem bF_rng {n : Nat} (hn : n ≤ 3) : ∀ k : Nat, -1 ≤ (bF pl rd n k).1 ∧ (bF pl rd n k).1 ≤ 60 := by
  intro k
  induction k with
  | zero => exact ⟨by show (-1 : Int) ≤ -1; omega, by show (-1 : Int) ≤ 60; omega⟩
  | succ k ih =>
    have h1 := tot_nn (pl := pl) (dg n k) rd
    rw [dg_len] at h1
    by_cases h : (bF pl rd n k).1 < tot pl rd (dg n k)
    · rw [bF_up h]; show -1 ≤ tot pl rd (dg n k) ∧ tot pl rd (dg n k) ≤ 60; omega
    · rw [bF_st h]; exact ih
theorem l_rowM (hd1 : 11 ≤ d) (hs : Sh σ g) {n : Nat} {w : Int} {f00 : ZF} (hn : 1 ≤ n ∧ n ≤ 3) (hplo : PlOk pl) (hp : MPl (f00 229) pl) (hv : VS pl N (-1) rd) (hN : N + 7 * (n : Int) ≤ 1000000) (hm : MRd (f00 229) rd) (h23 : f00 219 23 = -1) (KE : ∀ f' x5 x6, Kp f00 f' → f' 229 = f00 229 → (∀ i, i = 21 ∨ i = 23 ∨ i = 24 → f' 219 i = f00 219 i) → ZWp d zt227 88 [zr (some 219), zi (n : Int), zi w, zi (bF pl rd n (64 ^ n)).2, zi (bF pl rd n (64 ^ n)).1, x5, x6] [] σ f' g Q) (k : Nat) (hk : k ≤ 64 ^ n) (f : ZF) (x6 : ZV) (hkp : Kp f00 f) (h9 : f 229 = f00 229) (h219 : ∀ i, i = 21 ∨ i = 23 → f 219 i = f00 219 i) (h24 : f 219 24 = f00 219 24) (h240 : f00 219 24 = -1) : ZWp d zt227 45 [zr (some 219), zi (n : Int), zi w, zi (bF pl rd n k).2, zi (bF pl rd n k).1, zi (k : Int), x6] [] σ f g Q := by
  have h64 := p64 hn.2
  have hr := bF_rng (pl := pl) (rd := rd) hn.2 k
  have hlim : z_shl 1 (6 * (n : Int)) = ((64 ^ n : Nat) : Int) := by
    rw [show (6 : Int) * (n : Int) = ((6 * n : Nat) : Int) by omega, z_shl_one (by omega), Nat.pow_mul]
  have ht := tot_nn (pl := pl) (dg n k) rd
  rw [dg_len] at ht
  refine r_iload rfl rfl ?_
  refine r_iconst rfl ?_
  refine r_bipush rfl ?_
  refine r_iload_n rfl rfl ?_
  refine r_imul rfl ?_
  refine r_ishl rfl ?_
  rw [hlim]
  refine r_icmp_ge rfl (by omega) (by omega) (fun hlt => ?_) (fun hlt => ?_)
  · have e : k = 64 ^ n := by omega
    subst e
    exact KE f _ _ hkp h9 (fun i q => by rcases q with q | q | q; exact h219 i (by omega); exact h219 i (by omega); rw [q]; exact h24)
  · refine r_aload_n rfl rfl ?_
    refine r_iload rfl rfl ?_
    refine r_iload_n rfl rfl ?_
    refine r_callV2 rfl rfl (by first | assumption | exact hs.o rfl) rfl (c_offByRow (N := N) (by omega) hs (by omega) hn.2 ⟨by rw [h9]; exact hp, hplo, (h219 23 (by omega)).trans h23⟩ hv hN (by rw [h9]; exact hm) hkp h219 (fun f1 hk1 h91 hi1 h241 => ?_))
    refine r_istore (L' := [_, _, _, _, _, _, _]) rfl rfl rfl ?_
    refine r_iload rfl rfl ?_
    refine r_iload rfl rfl ?_
    refine r_icmp_gt rfl (by omega) (by omega) (fun hgt => ?_) (fun hgt => ?_)
    · refine r_iload rfl rfl ?_
      refine r_istore_n (L' := [_, _, _, _, _, _, _]) rfl rfl rfl ?_
      refine r_iload rfl rfl ?_
      refine r_istore (L' := [_, _, _, _, _, _, _]) rfl rfl rfl ?_
      refine r_iinc (L' := [_, _, _, _, _, _, _]) rfl rfl rfl ?_
      refine r_goto rfl ?_
      have := l_rowM hd1 hs hn hplo hp hv hN hm h23 KE (k + 1) (by omega) f1 (zi (tot pl rd (dg n k))) hk1 h91 hi1 (h241.trans h240.symm) h240
      rw [bF_up (by omega)] at this
      exact this
    · refine r_goto rfl ?_
      refine r_iinc (L' := [_, _, _, _, _, _, _]) rfl rfl rfl ?_
      refine r_goto rfl ?_
      have := l_rowM hd1 hs hn hplo hp hv hN hm h23 KE (k + 1) (by omega) f1 (zi (tot pl rd (dg n k))) hk1 h91 hi1 (h241.trans h240.symm) h240
      rw [bF_st (by omega)] at this
      exact this
termination_by 64 ^ n - k
theorem c_row (hd : 12 ≤ d) (hs : Sh σ g) (hM : MI f a) (hA : AOk N a) {n w : Int} (hni : IR n) (hwi : IR w) (K : ∀ f', FrMQ f f' → Q (some (zi (qRow a n w))) σ f' g) : ZCt d 227 [zr (some 219), zi n, zi w] σ f g Q := by
  refine ZCt.of' (L0 := [_, _, _, _, _, _, _]) (by omega) rfl rfl rfl (fun d hd1 => ?_)
  refine r_aload_n rfl rfl ?_
  refine r_callV0 rfl rfl (by first | assumption | exact hs.o rfl) rfl (c_shown (by omega) hs hM hA (fun pl rd0 hp => ?_) (fun hnp => ?_))
  · refine r_if_n rfl (by decide) ?_
    refine r_iload_n rfl rfl ?_
    refine r_i2l rfl (by omega) ?_
    refine r_lconst rfl ?_
    refine r_ldc2 rfl ?_
    refine r_callS3 rfl rfl rfl (c_in (by omega) (by omega) (by omega) (by omega) (fun hn => ?_) (fun hn => ?_))
    · refine r_if_n rfl (by decide) ?_
      refine r_iload_n rfl rfl ?_
      refine r_i2l rfl (by omega) ?_
      refine r_lconst rfl ?_
      refine r_ldc2 rfl ?_
      refine r_callS3 rfl rfl rfl (c_in (by omega) (by omega) (by omega) (by omega) (fun hw => ?_) (fun hw => ?_))
      · refine r_if_y rfl (by decide) ?_
        refine r_iconst rfl ?_
        refine r_istore_n (L' := [_, _, _, _, _, _, _]) rfl rfl rfl ?_
        refine r_iconst rfl ?_
        refine r_istore (L' := [_, _, _, _, _, _, _]) rfl rfl rfl ?_
        refine r_aload_n rfl rfl ?_
        obtain ⟨hplo, hvr, hst⟩ := hA.plS hp
        have hN := hA.2.2.2.2.2.2.2
        have hvs := hvr.vs
        have ht0 : TM σ f g pl (AL a a.fo pl) (-1) := MI.tm hs hM hA hp
        have hm0 : MRd (f 229) a.w.rd := hM.w.2.1
        refine r_callV0 rfl rfl (by first | assumption | exact hs.o rfl) rfl (c_keeps (by omega) hs (fun f1 hk1 he1 => ?_))
        have ht1 : TM σ f1 g pl (AL a a.fo pl) (-1) := ht0.k1 he1
        have hm1 : MRd (f1 229) a.w.rd := by rw [he1 229 (by omega)]; exact hm0
        obtain ⟨nn, rfl⟩ := Int.eq_ofNat_of_zero_le (show 0 ≤ n by omega)
        obtain ⟨ww, rfl⟩ := Int.eq_ofNat_of_zero_le (show 0 ≤ w by omega)
        have e219 : ∀ i, f1 219 i = f 219 i := fun i => by rw [he1 219 (by omega)]
        have e229 : f1 229 = f 229 := he1 229 (by omega)
        refine r_iconst rfl ?_
        refine r_istore (L' := [_, _, _, _, _, _, _]) rfl rfl rfl ?_
        refine l_rowM (N := N) (by omega) hs (by omega) hplo ht0.1 hvs (by omega) hm0 hM.cl (fun f2 x5 x6 hk2 h92 hi2 => ?_) 0 (Nat.zero_le _) f1 _ hk1 e229 (fun i _ => e219 i) (e219 24) hM.pn
        have h64 := p64 (n := nn) (by omega)
        obtain ⟨kk, ek, ekl, _⟩ := bF_is pl a.w.rd nn (64 ^ nn) (Nat.pow_pos (by omega))
        refine r_iload_n rfl rfl ?_
        refine r_if_ne rfl (by omega) (fun hw0 => ?_) (fun hw0 => ?_)
        · refine r_iload_n rfl rfl ?_
          refine r_iload_n rfl rfl ?_
          refine r_icmp_gt rfl (by omega) (by omega) (fun hwn => ?_) (fun hwn => ?_)
          · refine r_bipush rfl ?_
            refine r_iret rfl ?_
            rw [qRow_gt hp (by omega) (by omega)] at K
            exact K f2 (hk2.back h92 hi2)
          · refine r_iload_n rfl rfl ?_
            refine r_bipush rfl ?_
            refine r_iload_n rfl rfl ?_
            refine r_iload_n rfl rfl ?_
            refine r_isub rfl ?_
            refine r_imul rfl ?_
            refine r_ishr rfl ?_
            refine r_bipush rfl ?_
            refine r_iand rfl ?_
            refine r_goto rfl ?_
            refine r_iret rfl ?_
            rw [ek, dg_bits (j := nn - ww) (by omega) (by omega) (by omega)]
            rw [qRow_yes hp (by omega) (by omega), if_neg (by omega), dg_get _ _ _ (by omega), ek, Int.toNat_natCast, show nn - 1 - (ww - 1) = nn - ww by omega] at K
            exact K f2 (hk2.back h92 hi2)
        · refine r_iload rfl rfl ?_
          refine r_goto rfl ?_
          refine r_iret rfl ?_
          rw [qRow_yes hp (by omega) (by omega), if_pos (by omega)] at K
          exact K f2 (hk2.back h92 hi2)
      · refine r_if_n rfl (by decide) ?_
        refine r_iconst rfl ?_
        refine r_iret rfl ?_
        first
        | (rw [qRow_no (by omega)] at K; exact K f (FrMQ.rf f))
        | (rw [qRow_none hnp] at K; exact K f (FrMQ.rf f))
    · refine r_if_y rfl (by decide) ?_
      refine r_iconst rfl ?_
      refine r_iret rfl ?_
      first
      | (rw [qRow_no (by omega)] at K; exact K f (FrMQ.rf f))
      | (rw [qRow_none hnp] at K; exact K f (FrMQ.rf f))
  · refine r_if_y rfl (by decide) ?_
    refine r_iconst rfl ?_
    refine r_iret rfl ?_
    first
    | (rw [qRow_no (by omega)] at K; exact K f (FrMQ.rf f))
    | (rw [qRow_none hnp] at K; exact K f (FrMQ.rf f))
end ROWM
