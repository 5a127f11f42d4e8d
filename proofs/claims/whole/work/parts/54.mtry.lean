/-! Trials of the reference: it goes on in what is said, and lays it back -/
/-- f is what f0 has become in a trial -/
def Kp (f0 f : ZF) : Prop := (∀ c, c ≠ 219 → ¬ (227 ≤ c ∧ c ≤ 229) → ¬ (231 ≤ c ∧ c ≤ 235) → f c = f0 c) ∧ (∀ i, i ≠ 18 → i ≠ 21 → i ≠ 23 → i ≠ 24 → i ≠ 25 → i ≠ 29 → i ≠ 30 → i ≠ 35 → f 219 i = f0 219 i) ∧ (∀ i, (i < 10 ∨ 67 ≤ i) → f 229 i = f0 229 i) ∧ ∀ i, i < 57 → f 231 i = f0 229 (10 + i)
theorem Kp.m {f0 f f' : ZF} (h : Kp f0 f) (h' : FrM f f') : Kp f0 f' := ⟨fun c q1 q2 q3 => (h'.1 c q1 (by omega) (by omega) (by omega)).trans (h.1 c q1 q2 q3), fun i q1 q2 q3 q4 q5 q6 q7 q8 => (h'.2.1 i q1 q5).trans (h.2.1 i q1 q2 q3 q4 q5 q6 q7 q8), fun i q => (h'.2.2 i q).trans (h.2.2.1 i q), fun i q => by rw [h'.1 231 (by omega) (by omega) (by omega) (by omega)]; exact h.2.2.2 i q⟩
theorem Kp.up {f0 f : ZF} {c i : Nat} {v : Int} (h : Kp f0 f) (hc : 232 ≤ c ∧ c ≤ 235) : Kp f0 (up2 f c i v) := ⟨fun c' q1 q2 q3 => (up2_o _ _ (by omega)).trans (h.1 c' q1 q2 q3), fun j q1 q2 q3 q4 q5 q6 q7 q8 => by rw [up2_o _ _ (by omega)]; exact h.2.1 j q1 q2 q3 q4 q5 q6 q7 q8, fun j q => by rw [up2_o _ _ (by omega)]; exact h.2.2.1 j q, fun j q => by rw [up2_o _ _ (by omega)]; exact h.2.2.2 j q⟩
theorem Kp.upM {f0 f : ZF} {i : Nat} {v : Int} (h : Kp f0 f) (hi : i = 18 ∨ i = 21 ∨ i = 23 ∨ i = 24 ∨ i = 25 ∨ i = 29 ∨ i = 30 ∨ i = 35) : Kp f0 (up2 f 219 i v) := ⟨fun c' q1 q2 q3 => (up2_o _ _ q1).trans (h.1 c' q1 q2 q3), fun j q1 q2 q3 q4 q5 q6 q7 q8 => by rw [up2_ne _ _ (by omega)]; exact h.2.1 j q1 q2 q3 q4 q5 q6 q7 q8, fun j q => by rw [up2_o _ _ (by omega)]; exact h.2.2.1 j q, fun j q => by rw [up2_o _ _ (by omega)]; exact h.2.2.2 j q⟩
theorem Kp.upS {f0 f : ZF} {i : Nat} {v : Int} (h : Kp f0 f) (hi : 10 ≤ i ∧ i < 67) : Kp f0 (up2 f 229 i v) := ⟨fun c' q1 q2 q3 => (up2_o _ _ (by omega)).trans (h.1 c' q1 q2 q3), fun j q1 q2 q3 q4 q5 q6 q7 q8 => by rw [up2_o _ _ (by omega)]; exact h.2.1 j q1 q2 q3 q4 q5 q6 q7 q8, fun j q => by rw [up2_ne _ _ (by omega)]; exact h.2.2.1 j q, fun j q => by rw [up2_o _ _ (by omega)]; exact h.2.2.2 j q⟩
/-- laid back: only the scratch is other -/
theorem Kp.back {f0 f : ZF} (h : Kp f0 f) (h9 : f 229 = f0 229) (h1 : ∀ i, i = 21 ∨ i = 23 ∨ i = 24 → f 219 i = f0 219 i) : FrMQ f0 f := by
  refine ⟨fun c q1 q2 q3 => ?_, fun i q1 q2 q3 q4 q5 => ?_⟩
  · by_cases e : c = 229
    · subst e; exact h9
    · exact h.1 c q1 (by omega) q3
  · by_cases e : i = 21 ∨ i = 23 ∨ i = 24
    · exact h1 i e
    · exact h.2.1 i q1 (by omega) (by omega) (by omega) q2 q3 q4 q5
section MTRY
variable {d : Nat} {σ : ZS} {f f0 f' : ZF} {g : ZG} {Q : ZQ} {n m N : Int} {rd : Rd} {pl : Pl} {rd0 : Rd} {al : Rd → Nat → Bool} {cl : Int} {a : AS}
theorem l_keeps (hd1 : 0 ≤ d) (hs : Sh σ g) (K : ∀ f, (∀ c, c ≠ 231 → f c = f0 c) → (∀ i, i < 57 → f 231 i = f0 229 (10 + i)) → Q none σ f g) (k : Nat) (hk : k ≤ 57) (f : ZF) (hf : ∀ c, c ≠ 231 → f c = f0 c) (hcp : ∀ i, i < k → f 231 i = f0 229 (10 + i)) : ZWp d zt215 2 [zr (some 219), zi (k : Int)] [] σ f g Q := by
  refine r_iload_n rfl rfl ?_
  refine r_bipush rfl ?_
  refine r_icmp_ge rfl (by omega) (by omega) (fun hlt => ?_) (fun hlt => ?_)
  · have e : k = 57 := by omega
    subst e
    refine r_ret rfl ?_
    exact K f hf hcp
  · refine r_aload_n rfl rfl ?_
    refine r_getR rfl (by first | assumption | exact hs.o rfl) (by first | assumption | exact hs.g rfl) ?_
    refine r_iload_n rfl rfl ?_
    refine r_aload_n rfl rfl ?_
    refine r_getR rfl (by first | assumption | exact hs.o rfl) (by first | assumption | exact hs.g rfl) ?_
    refine r_bipush rfl ?_
    refine r_iload_n rfl rfl ?_
    refine r_iadd rfl ?_
    refine r_iald rfl (by first | assumption | exact hs.a rfl) (by omega) (by omega) ((zix (n := 10 + k) (by omega)).trans (congrFun (hf 229 (by omega)) _)) ?_
    refine r_iastN (k) rfl (by first | assumption | exact hs.a rfl) (by omega) (by omega) (by omega) ?_
    refine r_iinc (L' := [_, _]) rfl rfl rfl ?_
    refine r_goto rfl ?_
    refine l_keeps hd1 hs K (k + 1) (by omega) _ (fun c q => (up2_o _ _ q).trans (hf c q)) (fun i hi => ?_)
    by_cases e : i = k
    · subst e; exact up2_same _ _ _ _
    · rw [up2_ne _ _ (by omega)]; exact hcp i (by omega)
termination_by 57 - k
theorem c_keeps (hd : 1 ≤ d) (hs : Sh σ g) (K : ∀ f', Kp f f' → (∀ c, c ≠ 231 → f' c = f c) → Q none σ f' g) : ZCt d 215 [zr (some 219)] σ f g Q := by
  refine ZCt.of' (L0 := [_, _]) (by omega) rfl rfl rfl (fun d hd1 => ?_)
  refine r_iconst rfl ?_
  refine r_istore_n (L' := [_, _]) rfl rfl rfl ?_
  exact l_keeps (by omega) hs (fun f1 h1 h2 => K f1 ⟨fun c _ _ q3 => h1 c (by omega), fun i _ _ _ _ _ _ _ _ => by rw [h1 219 (by omega)], fun i _ => by rw [h1 229 (by omega)], h2⟩ (fun c q => h1 c q)) 0 (by omega) f (fun _ _ => rfl) (fun i q => by omega)
theorem l_lays (hd1 : 0 ≤ d) (hs : Sh σ g) (K : ∀ f, (∀ c, c ≠ 229 → f c = f0 c) → (∀ i, i < 57 → f 229 (10 + i) = f0 231 i) → (∀ i, (i < 10 ∨ 67 ≤ i) → f 229 i = f0 229 i) → Q none σ f g) (k : Nat) (hk : k ≤ 57) (f : ZF) (hf : ∀ c, c ≠ 229 → f c = f0 c) (hcp : ∀ i, (i < k → f 229 (10 + i) = f0 231 i) ∧ ((i < 10 ∨ 67 ≤ i) → f 229 i = f0 229 i)) : ZWp d zt217 2 [zr (some 219), zi (k : Int)] [] σ f g Q := by
  refine r_iload_n rfl rfl ?_
  refine r_bipush rfl ?_
  refine r_icmp_ge rfl (by omega) (by omega) (fun hlt => ?_) (fun hlt => ?_)
  · have e : k = 57 := by omega
    subst e
    refine r_ret rfl ?_
    exact K f hf (fun i hi => (hcp i).1 hi) (fun i hi => (hcp i).2 hi)
  · refine r_aload_n rfl rfl ?_
    refine r_getR rfl (by first | assumption | exact hs.o rfl) (by first | assumption | exact hs.g rfl) ?_
    refine r_bipush rfl ?_
    refine r_iload_n rfl rfl ?_
    refine r_iadd rfl ?_
    refine r_aload_n rfl rfl ?_
    refine r_getR rfl (by first | assumption | exact hs.o rfl) (by first | assumption | exact hs.g rfl) ?_
    refine r_iload_n rfl rfl ?_
    refine r_iald rfl (by first | assumption | exact hs.a rfl) (by omega) (by omega) ((zix (n := k) (by omega)).trans (congrFun (hf 231 (by omega)) _)) ?_
    refine r_iastN (10 + k) rfl (by first | assumption | exact hs.a rfl) (by omega) (by omega) (by omega) ?_
    refine r_iinc (L' := [_, _]) rfl rfl rfl ?_
    refine r_goto rfl ?_
    refine l_lays hd1 hs K (k + 1) (by omega) _ (fun c q => (up2_o _ _ q).trans (hf c q)) (fun i => ⟨fun hi => ?_, fun hi => ?_⟩)
    · by_cases e : i = k
      · subst e; exact up2_same _ _ _ _
      · rw [up2_ne _ _ (by omega)]; exact (hcp i).1 (by omega)
    · rw [up2_ne _ _ (by omega)]; exact (hcp i).2 hi
termination_by 57 - k
theorem c_laysBack (hd : 1 ≤ d) (hs : Sh σ g) (hk : Kp f0 f) (K : ∀ f', Kp f0 f' → f' 229 = f0 229 → (∀ c, c ≠ 229 → f' c = f c) → Q none σ f' g) : ZCt d 217 [zr (some 219)] σ f g Q := by
  refine ZCt.of' (L0 := [_, _]) (by omega) rfl rfl rfl (fun d hd1 => ?_)
  refine r_iconst rfl ?_
  refine r_istore_n (L' := [_, _]) rfl rfl rfl ?_
  refine l_lays (by omega) hs (fun f1 h1 h2 h3 => ?_) 0 (by omega) f (fun _ _ => rfl) (fun i => ⟨fun q => by omega, fun _ => rfl⟩)
  refine K f1 ⟨fun c q1 q2 q3 => (h1 c (by omega)).trans (hk.1 c q1 q2 q3), fun i q1 q2 q3 q4 q5 q6 q7 q8 => by rw [h1 219 (by omega)]; exact hk.2.1 i q1 q2 q3 q4 q5 q6 q7 q8, fun i q => (h3 i q).trans (hk.2.2.1 i q), fun i q => by rw [h1 231 (by omega)]; exact hk.2.2.2 i q⟩ ?_ h1
  funext i
  by_cases q : i < 10 ∨ 67 ≤ i
  · exact (h3 i q).trans (hk.2.2.1 i q)
  · have e1 := h2 (i - 10) (by omega)
    have e2 := hk.2.2.2 (i - 10) (by omega)
    rw [show 10 + (i - 10) = i by omega] at e1 e2
    exact e1.trans e2
theorem TM.kp {f' : ZF} (h : TM σ f g pl al cl) (hc : ∀ c, c ≠ 229 → f' c = f c) (h9 : ∀ i, i < 10 ∨ 67 ≤ i → f' 229 i = f 229 i) : TM σ f' g pl al cl := h.fr2 (fun c q1 q2 => hc c (by omega)) h9 (fun i _ => by rw [hc 219 (by omega)]) h.2.2.2.1 (by rw [hc 219 (by omega)]; exact h.2.2.1)
theorem TM.k1 {f' : ZF} (h : TM σ f g pl al cl) (hc : ∀ c, c ≠ 231 → f' c = f c) : TM σ f' g pl al cl := h.fr2 (fun c q1 q2 => hc c (by omega)) (fun i _ => by rw [hc 229 (by omega)]) (fun i _ => by rw [hc 219 (by omega)]) h.2.2.2.1 (by rw [hc 219 (by omega)]; exact h.2.2.1)
theorem TM.sd {i : Nat} {v : Int} (h : TM σ f g pl al cl) (hi : 10 ≤ i ∧ i < 67) : TM σ (up2 f 229 i v) g pl al cl := h.fr ((FrM.rf f).said hi)
/-- the reference's engine, at a trial's begin -/
theorem MI.tm (hs : Sh σ g) (hM : MI f a) (hA : AOk N a)  (hp : a.w.pn = some (pl, rd0)) : TM σ f g pl (AL a a.fo pl) (-1) := tm_of hs hM hA hp hA.2.2.2.1 (fun _ _ _ => rfl) (fun _ _ => rfl) hM.fo hM.pn hM.cl
theorem l_passAll (hd1 : 10 ≤ d) (hs : Sh σ g) (ht : TM σ f0 g pl al cl) (hv : VS pl N cl rd) {n : Nat} (hN : N + 7 * (n : Int) ≤ 1000000) (K : ∀ f', FrM f0 f' → MRd (f' 229) (rIt pl al cl n rd) → Q none σ f' g) (k : Nat) (hk : k ≤ n) (f : ZF) (hf : FrM f0 f) (h : MRd (f 229) (rIt pl al cl k rd)) : ZWp d zt216 2 [zr (some 219), zi (n : Int), zi (k : Int)] [] σ f g Q := by
  have hvN := hv.1.2.2.2.2.2.2
  refine r_iload_n rfl rfl ?_
  refine r_iload_n rfl rfl ?_
  refine r_icmp_ge rfl (by omega) (by omega) (fun hlt => ?_) (fun hlt => ?_)
  · have e : k = n := by omega
    subst e
    refine r_ret rfl ?_
    exact K f hf h
  · refine r_aload_n rfl rfl ?_
    refine r_callV0 rfl rfl (by first | assumption | exact hs.o rfl) rfl (c_psv (by omega) hs (ht.fr hf) h (hv.it ht.2.1 k (by omega)).1 (by omega) (fun f1 hf1 ht1 hm1 hst1 => ?_))
    refine r_popi rfl ?_
    refine r_iinc (L' := [_, _, _]) rfl rfl rfl ?_
    refine r_goto rfl ?_
    exact l_passAll hd1 hs ht hv hN K (k + 1) (by omega) f1 (hf.trans hf1) hm1
termination_by n - k
theorem c_passesAll (hd : 11 ≤ d) (hs : Sh σ g) (ht : TM σ f g pl al cl) (hv : VS pl N cl rd) {n : Nat} (hN : N + 7 * (n : Int) ≤ 1000000) (h : MRd (f 229) rd) (K : ∀ f', FrM f f' → TM σ f' g pl al cl → MRd (f' 229) (rIt pl al cl n rd) → Q none σ f' g) : ZCt d 216 [zr (some 219), zi (n : Int)] σ f g Q := by
  refine ZCt.of' (L0 := [_, _, _]) (by omega) rfl rfl rfl (fun d hd1 => ?_)
  refine r_iconst rfl ?_
  refine r_istore_n (L' := [_, _, _]) rfl rfl rfl ?_
  exact l_passAll (by omega) hs ht hv hN (fun f1 h1 h2 => K f1 h1 (ht.fr h1) h2) 0 (by omega) f (FrM.rf f) h
theorem c_offAllIn (hd : 12 ≤ d) (hs : Sh σ g) (ht : TM σ f g pl al cl) (hv : VS pl N cl rd) {n : Nat} (hN : N + 7 * (n : Int) ≤ 1000000) (hk : Kp f0 f) (h : MRd (f 229) rd) (K : ∀ f', Kp f0 f' → f' 229 = f0 229 → (∀ i, i ≠ 18 → i ≠ 25 → f' 219 i = f 219 i) → TM σ f' g pl al cl → Q (some (zi (rIt pl al cl n rd 5 1 - rd 5 1))) σ f' g) : ZCt d 223 [zr (some 219), zi (n : Int)] σ f g Q := by
  refine ZCt.of' (L0 := [_, _, _, _]) (by omega) rfl rfl rfl (fun d hd1 => ?_)
  refine r_aload_n rfl rfl ?_
  refine r_getR rfl (by first | assumption | exact hs.o rfl) (by first | assumption | exact hs.g rfl) ?_
  refine r_bipush rfl ?_
  refine r_iald rfl (by first | assumption | exact hs.a rfl) (by omega) (by omega) ((zix (n := 11) rfl).trans h.2.1) ?_
  refine r_istore_n (L' := [_, _, _, _]) rfl rfl rfl ?_
  refine r_aload_n rfl rfl ?_
  refine r_iload_n rfl rfl ?_
  refine r_callV1 rfl rfl (by first | assumption | exact hs.o rfl) rfl (c_passesAll (by omega) hs ht hv hN h (fun f1 hf1 ht1 hm1 => ?_))
  refine r_aload_n rfl rfl ?_
  refine r_getR rfl (by first | assumption | exact hs.o rfl) (by first | assumption | exact hs.g rfl) ?_
  refine r_bipush rfl ?_
  refine r_iald rfl (by first | assumption | exact hs.a rfl) (by omega) (by omega) ((zix (n := 11) rfl).trans hm1.2.1) ?_
  refine r_iload_n rfl rfl ?_
  refine r_isub rfl ?_
  refine r_istore_n (L' := [_, _, _, _]) rfl rfl rfl ?_
  refine r_aload_n rfl rfl ?_
  refine r_callV0 rfl rfl (by first | assumption | exact hs.o rfl) rfl (c_laysBack (by omega) hs (hk.m hf1) (fun f2 hk2 h92 h2 => ?_))
  refine r_iload_n rfl rfl ?_
  refine r_iret rfl ?_
  exact K f2 hk2 h92 (fun i q1 q2 => by rw [h2 219 (by omega)]; exact hf1.2.1 i q1 q2) (ht1.kp h2 (fun i q => by rw [h92]; exact ((hk.m hf1).2.2.1 i q).symm))
theorem l_offIn (hd1 : 10 ≤ d) (hs : Sh σ g) (ht : TM σ f0 g pl al cl) (hv : VS pl N cl rd) {n : Nat} (hN : N + 7 * (n : Int) ≤ 1000000) {c : Nat} (k : Nat) (hk : k ≤ n) (f : ZF) (hf : FrM f0 f) (h : MRd (f 229) (rIt pl al cl k rd)) (K : ∀ f', FrM f0 f' → Q (some (zi (rFo pl al cl rd c (n - k) k : Int))) σ f' g) : ZWp d zt221 2 [zr (some 219), zi (c : Int), zi (n : Int), zi ((k + 1 : Nat) : Int)] [] σ f g Q := by
  have hvN := hv.1.2.2.2.2.2.2
  refine r_iload_n rfl rfl ?_
  refine r_iload_n rfl rfl ?_
  refine r_icmp_gt rfl (by omega) (by omega) (fun hgt => ?_) (fun hgt => ?_)
  · have e : k = n := by omega
    subst e
    refine r_iconst rfl ?_
    refine r_iret rfl ?_
    have := K f hf
    rw [show k - k = 0 by omega] at this
    exact this
  · refine r_aload_n rfl rfl ?_
    refine r_callV0 rfl rfl (by first | assumption | exact hs.o rfl) rfl (c_psv (by omega) hs (ht.fr hf) h (hv.it ht.2.1 k (by omega)).1 (by omega) (fun f1 hf1 ht1 hm1 hst1 => ?_))
    refine r_iload_n rfl rfl ?_
    refine r_callS2 rfl rfl rfl (c_isOf (by omega) (fun hb => ?_) (fun hb => ?_))
    · refine r_if_n rfl (by decide) ?_
      refine r_iload_n rfl rfl ?_
      refine r_iret rfl ?_
      have := K f1 (hf.trans hf1)
      rw [show n - k = (n - (k + 1)) + 1 by omega] at this
      simp only [rFo] at this
      rw [if_pos hb] at this
      exact this
    · refine r_if_y rfl (by decide) ?_
      refine r_iinc (L' := [_, _, _, _]) rfl rfl rfl ?_
      refine r_goto rfl ?_
      exact l_offIn hd1 hs ht hv hN (k + 1) (by omega) f1 (hf.trans hf1) hm1 (fun f2 h2 => by have := K f2 h2; rw [show n - k = (n - (k + 1)) + 1 by omega] at this; simp only [rFo] at this; rw [if_neg hb] at this; exact this)
termination_by n - k
theorem c_offIn (hd : 11 ≤ d) (hs : Sh σ g) (ht : TM σ f g pl al cl) (hv : VS pl N cl rd) {n : Nat} (hN : N + 7 * (n : Int) ≤ 1000000) {c : Nat} (hn1 : n ≤ 200) (h : MRd (f 229) rd) (K : ∀ f', FrM f f' → TM σ f' g pl al cl → Q (some (zi (rFo pl al cl rd c n 0 : Int))) σ f' g) : ZCt d 221 [zr (some 219), zi (c : Int), zi (n : Int)] σ f g Q := by
  refine ZCt.of' (L0 := [_, _, _, _]) (by omega) rfl rfl rfl (fun d hd1 => ?_)
  refine r_iconst rfl ?_
  refine r_istore_n (L' := [_, _, _, _]) rfl rfl rfl ?_
  exact l_offIn (by omega) hs ht hv hN 0 (by omega) f (FrM.rf f) h (fun f1 h1 => K f1 h1 (ht.fr h1))
theorem c_isCarR (hd : 2 ≤ d) (hs : Sh σ g) (h0 : f 229 0 = 1) {x : Int} (hx : 0 ≤ x ∧ x < 6) (K : Q (some (zi 1)) σ f g) : ZCt d 178 [zr (some 219), zi x] σ f g Q := by
  refine ZCt.of' (L0 := [_, _]) (by omega) rfl rfl rfl (fun d hd1 => ?_)
  refine r_aload_n rfl rfl ?_
  refine r_callV0 rfl rfl (by first | assumption | exact hs.o rfl) rfl (c_isShow (by omega) hs (by omega) (fun hp => ?_) (fun hn => absurd h0 hn))
  · refine r_if_n rfl (by decide) ?_
    refine r_iload_n rfl rfl ?_
    refine r_i2l rfl (by omega) ?_
    refine r_lconst rfl ?_
    refine r_ldc2 rfl ?_
    refine r_callS3 rfl rfl rfl (c_in (by omega) (by omega) (by omega) (by omega) (fun hc => ?_) (fun hc => ?_))
    · refine r_if_n rfl (by decide) ?_
      refine r_iconst rfl ?_
      refine r_goto rfl ?_
      refine r_zret rfl (by omega) ?_
      exact K
    · refine r_if_y rfl (by decide) ?_
      refine r_iconst rfl ?_
      refine r_zret rfl (by omega) ?_
      exfalso; omega
theorem c_carR (hd : 3 ≤ d) (hs : Sh σ g) (h0 : f 229 0 = 1) (hm : MRd (f 229) rd) (ho : RdOk n m N rd) {k : Nat} (hk : k < 6) {w : Int} (hw : w = 0 ∨ w = 2) (K : Q (some (zi (rd w.toNat k))) σ f g) : ZCt d 177 [zr (some 219), zi (k : Int), zi w] σ f g Q := by
  refine ZCt.of' (L0 := [_, _, _]) (by omega) rfl rfl rfl (fun d hd1 => ?_)
  refine r_aload_n rfl rfl ?_
  refine r_iload_n rfl rfl ?_
  refine r_callV1 rfl rfl (by first | assumption | exact hs.o rfl) rfl (c_isCarR (by omega) hs h0 (by omega) ?_)
  · refine r_if_n rfl (by decide) ?_
    refine r_iload_n rfl rfl ?_
    refine r_i2l rfl (by omega) ?_
    refine r_lconst rfl ?_
    refine r_ldc2 rfl ?_
    refine r_callS3 rfl rfl rfl (c_in (by omega) (by omega) (by omega) (by omega) (fun hin => ?_) (fun hin => ?_))
    · refine r_if_y rfl (by decide) ?_
      refine r_aload_n rfl rfl ?_
      refine r_iload_n rfl rfl ?_
      have hcar := ho.2.2.1 k hk
      refine r_callV1 rfl rfl (by first | assumption | exact hs.o rfl) rfl (c_mOn (by omega) hs hm ho hk (fun hon => ?_) (fun hoff => ?_))
      · refine r_if_y rfl (by decide) ?_
        refine r_aload_n rfl rfl ?_
        refine r_getR rfl (by first | assumption | exact hs.o rfl) (by first | assumption | exact hs.g rfl) ?_
        refine r_bipush rfl ?_
        refine r_iconst rfl ?_
        refine r_iload_n rfl rfl ?_
        refine r_imul rfl ?_
        refine r_iadd rfl ?_
        refine r_iconst rfl ?_
        refine r_iadd rfl ?_
        refine r_iload_n rfl rfl ?_
        refine r_iadd rfl ?_
        rcases (show w = 0 ∨ w = 2 by omega) with rfl | rfl
        · refine r_iald rfl (by first | assumption | exact hs.a rfl) (by omega) (by omega) ((zix (n := 13 + 5 * k) (by omega)).trans hon.2.2.2.2.2.1) ?_
          refine r_iret rfl ?_
          exact K
        · refine r_iald rfl (by first | assumption | exact hs.a rfl) (by omega) (by omega) ((zix (n := 15 + 5 * k) (by omega)).trans hon.2.2.2.2.2.2.2.1) ?_
          refine r_iret rfl ?_
          exact K
      · refine r_if_n rfl (by decide) ?_
        refine r_iload_n rfl rfl ?_
        refine r_iconst rfl ?_
        refine r_icmp_ge rfl (by omega) (by omega) (fun h2 => ?_) (fun h2 => ?_)
        · refine r_iconst rfl ?_
          refine r_iret rfl ?_
          first | (exfalso; omega) | (rcases (show w = 0 by omega) with rfl; rw [show rd (0 : Int).toNat k = -1 from hoff] at K; exact K) | (rcases (show w = 2 by omega) with rfl; rw [show rd (2 : Int).toNat k = 0 by show rd 2 k = 0; omega] at K; exact K)
        · refine r_iconst rfl ?_
          refine r_goto rfl ?_
          refine r_iret rfl ?_
          first | (exfalso; omega) | (rcases (show w = 0 by omega) with rfl; rw [show rd (0 : Int).toNat k = -1 from hoff] at K; exact K) | (rcases (show w = 2 by omega) with rfl; rw [show rd (2 : Int).toNat k = 0 by show rd 2 k = 0; omega] at K; exact K)
    · refine r_if_n rfl (by decide) ?_
      refine r_bipush rfl ?_
      refine r_iret rfl ?_
      first | (exfalso; omega) | (rcases (show w = 0 by omega) with rfl; rw [show rd (0 : Int).toNat k = -1 from hoff] at K; exact K) | (rcases (show w = 2 by omega) with rfl; rw [show rd (2 : Int).toNat k = 0 by show rd 2 k = 0; omega] at K; exact K)
theorem qAhead_no {c n w : Int} (h : ∀ pl rd0, a.w.pn = some (pl, rd0) → ¬ ((0 ≤ n ∧ n ≤ 100) ∧ (0 ≤ w ∧ w ≤ 2) ∧ (w = 2 ∨ (0 ≤ c ∧ c < 6)))) : qAhead a c n w = -2 := by
  unfold qAhead
  cases hp : a.w.pn with
  | none => rfl
  | some z => exact if_neg (h z.1 z.2 hp)
theorem qAhead_yes {c n w : Int} (hp : a.w.pn = some (pl, rd0)) (h : (0 ≤ n ∧ n ≤ 100) ∧ (0 ≤ w ∧ w ≤ 2) ∧ (w = 2 ∨ (0 ≤ c ∧ c < 6))) : qAhead a c n w = (if w = 2 then rIt pl (AL a a.fo pl) (-1) n.toNat a.w.rd 5 1 else if w = 0 then rIt pl (AL a a.fo pl) (-1) n.toNat a.w.rd 0 c.toNat else rIt pl (AL a a.fo pl) (-1) n.toNat a.w.rd 2 c.toNat) := by
  unfold qAhead
  rw [hp]
  exact if_pos h
theorem c_ahead (hd : 13 ≤ d) (hs : Sh σ g) (hM : MI f a) (hA : AOk N a) {c n w : Int} (hc : IR c) (hni : IR n) (hwi : IR w) (K : ∀ f', FrMQ f f' → Q (some (zi (qAhead a c n w))) σ f' g) : ZCt d 214 [zr (some 219), zi c, zi n, zi w] σ f g Q := by
  refine ZCt.of' (L0 := [_, _, _, _, _]) (by omega) rfl rfl rfl (fun d hd1 => ?_)
  refine r_aload_n rfl rfl ?_
  refine r_callV0 rfl rfl (by first | assumption | exact hs.o rfl) rfl (c_shown (by omega) hs hM hA (fun pl rd0 hp => ?_) (fun hnp => ?_))
  · refine r_if_n rfl (by decide) ?_
    refine r_iload_n rfl rfl ?_
    refine r_i2l rfl (by omega) ?_
    refine r_lconst rfl ?_
    refine r_ldc2 rfl ?_
    refine r_callS3 rfl rfl rfl (c_in (by omega) (by omega) (by omega) (by omega) (fun hn => ?_) (fun hn => ?_))
    · refine r_if_n rfl (by decide) ?_
      refine r_iload_n rfl rfl ?_
      refine r_i2l rfl (by omega) ?_
      refine r_lconst rfl ?_
      refine r_ldc2 rfl ?_
      refine r_callS3 rfl rfl rfl (c_in (by omega) (by omega) (by omega) (by omega) (fun hw => ?_) (fun hw => ?_))
      · refine r_if_n rfl (by decide) ?_
        refine r_iload_n rfl rfl ?_
        refine r_iconst rfl ?_
        refine r_icmp_ge rfl (by omega) (by omega) (fun hw2 => ?_) (fun hw2 => ?_)
        · refine r_aload_n rfl rfl ?_
          obtain ⟨hplo, hvr, hst⟩ := hA.plS hp
          have hN := hA.2.2.2.2.2.2.2
          have hvs := hvr.vs
          have ht0 : TM σ f g pl (AL a a.fo pl) (-1) := MI.tm hs hM hA hp
          have hm0 : MRd (f 229) a.w.rd := hM.w.2.1
          refine r_callV0 rfl rfl (by first | assumption | exact hs.o rfl) rfl (c_keeps (by omega) hs (fun f1 hk1 he1 => ?_))
          have ht1 : TM σ f1 g pl (AL a a.fo pl) (-1) := ht0.k1 he1
          have hm1 : MRd (f1 229) a.w.rd := by rw [he1 229 (by omega)]; exact hm0
          obtain ⟨nn, rfl⟩ := Int.eq_ofNat_of_zero_le hn.1
          refine r_aload_n rfl rfl ?_
          refine r_iload_n rfl rfl ?_
          refine r_callV1 rfl rfl (by first | assumption | exact hs.o rfl) rfl (c_passesAll (n := nn) (by omega) hs ht1 hvs (by omega) hm1 (fun f2 hf2 ht2 hm2 => ?_))
          have ho2 := (hvs.it (al := AL a a.fo pl) hplo nn (by omega)).1
          refine r_iload_n rfl rfl ?_
          refine r_iconst rfl ?_
          refine r_icmp_ne rfl (by omega) (by omega) (fun hw22 => ?_) (fun hw22 => ?_)
          · refine r_aload_n rfl rfl ?_
            refine r_iload_n rfl rfl ?_
            refine r_iconst rfl ?_
            refine r_iload_n rfl rfl ?_
            refine r_imul rfl ?_
            obtain ⟨cc, rfl⟩ := Int.eq_ofNat_of_zero_le (show 0 ≤ c by omega)
            refine r_callV2 rfl rfl (by first | assumption | exact hs.o rfl) rfl (c_carR (k := cc) (by omega) hs ht2.1.1 hm2 ho2 (by omega) (by omega) ?_)
            refine r_istore (L' := [_, _, _, _, _]) rfl rfl rfl ?_
            refine r_aload_n rfl rfl ?_
            refine r_callV0 rfl rfl (by first | assumption | exact hs.o rfl) rfl (c_laysBack (by omega) hs (hk1.m hf2) (fun f9 hk9 h99 he9 => ?_))
            refine r_iload rfl rfl ?_
            refine r_iret rfl ?_
            first
            | (exfalso; omega)
            | (refine Eq.mp (congrArg (fun z => Q (some (zi z)) σ f g) (qAhead_no (fun pl' rd0' q z => ?_))) (K f (FrMQ.rf f)); first | omega | (rw [hnp] at q; cases q) | (rcases hnc with hnc | hnc; rw [hp] at hnc; cases hnc; omega))
            | (refine Eq.mp (congrArg (fun z => Q (some (zi z)) σ f9 g) ((qAhead_yes hp (by omega)).trans ?_)) (K f9 (hk9.back h99 (fun i q => by rw [he9 219 (by omega), hf2.2.1 i (by omega) (by omega), he1 219 (by omega)]))); first | (rw [if_pos (by omega), Int.toNat_natCast]) | (rcases (show w = 0 ∨ w = 1 by omega) with rfl | rfl; rw [if_neg (by omega), if_pos rfl, Int.toNat_natCast, Int.toNat_natCast]; rfl; rw [if_neg (by omega), if_neg (by omega), Int.toNat_natCast, Int.toNat_natCast]; rfl))
          · refine r_aload_n rfl rfl ?_
            refine r_getR rfl (by first | assumption | exact hs.o rfl) (by first | assumption | exact hs.g rfl) ?_
            refine r_bipush rfl ?_
            refine r_iald rfl (by first | assumption | exact hs.a rfl) (by omega) (by omega) ((zix (n := 11) rfl).trans hm2.2.1) ?_
            refine r_goto rfl ?_
            refine r_istore (L' := [_, _, _, _, _]) rfl rfl rfl ?_
            refine r_aload_n rfl rfl ?_
            refine r_callV0 rfl rfl (by first | assumption | exact hs.o rfl) rfl (c_laysBack (by omega) hs (hk1.m hf2) (fun f9 hk9 h99 he9 => ?_))
            refine r_iload rfl rfl ?_
            refine r_iret rfl ?_
            first
            | (exfalso; omega)
            | (refine Eq.mp (congrArg (fun z => Q (some (zi z)) σ f g) (qAhead_no (fun pl' rd0' q z => ?_))) (K f (FrMQ.rf f)); first | omega | (rw [hnp] at q; cases q) | (rcases hnc with hnc | hnc; rw [hp] at hnc; cases hnc; omega))
            | (refine Eq.mp (congrArg (fun z => Q (some (zi z)) σ f9 g) ((qAhead_yes hp (by omega)).trans ?_)) (K f9 (hk9.back h99 (fun i q => by rw [he9 219 (by omega), hf2.2.1 i (by omega) (by omega), he1 219 (by omega)]))); first | (rw [if_pos (by omega), Int.toNat_natCast]) | (rcases (show w = 0 ∨ w = 1 by omega) with rfl | rfl; rw [if_neg (by omega), if_pos rfl, Int.toNat_natCast, Int.toNat_natCast]; rfl; rw [if_neg (by omega), if_neg (by omega), Int.toNat_natCast, Int.toNat_natCast]; rfl))
        · refine r_aload_n rfl rfl ?_
          refine r_iload_n rfl rfl ?_
          refine r_callV1 rfl rfl (by first | assumption | exact hs.o rfl) rfl (c_carA (by omega) hs hM hA hc (fun pl2 rd2 hp2 hcar => ?_) (fun hnc => ?_))
          · refine r_if_y rfl (by decide) ?_
            refine r_aload_n rfl rfl ?_
            obtain ⟨hplo, hvr, hst⟩ := hA.plS hp
            have hN := hA.2.2.2.2.2.2.2
            have hvs := hvr.vs
            have ht0 : TM σ f g pl (AL a a.fo pl) (-1) := MI.tm hs hM hA hp
            have hm0 : MRd (f 229) a.w.rd := hM.w.2.1
            refine r_callV0 rfl rfl (by first | assumption | exact hs.o rfl) rfl (c_keeps (by omega) hs (fun f1 hk1 he1 => ?_))
            have ht1 : TM σ f1 g pl (AL a a.fo pl) (-1) := ht0.k1 he1
            have hm1 : MRd (f1 229) a.w.rd := by rw [he1 229 (by omega)]; exact hm0
            obtain ⟨nn, rfl⟩ := Int.eq_ofNat_of_zero_le hn.1
            refine r_aload_n rfl rfl ?_
            refine r_iload_n rfl rfl ?_
            refine r_callV1 rfl rfl (by first | assumption | exact hs.o rfl) rfl (c_passesAll (n := nn) (by omega) hs ht1 hvs (by omega) hm1 (fun f2 hf2 ht2 hm2 => ?_))
            have ho2 := (hvs.it (al := AL a a.fo pl) hplo nn (by omega)).1
            refine r_iload_n rfl rfl ?_
            refine r_iconst rfl ?_
            refine r_icmp_ne rfl (by omega) (by omega) (fun hw22 => ?_) (fun hw22 => ?_)
            · refine r_aload_n rfl rfl ?_
              refine r_iload_n rfl rfl ?_
              refine r_iconst rfl ?_
              refine r_iload_n rfl rfl ?_
              refine r_imul rfl ?_
              obtain ⟨cc, rfl⟩ := Int.eq_ofNat_of_zero_le (show 0 ≤ c by omega)
              refine r_callV2 rfl rfl (by first | assumption | exact hs.o rfl) rfl (c_carR (k := cc) (by omega) hs ht2.1.1 hm2 ho2 (by omega) (by omega) ?_)
              refine r_istore (L' := [_, _, _, _, _]) rfl rfl rfl ?_
              refine r_aload_n rfl rfl ?_
              refine r_callV0 rfl rfl (by first | assumption | exact hs.o rfl) rfl (c_laysBack (by omega) hs (hk1.m hf2) (fun f9 hk9 h99 he9 => ?_))
              refine r_iload rfl rfl ?_
              refine r_iret rfl ?_
              first
              | (exfalso; omega)
              | (refine Eq.mp (congrArg (fun z => Q (some (zi z)) σ f g) (qAhead_no (fun pl' rd0' q z => ?_))) (K f (FrMQ.rf f)); first | omega | (rw [hnp] at q; cases q) | (rcases hnc with hnc | hnc; rw [hp] at hnc; cases hnc; omega))
              | (refine Eq.mp (congrArg (fun z => Q (some (zi z)) σ f9 g) ((qAhead_yes hp (by omega)).trans ?_)) (K f9 (hk9.back h99 (fun i q => by rw [he9 219 (by omega), hf2.2.1 i (by omega) (by omega), he1 219 (by omega)]))); first | (rw [if_pos (by omega), Int.toNat_natCast]) | (rcases (show w = 0 ∨ w = 1 by omega) with rfl | rfl; rw [if_neg (by omega), if_pos rfl, Int.toNat_natCast, Int.toNat_natCast]; rfl; rw [if_neg (by omega), if_neg (by omega), Int.toNat_natCast, Int.toNat_natCast]; rfl))
            · refine r_aload_n rfl rfl ?_
              refine r_getR rfl (by first | assumption | exact hs.o rfl) (by first | assumption | exact hs.g rfl) ?_
              refine r_bipush rfl ?_
              refine r_iald rfl (by first | assumption | exact hs.a rfl) (by omega) (by omega) ((zix (n := 11) rfl).trans hm2.2.1) ?_
              refine r_goto rfl ?_
              refine r_istore (L' := [_, _, _, _, _]) rfl rfl rfl ?_
              refine r_aload_n rfl rfl ?_
              refine r_callV0 rfl rfl (by first | assumption | exact hs.o rfl) rfl (c_laysBack (by omega) hs (hk1.m hf2) (fun f9 hk9 h99 he9 => ?_))
              refine r_iload rfl rfl ?_
              refine r_iret rfl ?_
              first
              | (exfalso; omega)
              | (refine Eq.mp (congrArg (fun z => Q (some (zi z)) σ f g) (qAhead_no (fun pl' rd0' q z => ?_))) (K f (FrMQ.rf f)); first | omega | (rw [hnp] at q; cases q) | (rcases hnc with hnc | hnc; rw [hp] at hnc; cases hnc; omega))
              | (refine Eq.mp (congrArg (fun z => Q (some (zi z)) σ f9 g) ((qAhead_yes hp (by omega)).trans ?_)) (K f9 (hk9.back h99 (fun i q => by rw [he9 219 (by omega), hf2.2.1 i (by omega) (by omega), he1 219 (by omega)]))); first | (rw [if_pos (by omega), Int.toNat_natCast]) | (rcases (show w = 0 ∨ w = 1 by omega) with rfl | rfl; rw [if_neg (by omega), if_pos rfl, Int.toNat_natCast, Int.toNat_natCast]; rfl; rw [if_neg (by omega), if_neg (by omega), Int.toNat_natCast, Int.toNat_natCast]; rfl))
          · refine r_if_n rfl (by decide) ?_
            refine r_bipush rfl ?_
            refine r_iret rfl ?_
            first
            | (exfalso; omega)
            | (refine Eq.mp (congrArg (fun z => Q (some (zi z)) σ f g) (qAhead_no (fun pl' rd0' q z => ?_))) (K f (FrMQ.rf f)); first | omega | (rw [hnp] at q; cases q) | (rcases hnc with hnc | hnc; rw [hp] at hnc; cases hnc; omega))
            | (refine Eq.mp (congrArg (fun z => Q (some (zi z)) σ f9 g) ((qAhead_yes hp (by omega)).trans ?_)) (K f9 (hk9.back h99 (fun i q => by rw [he9 219 (by omega), hf2.2.1 i (by omega) (by omega), he1 219 (by omega)]))); first | (rw [if_pos (by omega), Int.toNat_natCast]) | (rcases (show w = 0 ∨ w = 1 by omega) with rfl | rfl; rw [if_neg (by omega), if_pos rfl, Int.toNat_natCast, Int.toNat_natCast]; rfl; rw [if_neg (by omega), if_neg (by omega), Int.toNat_natCast, Int.toNat_natCast]; rfl))
      · refine r_if_y rfl (by decide) ?_
        refine r_bipush rfl ?_
        refine r_iret rfl ?_
        first
        | (exfalso; omega)
        | (refine Eq.mp (congrArg (fun z => Q (some (zi z)) σ f g) (qAhead_no (fun pl' rd0' q z => ?_))) (K f (FrMQ.rf f)); first | omega | (rw [hnp] at q; cases q) | (rcases hnc with hnc | hnc; rw [hp] at hnc; cases hnc; omega))
        | (refine Eq.mp (congrArg (fun z => Q (some (zi z)) σ f9 g) ((qAhead_yes hp (by omega)).trans ?_)) (K f9 (hk9.back h99 (fun i q => by rw [he9 219 (by omega), hf2.2.1 i (by omega) (by omega), he1 219 (by omega)]))); first | (rw [if_pos (by omega), Int.toNat_natCast]) | (rcases (show w = 0 ∨ w = 1 by omega) with rfl | rfl; rw [if_neg (by omega), if_pos rfl, Int.toNat_natCast, Int.toNat_natCast]; rfl; rw [if_neg (by omega), if_neg (by omega), Int.toNat_natCast, Int.toNat_natCast]; rfl))
    · refine r_if_y rfl (by decide) ?_
      refine r_bipush rfl ?_
      refine r_iret rfl ?_
      first
      | (exfalso; omega)
      | (refine Eq.mp (congrArg (fun z => Q (some (zi z)) σ f g) (qAhead_no (fun pl' rd0' q z => ?_))) (K f (FrMQ.rf f)); first | omega | (rw [hnp] at q; cases q) | (rcases hnc with hnc | hnc; rw [hp] at hnc; cases hnc; omega))
      | (refine Eq.mp (congrArg (fun z => Q (some (zi z)) σ f9 g) ((qAhead_yes hp (by omega)).trans ?_)) (K f9 (hk9.back h99 (fun i q => by rw [he9 219 (by omega), hf2.2.1 i (by omega) (by omega), he1 219 (by omega)]))); first | (rw [if_pos (by omega), Int.toNat_natCast]) | (rcases (show w = 0 ∨ w = 1 by omega) with rfl | rfl; rw [if_neg (by omega), if_pos rfl, Int.toNat_natCast, Int.toNat_natCast]; rfl; rw [if_neg (by omega), if_neg (by omega), Int.toNat_natCast, Int.toNat_natCast]; rfl))
  · refine r_if_y rfl (by decide) ?_
    refine r_bipush rfl ?_
    refine r_iret rfl ?_
    first
    | (exfalso; omega)
    | (refine Eq.mp (congrArg (fun z => Q (some (zi z)) σ f g) (qAhead_no (fun pl' rd0' q z => ?_))) (K f (FrMQ.rf f)); first | omega | (rw [hnp] at q; cases q) | (rcases hnc with hnc | hnc; rw [hp] at hnc; cases hnc; omega))
    | (refine Eq.mp (congrArg (fun z => Q (some (zi z)) σ f9 g) ((qAhead_yes hp (by omega)).trans ?_)) (K f9 (hk9.back h99 (fun i q => by rw [he9 219 (by omega), hf2.2.1 i (by omega) (by omega), he1 219 (by omega)]))); first | (rw [if_pos (by omega), Int.toNat_natCast]) | (rcases (show w = 0 ∨ w = 1 by omega) with rfl | rfl; rw [if_neg (by omega), if_pos rfl, Int.toNat_natCast, Int.toNat_natCast]; rfl; rw [if_neg (by omega), if_neg (by omega), Int.toNat_natCast, Int.toNat_natCast]; rfl))
theorem l_still (hd1 : 10 ≤ d) (hs : Sh σ g) {f00 : ZF} (ht : TM σ f0 g pl al (-1)) (hv : VS pl N (-1) rd) (hN : N + 7 * 200 ≤ 1000000) (k : Nat) (hk : k ≤ 200) (f : ZF) (hkp : Kp f00 f) (hf : FrM f0 f) (h : MRd (f 229) (rIt pl al (-1) k rd)) (hv0 : rStl pl al (-1) rd 200 0 = rStl pl al (-1) rd (200 - k) k) (KE : ∀ f' v x, Kp f00 f' → FrM f0 f' → v = rStl pl al (-1) rd 200 0 → ZWp d zt219 57 [zr (some 219), zi v, x] [] σ f' g Q) : ZWp d zt219 18 [zr (some 219), zi (-2), zi (k : Int)] [] σ f g Q := by
  have hvN := hv.1.2.2.2.2.2.2
  refine r_iload_n rfl rfl ?_
  refine r_sipush rfl ?_
  refine r_icmp_ge rfl (by omega) (by omega) (fun hlt => ?_) (fun hlt => ?_)
  · have e : k = 200 := by omega
    subst e
    exact KE f _ _ hkp hf (by rw [hv0]; rfl)
  · refine r_iload_n rfl rfl ?_
    refine r_if_ge rfl (by omega) (fun hneg => ?_) (fun hneg => ?_)
    · exfalso; omega
    · refine r_aload_n rfl rfl ?_
      refine r_callV0 rfl rfl (by first | assumption | exact hs.o rfl) rfl (c_psv (by omega) hs (ht.fr hf) h (hv.it ht.2.1 k (by omega)).1 (by omega) (fun f1 hf1 ht1 hm1 hst1 => ?_))
      refine r_popi rfl ?_
      refine r_aload_n rfl rfl ?_
      refine r_getZ rfl (by first | assumption | exact hs.o rfl) hst1 ?_
      refine r_if_ne rfl (by split <;> omega) (fun hst => ?_) (fun hst => ?_)
      · refine r_iinc (L' := [_, _, _]) rfl rfl rfl ?_
        refine r_goto rfl ?_
        have hst2 : (rStep pl al (-1) (rIt pl al (-1) k rd)).2.2 = true := by
          apply Classical.byContradiction
          intro q
          rw [if_neg q] at hst
          exact hst rfl
        refine l_still hd1 hs ht hv hN (k + 1) (by omega) f1 (hkp.m hf1) (hf.trans hf1) hm1 ?_ KE
        rw [hv0, show 200 - k = (200 - (k + 1)) + 1 by omega]
        simp only [rStl]
        rw [if_pos hst2]
      · refine r_aload_n rfl rfl ?_
        refine r_getR rfl (by first | assumption | exact hs.o rfl) (by first | assumption | exact hs.g rfl) ?_
        refine r_bipush rfl ?_
        refine r_iald rfl (by first | assumption | exact hs.a rfl) (by omega) (by omega) ((zix (n := 10) rfl).trans hm1.1) ?_
        refine r_iconst rfl ?_
        refine r_isub rfl ?_
        refine r_istore_n (L' := [_, _, _]) rfl rfl rfl ?_
        refine r_iinc (L' := [_, _, _]) rfl rfl rfl ?_
        refine r_goto rfl ?_
        have hst2 : ¬ (rStep pl al (-1) (rIt pl al (-1) k rd)).2.2 = true := by
          intro q
          rw [if_pos q] at hst
          omega
        have e10 := rStep_t (pl := pl) (al := al) (cl := -1) (rd := rIt pl al (-1) k rd)
        rw [rIt_t] at e10
        have h5r := hv.1.2.2.2.2.2.1
        have ev : (rStep pl al (-1) (rIt pl al (-1) k rd)).1 5 0 - 1 = rStl pl al (-1) rd 200 0 := by
          rw [hv0, show 200 - k = (200 - (k + 1)) + 1 by omega]
          simp only [rStl]
          rw [if_neg hst2]
          omega
        refine r_iload_n rfl rfl ?_
        refine r_sipush rfl ?_
        refine r_icmp_ge rfl (by omega) (by omega) (fun hlt2 => ?_) (fun hlt2 => ?_)
        · exact KE f1 _ _ (hkp.m hf1) (hf.trans hf1) ev
        · refine r_iload_n rfl rfl ?_
          refine r_if_ge rfl (by omega) (fun hneg2 => ?_) (fun hneg2 => ?_)
          · exact KE f1 _ _ (hkp.m hf1) (hf.trans hf1) ev
          · exfalso; omega
termination_by 200 - k
theorem c_still (hd : 12 ≤ d) (hs : Sh σ g) (hM : MI f a) (hA : AOk N a) (K : ∀ f', FrMQ f f' → Q (some (zi (qStill a))) σ f' g) : ZCt d 219 [zr (some 219)] σ f g Q := by
  refine ZCt.of' (L0 := [_, _, _]) (by omega) rfl rfl rfl (fun d hd1 => ?_)
  refine r_aload_n rfl rfl ?_
  refine r_callV0 rfl rfl (by first | assumption | exact hs.o rfl) rfl (c_shown (by omega) hs hM hA (fun pl rd0 hp => ?_) (fun hnp => ?_))
  · refine r_if_y rfl (by decide) ?_
    refine r_bipush rfl ?_
    refine r_istore_n (L' := [_, _, _]) rfl rfl rfl ?_
    refine r_aload_n rfl rfl ?_
    obtain ⟨hplo, hvr, hst⟩ := hA.plS hp
    have hN := hA.2.2.2.2.2.2.2
    have hvs := hvr.vs
    have ht0 : TM σ f g pl (AL a a.fo pl) (-1) := MI.tm hs hM hA hp
    have hm0 : MRd (f 229) a.w.rd := hM.w.2.1
    refine r_callV0 rfl rfl (by first | assumption | exact hs.o rfl) rfl (c_keeps (by omega) hs (fun f1 hk1 he1 => ?_))
    have ht1 : TM σ f1 g pl (AL a a.fo pl) (-1) := ht0.k1 he1
    have hm1 : MRd (f1 229) a.w.rd := by rw [he1 229 (by omega)]; exact hm0
    refine r_iconst rfl ?_
    refine r_istore_n (L' := [_, _, _]) rfl rfl rfl ?_
    refine l_still (by omega) hs ht1 hvs (by omega) 0 (by omega) f1 hk1 (FrM.rf f1) hm1 rfl (fun f2 v x hk2 hf2 ev => ?_)
    rw [ev]
    rw [show qStill a = rStl pl (AL a a.fo pl) (-1) a.w.rd 200 0 by unfold qStill; rw [hp]] at K
    refine r_aload_n rfl rfl ?_
    refine r_callV0 rfl rfl (by first | assumption | exact hs.o rfl) rfl (c_laysBack (by omega) hs hk2 (fun f9 hk9 h99 he9 => ?_))
    refine r_iload_n rfl rfl ?_
    refine r_iret rfl ?_
    exact K f9 (hk9.back h99 (fun i q => by rw [he9 219 (by omega), hf2.2.1 i (by omega) (by omega), he1 219 (by omega)]))
  · refine r_if_n rfl (by decide) ?_
    refine r_iconst rfl ?_
    refine r_iret rfl ?_
    rw [show qStill a = -1 by unfold qStill; rw [hnp]] at K
    exact K f (FrMQ.rf f)
theorem l_lets (hd1 : 10 ≤ d) (hs : Sh σ g) {f00 : ZF} (ht : TM σ f0 g pl al (-1)) (hv : VS pl N (-1) rd) (hN : N + 7 * 200 ≤ 1000000) {c : Nat} (k : Nat) (hk : k ≤ 200) (f : ZF) (hkp : Kp f00 f) (hf : FrM f0 f) (h : MRd (f 229) (rIt pl al (-1) k rd)) (hv0 : rFo pl al (-1) rd c 200 0 = rFo pl al (-1) rd c (200 - k) k) (KE : ∀ f' v x, Kp f00 f' → FrM f0 f' → v = (if rFo pl al (-1) rd c 200 0 = 0 then -2 else rd 5 0 + (rFo pl al (-1) rd c 200 0 : Int) - 1) → ZWp d zt218 57 [zr (some 219), zi (c : Int), zi v, x] [] σ f' g Q) : ZWp d zt218 19 [zr (some 219), zi (c : Int), zi (-2), zi (k : Int)] [] σ f g Q := by
  have hvN := hv.1.2.2.2.2.2.2
  refine r_iload_n rfl rfl ?_
  refine r_sipush rfl ?_
  refine r_icmp_ge rfl (by omega) (by omega) (fun hlt => ?_) (fun hlt => ?_)
  · have e : k = 200 := by omega
    subst e
    exact KE f _ _ hkp hf (by rw [hv0]; rfl)
  · refine r_iload_n rfl rfl ?_
    refine r_if_ge rfl (by omega) (fun hneg => ?_) (fun hneg => ?_)
    · exfalso; omega
    · refine r_aload_n rfl rfl ?_
      refine r_callV0 rfl rfl (by first | assumption | exact hs.o rfl) rfl (c_psv (by omega) hs (ht.fr hf) h (hv.it ht.2.1 k (by omega)).1 (by omega) (fun f1 hf1 ht1 hm1 hst1 => ?_))
      refine r_iload_n rfl rfl ?_
      refine r_callS2 rfl rfl rfl (c_isOf (by omega) (fun hb => ?_) (fun hb => ?_))
      · refine r_if_n rfl (by decide) ?_
        refine r_aload_n rfl rfl ?_
        refine r_getR rfl (by first | assumption | exact hs.o rfl) (by first | assumption | exact hs.g rfl) ?_
        refine r_bipush rfl ?_
        refine r_iald rfl (by first | assumption | exact hs.a rfl) (by omega) (by omega) ((zix (n := 10) rfl).trans hm1.1) ?_
        refine r_iconst rfl ?_
        refine r_isub rfl ?_
        refine r_istore_n (L' := [_, _, _, _]) rfl rfl rfl ?_
        refine r_iinc (L' := [_, _, _, _]) rfl rfl rfl ?_
        refine r_goto rfl ?_
        have e10 := rStep_t (pl := pl) (al := al) (cl := -1) (rd := rIt pl al (-1) k rd)
        rw [rIt_t] at e10
        have h5r := hv.1.2.2.2.2.2.1
        have ev : (rStep pl al (-1) (rIt pl al (-1) k rd)).1 5 0 - 1 = (if rFo pl al (-1) rd c 200 0 = 0 then -2 else rd 5 0 + (rFo pl al (-1) rd c 200 0 : Int) - 1) := by
          have er : rFo pl al (-1) rd c 200 0 = k + 1 := by rw [hv0, show 200 - k = (200 - (k + 1)) + 1 by omega]; simp only [rFo]; rw [if_pos hb]
          rw [er, if_neg (by omega)]
          omega
        refine r_iload_n rfl rfl ?_
        refine r_sipush rfl ?_
        refine r_icmp_ge rfl (by omega) (by omega) (fun hlt2 => ?_) (fun hlt2 => ?_)
        · exact KE f1 _ _ (hkp.m hf1) (hf.trans hf1) ev
        · refine r_iload_n rfl rfl ?_
          refine r_if_ge rfl (by omega) (fun hneg2 => ?_) (fun hneg2 => ?_)
          · exact KE f1 _ _ (hkp.m hf1) (hf.trans hf1) ev
          · exfalso; omega
      · refine r_if_y rfl (by decide) ?_
        refine r_iinc (L' := [_, _, _, _]) rfl rfl rfl ?_
        refine r_goto rfl ?_
        refine l_lets hd1 hs ht hv hN (k + 1) (by omega) f1 (hkp.m hf1) (hf.trans hf1) hm1 ?_ KE
        rw [hv0, show 200 - k = (200 - (k + 1)) + 1 by omega]
        simp only [rFo]
        rw [if_neg hb]
termination_by 200 - k
theorem qLets_no {c : Int} (h : ∀ k : Nat, c = (k : Int) → k < 6 → a.w.rd 0 k = -1) : qLets a c = -1 := by
  unfold qLets
  cases hp : a.w.pn with
  | none => rfl
  | some z => exact if_neg (fun q => q.2.2 (h c.toNat (by omega) (by omega)))
theorem qLets_yes {c : Nat} (hp : a.w.pn = some (pl, rd0)) (hc : c < 6) (h0 : 0 ≤ a.w.rd 0 c) : qLets a (c : Int) = (if rFo pl (AL a a.fo pl) (-1) a.w.rd c 200 0 = 0 then -2 else a.w.rd 5 0 + (rFo pl (AL a a.fo pl) (-1) a.w.rd c 200 0 : Int) - 1) := by
  unfold qLets
  rw [hp]
  simp only
  rw [if_pos ⟨by omega, by omega, by rw [Int.toNat_natCast]; omega⟩, Int.toNat_natCast]
theorem qLeast_no {c n : Int} (h : (∀ k : Nat, c = (k : Int) → k < 6 → a.w.rd 0 k = -1) ∨ ¬ (1 ≤ n ∧ n ≤ 100)) : qLeast a c n = -1 := by
  unfold qLeast
  cases hp : a.w.pn with
  | none => rfl
  | some z =>
    refine if_neg (fun q => ?_)
    rcases h with h | h
    · exact q.1.2.2 (h c.toNat (by omega) (by omega))
    · exact h q.2
theorem qLeast_yes {c n : Nat} (hp : a.w.pn = some (pl, rd0)) (hc : c < 6) (h0 : 0 ≤ a.w.rd 0 c) (hn : 1 ≤ n ∧ n ≤ 100) : qLeast a (c : Int) (n : Int) = rLf pl (AL a a.fo pl) a.w.rd c n 61 0 := by
  unfold qLeast
  rw [hp]
  simp only
  rw [if_pos ⟨⟨by omega, by omega, by rw [Int.toNat_natCast]; omega⟩, by omega⟩, Int.toNat_natCast, Int.toNat_natCast]
theorem c_lets (hd : 12 ≤ d) (hs : Sh σ g) (hM : MI f a) (hA : AOk N a) {c : Int} (hc : IR c) (K : ∀ f', FrMQ f f' → Q (some (zi (qLets a c))) σ f' g) : ZCt d 218 [zr (some 219), zi c] σ f g Q := by
  refine ZCt.of' (L0 := [_, _, _, _]) (by omega) rfl rfl rfl (fun d hd1 => ?_)
  refine r_aload_n rfl rfl ?_
  refine r_iload_n rfl rfl ?_
  refine r_callV1 rfl rfl (by first | assumption | exact hs.o rfl) rfl (c_carOnA (by omega) hs hM hA hc (fun k hxk hk6 hk0 => ?_) (fun hoff => ?_))
  · refine r_if_y rfl (by decide) ?_
    refine r_bipush rfl ?_
    refine r_istore_n (L' := [_, _, _, _]) rfl rfl rfl ?_
    refine r_aload_n rfl rfl ?_
    subst hxk
    obtain ⟨pl, rd0, hp⟩ := hA.onPl hk6 (by omega)
    obtain ⟨hplo, hvr, hst⟩ := hA.plS hp
    have hN := hA.2.2.2.2.2.2.2
    have hvs := hvr.vs
    have ht0 : TM σ f g pl (AL a a.fo pl) (-1) := MI.tm hs hM hA hp
    have hm0 : MRd (f 229) a.w.rd := hM.w.2.1
    refine r_callV0 rfl rfl (by first | assumption | exact hs.o rfl) rfl (c_keeps (by omega) hs (fun f1 hk1 he1 => ?_))
    have ht1 : TM σ f1 g pl (AL a a.fo pl) (-1) := ht0.k1 he1
    have hm1 : MRd (f1 229) a.w.rd := by rw [he1 229 (by omega)]; exact hm0
    refine r_iconst rfl ?_
    refine r_istore_n (L' := [_, _, _, _]) rfl rfl rfl ?_
    refine l_lets (by omega) hs ht1 hvs (by omega) 0 (by omega) f1 hk1 (FrM.rf f1) hm1 rfl (fun f2 v x hk2 hf2 ev => ?_)
    rw [ev]
    rw [qLets_yes hp hk6 hk0] at K
    refine r_aload_n rfl rfl ?_
    refine r_callV0 rfl rfl (by first | assumption | exact hs.o rfl) rfl (c_laysBack (by omega) hs hk2 (fun f9 hk9 h99 he9 => ?_))
    refine r_iload_n rfl rfl ?_
    refine r_iret rfl ?_
    exact K f9 (hk9.back h99 (fun i q => by rw [he9 219 (by omega), hf2.2.1 i (by omega) (by omega), he1 219 (by omega)]))
  · refine r_if_n rfl (by decide) ?_
    refine r_iconst rfl ?_
    refine r_iret rfl ?_
    rw [qLets_no hoff] at K
    exact K f (FrMQ.rf f)
theorem l_least (hd1 : 12 ≤ d) (hs : Sh σ g) {f00 : ZF} (hv : VS pl N (-1) rd) {n : Nat} (hN : N + 7 * (n : Int) ≤ 1000000) (hn200 : n ≤ 200) {c : Nat} (hc : c < 6) (hon : 0 ≤ rd 0 c) (hm : MRd (f00 229) rd) (k : Nat) (hk : k ≤ 61) (f : ZF) (hkp : Kp f00 f) (h9 : f 229 = f00 229) (hf : ∀ i, i ≠ 18 → i ≠ 25 → f 219 i = f0 219 i) (ht : TM σ f g pl al (-1)) (hv0 : rLf pl al rd c n 61 0 = rLf pl al rd c n (61 - k) k) (KE : ∀ f' v x, Kp f00 f' → f' 229 = f00 229 → (∀ i, i ≠ 18 → i ≠ 25 → f' 219 i = f0 219 i) → v = rLf pl al rd c n 61 0 → ZWp d zt220 80 [zr (some 219), zi (c : Int), zi (n : Int), zi v, x] [] σ f' g Q) : ZWp d zt220 32 [zr (some 219), zi (c : Int), zi (n : Int), zi (-2), zi (k : Int)] [] σ f g Q := by
  have hvN := hv.1.2.2.2.2.2.2
  refine r_iload rfl rfl ?_
  refine r_bipush rfl ?_
  refine r_icmp_gt rfl (by omega) (by omega) (fun hgt => ?_) (fun hgt => ?_)
  · have e : k = 61 := by omega
    subst e
    exact KE f _ _ hkp h9 hf (by rw [hv0]; rfl)
  · refine r_iload_n rfl rfl ?_
    refine r_if_ge rfl (by omega) (fun hneg => ?_) (fun hneg => ?_)
    · exfalso; omega
    · refine r_aload_n rfl rfl ?_
      refine r_getR rfl (by first | assumption | exact hs.o rfl) (by first | assumption | exact hs.g rfl) ?_
      refine r_bipush rfl ?_
      refine r_iconst rfl ?_
      refine r_iload_n rfl rfl ?_
      refine r_imul rfl ?_
      refine r_iadd rfl ?_
      refine r_iconst rfl ?_
      refine r_iadd rfl ?_
      refine r_iload rfl rfl ?_
      refine r_iastN (15 + 5 * c) rfl (by first | assumption | exact hs.a rfl) (by omega) (by omega) (by omega) ?_
      refine r_aload_n rfl rfl ?_
      refine r_iload_n rfl rfl ?_
      refine r_iload_n rfl rfl ?_
      refine r_callV2 rfl rfl (by first | assumption | exact hs.o rfl) rfl (c_offIn (rd := up2 rd 2 c (k : Int)) (by omega) hs (ht.sd (by omega)) (hv.fuel hc hon (by omega)) hN hn200 (mrd_fuel (by rw [h9]; exact hm) hc hon) (fun f1 hf1 ht1 => ?_))
      have hle := rFo_le (pl := pl) (al := al) (cl := -1) (rd := up2 rd 2 c (k : Int)) (c := c) n 0
      refine r_if_le rfl (by omega) (fun hz => ?_) (fun hz => ?_)
      · refine r_aload_n rfl rfl ?_
        refine r_callV0 rfl rfl (by first | assumption | exact hs.o rfl) rfl (c_laysBack (by omega) hs ((hkp.upS (by omega)).m hf1) (fun f2 hk2 h92 h2 => ?_))
        have h219 : ∀ i, i ≠ 18 → i ≠ 25 → f2 219 i = f0 219 i := fun i q1 q2 => by rw [h2 219 (by omega), hf1.2.1 i q1 q2, up2_o _ _ (by omega)]; exact hf i q1 q2
        refine r_iinc (L' := [_, _, _, _, _]) rfl rfl rfl ?_
        refine r_goto rfl ?_
        refine l_least hd1 hs hv hN hn200 hc hon hm (k + 1) (by omega) f2 hk2 h92 h219 (ht1.kp h2 (fun i q => by rw [h92]; exact (((hkp.upS (by omega)).m hf1).2.2.1 i q).symm)) ?_ KE
        rw [hv0, show 61 - k = (61 - (k + 1)) + 1 by omega]
        simp only [rLf]
        rw [if_pos (by omega)]
      · refine r_iload rfl rfl ?_
        refine r_istore_n (L' := [_, _, _, _, _]) rfl rfl rfl ?_
        refine r_aload_n rfl rfl ?_
        refine r_callV0 rfl rfl (by first | assumption | exact hs.o rfl) rfl (c_laysBack (by omega) hs ((hkp.upS (by omega)).m hf1) (fun f2 hk2 h92 h2 => ?_))
        have h219 : ∀ i, i ≠ 18 → i ≠ 25 → f2 219 i = f0 219 i := fun i q1 q2 => by rw [h2 219 (by omega), hf1.2.1 i q1 q2, up2_o _ _ (by omega)]; exact hf i q1 q2
        refine r_iinc (L' := [_, _, _, _, _]) rfl rfl rfl ?_
        refine r_goto rfl ?_
        have ev : (k : Int) = rLf pl al rd c n 61 0 := by
          rw [hv0, show 61 - k = (61 - (k + 1)) + 1 by omega]
          simp only [rLf]
          rw [if_neg (by omega)]
        refine r_iload rfl rfl ?_
        refine r_bipush rfl ?_
        refine r_icmp_gt rfl (by omega) (by omega) (fun hgt2 => ?_) (fun hgt2 => ?_)
        · exact KE f2 _ _ hk2 h92 h219 ev
        · refine r_iload_n rfl rfl ?_
          refine r_if_ge rfl (by omega) (fun hneg2 => ?_) (fun hneg2 => ?_)
          · exact KE f2 _ _ hk2 h92 h219 ev
          · exfalso; omega
termination_by 61 - k
theorem c_leastFuel (hd : 14 ≤ d) (hs : Sh σ g) (hM : MI f a) (hA : AOk N a) {c n : Int} (hc : IR c) (hni : IR n) (K : ∀ f', FrMQ f f' → Q (some (zi (qLeast a c n))) σ f' g) : ZCt d 220 [zr (some 219), zi c, zi n] σ f g Q := by
  refine ZCt.of' (L0 := [_, _, _, _, _]) (by omega) rfl rfl rfl (fun d hd1 => ?_)
  refine r_aload_n rfl rfl ?_
  refine r_iload_n rfl rfl ?_
  refine r_callV1 rfl rfl (by first | assumption | exact hs.o rfl) rfl (c_carOnA (by omega) hs hM hA hc (fun k hxk hk6 hk0 => ?_) (fun hoff => ?_))
  · refine r_if_n rfl (by decide) ?_
    refine r_iload_n rfl rfl ?_
    refine r_i2l rfl (by omega) ?_
    refine r_lconst rfl ?_
    refine r_ldc2 rfl ?_
    refine r_callS3 rfl rfl rfl (c_in (by omega) (by omega) (by omega) (by omega) (fun hn => ?_) (fun hn => ?_))
    · refine r_if_y rfl (by decide) ?_
      refine r_bipush rfl ?_
      refine r_istore_n (L' := [_, _, _, _, _]) rfl rfl rfl ?_
      refine r_aload_n rfl rfl ?_
      subst hxk
      obtain ⟨pl, rd0, hp⟩ := hA.onPl hk6 (by omega)
      obtain ⟨hplo, hvr, hst⟩ := hA.plS hp
      have hN := hA.2.2.2.2.2.2.2
      have hvs := hvr.vs
      have ht0 : TM σ f g pl (AL a a.fo pl) (-1) := MI.tm hs hM hA hp
      have hm0 : MRd (f 229) a.w.rd := hM.w.2.1
      refine r_callV0 rfl rfl (by first | assumption | exact hs.o rfl) rfl (c_keeps (by omega) hs (fun f1 hk1 he1 => ?_))
      have ht1 : TM σ f1 g pl (AL a a.fo pl) (-1) := ht0.k1 he1
      have hm1 : MRd (f1 229) a.w.rd := by rw [he1 229 (by omega)]; exact hm0
      obtain ⟨nn, rfl⟩ := Int.eq_ofNat_of_zero_le (show 0 ≤ n by omega)
      refine r_iconst rfl ?_
      refine r_istore (L' := [_, _, _, _, _]) rfl rfl rfl ?_
      refine l_least (f0 := f1) (by omega) hs hvs (n := nn) (by omega) (by omega) hk6 hk0 hm0 0 (by omega) f1 hk1 (he1 229 (by omega)) (fun _ _ _ => rfl) ht1 rfl (fun f2 v x hk2 h92 h219 ev => ?_)
      rw [ev]
      rw [qLeast_yes hp hk6 hk0 (by omega)] at K
      refine r_iload_n rfl rfl ?_
      refine r_iret rfl ?_
      exact K f2 (hk2.back h92 (fun i q => by rw [h219 i (by omega) (by omega), he1 219 (by omega)]))
    · refine r_if_n rfl (by decide) ?_
      refine r_iconst rfl ?_
      refine r_iret rfl ?_
      first | (rw [qLeast_no (Or.inl hoff)] at K; exact K f (FrMQ.rf f)) | (rw [qLeast_no (Or.inr hn)] at K; exact K f (FrMQ.rf f))
  · refine r_if_y rfl (by decide) ?_
    refine r_iconst rfl ?_
    refine r_iret rfl ?_
    first | (rw [qLeast_no (Or.inl hoff)] at K; exact K f (FrMQ.rf f)) | (rw [qLeast_no (Or.inr hn)] at K; exact K f (FrMQ.rf f))
end MTRY
