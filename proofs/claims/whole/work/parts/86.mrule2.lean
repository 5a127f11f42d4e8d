/-! The reference: rule -/
section MRULE2
variable {d : Nat} {σ : ZS} {f f' : ZF} {g : ZG} {Q : ZQ} {p n tx c : Nat} {t : Tx} {l : List Int} {a : AS} {N : Int}
def dRest (t : Tx) (k c p n : Nat) : Int ⊕ Cls := if p < t.2 then (if isS t p 59 = true then dRule t k c (sk t (p + 1)) n else .inl (err p 0)) else .inr []
theorem dRule_rest {k x p1 n1} (h : dGo t c p n = .inr (p1, n1, x)) : dRule t (k + 1) c p n = (match dRest t k (c + 1) p1 n1 with
    | .inl e => .inl e
    | .inr r => .inr (x :: r)) := by
  show (match dGo t c p n with | .inl e => _ | .inr (p1, n1, x) => _) = _
  rw [h]
  unfold dRest
  by_cases h1 : p1 < t.2
  · show (if p1 < t.2 then _ else _) = _
    rw [if_pos h1, if_pos h1]
    by_cases h2 : isS t p1 59 = true
    · rw [if_pos h2, if_pos h2]
      rcases dRule t k (c + 1) (sk t (p1 + 1)) n1 with _ | _ <;> rfl
    · rw [if_neg h2, if_neg h2]
  · show (if p1 < t.2 then _ else _) = _
    rw [if_neg h1, if_neg h1]
theorem dRule_bad {k : Nat} {e : Int} (h : dGo t c p n = .inl e) : dRule t (k + 1) c p n = .inl e := by
  show (match dGo t c p n with | .inl e => _ | .inr (p1, n1, x) => _) = _
  rw [h]
theorem dGo_len {p' n' : Nat} {x : List Tk × Option (List Tk)} (h : dGo t c p n = .inr (p', n', x)) : (xs x).length + p ≤ p' ∧ c < 12 := by
  unfold dGo at h
  split at h
  · rename_i hw
    have h0 := sk_ge t (lE t p)
    have h00 := lE_ge t p
    split at h
    · cases h
    · rename_i hc
      rcases hs : dSum t (sk t (lE t p)) n with e0 | ⟨p1, n1, l1⟩
      · rw [hs] at h; cases h
      · rw [hs] at h
        simp only at h
        obtain ⟨a1, a2, a3⟩ := dSum_ok t _ _ _ _ _ hs
        split at h
        · rcases hs2 : dTest t (dFact t 10) (sk t (lE t p1)) n1 with e0 | ⟨p2, n2, l2⟩
          · rw [hs2] at h; cases h
          · rw [hs2] at h
            cases h
            obtain ⟨b1, b2, b3⟩ := dTest_ok (t := t) (dFact_ok t 10) _ _ _ _ _ hs2
            have h1 := sk_ge t (lE t p1)
            have h2 := lE_ge t p1
            refine ⟨?_, by omega⟩
            show (l1.map tsign ++ l2.map tsign).length + p ≤ _
            simp only [List.length_append, List.length_map]
            omega
        · cases h
          refine ⟨?_, by omega⟩
          show (l1.map tsign).length + p ≤ _
          simp only [List.length_map]
          omega
  · cases h
theorem l_rdaF (hs : Sh σ g) {e : Int} (h9 : f 219 9 = e) (hr : 1 ≤ e ∧ e ≤ 4000) (K : Q (some (zi 0)) σ (up2 f 219 1 0) g) : ZWp d zt137 35 [zr (some 219), zi 0] [] σ f g Q := by
  refine r_iload_n rfl rfl ?_
  refine r_if_y rfl (by decide) ?_
  refine r_iload_n rfl rfl ?_
  refine r_if_y rfl (by decide) ?_
  refine r_aload_n rfl rfl ?_
  refine r_iconst rfl ?_
  refine r_putI rfl (by first | assumption | exact hs.o rfl) ?_
  refine r_aload_n rfl rfl ?_
  refine r_getI rfl (by first | assumption | exact hs.o rfl) ((up2_ne _ _ (by omega)).trans h9) ?_
  refine r_if_ne rfl (by omega) (fun h97 => ?_) (fun h97 => ?_)
  · refine r_iconst rfl ?_
    refine r_zret rfl (by omega) ?_
    exact K
  · exfalso; omega
theorem l_rdaM (hd1 : 12 ≤ d) (hs : Sh σ g) (hT : TxOk t) (htx : tx < 6) (p n k c : Nat) (l : List Int) (f : ZF) (hk : 13 ≤ k + c) (hc12 : c ≤ 12) (hl : l.length ≤ p) (h : MG f t tx p n l) (hln : f 219 14 = (c : Int)) (hc : f 224 tx = (c : Int)) (k1 : ∀ r, dRest t k c p n = .inr r → ∀ f', FrZ tx c f f' → f' 219 1 = 0 → f' 219 9 = 0 → CR f' tx c l.length r → At (f' 221) (400 * tx) (l ++ sgs r) → (l ++ sgs r).length ≤ 400 → f' 224 tx = ((c + r.length : Nat) : Int) → Q (some (zi 1)) σ f' g) (k2 : ∀ e, dRest t k c p n = .inl e → ∀ f', FrZ tx c f f' → f' 219 1 = 0 → f' 219 9 = e → (1 ≤ e ∧ e ≤ 4000) → Q (some (zi 0)) σ f' g) : ZWp d zt137 35 [zr (some 219), zi 1] [] σ f g Q := by
  have hT1 := hT.1
  have hp := h.1.le
  obtain ⟨k, rfl⟩ : ∃ u, k = u + 1 := ⟨k - 1, by omega⟩
  refine r_iload_n rfl rfl ?_
  refine r_if_n rfl (by decide) ?_
  refine r_aload_n rfl rfl ?_
  refine r_callV0 rfl rfl (by first | assumption | exact hs.o rfl) rfl (c_see (by omega) hs hT h.1 ?_)
  refine r_bipush rfl ?_
  refine r_icmp_ne rfl (by have := ch_rng hT p; omega) (by omega) (fun h45 => ?_) (fun h45 => ?_)
  · refine r_iload_n rfl rfl ?_
    refine r_if_n rfl (by decide) ?_
    refine r_aload_n rfl rfl ?_
    refine r_callV0 rfl rfl (by first | assumption | exact hs.o rfl) rfl (c_see (by omega) hs hT h.now.1 ?_)
    refine r_iconst rfl ?_
    rw [up2_up2]
    refine r_icmp_eq rfl (by have := ch_rng hT p; omega) (by omega) (fun h75 => ?_) (fun h75 => ?_)
    · refine r_aload_n rfl rfl ?_
      refine r_iconst rfl ?_
      refine r_putI rfl (by first | assumption | exact hs.o rfl) ?_
      refine r_aload_n rfl rfl ?_
      refine r_getI rfl (by first | assumption | exact hs.o rfl) ((up2_ne _ _ (by omega)).trans h.now.2.1) ?_
      refine r_if_ne rfl (by omega) (fun h97 => ?_) (fun h97 => ?_)
      · exact absurd rfl h97
      · refine r_iconst rfl ?_
        refine r_goto rfl ?_
        refine r_zret rfl (by omega) ?_
        have hend := (ch_end hT).1 h75
        refine k1 [] (by unfold dRest; rw [if_neg hend]) _ (((FrZ.rf tx c f).up (by omega)).up (by omega)) (up2_same _ _ _ _) ((up2_ne _ _ (by omega)).trans h.now.2.1) trivial ?_ ?_ ?_
        · rw [show l ++ sgs [] = l from List.append_nil l, up2_o _ _ (by omega), up2_o _ _ (by omega)]; exact h.2.2.2.2.2.2
        · rw [show l ++ sgs [] = l from List.append_nil l]; omega
        · rw [up2_o _ _ (by omega), up2_o _ _ (by omega), hc]; simp
    · refine r_aload_n rfl rfl ?_
      refine r_iconst rfl ?_
      refine r_aload_n rfl rfl ?_
      refine r_getI rfl (by first | assumption | exact hs.o rfl) (up2_same _ _ _ _) ?_
      refine r_callV2 rfl rfl (by first | assumption | exact hs.o rfl) rfl (c_fails (p := p) (by omega) hs h.now.2.1 ?_)
      refine r_popi rfl ?_
      refine r_aload_n rfl rfl ?_
      refine r_iconst rfl ?_
      refine r_putI rfl (by first | assumption | exact hs.o rfl) ?_
      refine r_aload_n rfl rfl ?_
      refine r_getI rfl (by first | assumption | exact hs.o rfl) ((up2_ne _ _ (by omega)).trans (up2_same _ _ _ _)) ?_
      refine r_if_ne rfl (by have := err_rng hT hp (k := 0) (by omega); omega) (fun h97 => ?_) (fun h97 => ?_)
      · refine r_iconst rfl ?_
        refine r_zret rfl (by omega) ?_
        refine k2 _ ?_ _ ((((FrZ.rf tx c f).up (by omega)).up (by omega)).up (by omega)) (up2_same _ _ _ _) ((up2_ne _ _ (by omega)).trans (up2_same _ _ _ _)) (err_rng hT hp (by omega))
        unfold dRest
        rw [if_pos (Classical.byContradiction (fun q => h75 ((ch_end hT).2 q))), if_neg (fun q => h45 ((ch_iff hT (by omega)).2 q))]
      · exfalso; have := err_rng hT hp (k := 0) (by omega); omega
  · refine r_aload_n rfl rfl ?_
    refine r_dupr rfl ?_
    refine r_getI rfl (by first | assumption | exact hs.o rfl) (up2_same _ _ _ _) ?_
    refine r_iconst rfl ?_
    refine r_iadd rfl ?_
    refine r_putI rfl (by first | assumption | exact hs.o rfl) ?_
    refine r_aload_n rfl rfl ?_
    have hS := (ch_iff hT (by omega)).1 h45
    have hlt := (isS_iff.1 hS).1
    have hsg := sk_ge t (p + 1)
    rw [up2_up2, show ((p : Int) + 1) = ((p + 1 : Nat) : Int) by omega]
    refine r_callV0 rfl rfl (by first | assumption | exact hs.o rfl) rfl (c_clauseHere (c := c) (by omega) hs hT htx (h.at (by omega)) (by omega) ((up2_ne _ _ (by omega)).trans hln) (by rw [up2_o _ _ (by omega)]; exact hc) (by omega) (fun p' n' x eg f2 hf2 h2 hrow h24 h14 => ?_) (fun e2 he2 f2 hf2 h9 hr9 => ?_))
    · refine r_istore_n (L' := [_, _]) rfl rfl rfl ?_
      refine r_goto rfl ?_
      obtain ⟨g1, g2⟩ := dGo_len eg
      have eR : dRest t (k + 1) c p n = (match dRest t k (c + 1) p' n' with | .inl e => .inl e | .inr r => .inr (x :: r)) := by
        unfold dRest
        rw [if_pos hlt, if_pos hS]
        exact dRule_rest eg
      refine l_rdaM hd1 hs hT htx p' n' k (c + 1) (l ++ xs x) f2 (by omega) (by omega) (by simp only [List.length_append]; omega) h2 (h14.trans (by omega)) (h24.trans (by omega)) (fun r hr f3 hf3 z1 z2 z3 z4 z5 z6 => ?_) (fun e he f3 hf3 z1 z2 z3 => k2 e (by rw [eR, he]) f3 (((FrZ.rf tx c f).up (by omega)).trans (hf2.trans hf3 (Nat.le_succ c)) (Nat.le_refl c)) z1 z2 z3)
      refine k1 (x :: r) (by rw [eR, hr]) f3 (((FrZ.rf tx c f).up (by omega)).trans (hf2.trans hf3 (Nat.le_succ c)) (Nat.le_refl c)) z1 z2 ⟨hrow.fr hf3.2.2.2.1, ?_⟩ ?_ ?_ ?_
      · rw [List.length_append] at z3; exact z3
      · show At _ _ (l ++ (xs x ++ sgs r))
        rw [← List.append_assoc]; exact z4
      · show (l ++ (xs x ++ sgs r)).length ≤ 400
        rw [← List.append_assoc]; exact z5
      · rw [z6]; simp only [List.length_cons]; omega
    · refine r_istore_n (L' := [_, _]) rfl rfl rfl ?_
      refine r_goto rfl ?_
      refine l_rdaF hs h9 hr9 (k2 e2 ?_ _ (((((FrZ.rf tx c f).up (by omega)).trans hf2 (Nat.le_refl c)).up (by omega))) (up2_same _ _ _ _) ((up2_ne _ _ (by omega)).trans h9) hr9)
      unfold dRest
      rw [if_pos hlt, if_pos hS]
      exact dRule_bad he2
termination_by k
theorem c_readsRule (hd : 13 ≤ d) (hs : Sh σ g) (hT : TxOk t) (htx : tx < 6) (hm : MX f t) (htext : f 219 11 = (tx : Int)) (hcl : f 224 tx = 0) (k1 : ∀ r, dRule t 13 0 (sk t 0) 0 = .inr r → ∀ f', FrZ tx 0 f f' → f' 219 1 = 0 → f' 219 9 = 0 → CR f' tx 0 0 r → At (f' 221) (400 * tx) (sgs r) → (sgs r).length ≤ 400 → f' 224 tx = (r.length : Int) → Q (some (zi 1)) σ f' g) (k2 : ∀ e, dRule t 13 0 (sk t 0) 0 = .inl e → ∀ f', FrZ tx 0 f f' → f' 219 1 = 0 → f' 219 9 = e → (1 ≤ e ∧ e ≤ 4000) → Q (some (zi 0)) σ f' g) : ZCt d 137 [zr (some 219)] σ f g Q := by
  refine ZCt.of' (L0 := [_, _]) (by omega) rfl rfl rfl (fun d hd1 => ?_)
  refine r_aload_n rfl rfl ?_
  refine r_getR rfl (by first | assumption | exact hs.o rfl) (by first | assumption | exact hs.g rfl) ?_
  refine r_aload_n rfl rfl ?_
  refine r_getI rfl (by first | assumption | exact hs.o rfl) htext ?_
  refine r_iconst rfl ?_
  refine r_iastN (tx) rfl (by first | assumption | exact hs.a rfl) (by omega) (by omega) (by omega) ?_
  refine r_aload_n rfl rfl ?_
  refine r_iconst rfl ?_
  refine r_putI rfl (by first | assumption | exact hs.o rfl) ?_
  refine r_aload_n rfl rfl ?_
  refine r_iconst rfl ?_
  refine r_putI rfl (by first | assumption | exact hs.o rfl) ?_
  refine r_aload_n rfl rfl ?_
  refine r_iconst rfl ?_
  refine r_putI rfl (by first | assumption | exact hs.o rfl) ?_
  refine r_aload_n rfl rfl ?_
  refine r_iconst rfl ?_
  refine r_putI rfl (by first | assumption | exact hs.o rfl) ?_
  refine r_aload_n rfl rfl ?_
  have hfz : FrZ tx 0 f (up2 (up2 (up2 (up2 (up2 f 222 tx 0) 219 14 0) 219 8 0) 219 9 0) 219 12 0) := ((((((FrZ.rf tx 0 f).trans (c' := 0) ⟨fun k q1 q2 q3 => up2_o _ _ (by omega), fun j _ _ _ _ => by rw [up2_o _ _ (by omega)], fun j _ => by rw [up2_o _ _ (by omega)], fun j _ => by rw [up2_o _ _ (by omega)], fun j _ => by rw [up2_o _ _ (by omega)]⟩ (Nat.le_refl 0)).up (by omega)).up (by omega)).up (by omega)).up (by omega))
  have h0 : MG (up2 (up2 (up2 (up2 (up2 f 222 tx 0) 219 14 0) 219 8 0) 219 9 0) 219 12 0) t tx (sk t 0) 0 [] := by
    refine ⟨⟨⟨?_, fun i hi => ?_⟩, 0, ?_, by omega, rfl⟩, ?_, ?_, ?_, by omega, ?_, trivial⟩
    · simp [up2]; exact hm.1
    · rw [up2_o _ _ (by omega), up2_o _ _ (by omega), up2_o _ _ (by omega), up2_o _ _ (by omega), up2_o _ _ (by omega)]; exact hm.2 i hi
    · simp [up2]
    · simp [up2]
    · simp [up2]; exact htext
    · simp [up2]
    · simp [up2]
  refine r_callV0 rfl rfl (by first | assumption | exact hs.o rfl) rfl (c_clauseHere (c := 0) (by omega) hs hT htx h0 (by simp) (by simp [up2]) (by rw [up2_o _ _ (by omega), up2_o _ _ (by omega), up2_o _ _ (by omega), up2_o _ _ (by omega), up2_o _ _ (by omega)]; exact hcl) (by omega) (fun p' n' x eg f2 hf2 h2 hrow h24 h14 => ?_) (fun e2 he2 f2 hf2 h9 hr9 => ?_))
  · refine r_istore_n (L' := [_, _]) rfl rfl rfl ?_
    obtain ⟨g1, g2⟩ := dGo_len eg
    have eR := dRule_rest (k := 12) eg
    refine l_rdaM (by omega) hs hT htx p' n' 12 1 ([] ++ xs x) f2 (by omega) (by omega) (by simp only [List.nil_append]; omega) h2 (h14.trans (by omega)) (h24.trans (by omega)) (fun r hr f3 hf3 z1 z2 z3 z4 z5 z6 => ?_) (fun e he f3 hf3 z1 z2 z3 => k2 e (by rw [eR, he]) f3 (hfz.trans (hf2.trans hf3 (Nat.le_succ 0)) (Nat.le_refl 0)) z1 z2 z3)
    rw [List.nil_append] at z3 z4 z5
    refine k1 (x :: r) (by rw [eR, hr]) f3 (hfz.trans (hf2.trans hf3 (Nat.le_succ 0)) (Nat.le_refl 0)) z1 z2 ⟨hrow.fr hf3.2.2.2.1, ?_⟩ z4 z5 ?_
    · exact (show CR f3 tx 1 (0 + (xs x).length) r by rw [Nat.zero_add]; exact z3)
    · rw [z6]; simp only [List.length_cons]; omega
  · refine r_istore_n (L' := [_, _]) rfl rfl rfl ?_
    refine l_rdaF hs h9 hr9 (k2 e2 (dRule_bad he2) _ ((hfz.trans hf2 (Nat.le_refl 0)).up (by omega)) (up2_same _ _ _ _) ((up2_ne _ _ (by omega)).trans h9) hr9)
theorem MI.txt (h : MI f a) (hlen : ∀ i, i < a.rk → (a.ru i).length ≤ 12) (hf : ∀ k, k ≠ 219 → ¬ (221 ≤ k ∧ k ≤ 226) → f' k = f k) (h0 : ∀ i, i = 2 ∨ (21 ≤ i ∧ i ≤ 24) ∨ i = 27 → f' 219 i = f 219 i) (h1 : f' 219 1 = 0) (h221 : ∀ i, i < 400 * a.rk → f' 221 i = f 221 i) (h223 : ∀ i, i < 48 * a.rk → f' 223 i = f 223 i) (h224 : ∀ i, i < a.rk → f' 224 i = f 224 i) : MI f' (a.sT 0 a.tp) := by
  obtain ⟨m1, m2, m3, m4, m5, m6, m7, m8, m9, m10, m11, m12⟩ := h
  refine ⟨h1, fun i hi => absurd hi (by show ¬ i < 0; omega), by rw [h0 2 (by omega)]; exact m3, fun i hi => ?_, by rw [hf 229 (by omega) (by omega)]; exact m5, by rw [h0 21 (by omega)]; exact m6, by rw [h0 22 (by omega)]; exact m7, by rw [h0 23 (by omega)]; exact m8, by rw [h0 24 (by omega)]; exact m9, by rw [h0 27 (by omega)]; exact m10, fun i hi => by rw [hf 230 (by omega) (by omega)]; exact m11 i hi, fun k hk => ?_⟩
  · have hi' : i < a.rk := hi
    have hl := hlen i hi'
    rw [h224 i hi']
    exact ⟨(m4 i hi').1, (m4 i hi').2.same _ _ (fun j _ q => h223 j (by simp only [Nat.zero_add] at q; omega)) (fun j _ q => h221 j (by omega))⟩
  · rw [hf 239 (by omega) (by omega), hf 236 (by omega) (by omega), hf 237 (by omega) (by omega), hf 238 (by omega) (by omega)]
    exact m12 k hk
theorem MI.rule (h : MI f a) {cls : Cls} (hm : f 224 a.rk = (cls.length : Int) ∧ MAt f a.rk 0 cls) : MI (up2 f 219 2 ((a.rk : Int) + 1)) (ruAdd a cls) := by
  obtain ⟨m1, m2, m3, m4, m5, m6, m7, m8, m9, m10, m11, m12⟩ := h
  have e : ∀ k, k ≠ 219 → up2 f 219 2 ((a.rk : Int) + 1) k = f k := fun k hk => up2_o _ _ hk
  refine ⟨(up2_ne _ _ (by omega)).trans m1, fun i hi => by rw [e 220 (by omega)]; exact m2 i hi, (up2_same _ _ _ _).trans rfl, fun i hi => ?_, by rw [e 229 (by omega)]; exact m5, (up2_ne _ _ (by omega)).trans m6, (up2_ne _ _ (by omega)).trans m7, (up2_ne _ _ (by omega)).trans m8, (up2_ne _ _ (by omega)).trans m9, (up2_ne _ _ (by omega)).trans m10, fun i hi => by rw [e 230 (by omega)]; exact m11 i hi, fun k hk => by rw [e 239 (by omega), e 236 (by omega), e 237 (by omega), e 238 (by omega)]; exact m12 k hk⟩
  have hi' : i < a.rk + 1 := hi
  show up2 f 219 2 ((a.rk : Int) + 1) 224 i = (((if i = a.rk then cls else a.ru i).length : Nat) : Int) ∧ MAt (up2 f 219 2 ((a.rk : Int) + 1)) i 0 (if i = a.rk then cls else a.ru i)
  rw [e 224 (by omega)]
  by_cases q : i = a.rk
  · rw [if_pos q, q]
    exact ⟨hm.1, hm.2.same _ _ (fun j _ _ => by rw [e 223 (by omega)]) (fun j _ _ => by rw [e 221 (by omega)])⟩
  · rw [if_neg q]
    have := m4 i (by omega)
    exact ⟨this.1, this.2.same _ _ (fun j _ _ => by rw [e 223 (by omega)]) (fun j _ _ => by rw [e 221 (by omega)])⟩
theorem MI.mx (h : MI f a) : MX f (aTx a) := ⟨h.tl, h.tq⟩
theorem c_rule (hd : 14 ≤ d) (hs : Sh σ g) (hM : MI f a) (hA : AOk N a) (hT : TxOk (aTx a)) (K : ∀ f', MI f' (sRule a).2 → FrX f f' → Q (some (zi (sRule a).1)) σ f' g) : ZCt d 136 [zr (some 219)] σ f g Q := by
  refine ZCt.of' (L0 := [_]) (by omega) rfl rfl rfl (fun d hd1 => ?_)
  have hrk := hA.1.2.1
  refine r_aload_n rfl rfl ?_
  refine r_getI rfl (by first | assumption | exact hs.o rfl) hM.rk ?_
  refine r_bipush rfl ?_
  refine r_icmp_ne rfl (by omega) (by omega) (fun h6 => ?_) (fun h6 => ?_)
  · refine r_aload_n rfl rfl ?_
    refine r_aload_n rfl rfl ?_
    refine r_getI rfl (by first | assumption | exact hs.o rfl) hM.rk ?_
    refine r_putI rfl (by first | assumption | exact hs.o rfl) ?_
    refine r_aload_n rfl rfl ?_
    refine r_getR rfl (by first | assumption | exact hs.o rfl) (by first | assumption | exact hs.g rfl) ?_
    refine r_aload_n rfl rfl ?_
    refine r_getI rfl (by first | assumption | exact hs.o rfl) (up2_same _ _ _ _) ?_
    refine r_iconst rfl ?_
    refine r_iastN (a.rk) rfl (by first | assumption | exact hs.a rfl) (by omega) (by omega) (by omega) ?_
    refine r_aload_n rfl rfl ?_
    have hmx : MX (up2 (up2 f 219 11 (a.rk : Int)) 224 a.rk 0) (aTx a) := ⟨by rw [up2_o _ _ (by omega), up2_ne _ _ (by omega)]; exact hM.mx.1, fun i hi => by rw [up2_o _ _ (by omega), up2_o _ _ (by omega)]; exact hM.mx.2 i hi⟩
    have hlen : ∀ i, i < a.rk → (a.ru i).length ≤ 12 := fun i hi => (hA.2.1 i hi).1
    have hto : ∀ f', FrZ a.rk 0 (up2 (up2 f 219 11 (a.rk : Int)) 224 a.rk 0) f' → f' 219 1 = 0 → MI f' (a.sT 0 a.tp) := fun f' hf' z1 => hM.txt hlen (fun k q1 q2 => by rw [hf'.1 k q1 (by omega) (by omega), up2_o _ _ (by omega), up2_o _ _ q1]) (fun i q => by rw [hf'.2.1 i (by omega) (by omega) (by omega) (by omega), up2_o _ _ (by omega), up2_ne _ _ (by omega)]) z1 (fun i q => by rw [hf'.2.2.1 i q, up2_o _ _ (by omega), up2_o _ _ (by omega)]) (fun i q => by rw [hf'.2.2.2.1 i (by omega), up2_o _ _ (by omega), up2_o _ _ (by omega)]) (fun i q => by rw [hf'.2.2.2.2 i (by omega), up2_ne _ _ (by omega), up2_o _ _ (by omega)])
    have hfx : ∀ f', FrZ a.rk 0 (up2 (up2 f 219 11 (a.rk : Int)) 224 a.rk 0) f' → FrX f f' := fun f' hf' c q => by rw [hf'.1 c (by omega) (by omega) (by omega), up2_o _ _ (by omega), up2_o _ _ (by omega)]
    refine r_callV0 rfl rfl (by first | assumption | exact hs.o rfl) rfl (c_readsRule (t := aTx a) (tx := a.rk) (by omega) hs hT (by omega) hmx (by rw [up2_o _ _ (by omega), up2_same]) (up2_same _ _ _ _) (fun r hr f' hf' z1 z2 z3 z4 z5 z6 => ?_) (fun e he f' hf' z1 z2 z3 => ?_))
    · refine r_if_y rfl (by decide) ?_
      refine r_aload_n rfl rfl ?_
      refine r_dupr rfl ?_
      refine r_getI rfl (by first | assumption | exact hs.o rfl) ((hto f' hf' z1).rk) ?_
      refine r_iconst rfl ?_
      refine r_iadd rfl ?_
      refine r_putI rfl (by first | assumption | exact hs.o rfl) ?_
      refine r_aload_n rfl rfl ?_
      refine r_getI rfl (by first | assumption | exact hs.o rfl) (up2_same _ _ _ _) ?_
      refine r_iconst rfl ?_
      refine r_isub rfl ?_
      refine r_iret rfl ?_
      rw [sRule_inr (by omega) hr] at K
      have hmi := (hto f' hf' z1).rule (cls := r) ⟨z6, z3.mat r 0 0 z4 (by omega)⟩
      rw [show ((a.rk : Int) + 1 - 1) = (a.rk : Int) by omega]
      exact K _ hmi (fun c q => (up2_o _ _ (by omega)).trans (hfx f' hf' c q))
    · refine r_if_n rfl (by decide) ?_
      refine r_bipush rfl ?_
      refine r_aload_n rfl rfl ?_
      refine r_getI rfl (by first | assumption | exact hs.o rfl) z2 ?_
      refine r_isub rfl ?_
      refine r_iret rfl ?_
      rw [sRule_inl (by omega) he] at K
      exact K f' (hto f' hf' z1) (hfx f' hf')
  · refine r_iconst rfl ?_
    refine r_iret rfl ?_
    rw [show sRule a = (-1, a) from if_neg (by omega)] at K
    exact K f hM (fun c _ => rfl)
end MRULE2
