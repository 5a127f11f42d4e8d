/-! The reference reads SUMs and comparisons -/
def MG (f : ZF) (t : Tx) (tx p n : Nat) (l : List Int) : Prop := NX f t p ∧ f 219 9 = 0 ∧ f 219 11 = (tx : Int) ∧ f 219 12 = (n : Int) ∧ n ≤ 60 ∧ f 222 tx = (l.length : Int) ∧ At (f 221) (400 * tx) l
def FrV (tx : Nat) (f f' : ZF) : Prop := (∀ c, c ≠ 219 → c ≠ 221 → c ≠ 222 → f' c = f c) ∧ (∀ i, i ≠ 8 → i ≠ 9 → i ≠ 10 → i ≠ 12 → f' 219 i = f 219 i) ∧ (∀ i, i < 400 * tx → f' 221 i = f 221 i) ∧ (∀ i, i ≠ tx → f' 222 i = f 222 i)
theorem FrV.rf (tx : Nat) (f : ZF) : FrV tx f f := ⟨fun _ _ _ _ => rfl, fun _ _ _ _ _ => rfl, fun _ _ => rfl, fun _ _ => rfl⟩
theorem FrV.trans {tx : Nat} {a b c : ZF} (h1 : FrV tx a b) (h2 : FrV tx b c) : FrV tx a c := ⟨fun k q1 q2 q3 => (h2.1 k q1 q2 q3).trans (h1.1 k q1 q2 q3), fun i q1 q2 q3 q4 => (h2.2.1 i q1 q2 q3 q4).trans (h1.2.1 i q1 q2 q3 q4), fun i q => (h2.2.2.1 i q).trans (h1.2.2.1 i q), fun i q => (h2.2.2.2 i q).trans (h1.2.2.2 i q)⟩
theorem FrV.up {tx i : Nat} {f0 f : ZF} {v : Int} (h : FrV tx f0 f) (hi : i = 8 ∨ i = 9 ∨ i = 10 ∨ i = 12) : FrV tx f0 (up2 f 219 i v) := ⟨fun c q1 q2 q3 => (up2_o _ _ q1).trans (h.1 c q1 q2 q3), fun j q1 q2 q3 q4 => (up2_ne _ _ (by omega)).trans (h.2.1 j q1 q2 q3 q4), fun j q => by rw [up2_o _ _ (by omega)]; exact h.2.2.1 j q, fun j q => by rw [up2_o _ _ (by omega)]; exact h.2.2.2 j q⟩
theorem FrV.n1 {tx : Nat} {f0 f f' : ZF} (h : FrV tx f0 f) (h' : FrN1 f f') : FrV tx f0 f' := h.trans ⟨fun c q1 _ _ => h'.1 c q1, fun i q1 q2 q3 q4 => h'.2 i q1 q3, fun i _ => by rw [h'.1 221 (by omega)], fun i _ => by rw [h'.1 222 (by omega)]⟩
theorem FrV.nb {tx : Nat} {f0 f f' : ZF} (h : FrV tx f0 f) (h' : FrNB f f') : FrV tx f0 f' := h.trans ⟨fun c q1 _ _ => h'.1 c q1, fun i q1 q2 q3 q4 => h'.2 i q1 q3 q2, fun i _ => by rw [h'.1 221 (by omega)], fun i _ => by rw [h'.1 222 (by omega)]⟩
theorem MG.at {f : ZF} {t : Tx} {tx p n q : Nat} {l : List Int} (h : MG f t tx p n l) (hq : q ≤ t.2) : MG (up2 f 219 8 (q : Int)) t tx (sk t q) n l := ⟨h.1.mx.at hq, (up2_ne _ _ (by omega)).trans h.2.1, (up2_ne _ _ (by omega)).trans h.2.2.1, (up2_ne _ _ (by omega)).trans h.2.2.2.1, h.2.2.2.2.1, by rw [up2_o _ _ (by omega)]; exact h.2.2.2.2.2.1, by rw [up2_o _ _ (by omega)]; exact h.2.2.2.2.2.2⟩
theorem MG.now {f : ZF} {t : Tx} {tx p n : Nat} {l : List Int} (h : MG f t tx p n l) : MG (up2 f 219 8 (p : Int)) t tx p n l := by
  have := h.at h.1.le
  rw [h.1.sk] at this
  exact this
theorem MG.made {f : ZF} {t : Tx} {tx p n : Nat} {l : List Int} (h : MG f t tx p n l) (hn : n < 60) : MG (up2 f 219 12 ((n : Int) + 1)) t tx p (n + 1) l := by
  obtain ⟨⟨hm, x, h8, hx, hp⟩, h2, h3, h4, h5, h6, h7⟩ := h
  exact ⟨⟨hm.up (by omega), x, (up2_ne _ _ (by omega)).trans h8, hx, hp⟩, (up2_ne _ _ (by omega)).trans h2, (up2_ne _ _ (by omega)).trans h3, up2_same _ _ _ _, by omega, by rw [up2_o _ _ (by omega)]; exact h6, by rw [up2_o _ _ (by omega)]; exact h7⟩
theorem MG.n1 {f f' : ZF} {t : Tx} {tx p p' n : Nat} {l : List Int} (h : MG f t tx p n l) (hf : FrN1 f f') (hn : NX f' t p') : MG f' t tx p' n l := ⟨hn, (hf.2 9 (by omega) (by omega)).trans h.2.1, (hf.2 11 (by omega) (by omega)).trans h.2.2.1, (hf.2 12 (by omega) (by omega)).trans h.2.2.2.1, h.2.2.2.2.1, by rw [hf.1 222 (by omega)]; exact h.2.2.2.2.2.1, by rw [hf.1 221 (by omega)]; exact h.2.2.2.2.2.2⟩
theorem err_rng {t : Tx} (hT : TxOk t) {p : Nat} (hp : p ≤ t.2) {k : Int} (hk : 0 ≤ k ∧ k ≤ 4) : 1 ≤ err p k ∧ err p k ≤ 4000 := by
  have := hT.1
  unfold err
  omega
def MK (Q : ZQ) (σ : ZS) (g : ZG) (f0 : ZF) (t : Tx) (tx : Nat) (l : List Int) (r : PR) : Prop := (∀ p' n' m, r = .inr (p', n', m) → ∀ f', FrV tx f0 f' → MG f' t tx p' n' (l ++ m.map tsign) → Q (some (zi 1)) σ f' g) ∧ (∀ e, r = .inl e → ∀ f', FrV tx f0 f' → f' 219 9 = e → (1 ≤ e ∧ e ≤ 4000) → Q (some (zi 0)) σ f' g)
theorem MK.addL {Q : ZQ} {σ : ZS} {g : ZG} {f0 : ZF} {t : Tx} {tx : Nat} {l : List Int} {r : PR} {m : List Tk} (h : MK Q σ g f0 t tx l (addL m r)) : MK Q σ g f0 t tx (l ++ m.map tsign) r := by
  refine ⟨fun p' n' m' e f' hf' hr => ?_, fun e he f' hf' hB => ?_⟩
  · refine h.1 p' n' (m ++ m') (by rw [e]; rfl) f' hf' ?_
    rw [List.map_append, ← List.append_assoc]
    exact hr
  · exact h.2 e (by rw [he]; rfl) f' hf' hB
theorem wOk_V : ∀ w ∈ wVals, wOk w := by
  have h : ∀ w ∈ wVals, (∀ i, i < w.length → 1 ≤ w.getD i 0 ∧ w.getD i 0 ≤ 255) ∧ w.length < 8 ∧ 0 < w.length := by decide
  exact h
theorem dNum_val {t : Tx} {p : Nat} (h : isD t p = true) : dNum t 0 99999 (fun _ => false) p = if dE t p - p ≤ 5 then .inr (sk t (dE t p), num t p (dE t p - p)) else .inl (err p 1) := by
  by_cases h5 : dE t p - p ≤ 5
  · have := num_ok h5
    rw [if_pos h5, dNum_yes h ⟨h5, this, rfl⟩]
  · rw [if_neg h5, dNum_bad h (fun z => h5 z.1)]
section MSUM
variable {d : Nat} {σ : ZS} {f : ZF} {g : ZG} {Q : ZQ} {p n tx : Nat} {t : Tx} {l : List Int}
theorem c_putsX (hd : 1 ≤ d) (hs : Sh σ g) (htx : tx < 6) (h : MG f t tx p n l) (hl : l.length < 400) {x v : Int} (K : ∀ f', f' 219 = f 219 → FrV tx f f' → MG f' t tx p n (l ++ [x + 16 * v]) → Q none σ f' g) : ZCt d 161 [zr (some 219), zi x, zi v] σ f g Q := by
  refine ZCt.of' (L0 := [_, _, _]) (by omega) rfl rfl rfl (fun d hd1 => ?_)
  refine r_aload_n rfl rfl ?_
  refine r_getR rfl (by first | assumption | exact hs.o rfl) (by first | assumption | exact hs.g rfl) ?_
  refine r_sipush rfl ?_
  refine r_aload_n rfl rfl ?_
  refine r_getI rfl (by first | assumption | exact hs.o rfl) h.2.2.1 ?_
  refine r_imul rfl ?_
  refine r_aload_n rfl rfl ?_
  refine r_getR rfl (by first | assumption | exact hs.o rfl) (by first | assumption | exact hs.g rfl) ?_
  refine r_aload_n rfl rfl ?_
  refine r_getI rfl (by first | assumption | exact hs.o rfl) h.2.2.1 ?_
  refine r_iald rfl (by first | assumption | exact hs.a rfl) (by omega) (by omega) ((zix (n := tx) (by omega)).trans h.2.2.2.2.2.1) ?_
  refine r_iadd rfl ?_
  refine r_iload_n rfl rfl ?_
  refine r_bipush rfl ?_
  refine r_iload_n rfl rfl ?_
  refine r_imul rfl ?_
  refine r_iadd rfl ?_
  refine r_iastN (400 * tx + l.length) rfl (by first | assumption | exact hs.a rfl) (by omega) (by omega) (by omega) ?_
  refine r_aload_n rfl rfl ?_
  refine r_getR rfl (by first | assumption | exact hs.o rfl) (by first | assumption | exact hs.g rfl) ?_
  refine r_aload_n rfl rfl ?_
  refine r_getI rfl (by first | assumption | exact hs.o rfl) ((congrFun (up2_o _ _ (by omega)) _).trans h.2.2.1) ?_
  refine r_dup2 rfl ?_
  refine r_iald rfl (by first | assumption | exact hs.a rfl) (by omega) (by omega) ((zix (n := tx) (by omega)).trans ((congrFun (up2_o _ _ (by omega)) _).trans h.2.2.2.2.2.1)) ?_
  refine r_iconst rfl ?_
  refine r_iadd rfl ?_
  refine r_iastN (tx) rfl (by first | assumption | exact hs.a rfl) (by omega) (by omega) (by omega) ?_
  refine r_ret rfl ?_
  obtain ⟨⟨⟨m1, m2⟩, y, h8, hy, hp⟩, h2, h3, h4, h5, h6, h7⟩ := h
  have eo : ∀ c, c ≠ 221 → c ≠ 222 → up2 (up2 f 221 (400 * tx + l.length) (x + 16 * v)) 222 tx ((l.length : Int) + 1) c = f c := fun c q1 q2 => by rw [up2_o _ _ q2, up2_o _ _ q1]
  refine K _ (eo 219 (by omega) (by omega)) ⟨fun c q1 q2 q3 => eo c q2 q3, fun i _ _ _ _ => by rw [eo 219 (by omega) (by omega)], fun i q => by rw [up2_o _ _ (by omega), up2_ne _ _ (by omega)], fun i q => by rw [up2_ne _ _ (by omega), up2_o _ _ (by omega)]⟩ ⟨⟨⟨by rw [eo 219 (by omega) (by omega)]; exact m1, by rw [eo 220 (by omega) (by omega)]; exact m2⟩, y, by rw [eo 219 (by omega) (by omega)]; exact h8, hy, hp⟩, by rw [eo 219 (by omega) (by omega)]; exact h2, by rw [eo 219 (by omega) (by omega)]; exact h3, by rw [eo 219 (by omega) (by omega)]; exact h4, h5, by rw [up2_same]; simp, ?_⟩
  rw [up2_o _ _ (by omega), At.app]
  refine ⟨h7.same _ _ (fun j _ q => up2_ne _ _ (by omega)), ?_, trivial⟩
  exact up2_same _ _ _ _
theorem c_puts (hd : 1 ≤ d) (hs : Sh σ g) (htx : tx < 6) (h : MG f t tx p n l) (hl : l.length < 400) {x v : Int} (K : ∀ f', FrV tx f f' → MG f' t tx p n (l ++ [x + 16 * v]) → Q none σ f' g) : ZCt d 161 [zr (some 219), zi x, zi v] σ f g Q := c_putsX hd hs htx h hl (fun f' _ a b => K f' a b)
theorem c_makes (hd : 2 ≤ d) (hs : Sh σ g) (h : MG f t tx p n l) {q : Nat} (k1 : n < 60 → Q (some (zi 1)) σ (up2 f 219 12 ((n : Int) + 1)) g) (k2 : ¬ n < 60 → Q (some (zi 0)) σ (up2 f 219 9 (err q 3)) g) : ZCt d 160 [zr (some 219), zi (q : Int)] σ f g Q := by
  refine ZCt.of' (L0 := [_, _]) (by omega) rfl rfl rfl (fun d hd1 => ?_)
  have hn := h.2.2.2.2.1
  refine r_aload_n rfl rfl ?_
  refine r_getI rfl (by first | assumption | exact hs.o rfl) h.2.2.2.1 ?_
  refine r_bipush rfl ?_
  refine r_icmp_ne rfl (by omega) (by omega) (fun h6 => ?_) (fun h6 => ?_)
  · refine r_aload_n rfl rfl ?_
    refine r_dupr rfl ?_
    refine r_getI rfl (by first | assumption | exact hs.o rfl) h.2.2.2.1 ?_
    refine r_iconst rfl ?_
    refine r_iadd rfl ?_
    refine r_putI rfl (by first | assumption | exact hs.o rfl) ?_
    refine r_iconst rfl ?_
    refine r_zret rfl (by omega) ?_
    exact k1 (by omega)
  · refine r_aload_n rfl rfl ?_
    refine r_iconst rfl ?_
    refine r_iload_n rfl rfl ?_
    refine r_callV2 rfl rfl (by first | assumption | exact hs.o rfl) rfl (c_fails (p := q) (by omega) hs h.2.1 ?_)
    refine r_zret rfl (by omega) ?_
    exact k2 (by omega)
theorem c_wordHere (hd : 3 ≤ d) (hs : Sh σ g) (hT : TxOk t) (h : NX f t p) (K : Q (some (zi (woL t p wVals 0))) σ (up2 f 219 8 (p : Int)) g) : ZCt d 162 [zr (some 219)] σ f g Q := by
  refine ZCt.of' (L0 := [_]) (by omega) rfl rfl rfl (fun d hd1 => ?_)
  refine r_aload_n rfl rfl ?_
  refine r_ldc2 rfl ?_
  refine r_callV1 rfl rfl (by first | assumption | exact hs.o rfl) rfl (c_isWord (wd := wCar) (by omega) hs hT (wOk_V _ (by decide)) rfl h (fun hw0 => ?_) (fun hw0 => ?_))
  · refine r_if_n rfl (by decide) ?_
    refine r_iconst rfl ?_
    refine r_iret rfl ?_
    rw [show woL t p wVals 0 = ((0 : Nat) : Int) from if_pos hw0] at K
    try simp only [up2_up2]
    exact K
  · refine r_if_y rfl (by decide) ?_
    refine r_aload_n rfl rfl ?_
    refine r_ldc2 rfl ?_
    refine r_callV1 rfl rfl (by first | assumption | exact hs.o rfl) rfl (c_isWord (wd := wRoad) (by omega) hs hT (wOk_V _ (by decide)) rfl h.now (fun hw1 => ?_) (fun hw1 => ?_))
    · refine r_if_n rfl (by decide) ?_
      refine r_iconst rfl ?_
      refine r_iret rfl ?_
      rw [show woL t p wVals 0 = ((1 : Nat) : Int) from (if_neg hw0).trans (if_pos hw1)] at K
      try simp only [up2_up2]
      exact K
    · refine r_if_y rfl (by decide) ?_
      refine r_aload_n rfl rfl ?_
      refine r_ldc2 rfl ?_
      refine r_callV1 rfl rfl (by first | assumption | exact hs.o rfl) rfl (c_isWord (wd := wFuel) (by omega) hs hT (wOk_V _ (by decide)) rfl h.now (fun hw2 => ?_) (fun hw2 => ?_))
      · refine r_if_n rfl (by decide) ?_
        refine r_iconst rfl ?_
        refine r_iret rfl ?_
        rw [show woL t p wVals 0 = ((2 : Nat) : Int) from (if_neg hw0).trans ((if_neg hw1).trans (if_pos hw2))] at K
        try simp only [up2_up2]
        exact K
      · refine r_if_y rfl (by decide) ?_
        refine r_aload_n rfl rfl ?_
        refine r_ldc2 rfl ?_
        refine r_callV1 rfl rfl (by first | assumption | exact hs.o rfl) rfl (c_isWord (wd := wWait) (by omega) hs hT (wOk_V _ (by decide)) rfl h.now (fun hw3 => ?_) (fun hw3 => ?_))
        · refine r_if_n rfl (by decide) ?_
          refine r_iconst rfl ?_
          refine r_iret rfl ?_
          rw [show woL t p wVals 0 = ((3 : Nat) : Int) from (if_neg hw0).trans ((if_neg hw1).trans ((if_neg hw2).trans (if_pos hw3)))] at K
          try simp only [up2_up2]
          exact K
        · refine r_if_y rfl (by decide) ?_
          refine r_aload_n rfl rfl ?_
          refine r_ldc2 rfl ?_
          refine r_callV1 rfl rfl (by first | assumption | exact hs.o rfl) rfl (c_isWord (wd := wBeh) (by omega) hs hT (wOk_V _ (by decide)) rfl h.now (fun hw4 => ?_) (fun hw4 => ?_))
          · refine r_if_n rfl (by decide) ?_
            refine r_iconst rfl ?_
            refine r_iret rfl ?_
            rw [show woL t p wVals 0 = ((4 : Nat) : Int) from (if_neg hw0).trans ((if_neg hw1).trans ((if_neg hw2).trans ((if_neg hw3).trans (if_pos hw4))))] at K
            try simp only [up2_up2]
            exact K
          · refine r_if_y rfl (by decide) ?_
            refine r_aload_n rfl rfl ?_
            refine r_ldc2 rfl ?_
            refine r_callV1 rfl rfl (by first | assumption | exact hs.o rfl) rfl (c_isWord (wd := wOn) (by omega) hs hT (wOk_V _ (by decide)) rfl h.now (fun hw5 => ?_) (fun hw5 => ?_))
            · refine r_if_n rfl (by decide) ?_
              refine r_iconst rfl ?_
              refine r_iret rfl ?_
              rw [show woL t p wVals 0 = ((5 : Nat) : Int) from (if_neg hw0).trans ((if_neg hw1).trans ((if_neg hw2).trans ((if_neg hw3).trans ((if_neg hw4).trans (if_pos hw5)))))] at K
              try simp only [up2_up2]
              exact K
            · refine r_if_y rfl (by decide) ?_
              refine r_aload_n rfl rfl ?_
              refine r_ldc2 rfl ?_
              refine r_callV1 rfl rfl (by first | assumption | exact hs.o rfl) rfl (c_isWord (wd := wOff) (by omega) hs hT (wOk_V _ (by decide)) rfl h.now (fun hw6 => ?_) (fun hw6 => ?_))
              · refine r_if_n rfl (by decide) ?_
                refine r_bipush rfl ?_
                refine r_iret rfl ?_
                rw [show woL t p wVals 0 = ((6 : Nat) : Int) from (if_neg hw0).trans ((if_neg hw1).trans ((if_neg hw2).trans ((if_neg hw3).trans ((if_neg hw4).trans ((if_neg hw5).trans (if_pos hw6))))))] at K
                try simp only [up2_up2]
                exact K
              · refine r_if_y rfl (by decide) ?_
                refine r_aload_n rfl rfl ?_
                refine r_ldc2 rfl ?_
                refine r_callV1 rfl rfl (by first | assumption | exact hs.o rfl) rfl (c_isWord (wd := wRnd) (by omega) hs hT (wOk_V _ (by decide)) rfl h.now (fun hw7 => ?_) (fun hw7 => ?_))
                · refine r_if_n rfl (by decide) ?_
                  refine r_bipush rfl ?_
                  refine r_iret rfl ?_
                  rw [show woL t p wVals 0 = ((7 : Nat) : Int) from (if_neg hw0).trans ((if_neg hw1).trans ((if_neg hw2).trans ((if_neg hw3).trans ((if_neg hw4).trans ((if_neg hw5).trans ((if_neg hw6).trans (if_pos hw7)))))))] at K
                  try simp only [up2_up2]
                  exact K
                · refine r_if_y rfl (by decide) ?_
                  refine r_aload_n rfl rfl ?_
                  refine r_ldc2 rfl ?_
                  refine r_callV1 rfl rfl (by first | assumption | exact hs.o rfl) rfl (c_isWord (wd := wEvery) (by omega) hs hT (wOk_V _ (by decide)) rfl h.now (fun hw8 => ?_) (fun hw8 => ?_))
                  · refine r_if_n rfl (by decide) ?_
                    refine r_bipush rfl ?_
                    refine r_goto rfl ?_
                    refine r_iret rfl ?_
                    rw [show woL t p wVals 0 = ((8 : Nat) : Int) from (if_neg hw0).trans ((if_neg hw1).trans ((if_neg hw2).trans ((if_neg hw3).trans ((if_neg hw4).trans ((if_neg hw5).trans ((if_neg hw6).trans ((if_neg hw7).trans (if_pos hw8))))))))] at K
                    try simp only [up2_up2]
                    exact K
                  · refine r_if_y rfl (by decide) ?_
                    refine r_aload_n rfl rfl ?_
                    refine r_ldc2 rfl ?_
                    refine r_callV1 rfl rfl (by first | assumption | exact hs.o rfl) rfl (c_isWord (wd := wStep) (by omega) hs hT (wOk_V _ (by decide)) rfl h.now (fun hw9 => ?_) (fun hw9 => ?_))
                    · refine r_if_n rfl (by decide) ?_
                      refine r_bipush rfl ?_
                      refine r_goto rfl ?_
                      refine r_iret rfl ?_
                      rw [show woL t p wVals 0 = ((9 : Nat) : Int) from (if_neg hw0).trans ((if_neg hw1).trans ((if_neg hw2).trans ((if_neg hw3).trans ((if_neg hw4).trans ((if_neg hw5).trans ((if_neg hw6).trans ((if_neg hw7).trans ((if_neg hw8).trans (if_pos hw9)))))))))] at K
                      try simp only [up2_up2]
                      exact K
                    · refine r_if_y rfl (by decide) ?_
                      refine r_iconst rfl ?_
                      refine r_iret rfl ?_
                      rw [show woL t p wVals 0 = -1 from (if_neg hw0).trans ((if_neg hw1).trans ((if_neg hw2).trans ((if_neg hw3).trans ((if_neg hw4).trans ((if_neg hw5).trans ((if_neg hw6).trans ((if_neg hw7).trans ((if_neg hw8).trans ((if_neg hw9).trans (rfl))))))))))] at K
                      try simp only [up2_up2]
                      exact K
theorem c_value (hd : 4 ≤ d) (hs : Sh σ g) (hT : TxOk t) (htx : tx < 6) (h : MG f t tx p n l) (hl : l.length ≤ p) (K : MK Q σ g f t tx l (dValue t p n)) : ZCt d 159 [zr (some 219)] σ f g Q := by
  refine ZCt.of' (L0 := [_, _, _]) (by omega) rfl rfl rfl (fun d hd1 => ?_)
  have hT1 := hT.1
  have hp := h.1.le
  refine r_aload_n rfl rfl ?_
  refine r_callV0 rfl rfl (by first | assumption | exact hs.o rfl) rfl (c_see (by omega) hs hT h.1 ?_)
  refine r_popi rfl ?_
  refine r_aload_n rfl rfl ?_
  refine r_getI rfl (by first | assumption | exact hs.o rfl) (up2_same _ _ _ _) ?_
  refine r_istore_n (L' := [_, _, _]) rfl rfl rfl ?_
  refine r_aload_n rfl rfl ?_
  refine r_aload_n rfl rfl ?_
  refine r_getI rfl (by first | assumption | exact hs.o rfl) (up2_same _ _ _ _) ?_
  refine r_callV1 rfl rfl (by first | assumption | exact hs.o rfl) rfl (c_isDigit (k := p) (by omega) hs hT h.now.1.mx (by omega) (fun hD => ?_) (fun hD => ?_))
  · refine r_if_n rfl (by decide) ?_
    refine r_aload_n rfl rfl ?_
    refine r_iconst rfl ?_
    refine r_ldc rfl ?_
    refine r_callV2 rfl rfl (by first | assumption | exact hs.o rfl) rfl (c_numberHere (by omega) hs hT h.now.1 h.now.2.1 (by omega) (by omega) (fun p1 v n1 f1 hf1 h1 h10 => ?_) (fun e n1 f1 hf1 h9 => ?_))
    · refine r_if_n rfl (by decide) ?_
      refine r_aload_n rfl rfl ?_
      refine r_iload_n rfl rfl ?_
      rw [dNum_val hD] at n1
      have hg1 := h.now.n1 hf1 h1
      refine r_callV1 rfl rfl (by first | assumption | exact hs.o rfl) rfl (c_makes (q := p) (by omega) hs hg1 (fun hn => ?_) (fun hn => ?_))
      · refine r_if_y rfl (by decide) ?_
        refine r_aload_n rfl rfl ?_
        refine r_iconst rfl ?_
        refine r_aload_n rfl rfl ?_
        refine r_getI rfl (by first | assumption | exact hs.o rfl) ((up2_ne _ _ (by omega)).trans h10) ?_
        refine r_callV2 rfl rfl (by first | assumption | exact hs.o rfl) rfl (c_puts (by omega) hs htx (hg1.made hn) (by have := (isD_iff.1 hD).1; omega) (fun f3 hf3 h3 => ?_))
        refine r_iconst rfl ?_
        refine r_zret rfl (by omega) ?_
        by_cases h5 : dE t p - p ≤ 5
        · rw [if_pos h5] at n1
          cases n1
          exact K.1 _ _ [(0, num t p (dE t p - p))] ((if_pos hD).trans ((if_pos h5).trans (if_pos hn))) f3 (((((FrV.rf tx f).up (by omega)).n1 hf1).up (by omega)).trans hf3) h3
        · rw [if_neg h5] at n1; cases n1
      · refine r_if_n rfl (by decide) ?_
        refine r_iconst rfl ?_
        refine r_zret rfl (by omega) ?_
        by_cases h5 : dE t p - p ≤ 5
        · exact K.2 _ ((if_pos hD).trans ((if_pos h5).trans (if_neg hn))) _ ((((FrV.rf tx f).up (by omega)).n1 hf1).up (by omega)) (up2_same _ _ _ _) (err_rng hT hp (by omega))
        · rw [if_neg h5] at n1; cases n1
    · refine r_if_y rfl (by decide) ?_
      refine r_iconst rfl ?_
      refine r_zret rfl (by omega) ?_
      rw [dNum_val hD] at n1
      by_cases h5 : dE t p - p ≤ 5
      · rw [if_pos h5] at n1; cases n1
      · rw [if_neg h5] at n1
        cases n1
        exact K.2 _ ((if_pos hD).trans (if_neg h5)) f1 (((FrV.rf tx f).up (by omega)).nb hf1) h9 (err_rng hT hp (by omega))
  · refine r_if_y rfl (by decide) ?_
    refine r_aload_n rfl rfl ?_
    refine r_callV0 rfl rfl (by first | assumption | exact hs.o rfl) rfl (c_wordHere (by omega) hs hT h.now.1 ?_)
    rw [up2_up2]
    have hwr := woL_rng (t := t) (p := p) wVals 0
    have hwl : wVals.length = 10 := rfl
    refine r_istore_n (L' := [_, _, _]) rfl rfl rfl ?_
    refine r_iload_n rfl rfl ?_
    refine r_if_ge rfl (by omega) (fun h58 => ?_) (fun h58 => ?_)
    · refine r_aload_n rfl rfl ?_
      refine r_iload_n rfl rfl ?_
      refine r_callV1 rfl rfl (by first | assumption | exact hs.o rfl) rfl (c_makes (q := p) (by omega) hs h.now (fun hn => ?_) (fun hn => ?_))
      · refine r_if_y rfl (by decide) ?_
        refine r_aload_n rfl rfl ?_
        refine r_callV0 rfl rfl (by first | assumption | exact hs.o rfl) rfl (c_passWord (q := p) (by omega) hs hT (h.now.made hn).1.mx ((up2_ne _ _ (by omega)).trans (up2_same _ _ _ _)) hp ?_)
        refine r_aload_n rfl rfl ?_
        refine r_iconst rfl ?_
        refine r_iload_n rfl rfl ?_
        have hL : isL t p = true := by
          cases hl : isL t p with
          | true => rfl
          | false => rw [woL_L wVals 0 wVals_ne hl] at h58; exact absurd h58 (by decide)
        refine r_callV2 rfl rfl (by first | assumption | exact hs.o rfl) rfl (c_puts (by omega) hs htx ((h.now.made hn).at (lE_le hp)) (by have := (isL_iff.1 hL).1; omega) (fun f3 hf3 h3 => ?_))
        refine r_iconst rfl ?_
        refine r_zret rfl (by omega) ?_
        exact K.1 _ _ [(1, woL t p wVals 0)] ((if_neg hD).trans ((if_neg (by omega)).trans (if_pos hn))) f3 (((((FrV.rf tx f).up (by omega)).up (by omega)).up (by omega)).trans hf3) h3
      · refine r_if_n rfl (by decide) ?_
        refine r_iconst rfl ?_
        refine r_zret rfl (by omega) ?_
        exact K.2 _ ((if_neg hD).trans ((if_neg (by omega)).trans (if_neg hn))) _ (((FrV.rf tx f).up (by omega)).up (by omega)) (up2_same _ _ _ _) (err_rng hT hp (by omega))
    · refine r_aload_n rfl rfl ?_
      refine r_iconst rfl ?_
      refine r_iload_n rfl rfl ?_
      refine r_callV2 rfl rfl (by first | assumption | exact hs.o rfl) rfl (c_fails (p := p) (by omega) hs h.now.2.1 ?_)
      refine r_zret rfl (by omega) ?_
      exact K.2 _ ((if_neg hD).trans (if_pos (by omega))) _ (((FrV.rf tx f).up (by omega)).up (by omega)) (up2_same _ _ _ _) (err_rng hT hp (by omega))
theorem l_termM (hd1 : 4 ≤ d) (hs : Sh σ g) (hT : TxOk t) (htx : tx < 6) {f0 : ZF} (p n k : Nat) (l : List Int) (f : ZF) (hk : t.2 < p + k) (hl : l.length ≤ p) (h : MG f t tx p n l) (hf : FrV tx f0 f) {x : ZV} (K : MK Q σ g f0 t tx l (dTermR t k p n)) : ZWp d zt158 9 [zr (some 219), x] [] σ f g Q := by
  have hT1 := hT.1
  have hp := h.1.le
  obtain ⟨k, rfl⟩ : ∃ u, k = u + 1 := ⟨k - 1, by omega⟩
  refine r_aload_n rfl rfl ?_
  refine r_callV0 rfl rfl (by first | assumption | exact hs.o rfl) rfl (c_see (by omega) hs hT h.1 ?_)
  refine r_bipush rfl ?_
  refine r_icmp_eq rfl (by have := ch_rng hT p; omega) (by omega) (fun hc0 => ?_) (fun hc0 => ?_)
  · have hS := (ch_iff hT (by omega)).1 hc0
    have hTp := (isS_iff.1 hS).2
    have hlt := (isS_iff.1 hS).1
    have hop : mulOp t p = 4 := by
      have no : ∀ c : Int, c ≠ 42 → ¬ isS t p c = true := fun c hc z => hc ((isS_iff.1 z).2.symm.trans hTp)
      unfold mulOp
      rw [if_pos hS]
    have hsk := sk_le (t := t) (p := p + 1) (by omega)
    have hsg := sk_ge t (p + 1)
    refine r_aload_n rfl rfl ?_
    refine r_getR rfl (by first | assumption | exact hs.o rfl) (by first | assumption | exact hs.g rfl) ?_
    refine r_aload_n rfl rfl ?_
    refine r_getI rfl (by first | assumption | exact hs.o rfl) (up2_same _ _ _ _) ?_
    refine r_bald rfl (by first | assumption | exact hs.a rfl) (by omega) (by omega) (show _ = (42 : Int) from by rw [show ((p : Nat) : Int).toNat = p by omega, up2_o _ _ (by omega), h.1.mx.2 p (by omega)]; exact hTp) ?_
    refine r_bipush rfl ?_
    refine r_icmp_n rfl (by decide) ?_
    refine r_iconst rfl ?_
    refine r_goto rfl ?_
    refine r_istore_n (L' := [_, _]) rfl rfl rfl ?_
    refine r_aload_n rfl rfl ?_
    refine r_dupr rfl ?_
    refine r_getI rfl (by first | assumption | exact hs.o rfl) (up2_same _ _ _ _) ?_
    refine r_iconst rfl ?_
    refine r_iadd rfl ?_
    refine r_putI rfl (by first | assumption | exact hs.o rfl) ?_
    refine r_aload_n rfl rfl ?_
    rw [up2_up2, show ((p : Int) + 1) = ((p + 1 : Nat) : Int) by omega]
    refine r_callV0 rfl rfl (by first | assumption | exact hs.o rfl) rfl (c_value (by omega) hs hT htx (h.at (by omega)) (by omega) ⟨fun p2 n2 m2 e2 f2 hf2 h2 => ?_, fun e2 he2 f2 hf2 h9 hr9 => ?_⟩)
    · refine r_if_y rfl (by decide) ?_
      refine r_aload_n rfl rfl ?_
      refine r_iload_n rfl rfl ?_
      refine r_iconst rfl ?_
      refine r_callV2 rfl rfl (by first | assumption | exact hs.o rfl) rfl (c_puts (by omega) hs htx h2 (by obtain ⟨g1, g2, g3⟩ := dValue_ok t _ _ _ _ _ e2; have hp2 := h2.1.le; simp only [List.length_append, List.length_map]; omega) (fun f3 hf3 h3 => ?_))
      refine r_goto rfl ?_
      obtain ⟨g1, g2, g3⟩ := dValue_ok t _ _ _ _ _ e2
      have hp2 := h2.1.le
      rw [show dTermR t (k + 1) p n = _ from if_neg (by rw [hop]; decide), e2, bnd_inr, hop] at K
      have K2 := K.addL
      rw [List.map_append, ← List.append_assoc] at K2
      exact l_termM hd1 hs hT htx p2 n2 k _ f3 (by omega) (by simp only [List.length_append, List.length_map, List.length_cons, List.length_nil]; omega) h3 (((hf.up (by omega)).trans hf2).trans hf3) K2
    · refine r_if_n rfl (by decide) ?_
      refine r_iconst rfl ?_
      refine r_zret rfl (by omega) ?_
      exact K.2 _ ((if_neg (by rw [hop]; decide)).trans (by rw [he2]; rfl)) f2 ((hf.up (by omega)).trans hf2) h9 hr9
  · refine r_aload_n rfl rfl ?_
    refine r_callV0 rfl rfl (by first | assumption | exact hs.o rfl) rfl (c_see (by omega) hs hT h.now.1 ?_)
    rw [up2_up2]
    refine r_bipush rfl ?_
    refine r_icmp_eq rfl (by have := ch_rng hT p; omega) (by omega) (fun hc1 => ?_) (fun hc1 => ?_)
    · have hS := (ch_iff hT (by omega)).1 hc1
      have hTp := (isS_iff.1 hS).2
      have hlt := (isS_iff.1 hS).1
      have hop : mulOp t p = 5 := by
        have no : ∀ c : Int, c ≠ 47 → ¬ isS t p c = true := fun c hc z => hc ((isS_iff.1 z).2.symm.trans hTp)
        unfold mulOp
        rw [if_neg (no 42 (by decide)), if_pos hS]
      have hsk := sk_le (t := t) (p := p + 1) (by omega)
      have hsg := sk_ge t (p + 1)
      refine r_aload_n rfl rfl ?_
      refine r_getR rfl (by first | assumption | exact hs.o rfl) (by first | assumption | exact hs.g rfl) ?_
      refine r_aload_n rfl rfl ?_
      refine r_getI rfl (by first | assumption | exact hs.o rfl) (up2_same _ _ _ _) ?_
      refine r_bald rfl (by first | assumption | exact hs.a rfl) (by omega) (by omega) (show _ = (47 : Int) from by rw [show ((p : Nat) : Int).toNat = p by omega, up2_o _ _ (by omega), h.1.mx.2 p (by omega)]; exact hTp) ?_
      refine r_bipush rfl ?_
      refine r_icmp_y rfl (by decide) ?_
      refine r_aload_n rfl rfl ?_
      refine r_getR rfl (by first | assumption | exact hs.o rfl) (by first | assumption | exact hs.g rfl) ?_
      refine r_aload_n rfl rfl ?_
      refine r_getI rfl (by first | assumption | exact hs.o rfl) (up2_same _ _ _ _) ?_
      refine r_bald rfl (by first | assumption | exact hs.a rfl) (by omega) (by omega) (show _ = (47 : Int) from by rw [show ((p : Nat) : Int).toNat = p by omega, up2_o _ _ (by omega), h.1.mx.2 p (by omega)]; exact hTp) ?_
      refine r_bipush rfl ?_
      refine r_icmp_n rfl (by decide) ?_
      refine r_iconst rfl ?_
      refine r_goto rfl ?_
      refine r_istore_n (L' := [_, _]) rfl rfl rfl ?_
      refine r_aload_n rfl rfl ?_
      refine r_dupr rfl ?_
      refine r_getI rfl (by first | assumption | exact hs.o rfl) (up2_same _ _ _ _) ?_
      refine r_iconst rfl ?_
      refine r_iadd rfl ?_
      refine r_putI rfl (by first | assumption | exact hs.o rfl) ?_
      refine r_aload_n rfl rfl ?_
      rw [up2_up2, show ((p : Int) + 1) = ((p + 1 : Nat) : Int) by omega]
      refine r_callV0 rfl rfl (by first | assumption | exact hs.o rfl) rfl (c_value (by omega) hs hT htx (h.at (by omega)) (by omega) ⟨fun p2 n2 m2 e2 f2 hf2 h2 => ?_, fun e2 he2 f2 hf2 h9 hr9 => ?_⟩)
      · refine r_if_y rfl (by decide) ?_
        refine r_aload_n rfl rfl ?_
        refine r_iload_n rfl rfl ?_
        refine r_iconst rfl ?_
        refine r_callV2 rfl rfl (by first | assumption | exact hs.o rfl) rfl (c_puts (by omega) hs htx h2 (by obtain ⟨g1, g2, g3⟩ := dValue_ok t _ _ _ _ _ e2; have hp2 := h2.1.le; simp only [List.length_append, List.length_map]; omega) (fun f3 hf3 h3 => ?_))
        refine r_goto rfl ?_
        obtain ⟨g1, g2, g3⟩ := dValue_ok t _ _ _ _ _ e2
        have hp2 := h2.1.le
        rw [show dTermR t (k + 1) p n = _ from if_neg (by rw [hop]; decide), e2, bnd_inr, hop] at K
        have K2 := K.addL
        rw [List.map_append, ← List.append_assoc] at K2
        exact l_termM hd1 hs hT htx p2 n2 k _ f3 (by omega) (by simp only [List.length_append, List.length_map, List.length_cons, List.length_nil]; omega) h3 (((hf.up (by omega)).trans hf2).trans hf3) K2
      · refine r_if_n rfl (by decide) ?_
        refine r_iconst rfl ?_
        refine r_zret rfl (by omega) ?_
        exact K.2 _ ((if_neg (by rw [hop]; decide)).trans (by rw [he2]; rfl)) f2 ((hf.up (by omega)).trans hf2) h9 hr9
    · refine r_aload_n rfl rfl ?_
      refine r_callV0 rfl rfl (by first | assumption | exact hs.o rfl) rfl (c_see (by omega) hs hT h.now.1 ?_)
      rw [up2_up2]
      refine r_bipush rfl ?_
      refine r_icmp_ne rfl (by have := ch_rng hT p; omega) (by omega) (fun hc2 => ?_) (fun hc2 => ?_)
      · refine r_iconst rfl ?_
        refine r_zret rfl (by omega) ?_
        have hz : mulOp t p = 0 := by
          unfold mulOp
          rw [if_neg (fun z => hc0 ((ch_iff hT (by omega)).2 z)), if_neg (fun z => hc1 ((ch_iff hT (by omega)).2 z)), if_neg (fun z => hc2 ((ch_iff hT (by omega)).2 z))]
        refine K.1 _ _ [] (if_pos hz) _ (hf.up (by omega)) ?_
        rw [List.map_nil, List.append_nil]
        exact h.now
      · have hS := (ch_iff hT (by omega)).1 hc2
        have hTp := (isS_iff.1 hS).2
        have hlt := (isS_iff.1 hS).1
        have hop : mulOp t p = 14 := by
          have no : ∀ c : Int, c ≠ 37 → ¬ isS t p c = true := fun c hc z => hc ((isS_iff.1 z).2.symm.trans hTp)
          unfold mulOp
          rw [if_neg (no 42 (by decide)), if_neg (no 47 (by decide)), if_pos hS]
        have hsk := sk_le (t := t) (p := p + 1) (by omega)
        have hsg := sk_ge t (p + 1)
        refine r_aload_n rfl rfl ?_
        refine r_getR rfl (by first | assumption | exact hs.o rfl) (by first | assumption | exact hs.g rfl) ?_
        refine r_aload_n rfl rfl ?_
        refine r_getI rfl (by first | assumption | exact hs.o rfl) (up2_same _ _ _ _) ?_
        refine r_bald rfl (by first | assumption | exact hs.a rfl) (by omega) (by omega) (show _ = (37 : Int) from by rw [show ((p : Nat) : Int).toNat = p by omega, up2_o _ _ (by omega), h.1.mx.2 p (by omega)]; exact hTp) ?_
        refine r_bipush rfl ?_
        refine r_icmp_y rfl (by decide) ?_
        refine r_aload_n rfl rfl ?_
        refine r_getR rfl (by first | assumption | exact hs.o rfl) (by first | assumption | exact hs.g rfl) ?_
        refine r_aload_n rfl rfl ?_
        refine r_getI rfl (by first | assumption | exact hs.o rfl) (up2_same _ _ _ _) ?_
        refine r_bald rfl (by first | assumption | exact hs.a rfl) (by omega) (by omega) (show _ = (37 : Int) from by rw [show ((p : Nat) : Int).toNat = p by omega, up2_o _ _ (by omega), h.1.mx.2 p (by omega)]; exact hTp) ?_
        refine r_bipush rfl ?_
        refine r_icmp_y rfl (by decide) ?_
        refine r_bipush rfl ?_
        refine r_istore_n (L' := [_, _]) rfl rfl rfl ?_
        refine r_aload_n rfl rfl ?_
        refine r_dupr rfl ?_
        refine r_getI rfl (by first | assumption | exact hs.o rfl) (up2_same _ _ _ _) ?_
        refine r_iconst rfl ?_
        refine r_iadd rfl ?_
        refine r_putI rfl (by first | assumption | exact hs.o rfl) ?_
        refine r_aload_n rfl rfl ?_
        rw [up2_up2, show ((p : Int) + 1) = ((p + 1 : Nat) : Int) by omega]
        refine r_callV0 rfl rfl (by first | assumption | exact hs.o rfl) rfl (c_value (by omega) hs hT htx (h.at (by omega)) (by omega) ⟨fun p2 n2 m2 e2 f2 hf2 h2 => ?_, fun e2 he2 f2 hf2 h9 hr9 => ?_⟩)
        · refine r_if_y rfl (by decide) ?_
          refine r_aload_n rfl rfl ?_
          refine r_iload_n rfl rfl ?_
          refine r_iconst rfl ?_
          refine r_callV2 rfl rfl (by first | assumption | exact hs.o rfl) rfl (c_puts (by omega) hs htx h2 (by obtain ⟨g1, g2, g3⟩ := dValue_ok t _ _ _ _ _ e2; have hp2 := h2.1.le; simp only [List.length_append, List.length_map]; omega) (fun f3 hf3 h3 => ?_))
          refine r_goto rfl ?_
          obtain ⟨g1, g2, g3⟩ := dValue_ok t _ _ _ _ _ e2
          have hp2 := h2.1.le
          rw [show dTermR t (k + 1) p n = _ from if_neg (by rw [hop]; decide), e2, bnd_inr, hop] at K
          have K2 := K.addL
          rw [List.map_append, ← List.append_assoc] at K2
          exact l_termM hd1 hs hT htx p2 n2 k _ f3 (by omega) (by simp only [List.length_append, List.length_map, List.length_cons, List.length_nil]; omega) h3 (((hf.up (by omega)).trans hf2).trans hf3) K2
        · refine r_if_n rfl (by decide) ?_
          refine r_iconst rfl ?_
          refine r_zret rfl (by omega) ?_
          exact K.2 _ ((if_neg (by rw [hop]; decide)).trans (by rw [he2]; rfl)) f2 ((hf.up (by omega)).trans hf2) h9 hr9
termination_by t.2 - p
theorem c_term (hd : 5 ≤ d) (hs : Sh σ g) (hT : TxOk t) (htx : tx < 6) (h : MG f t tx p n l) (hl : l.length ≤ p) (K : MK Q σ g f t tx l (dTerm t p n)) : ZCt d 158 [zr (some 219)] σ f g Q := by
  refine ZCt.of' (L0 := [_, _]) (by omega) rfl rfl rfl (fun d hd1 => ?_)
  have hT1 := hT.1
  have hp := h.1.le
  refine r_aload_n rfl rfl ?_
  refine r_callV0 rfl rfl (by first | assumption | exact hs.o rfl) rfl (c_value (by omega) hs hT htx h hl ⟨fun p2 n2 m2 e2 f2 hf2 h2 => ?_, fun e2 he2 f2 hf2 h9 hr9 => ?_⟩)
  · refine r_if_y rfl (by decide) ?_
    obtain ⟨g1, g2, g3⟩ := dValue_ok t _ _ _ _ _ e2
    have hp2 := h2.1.le
    unfold dTerm at K
    rw [e2, bnd_inr] at K
    exact l_termM (by omega) hs hT htx p2 n2 401 _ f2 (by omega) (by simp only [List.length_append, List.length_map]; omega) h2 hf2 K.addL
  · refine r_if_n rfl (by decide) ?_
    refine r_iconst rfl ?_
    refine r_zret rfl (by omega) ?_
    exact K.2 _ (by show bnd _ _ = _; rw [he2]; rfl) f2 hf2 h9 hr9
theorem l_sumM (hd1 : 5 ≤ d) (hs : Sh σ g) (hT : TxOk t) (htx : tx < 6) {f0 : ZF} (p n k : Nat) (l : List Int) (f : ZF) (hk : t.2 < p + k) (hl : l.length ≤ p) (h : MG f t tx p n l) (hf : FrV tx f0 f) {x : ZV} (K : MK Q σ g f0 t tx l (dSumR t k p n)) : ZWp d zt157 9 [zr (some 219), x] [] σ f g Q := by
  have hT1 := hT.1
  have hp := h.1.le
  obtain ⟨k, rfl⟩ : ∃ u, k = u + 1 := ⟨k - 1, by omega⟩
  refine r_aload_n rfl rfl ?_
  refine r_callV0 rfl rfl (by first | assumption | exact hs.o rfl) rfl (c_see (by omega) hs hT h.1 ?_)
  refine r_bipush rfl ?_
  refine r_icmp_eq rfl (by have := ch_rng hT p; omega) (by omega) (fun hc0 => ?_) (fun hc0 => ?_)
  · have hS := (ch_iff hT (by omega)).1 hc0
    have hTp := (isS_iff.1 hS).2
    have hlt := (isS_iff.1 hS).1
    have hop : addOp t p = 2 := by
      have no : ∀ c : Int, c ≠ 43 → ¬ isS t p c = true := fun c hc z => hc ((isS_iff.1 z).2.symm.trans hTp)
      unfold addOp
      rw [if_pos hS]
    have hsk := sk_le (t := t) (p := p + 1) (by omega)
    have hsg := sk_ge t (p + 1)
    refine r_aload_n rfl rfl ?_
    refine r_getR rfl (by first | assumption | exact hs.o rfl) (by first | assumption | exact hs.g rfl) ?_
    refine r_aload_n rfl rfl ?_
    refine r_getI rfl (by first | assumption | exact hs.o rfl) (up2_same _ _ _ _) ?_
    refine r_bald rfl (by first | assumption | exact hs.a rfl) (by omega) (by omega) (show _ = (43 : Int) from by rw [show ((p : Nat) : Int).toNat = p by omega, up2_o _ _ (by omega), h.1.mx.2 p (by omega)]; exact hTp) ?_
    refine r_bipush rfl ?_
    refine r_icmp_n rfl (by decide) ?_
    refine r_iconst rfl ?_
    refine r_goto rfl ?_
    refine r_istore_n (L' := [_, _]) rfl rfl rfl ?_
    refine r_aload_n rfl rfl ?_
    refine r_dupr rfl ?_
    refine r_getI rfl (by first | assumption | exact hs.o rfl) (up2_same _ _ _ _) ?_
    refine r_iconst rfl ?_
    refine r_iadd rfl ?_
    refine r_putI rfl (by first | assumption | exact hs.o rfl) ?_
    refine r_aload_n rfl rfl ?_
    rw [up2_up2, show ((p : Int) + 1) = ((p + 1 : Nat) : Int) by omega]
    refine r_callV0 rfl rfl (by first | assumption | exact hs.o rfl) rfl (c_term (by omega) hs hT htx (h.at (by omega)) (by omega) ⟨fun p2 n2 m2 e2 f2 hf2 h2 => ?_, fun e2 he2 f2 hf2 h9 hr9 => ?_⟩)
    · refine r_if_y rfl (by decide) ?_
      refine r_aload_n rfl rfl ?_
      refine r_iload_n rfl rfl ?_
      refine r_iconst rfl ?_
      refine r_callV2 rfl rfl (by first | assumption | exact hs.o rfl) rfl (c_puts (by omega) hs htx h2 (by obtain ⟨g1, g2, g3⟩ := dTerm_ok t _ _ _ _ _ e2; have hp2 := h2.1.le; simp only [List.length_append, List.length_map]; omega) (fun f3 hf3 h3 => ?_))
      refine r_goto rfl ?_
      obtain ⟨g1, g2, g3⟩ := dTerm_ok t _ _ _ _ _ e2
      have hp2 := h2.1.le
      rw [show dSumR t (k + 1) p n = _ from if_neg (by rw [hop]; decide), e2, bnd_inr, hop] at K
      have K2 := K.addL
      rw [List.map_append, ← List.append_assoc] at K2
      exact l_sumM hd1 hs hT htx p2 n2 k _ f3 (by omega) (by simp only [List.length_append, List.length_map, List.length_cons, List.length_nil]; omega) h3 (((hf.up (by omega)).trans hf2).trans hf3) K2
    · refine r_if_n rfl (by decide) ?_
      refine r_iconst rfl ?_
      refine r_zret rfl (by omega) ?_
      exact K.2 _ ((if_neg (by rw [hop]; decide)).trans (by rw [he2]; rfl)) f2 ((hf.up (by omega)).trans hf2) h9 hr9
  · refine r_aload_n rfl rfl ?_
    refine r_callV0 rfl rfl (by first | assumption | exact hs.o rfl) rfl (c_see (by omega) hs hT h.now.1 ?_)
    rw [up2_up2]
    refine r_bipush rfl ?_
    refine r_icmp_ne rfl (by have := ch_rng hT p; omega) (by omega) (fun hc1 => ?_) (fun hc1 => ?_)
    · refine r_iconst rfl ?_
      refine r_zret rfl (by omega) ?_
      have hz : addOp t p = 0 := by
        unfold addOp
        rw [if_neg (fun z => hc0 ((ch_iff hT (by omega)).2 z)), if_neg (fun z => hc1 ((ch_iff hT (by omega)).2 z))]
      refine K.1 _ _ [] (if_pos hz) _ (hf.up (by omega)) ?_
      rw [List.map_nil, List.append_nil]
      exact h.now
    · have hS := (ch_iff hT (by omega)).1 hc1
      have hTp := (isS_iff.1 hS).2
      have hlt := (isS_iff.1 hS).1
      have hop : addOp t p = 3 := by
        have no : ∀ c : Int, c ≠ 45 → ¬ isS t p c = true := fun c hc z => hc ((isS_iff.1 z).2.symm.trans hTp)
        unfold addOp
        rw [if_neg (no 43 (by decide)), if_pos hS]
      have hsk := sk_le (t := t) (p := p + 1) (by omega)
      have hsg := sk_ge t (p + 1)
      refine r_aload_n rfl rfl ?_
      refine r_getR rfl (by first | assumption | exact hs.o rfl) (by first | assumption | exact hs.g rfl) ?_
      refine r_aload_n rfl rfl ?_
      refine r_getI rfl (by first | assumption | exact hs.o rfl) (up2_same _ _ _ _) ?_
      refine r_bald rfl (by first | assumption | exact hs.a rfl) (by omega) (by omega) (show _ = (45 : Int) from by rw [show ((p : Nat) : Int).toNat = p by omega, up2_o _ _ (by omega), h.1.mx.2 p (by omega)]; exact hTp) ?_
      refine r_bipush rfl ?_
      refine r_icmp_y rfl (by decide) ?_
      refine r_iconst rfl ?_
      refine r_istore_n (L' := [_, _]) rfl rfl rfl ?_
      refine r_aload_n rfl rfl ?_
      refine r_dupr rfl ?_
      refine r_getI rfl (by first | assumption | exact hs.o rfl) (up2_same _ _ _ _) ?_
      refine r_iconst rfl ?_
      refine r_iadd rfl ?_
      refine r_putI rfl (by first | assumption | exact hs.o rfl) ?_
      refine r_aload_n rfl rfl ?_
      rw [up2_up2, show ((p : Int) + 1) = ((p + 1 : Nat) : Int) by omega]
      refine r_callV0 rfl rfl (by first | assumption | exact hs.o rfl) rfl (c_term (by omega) hs hT htx (h.at (by omega)) (by omega) ⟨fun p2 n2 m2 e2 f2 hf2 h2 => ?_, fun e2 he2 f2 hf2 h9 hr9 => ?_⟩)
      · refine r_if_y rfl (by decide) ?_
        refine r_aload_n rfl rfl ?_
        refine r_iload_n rfl rfl ?_
        refine r_iconst rfl ?_
        refine r_callV2 rfl rfl (by first | assumption | exact hs.o rfl) rfl (c_puts (by omega) hs htx h2 (by obtain ⟨g1, g2, g3⟩ := dTerm_ok t _ _ _ _ _ e2; have hp2 := h2.1.le; simp only [List.length_append, List.length_map]; omega) (fun f3 hf3 h3 => ?_))
        refine r_goto rfl ?_
        obtain ⟨g1, g2, g3⟩ := dTerm_ok t _ _ _ _ _ e2
        have hp2 := h2.1.le
        rw [show dSumR t (k + 1) p n = _ from if_neg (by rw [hop]; decide), e2, bnd_inr, hop] at K
        have K2 := K.addL
        rw [List.map_append, ← List.append_assoc] at K2
        exact l_sumM hd1 hs hT htx p2 n2 k _ f3 (by omega) (by simp only [List.length_append, List.length_map, List.length_cons, List.length_nil]; omega) h3 (((hf.up (by omega)).trans hf2).trans hf3) K2
      · refine r_if_n rfl (by decide) ?_
        refine r_iconst rfl ?_
        refine r_zret rfl (by omega) ?_
        exact K.2 _ ((if_neg (by rw [hop]; decide)).trans (by rw [he2]; rfl)) f2 ((hf.up (by omega)).trans hf2) h9 hr9
termination_by t.2 - p
theorem c_sum (hd : 6 ≤ d) (hs : Sh σ g) (hT : TxOk t) (htx : tx < 6) (h : MG f t tx p n l) (hl : l.length ≤ p) (K : MK Q σ g f t tx l (dSum t p n)) : ZCt d 157 [zr (some 219)] σ f g Q := by
  refine ZCt.of' (L0 := [_, _]) (by omega) rfl rfl rfl (fun d hd1 => ?_)
  have hT1 := hT.1
  have hp := h.1.le
  refine r_aload_n rfl rfl ?_
  refine r_callV0 rfl rfl (by first | assumption | exact hs.o rfl) rfl (c_term (by omega) hs hT htx h hl ⟨fun p2 n2 m2 e2 f2 hf2 h2 => ?_, fun e2 he2 f2 hf2 h9 hr9 => ?_⟩)
  · refine r_if_y rfl (by decide) ?_
    obtain ⟨g1, g2, g3⟩ := dTerm_ok t _ _ _ _ _ e2
    have hp2 := h2.1.le
    unfold dSum at K
    rw [e2, bnd_inr] at K
    exact l_sumM (by omega) hs hT htx p2 n2 401 _ f2 (by omega) (by simp only [List.length_append, List.length_map]; omega) h2 hf2 K.addL
  · refine r_if_n rfl (by decide) ?_
    refine r_iconst rfl ?_
    refine r_zret rfl (by omega) ?_
    exact K.2 _ (by show bnd _ _ = _; rw [he2]; rfl) f2 hf2 h9 hr9
theorem c_compare (hd : 7 ≤ d) (hs : Sh σ g) (hT : TxOk t) (htx : tx < 6) (h : MG f t tx p n l) (hl : l.length ≤ p) (K : MK Q σ g f t tx l (dCmp t p n)) : ZCt d 167 [zr (some 219)] σ f g Q := by
  refine ZCt.of' (L0 := [_, _, _, _, _]) (by omega) rfl rfl rfl (fun d hd1 => ?_)
  have hT1 := hT.1
  have hp := h.1.le
  refine r_aload_n rfl rfl ?_
  refine r_callV0 rfl rfl (by first | assumption | exact hs.o rfl) rfl (c_sum (by omega) hs hT htx h hl ⟨fun p2 n2 m2 e2 f2 hf2 h2 => ?_, fun e2 he2 f2 hf2 h9 hr9 => ?_⟩)
  · refine r_if_y rfl (by decide) ?_
    refine r_aload_n rfl rfl ?_
    refine r_callV0 rfl rfl (by first | assumption | exact hs.o rfl) rfl (c_see (by omega) hs hT h2.1 ?_)
    have hcr := ch_rng hT p2
    have hp2 := h2.1.le
    obtain ⟨g1, g2, g3⟩ := dSum_ok t _ _ _ _ _ e2
    refine r_istore_n (L' := [_, _, _, _, _]) rfl rfl rfl ?_
    refine r_aload_n rfl rfl ?_
    refine r_getI rfl (by first | assumption | exact hs.o rfl) (up2_same _ _ _ _) ?_
    refine r_istore_n (L' := [_, _, _, _, _]) rfl rfl rfl ?_
    refine r_iload_n rfl rfl ?_
    refine r_bipush rfl ?_
    refine r_icmp_eq rfl (by omega) (by omega) (fun h22 => ?_) (fun h22 => ?_)
    · have hS := (ch_iff hT (by omega)).1 h22
      have hTp := (isS_iff.1 hS).2
      have hlt := (isS_iff.1 hS).1
      have no : ∀ c : Int, c ≠ 60 → ¬ isS t p2 c = true := fun c hc z => hc ((isS_iff.1 z).2.symm.trans hTp)
      refine r_aload_n rfl rfl ?_
      refine r_dupr rfl ?_
      refine r_getI rfl (by first | assumption | exact hs.o rfl) (up2_same _ _ _ _) ?_
      refine r_iconst rfl ?_
      refine r_iadd rfl ?_
      refine r_putI rfl (by first | assumption | exact hs.o rfl) ?_
      refine r_iload_n rfl rfl ?_
      refine r_bipush rfl ?_
      refine r_icmp_eq rfl (by omega) (by omega) (fun h57 => ?_) (fun h57 => ?_)
      · exfalso; omega
      · refine r_aload_n rfl rfl ?_
        rw [up2_up2]
        refine r_getI rfl (by first | assumption | exact hs.o rfl) (up2_same _ _ _ _) ?_
        refine r_aload_n rfl rfl ?_
        refine r_getI rfl (by first | assumption | exact hs.o rfl) ((up2_ne _ _ (by omega)).trans h2.1.mx.1) ?_
        refine r_icmp_ge rfl (by omega) (by omega) (fun h68 => ?_) (fun h68 => ?_)
        · refine r_iconst rfl ?_
          refine r_istore_n (L' := [_, _, _, _, _]) rfl rfl rfl ?_
          refine r_iload_n rfl rfl ?_
          refine r_if_y rfl (by decide) ?_
          refine r_aload_n rfl rfl ?_
          refine r_iload_n rfl rfl ?_
          have hN1 : ¬ isS t (p2 + 1) 61 = true := fun z => by have z1 := isS_iff.1 z; omega
          have hop : cmpOp t p2 = 6 := by
            unfold cmpOp
            rw [if_pos hS, if_neg hN1]
          have hen : cmpE t p2 = p2 + 1 := by
            unfold cmpE
            rw [if_neg (fun z => hN1 z.2)]
          have hle : p2 + 1 ≤ t.2 := by omega
          have hsk := sk_le hle
          have hsg := sk_ge t (p2 + 1)
          rw [show ((p2 : Int) + 1) = ((p2 + 1 : Nat) : Int) by omega]
          have h3 := h2.at hle
          refine r_callV1 rfl rfl (by first | assumption | exact hs.o rfl) rfl (c_makes (q := p2) (by omega) hs h3 (fun hn => ?_) (fun hn => ?_))
          · refine r_if_y rfl (by decide) ?_
            refine r_iload_n rfl rfl ?_
            refine r_bipush rfl ?_
            refine r_icmp_ne rfl (by omega) (by omega) (fun h118 => ?_) (fun h118 => ?_)
            · exfalso; omega
            · refine r_iload_n rfl rfl ?_
              refine r_if_y rfl (by decide) ?_
              refine r_iconst rfl ?_
              refine r_goto rfl ?_
              refine r_istore (L' := [_, _, _, _, _]) rfl rfl rfl ?_
              refine r_aload_n rfl rfl ?_
              refine r_callV0 rfl rfl (by first | assumption | exact hs.o rfl) rfl (c_sum (by omega) hs hT htx (h3.made hn) (by simp only [List.length_append, List.length_map]; omega) ⟨fun p5 n5 m5 e5 f5 hf5 h5 => ?_, fun e5 he5 f5 hf5 h9 hr9 => ?_⟩)
              · refine r_if_y rfl (by decide) ?_
                refine r_aload_n rfl rfl ?_
                refine r_bipush rfl ?_
                refine r_iload rfl rfl ?_
                refine r_iadd rfl ?_
                refine r_iconst rfl ?_
                refine r_callV2 rfl rfl (by first | assumption | exact hs.o rfl) rfl (c_puts (by omega) hs htx h5 (by obtain ⟨g4, g5, g6⟩ := dSum_ok t _ _ _ _ _ e5; have hp5 := h5.1.le; simp only [List.length_append, List.length_map]; omega) (fun f6 hf6 h6 => ?_))
                refine r_iconst rfl ?_
                refine r_zret rfl (by omega) ?_
                refine K.1 _ _ _ (by show bnd _ _ = _; rw [e2, bnd_inr, if_neg (by rw [hop]; decide), if_pos hn, hen, e5, bnd_inr]) f6 ((((hf2.up (by omega)).up (by omega)).trans hf5).trans hf6) ?_
                rw [hop, List.map_append, List.map_append, ← List.append_assoc, ← List.append_assoc]
                exact h6
              · refine r_if_n rfl (by decide) ?_
                refine r_iconst rfl ?_
                refine r_zret rfl (by omega) ?_
                exact K.2 _ (by show bnd _ _ = _; rw [e2, bnd_inr, if_neg (by rw [hop]; decide), if_pos hn, hen, he5]; rfl) f5 (((hf2.up (by omega)).up (by omega)).trans hf5) h9 hr9
          · refine r_if_n rfl (by decide) ?_
            refine r_iconst rfl ?_
            refine r_zret rfl (by omega) ?_
            exact K.2 _ (by show bnd _ _ = _; rw [e2, bnd_inr, if_neg (by rw [hop]; decide), if_neg hn]) _ ((hf2.up (by omega)).up (by omega)) (up2_same _ _ _ _) (err_rng hT hp2 (by omega))
        · refine r_aload_n rfl rfl ?_
          refine r_getR rfl (by first | assumption | exact hs.o rfl) (by first | assumption | exact hs.g rfl) ?_
          refine r_aload_n rfl rfl ?_
          refine r_getI rfl (by first | assumption | exact hs.o rfl) (up2_same _ _ _ _) ?_
          refine r_bald rfl (by first | assumption | exact hs.a rfl) (by omega) (by omega) (show _ = t.1 (p2 + 1) from by rw [show ((p2 : Int) + 1).toNat = p2 + 1 by omega, up2_o _ _ (by omega)]; exact h2.1.mx.2 (p2 + 1) (by omega)) ?_
          refine r_bipush rfl ?_
          refine r_icmp_ne rfl (by have := hT.2 (p2 + 1) (by omega); omega) (by omega) (fun h82 => ?_) (fun h82 => ?_)
          · refine r_iconst rfl ?_
            refine r_istore_n (L' := [_, _, _, _, _]) rfl rfl rfl ?_
            refine r_iload_n rfl rfl ?_
            refine r_if_y rfl (by decide) ?_
            refine r_aload_n rfl rfl ?_
            refine r_iload_n rfl rfl ?_
            have hN1 : ¬ isS t (p2 + 1) 61 = true := fun z => by have z1 := isS_iff.1 z; omega
            have hop : cmpOp t p2 = 6 := by
              unfold cmpOp
              rw [if_pos hS, if_neg hN1]
            have hen : cmpE t p2 = p2 + 1 := by
              unfold cmpE
              rw [if_neg (fun z => hN1 z.2)]
            have hle : p2 + 1 ≤ t.2 := by omega
            have hsk := sk_le hle
            have hsg := sk_ge t (p2 + 1)
            rw [show ((p2 : Int) + 1) = ((p2 + 1 : Nat) : Int) by omega]
            have h3 := h2.at hle
            refine r_callV1 rfl rfl (by first | assumption | exact hs.o rfl) rfl (c_makes (q := p2) (by omega) hs h3 (fun hn => ?_) (fun hn => ?_))
            · refine r_if_y rfl (by decide) ?_
              refine r_iload_n rfl rfl ?_
              refine r_bipush rfl ?_
              refine r_icmp_ne rfl (by omega) (by omega) (fun h118 => ?_) (fun h118 => ?_)
              · exfalso; omega
              · refine r_iload_n rfl rfl ?_
                refine r_if_y rfl (by decide) ?_
                refine r_iconst rfl ?_
                refine r_goto rfl ?_
                refine r_istore (L' := [_, _, _, _, _]) rfl rfl rfl ?_
                refine r_aload_n rfl rfl ?_
                refine r_callV0 rfl rfl (by first | assumption | exact hs.o rfl) rfl (c_sum (by omega) hs hT htx (h3.made hn) (by simp only [List.length_append, List.length_map]; omega) ⟨fun p5 n5 m5 e5 f5 hf5 h5 => ?_, fun e5 he5 f5 hf5 h9 hr9 => ?_⟩)
                · refine r_if_y rfl (by decide) ?_
                  refine r_aload_n rfl rfl ?_
                  refine r_bipush rfl ?_
                  refine r_iload rfl rfl ?_
                  refine r_iadd rfl ?_
                  refine r_iconst rfl ?_
                  refine r_callV2 rfl rfl (by first | assumption | exact hs.o rfl) rfl (c_puts (by omega) hs htx h5 (by obtain ⟨g4, g5, g6⟩ := dSum_ok t _ _ _ _ _ e5; have hp5 := h5.1.le; simp only [List.length_append, List.length_map]; omega) (fun f6 hf6 h6 => ?_))
                  refine r_iconst rfl ?_
                  refine r_zret rfl (by omega) ?_
                  refine K.1 _ _ _ (by show bnd _ _ = _; rw [e2, bnd_inr, if_neg (by rw [hop]; decide), if_pos hn, hen, e5, bnd_inr]) f6 ((((hf2.up (by omega)).up (by omega)).trans hf5).trans hf6) ?_
                  rw [hop, List.map_append, List.map_append, ← List.append_assoc, ← List.append_assoc]
                  exact h6
                · refine r_if_n rfl (by decide) ?_
                  refine r_iconst rfl ?_
                  refine r_zret rfl (by omega) ?_
                  exact K.2 _ (by show bnd _ _ = _; rw [e2, bnd_inr, if_neg (by rw [hop]; decide), if_pos hn, hen, he5]; rfl) f5 (((hf2.up (by omega)).up (by omega)).trans hf5) h9 hr9
            · refine r_if_n rfl (by decide) ?_
              refine r_iconst rfl ?_
              refine r_zret rfl (by omega) ?_
              exact K.2 _ (by show bnd _ _ = _; rw [e2, bnd_inr, if_neg (by rw [hop]; decide), if_neg hn]) _ ((hf2.up (by omega)).up (by omega)) (up2_same _ _ _ _) (err_rng hT hp2 (by omega))
          · refine r_iconst rfl ?_
            refine r_goto rfl ?_
            refine r_istore_n (L' := [_, _, _, _, _]) rfl rfl rfl ?_
            refine r_iload_n rfl rfl ?_
            refine r_if_n rfl (by decide) ?_
            refine r_aload_n rfl rfl ?_
            refine r_dupr rfl ?_
            refine r_getI rfl (by first | assumption | exact hs.o rfl) (up2_same _ _ _ _) ?_
            refine r_iconst rfl ?_
            refine r_iadd rfl ?_
            refine r_putI rfl (by first | assumption | exact hs.o rfl) ?_
            refine r_aload_n rfl rfl ?_
            refine r_iload_n rfl rfl ?_
            rw [up2_up2]
            have hN1 : isS t (p2 + 1) 61 = true := isS_iff.2 ⟨by omega, h82⟩
            have hop : cmpOp t p2 = 7 := by
              unfold cmpOp
              rw [if_pos hS, if_pos hN1]
            have hen : cmpE t p2 = p2 + 2 := by
              unfold cmpE
              rw [if_pos ⟨Or.inl hS, hN1⟩]
            have hle : p2 + 2 ≤ t.2 := by omega
            have hsk := sk_le hle
            have hsg := sk_ge t (p2 + 2)
            rw [show ((p2 : Int) + 1 + 1) = ((p2 + 2 : Nat) : Int) by omega]
            have h3 := h2.at hle
            refine r_callV1 rfl rfl (by first | assumption | exact hs.o rfl) rfl (c_makes (q := p2) (by omega) hs h3 (fun hn => ?_) (fun hn => ?_))
            · refine r_if_y rfl (by decide) ?_
              refine r_iload_n rfl rfl ?_
              refine r_bipush rfl ?_
              refine r_icmp_ne rfl (by omega) (by omega) (fun h118 => ?_) (fun h118 => ?_)
              · exfalso; omega
              · refine r_iload_n rfl rfl ?_
                refine r_if_n rfl (by decide) ?_
                refine r_iconst rfl ?_
                refine r_goto rfl ?_
                refine r_istore (L' := [_, _, _, _, _]) rfl rfl rfl ?_
                refine r_aload_n rfl rfl ?_
                refine r_callV0 rfl rfl (by first | assumption | exact hs.o rfl) rfl (c_sum (by omega) hs hT htx (h3.made hn) (by simp only [List.length_append, List.length_map]; omega) ⟨fun p5 n5 m5 e5 f5 hf5 h5 => ?_, fun e5 he5 f5 hf5 h9 hr9 => ?_⟩)
                · refine r_if_y rfl (by decide) ?_
                  refine r_aload_n rfl rfl ?_
                  refine r_bipush rfl ?_
                  refine r_iload rfl rfl ?_
                  refine r_iadd rfl ?_
                  refine r_iconst rfl ?_
                  refine r_callV2 rfl rfl (by first | assumption | exact hs.o rfl) rfl (c_puts (by omega) hs htx h5 (by obtain ⟨g4, g5, g6⟩ := dSum_ok t _ _ _ _ _ e5; have hp5 := h5.1.le; simp only [List.length_append, List.length_map]; omega) (fun f6 hf6 h6 => ?_))
                  refine r_iconst rfl ?_
                  refine r_zret rfl (by omega) ?_
                  refine K.1 _ _ _ (by show bnd _ _ = _; rw [e2, bnd_inr, if_neg (by rw [hop]; decide), if_pos hn, hen, e5, bnd_inr]) f6 ((((hf2.up (by omega)).up (by omega)).trans hf5).trans hf6) ?_
                  rw [hop, List.map_append, List.map_append, ← List.append_assoc, ← List.append_assoc]
                  exact h6
                · refine r_if_n rfl (by decide) ?_
                  refine r_iconst rfl ?_
                  refine r_zret rfl (by omega) ?_
                  exact K.2 _ (by show bnd _ _ = _; rw [e2, bnd_inr, if_neg (by rw [hop]; decide), if_pos hn, hen, he5]; rfl) f5 (((hf2.up (by omega)).up (by omega)).trans hf5) h9 hr9
            · refine r_if_n rfl (by decide) ?_
              refine r_iconst rfl ?_
              refine r_zret rfl (by omega) ?_
              exact K.2 _ (by show bnd _ _ = _; rw [e2, bnd_inr, if_neg (by rw [hop]; decide), if_neg hn]) _ ((hf2.up (by omega)).up (by omega)) (up2_same _ _ _ _) (err_rng hT hp2 (by omega))
    · refine r_iload_n rfl rfl ?_
      refine r_bipush rfl ?_
      refine r_icmp_eq rfl (by omega) (by omega) (fun h28 => ?_) (fun h28 => ?_)
      · have hS := (ch_iff hT (by omega)).1 h28
        have hTp := (isS_iff.1 hS).2
        have hlt := (isS_iff.1 hS).1
        have no : ∀ c : Int, c ≠ 61 → ¬ isS t p2 c = true := fun c hc z => hc ((isS_iff.1 z).2.symm.trans hTp)
        refine r_aload_n rfl rfl ?_
        refine r_dupr rfl ?_
        refine r_getI rfl (by first | assumption | exact hs.o rfl) (up2_same _ _ _ _) ?_
        refine r_iconst rfl ?_
        refine r_iadd rfl ?_
        refine r_putI rfl (by first | assumption | exact hs.o rfl) ?_
        refine r_iload_n rfl rfl ?_
        refine r_bipush rfl ?_
        refine r_icmp_eq rfl (by omega) (by omega) (fun h57 => ?_) (fun h57 => ?_)
        · refine r_iconst rfl ?_
          refine r_istore_n (L' := [_, _, _, _, _]) rfl rfl rfl ?_
          refine r_iload_n rfl rfl ?_
          refine r_if_y rfl (by decide) ?_
          refine r_aload_n rfl rfl ?_
          refine r_iload_n rfl rfl ?_
          rw [up2_up2]
          have hop : cmpOp t p2 = 8 := by
            unfold cmpOp
            rw [if_neg (no 60 (by decide)), if_pos hS]
          have hen : cmpE t p2 = p2 + 1 := by
            unfold cmpE
            rw [if_neg (fun z => by rcases z.1 with z | z; exact no 60 (by decide) z; exact no 62 (by decide) z)]
          have hle : p2 + 1 ≤ t.2 := by omega
          have hsk := sk_le hle
          have hsg := sk_ge t (p2 + 1)
          rw [show ((p2 : Int) + 1) = ((p2 + 1 : Nat) : Int) by omega]
          have h3 := h2.at hle
          refine r_callV1 rfl rfl (by first | assumption | exact hs.o rfl) rfl (c_makes (q := p2) (by omega) hs h3 (fun hn => ?_) (fun hn => ?_))
          · refine r_if_y rfl (by decide) ?_
            refine r_iload_n rfl rfl ?_
            refine r_bipush rfl ?_
            refine r_icmp_ne rfl (by omega) (by omega) (fun h118 => ?_) (fun h118 => ?_)
            · refine r_iload_n rfl rfl ?_
              refine r_bipush rfl ?_
              refine r_icmp_ne rfl (by omega) (by omega) (fun h136 => ?_) (fun h136 => ?_)
              · exfalso; omega
              · refine r_iconst rfl ?_
                refine r_goto rfl ?_
                refine r_istore (L' := [_, _, _, _, _]) rfl rfl rfl ?_
                refine r_aload_n rfl rfl ?_
                refine r_callV0 rfl rfl (by first | assumption | exact hs.o rfl) rfl (c_sum (by omega) hs hT htx (h3.made hn) (by simp only [List.length_append, List.length_map]; omega) ⟨fun p5 n5 m5 e5 f5 hf5 h5 => ?_, fun e5 he5 f5 hf5 h9 hr9 => ?_⟩)
                · refine r_if_y rfl (by decide) ?_
                  refine r_aload_n rfl rfl ?_
                  refine r_bipush rfl ?_
                  refine r_iload rfl rfl ?_
                  refine r_iadd rfl ?_
                  refine r_iconst rfl ?_
                  refine r_callV2 rfl rfl (by first | assumption | exact hs.o rfl) rfl (c_puts (by omega) hs htx h5 (by obtain ⟨g4, g5, g6⟩ := dSum_ok t _ _ _ _ _ e5; have hp5 := h5.1.le; simp only [List.length_append, List.length_map]; omega) (fun f6 hf6 h6 => ?_))
                  refine r_iconst rfl ?_
                  refine r_zret rfl (by omega) ?_
                  refine K.1 _ _ _ (by show bnd _ _ = _; rw [e2, bnd_inr, if_neg (by rw [hop]; decide), if_pos hn, hen, e5, bnd_inr]) f6 ((((hf2.up (by omega)).up (by omega)).trans hf5).trans hf6) ?_
                  rw [hop, List.map_append, List.map_append, ← List.append_assoc, ← List.append_assoc]
                  exact h6
                · refine r_if_n rfl (by decide) ?_
                  refine r_iconst rfl ?_
                  refine r_zret rfl (by omega) ?_
                  exact K.2 _ (by show bnd _ _ = _; rw [e2, bnd_inr, if_neg (by rw [hop]; decide), if_pos hn, hen, he5]; rfl) f5 (((hf2.up (by omega)).up (by omega)).trans hf5) h9 hr9
            · exfalso; omega
          · refine r_if_n rfl (by decide) ?_
            refine r_iconst rfl ?_
            refine r_zret rfl (by omega) ?_
            exact K.2 _ (by show bnd _ _ = _; rw [e2, bnd_inr, if_neg (by rw [hop]; decide), if_neg hn]) _ ((hf2.up (by omega)).up (by omega)) (up2_same _ _ _ _) (err_rng hT hp2 (by omega))
        · exfalso; omega
      · refine r_iload_n rfl rfl ?_
        refine r_bipush rfl ?_
        refine r_icmp_eq rfl (by omega) (by omega) (fun h34 => ?_) (fun h34 => ?_)
        · have hS := (ch_iff hT (by omega)).1 h34
          have hTp := (isS_iff.1 hS).2
          have hlt := (isS_iff.1 hS).1
          have no : ∀ c : Int, c ≠ 62 → ¬ isS t p2 c = true := fun c hc z => hc ((isS_iff.1 z).2.symm.trans hTp)
          refine r_aload_n rfl rfl ?_
          refine r_dupr rfl ?_
          refine r_getI rfl (by first | assumption | exact hs.o rfl) (up2_same _ _ _ _) ?_
          refine r_iconst rfl ?_
          refine r_iadd rfl ?_
          refine r_putI rfl (by first | assumption | exact hs.o rfl) ?_
          refine r_iload_n rfl rfl ?_
          refine r_bipush rfl ?_
          refine r_icmp_eq rfl (by omega) (by omega) (fun h57 => ?_) (fun h57 => ?_)
          · exfalso; omega
          · refine r_aload_n rfl rfl ?_
            rw [up2_up2]
            refine r_getI rfl (by first | assumption | exact hs.o rfl) (up2_same _ _ _ _) ?_
            refine r_aload_n rfl rfl ?_
            refine r_getI rfl (by first | assumption | exact hs.o rfl) ((up2_ne _ _ (by omega)).trans h2.1.mx.1) ?_
            refine r_icmp_ge rfl (by omega) (by omega) (fun h68 => ?_) (fun h68 => ?_)
            · refine r_iconst rfl ?_
              refine r_istore_n (L' := [_, _, _, _, _]) rfl rfl rfl ?_
              refine r_iload_n rfl rfl ?_
              refine r_if_y rfl (by decide) ?_
              refine r_aload_n rfl rfl ?_
              refine r_iload_n rfl rfl ?_
              have hN1 : ¬ isS t (p2 + 1) 61 = true := fun z => by have z1 := isS_iff.1 z; omega
              have hop : cmpOp t p2 = 10 := by
                unfold cmpOp
                rw [if_neg (no 60 (by decide)), if_neg (no 61 (by decide)), if_pos hS, if_neg hN1]
              have hen : cmpE t p2 = p2 + 1 := by
                unfold cmpE
                rw [if_neg (fun z => hN1 z.2)]
              have hle : p2 + 1 ≤ t.2 := by omega
              have hsk := sk_le hle
              have hsg := sk_ge t (p2 + 1)
              rw [show ((p2 : Int) + 1) = ((p2 + 1 : Nat) : Int) by omega]
              have h3 := h2.at hle
              refine r_callV1 rfl rfl (by first | assumption | exact hs.o rfl) rfl (c_makes (q := p2) (by omega) hs h3 (fun hn => ?_) (fun hn => ?_))
              · refine r_if_y rfl (by decide) ?_
                refine r_iload_n rfl rfl ?_
                refine r_bipush rfl ?_
                refine r_icmp_ne rfl (by omega) (by omega) (fun h118 => ?_) (fun h118 => ?_)
                · refine r_iload_n rfl rfl ?_
                  refine r_bipush rfl ?_
                  refine r_icmp_ne rfl (by omega) (by omega) (fun h136 => ?_) (fun h136 => ?_)
                  · refine r_iload_n rfl rfl ?_
                    refine r_if_y rfl (by decide) ?_
                    refine r_iconst rfl ?_
                    refine r_istore (L' := [_, _, _, _, _]) rfl rfl rfl ?_
                    refine r_aload_n rfl rfl ?_
                    refine r_callV0 rfl rfl (by first | assumption | exact hs.o rfl) rfl (c_sum (by omega) hs hT htx (h3.made hn) (by simp only [List.length_append, List.length_map]; omega) ⟨fun p5 n5 m5 e5 f5 hf5 h5 => ?_, fun e5 he5 f5 hf5 h9 hr9 => ?_⟩)
                    · refine r_if_y rfl (by decide) ?_
                      refine r_aload_n rfl rfl ?_
                      refine r_bipush rfl ?_
                      refine r_iload rfl rfl ?_
                      refine r_iadd rfl ?_
                      refine r_iconst rfl ?_
                      refine r_callV2 rfl rfl (by first | assumption | exact hs.o rfl) rfl (c_puts (by omega) hs htx h5 (by obtain ⟨g4, g5, g6⟩ := dSum_ok t _ _ _ _ _ e5; have hp5 := h5.1.le; simp only [List.length_append, List.length_map]; omega) (fun f6 hf6 h6 => ?_))
                      refine r_iconst rfl ?_
                      refine r_zret rfl (by omega) ?_
                      refine K.1 _ _ _ (by show bnd _ _ = _; rw [e2, bnd_inr, if_neg (by rw [hop]; decide), if_pos hn, hen, e5, bnd_inr]) f6 ((((hf2.up (by omega)).up (by omega)).trans hf5).trans hf6) ?_
                      rw [hop, List.map_append, List.map_append, ← List.append_assoc, ← List.append_assoc]
                      exact h6
                    · refine r_if_n rfl (by decide) ?_
                      refine r_iconst rfl ?_
                      refine r_zret rfl (by omega) ?_
                      exact K.2 _ (by show bnd _ _ = _; rw [e2, bnd_inr, if_neg (by rw [hop]; decide), if_pos hn, hen, he5]; rfl) f5 (((hf2.up (by omega)).up (by omega)).trans hf5) h9 hr9
                  · exfalso; omega
                · exfalso; omega
              · refine r_if_n rfl (by decide) ?_
                refine r_iconst rfl ?_
                refine r_zret rfl (by omega) ?_
                exact K.2 _ (by show bnd _ _ = _; rw [e2, bnd_inr, if_neg (by rw [hop]; decide), if_neg hn]) _ ((hf2.up (by omega)).up (by omega)) (up2_same _ _ _ _) (err_rng hT hp2 (by omega))
            · refine r_aload_n rfl rfl ?_
              refine r_getR rfl (by first | assumption | exact hs.o rfl) (by first | assumption | exact hs.g rfl) ?_
              refine r_aload_n rfl rfl ?_
              refine r_getI rfl (by first | assumption | exact hs.o rfl) (up2_same _ _ _ _) ?_
              refine r_bald rfl (by first | assumption | exact hs.a rfl) (by omega) (by omega) (show _ = t.1 (p2 + 1) from by rw [show ((p2 : Int) + 1).toNat = p2 + 1 by omega, up2_o _ _ (by omega)]; exact h2.1.mx.2 (p2 + 1) (by omega)) ?_
              refine r_bipush rfl ?_
              refine r_icmp_ne rfl (by have := hT.2 (p2 + 1) (by omega); omega) (by omega) (fun h82 => ?_) (fun h82 => ?_)
              · refine r_iconst rfl ?_
                refine r_istore_n (L' := [_, _, _, _, _]) rfl rfl rfl ?_
                refine r_iload_n rfl rfl ?_
                refine r_if_y rfl (by decide) ?_
                refine r_aload_n rfl rfl ?_
                refine r_iload_n rfl rfl ?_
                have hN1 : ¬ isS t (p2 + 1) 61 = true := fun z => by have z1 := isS_iff.1 z; omega
                have hop : cmpOp t p2 = 10 := by
                  unfold cmpOp
                  rw [if_neg (no 60 (by decide)), if_neg (no 61 (by decide)), if_pos hS, if_neg hN1]
                have hen : cmpE t p2 = p2 + 1 := by
                  unfold cmpE
                  rw [if_neg (fun z => hN1 z.2)]
                have hle : p2 + 1 ≤ t.2 := by omega
                have hsk := sk_le hle
                have hsg := sk_ge t (p2 + 1)
                rw [show ((p2 : Int) + 1) = ((p2 + 1 : Nat) : Int) by omega]
                have h3 := h2.at hle
                refine r_callV1 rfl rfl (by first | assumption | exact hs.o rfl) rfl (c_makes (q := p2) (by omega) hs h3 (fun hn => ?_) (fun hn => ?_))
                · refine r_if_y rfl (by decide) ?_
                  refine r_iload_n rfl rfl ?_
                  refine r_bipush rfl ?_
                  refine r_icmp_ne rfl (by omega) (by omega) (fun h118 => ?_) (fun h118 => ?_)
                  · refine r_iload_n rfl rfl ?_
                    refine r_bipush rfl ?_
                    refine r_icmp_ne rfl (by omega) (by omega) (fun h136 => ?_) (fun h136 => ?_)
                    · refine r_iload_n rfl rfl ?_
                      refine r_if_y rfl (by decide) ?_
                      refine r_iconst rfl ?_
                      refine r_istore (L' := [_, _, _, _, _]) rfl rfl rfl ?_
                      refine r_aload_n rfl rfl ?_
                      refine r_callV0 rfl rfl (by first | assumption | exact hs.o rfl) rfl (c_sum (by omega) hs hT htx (h3.made hn) (by simp only [List.length_append, List.length_map]; omega) ⟨fun p5 n5 m5 e5 f5 hf5 h5 => ?_, fun e5 he5 f5 hf5 h9 hr9 => ?_⟩)
                      · refine r_if_y rfl (by decide) ?_
                        refine r_aload_n rfl rfl ?_
                        refine r_bipush rfl ?_
                        refine r_iload rfl rfl ?_
                        refine r_iadd rfl ?_
                        refine r_iconst rfl ?_
                        refine r_callV2 rfl rfl (by first | assumption | exact hs.o rfl) rfl (c_puts (by omega) hs htx h5 (by obtain ⟨g4, g5, g6⟩ := dSum_ok t _ _ _ _ _ e5; have hp5 := h5.1.le; simp only [List.length_append, List.length_map]; omega) (fun f6 hf6 h6 => ?_))
                        refine r_iconst rfl ?_
                        refine r_zret rfl (by omega) ?_
                        refine K.1 _ _ _ (by show bnd _ _ = _; rw [e2, bnd_inr, if_neg (by rw [hop]; decide), if_pos hn, hen, e5, bnd_inr]) f6 ((((hf2.up (by omega)).up (by omega)).trans hf5).trans hf6) ?_
                        rw [hop, List.map_append, List.map_append, ← List.append_assoc, ← List.append_assoc]
                        exact h6
                      · refine r_if_n rfl (by decide) ?_
                        refine r_iconst rfl ?_
                        refine r_zret rfl (by omega) ?_
                        exact K.2 _ (by show bnd _ _ = _; rw [e2, bnd_inr, if_neg (by rw [hop]; decide), if_pos hn, hen, he5]; rfl) f5 (((hf2.up (by omega)).up (by omega)).trans hf5) h9 hr9
                    · exfalso; omega
                  · exfalso; omega
                · refine r_if_n rfl (by decide) ?_
                  refine r_iconst rfl ?_
                  refine r_zret rfl (by omega) ?_
                  exact K.2 _ (by show bnd _ _ = _; rw [e2, bnd_inr, if_neg (by rw [hop]; decide), if_neg hn]) _ ((hf2.up (by omega)).up (by omega)) (up2_same _ _ _ _) (err_rng hT hp2 (by omega))
              · refine r_iconst rfl ?_
                refine r_goto rfl ?_
                refine r_istore_n (L' := [_, _, _, _, _]) rfl rfl rfl ?_
                refine r_iload_n rfl rfl ?_
                refine r_if_n rfl (by decide) ?_
                refine r_aload_n rfl rfl ?_
                refine r_dupr rfl ?_
                refine r_getI rfl (by first | assumption | exact hs.o rfl) (up2_same _ _ _ _) ?_
                refine r_iconst rfl ?_
                refine r_iadd rfl ?_
                refine r_putI rfl (by first | assumption | exact hs.o rfl) ?_
                refine r_aload_n rfl rfl ?_
                refine r_iload_n rfl rfl ?_
                rw [up2_up2]
                have hN1 : isS t (p2 + 1) 61 = true := isS_iff.2 ⟨by omega, h82⟩
                have hop : cmpOp t p2 = 9 := by
                  unfold cmpOp
                  rw [if_neg (no 60 (by decide)), if_neg (no 61 (by decide)), if_pos hS, if_pos hN1]
                have hen : cmpE t p2 = p2 + 2 := by
                  unfold cmpE
                  rw [if_pos ⟨Or.inr hS, hN1⟩]
                have hle : p2 + 2 ≤ t.2 := by omega
                have hsk := sk_le hle
                have hsg := sk_ge t (p2 + 2)
                rw [show ((p2 : Int) + 1 + 1) = ((p2 + 2 : Nat) : Int) by omega]
                have h3 := h2.at hle
                refine r_callV1 rfl rfl (by first | assumption | exact hs.o rfl) rfl (c_makes (q := p2) (by omega) hs h3 (fun hn => ?_) (fun hn => ?_))
                · refine r_if_y rfl (by decide) ?_
                  refine r_iload_n rfl rfl ?_
                  refine r_bipush rfl ?_
                  refine r_icmp_ne rfl (by omega) (by omega) (fun h118 => ?_) (fun h118 => ?_)
                  · refine r_iload_n rfl rfl ?_
                    refine r_bipush rfl ?_
                    refine r_icmp_ne rfl (by omega) (by omega) (fun h136 => ?_) (fun h136 => ?_)
                    · refine r_iload_n rfl rfl ?_
                      refine r_if_n rfl (by decide) ?_
                      refine r_iconst rfl ?_
                      refine r_goto rfl ?_
                      refine r_istore (L' := [_, _, _, _, _]) rfl rfl rfl ?_
                      refine r_aload_n rfl rfl ?_
                      refine r_callV0 rfl rfl (by first | assumption | exact hs.o rfl) rfl (c_sum (by omega) hs hT htx (h3.made hn) (by simp only [List.length_append, List.length_map]; omega) ⟨fun p5 n5 m5 e5 f5 hf5 h5 => ?_, fun e5 he5 f5 hf5 h9 hr9 => ?_⟩)
                      · refine r_if_y rfl (by decide) ?_
                        refine r_aload_n rfl rfl ?_
                        refine r_bipush rfl ?_
                        refine r_iload rfl rfl ?_
                        refine r_iadd rfl ?_
                        refine r_iconst rfl ?_
                        refine r_callV2 rfl rfl (by first | assumption | exact hs.o rfl) rfl (c_puts (by omega) hs htx h5 (by obtain ⟨g4, g5, g6⟩ := dSum_ok t _ _ _ _ _ e5; have hp5 := h5.1.le; simp only [List.length_append, List.length_map]; omega) (fun f6 hf6 h6 => ?_))
                        refine r_iconst rfl ?_
                        refine r_zret rfl (by omega) ?_
                        refine K.1 _ _ _ (by show bnd _ _ = _; rw [e2, bnd_inr, if_neg (by rw [hop]; decide), if_pos hn, hen, e5, bnd_inr]) f6 ((((hf2.up (by omega)).up (by omega)).trans hf5).trans hf6) ?_
                        rw [hop, List.map_append, List.map_append, ← List.append_assoc, ← List.append_assoc]
                        exact h6
                      · refine r_if_n rfl (by decide) ?_
                        refine r_iconst rfl ?_
                        refine r_zret rfl (by omega) ?_
                        exact K.2 _ (by show bnd _ _ = _; rw [e2, bnd_inr, if_neg (by rw [hop]; decide), if_pos hn, hen, he5]; rfl) f5 (((hf2.up (by omega)).up (by omega)).trans hf5) h9 hr9
                    · exfalso; omega
                  · exfalso; omega
                · refine r_if_n rfl (by decide) ?_
                  refine r_iconst rfl ?_
                  refine r_zret rfl (by omega) ?_
                  exact K.2 _ (by show bnd _ _ = _; rw [e2, bnd_inr, if_neg (by rw [hop]; decide), if_neg hn]) _ ((hf2.up (by omega)).up (by omega)) (up2_same _ _ _ _) (err_rng hT hp2 (by omega))
        · refine r_aload_n rfl rfl ?_
          refine r_iconst rfl ?_
          refine r_iload_n rfl rfl ?_
          refine r_callV2 rfl rfl (by first | assumption | exact hs.o rfl) rfl (c_fails (p := p2) (by omega) hs h2.now.2.1 ?_)
          refine r_zret rfl (by omega) ?_
          have hz : cmpOp t p2 = 0 := by
            unfold cmpOp
            rw [if_neg (fun z => h22 ((ch_iff hT (by omega)).2 z)), if_neg (fun z => h28 ((ch_iff hT (by omega)).2 z)), if_neg (fun z => h34 ((ch_iff hT (by omega)).2 z))]
          exact K.2 _ (by show bnd _ _ = _; rw [e2, bnd_inr, if_pos hz]) _ ((hf2.up (by omega)).up (by omega)) (up2_same _ _ _ _) (err_rng hT hp2 (by omega))
  · refine r_if_n rfl (by decide) ?_
    refine r_iconst rfl ?_
    refine r_zret rfl (by omega) ?_
    exact K.2 _ (by show bnd _ _ = _; rw [he2]; rfl) f2 hf2 h9 hr9
end MSUM
