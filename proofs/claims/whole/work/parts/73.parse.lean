/-! What is read: how long it may be, of what kind -/
theorem bnd_inl (e : Int) (k : Nat → Nat → List Tk → PR) : bnd (.inl e) k = .inl e := rfl
theorem bnd_inr (p n : Nat) (l : List Tk) (k : Nat → Nat → List Tk → PR) : bnd (.inr (p, n, l)) k = k p n l := rfl
theorem addL_inl (l : List Tk) (e : Int) : addL l (.inl e) = .inl e := rfl
theorem addL_inr (l : List Tk) (p n : Nat) (m : List Tk) : addL l (.inr (p, n, m)) = .inr (p, n, l ++ m) := rfl
theorem addL_bnd (l : List Tk) (r : PR) (k : Nat → Nat → List Tk → PR) : addL l (bnd r k) = bnd r (fun p n m => addL l (k p n m)) := by
  rcases r with e | ⟨p, n, m⟩ <;> rfl
theorem bnd_addL (l : List Tk) (r : PR) (k : Nat → Nat → List Tk → PR) : bnd (addL l r) k = bnd r (fun p n m => k p n (l ++ m)) := by
  rcases r with e | ⟨p, n, m⟩ <;> rfl
theorem addL_addL (l l' : List Tk) (r : PR) : addL l (addL l' r) = addL (l ++ l') r := by
  rcases r with e | ⟨p, n, m⟩
  · rfl
  · simp only [addL_inr, List.append_assoc]
theorem addL_nil (r : PR) : addL [] r = r := by
  rcases r with e | ⟨p, n, m⟩ <;> rfl
theorem bnd_bnd (r : PR) (k k' : Nat → Nat → List Tk → PR) : bnd (bnd r k) k' = bnd r (fun p n m => bnd (k p n m) k') := by
  rcases r with e | ⟨p, n, m⟩ <;> rfl
def Ok1 (b : Bool) (p n : Nat) (r : PR) : Prop := ∀ p' n' m, r = .inr (p', n', m) → m.length + p ≤ p' ∧ nvs m + n ≤ n' ∧ ∀ s, chk m s = some (b :: s)
def OkR (b : Bool) (p n : Nat) (r : PR) : Prop := ∀ p' n' m, r = .inr (p', n', m) → m.length + p ≤ p' ∧ nvs m + n ≤ n' ∧ ∀ s, chk m (b :: s) = some (b :: s)
theorem Ok1.inl {b : Bool} {p n : Nat} (e : Int) : Ok1 b p n (.inl e) := fun _ _ _ h => by cases h
theorem OkR.inl {b : Bool} {p n : Nat} (e : Int) : OkR b p n (.inl e) := fun _ _ _ h => by cases h
theorem OkR.nil {b : Bool} (p n : Nat) : OkR b p n (.inr (p, n, [])) := fun p' n' m h => by
  cases h
  exact ⟨by simp, by simp [nvs], fun s => rfl⟩
theorem Ok1.mono {b : Bool} {p q n : Nat} {r : PR} (h : Ok1 b p n r) (hq : q ≤ p) : Ok1 b q n r := fun p' n' m e => by
  obtain ⟨h1, h2, h3⟩ := h p' n' m e
  exact ⟨by omega, h2, h3⟩
/-- one, and more of its kind behind it -/
theorem Ok1.more {b : Bool} {p n : Nat} {r : PR} {k : Nat → Nat → PR} (h : Ok1 b p n r) (hk : ∀ p1 n1, OkR b p1 n1 (k p1 n1)) : Ok1 b p n (bnd r (fun p1 n1 l1 => addL l1 (k p1 n1))) := by
  intro p' n' m e
  rcases r with e0 | ⟨p1, n1, l1⟩
  · cases e
  · rw [bnd_inr] at e
    rcases hk1 : k p1 n1 with e0 | ⟨p2, n2, l2⟩
    · rw [hk1] at e; cases e
    · rw [hk1, addL_inr] at e
      cases e
      obtain ⟨a1, a2, a3⟩ := h p1 n1 l1 rfl
      obtain ⟨b1, b2, b3⟩ := hk p1 n1 p' n' l2 hk1
      refine ⟨by rw [List.length_append]; omega, by rw [nvs_app]; omega, fun s => chk_cat _ _ _ _ _ (a3 s) (b3 s)⟩
/-- a sign between two -/
theorem OkR.op {b : Bool} {p n o : Nat} {r : PR} {k : Nat → Nat → PR} (h : Ok1 b (p + 1) n r) (ho : 2 ≤ o) (ht : ∀ s, tk1 (o, 0) (b :: b :: s) = some (b :: s)) (hk : ∀ p1 n1, OkR b p1 n1 (k p1 n1)) : OkR b p n (bnd r (fun p1 n1 l1 => addL (l1 ++ [(o, 0)]) (k p1 n1))) := by
  intro p' n' m e
  rcases r with e0 | ⟨p1, n1, l1⟩
  · cases e
  · rw [bnd_inr] at e
    rcases hk1 : k p1 n1 with e0 | ⟨p2, n2, l2⟩
    · rw [hk1] at e; cases e
    · rw [hk1, addL_inr] at e
      cases e
      obtain ⟨a1, a2, a3⟩ := h p1 n1 l1 rfl
      obtain ⟨b1, b2, b3⟩ := hk p1 n1 p' n' l2 hk1
      refine ⟨by rw [List.length_append, List.length_append]; simp only [List.length_cons, List.length_nil]; omega, ?_, fun s => ?_⟩
      · rw [nvs_app, nvs_app]
        have : nvs [((o, 0) : Tk)] = 0 := by
          simp only [nvs]
          rw [if_neg (by omega)]
        omega
      · refine chk_cat _ _ _ _ _ (chk_cat _ _ _ _ _ (a3 (b :: s)) ?_) (b3 s)
        simp only [chk]
        rw [ht s]
section PARSE
variable {t : Tx}
theorem mulOp_or (t : Tx) (p : Nat) : mulOp t p = 0 ∨ ((mulOp t p = 4 ∨ mulOp t p = 5 ∨ mulOp t p = 14) ∧ p < t.2) := by
  unfold mulOp
  split
  · rename_i h; exact Or.inr ⟨by omega, (isS_iff.1 h).1⟩
  · split
    · rename_i h; exact Or.inr ⟨by omega, (isS_iff.1 h).1⟩
    · split
      · rename_i h; exact Or.inr ⟨by omega, (isS_iff.1 h).1⟩
      · exact Or.inl rfl
theorem addOp_or (t : Tx) (p : Nat) : addOp t p = 0 ∨ ((addOp t p = 2 ∨ addOp t p = 3) ∧ p < t.2) := by
  unfold addOp
  split
  · rename_i h; exact Or.inr ⟨by omega, (isS_iff.1 h).1⟩
  · split
    · rename_i h; exact Or.inr ⟨by omega, (isS_iff.1 h).1⟩
    · exact Or.inl rfl
theorem cmpOp_or (t : Tx) (p : Nat) : cmpOp t p = 0 ∨ (COp (cmpOp t p) ∧ p < t.2) := by
  unfold cmpOp COp
  split
  · rename_i h
    refine Or.inr ⟨?_, (isS_iff.1 h).1⟩
    split <;> omega
  · split
    · rename_i h; exact Or.inr ⟨by omega, (isS_iff.1 h).1⟩
    · split
      · rename_i h
        refine Or.inr ⟨?_, (isS_iff.1 h).1⟩
        split <;> omega
      · exact Or.inl rfl
theorem cmpE_ge (t : Tx) (p : Nat) : p + 1 ≤ cmpE t p := by
  unfold cmpE
  split <;> omega
theorem dValue_ok (t : Tx) (p n : Nat) : Ok1 false p n (dValue t p n) := by
  unfold dValue
  split
  · rename_i hD
    split
    · rename_i h5
      split
      · intro p' n' m e
        cases e
        have h1 := dE_gt hD
        have h2 := sk_ge t (dE t p)
        have h3 := num_ok h5
        refine ⟨by simp only [List.length_cons, List.length_nil]; omega, by simp [nvs]; omega, fun s => ?_⟩
        simp only [chk, tk1]
        rw [if_pos trivial, if_pos h3]
      · exact Ok1.inl _
    · exact Ok1.inl _
  · split
    · exact Ok1.inl _
    · rename_i hw
      split
      · intro p' n' m e
        cases e
        have hL : isL t p = true := by
          cases hl : isL t p with
          | true => rfl
          | false => rw [woL_L wVals 0 wVals_ne hl] at hw; exact absurd hw (by decide)
        have h1 := lE_gt hL
        have h2 := sk_ge t (lE t p)
        have h3 := woL_rng (t := t) (p := p) wVals 0
        have h4 : wVals.length = 10 := rfl
        refine ⟨by simp only [List.length_cons, List.length_nil]; omega, by simp [nvs]; omega, fun s => ?_⟩
        simp only [chk, tk1]
        rw [if_neg (by decide), if_pos trivial, if_pos (by omega)]
      · exact Ok1.inl _
theorem tk_A {o : Nat} (h : AOp o) (s : List Bool) : tk1 (o, 0) (false :: false :: s) = some (false :: s) := by
  unfold tk1
  unfold AOp at h
  rw [if_neg (by show ¬ o = 0; omega), if_neg (by show ¬ o = 1; omega), if_neg (by show ¬ o = 11; omega)]
  simp only [if_true]
  rw [if_pos ⟨h, trivial, trivial⟩]
theorem tk_C {o : Nat} (h : COp o) (s : List Bool) : tk1 (o, 0) (false :: false :: s) = some (true :: s) := by
  unfold tk1
  have h' := h
  unfold COp at h'
  rw [if_neg (by show ¬ o = 0; omega), if_neg (by show ¬ o = 1; omega), if_neg (by show ¬ o = 11; omega)]
  simp only [if_true]
  rw [if_neg (fun q => by have := q.1; unfold AOp at this; omega), if_pos ⟨h, trivial, trivial⟩]
theorem tk_B {o : Nat} (h : o = 12 ∨ o = 13) (s : List Bool) : tk1 (o, 0) (true :: true :: s) = some (true :: s) := by
  unfold tk1
  rw [if_neg (by show ¬ o = 0; omega), if_neg (by show ¬ o = 1; omega), if_neg (by show ¬ o = 11; omega)]
  simp
  omega
theorem dTermR_ok (t : Tx) : ∀ k p n, OkR false p n (dTermR t k p n) := by
  intro k
  induction k with
  | zero => intro p n; exact OkR.inl _
  | succ k ih =>
    intro p n
    unfold dTermR
    have ho := mulOp_or t p
    split
    · exact OkR.nil p n
    · exact OkR.op ((dValue_ok t _ n).mono (sk_ge t _)) (by omega) (fun s => tk_A (by unfold AOp; omega) s) ih
theorem dTerm_ok (t : Tx) (p n : Nat) : Ok1 false p n (dTerm t p n) := (dValue_ok t p n).more (fun p1 n1 => dTermR_ok t 401 p1 n1)
theorem dSumR_ok (t : Tx) : ∀ k p n, OkR false p n (dSumR t k p n) := by
  intro k
  induction k with
  | zero => intro p n; exact OkR.inl _
  | succ k ih =>
    intro p n
    unfold dSumR
    have ho := addOp_or t p
    split
    · exact OkR.nil p n
    · exact OkR.op ((dTerm_ok t _ n).mono (sk_ge t _)) (by omega) (fun s => tk_A (by unfold AOp; omega) s) ih
theorem dSum_ok (t : Tx) (p n : Nat) : Ok1 false p n (dSum t p n) := (dTerm_ok t p n).more (fun p1 n1 => dSumR_ok t 401 p1 n1)
theorem dCmp_ok (t : Tx) (p n : Nat) : Ok1 true p n (dCmp t p n) := by
  unfold dCmp
  intro p' n' m e
  have h1 := dSum_ok t p n
  rcases hs : dSum t p n with e0 | ⟨p1, n1, l1⟩
  · rw [hs] at e; cases e
  · rw [hs, bnd_inr] at e
    have ho := cmpOp_or t p1
    split at e
    · cases e
    · rename_i hc
      split at e
      · have h2 := dSum_ok t (sk t (cmpE t p1)) (n1 + 1)
        rcases hs2 : dSum t (sk t (cmpE t p1)) (n1 + 1) with e0 | ⟨p2, n2, l2⟩
        · rw [hs2] at e; cases e
        · rw [hs2, bnd_inr] at e
          cases e
          obtain ⟨a1, a2, a3⟩ := h1 p1 n1 l1 hs
          obtain ⟨b1, b2, b3⟩ := h2 p' n' l2 hs2
          have h3 := cmpE_ge t p1
          have h4 := sk_ge t (cmpE t p1)
          have ho2 := (ho.resolve_left hc).1
          refine ⟨by simp only [List.length_append, List.length_cons, List.length_nil]; omega, ?_, fun s => ?_⟩
          · rw [nvs_app, nvs_app]
            have : nvs [((cmpOp t p1, 0) : Tk)] = 0 := by
              simp only [nvs]
              unfold COp at ho2
              rw [if_neg (by omega)]
            omega
          · refine chk_cat _ _ _ _ _ (a3 s) (chk_cat _ _ _ _ _ (b3 (false :: s)) ?_)
            simp only [chk]
            rw [tk_C ho2 s]
      · cases e
theorem dAndR_ok {F : Nat → Nat → PR} (hF : ∀ p n, Ok1 true p n (F p n)) : ∀ k p n, OkR true p n (dAndR t F k p n) := by
  intro k
  induction k with
  | zero => intro p n; exact OkR.inl _
  | succ k ih =>
    intro p n
    unfold dAndR
    split
    · rename_i hw
      have h1 := wIs_len hw
      have h2 := sk_ge t (lE t p)
      exact OkR.op ((hF _ n).mono (by have : wAnd.length = 3 := rfl; omega)) (by omega) (fun s => tk_B (by omega) s) ih
    · exact OkR.nil p n
theorem dConj_ok {F : Nat → Nat → PR} (hF : ∀ p n, Ok1 true p n (F p n)) (p n : Nat) : Ok1 true p n (dConj t F p n) := (hF p n).more (fun p1 n1 => dAndR_ok hF 401 p1 n1)
theorem dOrR_ok {F : Nat → Nat → PR} (hF : ∀ p n, Ok1 true p n (F p n)) : ∀ k p n, OkR true p n (dOrR t F k p n) := by
  intro k
  induction k with
  | zero => intro p n; exact OkR.inl _
  | succ k ih =>
    intro p n
    unfold dOrR
    split
    · rename_i hw
      have h1 := wIs_len hw
      have h2 := sk_ge t (lE t p)
      exact OkR.op ((dConj_ok hF _ n).mono (by have : wOr.length = 2 := rfl; omega)) (by omega) (fun s => tk_B (by omega) s) ih
    · exact OkR.nil p n
theorem dTest_ok {F : Nat → Nat → PR} (hF : ∀ p n, Ok1 true p n (F p n)) (p n : Nat) : Ok1 true p n (dTest t F p n) := (dConj_ok hF p n).more (fun p1 n1 => dOrR_ok hF 401 p1 n1)
theorem dFact_ok (t : Tx) : ∀ k p n, Ok1 true p n (dFact t k p n) := by
  intro k
  induction k with
  | zero =>
    intro p n
    unfold dFact
    split
    · exact Ok1.inl _
    · exact dCmp_ok t p n
  | succ k ih =>
    intro p n
    unfold dFact
    split
    · rename_i hw
      have h1 := wIs_len hw
      have h2 := sk_ge t (lE t p)
      have h3 : wNot.length = 3 := rfl
      have h := ih (sk t (lE t p)) n
      intro p' n' m e
      rcases hs : dFact t k (sk t (lE t p)) n with e0 | ⟨p1, n1, l1⟩
      · rw [hs] at e; cases e
      · rw [hs, bnd_inr] at e
        cases e
        obtain ⟨a1, a2, a3⟩ := h p' n' l1 hs
        refine ⟨by rw [List.length_append]; simp only [List.length_cons, List.length_nil]; omega, ?_, fun s => chk_cat _ _ _ _ _ (a3 s) rfl⟩
        rw [nvs_app]
        exact a2
    · split
      · rename_i hS
        have h2 := sk_ge t (p + 1)
        have h := dTest_ok (t := t) ih (sk t (p + 1)) n
        intro p' n' m e
        rcases hs : dTest t (dFact t k) (sk t (p + 1)) n with e0 | ⟨p1, n1, l1⟩
        · rw [hs] at e; cases e
        · rw [hs, bnd_inr] at e
          split at e
          · cases e
            obtain ⟨a1, a2, a3⟩ := h p1 n' m hs
            have h3 := sk_ge t (p1 + 1)
            exact ⟨by omega, a2, a3⟩
          · cases e
      · exact dCmp_ok t p n
def oL (o : Nat) : List Tk := if o = 0 then [] else [(o, 0)]
/-- what is left of a SUM: a TERM's rest, the sign that is due, the SUM's rest -/
def sR (t : Tx) (k k' o p n : Nat) : PR := bnd (dTermR t k p n) (fun p1 n1 l1 => addL (l1 ++ oL o) (dSumR t k' p1 n1))
theorem sR_mul {k k' o p n : Nat} (h : mulOp t p ≠ 0) : sR t (k + 1) k' o p n = bnd (dValue t (sk t (p + 1)) n) (fun p1 n1 l1 => addL (l1 ++ [(mulOp t p, 0)]) (sR t k k' o p1 n1)) := by
  unfold sR
  rw [show dTermR t (k + 1) p n = _ from if_neg h, bnd_bnd]
  congr 1
  funext p1 n1 l1
  rw [bnd_addL, addL_bnd]
  congr 1
  funext p2 n2 l2
  rw [addL_addL, List.append_assoc]
theorem sR_add {k k' o p n : Nat} (h0 : mulOp t p = 0) (h : addOp t p ≠ 0) : sR t (k + 1) (k' + 1) o p n = bnd (dValue t (sk t (p + 1)) n) (fun p1 n1 l1 => addL (oL o ++ l1) (sR t 401 k' (addOp t p) p1 n1)) := by
  unfold sR
  rw [show dTermR t (k + 1) p n = _ from if_pos h0, bnd_inr, show dSumR t (k' + 1) p n = _ from if_neg h]
  unfold dTerm
  rw [bnd_bnd, addL_bnd]
  congr 1
  funext p1 n1 l1
  rw [bnd_addL, addL_bnd, addL_bnd]
  congr 1
  funext p2 n2 l2
  rw [addL_addL, addL_addL]
  congr 1
  rw [show oL (addOp t p) = [(addOp t p, 0)] from if_neg h]
  simp only [List.nil_append, List.append_assoc]
theorem sR_end {k k' o p n : Nat} (h0 : mulOp t p = 0) (h : addOp t p = 0) : sR t (k + 1) (k' + 1) o p n = .inr (p, n, oL o) := by
  unfold sR
  rw [show dTermR t (k + 1) p n = _ from if_pos h0, bnd_inr, show dSumR t (k' + 1) p n = _ from if_pos h, addL_inr, List.append_nil]
  rfl
theorem dSum_sR (t : Tx) (p n : Nat) : dSum t p n = bnd (dValue t p n) (fun p1 n1 l1 => addL l1 (sR t 401 401 0 p1 n1)) := by
  unfold dSum dTerm sR
  rw [bnd_bnd]
  congr 1
  funext p1 n1 l1
  rw [bnd_addL, addL_bnd]
  congr 1
  funext p2 n2 l2
  rw [addL_addL, show oL 0 = [] from rfl, List.append_nil]
def bL (b : Bool) : List Tk := if b = true then [(13, 0)] else []
/-- what is left of a TEST -/
def tR (t : Tx) (F : Nat → Nat → PR) (k k' : Nat) (b : Bool) (p n : Nat) : PR := bnd (dAndR t F k p n) (fun p1 n1 l1 => addL (l1 ++ bL b) (dOrR t F k' p1 n1))
theorem and_or {p : Nat} (h : wIs t p wAnd = true) : ¬ wIs t p wOr = true := fun q => by
  have h1 := wIs_len h
  have h2 := wIs_len q
  rw [h1] at h2
  have h3 : wAnd.length = 3 := rfl
  have h4 : wOr.length = 2 := rfl
  omega
theorem tR_and {F : Nat → Nat → PR} {k k' p n : Nat} {b : Bool} (h : wIs t p wAnd = true) : tR t F (k + 1) k' b p n = bnd (F (sk t (lE t p)) n) (fun p1 n1 l1 => addL (l1 ++ [(12, 0)]) (tR t F k k' b p1 n1)) := by
  unfold tR
  rw [show dAndR t F (k + 1) p n = _ from if_pos h, bnd_bnd]
  congr 1
  funext p1 n1 l1
  rw [bnd_addL, addL_bnd]
  congr 1
  funext p2 n2 l2
  rw [addL_addL, List.append_assoc]
theorem tR_or {F : Nat → Nat → PR} {k k' p n : Nat} {b : Bool} (h0 : ¬ wIs t p wAnd = true) (h : wIs t p wOr = true) : tR t F (k + 1) (k' + 1) b p n = bnd (F (sk t (lE t p)) n) (fun p1 n1 l1 => addL (bL b ++ l1) (tR t F 401 k' true p1 n1)) := by
  unfold tR
  rw [show dAndR t F (k + 1) p n = _ from if_neg h0, bnd_inr, show dOrR t F (k' + 1) p n = _ from if_pos h]
  unfold dConj
  rw [bnd_bnd, addL_bnd]
  congr 1
  funext p1 n1 l1
  rw [bnd_addL, addL_bnd, addL_bnd]
  congr 1
  funext p2 n2 l2
  rw [addL_addL, addL_addL]
  congr 1
  rw [show bL true = [(13, 0)] from rfl]
  simp only [List.nil_append, List.append_assoc]
theorem tR_end {F : Nat → Nat → PR} {k k' p n : Nat} {b : Bool} (h0 : ¬ wIs t p wAnd = true) (h : ¬ wIs t p wOr = true) : tR t F (k + 1) (k' + 1) b p n = .inr (p, n, bL b) := by
  unfold tR
  rw [show dAndR t F (k + 1) p n = _ from if_neg h0, bnd_inr, show dOrR t F (k' + 1) p n = _ from if_neg h, addL_inr, List.append_nil]
  rfl
theorem dTest_tR (t : Tx) (F : Nat → Nat → PR) (p n : Nat) : dTest t F p n = bnd (F p n) (fun p1 n1 l1 => addL l1 (tR t F 401 401 false p1 n1)) := by
  unfold dTest dConj tR
  rw [bnd_bnd]
  congr 1
  funext p1 n1 l1
  rw [bnd_addL, addL_bnd]
  congr 1
  funext p2 n2 l2
  rw [addL_addL, show bL false = [] from rfl, List.append_nil]
end PARSE
