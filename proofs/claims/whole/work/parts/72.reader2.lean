/-! The class's Reader: words, numbers, the beginning of a text -/
def wo (t : Tx) (p e : Nat) : List Int → Nat → Nat → Bool → Int
  | [], w, q, b => if b = true ∧ q = e then (w : Int) else -1
  | c :: r, w, q, b => if c = 32 then (if b = true ∧ q = e then (w : Int) else wo t p e r (w + 1) p true) else wo t p e r w (q + 1) (b && decide (q < e ∧ t.1 q = c))
def mte (t : Tx) (e : Nat) : Nat → List Int → Bool
  | _, [] => true
  | q, c :: w => decide (q < e ∧ t.1 q = c) && mte t e (q + 1) w
theorem wo_word {t : Tx} {p e : Nat} : ∀ (w r : List Int) (i q : Nat) (b : Bool), (∀ c ∈ w, c ≠ 32) → wo t p e (w ++ r) i q b = wo t p e r i (q + w.length) (b && mte t e q w) := by
  intro w
  induction w with
  | nil => intro r i q b _; simp [mte]
  | cons c w ih =>
    intro r i q b h
    show wo t p e (c :: (w ++ r)) i q b = _
    rw [show wo t p e (c :: (w ++ r)) i q b = _ from if_neg (h c List.mem_cons_self), ih r i (q + 1) _ (fun c q => h c (List.mem_cons_of_mem _ q))]
    rw [show q + 1 + w.length = q + (c :: w).length by simp only [List.length_cons]; omega]
    rw [Bool.and_assoc]
    rfl
theorem mte_mt {t : Tx} {e : Nat} : ∀ (w : List Int) (q : Nat), q + w.length = e → mte t e q w = mt t q w := by
  intro w
  induction w with
  | nil => intro q _; rfl
  | cons c w ih =>
    intro q h
    simp only [List.length_cons] at h
    unfold mte mt
    rw [ih (q + 1) (by omega)]
    congr 1
    apply decide_eq_decide.2
    exact ⟨fun z => z.2, fun z => ⟨by omega, z⟩⟩
theorem wo_is {t : Tx} {p : Nat} (w : List Int) : ((true && mte t (lE t p) p w) = true ∧ p + w.length = lE t p) ↔ wIs t p w = true := by
  unfold wIs
  rw [Bool.true_and, Bool.and_eq_true, decide_eq_true_iff]
  refine ⟨fun ⟨h1, h2⟩ => ⟨h2.symm, by rw [← mte_mt w p h2]; exact h1⟩, fun ⟨h1, h2⟩ => ⟨by rw [mte_mt w p h1.symm]; exact h2, h1.symm⟩⟩
theorem wo_cut {t : Tx} {p : Nat} (w r : List Int) (i : Nat) (h : ∀ c ∈ w, c ≠ 32) : wo t p (lE t p) (w ++ 32 :: r) i p true = if wIs t p w = true then (i : Int) else wo t p (lE t p) r (i + 1) p true := by
  rw [wo_word w _ i p true h, show wo t p (lE t p) (32 :: r) i (p + w.length) (true && mte t (lE t p) p w) = _ from if_pos rfl]
  by_cases hw : wIs t p w = true
  · rw [if_pos hw, if_pos ((wo_is w).2 hw)]
  · rw [if_neg hw, if_neg (fun z => hw ((wo_is w).1 z))]
theorem wo_last {t : Tx} {p : Nat} (w : List Int) (i : Nat) (h : ∀ c ∈ w, c ≠ 32) : wo t p (lE t p) w i p true = if wIs t p w = true then (i : Int) else -1 := by
  have := wo_word (t := t) (p := p) (e := lE t p) w [] i p true h
  rw [List.append_nil] at this
  rw [this]
  unfold wo
  by_cases hw : wIs t p w = true
  · rw [if_pos hw, if_pos ((wo_is w).2 hw)]
  · rw [if_neg hw, if_neg (fun z => hw ((wo_is w).1 z))]
def wsOf : Nat → List (List Int)
  | 0 => wShows
  | 1 => [wNot]
  | 2 => [wAnd, wOr]
  | 3 => [wGo]
  | 4 => [wIf]
  | _ => wVals
theorem wo_all (t : Tx) (p j : Nat) : wo t p (lE t p) (zstr j) 0 p true = woL t p (wsOf j) 0 := by
  match j with
  | 0 =>
    rw [show zstr 0 = wShow ++ 32 :: (wRoad ++ 32 :: (wCar ++ 32 :: wGap)) from rfl, wo_cut _ _ _ (by decide), wo_cut _ _ _ (by decide), wo_cut _ _ _ (by decide), wo_last _ _ (by decide)]
    rfl
  | 1 => rw [show zstr 1 = wNot from rfl, wo_last _ _ (by decide)]; rfl
  | 2 => rw [show zstr 2 = wAnd ++ 32 :: wOr from rfl, wo_cut _ _ _ (by decide), wo_last _ _ (by decide)]; rfl
  | 3 => rw [show zstr 3 = wGo from rfl, wo_last _ _ (by decide)]; rfl
  | 4 => rw [show zstr 4 = wIf from rfl, wo_last _ _ (by decide)]; rfl
  | k + 5 =>
    rw [show zstr (k + 5) = wCar ++ 32 :: (wRoad ++ 32 :: (wFuel ++ 32 :: (wWait ++ 32 :: (wBeh ++ 32 :: (wOn ++ 32 :: (wOff ++ 32 :: (wRnd ++ 32 :: (wEvery ++ 32 :: wStep)))))))) from rfl]
    rw [wo_cut _ _ _ (by decide), wo_cut _ _ _ (by decide), wo_cut _ _ _ (by decide), wo_cut _ _ _ (by decide), wo_cut _ _ _ (by decide), wo_cut _ _ _ (by decide), wo_cut _ _ _ (by decide), wo_cut _ _ _ (by decide), wo_cut _ _ _ (by decide), wo_last _ _ (by decide)]
    rfl
theorem wsOf_ne : ∀ j, ∀ w ∈ wsOf j, w ≠ [] := by
  intro j
  match j with
  | 0 => decide
  | 1 => decide
  | 2 => decide
  | 3 => decide
  | 4 => decide
  | k + 5 => exact wVals_ne
theorem zstr_rng : ∀ j, ∀ x ∈ zstr j, 0 ≤ x ∧ x ≤ 127 := by
  intro j
  match j with
  | 0 => decide
  | 1 => decide
  | 2 => decide
  | 3 => decide
  | 4 => decide
  | k + 5 => show ∀ x ∈ zstr 5, 0 ≤ x ∧ x ≤ 127; decide
theorem zstr_len : ∀ j, (zstr j).length ≤ 60 := by
  intro j
  match j with
  | 0 => decide
  | 1 => decide
  | 2 => decide
  | 3 => decide
  | 4 => decide
  | k + 5 => show (zstr 5).length ≤ 60; decide
theorem getD_rng {j k : Nat} (h : k < (zstr j).length) : 0 ≤ (zstr j).getD k 0 ∧ (zstr j).getD k 0 ≤ 127 := by
  rw [List.getD_eq_getElem?_getD, List.getElem?_eq_getElem h]
  exact zstr_rng j _ (List.getElem_mem h)
theorem drop_getD {l : List Int} {k : Nat} (h : k < l.length) : l.drop k = l.getD k 0 :: l.drop (k + 1) := by
  rw [List.getD_eq_getElem?_getD, List.getElem?_eq_getElem h]
  exact List.drop_eq_getElem_cons h
section READER2
variable {d : Nat} {σ : ZS} {f : ZF} {g : ZG} {Q : ZQ} {R p q : Nat} {t : Tx} {e : Int}
theorem l_woE (hd1 : 4 ≤ d) {j : Nat} (hj : j < 6) {x2 x3 x4 : ZV} {k : Int} (hk : k = ((zstr j).length : Int) + 1) (K : Q (some (zi (-1))) σ f g) : ZWp d zt21 23 [zr (some R), zr (some (zX + j)), x2, x3, x4, zi k] [] σ f g Q := by
  have hl := zstr_len j
  have ej : zX + j - zX = j := by omega
  refine r_iload rfl rfl ?_
  refine r_aload_n rfl rfl ?_
  refine r_slength rfl ⟨by omega, by omega⟩ rfl (by omega) ?_
  refine r_icmp_gt rfl (by omega) (by rw [ej]; omega) (fun h29 => ?_) (fun h29 => ?_)
  · refine r_iconst rfl ?_
    refine r_iret rfl ?_
    exact K
  · rw [ej] at h29; omega
theorem l_wo (hd1 : 4 ≤ d) (ho : RdO σ g R) (h : Rdr f R t p) (h6 : f R 6 = ((lE t p : Nat) : Int)) (hT : TxOk t) (hp : p ≤ t.2) {j : Nat} (hj : j < 6) {W : Int} (K : Q (some (zi W)) σ f g) (k : Nat) (hk : k ≤ (zstr j).length) (wn q : Nat) (hq : p ≤ q ∧ q ≤ p + k) (hw : wn ≤ k) (b : Bool) (x : Int) (hx : x = if b = true then 1 else 0) (e : wo t p (lE t p) ((zstr j).drop k) wn q b = W) : ZWp d zt21 23 [zr (some R), zr (some (zX + j)), zi (wn : Int), zi (q : Int), zi x, zi (k : Int)] [] σ f g Q := by
  have hl := zstr_len j
  have ej : zX + j - zX = j := by omega
  have hT1 := hT.1
  have hLl := lE_le hp
  refine r_iload rfl rfl ?_
  refine r_aload_n rfl rfl ?_
  refine r_slength rfl ⟨by omega, by omega⟩ rfl (by omega) ?_
  refine r_icmp_gt rfl (by omega) (by rw [ej]; omega) (fun h29 => ?_) (fun h29 => ?_)
  · rw [ej] at h29; omega
  · refine r_iload rfl rfl ?_
    refine r_aload_n rfl rfl ?_
    refine r_slength rfl ⟨by omega, by omega⟩ rfl (by omega) ?_
    refine r_icmp_eq rfl (by omega) (by rw [ej]; omega) (fun h38 => ?_) (fun h38 => ?_)
    · refine r_iload rfl rfl ?_
      refine r_if_eq rfl (by rw [hx]; split <;> omega) (fun h54 => ?_) (fun h54 => ?_)
      · refine r_iinc (L' := [_, _, _, _, _, _]) rfl rfl rfl ?_
        refine r_aload_n rfl rfl ?_
        refine r_getI rfl ho.1 h.2.2.1 ?_
        refine r_istore_n (L' := [_, _, _, _, _, _]) rfl rfl rfl ?_
        refine r_iconst rfl ?_
        refine r_istore (L' := [_, _, _, _, _, _]) rfl rfl rfl ?_
        refine r_goto rfl ?_
        refine r_iinc (L' := [_, _, _, _, _, _]) rfl rfl rfl ?_
        refine r_goto rfl ?_
        rw [ej] at h38
        rw [show k = (zstr j).length by omega, List.drop_length] at e
        have hb : b = false := by cases b with
          | false => rfl
          | true => rw [hx] at h54; exact absurd h54 (by decide)
        rw [show wo t p (lE t p) [] wn q b = -1 from if_neg (fun z => by rw [hb] at z; cases z.1)] at e
        rw [← e] at K
        exact l_woE hd1 hj (by omega) K
      · refine r_iload_n rfl rfl ?_
        refine r_aload_n rfl rfl ?_
        refine r_getI rfl ho.1 h6 ?_
        refine r_icmp_ne rfl (by omega) (by omega) (fun h62 => ?_) (fun h62 => ?_)
        · refine r_iinc (L' := [_, _, _, _, _, _]) rfl rfl rfl ?_
          refine r_aload_n rfl rfl ?_
          refine r_getI rfl ho.1 h.2.2.1 ?_
          refine r_istore_n (L' := [_, _, _, _, _, _]) rfl rfl rfl ?_
          refine r_iconst rfl ?_
          refine r_istore (L' := [_, _, _, _, _, _]) rfl rfl rfl ?_
          refine r_goto rfl ?_
          refine r_iinc (L' := [_, _, _, _, _, _]) rfl rfl rfl ?_
          refine r_goto rfl ?_
          rw [ej] at h38
          rw [show k = (zstr j).length by omega, List.drop_length] at e
          rw [show wo t p (lE t p) [] wn q b = -1 from if_neg (fun z => by omega)] at e
          rw [← e] at K
          exact l_woE hd1 hj (by omega) K
        · refine r_iload_n rfl rfl ?_
          refine r_iret rfl ?_
          rw [ej] at h38
          rw [show k = (zstr j).length by omega, List.drop_length] at e
          have hb : b = true := by cases b with
            | true => rfl
            | false => exact absurd hx h54
          rw [show wo t p (lE t p) [] wn q b = (wn : Int) from if_pos ⟨hb, by omega⟩] at e
          rw [← e] at K
          exact K
    · refine r_aload_n rfl rfl ?_
      refine r_iload rfl rfl ?_
      refine r_scharAt rfl ⟨by omega, by omega⟩ (by rw [ej] at h38 ⊢; omega) rfl (by omega) ?_
      refine r_bipush rfl ?_
      refine r_icmp_ne rfl (by rw [ej] at h38 ⊢; have := getD_rng (j := j) (k := k) (by omega); rw [Int.toNat_natCast]; omega) (by omega) (fun h49 => ?_) (fun h49 => ?_)
      · refine r_iload rfl rfl ?_
        refine r_if_eq rfl (by rw [hx]; split <;> omega) (fun h83 => ?_) (fun h83 => ?_)
        · refine r_iconst rfl ?_
          refine r_istore (L' := [_, _, _, _, _, _]) rfl rfl rfl ?_
          refine r_iinc (L' := [_, _, _, _, _, _]) rfl rfl rfl ?_
          refine r_iinc (L' := [_, _, _, _, _, _]) rfl rfl rfl ?_
          refine r_goto rfl ?_
          have hlt : k < (zstr j).length := by rw [ej] at h38 h29; omega
          rw [ej] at h38 h49
          rw [Int.toNat_natCast] at h49
          rw [drop_getD (l := zstr j) (k := k) (by omega)] at e
          have hb : b = false := by cases b with
            | false => rfl
            | true => rw [hx] at h83; exact absurd h83 (by decide)
          rw [show wo t p (lE t p) ((zstr j).getD k 0 :: (zstr j).drop (k + 1)) wn q b = _ from if_neg h49] at e
          exact l_wo hd1 ho h h6 hT hp hj K (k + 1) (by omega) wn (q + 1) (by omega) (by omega) _ 0 (by rw [hb, Bool.false_and]; rfl) e
        · refine r_iload_n rfl rfl ?_
          refine r_aload_n rfl rfl ?_
          refine r_getI rfl ho.1 h6 ?_
          refine r_icmp_ge rfl (by omega) (by omega) (fun h91 => ?_) (fun h91 => ?_)
          · refine r_iconst rfl ?_
            refine r_istore (L' := [_, _, _, _, _, _]) rfl rfl rfl ?_
            refine r_iinc (L' := [_, _, _, _, _, _]) rfl rfl rfl ?_
            refine r_iinc (L' := [_, _, _, _, _, _]) rfl rfl rfl ?_
            refine r_goto rfl ?_
            have hlt : k < (zstr j).length := by rw [ej] at h38 h29; omega
            rw [ej] at h38 h49
            rw [Int.toNat_natCast] at h49
            rw [drop_getD (l := zstr j) (k := k) (by omega)] at e
            rw [show wo t p (lE t p) ((zstr j).getD k 0 :: (zstr j).drop (k + 1)) wn q b = _ from if_neg h49] at e
            exact l_wo hd1 ho h h6 hT hp hj K (k + 1) (by omega) wn (q + 1) (by omega) (by omega) _ 0 (by rw [show decide (q < lE t p ∧ t.1 q = (zstr j).getD k 0) = false from decide_eq_false_iff_not.2 (by omega), Bool.and_false]; rfl) e
          · refine r_aload_n rfl rfl ?_
            refine r_getR rfl ho.1 ho.2.2 ?_
            refine r_iload_n rfl rfl ?_
            refine r_bald rfl ho.2.1 (by omega) (by omega) ((zix (n := q) (by omega)).trans (h.1.2 q (by omega))) ?_
            refine r_aload_n rfl rfl ?_
            refine r_iload rfl rfl ?_
            refine r_scharAt rfl ⟨by omega, by omega⟩ (by rw [ej] at h38 ⊢; omega) rfl (by omega) ?_
            refine r_icmp_ne rfl (by have := hT.2 q (by omega); omega) (by rw [ej] at h38 ⊢; have := getD_rng (j := j) (k := k) (by omega); rw [Int.toNat_natCast]; omega) (fun h106 => ?_) (fun h106 => ?_)
            · refine r_iconst rfl ?_
              refine r_istore (L' := [_, _, _, _, _, _]) rfl rfl rfl ?_
              refine r_iinc (L' := [_, _, _, _, _, _]) rfl rfl rfl ?_
              refine r_iinc (L' := [_, _, _, _, _, _]) rfl rfl rfl ?_
              refine r_goto rfl ?_
              have hlt : k < (zstr j).length := by rw [ej] at h38 h29; omega
              rw [ej] at h38 h49
              rw [Int.toNat_natCast] at h49
              rw [drop_getD (l := zstr j) (k := k) (by omega)] at e
              rw [ej, Int.toNat_natCast] at h106
              rw [show wo t p (lE t p) ((zstr j).getD k 0 :: (zstr j).drop (k + 1)) wn q b = _ from if_neg h49] at e
              exact l_wo hd1 ho h h6 hT hp hj K (k + 1) (by omega) wn (q + 1) (by omega) (by omega) _ 0 (by rw [show decide (q < lE t p ∧ t.1 q = (zstr j).getD k 0) = false from decide_eq_false_iff_not.2 (fun z => h106 z.2), Bool.and_false]; rfl) e
            · refine r_iconst rfl ?_
              refine r_goto rfl ?_
              refine r_istore (L' := [_, _, _, _, _, _]) rfl rfl rfl ?_
              refine r_iinc (L' := [_, _, _, _, _, _]) rfl rfl rfl ?_
              refine r_iinc (L' := [_, _, _, _, _, _]) rfl rfl rfl ?_
              refine r_goto rfl ?_
              have hlt : k < (zstr j).length := by rw [ej] at h38 h29; omega
              rw [ej] at h38 h49
              rw [Int.toNat_natCast] at h49
              rw [drop_getD (l := zstr j) (k := k) (by omega)] at e
              rw [ej, Int.toNat_natCast] at h106
              have hb : b = true := by cases b with
                | true => rfl
                | false => exact absurd hx h83
              rw [show wo t p (lE t p) ((zstr j).getD k 0 :: (zstr j).drop (k + 1)) wn q b = _ from if_neg h49] at e
              exact l_wo hd1 ho h h6 hT hp hj K (k + 1) (by omega) wn (q + 1) (by omega) (by omega) _ 1 (by rw [hb, show decide (q < lE t p ∧ t.1 q = (zstr j).getD k 0) = true from decide_eq_true_iff.2 ⟨by omega, h106⟩]; rfl) e
      · refine r_iload rfl rfl ?_
        refine r_if_eq rfl (by rw [hx]; split <;> omega) (fun h54 => ?_) (fun h54 => ?_)
        · refine r_iinc (L' := [_, _, _, _, _, _]) rfl rfl rfl ?_
          refine r_aload_n rfl rfl ?_
          refine r_getI rfl ho.1 h.2.2.1 ?_
          refine r_istore_n (L' := [_, _, _, _, _, _]) rfl rfl rfl ?_
          refine r_iconst rfl ?_
          refine r_istore (L' := [_, _, _, _, _, _]) rfl rfl rfl ?_
          refine r_goto rfl ?_
          refine r_iinc (L' := [_, _, _, _, _, _]) rfl rfl rfl ?_
          refine r_goto rfl ?_
          have hlt : k < (zstr j).length := by rw [ej] at h38 h29; omega
          rw [ej] at h38 h49
          rw [Int.toNat_natCast] at h49
          rw [drop_getD (l := zstr j) (k := k) (by omega)] at e
          have hb : b = false := by cases b with
            | false => rfl
            | true => rw [hx] at h54; exact absurd h54 (by decide)
          rw [show wo t p (lE t p) ((zstr j).getD k 0 :: (zstr j).drop (k + 1)) wn q b = _ from (if_pos h49).trans (if_neg (fun z => by rw [hb] at z; cases z.1))] at e
          exact l_wo hd1 ho h h6 hT hp hj K (k + 1) (by omega) (wn + 1) p (by omega) (by omega) true 1 rfl e
        · refine r_iload_n rfl rfl ?_
          refine r_aload_n rfl rfl ?_
          refine r_getI rfl ho.1 h6 ?_
          refine r_icmp_ne rfl (by omega) (by omega) (fun h62 => ?_) (fun h62 => ?_)
          · refine r_iinc (L' := [_, _, _, _, _, _]) rfl rfl rfl ?_
            refine r_aload_n rfl rfl ?_
            refine r_getI rfl ho.1 h.2.2.1 ?_
            refine r_istore_n (L' := [_, _, _, _, _, _]) rfl rfl rfl ?_
            refine r_iconst rfl ?_
            refine r_istore (L' := [_, _, _, _, _, _]) rfl rfl rfl ?_
            refine r_goto rfl ?_
            refine r_iinc (L' := [_, _, _, _, _, _]) rfl rfl rfl ?_
            refine r_goto rfl ?_
            have hlt : k < (zstr j).length := by rw [ej] at h38 h29; omega
            rw [ej] at h38 h49
            rw [Int.toNat_natCast] at h49
            rw [drop_getD (l := zstr j) (k := k) (by omega)] at e
            rw [show wo t p (lE t p) ((zstr j).getD k 0 :: (zstr j).drop (k + 1)) wn q b = _ from (if_pos h49).trans (if_neg (fun z => by omega))] at e
            exact l_wo hd1 ho h h6 hT hp hj K (k + 1) (by omega) (wn + 1) p (by omega) (by omega) true 1 rfl e
          · refine r_iload_n rfl rfl ?_
            refine r_iret rfl ?_
            have hlt : k < (zstr j).length := by rw [ej] at h38 h29; omega
            rw [ej] at h38 h49
            rw [Int.toNat_natCast] at h49
            rw [drop_getD (l := zstr j) (k := k) (by omega)] at e
            have hb : b = true := by cases b with
              | true => rfl
              | false => exact absurd hx h54
            rw [show wo t p (lE t p) ((zstr j).getD k 0 :: (zstr j).drop (k + 1)) wn q b = (wn : Int) from (if_pos h49).trans (if_pos ⟨hb, by omega⟩)] at e
            rw [← e] at K
            exact K
termination_by (zstr j).length - k
theorem k_wordOf (hd : 5 ≤ d) (ho : RdO σ g R) (h : Rdr f R t p) (hT : TxOk t) (hp : p ≤ t.2) {j : Nat} (hj : j < 6) (K : Q (some (zi (woL t p (wsOf j) 0))) σ f g) : ZCt d 21 [zr (some R), zr (some (zX + j))] σ f g Q := by
  refine ZCt.of' (L0 := [_, _, _, _, _, _]) (by omega) rfl rfl rfl (fun d hd1 => ?_)
  refine r_aload_n rfl rfl ?_
  refine r_getI rfl ho.1 h.2.2.2.2.1 ?_
  refine r_iconst rfl ?_
  refine r_icmp_eq rfl (by have := kd_rng t p; omega) (by omega) (fun h5 => ?_) (fun h5 => ?_)
  · refine r_iconst rfl ?_
    refine r_istore_n (L' := [_, _, _, _, _, _]) rfl rfl rfl ?_
    refine r_aload_n rfl rfl ?_
    refine r_getI rfl ho.1 h.2.2.1 ?_
    refine r_istore_n (L' := [_, _, _, _, _, _]) rfl rfl rfl ?_
    refine r_iconst rfl ?_
    refine r_istore (L' := [_, _, _, _, _, _]) rfl rfl rfl ?_
    refine r_iconst rfl ?_
    refine r_istore (L' := [_, _, _, _, _, _]) rfl rfl rfl ?_
    have hl := kd_L.1 h5
    exact l_wo (by omega) ho h (h.2.2.2.1.trans (by rw [tE_L hl])) hT hp hj K 0 (by omega) 0 p (by omega) (by omega) true 1 rfl (by rw [List.drop_zero]; exact wo_all t p j)
  · refine r_iconst rfl ?_
    refine r_iret rfl ?_
    rw [woL_L _ _ (wsOf_ne j) (by cases hl : isL t p with
      | false => rfl
      | true => exact absurd (kd_L.2 hl) h5)] at K
    exact K
theorem k_wordOfF (hd : 1 ≤ d) (ho : RdO σ g R) (hF : RdF f R e) {x : Option Nat} (K : Q (some (zi (-1))) σ f g) : ZCt d 21 [zr (some R), zr x] σ f g Q := by
  refine ZCt.of' (L0 := [_, _, _, _, _, _]) (by omega) rfl rfl rfl (fun d hd1 => ?_)
  refine r_aload_n rfl rfl ?_
  refine r_getI rfl ho.1 hF.2.2 ?_
  refine r_iconst rfl ?_
  refine r_icmp_eq rfl (by omega) (by omega) (fun h5 => ?_) (fun h5 => ?_)
  · exact absurd h5 (by decide)
  · refine r_iconst rfl ?_
    refine r_iret rfl ?_
    exact K
theorem num_low {t : Tx} {p : Nat} : ∀ k, (∀ i, i < k → 48 ≤ t.1 (p + i) ∧ t.1 (p + i) ≤ 57) → 0 ≤ num t p k ∧ num t p k < 10 ^ k := by
  intro k
  induction k with
  | zero => intro _; exact ⟨Int.le_refl 0, by show (0 : Int) < 10 ^ 0; decide⟩
  | succ k ih =>
    intro h
    have h1 := ih (fun i hi => h i (by omega))
    have h2 := h k (by omega)
    unfold num
    rw [show (10 : Int) ^ (k + 1) = 10 ^ k * 10 from Int.pow_succ 10 k]
    omega
/-- a number of at most five signs -/
theorem num_ok {t : Tx} {p : Nat} (h : dE t p - p ≤ 5) : 0 ≤ num t p (dE t p - p) ∧ num t p (dE t p - p) ≤ 99999 := by
  have h1 := num_low (t := t) (p := p) (dE t p - p) (fun i hi => (isD_iff.1 (rE_in (P := isD t) (n := t.2) (p := p) (i := p + i) (by omega) (by show p + i < dE t p; omega))).2)
  refine ⟨h1.1, ?_⟩
  have h2 : (10 : Int) ^ (dE t p - p) ≤ 100000 := by
    have : dE t p - p = 0 ∨ dE t p - p = 1 ∨ dE t p - p = 2 ∨ dE t p - p = 3 ∨ dE t p - p = 4 ∨ dE t p - p = 5 := by omega
    rcases this with q | q | q | q | q | q <;> rw [q] <;> decide
  omega
theorem dNum_no {lo hi : Int} {bar : Int → Bool} (h : ¬ isD t p = true) : dNum t lo hi bar p = .inl (err p 0) := if_neg h
theorem dNum_bad {lo hi : Int} {bar : Int → Bool} (h : isD t p = true) (hb : ¬ (dE t p - p ≤ 5 ∧ (lo ≤ num t p (dE t p - p) ∧ num t p (dE t p - p) ≤ hi) ∧ bar (num t p (dE t p - p)) = false)) : dNum t lo hi bar p = .inl (err p 1) := (if_pos h).trans (if_neg hb)
theorem dNum_yes {lo hi : Int} {bar : Int → Bool} (h : isD t p = true) (hb : dE t p - p ≤ 5 ∧ (lo ≤ num t p (dE t p - p) ∧ num t p (dE t p - p) ≤ hi) ∧ bar (num t p (dE t p - p)) = false) : dNum t lo hi bar p = .inr (sk t (dE t p), num t p (dE t p - p)) := (if_pos h).trans (if_pos hb)
/-- bits that bar numbers -/
def Bar (bb hi : Int) (bar : Int → Bool) : Prop := ∀ v : Int, 0 ≤ v → v ≤ hi → (v < 32 → (z_and (z_shr bb v) 1 = 1 ↔ bar v = true)) ∧ (32 ≤ v → bar v = false)
theorem z_shr0 : ∀ v : Nat, v < 32 → z_and (z_shr 0 (v : Int)) 1 = 0 := by decide +kernel
theorem Bar.zero (hi : Int) : Bar 0 hi (fun _ => false) := fun v h0 _ => ⟨fun h => by
  obtain ⟨n, rfl⟩ := Int.eq_ofNat_of_zero_le h0
  rw [z_shr0 n (by omega)]
  exact ⟨fun q => absurd q (by decide), fun q => by cases q⟩, fun _ => rfl⟩
theorem Bar.bits {bb hi : Int} {P : Nat → Bool} {bar : Int → Bool} (h : Bits bb P) (hh : hi < 20) (e : ∀ c : Nat, (c : Int) ≤ hi → P c = bar (c : Int)) : Bar bb hi bar := fun v h0 h1 => ⟨fun _ => by
  obtain ⟨n, rfl⟩ := Int.eq_ofNat_of_zero_le h0
  rw [h.test (by omega), e n h1]
  cases bar (n : Int) <;> decide, fun q => by omega⟩
theorem k_takeNumber (hd : 3 ≤ d) (ho : RdO σ g R) (h : Rdr f R t p) (hT : TxOk t) (hp : p ≤ t.2) {lo hi bb : Int} (hl : 0 ≤ lo ∧ lo ≤ 100) (hh : -1 ≤ hi ∧ hi ≤ 100) {bar : Int → Bool} (hbar : Bar bb hi bar) (k1 : ∀ p1 v, dNum t lo hi bar p = .inr (p1, v) → ∀ f', Fr1 R f f' → Rdr f' R t p1 → Q (some (zi v)) σ f' g) (k2 : ∀ e, dNum t lo hi bar p = .inl e → ∀ f', Fr1 R f f' → RdF f' R e → Q (some (zi 0)) σ f' g) : ZCt d 23 [zr (some R), zi lo, zi hi, zi bb] σ f g Q := by
  refine ZCt.of' (L0 := [_, _, _, _, _, _]) (by omega) rfl rfl rfl (fun d hd1 => ?_)
  refine r_aload_n rfl rfl ?_
  refine r_getI rfl ho.1 h.2.2.2.2.1 ?_
  refine r_iconst rfl ?_
  refine r_icmp_eq rfl (by have := kd_rng t p; omega) (by omega) (fun h5 => ?_) (fun h5 => ?_)
  · refine r_aload_n rfl rfl ?_
    have hD := kd_D.1 h5
    have hv := h.2.2.2.2.2.2 h5
    rw [tE_D hD] at hv
    refine r_getI rfl ho.1 hv ?_
    refine r_istore (L' := [_, _, _, _, _, _]) rfl rfl rfl ?_
    refine r_aload_n rfl rfl ?_
    have hge := dE_ge t p
    refine r_callV0 rfl rfl ho.1 rfl (k_isTooLong (by omega) ho h hT hp (fun hlong => ?_) (fun hlong => ?_))
    · refine r_if_y rfl (by decide) ?_
      refine r_iconst rfl ?_
      refine r_istore (L' := [_, _, _, _, _, _]) rfl rfl rfl ?_
      refine r_iload rfl rfl ?_
      refine r_if_y rfl (by decide) ?_
      refine r_aload_n rfl rfl ?_
      refine r_iconst rfl ?_
      refine r_callV1 rfl rfl ho.1 rfl (k_refuse (by omega) ho h (by have := hT.1; omega) (by omega) (fun f1 hf1 hF => ?_))
      refine r_iconst rfl ?_
      refine r_iret rfl ?_
      exact k2 _ (dNum_bad hD (fun z => by
        first | (rw [tE_D hD] at hlong; omega) | omega | (have q1 := ((hbar _ (num_ok z.1).1 (by omega)).1 (by omega)).1 h66; rw [q1] at z; cases z.2.2))) f1 hf1 hF
    · refine r_if_n rfl (by decide) ?_
      refine r_iload rfl rfl ?_
      refine r_iload_n rfl rfl ?_
      refine r_icmp_lt rfl (by rw [tE_D hD] at hlong; have := num_ok (t := t) (p := p) (by omega); omega) (by omega) (fun h31 => ?_) (fun h31 => ?_)
      · refine r_iconst rfl ?_
        refine r_istore (L' := [_, _, _, _, _, _]) rfl rfl rfl ?_
        refine r_iload rfl rfl ?_
        refine r_if_y rfl (by decide) ?_
        refine r_aload_n rfl rfl ?_
        refine r_iconst rfl ?_
        refine r_callV1 rfl rfl ho.1 rfl (k_refuse (by omega) ho h (by have := hT.1; omega) (by omega) (fun f1 hf1 hF => ?_))
        refine r_iconst rfl ?_
        refine r_iret rfl ?_
        exact k2 _ (dNum_bad hD (fun z => by
          first | (rw [tE_D hD] at hlong; omega) | omega | (have q1 := ((hbar _ (num_ok z.1).1 (by omega)).1 (by omega)).1 h66; rw [q1] at z; cases z.2.2))) f1 hf1 hF
      · refine r_iload rfl rfl ?_
        refine r_iload_n rfl rfl ?_
        refine r_icmp_gt rfl (by rw [tE_D hD] at hlong; have := num_ok (t := t) (p := p) (by omega); omega) (by omega) (fun h37 => ?_) (fun h37 => ?_)
        · refine r_iconst rfl ?_
          refine r_istore (L' := [_, _, _, _, _, _]) rfl rfl rfl ?_
          refine r_iload rfl rfl ?_
          refine r_if_y rfl (by decide) ?_
          refine r_aload_n rfl rfl ?_
          refine r_iconst rfl ?_
          refine r_callV1 rfl rfl ho.1 rfl (k_refuse (by omega) ho h (by have := hT.1; omega) (by omega) (fun f1 hf1 hF => ?_))
          refine r_iconst rfl ?_
          refine r_iret rfl ?_
          exact k2 _ (dNum_bad hD (fun z => by
            first | (rw [tE_D hD] at hlong; omega) | omega | (have q1 := ((hbar _ (num_ok z.1).1 (by omega)).1 (by omega)).1 h66; rw [q1] at z; cases z.2.2))) f1 hf1 hF
        · refine r_iconst rfl ?_
          refine r_goto rfl ?_
          refine r_istore (L' := [_, _, _, _, _, _]) rfl rfl rfl ?_
          refine r_iload rfl rfl ?_
          refine r_if_n rfl (by decide) ?_
          refine r_iload rfl rfl ?_
          refine r_bipush rfl ?_
          refine r_icmp_ge rfl (by rw [tE_D hD] at hlong; have := num_ok (t := t) (p := p) (by omega); omega) (by omega) (fun h56 => ?_) (fun h56 => ?_)
          · refine r_aload_n rfl rfl ?_
            refine r_callV0 rfl rfl ho.1 rfl (k_next (q := dE t p) (by omega) ho hT h.1 h.2.1 (h.2.2.2.1.trans (by rw [tE_D hD])) (dE_le hp) (fun f1 hf1 hr => ?_))
            refine r_iload rfl rfl ?_
            refine r_iret rfl ?_
            first
            | exact k1 _ _ (dNum_yes hD ⟨by rw [tE_D hD] at hlong; omega, ⟨by omega, by omega⟩, (hbar (num t p (dE t p - p)) (by rw [tE_D hD] at hlong; have := num_ok (t := t) (p := p) (by omega); omega) (by omega)).2 h56⟩) f1 hf1 hr
            | exact k1 _ _ (dNum_yes hD ⟨by rw [tE_D hD] at hlong; omega, ⟨by omega, by omega⟩, by
                  have q1 := (hbar (num t p (dE t p - p)) (by rw [tE_D hD] at hlong; have := num_ok (t := t) (p := p) (by omega); omega) (by omega)).1 (by omega)
                  cases hz : bar (num t p (dE t p - p)) with
                  | false => rfl
                  | true => exact absurd (q1.2 hz) h66⟩) f1 hf1 hr
          · refine r_iload_n rfl rfl ?_
            refine r_iload rfl rfl ?_
            refine r_ishr rfl ?_
            refine r_iconst rfl ?_
            refine r_iand rfl ?_
            refine r_iconst rfl ?_
            refine r_icmp_ne rfl (z_and_rng _ _) (by omega) (fun h66 => ?_) (fun h66 => ?_)
            · refine r_aload_n rfl rfl ?_
              refine r_callV0 rfl rfl ho.1 rfl (k_next (q := dE t p) (by omega) ho hT h.1 h.2.1 (h.2.2.2.1.trans (by rw [tE_D hD])) (dE_le hp) (fun f1 hf1 hr => ?_))
              refine r_iload rfl rfl ?_
              refine r_iret rfl ?_
              first
              | exact k1 _ _ (dNum_yes hD ⟨by rw [tE_D hD] at hlong; omega, ⟨by omega, by omega⟩, (hbar (num t p (dE t p - p)) (by rw [tE_D hD] at hlong; have := num_ok (t := t) (p := p) (by omega); omega) (by omega)).2 h56⟩) f1 hf1 hr
              | exact k1 _ _ (dNum_yes hD ⟨by rw [tE_D hD] at hlong; omega, ⟨by omega, by omega⟩, by
                    have q1 := (hbar (num t p (dE t p - p)) (by rw [tE_D hD] at hlong; have := num_ok (t := t) (p := p) (by omega); omega) (by omega)).1 (by omega)
                    cases hz : bar (num t p (dE t p - p)) with
                    | false => rfl
                    | true => exact absurd (q1.2 hz) h66⟩) f1 hf1 hr
            · refine r_aload_n rfl rfl ?_
              refine r_iconst rfl ?_
              refine r_callV1 rfl rfl ho.1 rfl (k_refuse (by omega) ho h (by have := hT.1; omega) (by omega) (fun f1 hf1 hF => ?_))
              refine r_iconst rfl ?_
              refine r_iret rfl ?_
              exact k2 _ (dNum_bad hD (fun z => by
                first | (rw [tE_D hD] at hlong; omega) | omega | (have q1 := ((hbar _ (num_ok z.1).1 (by omega)).1 (by omega)).1 h66; rw [q1] at z; cases z.2.2))) f1 hf1 hF
  · refine r_aload_n rfl rfl ?_
    refine r_iconst rfl ?_
    refine r_callV1 rfl rfl ho.1 rfl (k_refuse (by omega) ho h (by have := hT.1; omega) (by omega) (fun f1 hf1 hF => ?_))
    refine r_iconst rfl ?_
    refine r_iret rfl ?_
    exact k2 _ (dNum_no (fun q => h5 (kd_D.2 q))) f1 hf1 hF
theorem k_takeNumberF (hd : 2 ≤ d) (ho : RdO σ g R) (hF : RdF f R e) {x y z : Int} (K : Q (some (zi 0)) σ f g) : ZCt d 23 [zr (some R), zi x, zi y, zi z] σ f g Q := by
  refine ZCt.of' (L0 := [_, _, _, _, _, _]) (by omega) rfl rfl rfl (fun d hd1 => ?_)
  refine r_aload_n rfl rfl ?_
  refine r_getI rfl ho.1 hF.2.2 ?_
  refine r_iconst rfl ?_
  refine r_icmp_eq rfl (by omega) (by omega) (fun h5 => ?_) (fun h5 => ?_)
  · exact absurd h5 (by decide)
  · refine r_aload_n rfl rfl ?_
    refine r_iconst rfl ?_
    refine r_callV1 rfl rfl ho.1 rfl (k_refuseF (by omega) ho hF ?_)
    refine r_iconst rfl ?_
    refine r_iret rfl ?_
    exact K
theorem k_begin (hd : 3 ≤ d) (hs : Sh σ g) (ho : RdO σ g R) (hR : R ≠ 1 ∧ R + 1 ≠ 1) (hT : TxOk t) (ht : ∀ i, i < t.2 → f 1 i = t.1 i) (hb : ∀ i, i < 400 → -128 ≤ f 1 i ∧ f 1 i ≤ 127) (K : ∀ f', (∀ c, c ≠ R → c ≠ R + 1 → f' c = f c) → Rdr f' R t (sk t 0) → Q none σ f' g) : ZCt d 15 [zr (some R), zr (some 1), zi (t.2 : Int)] σ f g Q := by
  refine ZCt.of' (L0 := [_, _, _]) (by omega) rfl rfl rfl (fun d hd1 => ?_)
  have hT1 := hT.1
  refine r_aload_n rfl rfl ?_
  refine r_iconst rfl ?_
  refine r_iload_n rfl rfl ?_
  refine r_aload_n rfl rfl ?_
  refine r_alen rfl (hs.a rfl) (by omega) (by omega) ?_
  refine r_sipush rfl ?_
  refine r_callS2 rfl rfl rfl (c_min (by omega) (by omega) (by omega) ?_)
  rw [show (if ((400 : Nat) : Int) ≤ 400 then ((400 : Nat) : Int) else 400) = 400 from rfl]
  refine r_callS2 rfl rfl rfl (c_min (by omega) (by omega) (by omega) ?_)
  rw [if_pos (by omega : (t.2 : Int) ≤ 400)]
  refine r_callS2 rfl rfl rfl (c_max (by omega) (by omega) (by omega) ?_)
  rw [show (if (t.2 : Int) ≤ 0 then (0 : Int) else (t.2 : Int)) = (t.2 : Int) by split <;> omega]
  refine r_putI rfl ho.1 ?_
  refine r_aload_n rfl rfl ?_
  refine r_iconst rfl ?_
  refine r_aload_n rfl rfl ?_
  refine r_getR rfl ho.1 ho.2.2 ?_
  refine r_iconst rfl ?_
  refine r_aload_n rfl rfl ?_
  refine r_getI rfl ho.1 (show _ = (t.2 : Int) from up2_same _ _ _ _) ?_
  refine r_acopy rfl rfl ho.2.1 (hs.a rfl) (by omega) (by omega) (by omega) (Or.inr (fun i hi => by rw [up2_o _ _ (show (1 : Nat) ≠ R by omega), show (0 : Int).toNat + i = i by simp]; exact hb i (by omega))) ?_
  refine r_aload_n rfl rfl ?_
  refine r_iconst rfl ?_
  refine r_putI rfl ho.1 ?_
  refine r_aload_n rfl rfl ?_
  refine r_iconst rfl ?_
  refine r_putI rfl ho.1 ?_
  refine r_aload_n rfl rfl ?_
  refine r_callV0 rfl rfl ho.1 rfl (k_next (q := 0) (by omega) ho hT ⟨?_, ?_⟩ ?_ ?_ (by omega) (fun f1 hf1 hr => ?_))
  · simp [up2, zcpy]
  · intro i hi
    rw [up2_o _ _ (by omega), up2_o _ _ (by omega)]
    show (if R + 1 = R + 1 ∧ (0 : Int).toNat ≤ i ∧ i < (0 : Int).toNat + ((t.2 : Nat) : Int).toNat then _ else _) = _
    rw [if_pos (by simp; omega), up2_o _ _ (by omega)]
    simp
    exact ht i hi
  · simp [up2]
  · simp [up2]
  refine r_ret rfl ?_
  exact K f1 (fun c h1 h2 => by rw [hf1 c h1, up2_o _ _ h1, up2_o _ _ h1, zcpy_o h2, up2_o _ _ h1]) hr
end READER2
