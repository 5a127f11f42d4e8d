/-! Texts: signs, runs of them, words, numbers, and what a text tells -/
/-- the end of a run -/
def rnE (P : Nat → Bool) : Nat → Nat → Nat
  | 0, p => p
  | k + 1, p => if P p = true then rnE P k (p + 1) else p
theorem rnE_ge (P : Nat → Bool) : ∀ k p, p ≤ rnE P k p := by
  intro k
  induction k with
  | zero => intro p; exact Nat.le_refl p
  | succ k ih =>
    intro p
    unfold rnE
    split
    · have := ih (p + 1); omega
    · exact Nat.le_refl p
theorem rnE_le (P : Nat → Bool) : ∀ k p, rnE P k p ≤ p + k := by
  intro k
  induction k with
  | zero => intro p; exact Nat.le_refl p
  | succ k ih =>
    intro p
    unfold rnE
    split
    · have := ih (p + 1); omega
    · omega
theorem rnE_in (P : Nat → Bool) : ∀ k p i, p ≤ i → i < rnE P k p → P i = true := by
  intro k
  induction k with
  | zero => intro p i h1 h2; exact absurd h2 (by show ¬ i < p; omega)
  | succ k ih =>
    intro p i h1 h2
    unfold rnE at h2
    split at h2
    · rename_i hp
      by_cases e : i = p
      · rw [e]; exact hp
      · exact ih (p + 1) i (by omega) h2
    · omega
theorem rnE_stop (P : Nat → Bool) : ∀ k p, P (p + k) = false → P (rnE P k p) = false := by
  intro k
  induction k with
  | zero => intro p h; exact h
  | succ k ih =>
    intro p h
    unfold rnE
    split
    · exact ih (p + 1) (by rw [show p + 1 + k = p + (k + 1) by omega]; exact h)
    · rename_i hp
      cases hq : P p with
      | true => exact absurd hq hp
      | false => rfl
/-- a text: its signs, how many -/
abbrev Tx : Type := (Nat → Int) × Nat
def rE (P : Nat → Bool) (n p : Nat) : Nat := rnE P (n - p) p
theorem rE_no {P : Nat → Bool} {n p : Nat} (h : P p = false) : rE P n p = p := by
  unfold rE
  cases n - p with
  | zero => rfl
  | succ k => show (if P p = true then _ else p) = p; rw [if_neg (by rw [h]; decide)]
theorem rE_yes {P : Nat → Bool} {n p : Nat} (h : P p = true) (hp : p < n) : rE P n p = rE P n (p + 1) := by
  unfold rE
  rw [show n - p = (n - (p + 1)) + 1 by omega]
  show (if P p = true then _ else p) = _
  rw [if_pos h]
theorem rE_ge (P : Nat → Bool) (n p : Nat) : p ≤ rE P n p := rnE_ge _ _ _
theorem rE_le {P : Nat → Bool} {n p : Nat} (h : p ≤ n) : rE P n p ≤ n := by
  have := rnE_le P (n - p) p
  unfold rE
  omega
theorem rE_in {P : Nat → Bool} {n p i : Nat} (h1 : p ≤ i) (h2 : i < rE P n p) : P i = true := rnE_in P _ _ i h1 h2
theorem rE_stop {P : Nat → Bool} {n p : Nat} (h : p ≤ n) (hn : P n = false) : P (rE P n p) = false := rnE_stop P _ _ (by rw [show p + (n - p) = n by omega]; exact hn)
def isB (t : Tx) (i : Nat) : Bool := decide (i < t.2 ∧ t.1 i = 32)
def isD (t : Tx) (i : Nat) : Bool := decide (i < t.2 ∧ 48 ≤ t.1 i ∧ t.1 i ≤ 57)
def isL (t : Tx) (i : Nat) : Bool := decide (i < t.2 ∧ 97 ≤ t.1 i ∧ t.1 i ≤ 122)
def isS (t : Tx) (i : Nat) (c : Int) : Bool := decide (i < t.2 ∧ t.1 i = c)
theorem isB_iff {t : Tx} {i : Nat} : isB t i = true ↔ i < t.2 ∧ t.1 i = 32 := decide_eq_true_iff
theorem isD_iff {t : Tx} {i : Nat} : isD t i = true ↔ i < t.2 ∧ 48 ≤ t.1 i ∧ t.1 i ≤ 57 := decide_eq_true_iff
theorem isL_iff {t : Tx} {i : Nat} : isL t i = true ↔ i < t.2 ∧ 97 ≤ t.1 i ∧ t.1 i ≤ 122 := decide_eq_true_iff
theorem isS_iff {t : Tx} {i : Nat} {c : Int} : isS t i c = true ↔ i < t.2 ∧ t.1 i = c := decide_eq_true_iff
theorem isB_no {t : Tx} {i : Nat} : isB t i = false ↔ ¬ (i < t.2 ∧ t.1 i = 32) := decide_eq_false_iff_not
theorem isD_no {t : Tx} {i : Nat} : isD t i = false ↔ ¬ (i < t.2 ∧ 48 ≤ t.1 i ∧ t.1 i ≤ 57) := decide_eq_false_iff_not
theorem isL_no {t : Tx} {i : Nat} : isL t i = false ↔ ¬ (i < t.2 ∧ 97 ≤ t.1 i ∧ t.1 i ≤ 122) := decide_eq_false_iff_not
theorem isS_no {t : Tx} {i : Nat} {c : Int} : isS t i c = false ↔ ¬ (i < t.2 ∧ t.1 i = c) := decide_eq_false_iff_not
/-- past the blanks; the end of a number; of a word -/
def sk (t : Tx) (p : Nat) : Nat := rE (isB t) t.2 p
def dE (t : Tx) (p : Nat) : Nat := rE (isD t) t.2 p
def lE (t : Tx) (p : Nat) : Nat := rE (isL t) t.2 p
theorem isB_end (t : Tx) : isB t t.2 = false := isB_no.2 (by omega)
theorem isD_end (t : Tx) : isD t t.2 = false := isD_no.2 (by omega)
theorem isL_end (t : Tx) : isL t t.2 = false := isL_no.2 (by omega)
theorem sk_ge (t : Tx) (p : Nat) : p ≤ sk t p := rE_ge _ _ _
theorem sk_le {t : Tx} {p : Nat} (h : p ≤ t.2) : sk t p ≤ t.2 := rE_le h
theorem sk_nb {t : Tx} {p : Nat} (h : p ≤ t.2) : isB t (sk t p) = false := rE_stop h (isB_end t)
theorem sk_sk {t : Tx} {p : Nat} (h : p ≤ t.2) : sk t (sk t p) = sk t p := rE_no (sk_nb h)
theorem dE_ge (t : Tx) (p : Nat) : p ≤ dE t p := rE_ge _ _ _
theorem dE_le {t : Tx} {p : Nat} (h : p ≤ t.2) : dE t p ≤ t.2 := rE_le h
theorem lE_ge (t : Tx) (p : Nat) : p ≤ lE t p := rE_ge _ _ _
theorem lE_le {t : Tx} {p : Nat} (h : p ≤ t.2) : lE t p ≤ t.2 := rE_le h
theorem dE_gt {t : Tx} {p : Nat} (h : isD t p = true) : p < dE t p := by
  unfold dE
  rw [rE_yes h (isD_iff.1 h).1]
  exact rE_ge _ _ _
theorem lE_gt {t : Tx} {p : Nat} (h : isL t p = true) : p < lE t p := by
  unfold lE
  rw [rE_yes h (isL_iff.1 h).1]
  exact rE_ge _ _ _
theorem lE_no {t : Tx} {p : Nat} (h : isL t p = false) : lE t p = p := rE_no h
theorem dE_no {t : Tx} {p : Nat} (h : isD t p = false) : dE t p = p := rE_no h
def num (t : Tx) (p : Nat) : Nat → Int
  | 0 => 0
  | k + 1 => 10 * num t p k + t.1 (p + k) - 48
/-- a word stands there, from sign to sign -/
def mt (t : Tx) : Nat → List Int → Bool
  | _, [] => true
  | p, c :: w => decide (t.1 p = c) && mt t (p + 1) w
def wIs (t : Tx) (p : Nat) (w : List Int) : Bool := decide (lE t p = p + w.length) && mt t p w
/-- which word of a row -/
def woL (t : Tx) (p : Nat) : List (List Int) → Nat → Int
  | [], _ => -1
  | w :: r, i => if wIs t p w = true then (i : Int) else woL t p r (i + 1)
def wShow : List Int := [115, 104, 111, 119]
def wRoad : List Int := [114, 111, 97, 100]
def wCar : List Int := [99, 97, 114]
def wGap : List Int := [103, 97, 112]
def wNot : List Int := [110, 111, 116]
def wAnd : List Int := [97, 110, 100]
def wOr : List Int := [111, 114]
def wGo : List Int := [103, 111]
def wIf : List Int := [105, 102]
def wFuel : List Int := [102, 117, 101, 108]
def wWait : List Int := [119, 97, 105, 116, 105, 110, 103]
def wBeh : List Int := [98, 101, 104, 105, 110, 100]
def wOn : List Int := [111, 110]
def wOff : List Int := [111, 102, 102]
def wRnd : List Int := [114, 111, 117, 110, 100, 115]
def wEvery : List Int := [101, 118, 101, 114, 121]
def wStep : List Int := [115, 116, 101, 112]
def wVals : List (List Int) := [wCar, wRoad, wFuel, wWait, wBeh, wOn, wOff, wRnd, wEvery, wStep]
def wShows : List (List Int) := [wShow, wRoad, wCar, wGap]
theorem wIs_L {t : Tx} {p : Nat} {w : List Int} (hw : w ≠ []) (h : wIs t p w = true) : isL t p = true := by
  unfold wIs at h
  simp only [Bool.and_eq_true, decide_eq_true_iff] at h
  cases hl : isL t p with
  | true => rfl
  | false =>
    have h1 := h.1
    rw [lE_no hl] at h1
    cases w with
    | nil => exact absurd rfl hw
    | cons c r => simp only [List.length_cons] at h1; omega
theorem wIs_len {t : Tx} {p : Nat} {w : List Int} (h : wIs t p w = true) : lE t p = p + w.length := by
  unfold wIs at h
  simp only [Bool.and_eq_true, decide_eq_true_iff] at h
  exact h.1
theorem woL_rng {t : Tx} {p : Nat} : ∀ (ws : List (List Int)) (i : Nat), woL t p ws i = -1 ∨ ((i : Int) ≤ woL t p ws i ∧ woL t p ws i < ((i + ws.length : Nat) : Int)) := by
  intro ws
  induction ws with
  | nil => intro i; exact Or.inl rfl
  | cons w r ih =>
    intro i
    unfold woL
    split
    · refine Or.inr ?_
      simp only [List.length_cons]
      omega
    · have := ih (i + 1)
      simp only [List.length_cons]
      omega
theorem woL_L {t : Tx} {p : Nat} : ∀ (ws : List (List Int)) (i : Nat), (∀ w ∈ ws, w ≠ []) → isL t p = false → woL t p ws i = -1 := by
  intro ws
  induction ws with
  | nil => intro i _ _; rfl
  | cons w r ih =>
    intro i hw h
    unfold woL
    rw [if_neg (fun q => by rw [wIs_L (hw w List.mem_cons_self) q] at h; cases h)]
    exact ih (i + 1) (fun w q => hw w (List.mem_cons_of_mem _ q)) h
theorem wVals_ne : ∀ w ∈ wVals, w ≠ [] := by decide
theorem wShows_ne : ∀ w ∈ wShows, w ≠ [] := by decide
abbrev PR : Type := Int ⊕ (Nat × Nat × List Tk)
def err (p : Nat) (k : Int) : Int := 1 + 8 * (p : Int) + k
def bnd (r : PR) (k : Nat → Nat → List Tk → PR) : PR := match r with
  | .inl e => .inl e
  | .inr (p, n, l) => k p n l
def addL (l : List Tk) (r : PR) : PR := bnd r (fun p n l' => .inr (p, n, l ++ l'))
def dValue (t : Tx) (p n : Nat) : PR :=
  if isD t p = true then (if dE t p - p ≤ 5 then (if n < 60 then .inr (sk t (dE t p), n + 1, [(0, num t p (dE t p - p))]) else .inl (err p 3)) else .inl (err p 1))
  else if woL t p wVals 0 < 0 then .inl (err p 0) else if n < 60 then .inr (sk t (lE t p), n + 1, [(1, woL t p wVals 0)]) else .inl (err p 3)
def mulOp (t : Tx) (p : Nat) : Nat := if isS t p 42 = true then 4 else if isS t p 47 = true then 5 else if isS t p 37 = true then 14 else 0
def addOp (t : Tx) (p : Nat) : Nat := if isS t p 43 = true then 2 else if isS t p 45 = true then 3 else 0
def dTermR (t : Tx) : Nat → Nat → Nat → PR
  | 0, _, _ => .inl 0
  | k + 1, p, n => if mulOp t p = 0 then .inr (p, n, []) else bnd (dValue t (sk t (p + 1)) n) (fun p1 n1 l1 => addL (l1 ++ [(mulOp t p, 0)]) (dTermR t k p1 n1))
def dTerm (t : Tx) (p n : Nat) : PR := bnd (dValue t p n) (fun p1 n1 l1 => addL l1 (dTermR t 401 p1 n1))
def dSumR (t : Tx) : Nat → Nat → Nat → PR
  | 0, _, _ => .inl 0
  | k + 1, p, n => if addOp t p = 0 then .inr (p, n, []) else bnd (dTerm t (sk t (p + 1)) n) (fun p1 n1 l1 => addL (l1 ++ [(addOp t p, 0)]) (dSumR t k p1 n1))
def dSum (t : Tx) (p n : Nat) : PR := bnd (dTerm t p n) (fun p1 n1 l1 => addL l1 (dSumR t 401 p1 n1))
def cmpOp (t : Tx) (p : Nat) : Nat := if isS t p 60 = true then (if isS t (p + 1) 61 = true then 7 else 6) else if isS t p 61 = true then 8 else if isS t p 62 = true then (if isS t (p + 1) 61 = true then 9 else 10) else 0
def cmpE (t : Tx) (p : Nat) : Nat := if (isS t p 60 = true ∨ isS t p 62 = true) ∧ isS t (p + 1) 61 = true then p + 2 else p + 1
def dCmp (t : Tx) (p n : Nat) : PR := bnd (dSum t p n) (fun p1 n1 l1 => if cmpOp t p1 = 0 then .inl (err p1 0) else if n1 < 60 then bnd (dSum t (sk t (cmpE t p1)) (n1 + 1)) (fun p2 n2 l2 => .inr (p2, n2, l1 ++ (l2 ++ [(cmpOp t p1, 0)]))) else .inl (err p1 3))
def dAndR (t : Tx) (F : Nat → Nat → PR) : Nat → Nat → Nat → PR
  | 0, _, _ => .inl 0
  | k + 1, p, n => if wIs t p wAnd = true then bnd (F (sk t (lE t p)) n) (fun p1 n1 l1 => addL (l1 ++ [(12, 0)]) (dAndR t F k p1 n1)) else .inr (p, n, [])
def dConj (t : Tx) (F : Nat → Nat → PR) (p n : Nat) : PR := bnd (F p n) (fun p1 n1 l1 => addL l1 (dAndR t F 401 p1 n1))
def dOrR (t : Tx) (F : Nat → Nat → PR) : Nat → Nat → Nat → PR
  | 0, _, _ => .inl 0
  | k + 1, p, n => if wIs t p wOr = true then bnd (dConj t F (sk t (lE t p)) n) (fun p1 n1 l1 => addL (l1 ++ [(13, 0)]) (dOrR t F k p1 n1)) else .inr (p, n, [])
def dTest (t : Tx) (F : Nat → Nat → PR) (p n : Nat) : PR := bnd (dConj t F p n) (fun p1 n1 l1 => addL l1 (dOrR t F 401 p1 n1))
def dFact (t : Tx) : Nat → Nat → Nat → PR
  | 0, p, n => if wIs t p wNot = true ∨ isS t p 91 = true then .inl (err p 2) else dCmp t p n
  | k + 1, p, n => if wIs t p wNot = true then bnd (dFact t k (sk t (lE t p)) n) (fun p1 n1 l1 => .inr (p1, n1, l1 ++ [(11, 0)]))
    else if isS t p 91 = true then bnd (dTest t (dFact t k) (sk t (p + 1)) n) (fun p1 n1 l1 => if isS t p1 93 = true then .inr (sk t (p1 + 1), n1, l1) else .inl (err p1 0))
    else dCmp t p n
def dGo (t : Tx) (c p n : Nat) : Int ⊕ (Nat × Nat × List Tk × Option (List Tk)) :=
  if wIs t p wGo = true then (if 12 ≤ c then .inl (err p 4) else match dSum t (sk t (lE t p)) n with
    | .inl e => .inl e
    | .inr (p1, n1, l1) => if wIs t p1 wIf = true then (match dTest t (dFact t 10) (sk t (lE t p1)) n1 with
      | .inl e => .inl e
      | .inr (p2, n2, l2) => .inr (p2, n2, l1, some l2)) else .inr (p1, n1, l1, none)) else .inl (err p 0)
def dRule (t : Tx) : Nat → Nat → Nat → Nat → Int ⊕ Cls
  | 0, _, _, _ => .inl 0
  | k + 1, c, p, n => match dGo t c p n with
    | .inl e => .inl e
    | .inr (p1, n1, x) => if p1 < t.2 then (if isS t p1 59 = true then (match dRule t k (c + 1) (sk t (p1 + 1)) n1 with
      | .inl e => .inl e
      | .inr r => .inr (x :: r)) else .inl (err p1 0)) else .inr [x]
/-- a number that is due -/
def dNum (t : Tx) (lo hi : Int) (bar : Int → Bool) (p : Nat) : Int ⊕ (Nat × Int) :=
  if isD t p = true then (if dE t p - p ≤ 5 ∧ (lo ≤ num t p (dE t p - p) ∧ num t p (dE t p - p) ≤ hi) ∧ bar (num t p (dE t p - p)) = false then .inr (sk t (dE t p), num t p (dE t p - p)) else .inl (err p 1)) else .inl (err p 0)
def exB (P : Nat → Bool) : Nat → Bool
  | 0 => false
  | k + 1 => exB P k || P k
theorem exB_iff {P : Nat → Bool} : ∀ k, exB P k = true ↔ ∃ j, j < k ∧ P j = true := by
  intro k
  induction k with
  | zero => exact ⟨fun h => (by cases h), fun ⟨j, h, _⟩ => (by omega)⟩
  | succ k ih =>
    unfold exB
    rw [Bool.or_eq_true, ih]
    refine ⟨fun h => ?_, fun ⟨j, h1, h2⟩ => ?_⟩
    · rcases h with ⟨j, h1, h2⟩ | h
      · exact ⟨j, by omega, h2⟩
      · exact ⟨k, by omega, h⟩
    · by_cases e : j = k
      · exact Or.inr (by rw [← e]; exact h2)
      · exact Or.inl ⟨j, by omega, h2⟩
def roadIn (pl : Pl) (c : Int) : Bool := exB (fun j => decide (pl.2.2.2.1 j = c)) pl.2.1.toNat
def carInP (rd : Rd) (c : Int) : Bool := exB (fun j => decide (rd 0 j = c)) 6
def gapInP (rd : Rd) (c : Int) : Bool := decide (rd 6 c.toNat = 1)
abbrev SR : Type := Int ⊕ (Nat × Pl × Rd)
def sCells (t : Tx) (pl : Pl) (rd : Rd) (p : Nat) : SR := match dNum t 3 20 (fun _ => false) p with
  | .inl e => .inl e
  | .inr (p1, v) => .inr (p1, (v, pl.2), rd)
def sRoad (t : Tx) (pl : Pl) (rd : Rd) (p : Nat) : SR := match dNum t 0 (pl.1 - 1) (roadIn pl) p with
  | .inl e => .inl e
  | .inr (p1, v) => (match dNum t 1 20 (fun _ => false) p1 with
    | .inl e => .inl e
    | .inr (p2, w) => .inr (p2, (pl.1, pl.2.1 + 1, pl.2.2.1, u1 pl.2.2.2.1 pl.2.1.toNat v, u1 pl.2.2.2.2 pl.2.1.toNat w), rd))
def sCar (t : Tx) (pl : Pl) (rd : Rd) (p : Nat) : SR := match dNum t 0 (pl.1 - 1) (fun c => carInP rd c || gapInP rd c) p with
  | .inl e => .inl e
  | .inr (p1, v) => (match dNum t 0 (pl.2.1 - 1) (fun _ => false) p1 with
    | .inl e => .inl e
    | .inr (p2, w) => (match dNum t 0 60 (fun _ => false) p2 with
      | .inl e => .inl e
      | .inr (p3, u) => .inr (p3, (pl.1, pl.2.1, pl.2.2.1 + 1, pl.2.2.2), rOn rd pl.2.2.1.toNat v w u)))
def sGap (t : Tx) (pl : Pl) (rd : Rd) (p : Nat) : SR := match dNum t 0 (pl.1 - 1) (carInP rd) p with
  | .inl e => .inl e
  | .inr (p1, v) => .inr (p1, pl, up2 rd 6 v.toNat 1)
def dShC (t : Tx) (c : Nat) (pl : Pl) (rd : Rd) (p : Nat) : SR :=
  if woL t p wShows 0 < 0 then .inl (err p 0)
  else if 40 ≤ c ∨ (woL t p wShows 0 = 0 ∧ c ≠ 0) ∨ (woL t p wShows 0 ≠ 0 ∧ c = 0) ∨ (woL t p wShows 0 = 1 ∧ 5 ≤ pl.2.1) ∨ (woL t p wShows 0 = 2 ∧ 6 ≤ pl.2.2.1) then .inl (err p 4)
  else if woL t p wShows 0 = 0 then sCells t pl rd (sk t (lE t p))
  else if woL t p wShows 0 = 1 then sRoad t pl rd (sk t (lE t p))
  else if woL t p wShows 0 = 2 then sCar t pl rd (sk t (lE t p))
  else sGap t pl rd (sk t (lE t p))
def dShow (t : Tx) : Nat → Nat → Pl → Rd → Nat → Int ⊕ (Pl × Rd)
  | 0, _, _, _, _ => .inl 0
  | k + 1, c, pl, rd, p => match dShC t c pl rd p with
    | .inl e => .inl e
    | .inr (p1, pl1, rd1) => if p1 < t.2 then (if isS t p1 59 = true then dShow t k (c + 1) pl1 rd1 (sk t (p1 + 1)) else .inl (err p1 0)) else .inr (pl1, rd1)
