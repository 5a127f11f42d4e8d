/-! Rules: rows of signs, what they come to -/
abbrev Tk : Type := Nat × Int
def opc : Nat → Int
  | 2 => 43
  | 3 => 45
  | 4 => 42
  | 5 => 47
  | 6 => 60
  | 7 => 316
  | 8 => 61
  | 9 => 318
  | 10 => 62
  | 11 => 33
  | 12 => 38
  | 13 => 124
  | 14 => 37
  | _ => 59
def op1 : Nat → Int → Int → Int
  | 2, x, y => x + y
  | 3, x, y => x - y
  | 4, x, y => x * y
  | 5, x, y => if wl y = 0 then 0 else z_ldiv x y
  | 6, x, y => if wl x < wl y then 1 else 0
  | 7, x, y => if wl x ≤ wl y then 1 else 0
  | 8, x, y => if wl x = wl y then 1 else 0
  | 9, x, y => if wl y ≤ wl x then 1 else 0
  | 10, x, y => if wl y < wl x then 1 else 0
  | 12, x, y => z_land x y
  | 14, x, y => if wl y = 0 then 0 else z_lrem x y
  | _, x, y => z_lor x y
abbrev VOp (s : Nat) : Prop := s = 2 ∨ s = 3 ∨ s = 4 ∨ s = 5 ∨ s = 6 ∨ s = 7 ∨ s = 8 ∨ s = 9 ∨ s = 10 ∨ s = 12 ∨ s = 13 ∨ s = 14
abbrev AOp (s : Nat) : Prop := s = 2 ∨ s = 3 ∨ s = 4 ∨ s = 5 ∨ s = 14
abbrev COp (s : Nat) : Prop := s = 6 ∨ s = 7 ∨ s = 8 ∨ s = 9 ∨ s = 10
/-- what a sign does to a row of kinds: true a TEST, false a SUM -/
def tk1 (t : Tk) (st : List Bool) : Option (List Bool) :=
  if t.1 = 0 then (if 0 ≤ t.2 ∧ t.2 ≤ 99999 then some (false :: st) else none)
  else if t.1 = 1 then (if 0 ≤ t.2 ∧ t.2 < 10 then some (false :: st) else none)
  else if t.1 = 11 then (match st with
    | true :: r => if t.2 = 0 then some (true :: r) else none
    | _ => none)
  else (match st with
    | b :: a :: r => if t.2 = 0 then (if AOp t.1 ∧ a = false ∧ b = false then some (false :: r) else if COp t.1 ∧ a = false ∧ b = false then some (true :: r) else if (t.1 = 12 ∨ t.1 = 13) ∧ a = true ∧ b = true then some (true :: r) else none) else none
    | _ => none)
def chk : List Tk → List Bool → Option (List Bool)
  | [], st => some st
  | t :: r, st => match tk1 t st with
    | none => none
    | some st' => chk r st'
def ex1 (w : Nat → Int) (t : Tk) (st : List Int) : List Int :=
  if t.1 = 0 then t.2 :: st else if t.1 = 1 then w t.2.toNat :: st else if t.1 = 11 then (match st with
    | x :: r => (1 - x) :: r
    | [] => [])
  else (match st with
    | y :: x :: r => op1 t.1 x y :: r
    | _ => [])
def exec (w : Nat → Int) : List Tk → List Int → List Int
  | [], st => st
  | t :: r, st => exec w r (ex1 w t st)
def nvs : List Tk → Nat
  | [] => 0
  | t :: r => (if t.1 ≤ 1 then 1 else 0) + nvs r
def Ty : List Bool → List Int → Prop
  | [], [] => True
  | b :: bs, x :: st => (b = true → x = 0 ∨ x = 1) ∧ Ty bs st
  | _, _ => False
theorem Ty.len : ∀ (bs : List Bool) (st : List Int), Ty bs st → st.length = bs.length := by
  intro bs
  induction bs with
  | nil => intro st h; cases st with
    | nil => rfl
    | cons x r => exact h.elim
  | cons b bs ih => intro st h; cases st with
    | nil => exact h.elim
    | cons x r => simp [ih r h.2]
theorem tk1_inv {t : Tk} {st st' : List Bool} (h : tk1 t st = some st') : (t.1 = 0 ∧ (0 ≤ t.2 ∧ t.2 ≤ 99999) ∧ st' = false :: st) ∨ (t.1 = 1 ∧ (0 ≤ t.2 ∧ t.2 < 10) ∧ st' = false :: st) ∨ (t.1 = 11 ∧ t.2 = 0 ∧ ∃ r, st = true :: r ∧ st' = true :: r) ∨ (t.2 = 0 ∧ ∃ a b c r, st = b :: a :: r ∧ st' = c :: r ∧ ((AOp t.1 ∧ a = false ∧ b = false ∧ c = false) ∨ (COp t.1 ∧ a = false ∧ b = false ∧ c = true) ∨ ((t.1 = 12 ∨ t.1 = 13) ∧ a = true ∧ b = true ∧ c = true))) := by
  unfold tk1 at h
  by_cases h0 : t.1 = 0
  · rw [if_pos h0] at h
    by_cases q : 0 ≤ t.2 ∧ t.2 ≤ 99999
    · rw [if_pos q] at h; cases h; exact Or.inl ⟨h0, q, rfl⟩
    · rw [if_neg q] at h; cases h
  · rw [if_neg h0] at h
    by_cases h1 : t.1 = 1
    · rw [if_pos h1] at h
      by_cases q : 0 ≤ t.2 ∧ t.2 < 10
      · rw [if_pos q] at h; cases h; exact Or.inr (Or.inl ⟨h1, q, rfl⟩)
      · rw [if_neg q] at h; cases h
    · rw [if_neg h1] at h
      by_cases h11 : t.1 = 11
      · rw [if_pos h11] at h
        cases st with
        | nil => cases h
        | cons b r =>
          cases b with
          | false => cases h
          | true =>
            simp only at h
            by_cases q : t.2 = 0
            · rw [if_pos q] at h; cases h; exact Or.inr (Or.inr (Or.inl ⟨h11, q, r, rfl, rfl⟩))
            · rw [if_neg q] at h; cases h
      · rw [if_neg h11] at h
        cases st with
        | nil => cases h
        | cons b r =>
          cases r with
          | nil => cases h
          | cons a r =>
            simp only at h
            by_cases q : t.2 = 0
            · rw [if_pos q] at h
              refine Or.inr (Or.inr (Or.inr ⟨q, a, b, ?_⟩))
              by_cases c1 : AOp t.1 ∧ a = false ∧ b = false
              · rw [if_pos c1] at h; cases h; exact ⟨false, r, rfl, rfl, Or.inl ⟨c1.1, c1.2.1, c1.2.2, rfl⟩⟩
              · rw [if_neg c1] at h
                by_cases c2 : COp t.1 ∧ a = false ∧ b = false
                · rw [if_pos c2] at h; cases h; exact ⟨true, r, rfl, rfl, Or.inr (Or.inl ⟨c2.1, c2.2.1, c2.2.2, rfl⟩)⟩
                · rw [if_neg c2] at h
                  by_cases c3 : (t.1 = 12 ∨ t.1 = 13) ∧ a = true ∧ b = true
                  · rw [if_pos c3] at h; cases h; exact ⟨true, r, rfl, rfl, Or.inr (Or.inr ⟨c3.1, c3.2.1, c3.2.2, rfl⟩)⟩
                  · rw [if_neg c3] at h; cases h
            · rw [if_neg q] at h; cases h
theorem vop_of {s : Nat} (h : (AOp s ∨ COp s) ∨ s = 12 ∨ s = 13) : VOp s := by omega
theorem ex1_op {w : Nat → Int} {t : Tk} (h : VOp t.1) (x y : Int) (r : List Int) : ex1 w t (y :: x :: r) = op1 t.1 x y :: r := by
  unfold ex1
  rw [if_neg (by omega), if_neg (by omega), if_neg (by omega)]
theorem op1_cmp {s : Nat} (h : COp s) (x y : Int) : op1 s x y = 0 ∨ op1 s x y = 1 := by
  rcases h with rfl | rfl | rfl | rfl | rfl <;> simp only [op1] <;> split <;> simp
theorem op1_log {s : Nat} (h : s = 12 ∨ s = 13) {x y : Int} (hx : x = 0 ∨ x = 1) (hy : y = 0 ∨ y = 1) : op1 s x y = 0 ∨ op1 s x y = 1 := by
  rcases h with rfl | rfl <;> rcases hx with rfl | rfl <;> rcases hy with rfl | rfl <;> decide +kernel
theorem Ty.tex1 {w : Nat → Int} {t : Tk} {bs bs' : List Bool} {st : List Int} (h : tk1 t bs = some bs') (ht : Ty bs st) : Ty bs' (ex1 w t st) := by
  rcases tk1_inv h with ⟨h0, -, rfl⟩ | ⟨h0, -, rfl⟩ | ⟨h0, -, r, rfl, rfl⟩ | ⟨h2, a, b, c, r, rfl, rfl, hk⟩
  · unfold ex1
    rw [if_pos h0]
    exact ⟨fun q => (by cases q), ht⟩
  · unfold ex1
    rw [if_neg (by omega), if_pos h0]
    exact ⟨fun q => (by cases q), ht⟩
  · unfold ex1
    rw [if_neg (by omega), if_neg (by omega), if_pos h0]
    cases st with
    | nil => exact ht.elim
    | cons x s =>
      have := ht.1 rfl
      exact ⟨fun _ => by omega, ht.2⟩
  · cases st with
    | nil => exact ht.elim
    | cons y s => cases s with
      | nil => exact ht.2.elim
      | cons x s =>
        have hv : VOp t.1 := by rcases hk with hk | hk | hk <;> omega
        rw [ex1_op hv]
        refine ⟨fun q => ?_, ht.2.2⟩
        rcases hk with ⟨k1, k2, k3, rfl⟩ | ⟨k1, k2, k3, k4⟩ | ⟨k1, k2, k3, k4⟩
        · cases q
        · exact op1_cmp k1 _ _
        · exact op1_log k1 (ht.2.1 k2) (ht.1 k3)
theorem chk_cons {t : Tk} {l : List Tk} {bs bs' : List Bool} (h : chk (t :: l) bs = some bs') : ∃ b1, tk1 t bs = some b1 ∧ chk l b1 = some bs' := by
  simp only [chk] at h
  cases q : tk1 t bs with
  | none => rw [q] at h; cases h
  | some b1 => rw [q] at h; exact ⟨b1, rfl, h⟩
theorem Ty.exec {w : Nat → Int} : ∀ (l : List Tk) (bs bs' : List Bool) (st : List Int), chk l bs = some bs' → Ty bs st → Ty bs' (exec w l st) := by
  intro l
  induction l with
  | nil => intro bs bs' st h ht; simp only [chk] at h; cases h; exact ht
  | cons t l ih =>
    intro bs bs' st h ht
    obtain ⟨b1, h1, h2⟩ := chk_cons h
    exact ih b1 bs' _ h2 (ht.tex1 h1)
theorem tk1_app {t : Tk} {bs bs' : List Bool} (h : tk1 t bs = some bs') (r : List Bool) : tk1 t (bs ++ r) = some (bs' ++ r) := by
  rcases tk1_inv h with ⟨h0, h1, rfl⟩ | ⟨h0, h1, rfl⟩ | ⟨h0, h1, q, rfl, rfl⟩ | ⟨h2, a, b, c, q, rfl, rfl, hk⟩
  · unfold tk1; rw [if_pos h0, if_pos h1]; rfl
  · unfold tk1; rw [if_neg (by omega), if_pos h0, if_pos h1]; rfl
  · unfold tk1; rw [if_neg (by omega), if_neg (by omega), if_pos h0]; simp only [List.cons_append]; rw [if_pos h1]
  · unfold tk1
    rw [if_neg (by rcases hk with hk | hk | hk <;> omega), if_neg (by rcases hk with hk | hk | hk <;> omega), if_neg (by rcases hk with hk | hk | hk <;> omega)]
    simp only [List.cons_append]
    rw [if_pos h2]
    rcases hk with ⟨k1, rfl, rfl, rfl⟩ | ⟨k1, rfl, rfl, rfl⟩ | ⟨k1, rfl, rfl, rfl⟩
    · rw [if_pos ⟨k1, rfl, rfl⟩]
    · rw [if_neg (fun z => by have := z.1; omega), if_pos ⟨k1, rfl, rfl⟩]
    · rw [if_neg (fun z => by cases z.2.1), if_neg (fun z => by cases z.2.1), if_pos ⟨k1, rfl, rfl⟩]
theorem chk_app : ∀ (l : List Tk) (bs bs' : List Bool), chk l bs = some bs' → ∀ r, chk l (bs ++ r) = some (bs' ++ r) := by
  intro l
  induction l with
  | nil => intro bs bs' h r; simp only [chk] at h ⊢; cases h; rfl
  | cons t l ih =>
    intro bs bs' h r
    obtain ⟨b1, h1, h2⟩ := chk_cons h
    simp only [chk]
    rw [tk1_app h1 r]
    exact ih b1 bs' h2 r
theorem chk_cat : ∀ (l1 l2 : List Tk) (bs b1 b2 : List Bool), chk l1 bs = some b1 → chk l2 b1 = some b2 → chk (l1 ++ l2) bs = some b2 := by
  intro l1
  induction l1 with
  | nil => intro l2 bs b1 b2 h1 h2; simp only [chk] at h1; cases h1; exact h2
  | cons t l ih =>
    intro l2 bs b1 b2 h1 h2
    obtain ⟨c, q1, q2⟩ := chk_cons h1
    simp only [List.cons_append, chk]
    rw [q1]
    exact ih l2 c b1 b2 q2 h2
theorem ex1_app {w : Nat → Int} {t : Tk} {bs bs' : List Bool} {st : List Int} (h : tk1 t bs = some bs') (ht : Ty bs st) (r : List Int) : ex1 w t (st ++ r) = ex1 w t st ++ r := by
  rcases tk1_inv h with ⟨h0, h1, rfl⟩ | ⟨h0, h1, rfl⟩ | ⟨h0, h1, q, rfl, rfl⟩ | ⟨h2, a, b, c, q, rfl, rfl, hk⟩
  · unfold ex1; rw [if_pos h0, if_pos h0]; rfl
  · unfold ex1; rw [if_neg (by omega), if_pos h0, if_neg (by omega), if_pos h0]; rfl
  · unfold ex1
    rw [if_neg (by omega), if_neg (by omega), if_pos h0, if_neg (by omega), if_neg (by omega), if_pos h0]
    cases st with
    | nil => exact ht.elim
    | cons x s => rfl
  · cases st with
    | nil => exact ht.elim
    | cons y s => cases s with
      | nil => exact ht.2.elim
      | cons x s =>
        have hv : VOp t.1 := by rcases hk with hk | hk | hk <;> omega
        rw [ex1_op hv]
        simp only [List.cons_append]
        rw [ex1_op hv]
theorem exec_app {w : Nat → Int} : ∀ (l : List Tk) (bs bs' : List Bool) (st : List Int), chk l bs = some bs' → Ty bs st → ∀ r, exec w l (st ++ r) = exec w l st ++ r := by
  intro l
  induction l with
  | nil => intro bs bs' st h ht r; rfl
  | cons t l ih =>
    intro bs bs' st h ht r
    obtain ⟨b1, h1, h2⟩ := chk_cons h
    simp only [exec]
    rw [ex1_app h1 ht r]
    exact ih b1 bs' _ h2 (ht.tex1 h1) r
theorem exec_congr {w w' : Nat → Int} (hw : ∀ i, i < 10 → w i = w' i) : ∀ (l : List Tk) (bs bs' : List Bool) (st : List Int), chk l bs = some bs' → exec w l st = exec w' l st := by
  intro l
  induction l with
  | nil => intro bs bs' st h; rfl
  | cons t l ih =>
    intro bs bs' st h
    obtain ⟨b1, h1, h2⟩ := chk_cons h
    simp only [exec]
    have e : ex1 w t st = ex1 w' t st := by
      rcases tk1_inv h1 with ⟨h0, -, -⟩ | ⟨h0, q, -⟩ | ⟨h0, -⟩ | ⟨-, a, b, c, r, -, -, hk⟩
      · unfold ex1; rw [if_pos h0, if_pos h0]
      · unfold ex1; rw [if_neg (by omega), if_pos h0, if_neg (by omega), if_pos h0, hw _ (by omega)]
      · have q1 : ¬ t.1 = 1 := by omega
        unfold ex1; simp only [if_neg q1]
      · have q1 : ¬ t.1 = 1 := by rcases hk with hk | hk | hk <;> omega
        unfold ex1; simp only [if_neg q1]
    rw [e]
    exact ih b1 bs' _ h2
/-- the value of a row from nothing -/
def val (w : Nat → Int) (l : List Tk) : Int := (exec w l []).headD 0
theorem exec_val {w : Nat → Int} {l : List Tk} {b : Bool} (h : chk l [] = some [b]) : exec w l [] = [val w l] ∧ (b = true → val w l = 0 ∨ val w l = 1) := by
  have ht : Ty [b] (exec w l []) := Ty.exec l [] [b] [] h trivial
  unfold val
  cases q : exec w l [] with
  | nil => rw [q] at ht; exact ht.elim
  | cons x r =>
    rw [q] at ht
    cases r with
    | nil => exact ⟨rfl, ht.1⟩
    | cons y r => exact ht.2.elim
theorem nvs_app (l1 l2 : List Tk) : nvs (l1 ++ l2) = nvs l1 + nvs l2 := by
  induction l1 with
  | nil => simp [nvs]
  | cons t l ih => simp only [List.cons_append, nvs, ih]; omega
/-- the array holds this stack -/
def Stk (s : Nat → Int) : List Int → Prop
  | [] => True
  | x :: r => s r.length = x ∧ Stk s r
theorem Stk.same {s s' : Nat → Int} : ∀ (st : List Int), Stk s st → (∀ i, i < st.length → s' i = s i) → Stk s' st := by
  intro st
  induction st with
  | nil => intro _ _; trivial
  | cons x r ih => intro h e; simp only [List.length_cons] at e; exact ⟨(e _ (by omega)).trans h.1, ih h.2 (fun i hi => e i (by omega))⟩
theorem wl_zero : wl 0 = 0 := by decide
theorem wl_one : wl 1 = 1 := by decide
def tcode (t : Nat × Int) : Int := if t.1 = 0 then t.2 else if t.1 = 1 then 100000 + t.2 else 100010 + opc t.1
def tsign (t : Nat × Int) : Int := (t.1 : Int) + 16 * t.2
/-- a row of an array from i on -/
def At (s : Nat → Int) (i : Nat) : List Int → Prop
  | [] => True
  | x :: r => s i = x ∧ At s (i + 1) r
theorem At.app {s : Nat → Int} : ∀ (l1 l2 : List Int) (i : Nat), At s i (l1 ++ l2) ↔ At s i l1 ∧ At s (i + l1.length) l2 := by
  intro l1
  induction l1 with
  | nil => intro l2 i; simp [At]
  | cons x r ih =>
    intro l2 i
    simp only [List.cons_append, At, ih, List.length_cons]
    rw [show i + 1 + r.length = i + (r.length + 1) by omega]
    constructor
    · intro h; exact ⟨⟨h.1, h.2.1⟩, h.2.2⟩
    · intro h; exact ⟨h.1.1, h.1.2, h.2⟩
theorem At.same {s s' : Nat → Int} : ∀ (l : List Int) (i : Nat), At s i l → (∀ j, i ≤ j → j < i + l.length → s' j = s j) → At s' i l := by
  intro l
  induction l with
  | nil => intro i h e; exact trivial
  | cons x r ih =>
    intro i h e
    simp only [List.length_cons] at e
    exact ⟨(e i (by omega) (by omega)).trans h.1, ih (i + 1) h.2 (fun j q1 q2 => e j (by omega) (by omega))⟩
theorem opc_rng {s : Nat} (h : VOp s) : 37 ≤ opc s ∧ opc s ≤ 318 ∧ opc s ≠ 59 ∧ opc s ≠ 63 ∧ opc s ≠ 33 := by
  rcases h with rfl | rfl | rfl | rfl | rfl | rfl | rfl | rfl | rfl | rfl | rfl | rfl <;> decide
section RULES
variable {d : Nat} {σ : ZS} {f : ZF} {g : ZG} {Q : ZQ}
theorem k_compared (hd : 1 ≤ d) {s : Nat} (hs : COp s) {x y : Int} (k1 : op1 s x y = 1 → Q (some (zi 1)) σ f g) (k2 : op1 s x y = 0 → Q (some (zi 0)) σ f g) : ZCt d 69 [zi (opc s), zl x, zl y] σ f g Q := by
  rcases hs with rfl | rfl | rfl | rfl | rfl
  · refine ZCt.of' (L0 := [_, _, _, _, _]) (by omega) rfl rfl rfl (fun d hd1 => ?_)
    change ZWp d zt69 0 [zi 60, _, _, _, _] [] σ f g Q
    refine r_iload_n rfl rfl ?_
    refine r_lsw rfl (by omega) (And.intro (fun _ => ?_) (fun e => absurd rfl e))
    refine r_lload_n rfl rfl ?_
    refine r_lload_n rfl rfl ?_
    refine r_lcmpW rfl (fun w46 e46a e46b e46c => ?_)
    refine r_if_ge rfl (by omega) (fun h47 => ?_) (fun h47 => ?_)
    · refine r_iconst rfl ?_
      refine r_zret rfl (by omega) ?_
      exact k2 (by simp only [op1]; rw [if_neg (by omega)])
    · refine r_iconst rfl ?_
      refine r_goto rfl ?_
      refine r_zret rfl (by omega) ?_
      exact k1 (by simp only [op1]; rw [if_pos (by omega)])
  · refine ZCt.of' (L0 := [_, _, _, _, _]) (by omega) rfl rfl rfl (fun d hd1 => ?_)
    change ZWp d zt69 0 [zi 316, _, _, _, _] [] σ f g Q
    refine r_iload_n rfl rfl ?_
    refine r_lsw rfl (by omega) (And.intro (fun e => absurd e (by decide)) (fun _ => (And.intro (fun e => absurd e (by decide)) (fun _ => (And.intro (fun _ => ?_) (fun e => absurd rfl e))))))
    refine r_lload_n rfl rfl ?_
    refine r_lload_n rfl rfl ?_
    refine r_lcmpW rfl (fun w58 e58a e58b e58c => ?_)
    refine r_if_gt rfl (by omega) (fun h59 => ?_) (fun h59 => ?_)
    · refine r_iconst rfl ?_
      refine r_zret rfl (by omega) ?_
      exact k2 (by simp only [op1]; rw [if_neg (by omega)])
    · refine r_iconst rfl ?_
      refine r_goto rfl ?_
      refine r_zret rfl (by omega) ?_
      exact k1 (by simp only [op1]; rw [if_pos (by omega)])
  · refine ZCt.of' (L0 := [_, _, _, _, _]) (by omega) rfl rfl rfl (fun d hd1 => ?_)
    change ZWp d zt69 0 [zi 61, _, _, _, _] [] σ f g Q
    refine r_iload_n rfl rfl ?_
    refine r_lsw rfl (by omega) (And.intro (fun e => absurd e (by decide)) (fun _ => (And.intro (fun _ => ?_) (fun e => absurd rfl e))))
    refine r_lload_n rfl rfl ?_
    refine r_lload_n rfl rfl ?_
    refine r_lcmpW rfl (fun w70 e70a e70b e70c => ?_)
    refine r_if_ne rfl (by omega) (fun h71 => ?_) (fun h71 => ?_)
    · refine r_iconst rfl ?_
      refine r_zret rfl (by omega) ?_
      exact k2 (by simp only [op1]; rw [if_neg (by omega)])
    · refine r_iconst rfl ?_
      refine r_goto rfl ?_
      refine r_zret rfl (by omega) ?_
      exact k1 (by simp only [op1]; rw [if_pos (by omega)])
  · refine ZCt.of' (L0 := [_, _, _, _, _]) (by omega) rfl rfl rfl (fun d hd1 => ?_)
    change ZWp d zt69 0 [zi 318, _, _, _, _] [] σ f g Q
    refine r_iload_n rfl rfl ?_
    refine r_lsw rfl (by omega) (And.intro (fun e => absurd e (by decide)) (fun _ => (And.intro (fun e => absurd e (by decide)) (fun _ => (And.intro (fun e => absurd e (by decide)) (fun _ => (And.intro (fun _ => ?_) (fun e => absurd rfl e))))))))
    refine r_lload_n rfl rfl ?_
    refine r_lload_n rfl rfl ?_
    refine r_lcmpW rfl (fun w82 e82a e82b e82c => ?_)
    refine r_if_lt rfl (by omega) (fun h83 => ?_) (fun h83 => ?_)
    · refine r_iconst rfl ?_
      refine r_zret rfl (by omega) ?_
      exact k2 (by simp only [op1]; rw [if_neg (by omega)])
    · refine r_iconst rfl ?_
      refine r_goto rfl ?_
      refine r_zret rfl (by omega) ?_
      exact k1 (by simp only [op1]; rw [if_pos (by omega)])
  · refine ZCt.of' (L0 := [_, _, _, _, _]) (by omega) rfl rfl rfl (fun d hd1 => ?_)
    change ZWp d zt69 0 [zi 62, _, _, _, _] [] σ f g Q
    refine r_iload_n rfl rfl ?_
    refine r_lsw rfl (by omega) (And.intro (fun e => absurd e (by decide)) (fun _ => (And.intro (fun e => absurd e (by decide)) (fun _ => (And.intro (fun e => absurd e (by decide)) (fun _ => (And.intro (fun e => absurd e (by decide)) (fun _ => ?_))))))))
    refine r_lload_n rfl rfl ?_
    refine r_lload_n rfl rfl ?_
    refine r_lcmpW rfl (fun w94 e94a e94b e94c => ?_)
    refine r_if_le rfl (by omega) (fun h95 => ?_) (fun h95 => ?_)
    · refine r_iconst rfl ?_
      refine r_zret rfl (by omega) ?_
      exact k2 (by simp only [op1]; rw [if_neg (by omega)])
    · refine r_iconst rfl ?_
      refine r_goto rfl ?_
      refine r_zret rfl (by omega) ?_
      exact k1 (by simp only [op1]; rw [if_pos (by omega)])
theorem k_join (hd : 2 ≤ d) {s : Nat} (hs : VOp s) {x y : Int} (K : Q (some (zl (op1 s x y))) σ f g) : ZCt d 68 [zi (opc s), zl x, zl y] σ f g Q := by
  have hw0 := wl_zero
  rcases hs with rfl | rfl | rfl | rfl | rfl | rfl | rfl | rfl | rfl | rfl | rfl | rfl
  · refine ZCt.of' (L0 := [_, _, _, _, _]) (by omega) rfl rfl rfl (fun d hd1 => ?_)
    change ZWp d zt68 0 [zi 43, _, _, _, _] [] σ f g Q
    refine r_iload_n rfl rfl ?_
    refine r_lsw rfl (by omega) (And.intro (fun e => absurd e (by decide)) (fun _ => (And.intro (fun e => absurd e (by decide)) (fun _ => (And.intro (fun e => absurd e (by decide)) (fun _ => (And.intro (fun _ => ?_) (fun e => absurd rfl e))))))))
    refine r_lload_n rfl rfl ?_
    refine r_lload_n rfl rfl ?_
    refine r_ladd rfl ?_
    refine r_lret rfl ?_
    exact K
  · refine ZCt.of' (L0 := [_, _, _, _, _]) (by omega) rfl rfl rfl (fun d hd1 => ?_)
    change ZWp d zt68 0 [zi 45, _, _, _, _] [] σ f g Q
    refine r_iload_n rfl rfl ?_
    refine r_lsw rfl (by omega) (And.intro (fun e => absurd e (by decide)) (fun _ => (And.intro (fun e => absurd e (by decide)) (fun _ => (And.intro (fun e => absurd e (by decide)) (fun _ => (And.intro (fun e => absurd e (by decide)) (fun _ => (And.intro (fun _ => ?_) (fun e => absurd rfl e))))))))))
    refine r_lload_n rfl rfl ?_
    refine r_lload_n rfl rfl ?_
    refine r_lsub rfl ?_
    refine r_lret rfl ?_
    exact K
  · refine ZCt.of' (L0 := [_, _, _, _, _]) (by omega) rfl rfl rfl (fun d hd1 => ?_)
    change ZWp d zt68 0 [zi 42, _, _, _, _] [] σ f g Q
    refine r_iload_n rfl rfl ?_
    refine r_lsw rfl (by omega) (And.intro (fun e => absurd e (by decide)) (fun _ => (And.intro (fun e => absurd e (by decide)) (fun _ => (And.intro (fun _ => ?_) (fun e => absurd rfl e))))))
    refine r_lload_n rfl rfl ?_
    refine r_lload_n rfl rfl ?_
    refine r_lmul rfl ?_
    refine r_lret rfl ?_
    exact K
  · refine ZCt.of' (L0 := [_, _, _, _, _]) (by omega) rfl rfl rfl (fun d hd1 => ?_)
    change ZWp d zt68 0 [zi 47, _, _, _, _] [] σ f g Q
    refine r_iload_n rfl rfl ?_
    refine r_lsw rfl (by omega) (And.intro (fun e => absurd e (by decide)) (fun _ => (And.intro (fun e => absurd e (by decide)) (fun _ => (And.intro (fun e => absurd e (by decide)) (fun _ => (And.intro (fun e => absurd e (by decide)) (fun _ => (And.intro (fun e => absurd e (by decide)) (fun _ => (And.intro (fun _ => ?_) (fun e => absurd rfl e))))))))))))
    refine r_lload_n rfl rfl ?_
    refine r_lconst rfl ?_
    refine r_lcmpW rfl (fun w82 e82a e82b e82c => ?_)
    refine r_if_ne rfl (by omega) (fun h83 => ?_) (fun h83 => ?_)
    · refine r_lload_n rfl rfl ?_
      refine r_lload_n rfl rfl ?_
      refine r_ldiv rfl (by omega) ?_
      refine r_lret rfl ?_
      first | (simp only [op1] at K; rw [if_pos (by omega)] at K; exact K) | (simp only [op1] at K; rw [if_neg (by omega)] at K; exact K)
    · refine r_lconst rfl ?_
      refine r_goto rfl ?_
      refine r_lret rfl ?_
      first | (simp only [op1] at K; rw [if_pos (by omega)] at K; exact K) | (simp only [op1] at K; rw [if_neg (by omega)] at K; exact K)
  · refine ZCt.of' (L0 := [_, _, _, _, _]) (by omega) rfl rfl rfl (fun d hd1 => ?_)
    change ZWp d zt68 0 [zi 60, _, _, _, _] [] σ f g Q
    refine r_iload_n rfl rfl ?_
    refine r_lsw rfl (by omega) (And.intro (fun e => absurd e (by decide)) (fun _ => (And.intro (fun e => absurd e (by decide)) (fun _ => (And.intro (fun e => absurd e (by decide)) (fun _ => (And.intro (fun e => absurd e (by decide)) (fun _ => (And.intro (fun e => absurd e (by decide)) (fun _ => (And.intro (fun e => absurd e (by decide)) (fun _ => (And.intro (fun e => absurd e (by decide)) (fun _ => ?_))))))))))))))
    refine r_iload_n rfl rfl ?_
    refine r_lload_n rfl rfl ?_
    refine r_lload_n rfl rfl ?_
    refine r_callS3 rfl rfl rfl (k_compared (s := 6) (by omega) (by decide) (fun hcm => ?_) (fun hcm => ?_))
    · refine r_if_n rfl (by decide) ?_
      refine r_lconst rfl ?_
      refine r_goto rfl ?_
      refine r_lret rfl ?_
      rw [hcm] at K
      exact K
    · refine r_if_y rfl (by decide) ?_
      refine r_lconst rfl ?_
      refine r_lret rfl ?_
      rw [hcm] at K
      exact K
  · refine ZCt.of' (L0 := [_, _, _, _, _]) (by omega) rfl rfl rfl (fun d hd1 => ?_)
    change ZWp d zt68 0 [zi 316, _, _, _, _] [] σ f g Q
    refine r_iload_n rfl rfl ?_
    refine r_lsw rfl (by omega) (And.intro (fun e => absurd e (by decide)) (fun _ => (And.intro (fun e => absurd e (by decide)) (fun _ => (And.intro (fun e => absurd e (by decide)) (fun _ => (And.intro (fun e => absurd e (by decide)) (fun _ => (And.intro (fun e => absurd e (by decide)) (fun _ => (And.intro (fun e => absurd e (by decide)) (fun _ => (And.intro (fun e => absurd e (by decide)) (fun _ => ?_))))))))))))))
    refine r_iload_n rfl rfl ?_
    refine r_lload_n rfl rfl ?_
    refine r_lload_n rfl rfl ?_
    refine r_callS3 rfl rfl rfl (k_compared (s := 7) (by omega) (by decide) (fun hcm => ?_) (fun hcm => ?_))
    · refine r_if_n rfl (by decide) ?_
      refine r_lconst rfl ?_
      refine r_goto rfl ?_
      refine r_lret rfl ?_
      rw [hcm] at K
      exact K
    · refine r_if_y rfl (by decide) ?_
      refine r_lconst rfl ?_
      refine r_lret rfl ?_
      rw [hcm] at K
      exact K
  · refine ZCt.of' (L0 := [_, _, _, _, _]) (by omega) rfl rfl rfl (fun d hd1 => ?_)
    change ZWp d zt68 0 [zi 61, _, _, _, _] [] σ f g Q
    refine r_iload_n rfl rfl ?_
    refine r_lsw rfl (by omega) (And.intro (fun e => absurd e (by decide)) (fun _ => (And.intro (fun e => absurd e (by decide)) (fun _ => (And.intro (fun e => absurd e (by decide)) (fun _ => (And.intro (fun e => absurd e (by decide)) (fun _ => (And.intro (fun e => absurd e (by decide)) (fun _ => (And.intro (fun e => absurd e (by decide)) (fun _ => (And.intro (fun e => absurd e (by decide)) (fun _ => ?_))))))))))))))
    refine r_iload_n rfl rfl ?_
    refine r_lload_n rfl rfl ?_
    refine r_lload_n rfl rfl ?_
    refine r_callS3 rfl rfl rfl (k_compared (s := 8) (by omega) (by decide) (fun hcm => ?_) (fun hcm => ?_))
    · refine r_if_n rfl (by decide) ?_
      refine r_lconst rfl ?_
      refine r_goto rfl ?_
      refine r_lret rfl ?_
      rw [hcm] at K
      exact K
    · refine r_if_y rfl (by decide) ?_
      refine r_lconst rfl ?_
      refine r_lret rfl ?_
      rw [hcm] at K
      exact K
  · refine ZCt.of' (L0 := [_, _, _, _, _]) (by omega) rfl rfl rfl (fun d hd1 => ?_)
    change ZWp d zt68 0 [zi 318, _, _, _, _] [] σ f g Q
    refine r_iload_n rfl rfl ?_
    refine r_lsw rfl (by omega) (And.intro (fun e => absurd e (by decide)) (fun _ => (And.intro (fun e => absurd e (by decide)) (fun _ => (And.intro (fun e => absurd e (by decide)) (fun _ => (And.intro (fun e => absurd e (by decide)) (fun _ => (And.intro (fun e => absurd e (by decide)) (fun _ => (And.intro (fun e => absurd e (by decide)) (fun _ => (And.intro (fun e => absurd e (by decide)) (fun _ => ?_))))))))))))))
    refine r_iload_n rfl rfl ?_
    refine r_lload_n rfl rfl ?_
    refine r_lload_n rfl rfl ?_
    refine r_callS3 rfl rfl rfl (k_compared (s := 9) (by omega) (by decide) (fun hcm => ?_) (fun hcm => ?_))
    · refine r_if_n rfl (by decide) ?_
      refine r_lconst rfl ?_
      refine r_goto rfl ?_
      refine r_lret rfl ?_
      rw [hcm] at K
      exact K
    · refine r_if_y rfl (by decide) ?_
      refine r_lconst rfl ?_
      refine r_lret rfl ?_
      rw [hcm] at K
      exact K
  · refine ZCt.of' (L0 := [_, _, _, _, _]) (by omega) rfl rfl rfl (fun d hd1 => ?_)
    change ZWp d zt68 0 [zi 62, _, _, _, _] [] σ f g Q
    refine r_iload_n rfl rfl ?_
    refine r_lsw rfl (by omega) (And.intro (fun e => absurd e (by decide)) (fun _ => (And.intro (fun e => absurd e (by decide)) (fun _ => (And.intro (fun e => absurd e (by decide)) (fun _ => (And.intro (fun e => absurd e (by decide)) (fun _ => (And.intro (fun e => absurd e (by decide)) (fun _ => (And.intro (fun e => absurd e (by decide)) (fun _ => (And.intro (fun e => absurd e (by decide)) (fun _ => ?_))))))))))))))
    refine r_iload_n rfl rfl ?_
    refine r_lload_n rfl rfl ?_
    refine r_lload_n rfl rfl ?_
    refine r_callS3 rfl rfl rfl (k_compared (s := 10) (by omega) (by decide) (fun hcm => ?_) (fun hcm => ?_))
    · refine r_if_n rfl (by decide) ?_
      refine r_lconst rfl ?_
      refine r_goto rfl ?_
      refine r_lret rfl ?_
      rw [hcm] at K
      exact K
    · refine r_if_y rfl (by decide) ?_
      refine r_lconst rfl ?_
      refine r_lret rfl ?_
      rw [hcm] at K
      exact K
  · refine ZCt.of' (L0 := [_, _, _, _, _]) (by omega) rfl rfl rfl (fun d hd1 => ?_)
    change ZWp d zt68 0 [zi 38, _, _, _, _] [] σ f g Q
    refine r_iload_n rfl rfl ?_
    refine r_lsw rfl (by omega) (And.intro (fun e => absurd e (by decide)) (fun _ => (And.intro (fun _ => ?_) (fun e => absurd rfl e))))
    refine r_lload_n rfl rfl ?_
    refine r_lload_n rfl rfl ?_
    refine r_land rfl ?_
    refine r_lret rfl ?_
    exact K
  · refine ZCt.of' (L0 := [_, _, _, _, _]) (by omega) rfl rfl rfl (fun d hd1 => ?_)
    change ZWp d zt68 0 [zi 124, _, _, _, _] [] σ f g Q
    refine r_iload_n rfl rfl ?_
    refine r_lsw rfl (by omega) (And.intro (fun e => absurd e (by decide)) (fun _ => (And.intro (fun e => absurd e (by decide)) (fun _ => (And.intro (fun e => absurd e (by decide)) (fun _ => (And.intro (fun e => absurd e (by decide)) (fun _ => (And.intro (fun e => absurd e (by decide)) (fun _ => (And.intro (fun e => absurd e (by decide)) (fun _ => (And.intro (fun _ => ?_) (fun e => absurd rfl e))))))))))))))
    refine r_lload_n rfl rfl ?_
    refine r_lload_n rfl rfl ?_
    refine r_lor rfl ?_
    refine r_lret rfl ?_
    exact K
  · refine ZCt.of' (L0 := [_, _, _, _, _]) (by omega) rfl rfl rfl (fun d hd1 => ?_)
    change ZWp d zt68 0 [zi 37, _, _, _, _] [] σ f g Q
    refine r_iload_n rfl rfl ?_
    refine r_lsw rfl (by omega) (And.intro (fun _ => ?_) (fun e => absurd rfl e))
    refine r_lload_n rfl rfl ?_
    refine r_lconst rfl ?_
    refine r_lcmpW rfl (fun w96 e96a e96b e96c => ?_)
    refine r_if_ne rfl (by omega) (fun h97 => ?_) (fun h97 => ?_)
    · refine r_lload_n rfl rfl ?_
      refine r_lload_n rfl rfl ?_
      refine r_lrem rfl (by omega) ?_
      refine r_lret rfl ?_
      first | (simp only [op1] at K; rw [if_pos (by omega)] at K; exact K) | (simp only [op1] at K; rw [if_neg (by omega)] at K; exact K)
    · refine r_lconst rfl ?_
      refine r_goto rfl ?_
      refine r_lret rfl ?_
      first | (simp only [op1] at K; rw [if_pos (by omega)] at K; exact K) | (simp only [op1] at K; rw [if_neg (by omega)] at K; exact K)
theorem c_one (hd : 1 ≤ d) {s : Nat} (hs : VOp s) {x y : Int} (K : Q (some (zl (op1 s x y))) σ f g) : ZCt d 202 [zi (s : Int), zl x, zl y] σ f g Q := by
  have hw0 := wl_zero
  rcases hs with rfl | rfl | rfl | rfl | rfl | rfl | rfl | rfl | rfl | rfl | rfl | rfl
  · refine ZCt.of' (L0 := [_, _, _, _, _]) (by omega) rfl rfl rfl (fun d hd1 => ?_)
    change ZWp d zt202 0 [zi 2, _, _, _, _] [] σ f g Q
    refine r_iload_n rfl rfl ?_
    refine r_tsw rfl (by omega) rfl (And.intro (fun _ => ?_) (fun e => absurd rfl e))
    refine r_lload_n rfl rfl ?_
    refine r_lload_n rfl rfl ?_
    refine r_ladd rfl ?_
    refine r_lret rfl ?_
    exact K
  · refine ZCt.of' (L0 := [_, _, _, _, _]) (by omega) rfl rfl rfl (fun d hd1 => ?_)
    change ZWp d zt202 0 [zi 3, _, _, _, _] [] σ f g Q
    refine r_iload_n rfl rfl ?_
    refine r_tsw rfl (by omega) rfl (And.intro (fun e => absurd e (by decide)) (fun _ => (And.intro (fun _ => ?_) (fun e => absurd rfl e))))
    refine r_lload_n rfl rfl ?_
    refine r_lload_n rfl rfl ?_
    refine r_lsub rfl ?_
    refine r_lret rfl ?_
    exact K
  · refine ZCt.of' (L0 := [_, _, _, _, _]) (by omega) rfl rfl rfl (fun d hd1 => ?_)
    change ZWp d zt202 0 [zi 4, _, _, _, _] [] σ f g Q
    refine r_iload_n rfl rfl ?_
    refine r_tsw rfl (by omega) rfl (And.intro (fun e => absurd e (by decide)) (fun _ => (And.intro (fun e => absurd e (by decide)) (fun _ => (And.intro (fun _ => ?_) (fun e => absurd rfl e))))))
    refine r_lload_n rfl rfl ?_
    refine r_lload_n rfl rfl ?_
    refine r_lmul rfl ?_
    refine r_lret rfl ?_
    exact K
  · refine ZCt.of' (L0 := [_, _, _, _, _]) (by omega) rfl rfl rfl (fun d hd1 => ?_)
    change ZWp d zt202 0 [zi 5, _, _, _, _] [] σ f g Q
    refine r_iload_n rfl rfl ?_
    refine r_tsw rfl (by omega) rfl (And.intro (fun e => absurd e (by decide)) (fun _ => (And.intro (fun e => absurd e (by decide)) (fun _ => (And.intro (fun e => absurd e (by decide)) (fun _ => (And.intro (fun _ => ?_) (fun e => absurd rfl e))))))))
    refine r_lload_n rfl rfl ?_
    refine r_lconst rfl ?_
    refine r_lcmpW rfl (fun w82 e82a e82b e82c => ?_)
    refine r_if_ne rfl (by omega) (fun h83 => ?_) (fun h83 => ?_)
    · refine r_lload_n rfl rfl ?_
      refine r_lload_n rfl rfl ?_
      refine r_ldiv rfl (by omega) ?_
      refine r_lret rfl ?_
      first | (simp only [op1] at K; rw [if_pos (by omega)] at K; exact K) | (simp only [op1] at K; rw [if_neg (by omega)] at K; exact K)
    · refine r_lconst rfl ?_
      refine r_goto rfl ?_
      refine r_lret rfl ?_
      first | (simp only [op1] at K; rw [if_pos (by omega)] at K; exact K) | (simp only [op1] at K; rw [if_neg (by omega)] at K; exact K)
  · refine ZCt.of' (L0 := [_, _, _, _, _]) (by omega) rfl rfl rfl (fun d hd1 => ?_)
    change ZWp d zt202 0 [zi 6, _, _, _, _] [] σ f g Q
    refine r_iload_n rfl rfl ?_
    refine r_tsw rfl (by omega) rfl (And.intro (fun e => absurd e (by decide)) (fun _ => (And.intro (fun e => absurd e (by decide)) (fun _ => (And.intro (fun e => absurd e (by decide)) (fun _ => (And.intro (fun e => absurd e (by decide)) (fun _ => (And.intro (fun _ => ?_) (fun e => absurd rfl e))))))))))
    refine r_lload_n rfl rfl ?_
    refine r_lload_n rfl rfl ?_
    refine r_lcmpW rfl (fun w110 e110a e110b e110c => ?_)
    refine r_if_ge rfl (by omega) (fun h111 => ?_) (fun h111 => ?_)
    · refine r_lconst rfl ?_
      refine r_lret rfl ?_
      first | (simp only [op1] at K; rw [if_pos (by omega)] at K; exact K) | (simp only [op1] at K; rw [if_neg (by omega)] at K; exact K)
    · refine r_lconst rfl ?_
      refine r_goto rfl ?_
      refine r_lret rfl ?_
      first | (simp only [op1] at K; rw [if_pos (by omega)] at K; exact K) | (simp only [op1] at K; rw [if_neg (by omega)] at K; exact K)
  · refine ZCt.of' (L0 := [_, _, _, _, _]) (by omega) rfl rfl rfl (fun d hd1 => ?_)
    change ZWp d zt202 0 [zi 7, _, _, _, _] [] σ f g Q
    refine r_iload_n rfl rfl ?_
    refine r_tsw rfl (by omega) rfl (And.intro (fun e => absurd e (by decide)) (fun _ => (And.intro (fun e => absurd e (by decide)) (fun _ => (And.intro (fun e => absurd e (by decide)) (fun _ => (And.intro (fun e => absurd e (by decide)) (fun _ => (And.intro (fun e => absurd e (by decide)) (fun _ => (And.intro (fun _ => ?_) (fun e => absurd rfl e))))))))))))
    refine r_lload_n rfl rfl ?_
    refine r_lload_n rfl rfl ?_
    refine r_lcmpW rfl (fun w122 e122a e122b e122c => ?_)
    refine r_if_gt rfl (by omega) (fun h123 => ?_) (fun h123 => ?_)
    · refine r_lconst rfl ?_
      refine r_lret rfl ?_
      first | (simp only [op1] at K; rw [if_pos (by omega)] at K; exact K) | (simp only [op1] at K; rw [if_neg (by omega)] at K; exact K)
    · refine r_lconst rfl ?_
      refine r_goto rfl ?_
      refine r_lret rfl ?_
      first | (simp only [op1] at K; rw [if_pos (by omega)] at K; exact K) | (simp only [op1] at K; rw [if_neg (by omega)] at K; exact K)
  · refine ZCt.of' (L0 := [_, _, _, _, _]) (by omega) rfl rfl rfl (fun d hd1 => ?_)
    change ZWp d zt202 0 [zi 8, _, _, _, _] [] σ f g Q
    refine r_iload_n rfl rfl ?_
    refine r_tsw rfl (by omega) rfl (And.intro (fun e => absurd e (by decide)) (fun _ => (And.intro (fun e => absurd e (by decide)) (fun _ => (And.intro (fun e => absurd e (by decide)) (fun _ => (And.intro (fun e => absurd e (by decide)) (fun _ => (And.intro (fun e => absurd e (by decide)) (fun _ => (And.intro (fun e => absurd e (by decide)) (fun _ => (And.intro (fun _ => ?_) (fun e => absurd rfl e))))))))))))))
    refine r_lload_n rfl rfl ?_
    refine r_lload_n rfl rfl ?_
    refine r_lcmpW rfl (fun w134 e134a e134b e134c => ?_)
    refine r_if_ne rfl (by omega) (fun h135 => ?_) (fun h135 => ?_)
    · refine r_lconst rfl ?_
      refine r_lret rfl ?_
      first | (simp only [op1] at K; rw [if_pos (by omega)] at K; exact K) | (simp only [op1] at K; rw [if_neg (by omega)] at K; exact K)
    · refine r_lconst rfl ?_
      refine r_goto rfl ?_
      refine r_lret rfl ?_
      first | (simp only [op1] at K; rw [if_pos (by omega)] at K; exact K) | (simp only [op1] at K; rw [if_neg (by omega)] at K; exact K)
  · refine ZCt.of' (L0 := [_, _, _, _, _]) (by omega) rfl rfl rfl (fun d hd1 => ?_)
    change ZWp d zt202 0 [zi 9, _, _, _, _] [] σ f g Q
    refine r_iload_n rfl rfl ?_
    refine r_tsw rfl (by omega) rfl (And.intro (fun e => absurd e (by decide)) (fun _ => (And.intro (fun e => absurd e (by decide)) (fun _ => (And.intro (fun e => absurd e (by decide)) (fun _ => (And.intro (fun e => absurd e (by decide)) (fun _ => (And.intro (fun e => absurd e (by decide)) (fun _ => (And.intro (fun e => absurd e (by decide)) (fun _ => (And.intro (fun e => absurd e (by decide)) (fun _ => (And.intro (fun _ => ?_) (fun e => absurd rfl e))))))))))))))))
    refine r_lload_n rfl rfl ?_
    refine r_lload_n rfl rfl ?_
    refine r_lcmpW rfl (fun w146 e146a e146b e146c => ?_)
    refine r_if_lt rfl (by omega) (fun h147 => ?_) (fun h147 => ?_)
    · refine r_lconst rfl ?_
      refine r_lret rfl ?_
      first | (simp only [op1] at K; rw [if_pos (by omega)] at K; exact K) | (simp only [op1] at K; rw [if_neg (by omega)] at K; exact K)
    · refine r_lconst rfl ?_
      refine r_goto rfl ?_
      refine r_lret rfl ?_
      first | (simp only [op1] at K; rw [if_pos (by omega)] at K; exact K) | (simp only [op1] at K; rw [if_neg (by omega)] at K; exact K)
  · refine ZCt.of' (L0 := [_, _, _, _, _]) (by omega) rfl rfl rfl (fun d hd1 => ?_)
    change ZWp d zt202 0 [zi 10, _, _, _, _] [] σ f g Q
    refine r_iload_n rfl rfl ?_
    refine r_tsw rfl (by omega) rfl (And.intro (fun e => absurd e (by decide)) (fun _ => (And.intro (fun e => absurd e (by decide)) (fun _ => (And.intro (fun e => absurd e (by decide)) (fun _ => (And.intro (fun e => absurd e (by decide)) (fun _ => (And.intro (fun e => absurd e (by decide)) (fun _ => (And.intro (fun e => absurd e (by decide)) (fun _ => (And.intro (fun e => absurd e (by decide)) (fun _ => (And.intro (fun e => absurd e (by decide)) (fun _ => (And.intro (fun _ => ?_) (fun e => absurd rfl e))))))))))))))))))
    refine r_lload_n rfl rfl ?_
    refine r_lload_n rfl rfl ?_
    refine r_lcmpW rfl (fun w158 e158a e158b e158c => ?_)
    refine r_if_le rfl (by omega) (fun h159 => ?_) (fun h159 => ?_)
    · refine r_lconst rfl ?_
      refine r_lret rfl ?_
      first | (simp only [op1] at K; rw [if_pos (by omega)] at K; exact K) | (simp only [op1] at K; rw [if_neg (by omega)] at K; exact K)
    · refine r_lconst rfl ?_
      refine r_goto rfl ?_
      refine r_lret rfl ?_
      first | (simp only [op1] at K; rw [if_pos (by omega)] at K; exact K) | (simp only [op1] at K; rw [if_neg (by omega)] at K; exact K)
  · refine ZCt.of' (L0 := [_, _, _, _, _]) (by omega) rfl rfl rfl (fun d hd1 => ?_)
    change ZWp d zt202 0 [zi 12, _, _, _, _] [] σ f g Q
    refine r_iload_n rfl rfl ?_
    refine r_tsw rfl (by omega) rfl (And.intro (fun e => absurd e (by decide)) (fun _ => (And.intro (fun e => absurd e (by decide)) (fun _ => (And.intro (fun e => absurd e (by decide)) (fun _ => (And.intro (fun e => absurd e (by decide)) (fun _ => (And.intro (fun e => absurd e (by decide)) (fun _ => (And.intro (fun e => absurd e (by decide)) (fun _ => (And.intro (fun e => absurd e (by decide)) (fun _ => (And.intro (fun e => absurd e (by decide)) (fun _ => (And.intro (fun e => absurd e (by decide)) (fun _ => (And.intro (fun e => absurd e (by decide)) (fun _ => (And.intro (fun _ => ?_) (fun e => absurd rfl e))))))))))))))))))))))
    refine r_lload_n rfl rfl ?_
    refine r_lload_n rfl rfl ?_
    refine r_land rfl ?_
    refine r_lret rfl ?_
    exact K
  · refine ZCt.of' (L0 := [_, _, _, _, _]) (by omega) rfl rfl rfl (fun d hd1 => ?_)
    change ZWp d zt202 0 [zi 13, _, _, _, _] [] σ f g Q
    refine r_iload_n rfl rfl ?_
    refine r_tsw rfl (by omega) rfl (And.intro (fun e => absurd e (by decide)) (fun _ => (And.intro (fun e => absurd e (by decide)) (fun _ => (And.intro (fun e => absurd e (by decide)) (fun _ => (And.intro (fun e => absurd e (by decide)) (fun _ => (And.intro (fun e => absurd e (by decide)) (fun _ => (And.intro (fun e => absurd e (by decide)) (fun _ => (And.intro (fun e => absurd e (by decide)) (fun _ => (And.intro (fun e => absurd e (by decide)) (fun _ => (And.intro (fun e => absurd e (by decide)) (fun _ => (And.intro (fun e => absurd e (by decide)) (fun _ => (And.intro (fun e => absurd e (by decide)) (fun _ => (And.intro (fun _ => ?_) (fun e => absurd rfl e))))))))))))))))))))))))
    refine r_lload_n rfl rfl ?_
    refine r_lload_n rfl rfl ?_
    refine r_lor rfl ?_
    refine r_lret rfl ?_
    exact K
  · refine ZCt.of' (L0 := [_, _, _, _, _]) (by omega) rfl rfl rfl (fun d hd1 => ?_)
    change ZWp d zt202 0 [zi 14, _, _, _, _] [] σ f g Q
    refine r_iload_n rfl rfl ?_
    refine r_tsw rfl (by omega) rfl (And.intro (fun e => absurd e (by decide)) (fun _ => (And.intro (fun e => absurd e (by decide)) (fun _ => (And.intro (fun e => absurd e (by decide)) (fun _ => (And.intro (fun e => absurd e (by decide)) (fun _ => (And.intro (fun e => absurd e (by decide)) (fun _ => (And.intro (fun e => absurd e (by decide)) (fun _ => (And.intro (fun e => absurd e (by decide)) (fun _ => (And.intro (fun e => absurd e (by decide)) (fun _ => (And.intro (fun e => absurd e (by decide)) (fun _ => (And.intro (fun e => absurd e (by decide)) (fun _ => (And.intro (fun e => absurd e (by decide)) (fun _ => (And.intro (fun e => absurd e (by decide)) (fun _ => (And.intro (fun _ => ?_) (fun e => absurd rfl e))))))))))))))))))))))))))
    refine r_lload_n rfl rfl ?_
    refine r_lconst rfl ?_
    refine r_lcmpW rfl (fun w96 e96a e96b e96c => ?_)
    refine r_if_ne rfl (by omega) (fun h97 => ?_) (fun h97 => ?_)
    · refine r_lload_n rfl rfl ?_
      refine r_lload_n rfl rfl ?_
      refine r_lrem rfl (by omega) ?_
      refine r_lret rfl ?_
      first | (simp only [op1] at K; rw [if_pos (by omega)] at K; exact K) | (simp only [op1] at K; rw [if_neg (by omega)] at K; exact K)
    · refine r_lconst rfl ?_
      refine r_goto rfl ?_
      refine r_lret rfl ?_
      first | (simp only [op1] at K; rw [if_pos (by omega)] at K; exact K) | (simp only [op1] at K; rw [if_neg (by omega)] at K; exact K)
/-- the stack has changed from s on -/
def StF (t : Nat) (f f' : ZF) (s : Nat) : Prop := (∀ c, c ≠ t → f' c = f c) ∧ ∀ j, j < s → f' t j = f t j
theorem StF.rf (t : Nat) (f : ZF) (s : Nat) : StF t f f s := ⟨fun _ _ => rfl, fun _ _ => rfl⟩
theorem StF.trans {t s s' : Nat} {a b c : ZF} (h1 : StF t a b s) (h2 : StF t b c s') (hs : s ≤ s') : StF t a c s := ⟨fun k q => (h2.1 k q).trans (h1.1 k q), fun j q => (h2.2 j (by omega)).trans (h1.2 j q)⟩
theorem StF.up {t s i : Nat} {f0 f : ZF} {v : Int} (h : StF t f0 f s) (hi : s ≤ i) : StF t f0 (up2 f t i v) s := h.trans (s' := s) ⟨fun c q => up2_o _ _ q, fun j q => up2_ne _ _ (fun z => by omega)⟩ (Nat.le_refl _)
theorem l_alN (hd : 0 ≤ d) {q c len : Nat} {x5 x6 x7 x8 : ZV} (hO : zO σ q 7) (hg : g q 0 = some c) (hc : zA σ c 100 len) (hlen : len ≤ 400) (hw : zA σ 23 103 10) (hst : zA σ 24 103 60) (hc24 : c ≠ 24) {i s : Nat} {v : Int} (hi : i < len) (hs : s < 60) (hcode : f c i = v) (hv : 0 ≤ v ∧ v ≤ 99999) (K : ∀ x5 x6, ZWp d zt66 5 [zr (some q), zr (some 23), zr (some 24), zi ((s + 1 : Nat) : Int), zi ((i + 1 : Nat) : Int), x5, x6, x7, x8] [] σ (up2 f 24 s v) g Q) : ZWp d zt66 5 [zr (some q), zr (some 23), zr (some 24), zi (s : Int), zi (i : Int), x5, x6, x7, x8] [] σ f g Q := by
  refine r_iload rfl rfl ?_
  refine r_aload_n rfl rfl ?_
  refine r_getR rfl (by first | assumption | exact hs.o rfl) (by first | assumption | exact hs.g rfl) ?_
  refine r_alen rfl (by first | assumption | exact hs.a rfl) (by omega) (by omega) ?_
  refine r_icmp_ge rfl (by omega) (by omega) (fun h12 => ?_) (fun h12 => ?_)
  · exfalso; omega
  · refine r_aload_n rfl rfl ?_
    refine r_getR rfl (by first | assumption | exact hs.o rfl) (by first | assumption | exact hs.g rfl) ?_
    refine r_iload rfl rfl ?_
    refine r_iald rfl (by first | assumption | exact hs.a rfl) (by omega) (by omega) ((zix (n := i) (by omega)).trans hcode) ?_
    refine r_istore (L' := [_, _, _, _, _, _, _, _, _]) rfl rfl rfl ?_
    refine r_iload rfl rfl ?_
    refine r_ldc rfl ?_
    refine r_isub rfl ?_
    refine r_istore (L' := [_, _, _, _, _, _, _, _, _]) rfl rfl rfl ?_
    refine r_iload rfl rfl ?_
    refine r_if_ge rfl (by omega) (fun h33 => ?_) (fun h33 => ?_)
    · exfalso; omega
    · refine r_iload_n rfl rfl ?_
      refine r_aload_n rfl rfl ?_
      refine r_alen rfl (by first | assumption | exact hs.a rfl) (by omega) (by omega) ?_
      refine r_icmp_lt rfl (by omega) (by omega) (fun h39 => ?_) (fun h39 => ?_)
      · refine r_aload_n rfl rfl ?_
        refine r_iload_n rfl rfl ?_
        refine r_iload rfl rfl ?_
        refine r_ldc rfl ?_
        refine r_icmp_ge rfl (by omega) (by omega) (fun h50 => ?_) (fun h50 => ?_)
        · exfalso; omega
        · refine r_iload rfl rfl ?_
          refine r_i2l rfl (by omega) ?_
          refine r_goto rfl ?_
          refine r_lastN (s) rfl (by first | assumption | exact hs.a rfl) (by omega) (by omega) (by omega) ?_
          refine r_iinc (L' := [_, _, _, _, _, _, _, _, _]) rfl rfl rfl ?_
          refine r_goto rfl ?_
          refine r_iinc (L' := [_, _, _, _, _, _, _, _, _]) rfl rfl rfl ?_
          refine r_goto rfl ?_
          exact K _ _
      · exfalso; omega
theorem l_alW (hd : 0 ≤ d) {q c len : Nat} {x5 x6 x7 x8 : ZV} (hO : zO σ q 7) (hg : g q 0 = some c) (hc : zA σ c 100 len) (hlen : len ≤ 400) (hw : zA σ 23 103 10) (hst : zA σ 24 103 60) (hc24 : c ≠ 24) {i s w : Nat} (hi : i < len) (hs : s < 60) (hcode : f c i = 100000 + (w : Int)) (hv : w < 10) (K : ∀ x5 x6, ZWp d zt66 5 [zr (some q), zr (some 23), zr (some 24), zi ((s + 1 : Nat) : Int), zi ((i + 1 : Nat) : Int), x5, x6, x7, x8] [] σ (up2 f 24 s (f 23 w)) g Q) : ZWp d zt66 5 [zr (some q), zr (some 23), zr (some 24), zi (s : Int), zi (i : Int), x5, x6, x7, x8] [] σ f g Q := by
  refine r_iload rfl rfl ?_
  refine r_aload_n rfl rfl ?_
  refine r_getR rfl (by first | assumption | exact hs.o rfl) (by first | assumption | exact hs.g rfl) ?_
  refine r_alen rfl (by first | assumption | exact hs.a rfl) (by omega) (by omega) ?_
  refine r_icmp_ge rfl (by omega) (by omega) (fun h12 => ?_) (fun h12 => ?_)
  · exfalso; omega
  · refine r_aload_n rfl rfl ?_
    refine r_getR rfl (by first | assumption | exact hs.o rfl) (by first | assumption | exact hs.g rfl) ?_
    refine r_iload rfl rfl ?_
    refine r_iald rfl (by first | assumption | exact hs.a rfl) (by omega) (by omega) ((zix (n := i) (by omega)).trans hcode) ?_
    refine r_istore (L' := [_, _, _, _, _, _, _, _, _]) rfl rfl rfl ?_
    refine r_iload rfl rfl ?_
    refine r_ldc rfl ?_
    refine r_isub rfl ?_
    refine r_istore (L' := [_, _, _, _, _, _, _, _, _]) rfl rfl rfl ?_
    refine r_iload rfl rfl ?_
    refine r_if_ge rfl (by omega) (fun h33 => ?_) (fun h33 => ?_)
    · exfalso; omega
    · refine r_iload_n rfl rfl ?_
      refine r_aload_n rfl rfl ?_
      refine r_alen rfl (by first | assumption | exact hs.a rfl) (by omega) (by omega) ?_
      refine r_icmp_lt rfl (by omega) (by omega) (fun h39 => ?_) (fun h39 => ?_)
      · refine r_aload_n rfl rfl ?_
        refine r_iload_n rfl rfl ?_
        refine r_iload rfl rfl ?_
        refine r_ldc rfl ?_
        refine r_icmp_ge rfl (by omega) (by omega) (fun h50 => ?_) (fun h50 => ?_)
        · refine r_aload_n rfl rfl ?_
          refine r_iload rfl rfl ?_
          refine r_ldc rfl ?_
          refine r_isub rfl ?_
          refine r_lald rfl (by first | assumption | exact hs.a rfl) (by omega) (by omega) (zix (n := w) (by omega)) ?_
          refine r_lastN (s) rfl (by first | assumption | exact hs.a rfl) (by omega) (by omega) (by omega) ?_
          refine r_iinc (L' := [_, _, _, _, _, _, _, _, _]) rfl rfl rfl ?_
          refine r_goto rfl ?_
          refine r_iinc (L' := [_, _, _, _, _, _, _, _, _]) rfl rfl rfl ?_
          refine r_goto rfl ?_
          exact K _ _
        · exfalso; omega
      · exfalso; omega
theorem k_takes33 (hd : 1 ≤ d) (K : Q (some (zi 0)) σ f g) : ZCt d 67 [zi (100010 + 33 - 100010)] σ f g Q := by
  refine ZCt.of' (L0 := [_]) (by omega) rfl rfl rfl (fun d hd1 => ?_)
  refine r_iload_n rfl rfl ?_
  refine r_bipush rfl ?_
  refine r_icmp_eq rfl (by omega) (by omega) (fun h => by omega) (fun h => ?_)
  refine r_iload_n rfl rfl ?_
  refine r_bipush rfl ?_
  refine r_icmp_eq rfl (by omega) (by omega) (fun h => ?_) (fun h => by omega)
  refine r_iconst rfl ?_
  refine r_zret rfl (by omega) ?_
  exact K
theorem l_alT (hd : 1 ≤ d) {q c len : Nat} {x5 x6 x7 x8 : ZV} (hO : zO σ q 7) (hg : g q 0 = some c) (hc : zA σ c 100 len) (hlen : len ≤ 400) (hw : zA σ 23 103 10) (hst : zA σ 24 103 60) (hc24 : c ≠ 24) {i s : Nat} (hi : i < len) (hs : s < 60) (hcode : f c i = 100010 + 33) (K : ∀ x5 x6 x7 x8, ZWp d zt66 5 [zr (some q), zr (some 23), zr (some 24), zi ((s + 1 : Nat) : Int), zi ((i + 1 : Nat) : Int), x5, x6, x7, x8] [] σ (up2 f 24 s (1 - f 24 s)) g Q) : ZWp d zt66 5 [zr (some q), zr (some 23), zr (some 24), zi ((s + 1 : Nat) : Int), zi (i : Int), x5, x6, x7, x8] [] σ f g Q := by
  refine r_iload rfl rfl ?_
  refine r_aload_n rfl rfl ?_
  refine r_getR rfl (by first | assumption | exact hs.o rfl) (by first | assumption | exact hs.g rfl) ?_
  refine r_alen rfl (by first | assumption | exact hs.a rfl) (by omega) (by omega) ?_
  refine r_icmp_ge rfl (by omega) (by omega) (fun h12 => ?_) (fun h12 => ?_)
  · exfalso; omega
  · refine r_aload_n rfl rfl ?_
    refine r_getR rfl (by first | assumption | exact hs.o rfl) (by first | assumption | exact hs.g rfl) ?_
    refine r_iload rfl rfl ?_
    refine r_iald rfl (by first | assumption | exact hs.a rfl) (by omega) (by omega) ((zix (n := i) (by omega)).trans hcode) ?_
    refine r_istore (L' := [_, _, _, _, _, _, _, _, _]) rfl rfl rfl ?_
    refine r_iload rfl rfl ?_
    refine r_ldc rfl ?_
    refine r_isub rfl ?_
    refine r_istore (L' := [_, _, _, _, _, _, _, _, _]) rfl rfl rfl ?_
    refine r_iload rfl rfl ?_
    refine r_if_ge rfl (by omega) (fun h33 => ?_) (fun h33 => ?_)
    · refine r_iload_n rfl rfl ?_
      refine r_iconst rfl ?_
      refine r_icmp_lt rfl (by omega) (by omega) (fun h75 => ?_) (fun h75 => ?_)
      · exfalso; omega
      · refine r_iload_n rfl rfl ?_
        refine r_iconst rfl ?_
        refine r_icmp_ge rfl (by omega) (by omega) (fun h2 => ?_) (fun h2 => ?_)
        · refine r_aload_n rfl rfl ?_
          refine r_iload_n rfl rfl ?_
          refine r_iconst rfl ?_
          refine r_isub rfl ?_
          refine r_lald rfl (by first | assumption | exact hs.a rfl) (by omega) (by omega) (zix (n := s) (by omega)) ?_
          refine r_lstore (L' := [_, _, _, _, _, _, _, _, _]) rfl rfl rfl ?_
          refine r_iload rfl rfl ?_
          refine r_bipush rfl ?_
          refine r_icmp_ne rfl (by omega) (by omega) (fun h104 => ?_) (fun h104 => ?_)
          · refine r_iload rfl rfl ?_
            refine r_bipush rfl ?_
            refine r_icmp_ne rfl (by omega) (by omega) (fun h124 => ?_) (fun h124 => ?_)
            · exfalso; omega
            · refine r_aload_n rfl rfl ?_
              refine r_iload_n rfl rfl ?_
              refine r_iconst rfl ?_
              refine r_isub rfl ?_
              refine r_lconst rfl ?_
              refine r_lload rfl rfl ?_
              refine r_lsub rfl ?_
              refine r_lastN (s) rfl (by first | assumption | exact hs.a rfl) (by omega) (by omega) (by omega) ?_
              refine r_goto rfl ?_
              refine r_iinc (L' := [_, _, _, _, _, _, _, _, _]) rfl rfl rfl ?_
              refine r_goto rfl ?_
              exact K _ _ _ _
          · exfalso; omega
        · refine r_iload rfl rfl ?_
          refine r_callS1 rfl rfl rfl (k_takes33 (by omega) ?_)
          refine r_if_y rfl (by decide) ?_
          refine r_aload_n rfl rfl ?_
          refine r_iload_n rfl rfl ?_
          refine r_iconst rfl ?_
          refine r_isub rfl ?_
          refine r_lald rfl (by first | assumption | exact hs.a rfl) (by omega) (by omega) (zix (n := s) (by omega)) ?_
          refine r_lstore (L' := [_, _, _, _, _, _, _, _, _]) rfl rfl rfl ?_
          refine r_iload rfl rfl ?_
          refine r_bipush rfl ?_
          refine r_icmp_ne rfl (by omega) (by omega) (fun h104 => ?_) (fun h104 => ?_)
          · refine r_iload rfl rfl ?_
            refine r_bipush rfl ?_
            refine r_icmp_ne rfl (by omega) (by omega) (fun h124 => ?_) (fun h124 => ?_)
            · exfalso; omega
            · refine r_aload_n rfl rfl ?_
              refine r_iload_n rfl rfl ?_
              refine r_iconst rfl ?_
              refine r_isub rfl ?_
              refine r_lconst rfl ?_
              refine r_lload rfl rfl ?_
              refine r_lsub rfl ?_
              refine r_lastN (s) rfl (by first | assumption | exact hs.a rfl) (by omega) (by omega) (by omega) ?_
              refine r_goto rfl ?_
              refine r_iinc (L' := [_, _, _, _, _, _, _, _, _]) rfl rfl rfl ?_
              refine r_goto rfl ?_
              exact K _ _ _ _
          · exfalso; omega
    · exfalso; omega
theorem l_alO (hd : 2 ≤ d) {q c len : Nat} {x5 x6 x7 x8 : ZV} (hO : zO σ q 7) (hg : g q 0 = some c) (hc : zA σ c 100 len) (hlen : len ≤ 400) (hw : zA σ 23 103 10) (hst : zA σ 24 103 60) (hc24 : c ≠ 24) {i s o : Nat} (ho : VOp o) (hi : i < len) (hs : s + 1 < 60) (hcode : f c i = 100010 + opc o) (K : ∀ x5 x6 x7 x8, ZWp d zt66 5 [zr (some q), zr (some 23), zr (some 24), zi ((s + 1 : Nat) : Int), zi ((i + 1 : Nat) : Int), x5, x6, x7, x8] [] σ (up2 f 24 s (op1 o (f 24 s) (f 24 (s + 1)))) g Q) : ZWp d zt66 5 [zr (some q), zr (some 23), zr (some 24), zi ((s + 2 : Nat) : Int), zi (i : Int), x5, x6, x7, x8] [] σ f g Q := by
  have hor := opc_rng ho
  refine r_iload rfl rfl ?_
  refine r_aload_n rfl rfl ?_
  refine r_getR rfl (by first | assumption | exact hs.o rfl) (by first | assumption | exact hs.g rfl) ?_
  refine r_alen rfl (by first | assumption | exact hs.a rfl) (by omega) (by omega) ?_
  refine r_icmp_ge rfl (by omega) (by omega) (fun h12 => ?_) (fun h12 => ?_)
  · exfalso; omega
  · refine r_aload_n rfl rfl ?_
    refine r_getR rfl (by first | assumption | exact hs.o rfl) (by first | assumption | exact hs.g rfl) ?_
    refine r_iload rfl rfl ?_
    refine r_iald rfl (by first | assumption | exact hs.a rfl) (by omega) (by omega) ((zix (n := i) (by omega)).trans hcode) ?_
    refine r_istore (L' := [_, _, _, _, _, _, _, _, _]) rfl rfl rfl ?_
    refine r_iload rfl rfl ?_
    refine r_ldc rfl ?_
    refine r_isub rfl ?_
    refine r_istore (L' := [_, _, _, _, _, _, _, _, _]) rfl rfl rfl ?_
    refine r_iload rfl rfl ?_
    refine r_if_ge rfl (by omega) (fun h33 => ?_) (fun h33 => ?_)
    · refine r_iload_n rfl rfl ?_
      refine r_iconst rfl ?_
      refine r_icmp_lt rfl (by omega) (by omega) (fun h75 => ?_) (fun h75 => ?_)
      · exfalso; omega
      · refine r_iload_n rfl rfl ?_
        refine r_iconst rfl ?_
        refine r_icmp_ge rfl (by omega) (by omega) (fun h80 => ?_) (fun h80 => ?_)
        · refine r_aload_n rfl rfl ?_
          refine r_iload_n rfl rfl ?_
          refine r_iconst rfl ?_
          refine r_isub rfl ?_
          refine r_lald rfl (by first | assumption | exact hs.a rfl) (by omega) (by omega) (zix (n := s + 1) (by omega)) ?_
          refine r_lstore (L' := [_, _, _, _, _, _, _, _, _]) rfl rfl rfl ?_
          refine r_iload rfl rfl ?_
          refine r_bipush rfl ?_
          refine r_icmp_ne rfl (by omega) (by omega) (fun h104 => ?_) (fun h104 => ?_)
          · refine r_iload rfl rfl ?_
            refine r_bipush rfl ?_
            refine r_icmp_ne rfl (by omega) (by omega) (fun h124 => ?_) (fun h124 => ?_)
            · refine r_iload rfl rfl ?_
              refine r_bipush rfl ?_
              refine r_icmp_eq rfl (by omega) (by omega) (fun h143 => ?_) (fun h143 => ?_)
              · exfalso; omega
              · refine r_aload_n rfl rfl ?_
                refine r_iload_n rfl rfl ?_
                refine r_iconst rfl ?_
                refine r_isub rfl ?_
                refine r_iload rfl rfl ?_
                refine r_aload_n rfl rfl ?_
                refine r_iload_n rfl rfl ?_
                refine r_iconst rfl ?_
                refine r_isub rfl ?_
                rw [show 100010 + opc o - 100010 = opc o by omega]
                refine r_lald rfl (by first | assumption | exact hs.a rfl) (by omega) (by omega) (zix (n := s) (by omega)) ?_
                refine r_lload rfl rfl ?_
                refine r_callS3 rfl rfl rfl (k_join (s := o) (by omega) ho ?_)
                refine r_lastN (s) rfl (by first | assumption | exact hs.a rfl) (by omega) (by omega) (by omega) ?_
                refine r_iinc (L' := [_, _, _, _, _, _, _, _, _]) rfl rfl rfl ?_
                refine r_goto rfl ?_
                refine r_iinc (L' := [_, _, _, _, _, _, _, _, _]) rfl rfl rfl ?_
                refine r_goto rfl ?_
                rw [show ((s + 2 : Nat) : Int) + -1 = ((s + 1 : Nat) : Int) by omega]
                exact K _ _ _ _
            · exfalso; omega
          · exfalso; omega
        · exfalso; omega
    · exfalso; omega
theorem l_alS (hd : 2 ≤ d) {q c len : Nat} (hO : zO σ q 7) (hg : g q 0 = some c) (hc : zA σ c 100 len) (hlen : len ≤ 400) (hw : zA σ 23 103 10) (hst : zA σ 24 103 60) (hc24 : c ≠ 24) : ∀ (l : List Tk) (f : ZF) (i : Nat) (bs bs' : List Bool) (st : List Int) (x5 x6 x7 x8 : ZV), chk l bs = some bs' → Ty bs st → Stk (f 24) st → At (f c) i (l.map tcode) → i + l.length ≤ len → st.length + nvs l ≤ 60 →
    (∀ f' x5 x6 x7 x8, StF 24 f f' 0 → Stk (f' 24) (exec (f 23) l st) → ZWp d zt66 5 [zr (some q), zr (some 23), zr (some 24), zi ((exec (f 23) l st).length : Int), zi ((i + l.length : Nat) : Int), x5, x6, x7, x8] [] σ f' g Q) → ZWp d zt66 5 [zr (some q), zr (some 23), zr (some 24), zi (st.length : Int), zi (i : Int), x5, x6, x7, x8] [] σ f g Q := by
  intro l
  induction l with
  | nil =>
    intro f i bs bs' st x5 x6 x7 x8 hch hty hstk hat hi hs K
    exact K f x5 x6 x7 x8 (StF.rf 24 f 0) hstk
  | cons t l ih =>
    intro f i bs bs' st x5 x6 x7 x8 hch hty hstk hat hi hs K
    obtain ⟨b1, h1, h2⟩ := chk_cons hch
    have hcode : f c i = tcode t := hat.1
    have hat2 := hat.2
    simp only [List.length_cons, nvs] at hi hs
    have next : ∀ (f1 : ZF) (st1 : List Int) (y5 y6 y7 y8 : ZV), st1 = ex1 (f 23) t st → StF 24 f f1 0 → Stk (f1 24) st1 → st1.length + nvs l ≤ 60 → ZWp d zt66 5 [zr (some q), zr (some 23), zr (some 24), zi (st1.length : Int), zi ((i + 1 : Nat) : Int), y5, y6, y7, y8] [] σ f1 g Q := by
      intro f1 st1 y5 y6 y7 y8 e1 e2 e3 e4
      subst e1
      refine ih f1 (i + 1) b1 bs' _ y5 y6 y7 y8 h2 (hty.tex1 h1) e3 (by rw [e2.1 c hc24]; exact hat2) (by omega) e4 (fun f2 z5 z6 z7 z8 h3 h4 => ?_)
      rw [e2.1 23 (by omega)] at h4 ⊢
      rw [show i + 1 + l.length = i + (t :: l).length by simp only [List.length_cons]; omega]
      exact K f2 z5 z6 z7 z8 (e2.trans h3 (Nat.le_refl 0)) h4
    rcases tk1_inv h1 with ⟨h0, hv, rfl⟩ | ⟨h0, hv, rfl⟩ | ⟨h0, hv, r, rfl, rfl⟩ | ⟨hv, a, b, o, r, rfl, rfl, hk⟩
    · rw [if_pos (by omega)] at hs
      have e : tcode t = t.2 := by unfold tcode; rw [if_pos h0]
      have e2 : ex1 (f 23) t st = t.2 :: st := by unfold ex1; rw [if_pos h0]
      refine l_alN (by omega) hO hg hc hlen hw hst hc24 (s := st.length) (by omega) (by omega) (hcode.trans e) hv (fun y5 y6 => ?_)
      exact next _ (t.2 :: st) _ _ _ _ e2.symm ((StF.rf 24 f 0).up (Nat.zero_le _)) ⟨up2_same _ _ _ _, hstk.same _ (fun j hj => up2_ne _ _ (fun z => by omega))⟩ (by simp only [List.length_cons]; omega)
    · rw [if_pos (by omega)] at hs
      obtain ⟨w, hw'⟩ := Int.eq_ofNat_of_zero_le hv.1
      have e : tcode t = 100000 + (w : Int) := by unfold tcode; rw [if_neg (by omega), if_pos h0, hw']
      have e2 : ex1 (f 23) t st = f 23 w :: st := by unfold ex1; rw [if_neg (by omega), if_pos h0, hw', Int.toNat_natCast]
      refine l_alW (by omega) hO hg hc hlen hw hst hc24 (s := st.length) (by omega) (by omega) (hcode.trans e) (by omega) (fun y5 y6 => ?_)
      exact next _ (f 23 w :: st) _ _ _ _ e2.symm ((StF.rf 24 f 0).up (Nat.zero_le _)) ⟨up2_same _ _ _ _, hstk.same _ (fun j hj => up2_ne _ _ (fun z => by omega))⟩ (by simp only [List.length_cons]; omega)
    · rw [if_neg (by omega)] at hs
      cases st with
      | nil => exact hty.elim
      | cons x s =>
        have e : tcode t = 100010 + 33 := by unfold tcode; rw [if_neg (by omega), if_neg (by omega), h0]; rfl
        have e2 : ex1 (f 23) t (x :: s) = (1 - x) :: s := by unfold ex1; rw [if_neg (by omega), if_neg (by omega), if_pos h0]
        simp only [List.length_cons] at hs
        refine l_alT (by omega) hO hg hc hlen hw hst hc24 (s := s.length) (by omega) (by omega) (hcode.trans e) (fun y5 y6 y7 y8 => ?_)
        rw [hstk.1]
        exact next _ ((1 - x) :: s) _ _ _ _ e2.symm ((StF.rf 24 f 0).up (Nat.zero_le _)) ⟨up2_same _ _ _ _, hstk.2.same _ (fun j hj => up2_ne _ _ (fun z => by omega))⟩ (by simp only [List.length_cons]; omega)
    · have hvo : VOp t.1 := by rcases hk with hk | hk | hk <;> omega
      rw [if_neg (by omega)] at hs
      cases st with
      | nil => exact hty.elim
      | cons y s => cases s with
        | nil => exact hty.2.elim
        | cons x s =>
          have e : tcode t = 100010 + opc t.1 := by unfold tcode; rw [if_neg (by omega), if_neg (by omega)]
          simp only [List.length_cons] at hs
          have hy : f 24 (s.length + 1) = y := hstk.1
          refine l_alO (by omega) hO hg hc hlen hw hst hc24 (s := s.length) hvo (by omega) (by omega) (hcode.trans e) (fun y5 y6 y7 y8 => ?_)
          rw [hstk.2.1, hy]
          exact next _ (op1 t.1 x y :: s) _ _ _ _ (ex1_op hvo x y s).symm ((StF.rf 24 f 0).up (Nat.zero_le _)) ⟨up2_same _ _ _ _, hstk.2.2.same _ (fun j hj => up2_ne _ _ (fun z => by omega))⟩ (by simp only [List.length_cons]; omega)
end RULES
