/-! Rules: trees, their signs in both programs, what they come to -/
inductive Ex where
  | nm (v : Int)
  | wd (w : Nat)
  | nt (a : Ex)
  | bi (s : Nat) (a b : Ex)
def opc : Nat → Int
  | 2 => 43
  | 3 => 45
  | 4 => 42
  | 5 => 47
  | 6 => 60
  | 7 => 316
  | 8 => 61
  | 9 => 318
  | 10 => 62
  | 11 => 33
  | 12 => 38
  | 13 => 124
  | 14 => 37
  | _ => 59
def op1 : Nat → Int → Int → Int
  | 2, x, y => x + y
  | 3, x, y => x - y
  | 4, x, y => x * y
  | 5, x, y => if wl y = 0 then 0 else z_ldiv x y
  | 6, x, y => if wl x < wl y then 1 else 0
  | 7, x, y => if wl x ≤ wl y then 1 else 0
  | 8, x, y => if wl x = wl y then 1 else 0
  | 9, x, y => if wl y ≤ wl x then 1 else 0
  | 10, x, y => if wl y < wl x then 1 else 0
  | 12, x, y => z_land x y
  | 14, x, y => if wl y = 0 then 0 else z_lrem x y
  | _, x, y => z_lor x y
abbrev VOp (s : Nat) : Prop := s = 2 ∨ s = 3 ∨ s = 4 ∨ s = 5 ∨ s = 6 ∨ s = 7 ∨ s = 8 ∨ s = 9 ∨ s = 10 ∨ s = 12 ∨ s = 13 ∨ s = 14
abbrev AOp (s : Nat) : Prop := s = 2 ∨ s = 3 ∨ s = 4 ∨ s = 5 ∨ s = 14
abbrev COp (s : Nat) : Prop := s = 6 ∨ s = 7 ∨ s = 8 ∨ s = 9 ∨ s = 10
def Ex.tk : Ex → List (Nat × Int)
  | nm v => [(0, v)]
  | wd w => [(1, (w : Int))]
  | nt a => a.tk ++ [(11, 0)]
  | bi s a b => a.tk ++ (b.tk ++ [(s, 0)])
def Ex.nv : Ex → Nat
  | nm _ => 1
  | wd _ => 1
  | nt a => a.nv
  | bi _ a b => a.nv + b.nv
def Ex.ev (w : Nat → Int) : Ex → Int
  | nm v => v
  | wd k => w k
  | nt a => 1 - a.ev w
  | bi s a b => op1 s (a.ev w) (b.ev w)
def Ex.ok : Ex → Prop
  | nm v => 0 ≤ v ∧ v ≤ 99999
  | wd w => w < 10
  | nt a => a.ok
  | bi s a b => VOp s ∧ a.ok ∧ b.ok
/-- a SUM -/
def Ex.isS : Ex → Prop
  | nm _ => True
  | wd _ => True
  | nt _ => False
  | bi s a b => AOp s ∧ a.isS ∧ b.isS
/-- a TEST -/
def Ex.isT : Ex → Prop
  | nm _ => False
  | wd _ => False
  | nt a => a.isT
  | bi s a b => (COp s ∧ a.isS ∧ b.isS) ∨ ((s = 12 ∨ s = 13) ∧ a.isT ∧ b.isT)
theorem wl_zero : wl 0 = 0 := by decide
theorem wl_one : wl 1 = 1 := by decide
theorem Ex.ev01 (w : Nat → Int) : ∀ e : Ex, e.isT → e.ev w = 0 ∨ e.ev w = 1 := by
  intro e
  induction e with
  | nm v => intro h; exact h.elim
  | wd v => intro h; exact h.elim
  | nt a ih => intro h; have := ih h; simp only [Ex.ev]; omega
  | bi s a b iha ihb =>
    intro h
    rcases h with ⟨hs, -, -⟩ | ⟨hs, ha, hb⟩
    · rcases hs with rfl | rfl | rfl | rfl | rfl <;> simp only [Ex.ev, op1] <;> split <;> simp
    · simp only [Ex.ev]
      have h1 := iha ha
      have h2 := ihb hb
      rcases hs with rfl | rfl <;> rcases h1 with h1 | h1 <;> rcases h2 with h2 | h2 <;> rw [h1, h2] <;> decide +kernel
theorem Ex.nv_tk : ∀ e : Ex, 1 ≤ e.nv ∧ e.nv ≤ e.tk.length := by
  intro e
  induction e with
  | nm v => simp [Ex.nv, Ex.tk]
  | wd v => simp [Ex.nv, Ex.tk]
  | nt a ih => simp [Ex.nv, Ex.tk]; omega
  | bi s a b iha ihb => simp [Ex.nv, Ex.tk]; omega
def tcode (t : Nat × Int) : Int := if t.1 = 0 then t.2 else if t.1 = 1 then 100000 + t.2 else 100010 + opc t.1
def tsign (t : Nat × Int) : Int := (t.1 : Int) + 16 * t.2
/-- a row of an array from i on -/
def At (s : Nat → Int) (i : Nat) : List Int → Prop
  | [] => True
  | x :: r => s i = x ∧ At s (i + 1) r
theorem At.app {s : Nat → Int} : ∀ (l1 l2 : List Int) (i : Nat), At s i (l1 ++ l2) ↔ At s i l1 ∧ At s (i + l1.length) l2 := by
  intro l1
  induction l1 with
  | nil => intro l2 i; simp [At]
  | cons x r ih =>
    intro l2 i
    simp only [List.cons_append, At, ih, List.length_cons]
    rw [show i + 1 + r.length = i + (r.length + 1) by omega]
    constructor
    · intro h; exact ⟨⟨h.1, h.2.1⟩, h.2.2⟩
    · intro h; exact ⟨h.1.1, h.1.2, h.2⟩
theorem At.same {s s' : Nat → Int} : ∀ (l : List Int) (i : Nat), At s i l → (∀ j, i ≤ j → j < i + l.length → s' j = s j) → At s' i l := by
  intro l
  induction l with
  | nil => intro i h e; exact trivial
  | cons x r ih =>
    intro i h e
    simp only [List.length_cons] at e
    exact ⟨(e i (by omega) (by omega)).trans h.1, ih (i + 1) h.2 (fun j q1 q2 => e j (by omega) (by omega))⟩
theorem opc_rng {s : Nat} (h : VOp s) : 37 ≤ opc s ∧ opc s ≤ 318 ∧ opc s ≠ 59 ∧ opc s ≠ 63 ∧ opc s ≠ 33 := by
  rcases h with rfl | rfl | rfl | rfl | rfl | rfl | rfl | rfl | rfl | rfl | rfl | rfl <;> decide
section RULES
variable {d : Nat} {σ : ZS} {f : ZF} {g : ZG} {Q : ZQ}
theorem k_compared (hd : 1 ≤ d) {s : Nat} (hs : COp s) {x y : Int} (k1 : op1 s x y = 1 → Q (some (zi 1)) σ f g) (k2 : op1 s x y = 0 → Q (some (zi 0)) σ f g) : ZCt d 69 [zi (opc s), zl x, zl y] σ f g Q := by
  rcases hs with rfl | rfl | rfl | rfl | rfl
  · refine ZCt.of' (L0 := [_, _, _, _, _]) (by omega) rfl rfl rfl (fun d hd1 => ?_)
    change ZWp d zt69 0 [zi 60, _, _, _, _] [] σ f g Q
    refine r_iload_n rfl rfl ?_
    refine r_lsw rfl (by omega) (And.intro (fun _ => ?_) (fun e => absurd rfl e))
    refine r_lload_n rfl rfl ?_
    refine r_lload_n rfl rfl ?_
    refine r_lcmpW rfl (fun w46 e46a e46b e46c => ?_)
    refine r_if_ge rfl (by omega) (fun h47 => ?_) (fun h47 => ?_)
    · refine r_iconst rfl ?_
      refine r_zret rfl (by omega) ?_
      exact k2 (by simp only [op1]; rw [if_neg (by omega)])
    · refine r_iconst rfl ?_
      refine r_goto rfl ?_
      refine r_zret rfl (by omega) ?_
      exact k1 (by simp only [op1]; rw [if_pos (by omega)])
  · refine ZCt.of' (L0 := [_, _, _, _, _]) (by omega) rfl rfl rfl (fun d hd1 => ?_)
    change ZWp d zt69 0 [zi 316, _, _, _, _] [] σ f g Q
    refine r_iload_n rfl rfl ?_
    refine r_lsw rfl (by omega) (And.intro (fun e => absurd e (by decide)) (fun _ => (And.intro (fun e => absurd e (by decide)) (fun _ => (And.intro (fun _ => ?_) (fun e => absurd rfl e))))))
    refine r_lload_n rfl rfl ?_
    refine r_lload_n rfl rfl ?_
    refine r_lcmpW rfl (fun w58 e58a e58b e58c => ?_)
    refine r_if_gt rfl (by omega) (fun h59 => ?_) (fun h59 => ?_)
    · refine r_iconst rfl ?_
      refine r_zret rfl (by omega) ?_
      exact k2 (by simp only [op1]; rw [if_neg (by omega)])
    · refine r_iconst rfl ?_
      refine r_goto rfl ?_
      refine r_zret rfl (by omega) ?_
      exact k1 (by simp only [op1]; rw [if_pos (by omega)])
  · refine ZCt.of' (L0 := [_, _, _, _, _]) (by omega) rfl rfl rfl (fun d hd1 => ?_)
    change ZWp d zt69 0 [zi 61, _, _, _, _] [] σ f g Q
    refine r_iload_n rfl rfl ?_
    refine r_lsw rfl (by omega) (And.intro (fun e => absurd e (by decide)) (fun _ => (And.intro (fun _ => ?_) (fun e => absurd rfl e))))
    refine r_lload_n rfl rfl ?_
    refine r_lload_n rfl rfl ?_
    refine r_lcmpW rfl (fun w70 e70a e70b e70c => ?_)
    refine r_if_ne rfl (by omega) (fun h71 => ?_) (fun h71 => ?_)
    · refine r_iconst rfl ?_
      refine r_zret rfl (by omega) ?_
      exact k2 (by simp only [op1]; rw [if_neg (by omega)])
    · refine r_iconst rfl ?_
      refine r_goto rfl ?_
      refine r_zret rfl (by omega) ?_
      exact k1 (by simp only [op1]; rw [if_pos (by omega)])
  · refine ZCt.of' (L0 := [_, _, _, _, _]) (by omega) rfl rfl rfl (fun d hd1 => ?_)
    change ZWp d zt69 0 [zi 318, _, _, _, _] [] σ f g Q
    refine r_iload_n rfl rfl ?_
    refine r_lsw rfl (by omega) (And.intro (fun e => absurd e (by decide)) (fun _ => (And.intro (fun e => absurd e (by decide)) (fun _ => (And.intro (fun e => absurd e (by decide)) (fun _ => (And.intro (fun _ => ?_) (fun e => absurd rfl e))))))))
    refine r_lload_n rfl rfl ?_
    refine r_lload_n rfl rfl ?_
    refine r_lcmpW rfl (fun w82 e82a e82b e82c => ?_)
    refine r_if_lt rfl (by omega) (fun h83 => ?_) (fun h83 => ?_)
    · refine r_iconst rfl ?_
      refine r_zret rfl (by omega) ?_
      exact k2 (by simp only [op1]; rw [if_neg (by omega)])
    · refine r_iconst rfl ?_
      refine r_goto rfl ?_
      refine r_zret rfl (by omega) ?_
      exact k1 (by simp only [op1]; rw [if_pos (by omega)])
  · refine ZCt.of' (L0 := [_, _, _, _, _]) (by omega) rfl rfl rfl (fun d hd1 => ?_)
    change ZWp d zt69 0 [zi 62, _, _, _, _] [] σ f g Q
    refine r_iload_n rfl rfl ?_
    refine r_lsw rfl (by omega) (And.intro (fun e => absurd e (by decide)) (fun _ => (And.intro (fun e => absurd e (by decide)) (fun _ => (And.intro (fun e => absurd e (by decide)) (fun _ => (And.intro (fun e => absurd e (by decide)) (fun _ => ?_))))))))
    refine r_lload_n rfl rfl ?_
    refine r_lload_n rfl rfl ?_
    refine r_lcmpW rfl (fun w94 e94a e94b e94c => ?_)
    refine r_if_le rfl (by omega) (fun h95 => ?_) (fun h95 => ?_)
    · refine r_iconst rfl ?_
      refine r_zret rfl (by omega) ?_
      exact k2 (by simp only [op1]; rw [if_neg (by omega)])
    · refine r_iconst rfl ?_
      refine r_goto rfl ?_
      refine r_zret rfl (by omega) ?_
      exact k1 (by simp only [op1]; rw [if_pos (by omega)])
theorem k_join (hd : 2 ≤ d) {s : Nat} (hs : VOp s) {x y : Int} (K : Q (some (zl (op1 s x y))) σ f g) : ZCt d 68 [zi (opc s), zl x, zl y] σ f g Q := by
  have hw0 := wl_zero
  rcases hs with rfl | rfl | rfl | rfl | rfl | rfl | rfl | rfl | rfl | rfl | rfl | rfl
  · refine ZCt.of' (L0 := [_, _, _, _, _]) (by omega) rfl rfl rfl (fun d hd1 => ?_)
    change ZWp d zt68 0 [zi 43, _, _, _, _] [] σ f g Q
    refine r_iload_n rfl rfl ?_
    refine r_lsw rfl (by omega) (And.intro (fun e => absurd e (by decide)) (fun _ => (And.intro (fun e => absurd e (by decide)) (fun _ => (And.intro (fun e => absurd e (by decide)) (fun _ => (And.intro (fun _ => ?_) (fun e => absurd rfl e))))))))
    refine r_lload_n rfl rfl ?_
    refine r_lload_n rfl rfl ?_
    refine r_ladd rfl ?_
    refine r_lret rfl ?_
    exact K
  · refine ZCt.of' (L0 := [_, _, _, _, _]) (by omega) rfl rfl rfl (fun d hd1 => ?_)
    change ZWp d zt68 0 [zi 45, _, _, _, _] [] σ f g Q
    refine r_iload_n rfl rfl ?_
    refine r_lsw rfl (by omega) (And.intro (fun e => absurd e (by decide)) (fun _ => (And.intro (fun e => absurd e (by decide)) (fun _ => (And.intro (fun e => absurd e (by decide)) (fun _ => (And.intro (fun e => absurd e (by decide)) (fun _ => (And.intro (fun _ => ?_) (fun e => absurd rfl e))))))))))
    refine r_lload_n rfl rfl ?_
    refine r_lload_n rfl rfl ?_
    refine r_lsub rfl ?_
    refine r_lret rfl ?_
    exact K
  · refine ZCt.of' (L0 := [_, _, _, _, _]) (by omega) rfl rfl rfl (fun d hd1 => ?_)
    change ZWp d zt68 0 [zi 42, _, _, _, _] [] σ f g Q
    refine r_iload_n rfl rfl ?_
    refine r_lsw rfl (by omega) (And.intro (fun e => absurd e (by decide)) (fun _ => (And.intro (fun e => absurd e (by decide)) (fun _ => (And.intro (fun _ => ?_) (fun e => absurd rfl e))))))
    refine r_lload_n rfl rfl ?_
    refine r_lload_n rfl rfl ?_
    refine r_lmul rfl ?_
    refine r_lret rfl ?_
    exact K
  · refine ZCt.of' (L0 := [_, _, _, _, _]) (by omega) rfl rfl rfl (fun d hd1 => ?_)
    change ZWp d zt68 0 [zi 47, _, _, _, _] [] σ f g Q
    refine r_iload_n rfl rfl ?_
    refine r_lsw rfl (by omega) (And.intro (fun e => absurd e (by decide)) (fun _ => (And.intro (fun e => absurd e (by decide)) (fun _ => (And.intro (fun e => absurd e (by decide)) (fun _ => (And.intro (fun e => absurd e (by decide)) (fun _ => (And.intro (fun e => absurd e (by decide)) (fun _ => (And.intro (fun _ => ?_) (fun e => absurd rfl e))))))))))))
    refine r_lload_n rfl rfl ?_
    refine r_lconst rfl ?_
    refine r_lcmpW rfl (fun w82 e82a e82b e82c => ?_)
    refine r_if_ne rfl (by omega) (fun h83 => ?_) (fun h83 => ?_)
    · refine r_lload_n rfl rfl ?_
      refine r_lload_n rfl rfl ?_
      refine r_ldiv rfl (by omega) ?_
      refine r_lret rfl ?_
      first | (simp only [op1] at K; rw [if_pos (by omega)] at K; exact K) | (simp only [op1] at K; rw [if_neg (by omega)] at K; exact K)
    · refine r_lconst rfl ?_
      refine r_goto rfl ?_
      refine r_lret rfl ?_
      first | (simp only [op1] at K; rw [if_pos (by omega)] at K; exact K) | (simp only [op1] at K; rw [if_neg (by omega)] at K; exact K)
  · refine ZCt.of' (L0 := [_, _, _, _, _]) (by omega) rfl rfl rfl (fun d hd1 => ?_)
    change ZWp d zt68 0 [zi 60, _, _, _, _] [] σ f g Q
    refine r_iload_n rfl rfl ?_
    refine r_lsw rfl (by omega) (And.intro (fun e => absurd e (by decide)) (fun _ => (And.intro (fun e => absurd e (by decide)) (fun _ => (And.intro (fun e => absurd e (by decide)) (fun _ => (And.intro (fun e => absurd e (by decide)) (fun _ => (And.intro (fun e => absurd e (by decide)) (fun _ => (And.intro (fun e => absurd e (by decide)) (fun _ => (And.intro (fun e => absurd e (by decide)) (fun _ => ?_))))))))))))))
    refine r_iload_n rfl rfl ?_
    refine r_lload_n rfl rfl ?_
    refine r_lload_n rfl rfl ?_
    refine r_callS3 rfl rfl rfl (k_compared (s := 6) (by omega) (by decide) (fun hcm => ?_) (fun hcm => ?_))
    · refine r_if_n rfl (by decide) ?_
      refine r_lconst rfl ?_
      refine r_goto rfl ?_
      refine r_lret rfl ?_
      rw [hcm] at K
      exact K
    · refine r_if_y rfl (by decide) ?_
      refine r_lconst rfl ?_
      refine r_lret rfl ?_
      rw [hcm] at K
      exact K
  · refine ZCt.of' (L0 := [_, _, _, _, _]) (by omega) rfl rfl rfl (fun d hd1 => ?_)
    change ZWp d zt68 0 [zi 316, _, _, _, _] [] σ f g Q
    refine r_iload_n rfl rfl ?_
    refine r_lsw rfl (by omega) (And.intro (fun e => absurd e (by decide)) (fun _ => (And.intro (fun e => absurd e (by decide)) (fun _ => (And.intro (fun e => absurd e (by decide)) (fun _ => (And.intro (fun e => absurd e (by decide)) (fun _ => (And.intro (fun e => absurd e (by decide)) (fun _ => (And.intro (fun e => absurd e (by decide)) (fun _ => (And.intro (fun e => absurd e (by decide)) (fun _ => ?_))))))))))))))
    refine r_iload_n rfl rfl ?_
    refine r_lload_n rfl rfl ?_
    refine r_lload_n rfl rfl ?_
    refine r_callS3 rfl rfl rfl (k_compared (s := 7) (by omega) (by decide) (fun hcm => ?_) (fun hcm => ?_))
    · refine r_if_n rfl (by decide) ?_
      refine r_lconst rfl ?_
      refine r_goto rfl ?_
      refine r_lret rfl ?_
      rw [hcm] at K
      exact K
    · refine r_if_y rfl (by decide) ?_
      refine r_lconst rfl ?_
      refine r_lret rfl ?_
      rw [hcm] at K
      exact K
  · refine ZCt.of' (L0 := [_, _, _, _, _]) (by omega) rfl rfl rfl (fun d hd1 => ?_)
    change ZWp d zt68 0 [zi 61, _, _, _, _] [] σ f g Q
    refine r_iload_n rfl rfl ?_
    refine r_lsw rfl (by omega) (And.intro (fun e => absurd e (by decide)) (fun _ => (And.intro (fun e => absurd e (by decide)) (fun _ => (And.intro (fun e => absurd e (by decide)) (fun _ => (And.intro (fun e => absurd e (by decide)) (fun _ => (And.intro (fun e => absurd e (by decide)) (fun _ => (And.intro (fun e => absurd e (by decide)) (fun _ => (And.intro (fun e => absurd e (by decide)) (fun _ => ?_))))))))))))))
    refine r_iload_n rfl rfl ?_
    refine r_lload_n rfl rfl ?_
    refine r_lload_n rfl rfl ?_
    refine r_callS3 rfl rfl rfl (k_compared (s := 8) (by omega) (by decide) (fun hcm => ?_) (fun hcm => ?_))
    · refine r_if_n rfl (by decide) ?_
      refine r_lconst rfl ?_
      refine r_goto rfl ?_
      refine r_lret rfl ?_
      rw [hcm] at K
      exact K
    · refine r_if_y rfl (by decide) ?_
      refine r_lconst rfl ?_
      refine r_lret rfl ?_
      rw [hcm] at K
      exact K
  · refine ZCt.of' (L0 := [_, _, _, _, _]) (by omega) rfl rfl rfl (fun d hd1 => ?_)
    change ZWp d zt68 0 [zi 318, _, _, _, _] [] σ f g Q
    refine r_iload_n rfl rfl ?_
    refine r_lsw rfl (by omega) (And.intro (fun e => absurd e (by decide)) (fun _ => (And.intro (fun e => absurd e (by decide)) (fun _ => (And.intro (fun e => absurd e (by decide)) (fun _ => (And.intro (fun e => absurd e (by decide)) (fun _ => (And.intro (fun e => absurd e (by decide)) (fun _ => (And.intro (fun e => absurd e (by decide)) (fun _ => (And.intro (fun e => absurd e (by decide)) (fun _ => ?_))))))))))))))
    refine r_iload_n rfl rfl ?_
    refine r_lload_n rfl rfl ?_
    refine r_lload_n rfl rfl ?_
    refine r_callS3 rfl rfl rfl (k_compared (s := 9) (by omega) (by decide) (fun hcm => ?_) (fun hcm => ?_))
    · refine r_if_n rfl (by decide) ?_
      refine r_lconst rfl ?_
      refine r_goto rfl ?_
      refine r_lret rfl ?_
      rw [hcm] at K
      exact K
    · refine r_if_y rfl (by decide) ?_
      refine r_lconst rfl ?_
      refine r_lret rfl ?_
      rw [hcm] at K
      exact K
  · refine ZCt.of' (L0 := [_, _, _, _, _]) (by omega) rfl rfl rfl (fun d hd1 => ?_)
    change ZWp d zt68 0 [zi 62, _, _, _, _] [] σ f g Q
    refine r_iload_n rfl rfl ?_
    refine r_lsw rfl (by omega) (And.intro (fun e => absurd e (by decide)) (fun _ => (And.intro (fun e => absurd e (by decide)) (fun _ => (And.intro (fun e => absurd e (by decide)) (fun _ => (And.intro (fun e => absurd e (by decide)) (fun _ => (And.intro (fun e => absurd e (by decide)) (fun _ => (And.intro (fun e => absurd e (by decide)) (fun _ => (And.intro (fun e => absurd e (by decide)) (fun _ => ?_))))))))))))))
    refine r_iload_n rfl rfl ?_
    refine r_lload_n rfl rfl ?_
    refine r_lload_n rfl rfl ?_
    refine r_callS3 rfl rfl rfl (k_compared (s := 10) (by omega) (by decide) (fun hcm => ?_) (fun hcm => ?_))
    · refine r_if_n rfl (by decide) ?_
      refine r_lconst rfl ?_
      refine r_goto rfl ?_
      refine r_lret rfl ?_
      rw [hcm] at K
      exact K
    · refine r_if_y rfl (by decide) ?_
      refine r_lconst rfl ?_
      refine r_lret rfl ?_
      rw [hcm] at K
      exact K
  · refine ZCt.of' (L0 := [_, _, _, _, _]) (by omega) rfl rfl rfl (fun d hd1 => ?_)
    change ZWp d zt68 0 [zi 38, _, _, _, _] [] σ f g Q
    refine r_iload_n rfl rfl ?_
    refine r_lsw rfl (by omega) (And.intro (fun e => absurd e (by decide)) (fun _ => (And.intro (fun _ => ?_) (fun e => absurd rfl e))))
    refine r_lload_n rfl rfl ?_
    refine r_lload_n rfl rfl ?_
    refine r_land rfl ?_
    refine r_lret rfl ?_
    exact K
  · refine ZCt.of' (L0 := [_, _, _, _, _]) (by omega) rfl rfl rfl (fun d hd1 => ?_)
    change ZWp d zt68 0 [zi 124, _, _, _, _] [] σ f g Q
    refine r_iload_n rfl rfl ?_
    refine r_lsw rfl (by omega) (And.intro (fun e => absurd e (by decide)) (fun _ => (And.intro (fun e => absurd e (by decide)) (fun _ => (And.intro (fun e => absurd e (by decide)) (fun _ => (And.intro (fun e => absurd e (by decide)) (fun _ => (And.intro (fun e => absurd e (by decide)) (fun _ => (And.intro (fun e => absurd e (by decide)) (fun _ => (And.intro (fun _ => ?_) (fun e => absurd rfl e))))))))))))))
    refine r_lload_n rfl rfl ?_
    refine r_lload_n rfl rfl ?_
    refine r_lor rfl ?_
    refine r_lret rfl ?_
    exact K
  · refine ZCt.of' (L0 := [_, _, _, _, _]) (by omega) rfl rfl rfl (fun d hd1 => ?_)
    change ZWp d zt68 0 [zi 37, _, _, _, _] [] σ f g Q
    refine r_iload_n rfl rfl ?_
    refine r_lsw rfl (by omega) (And.intro (fun _ => ?_) (fun e => absurd rfl e))
    refine r_lload_n rfl rfl ?_
    refine r_lconst rfl ?_
    refine r_lcmpW rfl (fun w96 e96a e96b e96c => ?_)
    refine r_if_ne rfl (by omega) (fun h97 => ?_) (fun h97 => ?_)
    · refine r_lload_n rfl rfl ?_
      refine r_lload_n rfl rfl ?_
      refine r_lrem rfl (by omega) ?_
      refine r_lret rfl ?_
      first | (simp only [op1] at K; rw [if_pos (by omega)] at K; exact K) | (simp only [op1] at K; rw [if_neg (by omega)] at K; exact K)
    · refine r_lconst rfl ?_
      refine r_goto rfl ?_
      refine r_lret rfl ?_
      first | (simp only [op1] at K; rw [if_pos (by omega)] at K; exact K) | (simp only [op1] at K; rw [if_neg (by omega)] at K; exact K)
theorem c_one (hd : 1 ≤ d) {s : Nat} (hs : VOp s) {x y : Int} (K : Q (some (zl (op1 s x y))) σ f g) : ZCt d 202 [zi (s : Int), zl x, zl y] σ f g Q := by
  have hw0 := wl_zero
  rcases hs with rfl | rfl | rfl | rfl | rfl | rfl | rfl | rfl | rfl | rfl | rfl | rfl
  · refine ZCt.of' (L0 := [_, _, _, _, _]) (by omega) rfl rfl rfl (fun d hd1 => ?_)
    change ZWp d zt202 0 [zi 2, _, _, _, _] [] σ f g Q
    refine r_iload_n rfl rfl ?_
    refine r_tsw rfl (by omega) rfl (And.intro (fun _ => ?_) (fun e => absurd rfl e))
    refine r_lload_n rfl rfl ?_
    refine r_lload_n rfl rfl ?_
    refine r_ladd rfl ?_
    refine r_lret rfl ?_
    exact K
  · refine ZCt.of' (L0 := [_, _, _, _, _]) (by omega) rfl rfl rfl (fun d hd1 => ?_)
    change ZWp d zt202 0 [zi 3, _, _, _, _] [] σ f g Q
    refine r_iload_n rfl rfl ?_
    refine r_tsw rfl (by omega) rfl (And.intro (fun e => absurd e (by decide)) (fun _ => (And.intro (fun _ => ?_) (fun e => absurd rfl e))))
    refine r_lload_n rfl rfl ?_
    refine r_lload_n rfl rfl ?_
    refine r_lsub rfl ?_
    refine r_lret rfl ?_
    exact K
  · refine ZCt.of' (L0 := [_, _, _, _, _]) (by omega) rfl rfl rfl (fun d hd1 => ?_)
    change ZWp d zt202 0 [zi 4, _, _, _, _] [] σ f g Q
    refine r_iload_n rfl rfl ?_
    refine r_tsw rfl (by omega) rfl (And.intro (fun e => absurd e (by decide)) (fun _ => (And.intro (fun e => absurd e (by decide)) (fun _ => (And.intro (fun _ => ?_) (fun e => absurd rfl e))))))
    refine r_lload_n rfl rfl ?_
    refine r_lload_n rfl rfl ?_
    refine r_lmul rfl ?_
    refine r_lret rfl ?_
    exact K
  · refine ZCt.of' (L0 := [_, _, _, _, _]) (by omega) rfl rfl rfl (fun d hd1 => ?_)
    change ZWp d zt202 0 [zi 5, _, _, _, _] [] σ f g Q
    refine r_iload_n rfl rfl ?_
    refine r_tsw rfl (by omega) rfl (And.intro (fun e => absurd e (by decide)) (fun _ => (And.intro (fun e => absurd e (by decide)) (fun _ => (And.intro (fun e => absurd e (by decide)) (fun _ => (And.intro (fun _ => ?_) (fun e => absurd rfl e))))))))
    refine r_lload_n rfl rfl ?_
    refine r_lconst rfl ?_
    refine r_lcmpW rfl (fun w82 e82a e82b e82c => ?_)
    refine r_if_ne rfl (by omega) (fun h83 => ?_) (fun h83 => ?_)
    · refine r_lload_n rfl rfl ?_
      refine r_lload_n rfl rfl ?_
      refine r_ldiv rfl (by omega) ?_
      refine r_lret rfl ?_
      first | (simp only [op1] at K; rw [if_pos (by omega)] at K; exact K) | (simp only [op1] at K; rw [if_neg (by omega)] at K; exact K)
    · refine r_lconst rfl ?_
      refine r_goto rfl ?_
      refine r_lret rfl ?_
      first | (simp only [op1] at K; rw [if_pos (by omega)] at K; exact K) | (simp only [op1] at K; rw [if_neg (by omega)] at K; exact K)
  · refine ZCt.of' (L0 := [_, _, _, _, _]) (by omega) rfl rfl rfl (fun d hd1 => ?_)
    change ZWp d zt202 0 [zi 6, _, _, _, _] [] σ f g Q
    refine r_iload_n rfl rfl ?_
    refine r_tsw rfl (by omega) rfl (And.intro (fun e => absurd e (by decide)) (fun _ => (And.intro (fun e => absurd e (by decide)) (fun _ => (And.intro (fun e => absurd e (by decide)) (fun _ => (And.intro (fun e => absurd e (by decide)) (fun _ => (And.intro (fun _ => ?_) (fun e => absurd rfl e))))))))))
    refine r_lload_n rfl rfl ?_
    refine r_lload_n rfl rfl ?_
    refine r_lcmpW rfl (fun w110 e110a e110b e110c => ?_)
    refine r_if_ge rfl (by omega) (fun h111 => ?_) (fun h111 => ?_)
    · refine r_lconst rfl ?_
      refine r_lret rfl ?_
      first | (simp only [op1] at K; rw [if_pos (by omega)] at K; exact K) | (simp only [op1] at K; rw [if_neg (by omega)] at K; exact K)
    · refine r_lconst rfl ?_
      refine r_goto rfl ?_
      refine r_lret rfl ?_
      first | (simp only [op1] at K; rw [if_pos (by omega)] at K; exact K) | (simp only [op1] at K; rw [if_neg (by omega)] at K; exact K)
  · refine ZCt.of' (L0 := [_, _, _, _, _]) (by omega) rfl rfl rfl (fun d hd1 => ?_)
    change ZWp d zt202 0 [zi 7, _, _, _, _] [] σ f g Q
    refine r_iload_n rfl rfl ?_
    refine r_tsw rfl (by omega) rfl (And.intro (fun e => absurd e (by decide)) (fun _ => (And.intro (fun e => absurd e (by decide)) (fun _ => (And.intro (fun e => absurd e (by decide)) (fun _ => (And.intro (fun e => absurd e (by decide)) (fun _ => (And.intro (fun e => absurd e (by decide)) (fun _ => (And.intro (fun _ => ?_) (fun e => absurd rfl e))))))))))))
    refine r_lload_n rfl rfl ?_
    refine r_lload_n rfl rfl ?_
    refine r_lcmpW rfl (fun w122 e122a e122b e122c => ?_)
    refine r_if_gt rfl (by omega) (fun h123 => ?_) (fun h123 => ?_)
    · refine r_lconst rfl ?_
      refine r_lret rfl ?_
      first | (simp only [op1] at K; rw [if_pos (by omega)] at K; exact K) | (simp only [op1] at K; rw [if_neg (by omega)] at K; exact K)
    · refine r_lconst rfl ?_
      refine r_goto rfl ?_
      refine r_lret rfl ?_
      first | (simp only [op1] at K; rw [if_pos (by omega)] at K; exact K) | (simp only [op1] at K; rw [if_neg (by omega)] at K; exact K)
  · refine ZCt.of' (L0 := [_, _, _, _, _]) (by omega) rfl rfl rfl (fun d hd1 => ?_)
    change ZWp d zt202 0 [zi 8, _, _, _, _] [] σ f g Q
    refine r_iload_n rfl rfl ?_
    refine r_tsw rfl (by omega) rfl (And.intro (fun e => absurd e (by decide)) (fun _ => (And.intro (fun e => absurd e (by decide)) (fun _ => (And.intro (fun e => absurd e (by decide)) (fun _ => (And.intro (fun e => absurd e (by decide)) (fun _ => (And.intro (fun e => absurd e (by decide)) (fun _ => (And.intro (fun e => absurd e (by decide)) (fun _ => (And.intro (fun _ => ?_) (fun e => absurd rfl e))))))))))))))
    refine r_lload_n rfl rfl ?_
    refine r_lload_n rfl rfl ?_
    refine r_lcmpW rfl (fun w134 e134a e134b e134c => ?_)
    refine r_if_ne rfl (by omega) (fun h135 => ?_) (fun h135 => ?_)
    · refine r_lconst rfl ?_
      refine r_lret rfl ?_
      first | (simp only [op1] at K; rw [if_pos (by omega)] at K; exact K) | (simp only [op1] at K; rw [if_neg (by omega)] at K; exact K)
    · refine r_lconst rfl ?_
      refine r_goto rfl ?_
      refine r_lret rfl ?_
      first | (simp only [op1] at K; rw [if_pos (by omega)] at K; exact K) | (simp only [op1] at K; rw [if_neg (by omega)] at K; exact K)
  · refine ZCt.of' (L0 := [_, _, _, _, _]) (by omega) rfl rfl rfl (fun d hd1 => ?_)
    change ZWp d zt202 0 [zi 9, _, _, _, _] [] σ f g Q
    refine r_iload_n rfl rfl ?_
    refine r_tsw rfl (by omega) rfl (And.intro (fun e => absurd e (by decide)) (fun _ => (And.intro (fun e => absurd e (by decide)) (fun _ => (And.intro (fun e => absurd e (by decide)) (fun _ => (And.intro (fun e => absurd e (by decide)) (fun _ => (And.intro (fun e => absurd e (by decide)) (fun _ => (And.intro (fun e => absurd e (by decide)) (fun _ => (And.intro (fun e => absurd e (by decide)) (fun _ => (And.intro (fun _ => ?_) (fun e => absurd rfl e))))))))))))))))
    refine r_lload_n rfl rfl ?_
    refine r_lload_n rfl rfl ?_
    refine r_lcmpW rfl (fun w146 e146a e146b e146c => ?_)
    refine r_if_lt rfl (by omega) (fun h147 => ?_) (fun h147 => ?_)
    · refine r_lconst rfl ?_
      refine r_lret rfl ?_
      first | (simp only [op1] at K; rw [if_pos (by omega)] at K; exact K) | (simp only [op1] at K; rw [if_neg (by omega)] at K; exact K)
    · refine r_lconst rfl ?_
      refine r_goto rfl ?_
      refine r_lret rfl ?_
      first | (simp only [op1] at K; rw [if_pos (by omega)] at K; exact K) | (simp only [op1] at K; rw [if_neg (by omega)] at K; exact K)
  · refine ZCt.of' (L0 := [_, _, _, _, _]) (by omega) rfl rfl rfl (fun d hd1 => ?_)
    change ZWp d zt202 0 [zi 10, _, _, _, _] [] σ f g Q
    refine r_iload_n rfl rfl ?_
    refine r_tsw rfl (by omega) rfl (And.intro (fun e => absurd e (by decide)) (fun _ => (And.intro (fun e => absurd e (by decide)) (fun _ => (And.intro (fun e => absurd e (by decide)) (fun _ => (And.intro (fun e => absurd e (by decide)) (fun _ => (And.intro (fun e => absurd e (by decide)) (fun _ => (And.intro (fun e => absurd e (by decide)) (fun _ => (And.intro (fun e => absurd e (by decide)) (fun _ => (And.intro (fun e => absurd e (by decide)) (fun _ => (And.intro (fun _ => ?_) (fun e => absurd rfl e))))))))))))))))))
    refine r_lload_n rfl rfl ?_
    refine r_lload_n rfl rfl ?_
    refine r_lcmpW rfl (fun w158 e158a e158b e158c => ?_)
    refine r_if_le rfl (by omega) (fun h159 => ?_) (fun h159 => ?_)
    · refine r_lconst rfl ?_
      refine r_lret rfl ?_
      first | (simp only [op1] at K; rw [if_pos (by omega)] at K; exact K) | (simp only [op1] at K; rw [if_neg (by omega)] at K; exact K)
    · refine r_lconst rfl ?_
      refine r_goto rfl ?_
      refine r_lret rfl ?_
      first | (simp only [op1] at K; rw [if_pos (by omega)] at K; exact K) | (simp only [op1] at K; rw [if_neg (by omega)] at K; exact K)
  · refine ZCt.of' (L0 := [_, _, _, _, _]) (by omega) rfl rfl rfl (fun d hd1 => ?_)
    change ZWp d zt202 0 [zi 12, _, _, _, _] [] σ f g Q
    refine r_iload_n rfl rfl ?_
    refine r_tsw rfl (by omega) rfl (And.intro (fun e => absurd e (by decide)) (fun _ => (And.intro (fun e => absurd e (by decide)) (fun _ => (And.intro (fun e => absurd e (by decide)) (fun _ => (And.intro (fun e => absurd e (by decide)) (fun _ => (And.intro (fun e => absurd e (by decide)) (fun _ => (And.intro (fun e => absurd e (by decide)) (fun _ => (And.intro (fun e => absurd e (by decide)) (fun _ => (And.intro (fun e => absurd e (by decide)) (fun _ => (And.intro (fun e => absurd e (by decide)) (fun _ => (And.intro (fun e => absurd e (by decide)) (fun _ => (And.intro (fun _ => ?_) (fun e => absurd rfl e))))))))))))))))))))))
    refine r_lload_n rfl rfl ?_
    refine r_lload_n rfl rfl ?_
    refine r_land rfl ?_
    refine r_lret rfl ?_
    exact K
  · refine ZCt.of' (L0 := [_, _, _, _, _]) (by omega) rfl rfl rfl (fun d hd1 => ?_)
    change ZWp d zt202 0 [zi 13, _, _, _, _] [] σ f g Q
    refine r_iload_n rfl rfl ?_
    refine r_tsw rfl (by omega) rfl (And.intro (fun e => absurd e (by decide)) (fun _ => (And.intro (fun e => absurd e (by decide)) (fun _ => (And.intro (fun e => absurd e (by decide)) (fun _ => (And.intro (fun e => absurd e (by decide)) (fun _ => (And.intro (fun e => absurd e (by decide)) (fun _ => (And.intro (fun e => absurd e (by decide)) (fun _ => (And.intro (fun e => absurd e (by decide)) (fun _ => (And.intro (fun e => absurd e (by decide)) (fun _ => (And.intro (fun e => absurd e (by decide)) (fun _ => (And.intro (fun e => absurd e (by decide)) (fun _ => (And.intro (fun e => absurd e (by decide)) (fun _ => (And.intro (fun _ => ?_) (fun e => absurd rfl e))))))))))))))))))))))))
    refine r_lload_n rfl rfl ?_
    refine r_lload_n rfl rfl ?_
    refine r_lor rfl ?_
    refine r_lret rfl ?_
    exact K
  · refine ZCt.of' (L0 := [_, _, _, _, _]) (by omega) rfl rfl rfl (fun d hd1 => ?_)
    change ZWp d zt202 0 [zi 14, _, _, _, _] [] σ f g Q
    refine r_iload_n rfl rfl ?_
    refine r_tsw rfl (by omega) rfl (And.intro (fun e => absurd e (by decide)) (fun _ => (And.intro (fun e => absurd e (by decide)) (fun _ => (And.intro (fun e => absurd e (by decide)) (fun _ => (And.intro (fun e => absurd e (by decide)) (fun _ => (And.intro (fun e => absurd e (by decide)) (fun _ => (And.intro (fun e => absurd e (by decide)) (fun _ => (And.intro (fun e => absurd e (by decide)) (fun _ => (And.intro (fun e => absurd e (by decide)) (fun _ => (And.intro (fun e => absurd e (by decide)) (fun _ => (And.intro (fun e => absurd e (by decide)) (fun _ => (And.intro (fun e => absurd e (by decide)) (fun _ => (And.intro (fun e => absurd e (by decide)) (fun _ => (And.intro (fun _ => ?_) (fun e => absurd rfl e))))))))))))))))))))))))))
    refine r_lload_n rfl rfl ?_
    refine r_lconst rfl ?_
    refine r_lcmpW rfl (fun w96 e96a e96b e96c => ?_)
    refine r_if_ne rfl (by omega) (fun h97 => ?_) (fun h97 => ?_)
    · refine r_lload_n rfl rfl ?_
      refine r_lload_n rfl rfl ?_
      refine r_lrem rfl (by omega) ?_
      refine r_lret rfl ?_
      first | (simp only [op1] at K; rw [if_pos (by omega)] at K; exact K) | (simp only [op1] at K; rw [if_neg (by omega)] at K; exact K)
    · refine r_lconst rfl ?_
      refine r_goto rfl ?_
      refine r_lret rfl ?_
      first | (simp only [op1] at K; rw [if_pos (by omega)] at K; exact K) | (simp only [op1] at K; rw [if_neg (by omega)] at K; exact K)
/-- the stack has changed from s on -/
def StF (t : Nat) (f f' : ZF) (s : Nat) : Prop := (∀ c, c ≠ t → f' c = f c) ∧ ∀ j, j < s → f' t j = f t j
theorem StF.rf (t : Nat) (f : ZF) (s : Nat) : StF t f f s := ⟨fun _ _ => rfl, fun _ _ => rfl⟩
theorem StF.trans {t s s' : Nat} {a b c : ZF} (h1 : StF t a b s) (h2 : StF t b c s') (hs : s ≤ s') : StF t a c s := ⟨fun k q => (h2.1 k q).trans (h1.1 k q), fun j q => (h2.2 j (by omega)).trans (h1.2 j q)⟩
theorem StF.up {t s i : Nat} {f0 f : ZF} {v : Int} (h : StF t f0 f s) (hi : s ≤ i) : StF t f0 (up2 f t i v) s := h.trans (s' := s) ⟨fun c q => up2_o _ _ q, fun j q => up2_ne _ _ (fun z => by omega)⟩ (Nat.le_refl _)
theorem l_alN (hd : 0 ≤ d) {q c len : Nat} {x5 x6 x7 x8 : ZV} (hO : zO σ q 7) (hg : g q 0 = some c) (hc : zA σ c 100 len) (hlen : len ≤ 400) (hw : zA σ 23 103 10) (hst : zA σ 24 103 60) (hc24 : c ≠ 24) {i s : Nat} {v : Int} (hi : i < len) (hs : s < 60) (hcode : f c i = v) (hv : 0 ≤ v ∧ v ≤ 99999) (K : ∀ x5 x6, ZWp d zt66 5 [zr (some q), zr (some 23), zr (some 24), zi ((s + 1 : Nat) : Int), zi ((i + 1 : Nat) : Int), x5, x6, x7, x8] [] σ (up2 f 24 s v) g Q) : ZWp d zt66 5 [zr (some q), zr (some 23), zr (some 24), zi (s : Int), zi (i : Int), x5, x6, x7, x8] [] σ f g Q := by
  refine r_iload rfl rfl ?_
  refine r_aload_n rfl rfl ?_
  refine r_getR rfl (by first | assumption | exact hs.o rfl) (by first | assumption | exact hs.g rfl) ?_
  refine r_alen rfl (by first | assumption | exact hs.a rfl) (by omega) (by omega) ?_
  refine r_icmp_ge rfl (by omega) (by omega) (fun h12 => ?_) (fun h12 => ?_)
  · exfalso; omega
  · refine r_aload_n rfl rfl ?_
    refine r_getR rfl (by first | assumption | exact hs.o rfl) (by first | assumption | exact hs.g rfl) ?_
    refine r_iload rfl rfl ?_
    refine r_iald rfl (by first | assumption | exact hs.a rfl) (by omega) (by omega) ((zix (n := i) (by omega)).trans hcode) ?_
    refine r_istore (L' := [_, _, _, _, _, _, _, _, _]) rfl rfl rfl ?_
    refine r_iload rfl rfl ?_
    refine r_ldc rfl ?_
    refine r_isub rfl ?_
    refine r_istore (L' := [_, _, _, _, _, _, _, _, _]) rfl rfl rfl ?_
    refine r_iload rfl rfl ?_
    refine r_if_ge rfl (by omega) (fun h33 => ?_) (fun h33 => ?_)
    · exfalso; omega
    · refine r_iload_n rfl rfl ?_
      refine r_aload_n rfl rfl ?_
      refine r_alen rfl (by first | assumption | exact hs.a rfl) (by omega) (by omega) ?_
      refine r_icmp_lt rfl (by omega) (by omega) (fun h39 => ?_) (fun h39 => ?_)
      · refine r_aload_n rfl rfl ?_
        refine r_iload_n rfl rfl ?_
        refine r_iload rfl rfl ?_
        refine r_ldc rfl ?_
        refine r_icmp_ge rfl (by omega) (by omega) (fun h50 => ?_) (fun h50 => ?_)
        · exfalso; omega
        · refine r_iload rfl rfl ?_
          refine r_i2l rfl (by omega) ?_
          refine r_goto rfl ?_
          refine r_lastN (s) rfl (by first | assumption | exact hs.a rfl) (by omega) (by omega) (by omega) ?_
          refine r_iinc (L' := [_, _, _, _, _, _, _, _, _]) rfl rfl rfl ?_
          refine r_goto rfl ?_
          refine r_iinc (L' := [_, _, _, _, _, _, _, _, _]) rfl rfl rfl ?_
          refine r_goto rfl ?_
          exact K _ _
      · exfalso; omega
theorem l_alW (hd : 0 ≤ d) {q c len : Nat} {x5 x6 x7 x8 : ZV} (hO : zO σ q 7) (hg : g q 0 = some c) (hc : zA σ c 100 len) (hlen : len ≤ 400) (hw : zA σ 23 103 10) (hst : zA σ 24 103 60) (hc24 : c ≠ 24) {i s w : Nat} (hi : i < len) (hs : s < 60) (hcode : f c i = 100000 + (w : Int)) (hv : w < 10) (K : ∀ x5 x6, ZWp d zt66 5 [zr (some q), zr (some 23), zr (some 24), zi ((s + 1 : Nat) : Int), zi ((i + 1 : Nat) : Int), x5, x6, x7, x8] [] σ (up2 f 24 s (f 23 w)) g Q) : ZWp d zt66 5 [zr (some q), zr (some 23), zr (some 24), zi (s : Int), zi (i : Int), x5, x6, x7, x8] [] σ f g Q := by
  refine r_iload rfl rfl ?_
  refine r_aload_n rfl rfl ?_
  refine r_getR rfl (by first | assumption | exact hs.o rfl) (by first | assumption | exact hs.g rfl) ?_
  refine r_alen rfl (by first | assumption | exact hs.a rfl) (by omega) (by omega) ?_
  refine r_icmp_ge rfl (by omega) (by omega) (fun h12 => ?_) (fun h12 => ?_)
  · exfalso; omega
  · refine r_aload_n rfl rfl ?_
    refine r_getR rfl (by first | assumption | exact hs.o rfl) (by first | assumption | exact hs.g rfl) ?_
    refine r_iload rfl rfl ?_
    refine r_iald rfl (by first | assumption | exact hs.a rfl) (by omega) (by omega) ((zix (n := i) (by omega)).trans hcode) ?_
    refine r_istore (L' := [_, _, _, _, _, _, _, _, _]) rfl rfl rfl ?_
    refine r_iload rfl rfl ?_
    refine r_ldc rfl ?_
    refine r_isub rfl ?_
    refine r_istore (L' := [_, _, _, _, _, _, _, _, _]) rfl rfl rfl ?_
    refine r_iload rfl rfl ?_
    refine r_if_ge rfl (by omega) (fun h33 => ?_) (fun h33 => ?_)
    · exfalso; omega
    · refine r_iload_n rfl rfl ?_
      refine r_aload_n rfl rfl ?_
      refine r_alen rfl (by first | assumption | exact hs.a rfl) (by omega) (by omega) ?_
      refine r_icmp_lt rfl (by omega) (by omega) (fun h39 => ?_) (fun h39 => ?_)
      · refine r_aload_n rfl rfl ?_
        refine r_iload_n rfl rfl ?_
        refine r_iload rfl rfl ?_
        refine r_ldc rfl ?_
        refine r_icmp_ge rfl (by omega) (by omega) (fun h50 => ?_) (fun h50 => ?_)
        · refine r_aload_n rfl rfl ?_
          refine r_iload rfl rfl ?_
          refine r_ldc rfl ?_
          refine r_isub rfl ?_
          refine r_lald rfl (by first | assumption | exact hs.a rfl) (by omega) (by omega) (zix (n := w) (by omega)) ?_
          refine r_lastN (s) rfl (by first | assumption | exact hs.a rfl) (by omega) (by omega) (by omega) ?_
          refine r_iinc (L' := [_, _, _, _, _, _, _, _, _]) rfl rfl rfl ?_
          refine r_goto rfl ?_
          refine r_iinc (L' := [_, _, _, _, _, _, _, _, _]) rfl rfl rfl ?_
          refine r_goto rfl ?_
          exact K _ _
        · exfalso; omega
      · exfalso; omega
theorem k_takes33 (hd : 1 ≤ d) (K : Q (some (zi 0)) σ f g) : ZCt d 67 [zi (100010 + 33 - 100010)] σ f g Q := by
  refine ZCt.of' (L0 := [_]) (by omega) rfl rfl rfl (fun d hd1 => ?_)
  refine r_iload_n rfl rfl ?_
  refine r_bipush rfl ?_
  refine r_icmp_eq rfl (by omega) (by omega) (fun h => by omega) (fun h => ?_)
  refine r_iload_n rfl rfl ?_
  refine r_bipush rfl ?_
  refine r_icmp_eq rfl (by omega) (by omega) (fun h => ?_) (fun h => by omega)
  refine r_iconst rfl ?_
  refine r_zret rfl (by omega) ?_
  exact K
theorem l_alT (hd : 1 ≤ d) {q c len : Nat} {x5 x6 x7 x8 : ZV} (hO : zO σ q 7) (hg : g q 0 = some c) (hc : zA σ c 100 len) (hlen : len ≤ 400) (hw : zA σ 23 103 10) (hst : zA σ 24 103 60) (hc24 : c ≠ 24) {i s : Nat} (hi : i < len) (hs : s < 60) (hcode : f c i = 100010 + 33) (K : ∀ x5 x6 x7 x8, ZWp d zt66 5 [zr (some q), zr (some 23), zr (some 24), zi ((s + 1 : Nat) : Int), zi ((i + 1 : Nat) : Int), x5, x6, x7, x8] [] σ (up2 f 24 s (1 - f 24 s)) g Q) : ZWp d zt66 5 [zr (some q), zr (some 23), zr (some 24), zi ((s + 1 : Nat) : Int), zi (i : Int), x5, x6, x7, x8] [] σ f g Q := by
  refine r_iload rfl rfl ?_
  refine r_aload_n rfl rfl ?_
  refine r_getR rfl (by first | assumption | exact hs.o rfl) (by first | assumption | exact hs.g rfl) ?_
  refine r_alen rfl (by first | assumption | exact hs.a rfl) (by omega) (by omega) ?_
  refine r_icmp_ge rfl (by omega) (by omega) (fun h12 => ?_) (fun h12 => ?_)
  · exfalso; omega
  · refine r_aload_n rfl rfl ?_
    refine r_getR rfl (by first | assumption | exact hs.o rfl) (by first | assumption | exact hs.g rfl) ?_
    refine r_iload rfl rfl ?_
    refine r_iald rfl (by first | assumption | exact hs.a rfl) (by omega) (by omega) ((zix (n := i) (by omega)).trans hcode) ?_
    refine r_istore (L' := [_, _, _, _, _, _, _, _, _]) rfl rfl rfl ?_
    refine r_iload rfl rfl ?_
    refine r_ldc rfl ?_
    refine r_isub rfl ?_
    refine r_istore (L' := [_, _, _, _, _, _, _, _, _]) rfl rfl rfl ?_
    refine r_iload rfl rfl ?_
    refine r_if_ge rfl (by omega) (fun h33 => ?_) (fun h33 => ?_)
    · refine r_iload_n rfl rfl ?_
      refine r_iconst rfl ?_
      refine r_icmp_lt rfl (by omega) (by omega) (fun h75 => ?_) (fun h75 => ?_)
      · exfalso; omega
      · refine r_iload_n rfl rfl ?_
        refine r_iconst rfl ?_
        refine r_icmp_ge rfl (by omega) (by omega) (fun h2 => ?_) (fun h2 => ?_)
        · refine r_aload_n rfl rfl ?_
          refine r_iload_n rfl rfl ?_
          refine r_iconst rfl ?_
          refine r_isub rfl ?_
          refine r_lald rfl (by first | assumption | exact hs.a rfl) (by omega) (by omega) (zix (n := s) (by omega)) ?_
          refine r_lstore (L' := [_, _, _, _, _, _, _, _, _]) rfl rfl rfl ?_
          refine r_iload rfl rfl ?_
          refine r_bipush rfl ?_
          refine r_icmp_ne rfl (by omega) (by omega) (fun h104 => ?_) (fun h104 => ?_)
          · refine r_iload rfl rfl ?_
            refine r_bipush rfl ?_
            refine r_icmp_ne rfl (by omega) (by omega) (fun h124 => ?_) (fun h124 => ?_)
            · exfalso; omega
            · refine r_aload_n rfl rfl ?_
              refine r_iload_n rfl rfl ?_
              refine r_iconst rfl ?_
              refine r_isub rfl ?_
              refine r_lconst rfl ?_
              refine r_lload rfl rfl ?_
              refine r_lsub rfl ?_
              refine r_lastN (s) rfl (by first | assumption | exact hs.a rfl) (by omega) (by omega) (by omega) ?_
              refine r_goto rfl ?_
              refine r_iinc (L' := [_, _, _, _, _, _, _, _, _]) rfl rfl rfl ?_
              refine r_goto rfl ?_
              exact K _ _ _ _
          · exfalso; omega
        · refine r_iload rfl rfl ?_
          refine r_callS1 rfl rfl rfl (k_takes33 (by omega) ?_)
          refine r_if_y rfl (by decide) ?_
          refine r_aload_n rfl rfl ?_
          refine r_iload_n rfl rfl ?_
          refine r_iconst rfl ?_
          refine r_isub rfl ?_
          refine r_lald rfl (by first | assumption | exact hs.a rfl) (by omega) (by omega) (zix (n := s) (by omega)) ?_
          refine r_lstore (L' := [_, _, _, _, _, _, _, _, _]) rfl rfl rfl ?_
          refine r_iload rfl rfl ?_
          refine r_bipush rfl ?_
          refine r_icmp_ne rfl (by omega) (by omega) (fun h104 => ?_) (fun h104 => ?_)
          · refine r_iload rfl rfl ?_
            refine r_bipush rfl ?_
            refine r_icmp_ne rfl (by omega) (by omega) (fun h124 => ?_) (fun h124 => ?_)
            · exfalso; omega
            · refine r_aload_n rfl rfl ?_
              refine r_iload_n rfl rfl ?_
              refine r_iconst rfl ?_
              refine r_isub rfl ?_
              refine r_lconst rfl ?_
              refine r_lload rfl rfl ?_
              refine r_lsub rfl ?_
              refine r_lastN (s) rfl (by first | assumption | exact hs.a rfl) (by omega) (by omega) (by omega) ?_
              refine r_goto rfl ?_
              refine r_iinc (L' := [_, _, _, _, _, _, _, _, _]) rfl rfl rfl ?_
              refine r_goto rfl ?_
              exact K _ _ _ _
          · exfalso; omega
    · exfalso; omega
theorem l_alO (hd : 2 ≤ d) {q c len : Nat} {x5 x6 x7 x8 : ZV} (hO : zO σ q 7) (hg : g q 0 = some c) (hc : zA σ c 100 len) (hlen : len ≤ 400) (hw : zA σ 23 103 10) (hst : zA σ 24 103 60) (hc24 : c ≠ 24) {i s o : Nat} (ho : VOp o) (hi : i < len) (hs : s + 1 < 60) (hcode : f c i = 100010 + opc o) (K : ∀ x5 x6 x7 x8, ZWp d zt66 5 [zr (some q), zr (some 23), zr (some 24), zi ((s + 1 : Nat) : Int), zi ((i + 1 : Nat) : Int), x5, x6, x7, x8] [] σ (up2 f 24 s (op1 o (f 24 s) (f 24 (s + 1)))) g Q) : ZWp d zt66 5 [zr (some q), zr (some 23), zr (some 24), zi ((s + 2 : Nat) : Int), zi (i : Int), x5, x6, x7, x8] [] σ f g Q := by
  have hor := opc_rng ho
  refine r_iload rfl rfl ?_
  refine r_aload_n rfl rfl ?_
  refine r_getR rfl (by first | assumption | exact hs.o rfl) (by first | assumption | exact hs.g rfl) ?_
  refine r_alen rfl (by first | assumption | exact hs.a rfl) (by omega) (by omega) ?_
  refine r_icmp_ge rfl (by omega) (by omega) (fun h12 => ?_) (fun h12 => ?_)
  · exfalso; omega
  · refine r_aload_n rfl rfl ?_
    refine r_getR rfl (by first | assumption | exact hs.o rfl) (by first | assumption | exact hs.g rfl) ?_
    refine r_iload rfl rfl ?_
    refine r_iald rfl (by first | assumption | exact hs.a rfl) (by omega) (by omega) ((zix (n := i) (by omega)).trans hcode) ?_
    refine r_istore (L' := [_, _, _, _, _, _, _, _, _]) rfl rfl rfl ?_
    refine r_iload rfl rfl ?_
    refine r_ldc rfl ?_
    refine r_isub rfl ?_
    refine r_istore (L' := [_, _, _, _, _, _, _, _, _]) rfl rfl rfl ?_
    refine r_iload rfl rfl ?_
    refine r_if_ge rfl (by omega) (fun h33 => ?_) (fun h33 => ?_)
    · refine r_iload_n rfl rfl ?_
      refine r_iconst rfl ?_
      refine r_icmp_lt rfl (by omega) (by omega) (fun h75 => ?_) (fun h75 => ?_)
      · exfalso; omega
      · refine r_iload_n rfl rfl ?_
        refine r_iconst rfl ?_
        refine r_icmp_ge rfl (by omega) (by omega) (fun h80 => ?_) (fun h80 => ?_)
        · refine r_aload_n rfl rfl ?_
          refine r_iload_n rfl rfl ?_
          refine r_iconst rfl ?_
          refine r_isub rfl ?_
          refine r_lald rfl (by first | assumption | exact hs.a rfl) (by omega) (by omega) (zix (n := s + 1) (by omega)) ?_
          refine r_lstore (L' := [_, _, _, _, _, _, _, _, _]) rfl rfl rfl ?_
          refine r_iload rfl rfl ?_
          refine r_bipush rfl ?_
          refine r_icmp_ne rfl (by omega) (by omega) (fun h104 => ?_) (fun h104 => ?_)
          · refine r_iload rfl rfl ?_
            refine r_bipush rfl ?_
            refine r_icmp_ne rfl (by omega) (by omega) (fun h124 => ?_) (fun h124 => ?_)
            · refine r_iload rfl rfl ?_
              refine r_bipush rfl ?_
              refine r_icmp_eq rfl (by omega) (by omega) (fun h143 => ?_) (fun h143 => ?_)
              · exfalso; omega
              · refine r_aload_n rfl rfl ?_
                refine r_iload_n rfl rfl ?_
                refine r_iconst rfl ?_
                refine r_isub rfl ?_
                refine r_iload rfl rfl ?_
                refine r_aload_n rfl rfl ?_
                refine r_iload_n rfl rfl ?_
                refine r_iconst rfl ?_
                refine r_isub rfl ?_
                rw [show 100010 + opc o - 100010 = opc o by omega]
                refine r_lald rfl (by first | assumption | exact hs.a rfl) (by omega) (by omega) (zix (n := s) (by omega)) ?_
                refine r_lload rfl rfl ?_
                refine r_callS3 rfl rfl rfl (k_join (s := o) (by omega) ho ?_)
                refine r_lastN (s) rfl (by first | assumption | exact hs.a rfl) (by omega) (by omega) (by omega) ?_
                refine r_iinc (L' := [_, _, _, _, _, _, _, _, _]) rfl rfl rfl ?_
                refine r_goto rfl ?_
                refine r_iinc (L' := [_, _, _, _, _, _, _, _, _]) rfl rfl rfl ?_
                refine r_goto rfl ?_
                rw [show ((s + 2 : Nat) : Int) + -1 = ((s + 1 : Nat) : Int) by omega]
                exact K _ _ _ _
            · exfalso; omega
          · exfalso; omega
        · exfalso; omega
    · exfalso; omega
theorem l_alE (hd : 2 ≤ d) {q c len : Nat} (hO : zO σ q 7) (hg : g q 0 = some c) (hc : zA σ c 100 len) (hlen : len ≤ 400) (hw : zA σ 23 103 10) (hst : zA σ 24 103 60) (hc24 : c ≠ 24) : ∀ (e : Ex) (f : ZF) (i s : Nat) (x5 x6 x7 x8 : ZV), e.ok → At (f c) i (e.tk.map tcode) → i + e.tk.length ≤ len → s + e.nv ≤ 60 →
    (∀ f' x5 x6 x7 x8, StF 24 f f' s → f' 24 s = e.ev (f 23) → ZWp d zt66 5 [zr (some q), zr (some 23), zr (some 24), zi ((s + 1 : Nat) : Int), zi ((i + e.tk.length : Nat) : Int), x5, x6, x7, x8] [] σ f' g Q) → ZWp d zt66 5 [zr (some q), zr (some 23), zr (some 24), zi (s : Int), zi (i : Int), x5, x6, x7, x8] [] σ f g Q := by
  intro e
  induction e with
  | nm v =>
    intro f i s x5 x6 x7 x8 hok hat hi hs K
    have hcode : f c i = v := hat.1
    simp only [Ex.tk, List.length_cons, List.length_nil, Ex.nv] at hi hs
    exact l_alN (by omega) hO hg hc hlen hw hst hc24 (by omega) (by omega) hcode hok (fun x5 x6 => K _ _ _ _ _ ((StF.rf 24 f s).up (Nat.le_refl s)) (up2_same _ _ _ _))
  | wd v =>
    intro f i s x5 x6 x7 x8 hok hat hi hs K
    have hcode : f c i = 100000 + (v : Int) := hat.1
    simp only [Ex.tk, List.length_cons, List.length_nil, Ex.nv] at hi hs
    exact l_alW (by omega) hO hg hc hlen hw hst hc24 (by omega) (by omega) hcode hok (fun x5 x6 => K _ _ _ _ _ ((StF.rf 24 f s).up (Nat.le_refl s)) (up2_same _ _ _ _))
  | nt a ih =>
    intro f i s x5 x6 x7 x8 hok hat hi hs K
    simp only [Ex.tk, List.map_append] at hat
    rw [At.app] at hat
    simp only [Ex.tk, List.length_append, List.length_cons, List.length_nil, Ex.nv, List.length_map] at hi hs hat
    refine ih f i s x5 x6 x7 x8 hok hat.1 (by omega) hs (fun f1 y5 y6 y7 y8 h1 h2 => ?_)
    have hcode : f1 c (i + a.tk.length) = 100010 + 33 := by rw [h1.1 c hc24]; exact hat.2.1
    have hnv := a.nv_tk
    refine l_alT (by omega) hO hg hc hlen hw hst hc24 (by omega) (by omega) hcode (fun z5 z6 z7 z8 => ?_)
    simp only [Ex.tk, List.length_append, List.length_cons, List.length_nil] at K
    exact K _ _ _ _ _ (h1.up (Nat.le_refl s)) (by rw [up2_same, h2]; rfl)
  | bi o a b iha ihb =>
    intro f i s x5 x6 x7 x8 hok hat hi hs K
    simp only [Ex.tk, List.map_append] at hat
    rw [At.app, At.app] at hat
    simp only [Ex.tk, List.length_append, List.length_cons, List.length_nil, Ex.nv, List.length_map] at hi hs hat
    have hnv := a.nv_tk
    have hnv2 := b.nv_tk
    have hov := opc_rng hok.1
    refine iha f i s x5 x6 x7 x8 hok.2.1 hat.1 (by omega) (by omega) (fun f1 y5 y6 y7 y8 h1 h2 => ?_)
    refine ihb f1 (i + a.tk.length) (s + 1) y5 y6 y7 y8 hok.2.2 (by rw [h1.1 c hc24]; exact hat.2.1) (by omega) (by omega) (fun f2 z5 z6 z7 z8 h3 h4 => ?_)
    have ht : tcode (o, 0) = 100010 + opc o := by
      have h0 := hok.1
      unfold tcode
      rw [if_neg (show ¬ o = 0 by omega), if_neg (show ¬ o = 1 by omega)]
    have hcode : f2 c (i + a.tk.length + b.tk.length) = 100010 + opc o := by
      rw [h3.1 c hc24, h1.1 c hc24, ← ht]
      exact hat.2.2.1
    refine l_alO (by omega) hO hg hc hlen hw hst hc24 hok.1 (by omega) (by omega) hcode (fun u5 u6 u7 u8 => ?_)
    simp only [Ex.tk, List.length_append, List.length_cons, List.length_nil] at K
    have e : i + a.tk.length + b.tk.length + 1 = i + (a.tk.length + (b.tk.length + (0 + 1))) := by omega
    rw [e]
    refine K _ _ _ _ _ ((h1.trans h3 (by omega)).up (Nat.le_refl s)) ?_
    rw [up2_same, h4, h3.2 s (by omega), h2, h1.1 23 (by omega)]
    rfl
end RULES
