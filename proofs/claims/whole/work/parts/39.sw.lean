/-! Rows for switches and for comparisons of any numbers -/
def swG (P : Nat → Prop) (pc : Nat) : List (Int × Int) → Int → Int → Prop
  | [], dflt, _ => P ((pc : Int) + dflt).toNat
  | (a, o) :: r, dflt, x => (x = a → P ((pc : Int) + o).toNat) ∧ (x ≠ a → swG P pc r dflt x)
def tsl (lo : Int) : List Int → List (Int × Int)
  | [] => []
  | o :: r => (lo, o) :: tsl (lo + 1) r
theorem swG_of {P : Nat → Prop} {pc : Nat} : ∀ (l : List (Int × Int)) (dflt x : Int), swG P pc l dflt x → P ((pc : Int) + Op.lookupswitch.offset l dflt x).toNat := by
  intro l
  induction l with
  | nil => intro dflt x h; exact h
  | cons p r ih =>
    obtain ⟨a, o⟩ := p
    intro dflt x h
    rw [Op.lookupswitch.offset_cons]
    by_cases e : a = x
    · rw [if_pos e]; exact h.1 e.symm
    · rw [if_neg e]; exact ih dflt x (h.2 (fun q => e q.symm))
theorem tsl_of {P : Nat → Prop} {pc : Nat} : ∀ (l : List Int) (lo dflt x : Int), swG P pc (tsl lo l) dflt x → ((x < lo ∨ lo + (l.length : Int) ≤ x) → P ((pc : Int) + dflt).toNat) ∧ (∀ (i : Nat) (off : Int), x = lo + (i : Int) → l[i]? = some off → P ((pc : Int) + off).toNat) := by
  intro l
  induction l with
  | nil => intro lo dflt x h; exact ⟨fun _ => h, fun i off _ q => by simp at q⟩
  | cons o r ih =>
    intro lo dflt x h
    refine ⟨fun q => ?_, fun i off hx q => ?_⟩
    · simp only [List.length_cons] at q
      exact (ih (lo + 1) dflt x (h.2 (by omega))).1 (by omega)
    · cases i with
      | zero =>
        simp at q
        subst q
        exact h.1 (by omega)
      | succ i =>
        simp at q
        exact (ih (lo + 1) dflt x (h.2 (by omega))).2 i off (by omega) q
section SW
variable {d : Nat} {T : ZT} {pc q a b c : Nat} {v : Int} {L st : List ZV} {σ : ZS} {f : ZF} {g : ZG} {Q : ZQ}
theorem r_lsw {x dflt : Int} {ps : Array (Int × Int)} (hlk : zlk T pc = some (.lookupswitch dflt ps, q, a, b, c, v)) (hx : -2147483648 ≤ x ∧ x ≤ 2147483647) (kk : swG (fun t => ZWp d T t L st σ f g Q) pc ps.toList dflt x) : ZWp d T pc L (zi x :: st) σ f g Q := by
  refine ZWp.step hlk ?_ (swG_of (P := fun t => ZWp d T t L st σ f g Q) _ _ _ kk)
  simp only [zx, wr_id hx]
  rfl
theorem r_tsw {x dflt lo hi : Int} {offs : Array Int} (hlk : zlk T pc = some (.tableswitch dflt lo hi offs, q, a, b, c, v)) (hx : -2147483648 ≤ x ∧ x ≤ 2147483647) (hh : hi + 1 = lo + (offs.toList.length : Int)) (kk : swG (fun t => ZWp d T t L st σ f g Q) pc (tsl lo offs.toList) dflt x) : ZWp d T pc L (zi x :: st) σ f g Q := by
  have h := tsl_of (P := fun t => ZWp d T t L st σ f g Q) _ _ _ _ kk
  by_cases e : x < lo ∨ hi < x
  · refine ZWp.step hlk ?_ (h.1 (by omega))
    simp only [zx, wr_id hx]
    rw [if_pos e]
    rfl
  · obtain ⟨i, hi'⟩ := Int.eq_ofNat_of_zero_le (show 0 ≤ x - lo by omega)
    have hlt : i < offs.toList.length := by omega
    have ho : offs.toList[i]? = some (offs.toList[i]) := List.getElem?_eq_getElem hlt
    refine ZWp.step hlk ?_ (h.2 i _ (by omega) ho)
    simp only [zx, wr_id hx]
    rw [if_neg e, hi']
    simp only [Int.toNat_natCast, ho]
    rfl
theorem z_cm_dec (cm : Jvm.ClassFile.Cond) (x y : Int) : z_cm cm x y = true ∨ z_cm cm x y = false := by
  cases z_cm cm x y
  · exact Or.inr rfl
  · exact Or.inl rfl
/-- either way, nothing known of it -/
theorem r_icmp_any {x y off : Int} {cm : Jvm.ClassFile.Cond} (hlk : zlk T pc = some (.if_icmp cm off, q, a, b, c, v)) (k1 : ZWp d T a L st σ f g Q) (k2 : ZWp d T q L st σ f g Q) : ZWp d T pc L (zi y :: zi x :: st) σ f g Q := by
  rcases z_cm_dec cm x y with h | h
  · exact ZWp.step hlk (by simp only [zx, z_if]; rw [if_pos h]; rfl) k1
  · exact ZWp.step hlk (by simp only [zx, z_if]; rw [if_neg (by rw [h]; decide)]; rfl) k2
theorem r_lcmpW {x y : Int} (hlk : zlk T pc = some (.lcmp, q, a, b, c, v)) (k : ∀ w : Int, (w = -1 ∨ w = 0 ∨ w = 1) → (w < 0 ↔ wl x < wl y) → (w = 0 ↔ wl x = wl y) → ZWp d T q L (zi w :: st) σ f g Q) : ZWp d T pc L (zl y :: zl x :: st) σ f g Q := by
  refine r_lcmp hlk ?_
  unfold z_cmp
  by_cases h1 : wl y < wl x
  · rw [if_pos h1]; exact k 1 (by omega) (by omega) (by omega)
  · rw [if_neg h1]
    by_cases h2 : wl x = wl y
    · rw [if_pos h2]; exact k 0 (by omega) (by omega) (by omega)
    · rw [if_neg h2]; exact k (-1) (by omega) (by omega) (by omega)
end SW
