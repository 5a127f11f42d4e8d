/-! The small machine's instructions, each held against the machine's own -/
def znu (v : ZV) : Bool := match v with
  | .inr (.inr (.inr _)) => false
  | _ => true
def zlv (B : Nat) (ext : Nat → Nat) : Nat → List ZV → List (Nat × Value)
  | _, [] => []
  | i, v :: t => if znu v = true then (i, zcv B ext v) :: zlv B ext (i + 1) t else zlv B ext (i + 1) t
theorem zlv_mem {B : Nat} {ext : Nat → Nat} : ∀ (L : List ZV) (i : Nat) (q : Nat × Value), q ∈ zlv B ext i L ↔ ∃ j v, zget L j = some v ∧ znu v = true ∧ q = (i + j, zcv B ext v) := by
  intro L
  induction L with
  | nil =>
    intro i q
    simp [zlv, zget]
  | cons u t ih =>
    intro i q
    have step : q ∈ zlv B ext i (u :: t) ↔ (znu u = true ∧ q = (i, zcv B ext u)) ∨ q ∈ zlv B ext (i + 1) t := by
      show q ∈ (if znu u = true then (i, zcv B ext u) :: zlv B ext (i + 1) t else zlv B ext (i + 1) t) ↔ _
      by_cases hu : znu u = true
      · rw [if_pos hu, List.mem_cons]
        constructor
        · rintro (h | h)
          · exact Or.inl ⟨hu, h⟩
          · exact Or.inr h
        · rintro (h | h)
          · exact Or.inl h.2
          · exact Or.inr h
      · rw [if_neg hu]
        constructor
        · intro h; exact Or.inr h
        · rintro (h | h)
          · exact absurd h.1 hu
          · exact h
    rw [step, ih]
    constructor
    · rintro (⟨h1, h2⟩ | ⟨j, v, h1, h2, h3⟩)
      · exact ⟨0, u, rfl, h1, by simpa using h2⟩
      · exact ⟨j + 1, v, h1, h2, by rw [h3]; congr 1; omega⟩
    · rintro ⟨j, v, h1, h2, h3⟩
      cases j with
      | zero =>
        have e : u = v := Option.some.inj h1
        subst e
        exact Or.inl ⟨h2, by simpa using h3⟩
      | succ j => exact Or.inr ⟨j, v, h1, h2, by rw [h3]; congr 1; omega⟩
theorem zget_lt : ∀ (L : List ZV) (i : Nat) (v : ZV), zget L i = some v → i < L.length := by
  intro L
  induction L with
  | nil => intro i v h; cases i <;> cases h
  | cons u t ih =>
    intro i v h
    cases i with
    | zero => simp
    | succ i => have := ih i v h; simp; omega
theorem zset_len : ∀ (L : List ZV) (i : Nat) (v : ZV), (zset L i v).length = L.length := by
  intro L
  induction L with
  | nil => intro i v; rfl
  | cons u t ih =>
    intro i v
    cases i with
    | zero => rfl
    | succ i => simp [zset, ih]
theorem zset_get : ∀ (L : List ZV) (i j : Nat) (v : ZV), i < L.length → zget (zset L i v) j = if j = i then some v else zget L j := by
  intro L
  induction L with
  | nil => intro i j v h; simp at h
  | cons u t ih =>
    intro i j v h
    cases i with
    | zero => cases j <;> simp [zset, zget]
    | succ i =>
      cases j with
      | zero => simp [zset, zget]
      | succ j =>
        simp only [zset, zget]
        rw [ih i j v (by simpa using h)]
        simp
theorem zst1_len : ∀ (L : List ZV) (i : Nat) (v : ZV), (zst1 L i v).length = L.length := by
  intro L
  induction L with
  | nil => intro i v; rfl
  | cons u t ih =>
    intro i v
    match i with
    | 0 => rfl
    | 1 => simp [zst1, zset_len]
    | n + 2 => simp [zst1, ih]
theorem zst1_get : ∀ (L : List ZV) (i j : Nat) (v : ZV), i < L.length → zget (zst1 L i v) j = if j = i then some v else if j + 1 = i then (zget L j).map zkeep else zget L j := by
  intro L
  induction L with
  | nil => intro i j v h; simp at h
  | cons u t ih =>
    intro i j v h
    match i with
    | 0 => cases j <;> simp [zst1, zget]
    | 1 =>
      cases j with
      | zero => simp [zst1, zget]
      | succ j =>
        simp only [zst1, zget]
        rw [zset_get t 0 j v (by simp at h; omega)]
        simp
    | n + 2 =>
      cases j with
      | zero => simp [zst1, zget]
      | succ j =>
        simp only [zst1, zget]
        rw [ih (n + 1) j v (by simp at h; omega)]
        simp
theorem zst2_len : ∀ (L : List ZV) (i : Nat) (v : ZV), (zst2 L i v).length = L.length := by
  intro L
  induction L with
  | nil => intro i v; rfl
  | cons u t ih =>
    intro i v
    match i with
    | 0 => simp [zst2, zset_len]
    | 1 => simp [zst2, zset_len]
    | n + 2 => simp [zst2, ih]
theorem zst2_get : ∀ (L : List ZV) (i j : Nat) (v : ZV), i + 1 < L.length → zget (zst2 L i v) j = if j = i then some v else if j = i + 1 then some zu else if j + 1 = i then (zget L j).map zkeep else zget L j := by
  intro L
  induction L with
  | nil => intro i j v h; simp at h
  | cons u t ih =>
    intro i j v h
    match i with
    | 0 =>
      cases j with
      | zero => simp [zst2, zget]
      | succ j =>
        simp only [zst2, zget]
        rw [zset_get t 0 j zu (by simp at h; omega)]
        by_cases hj : j = 0 <;> simp [hj]
    | 1 =>
      cases j with
      | zero => simp [zst2, zget]
      | succ j =>
        simp only [zst2, zget]
        rw [zset_get _ 1 j zu (by rw [zset_len]; simp at h; omega), zset_get t 0 j v (by simp at h; omega)]
        by_cases h1 : j = 1
        · subst h1; simp
        · by_cases h0 : j = 0
          · subst h0; simp
          · simp [h1, h0]
    | n + 2 =>
      cases j with
      | zero => simp [zst2, zget]
      | succ j =>
        simp only [zst2, zget]
        rw [ih (n + 1) j v (by simp at h; omega)]
        simp
theorem zcat2 {B : Nat} {ext : Nat → Nat} (v : ZV) (h : ((zcv B ext v).category == 2) = true) : zkeep v = zu := by
  rcases v with x | x | x | x
  · cases h
  · rfl
  · cases x <;> cases h
  · cases h
theorem zkeep_nu (v : ZV) (h : znu (zkeep v) = true) : zkeep v = v := by
  rcases v with x | x | x | x
  · rfl
  · cases h
  · rfl
  · rfl
theorem zst1_sub {B : Nat} {ext : Nat → Nat} {L : List ZV} {a : Nat} {v : ZV} (ha : a < L.length) : ∀ q ∈ zlv B ext 0 (zst1 L a v), q ∈ (a, zcv B ext v) :: (zlv B ext 0 L).filter (fun q => !(q.1 == a) && !(q.1 + 1 == a && q.2.category == 2)) := by
  intro q hq
  obtain ⟨j, w, h1, h2, rfl⟩ := (zlv_mem _ _ _).mp hq
  rw [zst1_get L a j v ha] at h1
  by_cases hj : j = a
  · rw [if_pos hj] at h1
    cases h1
    subst hj
    simp
  · rw [if_neg hj] at h1
    refine List.mem_cons_of_mem _ (List.mem_filter.mpr ?_)
    by_cases hj1 : j + 1 = a
    · rw [if_pos hj1] at h1
      obtain ⟨u, hu, rfl⟩ := Option.map_eq_some_iff.mp h1
      have e := zkeep_nu u h2
      refine ⟨(zlv_mem _ _ _).mpr ⟨j, u, hu, by rw [← e]; exact h2, by rw [e]⟩, ?_⟩
      have hc : ¬ ((zcv B ext u).category == 2) = true := fun hc => by
        rw [zcat2 u hc] at h2
        cases h2
      rw [e]
      simp only [Bool.not_eq_true] at hc
      simp [hj, hc]
    · rw [if_neg hj1] at h1
      refine ⟨(zlv_mem _ _ _).mpr ⟨j, w, h1, h2, rfl⟩, ?_⟩
      simp [hj, hj1]
theorem zst2_sub {B : Nat} {ext : Nat → Nat} {L : List ZV} {a : Nat} {v : ZV} (ha : a + 1 < L.length) : ∀ q ∈ zlv B ext 0 (zst2 L a v), q ∈ (a, zcv B ext v) :: (zlv B ext 0 L).filter (fun q => !(q.1 == a) && (!(q.1 == a + 1) && !(q.1 + 1 == a && q.2.category == 2))) := by
  intro q hq
  obtain ⟨j, w, h1, h2, rfl⟩ := (zlv_mem _ _ _).mp hq
  rw [zst2_get L a j v ha] at h1
  by_cases hj : j = a
  · rw [if_pos hj] at h1
    cases h1
    subst hj
    simp
  · rw [if_neg hj] at h1
    refine List.mem_cons_of_mem _ (List.mem_filter.mpr ?_)
    by_cases hj2 : j = a + 1
    · rw [if_pos hj2] at h1
      cases h1
      cases h2
    · rw [if_neg hj2] at h1
      by_cases hj1 : j + 1 = a
      · rw [if_pos hj1] at h1
        obtain ⟨u, hu, rfl⟩ := Option.map_eq_some_iff.mp h1
        have e := zkeep_nu u h2
        refine ⟨(zlv_mem _ _ _).mpr ⟨j, u, hu, by rw [← e]; exact h2, by rw [e]⟩, ?_⟩
        have hc : ¬ ((zcv B ext u).category == 2) = true := fun hc => by
          rw [zcat2 u hc] at h2
          cases h2
        rw [e]
        simp only [Bool.not_eq_true] at hc
        simp [hj, hj2, hc]
      · rw [if_neg hj1] at h1
        refine ⟨(zlv_mem _ _ _).mpr ⟨j, w, h1, h2, rfl⟩, ?_⟩
        simp [hj, hj1, hj2]
/-- what a frame stands on: machine, code, own class, the tables' words -/
def ZC (p : Program) (s : State) (m : MethodId) (args : Array Value) (c : Code) (o : Nat) (cc : ByteArray) (nL : Nat) : Prop :=
  p.tables.exec = Jvm.exec ∧ c.code = cc ∧ c.maxLocals = nL ∧ s.vm.findClass (zRN o) = some m.cls ∧ ∀ w ∈ zTB, w.before args s = true
/-- from every state of the machine that shows this state of the small one, the machine comes to Q -/
def ZW (p : Program) (l : Launch) (e : Env) (R : Room) (s : State) (m : MethodId) (args : Array Value) (below : List Frame) (meth : Method) (c : Code) (Q : State → Prop) (B : Nat) (ext : Nat → Nat) (D : va_G) (sc : Nat × (Nat → Int32)) (N0 S0 nL pc : Nat) (L st : List ZV) (h : ZH) : Prop :=
  ∀ (ca : Nat → ClassId) (H : Heap) (locs : List Loc) (cells slots : Nat) (ls : Array Slot), ZP B ext D sc ca h H → ZK D ca h.1 s → va_S (zAr B) s.heap H locs → cells + N0 = h.1.1.1 → slots + S0 = h.1.1.2 → lv_has ls nL (zlv B ext 0 L) → L.length = nL →
    W p l e R s m args below meth c H locs cells slots Q (F0 m pc ls (st.map (zcv B ext)))
theorem zlv_get {B : Nat} {ext : Nat → Nat} {ls : Array Slot} {nL : Nat} {L : List ZV} {i : Nat} {v : ZV} (h : lv_has ls nL (zlv B ext 0 L)) (hg : zget L i = some v) (hn : znu v = true) : ls[i]? = some (.val (zcv B ext v)) :=
  h.2.2 (i, zcv B ext v) ((zlv_mem _ _ _).mpr ⟨i, v, hg, hn, by simp⟩)
section ZROWS
variable {p : Program} {l : Launch} {e : Env} {R : Room} {s : State} {m : MethodId} {args : Array Value} {below : List Frame} {meth : Method} {c : Code} {Q : State → Prop}
variable {B : Nat} {ext : Nat → Nat} {D : va_G} {sc : Nat × (Nat → Int32)} {N0 S0 nL o pc : Nat} {cc : ByteArray} {L st : List ZV} {h : ZH}
theorem zw_iconst (C : ZC p s m args c o cc nL) {n : Int} (hd : decode cc pc = .ok (.iconst n, 1)) (k : ZW p l e R s m args below meth c Q B ext D sc N0 S0 nL (pc + 1) (L) (zi n :: st) (h)) : ZW p l e R s m args below meth c Q B ext D sc N0 S0 nL (pc) (L) (st) (h) := by
  intro ca H locs cells slots ls a1 a2 a3 a4 a5 a6 a7
  have K := k ca H locs cells slots ls a1 a2 a3 a4 a5 a6 a7
  exact lv_iconst C.1 C.2.1 hd rfl K
theorem zw_bipush (C : ZC p s m args c o cc nL) {n : Int} (hn : (Int8.ofInt n).toInt32 = Int32.ofInt n) (hd : decode cc pc = .ok (.bipush n, 2)) (k : ZW p l e R s m args below meth c Q B ext D sc N0 S0 nL (pc + 2) (L) (zi n :: st) (h)) : ZW p l e R s m args below meth c Q B ext D sc N0 S0 nL (pc) (L) (st) (h) := by
  intro ca H locs cells slots ls a1 a2 a3 a4 a5 a6 a7
  have K := k ca H locs cells slots ls a1 a2 a3 a4 a5 a6 a7
  exact lv_bipush C.1 C.2.1 hd hn K
theorem zw_sipush (C : ZC p s m args c o cc nL) {n : Int} (hn : (Int16.ofInt n).toInt32 = Int32.ofInt n) (hd : decode cc pc = .ok (.sipush n, 3)) (k : ZW p l e R s m args below meth c Q B ext D sc N0 S0 nL (pc + 3) (L) (zi n :: st) (h)) : ZW p l e R s m args below meth c Q B ext D sc N0 S0 nL (pc) (L) (st) (h) := by
  intro ca H locs cells slots ls a1 a2 a3 a4 a5 a6 a7
  have K := k ca H locs cells slots ls a1 a2 a3 a4 a5 a6 a7
  exact lv_sipush C.1 C.2.1 hd hn K
theorem zw_lconst (C : ZC p s m args c o cc nL) {n : Fin 2} {v : Int} (hn : v = ((n : Nat) : Int)) (hd : decode cc pc = .ok (.lconst n, 1)) (k : ZW p l e R s m args below meth c Q B ext D sc N0 S0 nL (pc + 1) (L) (zl v :: st) (h)) : ZW p l e R s m args below meth c Q B ext D sc N0 S0 nL (pc) (L) (st) (h) := by
  intro ca H locs cells slots ls a1 a2 a3 a4 a5 a6 a7
  have K := k ca H locs cells slots ls a1 a2 a3 a4 a5 a6 a7
  subst hn
  exact lv_lconst C.1 C.2.1 hd (by match n with | 0 => rfl | 1 => rfl) K
theorem zw_null (C : ZC p s m args c o cc nL)  (hd : decode cc pc = .ok (.aconst_null, 1)) (k : ZW p l e R s m args below meth c Q B ext D sc N0 S0 nL (pc + 1) (L) (zr none :: st) (h)) : ZW p l e R s m args below meth c Q B ext D sc N0 S0 nL (pc) (L) (st) (h) := by
  intro ca H locs cells slots ls a1 a2 a3 a4 a5 a6 a7
  have K := k ca H locs cells slots ls a1 a2 a3 a4 a5 a6 a7
  exact lv_null C.1 C.2.1 hd K
theorem zw_ldc (C : ZC p s m args c o cc nL) {n : Nat} {v : Int} (hc : Cond.constant (zRN o) n (Int32.ofInt v) ∈ tables_1) (hd : decode cc pc = .ok (.ldc n, 2)) (k : ZW p l e R s m args below meth c Q B ext D sc N0 S0 nL (pc + 2) (L) (zi v :: st) (h)) : ZW p l e R s m args below meth c Q B ext D sc N0 S0 nL (pc) (L) (st) (h) := by
  intro ca H locs cells slots ls a1 a2 a3 a4 a5 a6 a7
  have K := k ca H locs cells slots ls a1 a2 a3 a4 a5 a6 a7
  exact lv_ldc C.1 C.2.1 C.2.2.2.1 (C.2.2.2.2 _ (zTB_in hc rfl)) hd K
theorem zw_ldcw (C : ZC p s m args c o cc nL) {n : Nat} {v : Int} (hc : Cond.constant (zRN o) n (Int32.ofInt v) ∈ tables_1) (hd : decode cc pc = .ok (.ldc_w n, 3)) (k : ZW p l e R s m args below meth c Q B ext D sc N0 S0 nL (pc + 3) (L) (zi v :: st) (h)) : ZW p l e R s m args below meth c Q B ext D sc N0 S0 nL (pc) (L) (st) (h) := by
  intro ca H locs cells slots ls a1 a2 a3 a4 a5 a6 a7
  have K := k ca H locs cells slots ls a1 a2 a3 a4 a5 a6 a7
  exact lv_ldcw C.1 C.2.1 C.2.2.2.1 (C.2.2.2.2 _ (zTB_in hc rfl)) hd K
theorem zw_ldc2 (C : ZC p s m args c o cc nL) {n : Nat} {v : Int} (hc : Cond.constantLong (zRN o) n (Int64.ofInt v) ∈ tables_1) (hd : decode cc pc = .ok (.ldc2_w n, 3)) (k : ZW p l e R s m args below meth c Q B ext D sc N0 S0 nL (pc + 3) (L) (zl v :: st) (h)) : ZW p l e R s m args below meth c Q B ext D sc N0 S0 nL (pc) (L) (st) (h) := by
  intro ca H locs cells slots ls a1 a2 a3 a4 a5 a6 a7
  have K := k ca H locs cells slots ls a1 a2 a3 a4 a5 a6 a7
  exact lv_ldc2 C.1 C.2.1 C.2.2.2.1 (C.2.2.2.2 _ (zTB_in hc rfl)) hd K
theorem zw_ldcs (C : ZC p s m args c o cc nL) {n : Nat} {a : Nat} {tx : String} (ha : zX ≤ a) (hz : vk_R (zRN o) n tx (ext (a - zX)) s) (hd : decode cc pc = .ok (.ldc n, 2)) (k : ZW p l e R s m args below meth c Q B ext D sc N0 S0 nL (pc + 2) (L) (zr (some a) :: st) (h)) : ZW p l e R s m args below meth c Q B ext D sc N0 S0 nL (pc) (L) (st) (h) := by
  intro ca H locs cells slots ls a1 a2 a3 a4 a5 a6 a7
  have K := k ca H locs cells slots ls a1 a2 a3 a4 a5 a6 a7
  have e : zcv B ext (zr (some a)) = .ref (ext (a - zX)) := by
    show Value.ref (zad B ext a) = _
    unfold zad; rw [if_neg (by omega)]
  rw [List.map_cons, e] at K
  exact va_ldcS C.1 C.2.1 C.2.2.2.1 hz hd K
theorem zw_iload (C : ZC p s m args c o cc nL) {a : Nat} {x : Int} (hg : zget L a = some (zi x)) (hd : decode cc pc = .ok (.iload a, 2)) (k : ZW p l e R s m args below meth c Q B ext D sc N0 S0 nL (pc + 2) (L) (zi x :: st) (h)) : ZW p l e R s m args below meth c Q B ext D sc N0 S0 nL (pc) (L) (st) (h) := by
  intro ca H locs cells slots ls a1 a2 a3 a4 a5 a6 a7
  have K := k ca H locs cells slots ls a1 a2 a3 a4 a5 a6 a7
  exact lv_iload C.1 C.2.1 hd (zlv_get a6 hg rfl) K
theorem zw_iload_n (C : ZC p s m args c o cc nL) {k : Fin 4} {a : Nat} (ha : a = k.val) {x : Int} (hg : zget L a = some (zi x)) (hd : decode cc pc = .ok (.iload_n k, 1)) (k : ZW p l e R s m args below meth c Q B ext D sc N0 S0 nL (pc + 1) (L) (zi x :: st) (h)) : ZW p l e R s m args below meth c Q B ext D sc N0 S0 nL (pc) (L) (st) (h) := by
  intro ca H locs cells slots ls a1 a2 a3 a4 a5 a6 a7
  have K := k ca H locs cells slots ls a1 a2 a3 a4 a5 a6 a7
  exact lv_iload_n C.1 C.2.1 hd ha.symm (zlv_get a6 hg rfl) K
theorem zw_lload (C : ZC p s m args c o cc nL) {a : Nat} {x : Int} (hg : zget L a = some (zl x)) (hd : decode cc pc = .ok (.lload a, 2)) (k : ZW p l e R s m args below meth c Q B ext D sc N0 S0 nL (pc + 2) (L) (zl x :: st) (h)) : ZW p l e R s m args below meth c Q B ext D sc N0 S0 nL (pc) (L) (st) (h) := by
  intro ca H locs cells slots ls a1 a2 a3 a4 a5 a6 a7
  have K := k ca H locs cells slots ls a1 a2 a3 a4 a5 a6 a7
  exact lv_lload C.1 C.2.1 hd (zlv_get a6 hg rfl) K
theorem zw_lload_n (C : ZC p s m args c o cc nL) {k : Fin 4} {a : Nat} (ha : a = k.val) {x : Int} (hg : zget L a = some (zl x)) (hd : decode cc pc = .ok (.lload_n k, 1)) (k : ZW p l e R s m args below meth c Q B ext D sc N0 S0 nL (pc + 1) (L) (zl x :: st) (h)) : ZW p l e R s m args below meth c Q B ext D sc N0 S0 nL (pc) (L) (st) (h) := by
  intro ca H locs cells slots ls a1 a2 a3 a4 a5 a6 a7
  have K := k ca H locs cells slots ls a1 a2 a3 a4 a5 a6 a7
  exact lv_lload_n C.1 C.2.1 hd ha.symm (zlv_get a6 hg rfl) K
theorem zw_aload (C : ZC p s m args c o cc nL) {a : Nat} {x : Option Nat} (hg : zget L a = some (zr x)) (hd : decode cc pc = .ok (.aload a, 2)) (k : ZW p l e R s m args below meth c Q B ext D sc N0 S0 nL (pc + 2) (L) (zr x :: st) (h)) : ZW p l e R s m args below meth c Q B ext D sc N0 S0 nL (pc) (L) (st) (h) := by
  intro ca H locs cells slots ls a1 a2 a3 a4 a5 a6 a7
  have K := k ca H locs cells slots ls a1 a2 a3 a4 a5 a6 a7
  have hl := zlv_get a6 hg rfl
  cases x with
  | none => exact lv_aloadN C.1 C.2.1 hd hl K
  | some x => exact lv_aload C.1 C.2.1 hd hl K
theorem zw_aload_n (C : ZC p s m args c o cc nL) {k : Fin 4} {a : Nat} (ha : a = k.val) {x : Option Nat} (hg : zget L a = some (zr x)) (hd : decode cc pc = .ok (.aload_n k, 1)) (k : ZW p l e R s m args below meth c Q B ext D sc N0 S0 nL (pc + 1) (L) (zr x :: st) (h)) : ZW p l e R s m args below meth c Q B ext D sc N0 S0 nL (pc) (L) (st) (h) := by
  intro ca H locs cells slots ls a1 a2 a3 a4 a5 a6 a7
  have K := k ca H locs cells slots ls a1 a2 a3 a4 a5 a6 a7
  have hl := zlv_get a6 hg rfl
  cases x with
  | none => exact lv_aload_nN C.1 C.2.1 hd ha.symm hl K
  | some x => exact lv_aload_n C.1 C.2.1 hd ha.symm hl K
theorem zw_istore (C : ZC p s m args c o cc nL) {a : Nat} {x : Int} (ha : a < L.length) (hd : decode cc pc = .ok (.istore a, 2)) (k : ZW p l e R s m args below meth c Q B ext D sc N0 S0 nL (pc + 2) (zst1 L a (zi x)) (st) (h)) : ZW p l e R s m args below meth c Q B ext D sc N0 S0 nL (pc) (L) (zi x :: st) (h) := by
  intro ca H locs cells slots ls a1 a2 a3 a4 a5 a6 a7
  exact lv_istore C.1 C.2.1 hd a6 (by omega) rfl (fun ls1 hl1 => k ca H locs cells slots ls1 a1 a2 a3 a4 a5 ⟨hl1.1, hl1.2.1, fun q hq => hl1.2.2 q (zst1_sub ha q hq)⟩ (by rw [zst1_len]; exact a7))
theorem zw_istore_n (C : ZC p s m args c o cc nL) {k0 : Fin 4} {a : Nat} (hk : a = k0.val) {x : Int} (ha : a < L.length) (hd : decode cc pc = .ok (.istore_n k0, 1)) (k : ZW p l e R s m args below meth c Q B ext D sc N0 S0 nL (pc + 1) (zst1 L a (zi x)) (st) (h)) : ZW p l e R s m args below meth c Q B ext D sc N0 S0 nL (pc) (L) (zi x :: st) (h) := by
  intro ca H locs cells slots ls a1 a2 a3 a4 a5 a6 a7
  exact lv_istore_n C.1 C.2.1 hd hk.symm a6 (by omega) rfl (fun ls1 hl1 => k ca H locs cells slots ls1 a1 a2 a3 a4 a5 ⟨hl1.1, hl1.2.1, fun q hq => hl1.2.2 q (zst1_sub ha q hq)⟩ (by rw [zst1_len]; exact a7))
theorem zw_lstore (C : ZC p s m args c o cc nL) {a : Nat} {x : Int} (ha : a + 1 < L.length) (hd : decode cc pc = .ok (.lstore a, 2)) (k : ZW p l e R s m args below meth c Q B ext D sc N0 S0 nL (pc + 2) (zst2 L a (zl x)) (st) (h)) : ZW p l e R s m args below meth c Q B ext D sc N0 S0 nL (pc) (L) (zl x :: st) (h) := by
  intro ca H locs cells slots ls a1 a2 a3 a4 a5 a6 a7
  exact lv_lstore C.1 C.2.1 hd a6 (by omega) rfl (fun ls1 hl1 => k ca H locs cells slots ls1 a1 a2 a3 a4 a5 ⟨hl1.1, hl1.2.1, fun q hq => hl1.2.2 q (zst2_sub ha q hq)⟩ (by rw [zst2_len]; exact a7))
theorem zw_lstore_n (C : ZC p s m args c o cc nL) {k0 : Fin 4} {a : Nat} (hk : a = k0.val) {x : Int} (ha : a + 1 < L.length) (hd : decode cc pc = .ok (.lstore_n k0, 1)) (k : ZW p l e R s m args below meth c Q B ext D sc N0 S0 nL (pc + 1) (zst2 L a (zl x)) (st) (h)) : ZW p l e R s m args below meth c Q B ext D sc N0 S0 nL (pc) (L) (zl x :: st) (h) := by
  intro ca H locs cells slots ls a1 a2 a3 a4 a5 a6 a7
  exact lv_lstore_n C.1 C.2.1 hd hk.symm a6 (by omega) rfl (fun ls1 hl1 => k ca H locs cells slots ls1 a1 a2 a3 a4 a5 ⟨hl1.1, hl1.2.1, fun q hq => hl1.2.2 q (zst2_sub ha q hq)⟩ (by rw [zst2_len]; exact a7))
theorem zw_astore (C : ZC p s m args c o cc nL) {a : Nat} {x : Option Nat} (ha : a < L.length) (hd : decode cc pc = .ok (.astore a, 2)) (k : ZW p l e R s m args below meth c Q B ext D sc N0 S0 nL (pc + 2) (zst1 L a (zr x)) (st) (h)) : ZW p l e R s m args below meth c Q B ext D sc N0 S0 nL (pc) (L) (zr x :: st) (h) := by
  intro ca H locs cells slots ls a1 a2 a3 a4 a5 a6 a7
  cases x with
  | none => exact lv_astoreN C.1 C.2.1 hd a6 (by omega) rfl (fun ls1 hl1 => k ca H locs cells slots ls1 a1 a2 a3 a4 a5 ⟨hl1.1, hl1.2.1, fun q hq => hl1.2.2 q (zst1_sub ha q hq)⟩ (by rw [zst1_len]; exact a7))
  | some x => exact lv_astore C.1 C.2.1 hd a6 (by omega) rfl (fun ls1 hl1 => k ca H locs cells slots ls1 a1 a2 a3 a4 a5 ⟨hl1.1, hl1.2.1, fun q hq => hl1.2.2 q (zst1_sub ha q hq)⟩ (by rw [zst1_len]; exact a7))
theorem zw_astore_n (C : ZC p s m args c o cc nL) {k0 : Fin 4} {a : Nat} (hk : a = k0.val) {x : Option Nat} (ha : a < L.length) (hd : decode cc pc = .ok (.astore_n k0, 1)) (k : ZW p l e R s m args below meth c Q B ext D sc N0 S0 nL (pc + 1) (zst1 L a (zr x)) (st) (h)) : ZW p l e R s m args below meth c Q B ext D sc N0 S0 nL (pc) (L) (zr x :: st) (h) := by
  intro ca H locs cells slots ls a1 a2 a3 a4 a5 a6 a7
  cases x with
  | none => exact lv_astore_nN C.1 C.2.1 hd hk.symm a6 (by omega) rfl (fun ls1 hl1 => k ca H locs cells slots ls1 a1 a2 a3 a4 a5 ⟨hl1.1, hl1.2.1, fun q hq => hl1.2.2 q (zst1_sub ha q hq)⟩ (by rw [zst1_len]; exact a7))
  | some x => exact lv_astore_n C.1 C.2.1 hd hk.symm a6 (by omega) rfl (fun ls1 hl1 => k ca H locs cells slots ls1 a1 a2 a3 a4 a5 ⟨hl1.1, hl1.2.1, fun q hq => hl1.2.2 q (zst1_sub ha q hq)⟩ (by rw [zst1_len]; exact a7))
theorem zw_iinc (C : ZC p s m args c o cc nL) {a : Nat} {n x : Int} (hg : zget L a = some (zi x)) (hd : decode cc pc = .ok (.iinc a n, 3)) (k : ZW p l e R s m args below meth c Q B ext D sc N0 S0 nL (pc + 3) (zst1 L a (zi (x + n))) (st) (h)) : ZW p l e R s m args below meth c Q B ext D sc N0 S0 nL (pc) (L) (st) (h) := by
  intro ca H locs cells slots ls a1 a2 a3 a4 a5 a6 a7
  have ha : a < L.length := zget_lt _ _ _ hg
  obtain ⟨j, hj⟩ := List.getElem?_of_mem ((zlv_mem (B := B) (ext := ext) L 0 (a, zcv B ext (zi x))).mpr ⟨a, zi x, hg, rfl, by simp⟩)
  exact lv_iinc C.1 C.2.1 hd a6 hj (Int32.ofInt_add x n).symm (by omega) rfl (fun ls1 hl1 => k ca H locs cells slots ls1 a1 a2 a3 a4 a5 ⟨hl1.1, hl1.2.1, fun q hq => hl1.2.2 q (zst1_sub ha q hq)⟩ (by rw [zst1_len]; exact a7))
theorem zw_iadd (C : ZC p s m args c o cc nL) {x y : Int} (hd : decode cc pc = .ok (.iadd, 1)) (k : ZW p l e R s m args below meth c Q B ext D sc N0 S0 nL (pc + 1) (L) (zi (x + y) :: st) (h)) : ZW p l e R s m args below meth c Q B ext D sc N0 S0 nL (pc) (L) (zi y :: zi x :: st) (h) := by
  intro ca H locs cells slots ls a1 a2 a3 a4 a5 a6 a7
  have K := k ca H locs cells slots ls a1 a2 a3 a4 a5 a6 a7
  refine lv_iadd C.1 C.2.1 hd ?_
  rw [← Int32.ofInt_add]
  exact K
theorem zw_isub (C : ZC p s m args c o cc nL) {x y : Int} (hd : decode cc pc = .ok (.isub, 1)) (k : ZW p l e R s m args below meth c Q B ext D sc N0 S0 nL (pc + 1) (L) (zi (x - y) :: st) (h)) : ZW p l e R s m args below meth c Q B ext D sc N0 S0 nL (pc) (L) (zi y :: zi x :: st) (h) := by
  intro ca H locs cells slots ls a1 a2 a3 a4 a5 a6 a7
  have K := k ca H locs cells slots ls a1 a2 a3 a4 a5 a6 a7
  refine lv_isub C.1 C.2.1 hd ?_
  rw [← Int32.ofInt_sub]
  exact K
theorem zw_imul (C : ZC p s m args c o cc nL) {x y : Int} (hd : decode cc pc = .ok (.imul, 1)) (k : ZW p l e R s m args below meth c Q B ext D sc N0 S0 nL (pc + 1) (L) (zi (x * y) :: st) (h)) : ZW p l e R s m args below meth c Q B ext D sc N0 S0 nL (pc) (L) (zi y :: zi x :: st) (h) := by
  intro ca H locs cells slots ls a1 a2 a3 a4 a5 a6 a7
  have K := k ca H locs cells slots ls a1 a2 a3 a4 a5 a6 a7
  refine lv_imul C.1 C.2.1 hd ?_
  rw [← Int32.ofInt_mul]
  exact K
theorem zw_iand (C : ZC p s m args c o cc nL) {x y : Int} (hd : decode cc pc = .ok (.iand, 1)) (k : ZW p l e R s m args below meth c Q B ext D sc N0 S0 nL (pc + 1) (L) (zi (z_and x y) :: st) (h)) : ZW p l e R s m args below meth c Q B ext D sc N0 S0 nL (pc) (L) (zi y :: zi x :: st) (h) := by
  intro ca H locs cells slots ls a1 a2 a3 a4 a5 a6 a7
  have K := k ca H locs cells slots ls a1 a2 a3 a4 a5 a6 a7
  refine lv_iand C.1 C.2.1 hd ?_
  rw [← z_and_of]
  exact K
theorem zw_ior (C : ZC p s m args c o cc nL) {x y : Int} (hd : decode cc pc = .ok (.ior, 1)) (k : ZW p l e R s m args below meth c Q B ext D sc N0 S0 nL (pc + 1) (L) (zi (z_or x y) :: st) (h)) : ZW p l e R s m args below meth c Q B ext D sc N0 S0 nL (pc) (L) (zi y :: zi x :: st) (h) := by
  intro ca H locs cells slots ls a1 a2 a3 a4 a5 a6 a7
  have K := k ca H locs cells slots ls a1 a2 a3 a4 a5 a6 a7
  refine lv_ior C.1 C.2.1 hd ?_
  rw [← z_or_of]
  exact K
theorem zw_ixor (C : ZC p s m args c o cc nL) {x y : Int} (hd : decode cc pc = .ok (.ixor, 1)) (k : ZW p l e R s m args below meth c Q B ext D sc N0 S0 nL (pc + 1) (L) (zi (z_xor x y) :: st) (h)) : ZW p l e R s m args below meth c Q B ext D sc N0 S0 nL (pc) (L) (zi y :: zi x :: st) (h) := by
  intro ca H locs cells slots ls a1 a2 a3 a4 a5 a6 a7
  have K := k ca H locs cells slots ls a1 a2 a3 a4 a5 a6 a7
  refine lv_ixor C.1 C.2.1 hd ?_
  rw [← z_xor_of]
  exact K
theorem zw_ishl (C : ZC p s m args c o cc nL) {x y : Int} (hd : decode cc pc = .ok (.ishl, 1)) (k : ZW p l e R s m args below meth c Q B ext D sc N0 S0 nL (pc + 1) (L) (zi (z_shl x y) :: st) (h)) : ZW p l e R s m args below meth c Q B ext D sc N0 S0 nL (pc) (L) (zi y :: zi x :: st) (h) := by
  intro ca H locs cells slots ls a1 a2 a3 a4 a5 a6 a7
  have K := k ca H locs cells slots ls a1 a2 a3 a4 a5 a6 a7
  refine lv_ishl C.1 C.2.1 hd ?_
  rw [← z_shl_of]
  exact K
theorem zw_ishr (C : ZC p s m args c o cc nL) {x y : Int} (hd : decode cc pc = .ok (.ishr, 1)) (k : ZW p l e R s m args below meth c Q B ext D sc N0 S0 nL (pc + 1) (L) (zi (z_shr x y) :: st) (h)) : ZW p l e R s m args below meth c Q B ext D sc N0 S0 nL (pc) (L) (zi y :: zi x :: st) (h) := by
  intro ca H locs cells slots ls a1 a2 a3 a4 a5 a6 a7
  have K := k ca H locs cells slots ls a1 a2 a3 a4 a5 a6 a7
  refine lv_ishr C.1 C.2.1 hd ?_
  rw [← z_shr_of]
  exact K
theorem zw_idiv (C : ZC p s m args c o cc nL) {x y : Int} (hy : ¬ wr y = 0) (hd : decode cc pc = .ok (.idiv, 1)) (k : ZW p l e R s m args below meth c Q B ext D sc N0 S0 nL (pc + 1) (L) (zi (z_div x y) :: st) (h)) : ZW p l e R s m args below meth c Q B ext D sc N0 S0 nL (pc) (L) (zi y :: zi x :: st) (h) := by
  intro ca H locs cells slots ls a1 a2 a3 a4 a5 a6 a7
  have K := k ca H locs cells slots ls a1 a2 a3 a4 a5 a6 a7
  refine lv_idiv C.1 C.2.1 hd (fun e => hy ?_) ?_
  · have := (wr_eq_iff y 0).mp e
    rwa [wr_zero] at this
  · rw [← z_div_of]
    exact K
theorem zw_irem (C : ZC p s m args c o cc nL) {x y : Int} (hy : ¬ wr y = 0) (hd : decode cc pc = .ok (.irem, 1)) (k : ZW p l e R s m args below meth c Q B ext D sc N0 S0 nL (pc + 1) (L) (zi (z_rem x y) :: st) (h)) : ZW p l e R s m args below meth c Q B ext D sc N0 S0 nL (pc) (L) (zi y :: zi x :: st) (h) := by
  intro ca H locs cells slots ls a1 a2 a3 a4 a5 a6 a7
  have K := k ca H locs cells slots ls a1 a2 a3 a4 a5 a6 a7
  refine lv_irem C.1 C.2.1 hd (fun e => hy ?_) ?_
  · have := (wr_eq_iff y 0).mp e
    rwa [wr_zero] at this
  · rw [← z_rem_of]
    exact K
theorem zw_iushr (C : ZC p s m args c o cc nL) {x y : Int} (hd : decode cc pc = .ok (.iushr, 1)) (k : ZW p l e R s m args below meth c Q B ext D sc N0 S0 nL (pc + 1) (L) (zi (z_ushr x y) :: st) (h)) : ZW p l e R s m args below meth c Q B ext D sc N0 S0 nL (pc) (L) (zi y :: zi x :: st) (h) := by
  intro ca H locs cells slots ls a1 a2 a3 a4 a5 a6 a7
  have K := k ca H locs cells slots ls a1 a2 a3 a4 a5 a6 a7
  exact lv_iushr C.1 C.2.1 hd (z_ushr_of x y) K
theorem zw_ladd (C : ZC p s m args c o cc nL) {x y : Int} (hd : decode cc pc = .ok (.ladd, 1)) (k : ZW p l e R s m args below meth c Q B ext D sc N0 S0 nL (pc + 1) (L) (zl (x + y) :: st) (h)) : ZW p l e R s m args below meth c Q B ext D sc N0 S0 nL (pc) (L) (zl y :: zl x :: st) (h) := by
  intro ca H locs cells slots ls a1 a2 a3 a4 a5 a6 a7
  have K := k ca H locs cells slots ls a1 a2 a3 a4 a5 a6 a7
  refine lv_ladd C.1 C.2.1 hd ?_
  rw [← Int64.ofInt_add]
  exact K
theorem zw_lsub (C : ZC p s m args c o cc nL) {x y : Int} (hd : decode cc pc = .ok (.lsub, 1)) (k : ZW p l e R s m args below meth c Q B ext D sc N0 S0 nL (pc + 1) (L) (zl (x - y) :: st) (h)) : ZW p l e R s m args below meth c Q B ext D sc N0 S0 nL (pc) (L) (zl y :: zl x :: st) (h) := by
  intro ca H locs cells slots ls a1 a2 a3 a4 a5 a6 a7
  have K := k ca H locs cells slots ls a1 a2 a3 a4 a5 a6 a7
  refine lv_lsub C.1 C.2.1 hd ?_
  rw [← Int64.ofInt_sub]
  exact K
theorem zw_lmul (C : ZC p s m args c o cc nL) {x y : Int} (hd : decode cc pc = .ok (.lmul, 1)) (k : ZW p l e R s m args below meth c Q B ext D sc N0 S0 nL (pc + 1) (L) (zl (x * y) :: st) (h)) : ZW p l e R s m args below meth c Q B ext D sc N0 S0 nL (pc) (L) (zl y :: zl x :: st) (h) := by
  intro ca H locs cells slots ls a1 a2 a3 a4 a5 a6 a7
  have K := k ca H locs cells slots ls a1 a2 a3 a4 a5 a6 a7
  refine lv_lmul C.1 C.2.1 hd ?_
  rw [← Int64.ofInt_mul]
  exact K
theorem zw_land (C : ZC p s m args c o cc nL) {x y : Int} (hd : decode cc pc = .ok (.land, 1)) (k : ZW p l e R s m args below meth c Q B ext D sc N0 S0 nL (pc + 1) (L) (zl (z_land x y) :: st) (h)) : ZW p l e R s m args below meth c Q B ext D sc N0 S0 nL (pc) (L) (zl y :: zl x :: st) (h) := by
  intro ca H locs cells slots ls a1 a2 a3 a4 a5 a6 a7
  have K := k ca H locs cells slots ls a1 a2 a3 a4 a5 a6 a7
  refine lv_land C.1 C.2.1 hd ?_
  rw [← z_land_of]
  exact K
theorem zw_lor (C : ZC p s m args c o cc nL) {x y : Int} (hd : decode cc pc = .ok (.lor, 1)) (k : ZW p l e R s m args below meth c Q B ext D sc N0 S0 nL (pc + 1) (L) (zl (z_lor x y) :: st) (h)) : ZW p l e R s m args below meth c Q B ext D sc N0 S0 nL (pc) (L) (zl y :: zl x :: st) (h) := by
  intro ca H locs cells slots ls a1 a2 a3 a4 a5 a6 a7
  have K := k ca H locs cells slots ls a1 a2 a3 a4 a5 a6 a7
  refine lv_lor C.1 C.2.1 hd ?_
  rw [← z_lor_of]
  exact K
theorem zw_ldiv (C : ZC p s m args c o cc nL) {x y : Int} (hy : ¬ wl y = 0) (hd : decode cc pc = .ok (.ldiv, 1)) (k : ZW p l e R s m args below meth c Q B ext D sc N0 S0 nL (pc + 1) (L) (zl (z_ldiv x y) :: st) (h)) : ZW p l e R s m args below meth c Q B ext D sc N0 S0 nL (pc) (L) (zl y :: zl x :: st) (h) := by
  intro ca H locs cells slots ls a1 a2 a3 a4 a5 a6 a7
  have K := k ca H locs cells slots ls a1 a2 a3 a4 a5 a6 a7
  refine lv_ldiv C.1 C.2.1 hd (fun e => hy ?_) ?_
  · have := (wl_eq_iff y 0).mp e
    rwa [show wl 0 = 0 by decide] at this
  · rw [← z_ldiv_of]
    exact K
theorem zw_lrem (C : ZC p s m args c o cc nL) {x y : Int} (hy : ¬ wl y = 0) (hd : decode cc pc = .ok (.lrem, 1)) (k : ZW p l e R s m args below meth c Q B ext D sc N0 S0 nL (pc + 1) (L) (zl (z_lrem x y) :: st) (h)) : ZW p l e R s m args below meth c Q B ext D sc N0 S0 nL (pc) (L) (zl y :: zl x :: st) (h) := by
  intro ca H locs cells slots ls a1 a2 a3 a4 a5 a6 a7
  have K := k ca H locs cells slots ls a1 a2 a3 a4 a5 a6 a7
  refine lv_lrem C.1 C.2.1 hd (fun e => hy ?_) ?_
  · have := (wl_eq_iff y 0).mp e
    rwa [show wl 0 = 0 by decide] at this
  · rw [← z_lrem_of]
    exact K
theorem zw_lshl (C : ZC p s m args c o cc nL) {x y : Int} (hd : decode cc pc = .ok (.lshl, 1)) (k : ZW p l e R s m args below meth c Q B ext D sc N0 S0 nL (pc + 1) (L) (zl (z_lshl x y) :: st) (h)) : ZW p l e R s m args below meth c Q B ext D sc N0 S0 nL (pc) (L) (zi y :: zl x :: st) (h) := by
  intro ca H locs cells slots ls a1 a2 a3 a4 a5 a6 a7
  have K := k ca H locs cells slots ls a1 a2 a3 a4 a5 a6 a7
  exact lv_lshl C.1 C.2.1 hd (z_lshl_of x y) K
theorem zw_lcmp (C : ZC p s m args c o cc nL) {x y : Int} (hd : decode cc pc = .ok (.lcmp, 1)) (k : ZW p l e R s m args below meth c Q B ext D sc N0 S0 nL (pc + 1) (L) (zi (z_cmp x y) :: st) (h)) : ZW p l e R s m args below meth c Q B ext D sc N0 S0 nL (pc) (L) (zl y :: zl x :: st) (h) := by
  intro ca H locs cells slots ls a1 a2 a3 a4 a5 a6 a7
  have K := k ca H locs cells slots ls a1 a2 a3 a4 a5 a6 a7
  refine W.lcmp C.1 C.2.1 hd ?_
  rw [z_cmp_of]
  exact K
theorem zw_i2l (C : ZC p s m args c o cc nL) {x : Int} (hd : decode cc pc = .ok (.i2l, 1)) (k : ZW p l e R s m args below meth c Q B ext D sc N0 S0 nL (pc + 1) (L) (zl (wr x) :: st) (h)) : ZW p l e R s m args below meth c Q B ext D sc N0 S0 nL (pc) (L) (zi x :: st) (h) := by
  intro ca H locs cells slots ls a1 a2 a3 a4 a5 a6 a7
  have K := k ca H locs cells slots ls a1 a2 a3 a4 a5 a6 a7
  exact lv_i2l C.1 C.2.1 hd (z_i2l_of x) K
theorem zw_l2i (C : ZC p s m args c o cc nL) {x : Int} (hd : decode cc pc = .ok (.l2i, 1)) (k : ZW p l e R s m args below meth c Q B ext D sc N0 S0 nL (pc + 1) (L) (zi x :: st) (h)) : ZW p l e R s m args below meth c Q B ext D sc N0 S0 nL (pc) (L) (zl x :: st) (h) := by
  intro ca H locs cells slots ls a1 a2 a3 a4 a5 a6 a7
  have K := k ca H locs cells slots ls a1 a2 a3 a4 a5 a6 a7
  exact lv_l2i C.1 C.2.1 hd (z_l2i_of x) K
theorem zw_i2b (C : ZC p s m args c o cc nL) {x : Int} (hd : decode cc pc = .ok (.i2b, 1)) (k : ZW p l e R s m args below meth c Q B ext D sc N0 S0 nL (pc + 1) (L) (zi (z_b x) :: st) (h)) : ZW p l e R s m args below meth c Q B ext D sc N0 S0 nL (pc) (L) (zi x :: st) (h) := by
  intro ca H locs cells slots ls a1 a2 a3 a4 a5 a6 a7
  have K := k ca H locs cells slots ls a1 a2 a3 a4 a5 a6 a7
  exact lv_i2b C.1 C.2.1 hd (z_i2b_of x) K
theorem zcat1r (x : Option Nat) : (zcv B ext (zr x)).category = 1 := by cases x <;> rfl
theorem zw_dupi (C : ZC p s m args c o cc nL) {x : Int} (hd : decode cc pc = .ok (.dup, 1)) (k : ZW p l e R s m args below meth c Q B ext D sc N0 S0 nL (pc + 1) (L) (zi x :: zi x :: st) (h)) : ZW p l e R s m args below meth c Q B ext D sc N0 S0 nL (pc) (L) (zi x :: st) (h) := by
  intro ca H locs cells slots ls a1 a2 a3 a4 a5 a6 a7
  have K := k ca H locs cells slots ls a1 a2 a3 a4 a5 a6 a7
  exact lv_dup C.1 C.2.1 hd rfl K
theorem zw_dupr (C : ZC p s m args c o cc nL) {x : Option Nat} (hd : decode cc pc = .ok (.dup, 1)) (k : ZW p l e R s m args below meth c Q B ext D sc N0 S0 nL (pc + 1) (L) (zr x :: zr x :: st) (h)) : ZW p l e R s m args below meth c Q B ext D sc N0 S0 nL (pc) (L) (zr x :: st) (h) := by
  intro ca H locs cells slots ls a1 a2 a3 a4 a5 a6 a7
  have K := k ca H locs cells slots ls a1 a2 a3 a4 a5 a6 a7
  exact lv_dup C.1 C.2.1 hd (zcat1r x) K
theorem zw_dup2 (C : ZC p s m args c o cc nL) {y : Int} {x : Option Nat} (hd : decode cc pc = .ok (.dup2, 1)) (k : ZW p l e R s m args below meth c Q B ext D sc N0 S0 nL (pc + 1) (L) (zi y :: zr x :: zi y :: zr x :: st) (h)) : ZW p l e R s m args below meth c Q B ext D sc N0 S0 nL (pc) (L) (zi y :: zr x :: st) (h) := by
  intro ca H locs cells slots ls a1 a2 a3 a4 a5 a6 a7
  have K := k ca H locs cells slots ls a1 a2 a3 a4 a5 a6 a7
  exact lv_dup2_11 C.1 C.2.1 hd rfl (zcat1r x) K
theorem zw_popi (C : ZC p s m args c o cc nL) {x : Int} (hd : decode cc pc = .ok (.pop, 1)) (k : ZW p l e R s m args below meth c Q B ext D sc N0 S0 nL (pc + 1) (L) (st) (h)) : ZW p l e R s m args below meth c Q B ext D sc N0 S0 nL (pc) (L) (zi x :: st) (h) := by
  intro ca H locs cells slots ls a1 a2 a3 a4 a5 a6 a7
  have K := k ca H locs cells slots ls a1 a2 a3 a4 a5 a6 a7
  exact lv_pop C.1 C.2.1 hd rfl K
theorem zw_popr (C : ZC p s m args c o cc nL) {x : Option Nat} (hd : decode cc pc = .ok (.pop, 1)) (k : ZW p l e R s m args below meth c Q B ext D sc N0 S0 nL (pc + 1) (L) (st) (h)) : ZW p l e R s m args below meth c Q B ext D sc N0 S0 nL (pc) (L) (zr x :: st) (h) := by
  intro ca H locs cells slots ls a1 a2 a3 a4 a5 a6 a7
  have K := k ca H locs cells slots ls a1 a2 a3 a4 a5 a6 a7
  exact lv_pop C.1 C.2.1 hd (zcat1r x) K
theorem zw_goto (C : ZC p s m args c o cc nL) {off : Int} {q : Nat} (hq : (pc : Int) + off = (q : Int)) (hd : decode cc pc = .ok (.goto off, 3)) (k : ZW p l e R s m args below meth c Q B ext D sc N0 S0 nL (q) (L) (st) (h)) : ZW p l e R s m args below meth c Q B ext D sc N0 S0 nL (pc) (L) (st) (h) := fun ca H locs cells slots ls a1 a2 a3 a4 a5 a6 a7 => lv_goto C.1 C.2.1 hd hq (k ca H locs cells slots ls a1 a2 a3 a4 a5 a6 a7)
theorem zw_if_eq (C : ZC p s m args c o cc nL) {x : Int} {off : Int} {q : Nat} (hq : (pc : Int) + off = (q : Int)) (hd : decode cc pc = .ok (.ifCond .eq off, 3)) (k1 : z_cm .eq x 0 = true → ZW p l e R s m args below meth c Q B ext D sc N0 S0 nL (q) (L) (st) (h)) (k2 : ¬ z_cm .eq x 0 = true → ZW p l e R s m args below meth c Q B ext D sc N0 S0 nL (pc + 3) (L) (st) (h)) : ZW p l e R s m args below meth c Q B ext D sc N0 S0 nL (pc) (L) (zi x :: st) (h) := by
  intro ca H locs cells slots ls a1 a2 a3 a4 a5 a6 a7
  have hz : (Int32.ofInt x = Int32.ofInt 0) ↔ z_cm .eq x 0 = true := by
    refine Iff.trans (wr_eq_iff x 0) ?_
    simp [z_cm]
  refine lv_if_eq C.1 C.2.1 hd hq (fun hp => k1 ?_ ca H locs cells slots ls a1 a2 a3 a4 a5 a6 a7) (fun hp => k2 (fun hc => ?_) ca H locs cells slots ls a1 a2 a3 a4 a5 a6 a7)
  · exact hz.mp (by first | exact hp | exact Int32.not_lt.mp hp | exact Int32.not_le.mp hp)
  · first | exact hp (hz.mpr hc) | exact hz.mpr hc hp | exact absurd (hz.mpr hc) (by first | exact hp | exact Int32.not_lt.mpr hp | exact Int32.not_le.mpr hp | simpa using hp)
theorem zw_icmp_eq (C : ZC p s m args c o cc nL) {x y : Int} {off : Int} {q : Nat} (hq : (pc : Int) + off = (q : Int)) (hd : decode cc pc = .ok (.if_icmp .eq off, 3)) (k1 : z_cm .eq x y = true → ZW p l e R s m args below meth c Q B ext D sc N0 S0 nL (q) (L) (st) (h)) (k2 : ¬ z_cm .eq x y = true → ZW p l e R s m args below meth c Q B ext D sc N0 S0 nL (pc + 3) (L) (st) (h)) : ZW p l e R s m args below meth c Q B ext D sc N0 S0 nL (pc) (L) (zi y :: zi x :: st) (h) := by
  intro ca H locs cells slots ls a1 a2 a3 a4 a5 a6 a7
  have hz : (Int32.ofInt x = Int32.ofInt y) ↔ z_cm .eq x y = true := by
    refine Iff.trans (wr_eq_iff x y) ?_
    simp [z_cm]
  refine lv_icmp_eq C.1 C.2.1 hd hq (fun hp => k1 ?_ ca H locs cells slots ls a1 a2 a3 a4 a5 a6 a7) (fun hp => k2 (fun hc => ?_) ca H locs cells slots ls a1 a2 a3 a4 a5 a6 a7)
  · exact hz.mp (by first | exact hp | exact Int32.not_lt.mp hp | exact Int32.not_le.mp hp)
  · first | exact hp (hz.mpr hc) | exact hz.mpr hc hp | exact absurd (hz.mpr hc) (by first | exact hp | exact Int32.not_lt.mpr hp | exact Int32.not_le.mpr hp | simpa using hp)
theorem zw_if_ne (C : ZC p s m args c o cc nL) {x : Int} {off : Int} {q : Nat} (hq : (pc : Int) + off = (q : Int)) (hd : decode cc pc = .ok (.ifCond .ne off, 3)) (k1 : z_cm .ne x 0 = true → ZW p l e R s m args below meth c Q B ext D sc N0 S0 nL (q) (L) (st) (h)) (k2 : ¬ z_cm .ne x 0 = true → ZW p l e R s m args below meth c Q B ext D sc N0 S0 nL (pc + 3) (L) (st) (h)) : ZW p l e R s m args below meth c Q B ext D sc N0 S0 nL (pc) (L) (zi x :: st) (h) := by
  intro ca H locs cells slots ls a1 a2 a3 a4 a5 a6 a7
  have hz : (¬ Int32.ofInt x = Int32.ofInt 0) ↔ z_cm .ne x 0 = true := by
    refine Iff.trans (not_congr (wr_eq_iff x 0)) ?_
    simp [z_cm]
  refine lv_if_ne C.1 C.2.1 hd hq (fun hp => k1 ?_ ca H locs cells slots ls a1 a2 a3 a4 a5 a6 a7) (fun hp => k2 (fun hc => ?_) ca H locs cells slots ls a1 a2 a3 a4 a5 a6 a7)
  · exact hz.mp (by first | exact hp | exact Int32.not_lt.mp hp | exact Int32.not_le.mp hp)
  · first | exact hp (hz.mpr hc) | exact hz.mpr hc hp | exact absurd (hz.mpr hc) (by first | exact hp | exact Int32.not_lt.mpr hp | exact Int32.not_le.mpr hp | simpa using hp)
theorem zw_icmp_ne (C : ZC p s m args c o cc nL) {x y : Int} {off : Int} {q : Nat} (hq : (pc : Int) + off = (q : Int)) (hd : decode cc pc = .ok (.if_icmp .ne off, 3)) (k1 : z_cm .ne x y = true → ZW p l e R s m args below meth c Q B ext D sc N0 S0 nL (q) (L) (st) (h)) (k2 : ¬ z_cm .ne x y = true → ZW p l e R s m args below meth c Q B ext D sc N0 S0 nL (pc + 3) (L) (st) (h)) : ZW p l e R s m args below meth c Q B ext D sc N0 S0 nL (pc) (L) (zi y :: zi x :: st) (h) := by
  intro ca H locs cells slots ls a1 a2 a3 a4 a5 a6 a7
  have hz : (¬ Int32.ofInt x = Int32.ofInt y) ↔ z_cm .ne x y = true := by
    refine Iff.trans (not_congr (wr_eq_iff x y)) ?_
    simp [z_cm]
  refine lv_icmp_ne C.1 C.2.1 hd hq (fun hp => k1 ?_ ca H locs cells slots ls a1 a2 a3 a4 a5 a6 a7) (fun hp => k2 (fun hc => ?_) ca H locs cells slots ls a1 a2 a3 a4 a5 a6 a7)
  · exact hz.mp (by first | exact hp | exact Int32.not_lt.mp hp | exact Int32.not_le.mp hp)
  · first | exact hp (hz.mpr hc) | exact hz.mpr hc hp | exact absurd (hz.mpr hc) (by first | exact hp | exact Int32.not_lt.mpr hp | exact Int32.not_le.mpr hp | simpa using hp)
theorem zw_if_lt (C : ZC p s m args c o cc nL) {x : Int} {off : Int} {q : Nat} (hq : (pc : Int) + off = (q : Int)) (hd : decode cc pc = .ok (.ifCond .lt off, 3)) (k1 : z_cm .lt x 0 = true → ZW p l e R s m args below meth c Q B ext D sc N0 S0 nL (q) (L) (st) (h)) (k2 : ¬ z_cm .lt x 0 = true → ZW p l e R s m args below meth c Q B ext D sc N0 S0 nL (pc + 3) (L) (st) (h)) : ZW p l e R s m args below meth c Q B ext D sc N0 S0 nL (pc) (L) (zi x :: st) (h) := by
  intro ca H locs cells slots ls a1 a2 a3 a4 a5 a6 a7
  have hz : (Int32.ofInt x < Int32.ofInt 0) ↔ z_cm .lt x 0 = true := by
    refine Iff.trans (wr_lt_iff x 0) ?_
    simp [z_cm]
  refine lv_if_lt C.1 C.2.1 hd hq (fun hp => k1 ?_ ca H locs cells slots ls a1 a2 a3 a4 a5 a6 a7) (fun hp => k2 (fun hc => ?_) ca H locs cells slots ls a1 a2 a3 a4 a5 a6 a7)
  · exact hz.mp (by first | exact hp | exact Int32.not_lt.mp hp | exact Int32.not_le.mp hp)
  · first | exact hp (hz.mpr hc) | exact hz.mpr hc hp | exact absurd (hz.mpr hc) (by first | exact hp | exact Int32.not_lt.mpr hp | exact Int32.not_le.mpr hp | simpa using hp)
theorem zw_icmp_lt (C : ZC p s m args c o cc nL) {x y : Int} {off : Int} {q : Nat} (hq : (pc : Int) + off = (q : Int)) (hd : decode cc pc = .ok (.if_icmp .lt off, 3)) (k1 : z_cm .lt x y = true → ZW p l e R s m args below meth c Q B ext D sc N0 S0 nL (q) (L) (st) (h)) (k2 : ¬ z_cm .lt x y = true → ZW p l e R s m args below meth c Q B ext D sc N0 S0 nL (pc + 3) (L) (st) (h)) : ZW p l e R s m args below meth c Q B ext D sc N0 S0 nL (pc) (L) (zi y :: zi x :: st) (h) := by
  intro ca H locs cells slots ls a1 a2 a3 a4 a5 a6 a7
  have hz : (Int32.ofInt x < Int32.ofInt y) ↔ z_cm .lt x y = true := by
    refine Iff.trans (wr_lt_iff x y) ?_
    simp [z_cm]
  refine lv_icmp_lt C.1 C.2.1 hd hq (fun hp => k1 ?_ ca H locs cells slots ls a1 a2 a3 a4 a5 a6 a7) (fun hp => k2 (fun hc => ?_) ca H locs cells slots ls a1 a2 a3 a4 a5 a6 a7)
  · exact hz.mp (by first | exact hp | exact Int32.not_lt.mp hp | exact Int32.not_le.mp hp)
  · first | exact hp (hz.mpr hc) | exact hz.mpr hc hp | exact absurd (hz.mpr hc) (by first | exact hp | exact Int32.not_lt.mpr hp | exact Int32.not_le.mpr hp | simpa using hp)
theorem zw_if_ge (C : ZC p s m args c o cc nL) {x : Int} {off : Int} {q : Nat} (hq : (pc : Int) + off = (q : Int)) (hd : decode cc pc = .ok (.ifCond .ge off, 3)) (k1 : z_cm .ge x 0 = true → ZW p l e R s m args below meth c Q B ext D sc N0 S0 nL (q) (L) (st) (h)) (k2 : ¬ z_cm .ge x 0 = true → ZW p l e R s m args below meth c Q B ext D sc N0 S0 nL (pc + 3) (L) (st) (h)) : ZW p l e R s m args below meth c Q B ext D sc N0 S0 nL (pc) (L) (zi x :: st) (h) := by
  intro ca H locs cells slots ls a1 a2 a3 a4 a5 a6 a7
  have hz : (Int32.ofInt 0 ≤ Int32.ofInt x) ↔ z_cm .ge x 0 = true := by
    refine Iff.trans (wr_le_iff 0 x) ?_
    simp [z_cm]
  refine lv_if_ge C.1 C.2.1 hd hq (fun hp => k1 ?_ ca H locs cells slots ls a1 a2 a3 a4 a5 a6 a7) (fun hp => k2 (fun hc => ?_) ca H locs cells slots ls a1 a2 a3 a4 a5 a6 a7)
  · exact hz.mp (by first | exact hp | exact Int32.not_lt.mp hp | exact Int32.not_le.mp hp)
  · first | exact hp (hz.mpr hc) | exact hz.mpr hc hp | exact absurd (hz.mpr hc) (by first | exact hp | exact Int32.not_lt.mpr hp | exact Int32.not_le.mpr hp | simpa using hp)
theorem zw_icmp_ge (C : ZC p s m args c o cc nL) {x y : Int} {off : Int} {q : Nat} (hq : (pc : Int) + off = (q : Int)) (hd : decode cc pc = .ok (.if_icmp .ge off, 3)) (k1 : z_cm .ge x y = true → ZW p l e R s m args below meth c Q B ext D sc N0 S0 nL (q) (L) (st) (h)) (k2 : ¬ z_cm .ge x y = true → ZW p l e R s m args below meth c Q B ext D sc N0 S0 nL (pc + 3) (L) (st) (h)) : ZW p l e R s m args below meth c Q B ext D sc N0 S0 nL (pc) (L) (zi y :: zi x :: st) (h) := by
  intro ca H locs cells slots ls a1 a2 a3 a4 a5 a6 a7
  have hz : (Int32.ofInt y ≤ Int32.ofInt x) ↔ z_cm .ge x y = true := by
    refine Iff.trans (wr_le_iff y x) ?_
    simp [z_cm]
  refine lv_icmp_ge C.1 C.2.1 hd hq (fun hp => k1 ?_ ca H locs cells slots ls a1 a2 a3 a4 a5 a6 a7) (fun hp => k2 (fun hc => ?_) ca H locs cells slots ls a1 a2 a3 a4 a5 a6 a7)
  · exact hz.mp (by first | exact hp | exact Int32.not_lt.mp hp | exact Int32.not_le.mp hp)
  · first | exact hp (hz.mpr hc) | exact hz.mpr hc hp | exact absurd (hz.mpr hc) (by first | exact hp | exact Int32.not_lt.mpr hp | exact Int32.not_le.mpr hp | simpa using hp)
theorem zw_if_gt (C : ZC p s m args c o cc nL) {x : Int} {off : Int} {q : Nat} (hq : (pc : Int) + off = (q : Int)) (hd : decode cc pc = .ok (.ifCond .gt off, 3)) (k1 : z_cm .gt x 0 = true → ZW p l e R s m args below meth c Q B ext D sc N0 S0 nL (q) (L) (st) (h)) (k2 : ¬ z_cm .gt x 0 = true → ZW p l e R s m args below meth c Q B ext D sc N0 S0 nL (pc + 3) (L) (st) (h)) : ZW p l e R s m args below meth c Q B ext D sc N0 S0 nL (pc) (L) (zi x :: st) (h) := by
  intro ca H locs cells slots ls a1 a2 a3 a4 a5 a6 a7
  have hz : (Int32.ofInt 0 < Int32.ofInt x) ↔ z_cm .gt x 0 = true := by
    refine Iff.trans (wr_lt_iff 0 x) ?_
    simp [z_cm]
  refine lv_if_gt C.1 C.2.1 hd hq (fun hp => k1 ?_ ca H locs cells slots ls a1 a2 a3 a4 a5 a6 a7) (fun hp => k2 (fun hc => ?_) ca H locs cells slots ls a1 a2 a3 a4 a5 a6 a7)
  · exact hz.mp (by first | exact hp | exact Int32.not_lt.mp hp | exact Int32.not_le.mp hp)
  · first | exact hp (hz.mpr hc) | exact hz.mpr hc hp | exact absurd (hz.mpr hc) (by first | exact hp | exact Int32.not_lt.mpr hp | exact Int32.not_le.mpr hp | simpa using hp)
theorem zw_icmp_gt (C : ZC p s m args c o cc nL) {x y : Int} {off : Int} {q : Nat} (hq : (pc : Int) + off = (q : Int)) (hd : decode cc pc = .ok (.if_icmp .gt off, 3)) (k1 : z_cm .gt x y = true → ZW p l e R s m args below meth c Q B ext D sc N0 S0 nL (q) (L) (st) (h)) (k2 : ¬ z_cm .gt x y = true → ZW p l e R s m args below meth c Q B ext D sc N0 S0 nL (pc + 3) (L) (st) (h)) : ZW p l e R s m args below meth c Q B ext D sc N0 S0 nL (pc) (L) (zi y :: zi x :: st) (h) := by
  intro ca H locs cells slots ls a1 a2 a3 a4 a5 a6 a7
  have hz : (Int32.ofInt y < Int32.ofInt x) ↔ z_cm .gt x y = true := by
    refine Iff.trans (wr_lt_iff y x) ?_
    simp [z_cm]
  refine lv_icmp_gt C.1 C.2.1 hd hq (fun hp => k1 ?_ ca H locs cells slots ls a1 a2 a3 a4 a5 a6 a7) (fun hp => k2 (fun hc => ?_) ca H locs cells slots ls a1 a2 a3 a4 a5 a6 a7)
  · exact hz.mp (by first | exact hp | exact Int32.not_lt.mp hp | exact Int32.not_le.mp hp)
  · first | exact hp (hz.mpr hc) | exact hz.mpr hc hp | exact absurd (hz.mpr hc) (by first | exact hp | exact Int32.not_lt.mpr hp | exact Int32.not_le.mpr hp | simpa using hp)
theorem zw_if_le (C : ZC p s m args c o cc nL) {x : Int} {off : Int} {q : Nat} (hq : (pc : Int) + off = (q : Int)) (hd : decode cc pc = .ok (.ifCond .le off, 3)) (k1 : z_cm .le x 0 = true → ZW p l e R s m args below meth c Q B ext D sc N0 S0 nL (q) (L) (st) (h)) (k2 : ¬ z_cm .le x 0 = true → ZW p l e R s m args below meth c Q B ext D sc N0 S0 nL (pc + 3) (L) (st) (h)) : ZW p l e R s m args below meth c Q B ext D sc N0 S0 nL (pc) (L) (zi x :: st) (h) := by
  intro ca H locs cells slots ls a1 a2 a3 a4 a5 a6 a7
  have hz : (Int32.ofInt x ≤ Int32.ofInt 0) ↔ z_cm .le x 0 = true := by
    refine Iff.trans (wr_le_iff x 0) ?_
    simp [z_cm]
  refine lv_if_le C.1 C.2.1 hd hq (fun hp => k1 ?_ ca H locs cells slots ls a1 a2 a3 a4 a5 a6 a7) (fun hp => k2 (fun hc => ?_) ca H locs cells slots ls a1 a2 a3 a4 a5 a6 a7)
  · exact hz.mp (by first | exact hp | exact Int32.not_lt.mp hp | exact Int32.not_le.mp hp)
  · first | exact hp (hz.mpr hc) | exact hz.mpr hc hp | exact absurd (hz.mpr hc) (by first | exact hp | exact Int32.not_lt.mpr hp | exact Int32.not_le.mpr hp | simpa using hp)
theorem zw_icmp_le (C : ZC p s m args c o cc nL) {x y : Int} {off : Int} {q : Nat} (hq : (pc : Int) + off = (q : Int)) (hd : decode cc pc = .ok (.if_icmp .le off, 3)) (k1 : z_cm .le x y = true → ZW p l e R s m args below meth c Q B ext D sc N0 S0 nL (q) (L) (st) (h)) (k2 : ¬ z_cm .le x y = true → ZW p l e R s m args below meth c Q B ext D sc N0 S0 nL (pc + 3) (L) (st) (h)) : ZW p l e R s m args below meth c Q B ext D sc N0 S0 nL (pc) (L) (zi y :: zi x :: st) (h) := by
  intro ca H locs cells slots ls a1 a2 a3 a4 a5 a6 a7
  have hz : (Int32.ofInt x ≤ Int32.ofInt y) ↔ z_cm .le x y = true := by
    refine Iff.trans (wr_le_iff x y) ?_
    simp [z_cm]
  refine lv_icmp_le C.1 C.2.1 hd hq (fun hp => k1 ?_ ca H locs cells slots ls a1 a2 a3 a4 a5 a6 a7) (fun hp => k2 (fun hc => ?_) ca H locs cells slots ls a1 a2 a3 a4 a5 a6 a7)
  · exact hz.mp (by first | exact hp | exact Int32.not_lt.mp hp | exact Int32.not_le.mp hp)
  · first | exact hp (hz.mpr hc) | exact hz.mpr hc hp | exact absurd (hz.mpr hc) (by first | exact hp | exact Int32.not_lt.mpr hp | exact Int32.not_le.mpr hp | simpa using hp)
theorem zw_ifnull (C : ZC p s m args c o cc nL) {x : Option Nat} {off : Int} {q : Nat} (hq : (pc : Int) + off = (q : Int)) (hd : decode cc pc = .ok (.ifnull off, 3)) (k1 : x.isNone = true → ZW p l e R s m args below meth c Q B ext D sc N0 S0 nL (q) (L) (st) (h)) (k2 : ¬ x.isNone = true → ZW p l e R s m args below meth c Q B ext D sc N0 S0 nL (pc + 3) (L) (st) (h)) : ZW p l e R s m args below meth c Q B ext D sc N0 S0 nL (pc) (L) (zr x :: st) (h) := by
  intro ca H locs cells slots ls a1 a2 a3 a4 a5 a6 a7
  cases x with
  | none => exact lv_ifnullN C.1 C.2.1 hd hq (k1 rfl ca H locs cells slots ls a1 a2 a3 a4 a5 a6 a7)
  | some x => exact lv_ifnull C.1 C.2.1 hd (k2 (by simp) ca H locs cells slots ls a1 a2 a3 a4 a5 a6 a7)
theorem zw_ifnonnull (C : ZC p s m args c o cc nL) {x : Option Nat} {off : Int} {q : Nat} (hq : (pc : Int) + off = (q : Int)) (hd : decode cc pc = .ok (.ifnonnull off, 3)) (k1 : x.isSome = true → ZW p l e R s m args below meth c Q B ext D sc N0 S0 nL (q) (L) (st) (h)) (k2 : ¬ x.isSome = true → ZW p l e R s m args below meth c Q B ext D sc N0 S0 nL (pc + 3) (L) (st) (h)) : ZW p l e R s m args below meth c Q B ext D sc N0 S0 nL (pc) (L) (zr x :: st) (h) := by
  intro ca H locs cells slots ls a1 a2 a3 a4 a5 a6 a7
  cases x with
  | none => exact lv_ifnonnullN C.1 C.2.1 hd (k2 (by simp) ca H locs cells slots ls a1 a2 a3 a4 a5 a6 a7)
  | some x => exact lv_ifnonnull C.1 C.2.1 hd hq (k1 rfl ca H locs cells slots ls a1 a2 a3 a4 a5 a6 a7)
theorem zw_lookup (C : ZC p s m args c o cc nL) {x : Int} {d : Int} {ps : Array (Int × Int)} {ln : Nat} (hp : (ps.toList.zip (ps.toList.drop 1)).all (fun (a, next) => a.1 < next.1) = true) (h0 : 0 ≤ (pc : Int) + Op.lookupswitch.offset ps.toList d (wr x)) (hd : decode cc pc = .ok (.lookupswitch d ps, ln)) (k : ZW p l e R s m args below meth c Q B ext D sc N0 S0 nL (((pc : Int) + Op.lookupswitch.offset ps.toList d (wr x)).toNat) (L) (st) (h)) : ZW p l e R s m args below meth c Q B ext D sc N0 S0 nL (pc) (L) (zi x :: st) (h) := by
  intro ca H locs cells slots ls a1 a2 a3 a4 a5 a6 a7
  exact lv_lookup C.1 C.2.1 hd hp rfl (tgt := ((pc : Int) + Op.lookupswitch.offset ps.toList d (wr x)).toNat) (by rw [wr_toInt]; omega) (k ca H locs cells slots ls a1 a2 a3 a4 a5 a6 a7)
theorem zw_tsOut (C : ZC p s m args c o cc nL) {x : Int} {d lo hi : Int} {offs : Array Int} {ln : Nat} (hx : wr x < lo ∨ hi < wr x) (h0 : 0 ≤ (pc : Int) + d) (hd : decode cc pc = .ok (.tableswitch d lo hi offs, ln)) (k : ZW p l e R s m args below meth c Q B ext D sc N0 S0 nL (((pc : Int) + d).toNat) (L) (st) (h)) : ZW p l e R s m args below meth c Q B ext D sc N0 S0 nL (pc) (L) (zi x :: st) (h) := by
  intro ca H locs cells slots ls a1 a2 a3 a4 a5 a6 a7
  exact lv_tableOut C.1 C.2.1 hd (by rw [wr_toInt]; exact hx) (tgt := ((pc : Int) + d).toNat) (by omega) (k ca H locs cells slots ls a1 a2 a3 a4 a5 a6 a7)
theorem zw_tsIn (C : ZC p s m args c o cc nL) {x : Int} {d lo hi off : Int} {offs : Array Int} {ln : Nat} (hx : ¬ (wr x < lo ∨ hi < wr x)) (ho : offs.toList[(wr x - lo).toNat]? = some off) (h0 : 0 ≤ (pc : Int) + off) (hd : decode cc pc = .ok (.tableswitch d lo hi offs, ln)) (k : ZW p l e R s m args below meth c Q B ext D sc N0 S0 nL (((pc : Int) + off).toNat) (L) (st) (h)) : ZW p l e R s m args below meth c Q B ext D sc N0 S0 nL (pc) (L) (zi x :: st) (h) := by
  intro ca H locs cells slots ls a1 a2 a3 a4 a5 a6 a7
  exact lv_tableIn C.1 C.2.1 hd (by rw [wr_toInt]; exact fun q => hx (Or.inl q)) (by rw [wr_toInt]; exact fun q => hx (Or.inr q)) (off := off) (by rw [wr_toInt]; simpa using ho) (tgt := ((pc : Int) + off).toNat) (by omega) (k ca H locs cells slots ls a1 a2 a3 a4 a5 a6 a7)
end ZROWS
