/-! The small machine's heap, held against the machine's -/
def zad (B : Nat) (ext : Nat → Nat) (k : Nat) : Nat := if k < zX then B + k else ext (k - zX)
def zcv (B : Nat) (ext : Nat → Nat) (v : ZV) : Value := match v with
  | .inl x => .int (Int32.ofInt x)
  | .inr (.inl x) => .long (Int64.ofInt x)
  | .inr (.inr (.inl r)) => va_rf (r.map (zad B ext))
  | _ => .null
def zft (t : FieldType) : Nat := match t with
  | .int => 0
  | .long => 1
  | .object _ => 2
  | .array _ => 2
  | .boolean => 3
  | _ => 9
def zcomp (t : Nat) : FieldType := if t = 101 then .byte else if t = 102 then .boolean else if t = 103 then .long else if 110 ≤ t then .object (zRX (t - 110)) else .int
def zfv (B : Nat) (ext : Nat → Nat) (h : ZH) (k c j : Nat) : Value := if zft (ztX c j) = 1 then .long (Int64.ofInt (h.2.1 k j)) else if zft (ztX c j) = 2 then va_rf ((h.2.2 k j).map (zad B ext)) else .int (Int32.ofInt (h.2.1 k j))
def zce (B : Nat) (ext : Nat → Nat) (ca : Nat → ClassId) (h : ZH) (k : Nat) : va_E :=
  if (h.1.2 k).1 < 100 then .inr ((h.1.2 k).1, (List.range (znf (h.1.2 k).1)).map (fun j => zfv B ext h k (h.1.2 k).1 j))
  else if (h.1.2 k).1 = 103 then .inl (ca k, (h.1.2 k).2, .inr (.inl (fun j => Int64.ofInt (h.2.1 k j))))
  else if 110 ≤ (h.1.2 k).1 then .inl (ca k, (h.1.2 k).2, .inr (.inr (.inr (.inr (fun j => (h.2.2 k j).map (zad B ext))))))
  else .inl (ca k, (h.1.2 k).2, .inl (fun j => Int32.ofInt (h.2.1 k j)))
def zws (B : Nat) (ext : Nat → Nat) (ca : Nat → ClassId) (h : ZH) : va_W := (List.range h.1.1.1).map (fun k => (B + k, zce B ext ca h k))
/-- the law's own script, as cell zX + 6 of the small heap -/
def ZSc (sc : Nat × (Nat → Int32)) (h : ZH) : Prop := h.1.2 (zX + 6) = (100, sc.1) ∧ ∀ j, Int32.ofInt (h.2.1 (zX + 6) j) = sc.2 j
def ZP (B : Nat) (ext : Nat → Nat) (D : va_G) (sc : Nat × (Nat → Int32)) (ca : Nat → ClassId) (h : ZH) (H : Heap) : Prop := h.1.1.1 ≤ 1000000 ∧ va_P D vwCl (zws B ext ca h) H ∧ ZSc sc h
def ZK (D : va_G) (ca : Nat → ClassId) (σ : ZS) (U : State) : Prop := va_K D vwCl [] U ∧ ∀ k, k < σ.1.1 → 100 ≤ (σ.2 k).1 → ArrOfT U (ca k) (zcomp (σ.2 k).1) ∧ va_RA U (ca k) (zcomp (σ.2 k).1)
abbrev zAr (B : Nat) : Nat → Prop := fun q => B ≤ q
theorem ZK.one {D : va_G} {ca : Nat → ClassId} {σ : ZS} {U : State} (h : ZK D ca σ U) {k : Nat} (hk : k < σ.1.1) (ht : 100 ≤ (σ.2 k).1) : va_K D vwCl [(ca k, zcomp (σ.2 k).1)] U := by
  refine ⟨h.1.1, fun j q hq => ?_⟩
  have hj : j < 1 := (List.getElem?_eq_some_iff.mp hq).1
  have e : j = 0 := by omega
  subst e
  cases hq
  exact h.2 k hk ht
theorem ZK.moved {D : va_G} {ca : Nat → ClassId} {σ : ZS} {u U : State} (hvm : u.vm.Alike U.vm) (h : ZK D ca σ u) : ZK D ca σ U := by
  refine ⟨h.1.moved hvm, fun k hk ht => ?_⟩
  exact ((h.one hk ht).moved hvm).2 0 _ rfl
theorem zws_at {B : Nat} {ext : Nat → Nat} {ca : Nat → ClassId} {h : ZH} {k : Nat} (hk : k < h.1.1.1) : (zws B ext ca h)[k]? = some (B + k, zce B ext ca h k) := by
  simp [zws, hk]
theorem zws_inv {B : Nat} {ext : Nat → Nat} {ca : Nat → ClassId} {h : ZH} {k : Nat} {q : Nat × va_E} (hq : (zws B ext ca h)[k]? = some q) : k < h.1.1.1 ∧ q = (B + k, zce B ext ca h k) := by
  have hk : k < h.1.1.1 := by
    have := (List.getElem?_eq_some_iff.mp hq).1
    simpa [zws] using this
  rw [zws_at hk] at hq
  exact ⟨hk, (Option.some.inj hq).symm⟩
theorem zws_D {B : Nat} {ext : Nat → Nat} {ca : Nat → ClassId} {h : ZH} : va_D (zAr B) (zws B ext ca h) := by
  refine ⟨fun i j p q hp hq e => ?_, fun k q hq => ?_⟩
  · obtain ⟨-, rfl⟩ := zws_inv hp
    obtain ⟨-, rfl⟩ := zws_inv hq
    have e' : B + i = B + j := e
    omega
  · obtain ⟨-, rfl⟩ := zws_inv hq
    show B ≤ B + k
    omega
theorem zws_set {B : Nat} {ext : Nat → Nat} {ca : Nat → ClassId} {h h' : ZH} {k : Nat} (e1 : h'.1.1.1 = h.1.1.1) (e2 : ∀ j, j ≠ k → zce B ext ca h' j = zce B ext ca h j) : (zws B ext ca h).set k (B + k, zce B ext ca h' k) = zws B ext ca h' := by
  apply List.ext_getElem?
  intro j
  by_cases hj : j < h.1.1.1
  · rw [zws_at (h := h') (by rw [e1]; exact hj), List.getElem?_set]
    by_cases hjk : k = j
    · subst hjk
      simp [zws, hj]
    · rw [if_neg hjk, zws_at hj, e2 j (fun e => hjk e.symm)]
  · rw [List.getElem?_eq_none (by simp [zws]; omega), List.getElem?_eq_none (by simp [zws, e1]; omega)]
theorem zws_push {B : Nat} {ext : Nat → Nat} {ca ca' : Nat → ClassId} {h h' : ZH} (e1 : h'.1.1.1 = h.1.1.1 + 1) (e2 : ∀ j, j < h.1.1.1 → zce B ext ca' h' j = zce B ext ca h j) : zws B ext ca' h' = zws B ext ca h ++ [(B + h.1.1.1, zce B ext ca' h' h.1.1.1)] := by
  unfold zws
  rw [e1, List.range_succ, List.map_append]
  congr 1
  apply List.map_congr_left
  intro j hj
  rw [e2 j (List.mem_range.mp hj)]
/-- the words that a method may hand on -/
def zTB : List Jvm.Cond := lw_tbl.filter goodWord
theorem zTB_in {w : Jvm.Cond} (h : w ∈ tables_1) (g : goodWord w = true) : w ∈ zTB := List.mem_filter.mpr ⟨List.mem_append_right _ h, g⟩
theorem zTB_in' {w : Jvm.Cond} (h : w ∈ lw_tbl) (g : goodWord w = true) : w ∈ zTB := List.mem_filter.mpr ⟨h, g⟩
theorem zTB_good : ∀ w ∈ zTB, goodWord w = true := fun w h => (List.mem_filter.mp h).2
theorem zTB_sub : ∀ w ∈ zTB, w ∈ lw_tbl := fun w h => (List.mem_filter.mp h).1
theorem zce_off {B : Nat} {ext : Nat → Nat} {ca ca' : Nat → ClassId} {h h' : ZH} {j : Nat} (e0 : h'.1.2 j = h.1.2 j) (e1 : h'.2.1 j = h.2.1 j) (e2 : h'.2.2 j = h.2.2 j) (e3 : ca' j = ca j) : zce B ext ca' h' j = zce B ext ca h j := by
  unfold zce zfv
  simp only [e0, e1, e2, e3]
theorem zcases {c : Nat} {P : Nat → Prop} (h : c < 12) (h0 : P 0) (h1 : P 1) (h2 : P 2) (h3 : P 3) (h4 : P 4) (h5 : P 5) (h6 : P 6) (h7 : P 7) (h8 : P 8) (h9 : P 9) (h10 : P 10) (h11 : P 11) : P c := by
  have e : c = 0 ∨ c = 1 ∨ c = 2 ∨ c = 3 ∨ c = 4 ∨ c = 5 ∨ c = 6 ∨ c = 7 ∨ c = 8 ∨ c = 9 ∨ c = 10 ∨ c = 11 := by omega
  rcases e with rfl | rfl | rfl | rfl | rfl | rfl | rfl | rfl | rfl | rfl | rfl | rfl <;> assumption
theorem zcl_at {c : Nat} (h : c < 12) : vwCl[c]? = some (zRX c, zTX c, znf c) := zcases (P := fun c => vwCl[c]? = some (zRX c, zTX c, znf c)) h rfl rfl rfl rfl rfl rfl rfl rfl rfl rfl rfl rfl
theorem zty_ok {c : Nat} (h : c < 12) : ∀ k, k < znf c → parseFieldDescriptor (zTX c k).2.2.1 = some (ztX c k) :=
  zcases (P := fun c => ∀ k, k < znf c → parseFieldDescriptor (zTX c k).2.2.1 = some (ztX c k)) h tyX0_ok tyX1_ok tyX2_ok tyX3_ok tyX4_ok tyX5_ok tyX6_ok tyX7_ok tyX8_ok tyX9_ok tyX10_ok tyX11_ok
theorem znm_ok {c : Nat} (h : c < 12) : ∀ a, a < znf c → ∀ b, b < znf c → a ≠ b → (zTX c a).2.1 ≠ (zTX c b).2.1 :=
  zcases (P := fun c => ∀ a, a < znf c → ∀ b, b < znf c → a ≠ b → (zTX c a).2.1 ≠ (zTX c b).2.1) h nmX0 nmX1 nmX2 nmX3 nmX4 nmX5 nmX6 nmX7 nmX8 nmX9 nmX10 nmX11
theorem zcls_ok {c : Nat} (h : c < 12) : ∀ k, k < znf c → (zTX c k).1 = zRX c :=
  zcases (P := fun c => ∀ k, k < znf c → (zTX c k).1 = zRX c) h (by decide +kernel) (by decide +kernel) (by decide +kernel) (by decide +kernel) (by decide +kernel) (by decide +kernel) (by decide +kernel) (by decide +kernel) (by decide +kernel) (by decide +kernel) (by decide +kernel) (by decide +kernel)
theorem zlay_in {c : Nat} (h : c < 12) : ∀ w ∈ u_ws (zRX c) (zTX c) (znf c), w ∈ zTB := by
  have g : ∀ k, k < znf c → u_lay (zRX c) (zTX c) k ∈ tables_1 := zcases (P := fun c => ∀ k, k < znf c → u_lay (zRX c) (zTX c) k ∈ tables_1) h zlay_0 zlay_1 zlay_2 zlay_3 zlay_4 zlay_5 zlay_6 zlay_7 zlay_8 zlay_9 zlay_10 zlay_11
  intro w hw
  obtain ⟨k, hk, rfl⟩ := List.mem_map.mp hw
  refine zTB_in (g k (List.mem_range.mp hk)) ?_
  unfold u_lay
  split <;> rfl
theorem zins_ok {c : Nat} (h : c < 12) : Cond.instantiable (zRX c) (znf c) ∈ tables_1 ∧ Cond.initialized (zRX c) ∈ tables_1 :=
  zcases (P := fun c => Cond.instantiable (zRX c) (znf c) ∈ tables_1 ∧ Cond.initialized (zRX c) ∈ tables_1) h zins_0 zins_1 zins_2 zins_3 zins_4 zins_5 zins_6 zins_7 zins_8 zins_9 zins_10 zins_11
