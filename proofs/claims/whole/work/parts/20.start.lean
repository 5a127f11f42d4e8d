/-! THE CLAIM OUT OF ONE WALK OF THE LAW'S BODY. Your part is whole_start (and what it stands on); all else here is the same for every law, but numbers. -/
def R_law : String := "LetOffLaw"
def lw_P (b : Addr) (xs : List Int32) (args : Array Value) (s : State) : Prop := args = #[.ref b] ∧ s.IntsAt b xs ∧ xs.length ≤ 3072 ∧ (Jvm.Cond.and given_1 narrow_1).before args s = true
def lw_Q (_ : Array Value) (s : State) (o : Outcome) (t : State) : Prop := o = .returned (some (.int 1)) ∧ Framed s o t [] 600000 7302250
def lw_Z (below : List Frame) (a : Array Value) (s : State) : State → Prop := fun t => ∃ o, t.status = .running ∧ Ended t below o ∧ lw_Q a s o t
/-- the law's own end, with 1 on the stack, nothing written that was there before, its room as the claim has it -/
theorem lw_ret {p : Program} {l : Launch} {e : Env} {s : State} {m : MethodId} {below : List Frame} {meth : Method} {c : Code} {b : Nat} (hx : p.tables.exec = Jvm.exec) (hb : c.code = code) (hr : meth.sig.returnType = ret) (hlocks : meth.locks = false) {pc : Nat} {H : Heap} {ls : Array Slot} (hdg : decode code pc = .ok (.ireturn, 1)) : W p l e room_1 s m #[Value.ref b] below meth c H [] 600000 7302250 (lw_Z below #[Value.ref b] s) (F0 m pc ls [.int 1]) := by
  intro T hT X
  obtain ⟨fs, hret, hrun, hended, hW, hframe⟩ := X.leave (v := some (.int 1)) (hlocks := hlocks) (fun h => by rw [hr] at h; cases h)
  have hmeth' : T.vm.method? m = some meth := X.method'
  refine ⟨T.setFrames fs, ?_, .returned (some (.int 1)), hrun, hended, rfl, ⟨_, rfl⟩, hW, hframe⟩
  jvm_step X.here [X.here.top, hx, hb, hdg, hmeth', hr, ret, narrow_b1]
  (try refine ⟨rfl, ?_⟩); (try refine ⟨rfl, ?_⟩)
  first | (intro acts; rw [hret _ acts rfl rfl rfl]) | rw [hret _ _ rfl rfl rfl]
  exact Steps.refl _
/-- what holds at the law's entry: the machine, the code, the tables' words (any of lw_tbl by 'hts w (by decide +kernel)'), the script of L ints xs at the cell b, what the Statement gives of the start (any of its parts by flat_of_before) -/
def lw_At (p : Program) (s : State) (m : MethodId) (meth : Method) (c : Code) (b L : Nat) (xs : Nat → Int32) : Prop :=
  p.tables.exec = Jvm.exec ∧ c.code = code ∧ meth.sig.returnType = ret ∧ c.maxLocals = 4 ∧ s.vm.findClass R_law = some m.cls ∧ (∀ w ∈ lw_tbl, w.before #[Value.ref b] s = true) ∧ va_X b L xs s s.heap ∧ b < s.heap.size ∧ meth.locks = false ∧ (Jvm.Cond.and given_1 narrow_1).before #[Value.ref b] s = true
/-! From the small machine's run of the law to the machine's -/
def ztm (i : Nat) : Term := match i with
  | 0 => .string "LetOff$ShowReader" 40
  | 1 => .string "LetOff$RuleReader" 89
  | 2 => .string "LetOff$RuleReader" 87
  | 3 => .string "LetOff$RuleReader" 82
  | 4 => .string "LetOff$RuleReader" 40
  | _ => .string "LetOff$RuleReader" 108
def zflat : List Jvm.Cond := flatC (Jvm.Cond.and given_1 narrow_1)
theorem zn_ex : ∀ i, i < 6 → Cond.exactly (ztm i) "java/lang/String" ∈ zflat := by decide +kernel
theorem zn_co : ∀ i, i < 6 → Cond.eq (.field (ztm i) "java/lang/String" "coder" "B") (.int 0) ∈ zflat := by decide +kernel
theorem zn_ar : ∀ i, i < 6 → Cond.arrayOf (.field (ztm i) "java/lang/String" "value" "[B") .byte ∈ zflat := by decide +kernel
theorem zn_le : ∀ i, i < 6 → Cond.eq (.length (.field (ztm i) "java/lang/String" "value" "[B")) (.int (Int32.ofNat (zlens.getD i 0))) ∈ zflat := by decide +kernel
theorem zn_el : ∀ i, i < 6 → ∀ j, j < zlens.getD i 0 → Cond.eq (.elem (.field (ztm i) "java/lang/String" "value" "[B") (.int (Int32.ofNat j))) (.int ((zbyts.getD i []).getD j 0)) ∈ zflat := by decide +kernel
theorem zn_ne : ∀ i, i < 6 → ∀ j, j < 6 → i ≠ j → Cond.not (Cond.eq (ztm i) (ztm j)) ∈ zflat ∨ Cond.not (Cond.eq (ztm j) (ztm i)) ∈ zflat := by decide +kernel
theorem zn_cs : Cond.eq (.static "java/lang/String" "COMPACT_STRINGS" "Z") (.int 1) ∈ zflat := by decide +kernel
theorem zn_si : Cond.isRef (.static "jdk/internal/util/Preconditions" "SIOOBE_FORMATTER" "Ljava/util/function/BiFunction;") ∈ zflat := by decide +kernel
theorem zn_lcs : Cond.laysStatic "java/lang/String" "COMPACT_STRINGS" "Z" ∈ tables_1 := List.mem_of_getElem? (i := 430) (by decide +kernel)
theorem zn_lsi : Cond.laysStatic "jdk/internal/util/Preconditions" "SIOOBE_FORMATTER" "Ljava/util/function/BiFunction;" ∈ tables_1 := List.mem_of_getElem? (i := 446) (by decide +kernel)
theorem zn_cast : Cond.castable "[I" "java/lang/Cloneable" ∈ tables_1 := List.mem_of_getElem? (i := 583) (by decide +kernel)
theorem zn_ao1 : Cond.arrayOver (.object (zRX 1)) ∈ tables_1 := List.mem_of_getElem? (i := 107) (by decide +kernel)
theorem zn_ao5 : Cond.arrayOver (.object (zRX 5)) ∈ tables_1 := List.mem_of_getElem? (i := 108) (by decide +kernel)
theorem zn_ao7 : Cond.arrayOver (.object (zRX 7)) ∈ tables_1 := List.mem_of_getElem? (i := 30) (by decide +kernel)
theorem zn_str : ∀ o, ∀ q ∈ zCS o, q.2 < 6 ∧ ztm q.2 = .string (zRN o) q.1 := by
  intro o
  unfold zCS
  split
  · decide +kernel
  · decide +kernel
  · intro q h; cases h
/-- the small machine's heap at the law's entry: the script alone -/
def zs0 (n : Nat) : ZS := ((0, 0), fun k => if k = zX + 6 then (100, n) else (0, 0))
def zf0 (x : Nat → Int) : ZF := fun k j => if k = zX + 6 then x j else 0
def zg0 : ZG := fun _ _ => none
/-- what is left to show, of the small machine alone -/
def ZPure : Prop := ∀ (n : Nat) (x : Nat → Int), n ≤ 3072 → (∀ j, -2147483648 ≤ x j ∧ x j ≤ 2147483647) → ∃ (k : Nat) (hf : ZH), zrun 1000 (zev zP 1000 k) zt255 k 0 [zr (some (zX + 6)), zu, zu, zu] [] (zs0 n, zf0 x, zg0) = some (some (zi 1), hf) ∧ hf.1.1.1 ≤ 600000 ∧ hf.1.1.2 ≤ 7302250
theorem zstart (hpure : ZPure) {p : Program} {e : Env} {s : State} {m : MethodId} {below : List Frame} {meth : Method} {c : Code} (l : Launch) {b L : Nat} {xs : Nat → Int32} (hL : L ≤ 3072) (C0 : lw_At p s m meth c b L xs) : W p l e room_1 s m #[Value.ref b] below meth c s.heap [] 0 0 (lw_Z below #[Value.ref b] s) (entryFrame m ([Value.ref b] : List Value).toArray 4) := by
  obtain ⟨hx, hb, hret, hml, hown, hts, hX, hbl, hlocks, hgv⟩ := C0
  have hfl : ∀ w ∈ zflat, w.before #[Value.ref b] s = true := flat_of_before _ hgv
  have htb : ∀ w ∈ tables_1, w.before #[Value.ref b] s = true := fun w hw => hts w (List.mem_append_right _ hw)
  have hA : ∀ a : Nat, a < s.heap.size → ¬ zAr s.heap.size a := fun a ha => by show ¬ s.heap.size ≤ a; omega
  -- classes
  have hD0 : ∀ k : Nat, ∃ q : ClassId × (Nat → Nat), k < 12 → u_Kn s (zRX k) (zTX k) (znf k) q.1 q.2 := by
    intro k
    by_cases hk : k < 12
    · obtain ⟨cC, iS, h⟩ := u_known (ws := lw_tbl) (C := zRX k) (T := zTX k) (N := znf k) (n := znf k) hts (fun w hw => zTB_sub w (zlay_in hk w hw)) (htb _ (zins_ok hk).1)
      exact ⟨(cC, iS), fun _ => h⟩
    · exact ⟨(0, fun _ => 0), fun h => absurd h hk⟩
  obtain ⟨D0, hD0⟩ := Classical.axiomOfChoice hD0
  have hK : va_K (fun k => (D0 k).1, fun k => (D0 k).2) vwCl [] s := by
    refine ⟨fun k q hq => ?_, fun k q hq => by cases hq⟩
    have hk : k < 12 := (List.getElem?_eq_some_iff.mp hq).1
    rw [zcl_at hk] at hq
    cases hq
    exact hD0 k hk
  -- strings
  obtain ⟨adK, adV, hS, hev⟩ := vk_Sof (args := #[Value.ref b]) (s := s) (N := 6) (tm := ztm) (len := zlens) (byt := zbyts) (A := zAr s.heap.size) (by decide +kernel) (fun i hi => hfl _ (zn_ex i hi)) (fun i hi => hfl _ (zn_co i hi)) (fun i hi => hfl _ (zn_ar i hi)) (fun i hi => hfl _ (zn_le i hi)) (fun i hi j hj => hfl _ (zn_el i hi j hj))
    (fun i j hi hj hij => (zn_ne i hi j hj hij).elim (fun q => Or.inl (hfl _ q)) (fun q => Or.inr (hfl _ q))) hA
  obtain ⟨ext, hext6, hext⟩ : ∃ ext : Nat → Nat, ext 6 = b ∧ ∀ i, i < 6 → ext i = adK i := ⟨fun i => if i = 6 then b else adK i, if_pos rfl, fun i hi => if_neg (by omega)⟩
  have hXt : ZXt s.heap.size ext adV (L, xs) s s.heap := by
    refine ⟨fun o q hq => ?_, fun o q hq h3 => ?_, ⟨va_AO.of (htb _ zn_ao1), va_AO.of (htb _ zn_ao5), va_AO.of (htb _ zn_ao7)⟩, va_Nw.of rfl (htb _ zn_cast), ⟨?_, ?_⟩, ?_, ?_, ?_⟩
    · obtain ⟨h6, he⟩ := zn_str o q hq
      refine vk_R.of (A := #[Value.ref b]) (htb _ (zCS_ok o q hq)) ?_
      rw [← he, hext q.2 h6]
      exact hev q.2 h6
    · have := zML_ok o q hq
      unfold zML_p at this
      rw [if_pos h3] at this
      exact va_Nw.of rfl (htb _ this)
    · rw [hext6]
      exact hX
    · rw [hext6]
      exact hbl
    · refine ⟨fun i hi => ?_, fun i j hi hj hij => ?_⟩
      · rw [hext i hi]
        exact hS.1 i hi
      · rw [hext i hi, hext j hj] at hij
        exact hS.2 i j hi hj hij
    · exact va_Zof (htb _ zn_lcs) (htb _ zs_ini_14) (va_eqi (hfl _ zn_cs)) hA
    · exact va_Zqof (htb _ zn_lsi) (htb _ zs_ini_16) (hfl _ zn_si) hA
  obtain ⟨k, hf, hrun, hc1, hc2⟩ := hpure L (fun j => (xs j).toInt) hL (fun j => ⟨Int32.le_toInt (xs j), by have := Int32.toInt_lt (xs j); omega⟩)
  have C : ZC p s m #[Value.ref b] c 12 code 4 := ⟨hx, hb, hml, hown, fun w hw => hts w (zTB_sub w hw)⟩
  have hW := zrun_sound (l := l) (e := e) (below := below) (meth := meth) (R := room_1) (D := (fun k => (D0 k).1, fun k => (D0 k).2)) (Q := lw_Z below #[Value.ref b] s) (N0 := 0) (S0 := 0) (ini := false) (rc := 2) (d := 1000) (T := zt255) (r := some (zi 1)) (hf := hf) C hXt (by omega) (fun h => by cases h) zok_law ⟨Nat.le_of_ble_eq_true rfl, Nat.le_of_ble_eq_true rfl⟩ (fun y as h r h' q => zev_sound zok_all 1000 k y as h r h' q) ⟨by show hf.1.1.1 ≤ 0 + 600000; omega, by show hf.1.1.2 ≤ 0 + 7302250; omega⟩ ?_ k 0 _ _ _ hrun
  · have e0 : ([Value.ref b] : List Value) = ([zr (some (zX + 6))] : List ZV).map (zcv s.heap.size ext) := by
      show [Value.ref b] = [Value.ref (zad s.heap.size ext (zX + 6))]
      unfold zad
      rw [if_neg (by omega), Nat.add_sub_cancel_left, hext6]
    have eF : entryFrame m ([Value.ref b] : List Value).toArray 4 = F0 m 0 ((lg_sl (([zr (some (zX + 6))] : List ZV).map (zcv s.heap.size ext)) ++ List.replicate (4 - (lg_sl (([zr (some (zX + 6))] : List ZV).map (zcv s.heap.size ext))).length) Slot.unset).toArray) [] := by
      rw [e0]
      exact lg_entry_eq m _ 4
    rw [eF]
    refine hW (fun _ => 0) s.heap [] 0 0 _ ⟨Nat.zero_le _, fun j q hq => ?_, ?_, fun j => ?_⟩ ⟨hK, fun j hj => by cases hj⟩ va_S.rf rfl rfl (zent_has (n := 4) (as := [zr (some (zX + 6))]) (Nat.le_of_ble_eq_true rfl)) rfl
    · cases hq
    · show (if zX + 6 = zX + 6 then (100, L) else (0, 0)) = (100, L)
      rw [if_pos rfl]
    · show Int32.ofInt (if zX + 6 = zX + 6 then (xs j).toInt else 0) = xs j
      rw [if_pos rfl]
      exact Int32.ofInt_toInt _
  · intro pc L1 st en hck hxx
    intro ca H locs cells slots ls a1 a2 a3 a4 a5 a6 a7
    refine va_forget (fun q hq => a3.2.2 q hq) ?_
    refine W.widen (k := 600000) (n := 7302250) (by omega) (by omega) ?_
    obtain ⟨i, q, aa, bb, cl, v⟩ := en
    cases i with
    | ireturn =>
      obtain ⟨hd, hI⟩ := zck_dec hck rfl
      simp only [zx] at hxx
      split at hxx
      · split at hxx
        · cases hxx
          exact lw_ret hx hb hret hlocks hd
        · cases hxx
      · cases hxx
    | return_ =>
      exfalso
      simp only [zx] at hxx
      split at hxx <;> cases hxx
    | lreturn =>
      exfalso
      simp only [zx] at hxx
      split at hxx
      · split at hxx <;> cases hxx
      · cases hxx
    | areturn =>
      exfalso
      simp only [zx] at hxx
      split at hxx
      · split at hxx <;> cases hxx
      · cases hxx
    | invokevirtual nn =>
      exfalso
      simp only [zx, z_bi, z_cv, zgo] at hxx
      repeat' (first | (cases hxx; done) | split at hxx)
    | invokestatic nn =>
      exfalso
      simp only [zx, z_bi, z_cs, zgo] at hxx
      repeat' (first | (cases hxx; done) | split at hxx)
    | invokespecial nn =>
      exfalso
      simp only [zx, z_bi, z_ci, zgo] at hxx
      repeat' (first | (cases hxx; done) | split at hxx)
    | _ =>
      exfalso
      simp only [zx, z_get, z_put, z_ald, z_ast, z_len, z_new, z_newa, z_if, zgo] at hxx
      repeat' (first | (cases hxx; done) | split at hxx)
