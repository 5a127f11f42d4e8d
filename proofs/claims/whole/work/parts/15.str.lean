/-! The JDK's own methods of a String constant -/
theorem zs_code_length : Cond.code yJ0_length_8abf5 cJ0_length_8abf5 1 (some .int) ∈ tables_1 := List.mem_of_getElem? (i := 424) (by decide +kernel)
theorem zs_code_coder : Cond.code yJ0_coder_7d493 cJ0_coder_7d493 1 (some .byte) ∈ tables_1 := List.mem_of_getElem? (i := 428) (by decide +kernel)
theorem zs_code_isLatin1 : Cond.code yJ0_isLatin1_aae02 cJ0_isLatin1_aae02 1 (some .boolean) ∈ tables_1 := List.mem_of_getElem? (i := 438) (by decide +kernel)
theorem zs_code_charAt : Cond.code yJ0_charAt_5068e cJ0_charAt_5068e 2 (some .char) ∈ tables_1 := List.mem_of_getElem? (i := 434) (by decide +kernel)
theorem zs_code_sCheck : Cond.code yJ0_checkIndex_df160 cJ0_checkIndex_df160 2 none ∈ tables_1 := List.mem_of_getElem? (i := 444) (by decide +kernel)
theorem zs_code_lCharAt : Cond.code yJ1_charAt_3b067 cJ1_charAt_3b067 2 (some .char) ∈ tables_1 := List.mem_of_getElem? (i := 441) (by decide +kernel)
theorem zs_code_pCheck : Cond.code yJ3_checkIndex_8e157 cJ3_checkIndex_8e157 3 (some .int) ∈ tables_1 := List.mem_of_getElem? (i := 449) (by decide +kernel)
theorem zs_ini_14 : Cond.initialized "java/lang/String" ∈ tables_1 := List.mem_of_getElem? (i := 14) (by decide +kernel)
theorem zs_ini_15 : Cond.initialized "java/lang/StringLatin1" ∈ tables_1 := List.mem_of_getElem? (i := 15) (by decide +kernel)
theorem zs_ini_16 : Cond.initialized "jdk/internal/util/Preconditions" ∈ tables_1 := List.mem_of_getElem? (i := 16) (by decide +kernel)
theorem zs_l_coder : Cond.methodLink "java/lang/String" 335 yJ0_coder_7d493 ∈ tables_1 := List.mem_of_getElem? (i := 425) (by decide +kernel)
theorem zs_i_coder : Cond.instanceMethod yJ0_coder_7d493 ∈ tables_1 := List.mem_of_getElem? (i := 426) (by decide +kernel)
theorem zs_s_coder : Cond.selects "java/lang/String" yJ0_coder_7d493 yJ0_coder_7d493 ∈ tables_1 := List.mem_of_getElem? (i := 427) (by decide +kernel)
theorem zs_f_cs : Cond.fieldLink "java/lang/String" 38 "java/lang/String" "COMPACT_STRINGS" "Z" ∈ tables_1 := List.mem_of_getElem? (i := 429) (by decide +kernel)
theorem zs_i_length : Cond.instanceMethod yJ0_length_8abf5 ∈ tables_1 := List.mem_of_getElem? (i := 422) (by decide +kernel)
theorem zs_s_length : Cond.selects "java/lang/String" yJ0_length_8abf5 yJ0_length_8abf5 ∈ tables_1 := List.mem_of_getElem? (i := 423) (by decide +kernel)
theorem zs_i_charAt : Cond.instanceMethod yJ0_charAt_5068e ∈ tables_1 := List.mem_of_getElem? (i := 432) (by decide +kernel)
theorem zs_s_charAt : Cond.selects "java/lang/String" yJ0_charAt_5068e yJ0_charAt_5068e ∈ tables_1 := List.mem_of_getElem? (i := 433) (by decide +kernel)
theorem zs_l_isLatin1 : Cond.methodLink "java/lang/String" 492 yJ0_isLatin1_aae02 ∈ tables_1 := List.mem_of_getElem? (i := 435) (by decide +kernel)
theorem zs_i_isLatin1 : Cond.instanceMethod yJ0_isLatin1_aae02 ∈ tables_1 := List.mem_of_getElem? (i := 436) (by decide +kernel)
theorem zs_s_isLatin1 : Cond.selects "java/lang/String" yJ0_isLatin1_aae02 yJ0_isLatin1_aae02 ∈ tables_1 := List.mem_of_getElem? (i := 437) (by decide +kernel)
theorem zs_l_lCharAt : Cond.methodLink "java/lang/String" 495 yJ1_charAt_3b067 ∈ tables_1 := List.mem_of_getElem? (i := 439) (by decide +kernel)
theorem zs_t_lCharAt : Cond.static yJ1_charAt_3b067 ∈ tables_1 := List.mem_of_getElem? (i := 440) (by decide +kernel)
theorem zs_l_sCheck : Cond.methodLink "java/lang/StringLatin1" 9 yJ0_checkIndex_df160 ∈ tables_1 := List.mem_of_getElem? (i := 442) (by decide +kernel)
theorem zs_t_sCheck : Cond.static yJ0_checkIndex_df160 ∈ tables_1 := List.mem_of_getElem? (i := 443) (by decide +kernel)
theorem zs_f_si : Cond.fieldLink "java/lang/String" 1053 "jdk/internal/util/Preconditions" "SIOOBE_FORMATTER" "Ljava/util/function/BiFunction;" ∈ tables_1 := List.mem_of_getElem? (i := 445) (by decide +kernel)
theorem zs_l_pCheck : Cond.methodLink "java/lang/String" 1059 yJ3_checkIndex_8e157 ∈ tables_1 := List.mem_of_getElem? (i := 447) (by decide +kernel)
theorem zs_t_pCheck : Cond.static yJ3_checkIndex_8e157 ∈ tables_1 := List.mem_of_getElem? (i := 448) (by decide +kernel)
theorem zs_f_val : Cond.fieldLink "java/lang/String" 9 "java/lang/String" "value" "[B" ∈ tables_1 := List.mem_of_getElem? (i := 1594) (by decide +kernel)
theorem zs_f_cod : Cond.fieldLink "java/lang/String" 15 "java/lang/String" "coder" "B" ∈ tables_1 := List.mem_of_getElem? (i := 1595) (by decide +kernel)
theorem zd_cJ0_charAt_5068e_0 : decode cJ0_charAt_5068e 0 = .ok (.aload_n 0, 1) := by decide +kernel
theorem zd_cJ0_charAt_5068e_1 : decode cJ0_charAt_5068e 1 = .ok (.invokevirtual 492, 3) := by decide +kernel
theorem zd_cJ0_charAt_5068e_4 : decode cJ0_charAt_5068e 4 = .ok (.ifCond .eq 12, 3) := by decide +kernel
theorem zd_cJ0_charAt_5068e_7 : decode cJ0_charAt_5068e 7 = .ok (.aload_n 0, 1) := by decide +kernel
theorem zd_cJ0_charAt_5068e_8 : decode cJ0_charAt_5068e 8 = .ok (.getfield 9, 3) := by decide +kernel
theorem zd_cJ0_charAt_5068e_11 : decode cJ0_charAt_5068e 11 = .ok (.iload_n 1, 1) := by decide +kernel
theorem zd_cJ0_charAt_5068e_12 : decode cJ0_charAt_5068e 12 = .ok (.invokestatic 495, 3) := by decide +kernel
theorem zd_cJ0_charAt_5068e_15 : decode cJ0_charAt_5068e 15 = .ok (.ireturn, 1) := by decide +kernel
theorem zd_cJ0_charAt_5068e_16 : decode cJ0_charAt_5068e 16 = .ok (.aload_n 0, 1) := by decide +kernel
theorem zd_cJ0_charAt_5068e_17 : decode cJ0_charAt_5068e 17 = .ok (.getfield 9, 3) := by decide +kernel
theorem zd_cJ0_charAt_5068e_20 : decode cJ0_charAt_5068e 20 = .ok (.iload_n 1, 1) := by decide +kernel
theorem zd_cJ0_charAt_5068e_21 : decode cJ0_charAt_5068e 21 = .ok (.invokestatic 498, 3) := by decide +kernel
theorem zd_cJ0_charAt_5068e_24 : decode cJ0_charAt_5068e 24 = .ok (.ireturn, 1) := by decide +kernel
theorem zd_cJ0_checkIndex_df160_0 : decode cJ0_checkIndex_df160 0 = .ok (.iload_n 0, 1) := by decide +kernel
theorem zd_cJ0_checkIndex_df160_1 : decode cJ0_checkIndex_df160 1 = .ok (.iload_n 1, 1) := by decide +kernel
theorem zd_cJ0_checkIndex_df160_2 : decode cJ0_checkIndex_df160 2 = .ok (.getstatic 1053, 3) := by decide +kernel
theorem zd_cJ0_checkIndex_df160_5 : decode cJ0_checkIndex_df160 5 = .ok (.invokestatic 1059, 3) := by decide +kernel
theorem zd_cJ0_checkIndex_df160_8 : decode cJ0_checkIndex_df160 8 = .ok (.pop, 1) := by decide +kernel
theorem zd_cJ0_checkIndex_df160_9 : decode cJ0_checkIndex_df160 9 = .ok (.return_, 1) := by decide +kernel
theorem zd_cJ0_coder_7d493_0 : decode cJ0_coder_7d493 0 = .ok (.getstatic 38, 3) := by decide +kernel
theorem zd_cJ0_coder_7d493_3 : decode cJ0_coder_7d493 3 = .ok (.ifCond .eq 10, 3) := by decide +kernel
theorem zd_cJ0_coder_7d493_6 : decode cJ0_coder_7d493 6 = .ok (.aload_n 0, 1) := by decide +kernel
theorem zd_cJ0_coder_7d493_7 : decode cJ0_coder_7d493 7 = .ok (.getfield 15, 3) := by decide +kernel
theorem zd_cJ0_coder_7d493_10 : decode cJ0_coder_7d493 10 = .ok (.goto 4, 3) := by decide +kernel
theorem zd_cJ0_coder_7d493_13 : decode cJ0_coder_7d493 13 = .ok (.iconst 1, 1) := by decide +kernel
theorem zd_cJ0_coder_7d493_14 : decode cJ0_coder_7d493 14 = .ok (.ireturn, 1) := by decide +kernel
theorem zd_cJ0_isLatin1_aae02_0 : decode cJ0_isLatin1_aae02 0 = .ok (.getstatic 38, 3) := by decide +kernel
theorem zd_cJ0_isLatin1_aae02_3 : decode cJ0_isLatin1_aae02 3 = .ok (.ifCond .eq 14, 3) := by decide +kernel
theorem zd_cJ0_isLatin1_aae02_6 : decode cJ0_isLatin1_aae02 6 = .ok (.aload_n 0, 1) := by decide +kernel
theorem zd_cJ0_isLatin1_aae02_7 : decode cJ0_isLatin1_aae02 7 = .ok (.getfield 15, 3) := by decide +kernel
theorem zd_cJ0_isLatin1_aae02_10 : decode cJ0_isLatin1_aae02 10 = .ok (.ifCond .ne 7, 3) := by decide +kernel
theorem zd_cJ0_isLatin1_aae02_13 : decode cJ0_isLatin1_aae02 13 = .ok (.iconst 1, 1) := by decide +kernel
theorem zd_cJ0_isLatin1_aae02_14 : decode cJ0_isLatin1_aae02 14 = .ok (.goto 4, 3) := by decide +kernel
theorem zd_cJ0_isLatin1_aae02_17 : decode cJ0_isLatin1_aae02 17 = .ok (.iconst 0, 1) := by decide +kernel
theorem zd_cJ0_isLatin1_aae02_18 : decode cJ0_isLatin1_aae02 18 = .ok (.ireturn, 1) := by decide +kernel
theorem zd_cJ0_length_8abf5_0 : decode cJ0_length_8abf5 0 = .ok (.aload_n 0, 1) := by decide +kernel
theorem zd_cJ0_length_8abf5_1 : decode cJ0_length_8abf5 1 = .ok (.getfield 9, 3) := by decide +kernel
theorem zd_cJ0_length_8abf5_4 : decode cJ0_length_8abf5 4 = .ok (.arraylength, 1) := by decide +kernel
theorem zd_cJ0_length_8abf5_5 : decode cJ0_length_8abf5 5 = .ok (.aload_n 0, 1) := by decide +kernel
theorem zd_cJ0_length_8abf5_6 : decode cJ0_length_8abf5 6 = .ok (.invokevirtual 335, 3) := by decide +kernel
theorem zd_cJ0_length_8abf5_9 : decode cJ0_length_8abf5 9 = .ok (.ishr, 1) := by decide +kernel
theorem zd_cJ0_length_8abf5_10 : decode cJ0_length_8abf5 10 = .ok (.ireturn, 1) := by decide +kernel
theorem zd_cJ1_charAt_3b067_0 : decode cJ1_charAt_3b067 0 = .ok (.iload_n 1, 1) := by decide +kernel
theorem zd_cJ1_charAt_3b067_1 : decode cJ1_charAt_3b067 1 = .ok (.aload_n 0, 1) := by decide +kernel
theorem zd_cJ1_charAt_3b067_2 : decode cJ1_charAt_3b067 2 = .ok (.arraylength, 1) := by decide +kernel
theorem zd_cJ1_charAt_3b067_3 : decode cJ1_charAt_3b067 3 = .ok (.invokestatic 9, 3) := by decide +kernel
theorem zd_cJ1_charAt_3b067_6 : decode cJ1_charAt_3b067 6 = .ok (.aload_n 0, 1) := by decide +kernel
theorem zd_cJ1_charAt_3b067_7 : decode cJ1_charAt_3b067 7 = .ok (.iload_n 1, 1) := by decide +kernel
theorem zd_cJ1_charAt_3b067_8 : decode cJ1_charAt_3b067 8 = .ok (.baload, 1) := by decide +kernel
theorem zd_cJ1_charAt_3b067_9 : decode cJ1_charAt_3b067 9 = .ok (.sipush 255, 3) := by decide +kernel
theorem zd_cJ1_charAt_3b067_12 : decode cJ1_charAt_3b067 12 = .ok (.iand, 1) := by decide +kernel
theorem zd_cJ1_charAt_3b067_13 : decode cJ1_charAt_3b067 13 = .ok (.i2c, 1) := by decide +kernel
theorem zd_cJ1_charAt_3b067_14 : decode cJ1_charAt_3b067 14 = .ok (.ireturn, 1) := by decide +kernel
theorem zd_cJ3_checkIndex_8e157_0 : decode cJ3_checkIndex_8e157 0 = .ok (.iload_n 0, 1) := by decide +kernel
theorem zd_cJ3_checkIndex_8e157_1 : decode cJ3_checkIndex_8e157 1 = .ok (.ifCond .lt 8, 3) := by decide +kernel
theorem zd_cJ3_checkIndex_8e157_4 : decode cJ3_checkIndex_8e157 4 = .ok (.iload_n 0, 1) := by decide +kernel
theorem zd_cJ3_checkIndex_8e157_5 : decode cJ3_checkIndex_8e157 5 = .ok (.iload_n 1, 1) := by decide +kernel
theorem zd_cJ3_checkIndex_8e157_6 : decode cJ3_checkIndex_8e157 6 = .ok (.if_icmp .lt 10, 3) := by decide +kernel
theorem zd_cJ3_checkIndex_8e157_9 : decode cJ3_checkIndex_8e157 9 = .ok (.aload_n 2, 1) := by decide +kernel
theorem zd_cJ3_checkIndex_8e157_10 : decode cJ3_checkIndex_8e157 10 = .ok (.iload_n 0, 1) := by decide +kernel
theorem zd_cJ3_checkIndex_8e157_11 : decode cJ3_checkIndex_8e157 11 = .ok (.iload_n 1, 1) := by decide +kernel
theorem zd_cJ3_checkIndex_8e157_12 : decode cJ3_checkIndex_8e157 12 = .ok (.invokestatic 95, 3) := by decide +kernel
theorem zd_cJ3_checkIndex_8e157_15 : decode cJ3_checkIndex_8e157 15 = .ok (.athrow, 1) := by decide +kernel
theorem zd_cJ3_checkIndex_8e157_16 : decode cJ3_checkIndex_8e157 16 = .ok (.iload_n 0, 1) := by decide +kernel
theorem zd_cJ3_checkIndex_8e157_17 : decode cJ3_checkIndex_8e157 17 = .ok (.ireturn, 1) := by decide +kernel
theorem zs_all : ∀ i, i < 6 → (zlens.getD i 0 = (zstr i).length ∧ (zstr i).length < 100 ∧ (∀ j, j < 100 → (zbyts.getD i []).getD j 0 = Int32.ofInt ((zstr i).getD j 0)) ∧ ∀ j, j < 100 → 0 ≤ (zstr i).getD j 0 ∧ (zstr i).getD j 0 ≤ 127) := by decide +kernel
theorem zs_and (x : Int) (h : 0 ≤ x ∧ x ≤ 127) : Int32.ofInt x &&& 255 = Int32.ofInt x := by
  have g : ∀ n : Nat, n < 128 → Int32.ofInt (n : Int) &&& 255 = Int32.ofInt (n : Int) := by decide +kernel
  have := g x.toNat (by omega)
  rwa [show ((x.toNat : Nat) : Int) = x by omega] at this
theorem zs_narc {x : Int} (h : 0 ≤ x ∧ x ≤ 127) : narrow .char (.int (Int32.ofInt x)) = .int (Int32.ofInt x) := by
  have g : ∀ n : Nat, n < 128 → (Int32.ofInt (n : Int)).toUInt32.toUInt16.toUInt32.toInt32 = Int32.ofInt (n : Int) := by decide +kernel
  have := g x.toNat (by omega)
  rw [show ((x.toNat : Nat) : Int) = x by omega] at this
  show Value.int _ = _
  rw [this]
theorem zs_shr0 (x : Int32) : x >>> ((0 : Int32) &&& 31) = x := by
  have e : ((0 : Int32) &&& 31) = 0 := by decide
  rw [e]
  simp
section ZSTR
variable {l : Launch} {B : Nat} {ext adV : Nat → Nat}
def SPc (B : Nat) (ext adV : Nat → Nat) (as : List Value) : Array Value → State → Prop := va_Pc as (fun U => ZSt B ext adV U U.heap)
theorem ZSt.moved {u U : State} {H : Heap} (hvm : u.vm.Alike U.vm) (h : ZSt B ext adV u H) : ZSt B ext adV U H := ⟨h.1.moved hvm, h.2.1.moved hvm, h.2.2.moved hvm⟩
theorem ZSt.kept {U : State} {H H1 : Heap} (hq : ∀ a : Nat, a < H.size → ¬ zAr B a → H1[a]? = H[a]?) (h : ZSt B ext adV U H) : ZSt B ext adV U H1 := ⟨h.1.kept hq, h.2.1.kept hq, h.2.2.kept hq⟩
theorem SPc.blind {as : List Value} : FrameBlind (SPc B ext adV as) := fun a U g mk q => ⟨q.1, q.2.moved (u := U) (U := U.calling g mk a) (Vm.Alike.refl U.vm)⟩
theorem SPc.pre {s : State} {H : Heap} {locs : List Loc} {as : List Value} (hS : ZSt B ext adV s s.heap) (h3 : va_S (zAr B) s.heap H locs) : ∀ U : State, U.heap = H → s.WarmedH U.vm → SPc B ext adV as as.toArray U :=
  fun U hU hW => ⟨rfl, by show ZSt B ext adV U U.heap; rw [hU]; exact (hS.kept h3.2.1).moved hW.alike⟩
def zws0 (y : MethodName) (cc : ByteArray) (n : Nat) (rt : Option FieldType) : List Jvm.Cond := Cond.code y cc n rt :: zTB
theorem zws0_in {y : MethodName} {cc : ByteArray} {n : Nat} {rt : Option FieldType} (h : Cond.code y cc n rt ∈ tables_1) : ∀ w ∈ zws0 y cc n rt, w ∈ zTB := by
  intro w hw
  rcases List.mem_cons.mp hw with rfl | hw
  · exact zTB_in h rfl
  · exact hw
theorem zm_coder {i : Nat} (hi : i < 6) : Met l yJ0_coder_7d493 (zws0 yJ0_coder_7d493 cJ0_coder_7d493 1 (some .byte)) (zrm 1 0 0) (SPc B ext adV [.ref (ext i)]) (QcRead 0) 0 0 (fun _ => False) := by
  refine va_MetF (cc := cJ0_coder_7d493) (maxL := 1) (ret := (some .byte)) (by decide +kernel) rfl ?_
  intro p e s m args below meth c s₁ Bd hml hv
  obtain ⟨rfl, hS⟩ := hv
  have hx := Bd.exec
  have hb := Bd.bytes
  have hr := Bd.returns
  have hlocks := Bd.notSynchronized
  have hts : ∀ w ∈ zTB, w.before _ s = true := fun w hw => atoms_spec (ws := zws0 yJ0_coder_7d493 cJ0_coder_7d493 1 (some .byte)) Bd.pre w (List.mem_cons_of_mem _ hw)
  have hown : s.vm.findClass "java/lang/String" = some m.cls := findClass_of_methodNamed Bd.named
  have h3 : va_S (zAr B) s.heap s.heap [] := va_S.rf
  have hl := lv_entry ([.ref (ext i)]) (n := 1) (Nat.le_of_ble_eq_true rfl)
  rw [lg_entry_eq]
  generalize (lg_sl ([.ref (ext i)]) ++ List.replicate (1 - (lg_sl ([.ref (ext i)])).length) Slot.unset).toArray = ls at hl ⊢
  have hl : lv_has ls 1 [(0, .ref (ext i))] := hl
  refine va_gets hx hb (v := .int 1) hS.2.1 h3 hown (hts _ (zTB_in zs_f_cs rfl)) (fun _ h => h) zd_cJ0_coder_7d493_0 ?_
  refine lv_if_eq hx hb zd_cJ0_coder_7d493_3 (tgt := 13) rfl (fun h => absurd h (by decide)) (fun _ => ?_)
  refine lv_aload_n hx hb zd_cJ0_coder_7d493_6 rfl (lv_at hl 0 rfl) ?_
  refine vk_getf hx hb (hS.1.1 i hi).2.1 h3 hown (hts _ (zTB_in zs_f_cod rfl)) (fun _ h => h) zd_cJ0_coder_7d493_7 ?_
  refine lv_goto hx hb zd_cJ0_coder_7d493_10 (tgt := 14) rfl ?_
  exact W.zret hx hb hr (by decide) (fun t ht _ => ⟨rfl, ht⟩) (fun q hq => by cases hq) zd_cJ0_coder_7d493_14
theorem zm_isLatin1 {i : Nat} (hi : i < 6) : Met l yJ0_isLatin1_aae02 (zws0 yJ0_isLatin1_aae02 cJ0_isLatin1_aae02 1 (some .boolean)) (zrm 1 0 0) (SPc B ext adV [.ref (ext i)]) (QcRead 1) 0 0 (fun _ => False) := by
  refine va_MetF (cc := cJ0_isLatin1_aae02) (maxL := 1) (ret := (some .boolean)) (by decide +kernel) rfl ?_
  intro p e s m args below meth c s₁ Bd hml hv
  obtain ⟨rfl, hS⟩ := hv
  have hx := Bd.exec
  have hb := Bd.bytes
  have hr := Bd.returns
  have hlocks := Bd.notSynchronized
  have hts : ∀ w ∈ zTB, w.before _ s = true := fun w hw => atoms_spec (ws := zws0 yJ0_isLatin1_aae02 cJ0_isLatin1_aae02 1 (some .boolean)) Bd.pre w (List.mem_cons_of_mem _ hw)
  have hown : s.vm.findClass "java/lang/String" = some m.cls := findClass_of_methodNamed Bd.named
  have h3 : va_S (zAr B) s.heap s.heap [] := va_S.rf
  have hl := lv_entry ([.ref (ext i)]) (n := 1) (Nat.le_of_ble_eq_true rfl)
  rw [lg_entry_eq]
  generalize (lg_sl ([.ref (ext i)]) ++ List.replicate (1 - (lg_sl ([.ref (ext i)])).length) Slot.unset).toArray = ls at hl ⊢
  have hl : lv_has ls 1 [(0, .ref (ext i))] := hl
  refine va_gets hx hb (v := .int 1) hS.2.1 h3 hown (hts _ (zTB_in zs_f_cs rfl)) (fun _ h => h) zd_cJ0_isLatin1_aae02_0 ?_
  refine lv_if_eq hx hb zd_cJ0_isLatin1_aae02_3 (tgt := 17) rfl (fun h => absurd h (by decide)) (fun _ => ?_)
  refine lv_aload_n hx hb zd_cJ0_isLatin1_aae02_6 rfl (lv_at hl 0 rfl) ?_
  refine vk_getf hx hb (hS.1.1 i hi).2.1 h3 hown (hts _ (zTB_in zs_f_cod rfl)) (fun _ h => h) zd_cJ0_isLatin1_aae02_7 ?_
  refine lv_if_ne hx hb zd_cJ0_isLatin1_aae02_10 (tgt := 17) rfl (fun h => absurd rfl h) (fun _ => ?_)
  refine lv_iconst hx hb zd_cJ0_isLatin1_aae02_13 (v := 1) rfl ?_
  refine lv_goto hx hb zd_cJ0_isLatin1_aae02_14 (tgt := 18) rfl ?_
  exact W.zret hx hb hr (by decide) (fun t ht _ => ⟨rfl, ht⟩) (fun q hq => by cases hq) zd_cJ0_isLatin1_aae02_18
theorem zm_pCheck {a n : Int32} {rv : Option Nat} (h0 : ¬ a < 0) (h1 : a < n) : Met l yJ3_checkIndex_8e157 (zws0 yJ3_checkIndex_8e157 cJ3_checkIndex_8e157 3 (some .int)) (zrm 1 0 0) (SPc B ext adV [.int a, .int n, va_rf rv]) (QcRead a) 0 0 (fun _ => False) := by
  refine va_MetF (cc := cJ3_checkIndex_8e157) (maxL := 3) (ret := (some .int)) (by decide +kernel) rfl ?_
  intro p e s m args below meth c s₁ Bd hml hv
  obtain ⟨rfl, hS⟩ := hv
  have hx := Bd.exec
  have hb := Bd.bytes
  have hr := Bd.returns
  have hlocks := Bd.notSynchronized
  have hl : ∃ ls : Array Slot, entryFrame m ([Value.int a, .int n, va_rf rv] : List Value).toArray 3 = F0 m 0 ls [] ∧ lv_has ls 3 [(0, .int a), (1, .int n)] := by
    refine ⟨_, lg_entry_eq m _ 3, ?_⟩
    cases rv with
    | none => exact lv_sub (lv_entry ([.int a, .int n, .null]) (n := 3) (Nat.le_of_ble_eq_true rfl)) [0, 1] rfl
    | some v => exact lv_sub (lv_entry ([.int a, .int n, .ref v]) (n := 3) (Nat.le_of_ble_eq_true rfl)) [0, 1] rfl
  obtain ⟨ls, e1, hl⟩ := hl
  rw [e1]
  refine lv_iload_n hx hb zd_cJ3_checkIndex_8e157_0 rfl (lv_at hl 0 rfl) ?_
  refine lv_if_lt hx hb zd_cJ3_checkIndex_8e157_1 (tgt := 9) rfl (fun h => absurd h h0) (fun _ => ?_)
  refine lv_iload_n hx hb zd_cJ3_checkIndex_8e157_4 rfl (lv_at hl 0 rfl) ?_
  refine lv_iload_n hx hb zd_cJ3_checkIndex_8e157_5 rfl (lv_at hl 1 rfl) ?_
  refine lv_icmp_lt hx hb zd_cJ3_checkIndex_8e157_6 (tgt := 16) rfl (fun _ => ?_) (fun h => absurd h1 h)
  refine lv_iload_n hx hb zd_cJ3_checkIndex_8e157_16 rfl (lv_at hl 0 rfl) ?_
  exact W.iret hx hb hr (fun t ht _ => ⟨rfl, ht⟩) (fun q hq => by cases hq) zd_cJ3_checkIndex_8e157_17
def QcNo : Array Value → State → Outcome → State → Prop := fun _ st o t => o = .returned none ∧ t.heap = st.heap
theorem zm_sCheck {a n : Int32} (h0 : ¬ a < 0) (h1 : a < n) : Met l yJ0_checkIndex_df160 (zws0 yJ0_checkIndex_df160 cJ0_checkIndex_df160 2 none) (zrm 2 0 0) (SPc B ext adV [.int a, .int n]) (QcNo) 0 0 (fun _ => False) := by
  refine va_MetF (cc := cJ0_checkIndex_df160) (maxL := 2) (ret := none) (by decide +kernel) rfl ?_
  intro p e s m args below meth c s₁ Bd hml hv
  obtain ⟨rfl, hS⟩ := hv
  have hx := Bd.exec
  have hb := Bd.bytes
  have hr := Bd.returns
  have hlocks := Bd.notSynchronized
  have hts : ∀ w ∈ zTB, w.before _ s = true := fun w hw => atoms_spec (ws := zws0 yJ0_checkIndex_df160 cJ0_checkIndex_df160 2 none) Bd.pre w (List.mem_cons_of_mem _ hw)
  have hown : s.vm.findClass "java/lang/String" = some m.cls := findClass_of_methodNamed Bd.named
  have h3 : va_S (zAr B) s.heap s.heap [] := va_S.rf
  have hl := lv_entry ([.int a, .int n]) (n := 2) (Nat.le_of_ble_eq_true rfl)
  rw [lg_entry_eq]
  generalize (lg_sl ([.int a, .int n]) ++ List.replicate (2 - (lg_sl ([.int a, .int n])).length) Slot.unset).toArray = ls at hl ⊢
  have hl : lv_has ls 2 [(0, .int a), (1, .int n)] := hl
  refine lv_iload_n hx hb zd_cJ0_checkIndex_df160_0 rfl (lv_at hl 0 rfl) ?_
  refine lv_iload_n hx hb zd_cJ0_checkIndex_df160_1 rfl (lv_at hl 1 rfl) ?_
  have go : ∀ rv : Option Nat, W p l e (headSpec (zws0 yJ0_checkIndex_df160 cJ0_checkIndex_df160 2 none) (zrm 2 0 0)).room s m ([Value.int a, .int n] : List Value).toArray below meth c s.heap [] 0 0 (MQ below QcNo ([Value.int a, .int n] : List Value).toArray s 0 0 fun _ => False) (F0 m 5 ls (va_rf rv :: .int n :: .int a :: [])) := by
    intro rv
    refine W.callR (r := a) (W.runS (y := yJ3_checkIndex_8e157) (own := "java/lang/String") (index := 1059) (bytes := cJ3_checkIndex_8e157) (maxL := 3) (ret := (some .int)) (ws := zws0 yJ3_checkIndex_8e157 cJ3_checkIndex_8e157 3 (some .int)) (Ts := zTB) (As := [.int a, .int n, va_rf rv]) (rest := []) (n := 3) ⟨hx, hb, hml, hown, hts⟩ (zm_pCheck h0 h1) (va_cwS 3 hts (zgoodIn (fun w hw => by
    rcases List.mem_append.mp hw with h1 | h1
    · simp only [List.mem_cons, List.not_mem_nil, or_false] at h1
      rcases h1 with rfl | rfl | rfl
      · exact zTB_in zs_l_pCheck rfl
      · exact zTB_in zs_t_pCheck rfl
      · exact zTB_in zs_ini_16 rfl
    · exact zws0_in zs_code_pCheck w h1)) rfl rfl rfl (by decide +kernel) ⟨Nat.le_of_ble_eq_true rfl, Nat.le_of_ble_eq_true rfl⟩) ⟨SPc.blind, SPc.pre hS h3⟩ rfl rfl hl.1 rfl (lv_room (by first | exact Nat.le_of_ble_eq_true rfl | (cases rv <;> exact Nat.le_of_ble_eq_true rfl))) zd_cJ0_checkIndex_df160_5 ⟨Nat.zero_le _, Nat.zero_le _⟩) ?_
    refine lv_pop hx hb zd_cJ0_checkIndex_df160_8 rfl ?_
    exact W.vret hx hb hr (fun t ht _ => ⟨rfl, ht⟩) (fun q hq => by cases hq) zd_cJ0_checkIndex_df160_9
  rcases hS.2.2 with hz | ⟨tt, hz⟩
  · exact va_gets hx hb (v := .null) hz h3 hown (hts _ (zTB_in zs_f_si rfl)) (fun _ h => h) zd_cJ0_checkIndex_df160_2 (go none)
  · exact va_gets hx hb (v := .ref tt) hz h3 hown (hts _ (zTB_in zs_f_si rfl)) (fun _ h => h) zd_cJ0_checkIndex_df160_2 (go (some tt))
theorem W.callN {p : Program} {e : Env} {R : Room} {s : State} {m : MethodId} {args : Array Value} {below : List Frame} {meth : Method} {c : Code} {H : Heap} {locs : List Loc} {cells slots : Nat} {Q : State → Prop} {pc : Nat} {ls : Array Slot} {st0 rest : List Value} {a : Array Value} (hr : CallRun p l e R s m args below meth c H locs cells slots 0 0 (F0 m pc ls st0) rest (QcNo a) (fun _ => False)) (kk : W p l e R s m args below meth c H locs cells slots Q (F0 m (pc + 3) ls rest)) : W p l e R s m args below meth c H locs cells slots Q (F0 m pc ls st0) :=
  va_csv (post := fun _ => True) (a := a) (fun T hT X => by
    obtain ⟨v, st₀, t, T', L, h1, h2, h3, h4, ⟨h5, h6⟩, h7⟩ := hr T hT X
    exact ⟨v, st₀, t, T', L, h1, h2, h3, h4, ⟨h5, trivial, h6⟩, h7⟩) (fun _ => kk)
theorem zm_lCharAt {i : Nat} (hi : i < 6) {k : Nat} (hk : k < (zstr i).length) : Met l yJ1_charAt_3b067 (zws0 yJ1_charAt_3b067 cJ1_charAt_3b067 2 (some .char)) (zrm 3 0 0) (SPc B ext adV [.ref (adV i), .int (Int32.ofNat k)]) (QcRead (Int32.ofInt ((zstr i).getD k 0))) 0 0 (fun _ => False) := by
  refine va_MetF (cc := cJ1_charAt_3b067) (maxL := 2) (ret := (some .char)) (by decide +kernel) rfl ?_
  intro p e s m args below meth c s₁ Bd hml hv
  obtain ⟨rfl, hS⟩ := hv
  have hx := Bd.exec
  have hb := Bd.bytes
  have hr := Bd.returns
  have hlocks := Bd.notSynchronized
  have hts : ∀ w ∈ zTB, w.before _ s = true := fun w hw => atoms_spec (ws := zws0 yJ1_charAt_3b067 cJ1_charAt_3b067 2 (some .char)) Bd.pre w (List.mem_cons_of_mem _ hw)
  have hown : s.vm.findClass "java/lang/StringLatin1" = some m.cls := findClass_of_methodNamed Bd.named
  have h3 : va_S (zAr B) s.heap s.heap [] := va_S.rf
  have hl := lv_entry ([.ref (adV i), .int (Int32.ofNat k)]) (n := 2) (Nat.le_of_ble_eq_true rfl)
  rw [lg_entry_eq]
  generalize (lg_sl ([.ref (adV i), .int (Int32.ofNat k)]) ++ List.replicate (2 - (lg_sl ([.ref (adV i), .int (Int32.ofNat k)])).length) Slot.unset).toArray = ls at hl ⊢
  obtain ⟨z1, z2, z3, z4⟩ := zs_all i hi
  have hl : lv_has ls 2 [(0, .ref (adV i)), (1, .int (Int32.ofNat k))] := hl
  have hT := (hS.1.1 i hi).2.2.2
  rw [z1] at hT
  have hz := z_idx (i := (k : Int)) (n := (zstr i).length) (by omega) (by omega) (by omega)
  rw [Int32.ofInt_eq_ofNat] at hz
  have hlt : Int32.ofNat k < Int32.ofNat (zstr i).length := by
    rw [← Int32.ofInt_eq_ofNat, ← Int32.ofInt_eq_ofNat, wr_lt_iff, wr_id (by omega), wr_id (by omega)]; omega
  have hn0 : ¬ Int32.ofNat k < 0 := fun q => hz.1 (Or.inl q)
  refine lv_iload_n hx hb zd_cJ1_charAt_3b067_0 rfl (lv_at hl 1 rfl) ?_
  refine lv_aload_n hx hb zd_cJ1_charAt_3b067_1 rfl (lv_at hl 0 rfl) ?_
  refine va_tlen hx hb hT h3 rfl zd_cJ1_charAt_3b067_2 ?_
  refine W.callN (W.runS (y := yJ0_checkIndex_df160) (own := "java/lang/StringLatin1") (index := 9) (bytes := cJ0_checkIndex_df160) (maxL := 2) (ret := none) (ws := zws0 yJ0_checkIndex_df160 cJ0_checkIndex_df160 2 none) (Ts := zTB) (As := [.int (Int32.ofNat k), .int (Int32.ofNat (zstr i).length)]) (rest := []) (n := 2) ⟨hx, hb, hml, hown, hts⟩ (zm_sCheck hn0 hlt) (va_cwS 2 hts (zgoodIn (fun w hw => by
    rcases List.mem_append.mp hw with h1 | h1
    · simp only [List.mem_cons, List.not_mem_nil, or_false] at h1
      rcases h1 with rfl | rfl | rfl
      · exact zTB_in zs_l_sCheck rfl
      · exact zTB_in zs_t_sCheck rfl
      · exact zTB_in zs_ini_14 rfl
    · exact zws0_in zs_code_sCheck w h1)) rfl rfl rfl (by decide +kernel) ⟨Nat.le_of_ble_eq_true rfl, Nat.le_of_ble_eq_true rfl⟩) ⟨SPc.blind, SPc.pre hS h3⟩ rfl rfl hl.1 rfl (lv_room (by first | exact Nat.le_of_ble_eq_true rfl | (cases rv <;> exact Nat.le_of_ble_eq_true rfl))) zd_cJ1_charAt_3b067_3 ⟨Nat.zero_le _, Nat.zero_le _⟩) ?_
  refine lv_aload_n hx hb zd_cJ1_charAt_3b067_6 rfl (lv_at hl 0 rfl) ?_
  refine lv_iload_n hx hb zd_cJ1_charAt_3b067_7 rfl (lv_at hl 1 rfl) ?_
  refine va_tb hx hb hT h3 hz.1 (v := .int (Int32.ofInt ((zstr i).getD k 0))) ?_ zd_cJ1_charAt_3b067_8 ?_
  · show Value.int ((zbyts.getD i []).getD (Int32.ofNat k).toNatClampNeg 0) = _
    rw [hz.2, show ((k : Int)).toNat = k by omega, z3 k (by omega)]
  have hb4 := z4 k (by omega)
  refine lv_sipush hx hb zd_cJ1_charAt_3b067_9 (v := 255) rfl ?_
  refine lv_iand hx hb zd_cJ1_charAt_3b067_12 ?_
  have ea : Int32.ofInt ((zstr i).getD k 0) &&& 255 = Int32.ofInt ((zstr i).getD k 0) := by
    exact zs_and _ hb4
  rw [ea]
  have et : (Int32.ofInt ((zstr i).getD k 0)).toInt = (zstr i).getD k 0 := by rw [wr_toInt, wr_id]; omega
  refine lv_i2c hx hb zd_cJ1_charAt_3b067_13 (v := Int32.ofInt ((zstr i).getD k 0)) (lg_i2c_word (by omega) (by omega)) ?_
  exact W.zret hx hb hr (by rw [zs_narc hb4]) (fun t ht _ => ⟨rfl, ht⟩) (fun q hq => by cases hq) zd_cJ1_charAt_3b067_14
theorem zm_charAt {i : Nat} (hi : i < 6) {k : Nat} (hk : k < (zstr i).length) : Met l yJ0_charAt_5068e (zws0 yJ0_charAt_5068e cJ0_charAt_5068e 2 (some .char)) (zrm 4 0 0) (SPc B ext adV [.ref (ext i), .int (Int32.ofNat k)]) (QcRead (Int32.ofInt ((zstr i).getD k 0))) 0 0 (fun _ => False) := by
  refine va_MetF (cc := cJ0_charAt_5068e) (maxL := 2) (ret := (some .char)) (by decide +kernel) rfl ?_
  intro p e s m args below meth c s₁ Bd hml hv
  obtain ⟨rfl, hS⟩ := hv
  have hx := Bd.exec
  have hb := Bd.bytes
  have hr := Bd.returns
  have hlocks := Bd.notSynchronized
  have hts : ∀ w ∈ zTB, w.before _ s = true := fun w hw => atoms_spec (ws := zws0 yJ0_charAt_5068e cJ0_charAt_5068e 2 (some .char)) Bd.pre w (List.mem_cons_of_mem _ hw)
  have hown : s.vm.findClass "java/lang/String" = some m.cls := findClass_of_methodNamed Bd.named
  have h3 : va_S (zAr B) s.heap s.heap [] := va_S.rf
  have hl := lv_entry ([.ref (ext i), .int (Int32.ofNat k)]) (n := 2) (Nat.le_of_ble_eq_true rfl)
  rw [lg_entry_eq]
  generalize (lg_sl ([.ref (ext i), .int (Int32.ofNat k)]) ++ List.replicate (2 - (lg_sl ([.ref (ext i), .int (Int32.ofNat k)])).length) Slot.unset).toArray = ls at hl ⊢
  obtain ⟨z1, z2, z3, z4⟩ := zs_all i hi
  have hl : lv_has ls 2 [(0, .ref (ext i)), (1, .int (Int32.ofNat k))] := hl
  have hb4 := z4 k (by omega)
  refine lv_aload_n hx hb zd_cJ0_charAt_5068e_0 rfl (lv_at hl 0 rfl) ?_
  refine W.callR (r := 1) (W.runV (y := yJ0_isLatin1_aae02) (own := "java/lang/String") (C := "java/lang/String") (index := 492) (bytes := cJ0_isLatin1_aae02) (maxL := 1) (ret := (some .boolean)) (ws := zws0 yJ0_isLatin1_aae02 cJ0_isLatin1_aae02 1 (some .boolean)) (Ts := zTB) (b := ext i) (As := []) (rest := []) (n := 0) ⟨hx, hb, hml, hown, hts⟩ ((zm_isLatin1 hi : Met l _ _ (zrm 1 0 0) _ _ 0 0 _)) (cwV 0 hts (zgoodIn (fun w hw => by
    rcases List.mem_append.mp hw with h1 | h1
    · simp only [List.mem_cons, List.not_mem_nil, or_false] at h1
      rcases h1 with rfl | rfl | rfl | rfl
      · exact zTB_in zs_l_isLatin1 rfl
      · exact zTB_in zs_i_isLatin1 rfl
      · exact zTB_in zs_s_isLatin1 rfl
      · exact zTB_in zs_ini_14 rfl
    · exact zws0_in zs_code_isLatin1 w h1)) rfl rfl rfl (by decide +kernel) ⟨Nat.le_of_ble_eq_true rfl, Nat.le_of_ble_eq_true rfl⟩) ⟨SPc.blind, vk_recv hS.1 hi h3, SPc.pre hS h3⟩ rfl rfl hl.1 rfl (lv_room (Nat.le_of_ble_eq_true rfl)) zd_cJ0_charAt_5068e_1 ⟨Nat.zero_le _, Nat.zero_le _⟩) ?_
  refine lv_if_eq hx hb zd_cJ0_charAt_5068e_4 (tgt := 16) rfl (fun h => absurd h (by decide)) (fun _ => ?_)
  refine lv_aload_n hx hb zd_cJ0_charAt_5068e_7 rfl (lv_at hl 0 rfl) ?_
  refine vk_getf hx hb (hS.1.1 i hi).2.2.1 h3 hown (hts _ (zTB_in zs_f_val rfl)) (fun _ h => h) zd_cJ0_charAt_5068e_8 ?_
  refine lv_iload_n hx hb zd_cJ0_charAt_5068e_11 rfl (lv_at hl 1 rfl) ?_
  refine W.callR (r := Int32.ofInt ((zstr i).getD k 0)) (W.runS (y := yJ1_charAt_3b067) (own := "java/lang/String") (index := 495) (bytes := cJ1_charAt_3b067) (maxL := 2) (ret := (some .char)) (ws := zws0 yJ1_charAt_3b067 cJ1_charAt_3b067 2 (some .char)) (Ts := zTB) (As := [.ref (adV i), .int (Int32.ofNat k)]) (rest := []) (n := 2) ⟨hx, hb, hml, hown, hts⟩ (zm_lCharAt hi hk) (va_cwS 2 hts (zgoodIn (fun w hw => by
    rcases List.mem_append.mp hw with h1 | h1
    · simp only [List.mem_cons, List.not_mem_nil, or_false] at h1
      rcases h1 with rfl | rfl | rfl
      · exact zTB_in zs_l_lCharAt rfl
      · exact zTB_in zs_t_lCharAt rfl
      · exact zTB_in zs_ini_15 rfl
    · exact zws0_in zs_code_lCharAt w h1)) rfl rfl rfl (by decide +kernel) ⟨Nat.le_of_ble_eq_true rfl, Nat.le_of_ble_eq_true rfl⟩) ⟨SPc.blind, SPc.pre hS h3⟩ rfl rfl hl.1 rfl (lv_room (by first | exact Nat.le_of_ble_eq_true rfl | (cases rv <;> exact Nat.le_of_ble_eq_true rfl))) zd_cJ0_charAt_5068e_12 ⟨Nat.zero_le _, Nat.zero_le _⟩) ?_
  exact W.zret hx hb hr (by rw [zs_narc hb4]) (fun t ht _ => ⟨rfl, ht⟩) (fun q hq => by cases hq) zd_cJ0_charAt_5068e_15
theorem zm_length {i : Nat} (hi : i < 6) : Met l yJ0_length_8abf5 (zws0 yJ0_length_8abf5 cJ0_length_8abf5 1 (some .int)) (zrm 2 0 0) (SPc B ext adV [.ref (ext i)]) (QcRead (Int32.ofNat (zstr i).length)) 0 0 (fun _ => False) := by
  refine va_MetF (cc := cJ0_length_8abf5) (maxL := 1) (ret := (some .int)) (by decide +kernel) rfl ?_
  intro p e s m args below meth c s₁ Bd hml hv
  obtain ⟨rfl, hS⟩ := hv
  have hx := Bd.exec
  have hb := Bd.bytes
  have hr := Bd.returns
  have hlocks := Bd.notSynchronized
  have hts : ∀ w ∈ zTB, w.before _ s = true := fun w hw => atoms_spec (ws := zws0 yJ0_length_8abf5 cJ0_length_8abf5 1 (some .int)) Bd.pre w (List.mem_cons_of_mem _ hw)
  have hown : s.vm.findClass "java/lang/String" = some m.cls := findClass_of_methodNamed Bd.named
  have h3 : va_S (zAr B) s.heap s.heap [] := va_S.rf
  have hl := lv_entry ([.ref (ext i)]) (n := 1) (Nat.le_of_ble_eq_true rfl)
  rw [lg_entry_eq]
  generalize (lg_sl ([.ref (ext i)]) ++ List.replicate (1 - (lg_sl ([.ref (ext i)])).length) Slot.unset).toArray = ls at hl ⊢
  obtain ⟨z1, z2, z3, z4⟩ := zs_all i hi
  have hl : lv_has ls 1 [(0, .ref (ext i))] := hl
  have hT := (hS.1.1 i hi).2.2.2
  rw [z1] at hT
  refine lv_aload_n hx hb zd_cJ0_length_8abf5_0 rfl (lv_at hl 0 rfl) ?_
  refine vk_getf hx hb (hS.1.1 i hi).2.2.1 h3 hown (hts _ (zTB_in zs_f_val rfl)) (fun _ h => h) zd_cJ0_length_8abf5_1 ?_
  refine va_tlen hx hb hT h3 rfl zd_cJ0_length_8abf5_4 ?_
  refine lv_aload_n hx hb zd_cJ0_length_8abf5_5 rfl (lv_at hl 0 rfl) ?_
  refine W.callR (r := 0) (W.runV (y := yJ0_coder_7d493) (own := "java/lang/String") (C := "java/lang/String") (index := 335) (bytes := cJ0_coder_7d493) (maxL := 1) (ret := (some .byte)) (ws := zws0 yJ0_coder_7d493 cJ0_coder_7d493 1 (some .byte)) (Ts := zTB) (b := ext i) (As := []) (rest := [.int (Int32.ofNat (zstr i).length)]) (n := 0) ⟨hx, hb, hml, hown, hts⟩ ((zm_coder hi : Met l _ _ (zrm 1 0 0) _ _ 0 0 _)) (cwV 0 hts (zgoodIn (fun w hw => by
    rcases List.mem_append.mp hw with h1 | h1
    · simp only [List.mem_cons, List.not_mem_nil, or_false] at h1
      rcases h1 with rfl | rfl | rfl | rfl
      · exact zTB_in zs_l_coder rfl
      · exact zTB_in zs_i_coder rfl
      · exact zTB_in zs_s_coder rfl
      · exact zTB_in zs_ini_14 rfl
    · exact zws0_in zs_code_coder w h1)) rfl rfl rfl (by decide +kernel) ⟨Nat.le_of_ble_eq_true rfl, Nat.le_of_ble_eq_true rfl⟩) ⟨SPc.blind, vk_recv hS.1 hi h3, SPc.pre hS h3⟩ rfl rfl hl.1 rfl (lv_room (Nat.le_of_ble_eq_true rfl)) zd_cJ0_length_8abf5_6 ⟨Nat.zero_le _, Nat.zero_le _⟩) ?_
  refine lv_ishr hx hb zd_cJ0_length_8abf5_9 ?_
  have e0 : Int32.ofNat (zstr i).length >>> ((0 : Int32) &&& 31) = Int32.ofNat (zstr i).length := zs_shr0 _
  rw [e0]
  exact W.iret hx hb hr (fun t ht _ => ⟨rfl, ht⟩) (fun q hq => by cases hq) zd_cJ0_length_8abf5_10
end ZSTR
