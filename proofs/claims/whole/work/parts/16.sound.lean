/-! One instruction of the small machine, held against the machine's -/
theorem zelem2 {x : Nat × Nat} {l : List (Nat × Nat)} (h : l.elem x = true) : x ∈ l := List.elem_iff.mp h
theorem zelem3 {x : Nat × Nat × Nat} {l : List (Nat × Nat × Nat)} (h : l.elem x = true) : x ∈ l := List.elem_iff.mp h
theorem zelemI {x : Nat × Int} {l : List (Nat × Int)} (h : l.elem x = true) : x ∈ l := List.elem_iff.mp h
theorem zelem1 {x : Nat} {l : List Nat} (h : l.elem x = true) : x ∈ l := List.elem_iff.mp h
section ZSND
variable {p : Program} {l : Launch} {e : Env} {R : Room} {s : State} {m : MethodId} {args : Array Value} {below : List Frame} {meth : Method} {c : Code} {Q : State → Prop}
variable {B : Nat} {ext adV : Nat → Nat} {D : va_G} {sc : Nat × (Nat → Int32)} {N0 S0 nL o pc : Nat} {cc : ByteArray} {L st : List ZV} {h : ZH}
theorem zw_strlen (C : ZC p s m args c o cc nL) (hX : ZXt B ext adV sc s s.heap) {n d k : Nat} (hl : (n, 1001) ∈ zSL o) (hk : zX ≤ k ∧ k < zX + 6) (hR : d + 1 ≤ R.frames ∧ 60 * (d + 1) ≤ R.locals) (hroom : h.1.1.1 ≤ N0 + R.cells ∧ h.1.1.2 ≤ S0 + R.slots) (hd4 : 4 ≤ d) (hw : zwd st ≤ 8) (hd : decode cc pc = .ok (.invokevirtual n, 3)) (kk : ZW p l e R s m args below meth c Q B ext D sc N0 S0 nL (pc + 3) L (zi ((zstr (k - zX)).length : Int) :: st) h) : ZW p l e R s m args below meth c Q B ext D sc N0 S0 nL pc L (zr (some k) :: st) h := by
  intro ca H locs cells slots ls a1 a2 a3 a4 a5 a6 a7
  have K := kk ca H locs cells slots ls a1 a2 a3 a4 a5 a6 a7
  have e0 : zcv B ext (zr (some k)) = .ref (ext (k - zX)) := by
    show Value.ref (zad B ext k) = _
    unfold zad; rw [if_neg (by omega)]
  have hi : k - zX < 6 := by omega
  have hS := hX.2.2.2.2.2
  have e1 : zcv B ext (zi ((zstr (k - zX)).length : Int)) = .int (Int32.ofNat (zstr (k - zX)).length) := by
    show Value.int (Int32.ofInt _) = _
    rw [Int32.ofInt_eq_ofNat]
  rw [List.map_cons, e1] at K
  rw [List.map_cons, e0]
  have hl1 : Cond.methodLink (zRN o) n yJ0_length_8abf5 ∈ tables_1 := zSL_ok o (n, 1001) hl
  refine W.callR (r := Int32.ofNat (zstr (k - zX)).length) (W.runV (y := yJ0_length_8abf5) (own := zRN o) (C := "java/lang/String") (index := n) (bytes := cJ0_length_8abf5) (maxL := 1) (ret := some .int) (ws := zws0 yJ0_length_8abf5 cJ0_length_8abf5 1 (some .int)) (Ts := zTB) (b := ext (k - zX)) (As := []) (rest := st.map (zcv B ext)) (n := 0) ⟨C.1, C.2.1, C.2.2.1, C.2.2.2.1, C.2.2.2.2⟩ (zm_length hi) (cwV 0 C.2.2.2.2 (zgoodIn (fun w hw => by
    rcases List.mem_append.mp hw with h1 | h1
    · simp only [List.mem_cons, List.not_mem_nil, or_false] at h1
      rcases h1 with rfl | rfl | rfl | rfl
      · exact zTB_in hl1 rfl
      · exact zTB_in zs_i_length rfl
      · exact zTB_in zs_s_length rfl
      · exact zTB_in zs_ini_14 rfl
    · exact zws0_in zs_code_length w h1)) rfl rfl rfl (by decide +kernel) ⟨by show 2 + 1 ≤ R.frames; omega, by show 8 + (1 + 11) + 60 * 2 ≤ R.locals; omega⟩) ⟨SPc.blind, vk_recv hS.1 hi a3, SPc.pre hS a3⟩ rfl rfl a6.1 rfl (lv_room (by rw [zwd_eq]; exact hw)) hd ⟨by omega, by omega⟩) K
theorem zw_strchar (C : ZC p s m args c o cc nL) (hX : ZXt B ext adV sc s s.heap) {n d k : Nat} {i : Int} (hl : (n, 1002) ∈ zSL o) (hk : zX ≤ k ∧ k < zX + 6) (g0 : 0 ≤ i) (g1 : i < ((zstr (k - zX)).length : Int)) (hR : d + 1 ≤ R.frames ∧ 60 * (d + 1) ≤ R.locals) (hroom : h.1.1.1 ≤ N0 + R.cells ∧ h.1.1.2 ≤ S0 + R.slots) (hd4 : 4 ≤ d) (hw : zwd st ≤ 8) (hd : decode cc pc = .ok (.invokevirtual n, 3)) (kk : ZW p l e R s m args below meth c Q B ext D sc N0 S0 nL (pc + 3) L (zi ((zstr (k - zX)).getD i.toNat 0) :: st) h) : ZW p l e R s m args below meth c Q B ext D sc N0 S0 nL pc L (zi i :: zr (some k) :: st) h := by
  intro ca H locs cells slots ls a1 a2 a3 a4 a5 a6 a7
  have K := kk ca H locs cells slots ls a1 a2 a3 a4 a5 a6 a7
  have e0 : zcv B ext (zr (some k)) = .ref (ext (k - zX)) := by
    show Value.ref (zad B ext k) = _
    unfold zad; rw [if_neg (by omega)]
  have hi : k - zX < 6 := by omega
  have hS := hX.2.2.2.2.2
  have e1 : zcv B ext (zi i) = .int (Int32.ofNat i.toNat) := by
    show Value.int (Int32.ofInt i) = _
    rw [← Int32.ofInt_eq_ofNat, show ((i.toNat : Nat) : Int) = i by omega]
  rw [List.map_cons, List.map_cons, e0, e1]
  have hl1 : Cond.methodLink (zRN o) n yJ0_charAt_5068e ∈ tables_1 := zSL_ok o (n, 1002) hl
  refine W.callR (r := Int32.ofInt ((zstr (k - zX)).getD i.toNat 0)) (W.runV (y := yJ0_charAt_5068e) (own := zRN o) (C := "java/lang/String") (index := n) (bytes := cJ0_charAt_5068e) (maxL := 2) (ret := some .char) (ws := zws0 yJ0_charAt_5068e cJ0_charAt_5068e 2 (some .char)) (Ts := zTB) (b := ext (k - zX)) (As := [.int (Int32.ofNat i.toNat)]) (rest := st.map (zcv B ext)) (n := 1) ⟨C.1, C.2.1, C.2.2.1, C.2.2.2.1, C.2.2.2.2⟩ (zm_charAt hi (k := i.toNat) (by omega)) (cwV 1 C.2.2.2.2 (zgoodIn (fun w hw => by
    rcases List.mem_append.mp hw with h1 | h1
    · simp only [List.mem_cons, List.not_mem_nil, or_false] at h1
      rcases h1 with rfl | rfl | rfl | rfl
      · exact zTB_in hl1 rfl
      · exact zTB_in zs_i_charAt rfl
      · exact zTB_in zs_s_charAt rfl
      · exact zTB_in zs_ini_14 rfl
    · exact zws0_in zs_code_charAt w h1)) rfl rfl rfl (by decide +kernel) ⟨by show 4 + 1 ≤ R.frames; omega, by show 8 + (2 + 11) + 60 * 4 ≤ R.locals; omega⟩) ⟨SPc.blind, vk_recv hS.1 hi a3, SPc.pre hS a3⟩ rfl rfl a6.1 rfl (lv_room (by rw [zwd_eq]; exact hw)) hd ⟨by omega, by omega⟩) K
theorem zw_no (hn : ZSc sc h → False) : ZW p l e R s m args below meth c Q B ext D sc N0 S0 nL pc L st h := fun ca H locs cells slots ls a1 _ _ _ _ _ _ => (hn a1.2.2).elim
theorem zal_next (C : ZC p s m args c o cc nL) (hX : ZXt B ext adV sc s s.heap) (hB : s.heap.size = B + N0) {ini : Bool} (hnm : ini = true → meth.name = "<init>") {rc d : Nat} {i : Instr} {q a b cl : Nat} {v : Int} (hck : zck o ini rc cc pc (i, q, a, b, cl, v) = true) (hR : d + 1 ≤ R.frames ∧ 60 * (d + 1) ≤ R.locals) {st1 : List ZV} (hx : zal i st v a b = some st1) (k : ZW p l e R s m args below meth c Q B ext D sc N0 S0 nL q L st1 h) : ZW p l e R s m args below meth c Q B ext D sc N0 S0 nL pc L st h := by
  cases i with
  | iconst n =>
    obtain ⟨hd, hI⟩ := zck_dec hck rfl
    simp only [zckI, beq_iff_eq] at hI
    subst hI
    simp only [zal] at hx
    cases hx
    exact zw_iconst C hd k
  | bipush n =>
    obtain ⟨hd, hI⟩ := zck_dec hck rfl
    simp only [zckI, Bool.and_eq_true, beq_iff_eq, decide_eq_true_eq] at hI
    obtain ⟨rfl, h2⟩ := hI
    simp only [zal] at hx
    cases hx
    exact zw_bipush C h2 hd k
  | sipush n =>
    obtain ⟨hd, hI⟩ := zck_dec hck rfl
    simp only [zckI, Bool.and_eq_true, beq_iff_eq, decide_eq_true_eq] at hI
    obtain ⟨rfl, h2⟩ := hI
    simp only [zal] at hx
    cases hx
    exact zw_sipush C h2 hd k
  | lconst n =>
    obtain ⟨hd, hI⟩ := zck_dec hck rfl
    simp only [zckI, Bool.and_eq_true, beq_iff_eq, decide_eq_true_eq] at hI
    obtain ⟨rfl, h2⟩ := hI
    simp only [zal] at hx
    cases hx
    exact zw_lconst C h2 hd k
  | ldc n =>
    obtain ⟨hd, hI⟩ := zck_dec hck rfl
    simp only [zckI, Bool.and_eq_true, beq_iff_eq] at hI
    obtain ⟨rfl, h2⟩ := hI
    simp only [zal] at hx
    by_cases hb : b = 0
    · rw [if_pos hb] at h2 hx
      cases hx
      exact zw_ldc C (zCI_ok o _ (zelemI h2)) hd k
    · rw [if_neg hb] at h2 hx
      cases hx
      simp only [Bool.and_eq_true, decide_eq_true_eq] at h2
      exact zw_ldcs (tx := zTx (a - zX)) C h2.2 (hX.1 o (n, a - zX) (zelem2 h2.1)) hd k
  | ldc_w n =>
    obtain ⟨hd, hI⟩ := zck_dec hck rfl
    simp only [zckI, Bool.and_eq_true, beq_iff_eq] at hI
    obtain ⟨rfl, h2⟩ := hI
    simp only [zal] at hx
    cases hx
    exact zw_ldcw C (zCI_ok o _ (zelemI h2)) hd k
  | ldc2_w n =>
    obtain ⟨hd, hI⟩ := zck_dec hck rfl
    simp only [zckI, Bool.and_eq_true, beq_iff_eq] at hI
    obtain ⟨rfl, h2⟩ := hI
    simp only [zal] at hx
    cases hx
    exact zw_ldc2 C (zCJ_ok o _ (zelemI h2)) hd k
  | aconst_null =>
    obtain ⟨hd, hI⟩ := zck_dec hck rfl
    simp only [zckI, beq_iff_eq] at hI
    subst hI
    simp only [zal] at hx
    cases hx
    exact zw_null C hd k
  | iadd =>
    obtain ⟨hd, hI⟩ := zck_dec hck rfl
    simp only [zckI, beq_iff_eq] at hI
    subst hI
    simp only [zal] at hx
    split at hx
    · cases hx
      exact zw_iadd C hd k
    · cases hx
  | isub =>
    obtain ⟨hd, hI⟩ := zck_dec hck rfl
    simp only [zckI, beq_iff_eq] at hI
    subst hI
    simp only [zal] at hx
    split at hx
    · cases hx
      exact zw_isub C hd k
    · cases hx
  | imul =>
    obtain ⟨hd, hI⟩ := zck_dec hck rfl
    simp only [zckI, beq_iff_eq] at hI
    subst hI
    simp only [zal] at hx
    split at hx
    · cases hx
      exact zw_imul C hd k
    · cases hx
  | iand =>
    obtain ⟨hd, hI⟩ := zck_dec hck rfl
    simp only [zckI, beq_iff_eq] at hI
    subst hI
    simp only [zal] at hx
    split at hx
    · cases hx
      exact zw_iand C hd k
    · cases hx
  | ior =>
    obtain ⟨hd, hI⟩ := zck_dec hck rfl
    simp only [zckI, beq_iff_eq] at hI
    subst hI
    simp only [zal] at hx
    split at hx
    · cases hx
      exact zw_ior C hd k
    · cases hx
  | ixor =>
    obtain ⟨hd, hI⟩ := zck_dec hck rfl
    simp only [zckI, beq_iff_eq] at hI
    subst hI
    simp only [zal] at hx
    split at hx
    · cases hx
      exact zw_ixor C hd k
    · cases hx
  | ishl =>
    obtain ⟨hd, hI⟩ := zck_dec hck rfl
    simp only [zckI, beq_iff_eq] at hI
    subst hI
    simp only [zal] at hx
    split at hx
    · cases hx
      exact zw_ishl C hd k
    · cases hx
  | ishr =>
    obtain ⟨hd, hI⟩ := zck_dec hck rfl
    simp only [zckI, beq_iff_eq] at hI
    subst hI
    simp only [zal] at hx
    split at hx
    · cases hx
      exact zw_ishr C hd k
    · cases hx
  | iushr =>
    obtain ⟨hd, hI⟩ := zck_dec hck rfl
    simp only [zckI, beq_iff_eq] at hI
    subst hI
    simp only [zal] at hx
    split at hx
    · cases hx
      exact zw_iushr C hd k
    · cases hx
  | ladd =>
    obtain ⟨hd, hI⟩ := zck_dec hck rfl
    simp only [zckI, beq_iff_eq] at hI
    subst hI
    simp only [zal] at hx
    split at hx
    · cases hx
      exact zw_ladd C hd k
    · cases hx
  | lsub =>
    obtain ⟨hd, hI⟩ := zck_dec hck rfl
    simp only [zckI, beq_iff_eq] at hI
    subst hI
    simp only [zal] at hx
    split at hx
    · cases hx
      exact zw_lsub C hd k
    · cases hx
  | lmul =>
    obtain ⟨hd, hI⟩ := zck_dec hck rfl
    simp only [zckI, beq_iff_eq] at hI
    subst hI
    simp only [zal] at hx
    split at hx
    · cases hx
      exact zw_lmul C hd k
    · cases hx
  | land =>
    obtain ⟨hd, hI⟩ := zck_dec hck rfl
    simp only [zckI, beq_iff_eq] at hI
    subst hI
    simp only [zal] at hx
    split at hx
    · cases hx
      exact zw_land C hd k
    · cases hx
  | lor =>
    obtain ⟨hd, hI⟩ := zck_dec hck rfl
    simp only [zckI, beq_iff_eq] at hI
    subst hI
    simp only [zal] at hx
    split at hx
    · cases hx
      exact zw_lor C hd k
    · cases hx
  | lshl =>
    obtain ⟨hd, hI⟩ := zck_dec hck rfl
    simp only [zckI, beq_iff_eq] at hI
    subst hI
    simp only [zal] at hx
    split at hx
    · cases hx
      exact zw_lshl C hd k
    · cases hx
  | lcmp =>
    obtain ⟨hd, hI⟩ := zck_dec hck rfl
    simp only [zckI, beq_iff_eq] at hI
    subst hI
    simp only [zal] at hx
    split at hx
    · cases hx
      exact zw_lcmp C hd k
    · cases hx
  | i2l =>
    obtain ⟨hd, hI⟩ := zck_dec hck rfl
    simp only [zckI, beq_iff_eq] at hI
    subst hI
    simp only [zal] at hx
    split at hx
    · cases hx
      exact zw_i2l C hd k
    · cases hx
  | l2i =>
    obtain ⟨hd, hI⟩ := zck_dec hck rfl
    simp only [zckI, beq_iff_eq] at hI
    subst hI
    simp only [zal] at hx
    split at hx
    · cases hx
      exact zw_l2i C hd k
    · cases hx
  | i2b =>
    obtain ⟨hd, hI⟩ := zck_dec hck rfl
    simp only [zckI, beq_iff_eq] at hI
    subst hI
    simp only [zal] at hx
    split at hx
    · cases hx
      exact zw_i2b C hd k
    · cases hx
  | idiv =>
    obtain ⟨hd, hI⟩ := zck_dec hck rfl
    simp only [zckI, beq_iff_eq] at hI
    subst hI
    simp only [zal] at hx
    split at hx
    · split at hx
      · cases hx
      · rename_i hy
        cases hx
        exact zw_idiv C hy hd k
    · cases hx
  | irem =>
    obtain ⟨hd, hI⟩ := zck_dec hck rfl
    simp only [zckI, beq_iff_eq] at hI
    subst hI
    simp only [zal] at hx
    split at hx
    · split at hx
      · cases hx
      · rename_i hy
        cases hx
        exact zw_irem C hy hd k
    · cases hx
  | ldiv =>
    obtain ⟨hd, hI⟩ := zck_dec hck rfl
    simp only [zckI, beq_iff_eq] at hI
    subst hI
    simp only [zal] at hx
    split at hx
    · split at hx
      · cases hx
      · rename_i hy
        cases hx
        exact zw_ldiv C hy hd k
    · cases hx
  | lrem =>
    obtain ⟨hd, hI⟩ := zck_dec hck rfl
    simp only [zckI, beq_iff_eq] at hI
    subst hI
    simp only [zal] at hx
    split at hx
    · split at hx
      · cases hx
      · rename_i hy
        cases hx
        exact zw_lrem C hy hd k
    · cases hx
  | dup =>
    obtain ⟨hd, hI⟩ := zck_dec hck rfl
    simp only [zckI, beq_iff_eq] at hI
    subst hI
    simp only [zal] at hx
    split at hx
    · cases hx
      exact zw_dupi C hd k
    · cases hx
      exact zw_dupr C hd k
    · cases hx
  | dup2 =>
    obtain ⟨hd, hI⟩ := zck_dec hck rfl
    simp only [zckI, beq_iff_eq] at hI
    subst hI
    simp only [zal] at hx
    split at hx
    · cases hx
      exact zw_dup2 C hd k
    · cases hx
  | pop =>
    obtain ⟨hd, hI⟩ := zck_dec hck rfl
    simp only [zckI, beq_iff_eq] at hI
    subst hI
    simp only [zal] at hx
    split at hx
    · cases hx
      exact zw_popi C hd k
    · cases hx
      exact zw_popr C hd k
    · cases hx
  | _ => simp [zal] at hx
theorem zx_next (C : ZC p s m args c o cc nL) (hX : ZXt B ext adV sc s s.heap) (hB : s.heap.size = B + N0) {ini : Bool} (hnm : ini = true → meth.name = "<init>") {rc d : Nat} {i : Instr} {q a b cl : Nat} {v : Int} (hck : zck o ini rc cc pc (i, q, a, b, cl, v) = true) (hR : d + 1 ≤ R.frames ∧ 60 * (d + 1) ≤ R.locals) {q1 : Nat} {L1 st1 : List ZV} {h1 : ZH} (hx : zx d (i, q, a, b, cl, v) pc L st h = some (.inl (q1, L1, st1, h1))) (hr0 : h.1.1.1 ≤ N0 + R.cells ∧ h.1.1.2 ≤ S0 + R.slots) (hr1 : h1.1.1.1 ≤ N0 + R.cells ∧ h1.1.1.2 ≤ S0 + R.slots) (k : ZW p l e R s m args below meth c Q B ext D sc N0 S0 nL q1 L1 st1 h1) : ZW p l e R s m args below meth c Q B ext D sc N0 S0 nL pc L st h := by
  have hR1 : 1 ≤ R.frames ∧ 60 ≤ R.locals := ⟨by omega, by omega⟩
  cases i with
  | iload n =>
    obtain ⟨hd, hI⟩ := zck_dec hck rfl
    simp only [zckI, Bool.and_eq_true, beq_iff_eq] at hI
    obtain ⟨rfl, rfl⟩ := hI
    simp only [zx, zgo] at hx
    split at hx
    · rename_i x hg
      cases hx
      exact zw_iload C hg hd k
    · cases hx
  | iload_n n =>
    obtain ⟨hd, hI⟩ := zck_dec hck rfl
    simp only [zckI, Bool.and_eq_true, beq_iff_eq] at hI
    obtain ⟨ha, rfl⟩ := hI
    simp only [zx, zgo] at hx
    split at hx
    · rename_i x hg
      cases hx
      exact zw_iload_n C ha hg hd k
    · cases hx
  | lload n =>
    obtain ⟨hd, hI⟩ := zck_dec hck rfl
    simp only [zckI, Bool.and_eq_true, beq_iff_eq] at hI
    obtain ⟨rfl, rfl⟩ := hI
    simp only [zx, zgo] at hx
    split at hx
    · rename_i x hg
      cases hx
      exact zw_lload C hg hd k
    · cases hx
  | lload_n n =>
    obtain ⟨hd, hI⟩ := zck_dec hck rfl
    simp only [zckI, Bool.and_eq_true, beq_iff_eq] at hI
    obtain ⟨ha, rfl⟩ := hI
    simp only [zx, zgo] at hx
    split at hx
    · rename_i x hg
      cases hx
      exact zw_lload_n C ha hg hd k
    · cases hx
  | aload n =>
    obtain ⟨hd, hI⟩ := zck_dec hck rfl
    simp only [zckI, Bool.and_eq_true, beq_iff_eq] at hI
    obtain ⟨rfl, rfl⟩ := hI
    simp only [zx, zgo] at hx
    split at hx
    · rename_i x hg
      cases hx
      exact zw_aload C hg hd k
    · cases hx
  | aload_n n =>
    obtain ⟨hd, hI⟩ := zck_dec hck rfl
    simp only [zckI, Bool.and_eq_true, beq_iff_eq] at hI
    obtain ⟨ha, rfl⟩ := hI
    simp only [zx, zgo] at hx
    split at hx
    · rename_i x hg
      cases hx
      exact zw_aload_n C ha hg hd k
    · cases hx
  | istore n =>
    obtain ⟨hd, hI⟩ := zck_dec hck rfl
    simp only [zckI, Bool.and_eq_true, beq_iff_eq] at hI
    obtain ⟨rfl, rfl⟩ := hI
    simp only [zx, zgo] at hx
    split at hx
    · split at hx
      · rename_i ha
        cases hx
        exact zw_istore C ha hd k
      · cases hx
    · cases hx
  | istore_n n =>
    obtain ⟨hd, hI⟩ := zck_dec hck rfl
    simp only [zckI, Bool.and_eq_true, beq_iff_eq] at hI
    obtain ⟨hk, rfl⟩ := hI
    simp only [zx, zgo] at hx
    split at hx
    · split at hx
      · rename_i ha
        cases hx
        exact zw_istore_n C hk ha hd k
      · cases hx
    · cases hx
  | lstore n =>
    obtain ⟨hd, hI⟩ := zck_dec hck rfl
    simp only [zckI, Bool.and_eq_true, beq_iff_eq] at hI
    obtain ⟨rfl, rfl⟩ := hI
    simp only [zx, zgo] at hx
    split at hx
    · split at hx
      · rename_i ha
        cases hx
        exact zw_lstore C ha hd k
      · cases hx
    · cases hx
  | lstore_n n =>
    obtain ⟨hd, hI⟩ := zck_dec hck rfl
    simp only [zckI, Bool.and_eq_true, beq_iff_eq] at hI
    obtain ⟨hk, rfl⟩ := hI
    simp only [zx, zgo] at hx
    split at hx
    · split at hx
      · rename_i ha
        cases hx
        exact zw_lstore_n C hk ha hd k
      · cases hx
    · cases hx
  | astore n =>
    obtain ⟨hd, hI⟩ := zck_dec hck rfl
    simp only [zckI, Bool.and_eq_true, beq_iff_eq] at hI
    obtain ⟨rfl, rfl⟩ := hI
    simp only [zx, zgo] at hx
    split at hx
    · split at hx
      · rename_i ha
        cases hx
        exact zw_astore C ha hd k
      · cases hx
    · cases hx
  | astore_n n =>
    obtain ⟨hd, hI⟩ := zck_dec hck rfl
    simp only [zckI, Bool.and_eq_true, beq_iff_eq] at hI
    obtain ⟨hk, rfl⟩ := hI
    simp only [zx, zgo] at hx
    split at hx
    · split at hx
      · rename_i ha
        cases hx
        exact zw_astore_n C hk ha hd k
      · cases hx
    · cases hx
  | iinc n w =>
    obtain ⟨hd, hI⟩ := zck_dec hck rfl
    simp only [zckI, Bool.and_eq_true, beq_iff_eq] at hI
    obtain ⟨rfl, rfl⟩ := hI
    simp only [zx, zgo] at hx
    split at hx
    · rename_i x hg
      cases hx
      exact zw_iinc C hg hd k
    · cases hx
  | goto off =>
    obtain ⟨hd, hI⟩ := zck_dec hck rfl
    simp only [zckI, decide_eq_true_eq] at hI
    simp only [zx, zgo] at hx
    cases hx
    exact zw_goto C hI hd k
  | ifCond cm off =>
    obtain ⟨hd, hI⟩ := zck_dec hck rfl
    simp only [zckI, Bool.and_eq_true, beq_iff_eq, decide_eq_true_eq] at hI
    obtain ⟨hq, rfl⟩ := hI
    simp only [zx, zgo] at hx
    split at hx
    · unfold z_if at hx
      simp only [zgo] at hx
      split at hx
      · rename_i hc
        cases hx
        cases cm with
        | eq => exact zw_if_eq C hq hd (fun _ => k) (fun hn => absurd hc hn)
        | ne => exact zw_if_ne C hq hd (fun _ => k) (fun hn => absurd hc hn)
        | lt => exact zw_if_lt C hq hd (fun _ => k) (fun hn => absurd hc hn)
        | ge => exact zw_if_ge C hq hd (fun _ => k) (fun hn => absurd hc hn)
        | gt => exact zw_if_gt C hq hd (fun _ => k) (fun hn => absurd hc hn)
        | le => exact zw_if_le C hq hd (fun _ => k) (fun hn => absurd hc hn)
      · rename_i hc
        cases hx
        cases cm with
        | eq => exact zw_if_eq C hq hd (fun hn => absurd hn hc) (fun _ => k)
        | ne => exact zw_if_ne C hq hd (fun hn => absurd hn hc) (fun _ => k)
        | lt => exact zw_if_lt C hq hd (fun hn => absurd hn hc) (fun _ => k)
        | ge => exact zw_if_ge C hq hd (fun hn => absurd hn hc) (fun _ => k)
        | gt => exact zw_if_gt C hq hd (fun hn => absurd hn hc) (fun _ => k)
        | le => exact zw_if_le C hq hd (fun hn => absurd hn hc) (fun _ => k)
    · cases hx
  | if_icmp cm off =>
    obtain ⟨hd, hI⟩ := zck_dec hck rfl
    simp only [zckI, Bool.and_eq_true, beq_iff_eq, decide_eq_true_eq] at hI
    obtain ⟨hq, rfl⟩ := hI
    simp only [zx, zgo] at hx
    split at hx
    · unfold z_if at hx
      simp only [zgo] at hx
      split at hx
      · rename_i hc
        cases hx
        cases cm with
        | eq => exact zw_icmp_eq C hq hd (fun _ => k) (fun hn => absurd hc hn)
        | ne => exact zw_icmp_ne C hq hd (fun _ => k) (fun hn => absurd hc hn)
        | lt => exact zw_icmp_lt C hq hd (fun _ => k) (fun hn => absurd hc hn)
        | ge => exact zw_icmp_ge C hq hd (fun _ => k) (fun hn => absurd hc hn)
        | gt => exact zw_icmp_gt C hq hd (fun _ => k) (fun hn => absurd hc hn)
        | le => exact zw_icmp_le C hq hd (fun _ => k) (fun hn => absurd hc hn)
      · rename_i hc
        cases hx
        cases cm with
        | eq => exact zw_icmp_eq C hq hd (fun hn => absurd hn hc) (fun _ => k)
        | ne => exact zw_icmp_ne C hq hd (fun hn => absurd hn hc) (fun _ => k)
        | lt => exact zw_icmp_lt C hq hd (fun hn => absurd hn hc) (fun _ => k)
        | ge => exact zw_icmp_ge C hq hd (fun hn => absurd hn hc) (fun _ => k)
        | gt => exact zw_icmp_gt C hq hd (fun hn => absurd hn hc) (fun _ => k)
        | le => exact zw_icmp_le C hq hd (fun hn => absurd hn hc) (fun _ => k)
    · cases hx
  | ifnull off =>
    obtain ⟨hd, hI⟩ := zck_dec hck rfl
    simp only [zckI, Bool.and_eq_true, beq_iff_eq, decide_eq_true_eq] at hI
    obtain ⟨hq, rfl⟩ := hI
    simp only [zx, zgo] at hx
    split at hx
    · unfold z_if at hx
      simp only [zgo] at hx
      split at hx
      · rename_i hc
        cases hx
        exact zw_ifnull C hq hd (fun _ => k) (fun hn => absurd hc hn)
      · rename_i hc
        cases hx
        exact zw_ifnull C hq hd (fun hn => absurd hn hc) (fun _ => k)
    · cases hx
  | ifnonnull off =>
    obtain ⟨hd, hI⟩ := zck_dec hck rfl
    simp only [zckI, Bool.and_eq_true, beq_iff_eq, decide_eq_true_eq] at hI
    obtain ⟨hq, rfl⟩ := hI
    simp only [zx, zgo] at hx
    split at hx
    · unfold z_if at hx
      simp only [zgo] at hx
      split at hx
      · rename_i hc
        cases hx
        exact zw_ifnonnull C hq hd (fun _ => k) (fun hn => absurd hc hn)
      · rename_i hc
        cases hx
        exact zw_ifnonnull C hq hd (fun hn => absurd hn hc) (fun _ => k)
    · cases hx
  | tableswitch dd lo hi offs =>
    obtain ⟨ln, hd, hI⟩ := zck_any hck
    simp only [zckI, Bool.and_eq_true, decide_eq_true_eq] at hI
    obtain ⟨h0, h2⟩ := hI
    simp only [zx, zgo] at hx
    split at hx
    · split at hx
      · rename_i hc
        cases hx
        exact zw_tsOut C hc h0 hd k
      · rename_i hc
        split at hx
        · rename_i off ho
          cases hx
          have hm := List.all_eq_true.mp h2 off (List.mem_of_getElem? ho)
          exact zw_tsIn C hc ho (of_decide_eq_true hm) hd k
        · cases hx
    · cases hx
  | lookupswitch dd ps =>
    obtain ⟨ln, hd, hI⟩ := zck_any hck
    simp only [zckI, Bool.and_eq_true, decide_eq_true_eq] at hI
    obtain ⟨⟨h0, h2⟩, h3⟩ := hI
    simp only [zx, zgo] at hx
    split at hx
    · cases hx
      refine zw_lookup C h0 ?_ hd k
      have g : ∀ (t : List (Int × Int)) (y : Int), t.all (fun f => decide (0 ≤ (pc : Int) + f.2)) = true → 0 ≤ (pc : Int) + Op.lookupswitch.offset t dd y := by
        intro t y
        induction t with
        | nil => intro _; simpa [Op.lookupswitch.offset] using h2
        | cons u t ih =>
          intro ht
          simp only [List.all_cons, Bool.and_eq_true, decide_eq_true_eq] at ht
          rw [Op.lookupswitch.offset_cons]
          split
          · exact ht.1
          · exact ih ht.2
      exact g ps.toList _ h3
    · cases hx
  | getfield n =>
    obtain ⟨hd, hI⟩ := zck_dec hck rfl
    simp only [zckI, Bool.and_eq_true, beq_iff_eq, decide_eq_true_eq] at hI
    obtain ⟨⟨rfl, hc, ha, hb⟩, hf⟩ := hI
    have hl := zFL_ok o _ (zelem3 hf)
    simp only [zx, z_get, zgo] at hx
    split at hx
    · split at hx
      · rename_i kk hkc
        split at hx
        · rename_i h1b
          cases hx
          refine zw_get C hkc.1 hkc.2 hc ha hl ?_ hd k
          unfold zfv
          rw [if_pos (hb.trans h1b)]
          rfl
        · rename_i h1b
          split at hx
          · rename_i h2b
            cases hx
            refine zw_get C hkc.1 hkc.2 hc ha hl ?_ hd k
            unfold zfv
            rw [if_neg (by omega), if_pos (hb.trans h2b)]
            rfl
          · rename_i h2b
            cases hx
            refine zw_get C hkc.1 hkc.2 hc ha hl ?_ hd k
            unfold zfv
            rw [if_neg (by omega), if_neg (by omega)]
            rfl
      · cases hx
    · cases hx
  | putfield n =>
    obtain ⟨hd, hI⟩ := zck_dec hck rfl
    simp only [zckI, Bool.and_eq_true, beq_iff_eq, decide_eq_true_eq, Bool.or_eq_true, Bool.not_eq_true'] at hI
    obtain ⟨⟨⟨rfl, hc, ha, hb⟩, hf⟩, hfin0⟩ := hI
    have hl := zFL_ok o _ (zelem3 hf)
    have hfin : (zTX cl a).2.2.2 = false ∨ (meth.name = "<init>" ∧ zRX cl = zRN o) := by
      rcases hfin0 with h0 | ⟨h0, h2⟩
      · exact Or.inl h0
      · refine Or.inr ⟨hnm h0, ?_⟩
        rw [← h2]
        exact zcases (P := fun c => zRX c = zRN c) hc rfl rfl rfl rfl rfl rfl rfl rfl rfl rfl rfl rfl
    simp only [zx, z_put, zgo] at hx
    split at hx
    · split at hx
      · rename_i hkc
        cases hx
        exact zw_putI C hkc.1.1 hkc.1.2 hc ha hb hkc.2 hl hfin hd k
      · cases hx
    · split at hx
      · rename_i hkc
        cases hx
        exact zw_putL C hkc.1.1 hkc.1.2 hc ha (hb.trans hkc.2) hl hfin hd k
      · cases hx
    · split at hx
      · rename_i hkc
        cases hx
        exact zw_putR C hkc.1.1 hkc.1.2 hc ha (hb.trans hkc.2) hl hfin hd k
      · cases hx
    · cases hx
  | iaload =>
    obtain ⟨hd, hI⟩ := zck_dec hck rfl
    simp only [zckI, beq_iff_eq] at hI
    subst hI
    simp only [zx] at hx
    unfold z_ald at hx
    split at hx
    · split at hx
      · rename_i ii kk st2 hk
        obtain ⟨⟨hk1, hk2⟩, hk3, hk4, hk5⟩ := hk
        simp only [zgo, if_neg (show ¬ (100 : Nat) = 103 by omega), if_neg (show ¬ (110 : Nat) ≤ 100 by omega)] at hx
        cases hx
        rcases hk1 with hk1 | hk1
        · exact zw_iald C hk1 hk2 hk3 hk4 hk5 hd k
        · subst hk1
          have hxx := hX.2.2.2.2.1
          exact zw_sld C hxx.1 (by have := hxx.2; omega) hxx.2 hk2 hk3 hk4 hk5 hd k
      · cases hx
    · cases hx
  | baload =>
    obtain ⟨hd, hI⟩ := zck_dec hck rfl
    simp only [zckI, beq_iff_eq] at hI
    subst hI
    simp only [zx] at hx
    by_cases ha : a = 0
    · rw [if_pos ha] at hx
      unfold z_ald at hx
      split at hx
      · split at hx
        · rename_i ii kk st2 hk
          obtain ⟨⟨hk1, hk2⟩, hk3, hk4, hk5⟩ := hk
          simp only [zgo, if_neg (show ¬ (101 : Nat) = 103 by omega), if_neg (show ¬ (110 : Nat) ≤ 101 by omega)] at hx
          cases hx
          rcases hk1 with hk1 | hk1
          · exact zw_bald C hk1 hk2 hk3 hk4 hk5 hd k
          · subst hk1
            exact zw_no (fun hs => by have := hs.1; rw [this] at hk2; cases hk2)
        · cases hx
      · cases hx
    · rw [if_neg ha] at hx
      unfold z_ald at hx
      split at hx
      · split at hx
        · rename_i ii kk st2 hk
          obtain ⟨⟨hk1, hk2⟩, hk3, hk4, hk5⟩ := hk
          simp only [zgo, if_neg (show ¬ (102 : Nat) = 103 by omega), if_neg (show ¬ (110 : Nat) ≤ 102 by omega)] at hx
          cases hx
          rcases hk1 with hk1 | hk1
          · exact zw_zald C hk1 hk2 hk3 hk4 hk5 hd k
          · subst hk1
            exact zw_no (fun hs => by have := hs.1; rw [this] at hk2; cases hk2)
        · cases hx
      · cases hx
  | laload =>
    obtain ⟨hd, hI⟩ := zck_dec hck rfl
    simp only [zckI, beq_iff_eq] at hI
    subst hI
    simp only [zx] at hx
    unfold z_ald at hx
    split at hx
    · split at hx
      · rename_i ii kk st2 hk
        obtain ⟨⟨hk1, hk2⟩, hk3, hk4, hk5⟩ := hk
        simp only [zgo, if_pos] at hx
        cases hx
        rcases hk1 with hk1 | hk1
        · exact zw_lald C hk1 hk2 hk3 hk4 hk5 hd k
        · subst hk1
          exact zw_no (fun hs => by have := hs.1; rw [this] at hk2; cases hk2)
      · cases hx
    · cases hx
  | aaload =>
    obtain ⟨hd, hI⟩ := zck_dec hck rfl
    simp only [zckI, Bool.and_eq_true, beq_iff_eq, decide_eq_true_eq] at hI
    obtain ⟨rfl, ht1, ht2⟩ := hI
    simp only [zx] at hx
    unfold z_ald at hx
    split at hx
    · split at hx
      · rename_i ii kk st2 hk
        obtain ⟨⟨hk1, hk2⟩, hk3, hk4, hk5⟩ := hk
        simp only [zgo, if_neg (show ¬ a = 103 by omega), if_pos ht1] at hx
        cases hx
        rcases hk1 with hk1 | hk1
        · exact zw_aald C hk1 hk2 ht1 hk3 hk4 hk5 hd k
        · subst hk1
          exact zw_no (fun hs => by have := hs.1; rw [this] at hk2; simp at hk2; omega)
      · cases hx
    · cases hx
  | iastore =>
    obtain ⟨hd, hI⟩ := zck_dec hck rfl
    simp only [zckI, beq_iff_eq] at hI
    subst hI
    simp only [zx] at hx
    unfold z_ast at hx
    split at hx
    · split at hx
      · rename_i hk
        obtain ⟨⟨⟨hk1, hk2⟩, hk3, hk4, hk5⟩, hk6⟩ := hk
        simp only [zgo] at hx
        cases hx
        exact zw_iast C hk1 hk2 hk3 hk4 hk5 hd k
      · cases hx
    · split at hx
      · rename_i hk
        exact absurd hk.2 (by omega)
      · cases hx
    · split at hx
      · rename_i hk
        exact absurd hk.2.1 (by omega)
      · cases hx
    · cases hx
  | bastore =>
    obtain ⟨hd, hI⟩ := zck_dec hck rfl
    simp only [zckI, beq_iff_eq] at hI
    subst hI
    simp only [zx] at hx
    by_cases ha : a = 0
    · rw [if_pos ha] at hx
      unfold z_ast at hx
      split at hx
      · split at hx
        · rename_i hk
          obtain ⟨⟨⟨hk1, hk2⟩, hk3, hk4, hk5⟩, hk6⟩ := hk
          simp only [zgo] at hx
          cases hx
          exact zw_bast C hk1 hk2 hk3 hk4 hk5 (by omega) hd k
        · cases hx
      · split at hx
        · rename_i hk
          exact absurd hk.2 (by omega)
        · cases hx
      · split at hx
        · rename_i hk
          exact absurd hk.2.1 (by omega)
        · cases hx
      · cases hx
    · rw [if_neg ha] at hx
      unfold z_ast at hx
      split at hx
      · split at hx
        · rename_i hk
          obtain ⟨⟨⟨hk1, hk2⟩, hk3, hk4, hk5⟩, hk6⟩ := hk
          simp only [zgo] at hx
          cases hx
          exact zw_zast C hk1 hk2 hk3 hk4 hk5 (by omega) hd k
        · cases hx
      · split at hx
        · rename_i hk
          exact absurd hk.2 (by omega)
        · cases hx
      · split at hx
        · rename_i hk
          exact absurd hk.2.1 (by omega)
        · cases hx
      · cases hx
  | lastore =>
    obtain ⟨hd, hI⟩ := zck_dec hck rfl
    simp only [zckI, beq_iff_eq] at hI
    subst hI
    simp only [zx] at hx
    unfold z_ast at hx
    split at hx
    · split at hx
      · rename_i hk
        exact absurd hk.2 (by omega)
      · cases hx
    · split at hx
      · rename_i hk
        obtain ⟨⟨⟨hk1, hk2⟩, hk3, hk4, hk5⟩, hk6⟩ := hk
        simp only [zgo] at hx
        cases hx
        exact zw_last C hk1 hk2 hk3 hk4 hk5 hd k
      · cases hx
    · split at hx
      · rename_i hk
        exact absurd hk.2.1 (by omega)
      · cases hx
    · cases hx
  | aastore =>
    obtain ⟨hd, hI⟩ := zck_dec hck rfl
    simp only [zckI, Bool.and_eq_true, beq_iff_eq, decide_eq_true_eq] at hI
    obtain ⟨rfl, ht1, ht2⟩ := hI
    simp only [zx] at hx
    unfold z_ast at hx
    split at hx
    · split at hx
      · rename_i hk
        exact absurd hk.2 (by omega)
      · cases hx
    · split at hx
      · rename_i hk
        exact absurd hk.2 (by omega)
      · cases hx
    · split at hx
      · rename_i hk
        obtain ⟨⟨⟨hk1, hk2⟩, hk3, hk4, hk5⟩, hk6, hk7, hk8⟩ := hk
        simp only [zgo] at hx
        cases hx
        exact zw_aast C hk1 hk2 ht1 ht2 hk7 hk8 hk3 hk4 hk5 hd k
      · cases hx
    · cases hx
  | arraylength =>
    obtain ⟨hd, hI⟩ := zck_dec hck rfl
    simp only [zckI, beq_iff_eq] at hI
    subst hI
    simp only [zx, z_len, zgo] at hx
    split at hx
    · split at hx
      · rename_i kk st2 hk
        cases hx
        rcases hk.1 with hk1 | hk1
        · exact zw_alen C hk1 hk.2.1 hd k
        · subst hk1
          have hxx := hX.2.2.2.2.1
          exact zw_slen C hxx.1 (by have := hxx.2; omega) hxx.2 hd k
      · cases hx
    · cases hx
  | new n =>
    obtain ⟨hd, hI⟩ := zck_dec hck rfl
    simp only [zckI, Bool.and_eq_true, beq_iff_eq, decide_eq_true_eq] at hI
    obtain ⟨⟨rfl, hc, rfl⟩, hf⟩ := hI
    simp only [zx, z_new, zgo] at hx
    split at hx
    · rename_i hN
      cases hx
      exact zw_new C hB hc (zCL_ok o _ (zelem2 hf)) hN hr1.1 hr1.2 hd k
    · cases hx
  | newarray t =>
    cases t with
    | int =>
      obtain ⟨hd, hI⟩ := zck_dec hck rfl
      simp only [zckI, Bool.and_eq_true, beq_iff_eq] at hI
      obtain ⟨rfl, rfl⟩ := hI
      simp only [zx, z_newa, z_new, zgo] at hx
      split at hx
      · split at hx
        · rename_i hn
          split at hx
          · rename_i hN
            cases hx
            exact zw_newI C hB hn.1 hn.2 zt_arI hN hr1.1 hr1.2 hd k
          · cases hx
        · cases hx
      · cases hx
    | byte =>
      obtain ⟨hd, hI⟩ := zck_dec hck rfl
      simp only [zckI, Bool.and_eq_true, beq_iff_eq] at hI
      obtain ⟨rfl, rfl⟩ := hI
      simp only [zx, z_newa, z_new, zgo] at hx
      split at hx
      · split at hx
        · rename_i hn
          split at hx
          · rename_i hN
            cases hx
            exact zw_newB C hB hn.1 hn.2 zt_arB hN hr1.1 hr1.2 hd k
          · cases hx
        · cases hx
      · cases hx
    | boolean =>
      obtain ⟨hd, hI⟩ := zck_dec hck rfl
      simp only [zckI, Bool.and_eq_true, beq_iff_eq] at hI
      obtain ⟨rfl, rfl⟩ := hI
      simp only [zx, z_newa, z_new, zgo] at hx
      split at hx
      · split at hx
        · rename_i hn
          split at hx
          · rename_i hN
            cases hx
            exact zw_newZ C hB hn.1 hn.2 zt_arZ hN hr1.1 hr1.2 hd k
          · cases hx
        · cases hx
      · cases hx
    | long =>
      obtain ⟨hd, hI⟩ := zck_dec hck rfl
      simp only [zckI, Bool.and_eq_true, beq_iff_eq] at hI
      obtain ⟨rfl, rfl⟩ := hI
      simp only [zx, z_newa, z_new, zgo] at hx
      split at hx
      · split at hx
        · rename_i hn
          split at hx
          · rename_i hN
            cases hx
            exact zw_newJ C hB hn.1 hn.2 zt_arJ hN hr1.1 hr1.2 hd k
          · cases hx
        · cases hx
      · cases hx
    | _ =>
      obtain ⟨hd, hI⟩ := zck_dec hck rfl
      simp [zckI] at hI
  | anewarray n =>
    obtain ⟨hd, hI⟩ := zck_dec hck rfl
    simp only [zckI, Bool.and_eq_true, beq_iff_eq, decide_eq_true_eq] at hI
    obtain ⟨⟨rfl, ht⟩, hf⟩ := hI
    have hov : va_AO (zRX (a - 110)) s := by
      have hao := hX.2.2.1
      rcases ht with rfl | rfl | rfl
      · exact hao.1
      · exact hao.2.1
      · exact hao.2.2
    simp only [zx, z_newa, z_new, zgo] at hx
    split at hx
    · split at hx
      · rename_i hn
        split at hx
        · rename_i hN
          cases hx
          exact zw_newR C hB (by omega) hn.1 hn.2 (zCL_ok o _ (zelem2 hf)) hov hN hr1.1 hr1.2 hd k
        · cases hx
      · cases hx
    · cases hx
  | checkcast n =>
    obtain ⟨hd, hI⟩ := zck_dec hck rfl
    simp only [zckI, Bool.and_eq_true, beq_iff_eq] at hI
    obtain ⟨⟨rfl, rfl⟩, rfl⟩ := hI
    simp only [zx, zgo] at hx
    split at hx
    · split at hx
      · rename_i hk
        cases hx
        exact zw_cast C hk.1 hk.2 hd k
      · cases hx
    · cases hx
  | invokevirtual n =>
    obtain ⟨hd, hI⟩ := zck_dec hck rfl
    simp only [zckI, Bool.and_eq_true, beq_iff_eq] at hI
    obtain ⟨rfl, hI⟩ := hI
    simp only [zx] at hx
    split at hx
    · rename_i ha
      rw [if_pos ha] at hI
      simp only [Bool.or_eq_true, Bool.and_eq_true, beq_iff_eq] at hI
      rcases hI with ⟨⟨rfl, rfl⟩, rfl⟩ | hI
      · simp only [z_bi, zgo] at hx
        split at hx
        · split at hx
          · rename_i hk
            cases hx
            exact zw_clone C hB hX.2.2.2.1 hR1 hk.2.2.2 hk.1 hk.2.1 hk.2.2.1 hr1.1 hr1.2 hd k
          · cases hx
        · cases hx
      · have hm := zelem2 hI
        have hv : a = 1001 ∨ a = 1002 := by
          have g : ∀ o, ∀ q ∈ zSL o, q.2 = 1001 ∨ q.2 = 1002 := by
            intro o
            unfold zSL
            split
            · decide
            · intro q h; cases h
          exact g o _ hm
        rcases hv with rfl | rfl
        · simp only [z_bi, zgo] at hx
          split at hx
          · split at hx
            · rename_i hk
              cases hx
              exact zw_strlen C hX hm hk.1 hR hr0 hk.2.2 hk.2.1 hd k
            · cases hx
          · cases hx
        · simp only [z_bi, zgo] at hx
          split at hx
          · split at hx
            · rename_i hk
              cases hx
              exact zw_strchar C hX hm hk.1 hk.2.1 hk.2.2.1 hR hr0 hk.2.2.2.2 hk.2.2.2.1 hd k
            · cases hx
          · cases hx
    · unfold z_cv at hx
      split at hx
      · split at hx <;> cases hx
      · cases hx
  | invokestatic n =>
    obtain ⟨hd, hI⟩ := zck_dec hck rfl
    simp only [zckI, Bool.and_eq_true, beq_iff_eq] at hI
    obtain ⟨rfl, hI⟩ := hI
    simp only [zx] at hx
    split at hx
    · rename_i ha
      rw [if_pos ha] at hI
      simp only [Bool.and_eq_true, beq_iff_eq] at hI
      obtain ⟨rfl, hI⟩ := hI
      simp only [z_bi, zgo] at hx
      split at hx
      · split at hx
        · rename_i hk
          obtain ⟨hw, ⟨⟨g1, g2⟩, g3, g4, g5, g6⟩, ⟨j1, j2, j3, j4, j5⟩, j6⟩ := hk
          cases hx
          exact zw_acopy C (zAL_ok o _ (zelem1 hI)) hR1 hw g1 g2 rfl g3 g4 g5 g6 j1 j2 j3 j4 j5 j6 hd k
        · cases hx
      · cases hx
    · unfold z_cs at hx
      split at hx <;> cases hx
  | invokespecial n =>
    obtain ⟨hd, hI⟩ := zck_dec hck rfl
    simp only [zckI, Bool.and_eq_true, beq_iff_eq] at hI
    obtain ⟨rfl, hI⟩ := hI
    simp only [zx] at hx
    split at hx
    · rename_i ha
      rw [if_pos ha] at hI
      simp only [Bool.and_eq_true, beq_iff_eq] at hI
      obtain ⟨rfl, hI⟩ := hI
      simp only [z_bi, zgo] at hx
      split at hx
      · split at hx
        · rename_i hk
          cases hx
          exact zw_objInit C (zOL_ok o _ (zelem1 hI)) hR1 hk hd k
        · cases hx
      · cases hx
    · unfold z_ci at hx
      split at hx
      · split at hx <;> cases hx
      · cases hx
  | return_ =>
    simp only [zx] at hx
    first | (split at hx <;> (first | cases hx | (split at hx <;> cases hx))) | cases hx
  | ireturn =>
    simp only [zx] at hx
    first | (split at hx <;> (first | cases hx | (split at hx <;> cases hx))) | cases hx
  | lreturn =>
    simp only [zx] at hx
    first | (split at hx <;> (first | cases hx | (split at hx <;> cases hx))) | cases hx
  | areturn =>
    simp only [zx] at hx
    first | (split at hx <;> (first | cases hx | (split at hx <;> cases hx))) | cases hx
  | _ =>
    first
      | (simp [zx, zal] at hx; done)
      | (simp only [zx] at hx
         split at hx
         · rename_i st2 hz
           simp only [zgo] at hx
           cases hx
           exact zal_next C hX hB hnm hck hR hz k
         · cases hx)
end ZSND
