/-! arraycopy, clone, checkcast -/
theorem zt_acN : Cond.native arraycopyName ∈ tables_1 := List.mem_of_getElem? (i := 404) (by decide +kernel)
theorem zt_acS : Cond.static arraycopyName ∈ tables_1 := List.mem_of_getElem? (i := 403) (by decide +kernel)
theorem zt_acI : Cond.initialized "java/lang/System" ∈ tables_1 := List.mem_of_getElem? (i := 13) (by decide +kernel)
theorem zt_cl0 : Cond.methodLink (zRN 15) 316 ⟨"[I", "clone", "()Ljava/lang/Object;"⟩ ∈ tables_1 := List.mem_of_getElem? (i := 578) (by decide +kernel)
theorem zt_cl1 : Cond.sameMethod "[I" "java/lang/Object" "clone" "()Ljava/lang/Object;" ∈ tables_1 := List.mem_of_getElem? (i := 579) (by decide +kernel)
theorem zt_cl2 : Cond.native ⟨"java/lang/Object", "clone", "()Ljava/lang/Object;"⟩ ∈ tables_1 := List.mem_of_getElem? (i := 580) (by decide +kernel)
theorem zt_cl3 : Cond.instanceMethod ⟨"java/lang/Object", "clone", "()Ljava/lang/Object;"⟩ ∈ tables_1 := List.mem_of_getElem? (i := 581) (by decide +kernel)
theorem zt_cl4 : Cond.selects "[I" ⟨"[I", "clone", "()Ljava/lang/Object;"⟩ ⟨"java/lang/Object", "clone", "()Ljava/lang/Object;"⟩ ∈ tables_1 := List.mem_of_getElem? (i := 582) (by decide +kernel)
theorem zt_cl5 : Cond.classLink (zRN 15) 317 "[I" ∈ tables_1 := List.mem_of_getElem? (i := 584) (by decide +kernel)
theorem zt_arI : Cond.arrayClass .int ∈ tables_1 := List.mem_of_getElem? (i := 85) (by decide +kernel)
theorem zt_arB : Cond.arrayClass .byte ∈ tables_1 := List.mem_of_getElem? (i := 84) (by decide +kernel)
theorem zt_arZ : Cond.arrayClass .boolean ∈ tables_1 := List.mem_of_getElem? (i := 1077) (by decide +kernel)
theorem zt_arJ : Cond.arrayClass .long ∈ tables_1 := List.mem_of_getElem? (i := 210) (by decide +kernel)
theorem zt_nfw : nativeFrameWords "java/lang/System" "arraycopy" 5 ≤ 40 := by decide +kernel
theorem zfit_b {x : Int} (h : -128 ≤ x ∧ x ≤ 127) : fits .byte (.int (Int32.ofInt x)) = true := by
  have e : (Int32.ofInt x).toInt = x := by rw [wr_toInt, wr_id]; omega
  have h1 : (-128 : Int32) ≤ Int32.ofInt x := by
    rw [Int32.le_iff_toInt_le, e]
    have : (-128 : Int32).toInt = -128 := by decide
    omega
  have h2 : Int32.ofInt x ≤ (127 : Int32) := by
    rw [Int32.le_iff_toInt_le, e]
    have : (127 : Int32).toInt = 127 := by decide
    omega
  show (decide (-128 ≤ Int32.ofInt x) && decide (Int32.ofInt x ≤ 127)) = true
  simp [h1, h2]
section ZBI
variable {p : Program} {l : Launch} {e : Env} {R : Room} {s : State} {m : MethodId} {args : Array Value} {below : List Frame} {meth : Method} {c : Code} {Q : State → Prop}
variable {B : Nat} {ext : Nat → Nat} {D : va_G} {sc : Nat × (Nat → Int32)} {N0 S0 nL o pc : Nat} {cc : ByteArray} {L st : List ZV} {h : ZH}
theorem ZK.two {ca : Nat → ClassId} {σ : ZS} {U : State} (h : ZK D ca σ U) {k k0 t : Nat} (hk : k < σ.1.1) (hk0 : k0 < σ.1.1) (h1 : (σ.2 k).1 = t) (h2 : (σ.2 k0).1 = t) (ht : 100 ≤ t) : va_K D vwCl [(ca k0, zcomp t), (ca k, zcomp t)] U := by
  refine ⟨h.1.1, fun j q hq => ?_⟩
  match j, hq with
  | 0, hq => cases hq; have := h.2 k0 hk0 (by omega); rw [h2] at this; exact this
  | 1, hq => cases hq; have := h.2 k hk (by omega); rw [h1] at this; exact this
  | j + 2, hq => cases hq
theorem zw_acopy (C : ZC p s m args c o cc nL) {n k k0 t : Nat} {sp dp nn : Int} (hl : Cond.methodLink (zRN o) n arraycopyName ∈ tables_1) (hR : 1 ≤ R.frames ∧ 60 ≤ R.locals) (hw : zwd st ≤ 8) (hk : k < h.1.1.1) (hk0 : k0 < h.1.1.1) (ht : (h.1.2 k).1 = t) (ht0 : (h.1.2 k0).1 = t) (h5 : t = 100 ∨ t = 101) (hs1 : (h.1.2 k).2 ≤ 2147483647) (hs0 : (h.1.2 k0).2 ≤ 2147483647)
    (g1 : 0 ≤ sp) (g2 : 0 ≤ dp) (g3 : 0 ≤ nn) (g4 : sp + nn ≤ ((h.1.2 k0).2 : Int)) (g5 : dp + nn ≤ ((h.1.2 k).2 : Int)) (g6 : t = 100 ∨ ∀ i, i < nn.toNat → -128 ≤ h.2.1 k0 (sp.toNat + i) ∧ h.2.1 k0 (sp.toNat + i) ≤ 127) (hd : decode cc pc = .ok (.invokestatic n, 3)) (kk : ZW p l e R s m args below meth c Q B ext D sc N0 S0 nL (pc + 3) (L) (st) ((h.1, zcpy h.2.1 k0 k sp.toNat dp.toNat nn.toNat, h.2.2))) : ZW p l e R s m args below meth c Q B ext D sc N0 S0 nL (pc) (L) (zi nn :: zi dp :: zr (some k) :: zi sp :: zr (some k0) :: st) (h) := by
  intro ca H locs cells slots ls a1 a2 a3 a4 a5 a6 a7
  have hkk : k < 10000000 := by have := a1.1; omega
  have hkk0 : k0 < 10000000 := by have := a1.1; omega
  simp only [List.map_cons, zcv_own hkk, zcv_own hkk0]
  have z1 := z_nat g1 (by omega : sp ≤ 2147483647)
  have z2 := z_nat g2 (by omega : dp ≤ 2147483647)
  have z3 := z_nat g3 (by omega : nn ≤ 2147483647)
  have eo : ∀ j, j ≠ k → (h.1, zcpy h.2.1 k0 k sp.toNat dp.toNat nn.toNat, h.2.2).2.1 j = h.2.1 j ∧ (h.1, zcpy h.2.1 k0 k sp.toNat dp.toNat nn.toNat, h.2.2).2.2 j = h.2.2 j := fun j hj => ⟨by
    funext i
    show zcpy h.2.1 k0 k sp.toNat dp.toNat nn.toNat j i = _
    unfold zcpy
    rw [if_neg (fun q => hj q.1)], rfl⟩
  have h5' : t = 100 ∨ t = 101 ∨ t = 102 := by omega
  have hnew : (zws B ext ca h).set k (B + k, .inl (ca k, (h.1.2 k).2, .inl (va_cpy (fun j => Int32.ofInt (h.2.1 k0 j)) (fun j => Int32.ofInt (h.2.1 k j)) sp.toNat dp.toNat nn.toNat))) = zws B ext ca (h.1, zcpy h.2.1 k0 k sp.toNat dp.toNat nn.toNat, h.2.2) := by
    rw [← zws_upd (h := h) (h' := (h.1, zcpy h.2.1 k0 k sp.toNat dp.toNat nn.toNat, h.2.2)) (k := k) rfl eo, zce_int (h := (h.1, zcpy h.2.1 k0 k sp.toNat dp.toNat nn.toNat, h.2.2)) ht h5']
    have ef : va_cpy (fun j => Int32.ofInt (h.2.1 k0 j)) (fun j => Int32.ofInt (h.2.1 k j)) sp.toNat dp.toNat nn.toNat = fun j => Int32.ofInt ((h.1, zcpy h.2.1 k0 k sp.toNat dp.toNat nn.toNat, h.2.2).2.1 k j) := by
      funext j
      show _ = Int32.ofInt (zcpy h.2.1 k0 k sp.toNat dp.toNat nn.toNat k j)
      unfold va_cpy zcpy
      by_cases hj : dp.toNat ≤ j ∧ j < dp.toNat + nn.toNat
      · rw [if_pos hj, if_pos ⟨rfl, hj⟩]
      · rw [if_neg hj, if_neg (fun q => hj q.2)]
    rw [ef]
  have hcomp : refKind (zcomp t) = false := by rcases h5 with rfl | rfl <;> rfl
  refine va_copyi C.1 C.2.1 (by rw [C.2.2.1]; exact a6.1.symm) C.2.2.2.1 (C.2.2.2.2 _ (zTB_in hl rfl)) (C.2.2.2.2 _ (zTB_in zt_acN rfl)) (C.2.2.2.2 _ (zTB_in zt_acS rfl)) (C.2.2.2.2 _ (zTB_in zt_acI rfl)) (a2.two hk hk0 ht ht0 (by omega)) a1.2.1 zws_D a3 k0 k 0 1 (n0 := (h.1.2 k0).2) (n1 := (h.1.2 k).2) (by rw [zws_at hk0, zce_int ht0 h5']) (by rw [zws_at hk, zce_int ht h5']) rfl rfl hcomp z1.1 z2.1 z3.1 (by rw [z1.2, z3.2]; omega) (by rw [z2.2, z3.2]; omega) ?_ hR.1 ?_ hd (fun H1 locs1 b1 b2 b3 => ?_)
  · intro i hi
    rw [z3.2] at hi
    rw [z1.2]
    rcases g6 with g | g
    · subst g; rfl
    · rcases h5 with rfl | rfl
      · rfl
      · exact zfit_b (g i hi)
  · rw [zwd_eq]
    have := zt_nfw
    omega
  · rw [z1.2, z2.2, z3.2] at b1
    rw [hnew] at b1
    exact kk ca H1 locs1 cells slots ls ⟨a1.1, b1, zsc_upd (h := h) (h' := (h.1, zcpy h.2.1 k0 k sp.toNat dp.toNat nn.toNat, h.2.2)) hkk rfl eo a1.2.2⟩ a2 b3 a4 a5 a6 a7
theorem zfind_int {ca : Nat → ClassId} (a2 : ZK D ca h.1 s) {k : Nat} (hk : k < h.1.1.1) (ht : (h.1.2 k).1 = 100) : s.vm.findClass "[I" = some (ca k) := by
  have h1 := (a2.2 k hk (by omega)).2
  rw [ht] at h1
  exact h1
theorem zw_clone (C : ZC p s m args c 15 cc nL) (hB : s.heap.size = B + N0) {k : Nat} (hcl : va_Nw (.castable "[I" "java/lang/Cloneable") s) (hR : 1 ≤ R.frames ∧ 60 ≤ R.locals) (hw : zwd st ≤ 8) (hk : k < h.1.1.1) (ht : (h.1.2 k).1 = 100) (hN : h.1.1.1 < 1000000) (hcells : h.1.1.1 + 1 ≤ N0 + R.cells) (hslots : h.1.1.2 + (h.1.2 k).2 ≤ S0 + R.slots) (hd : decode cc pc = .ok (.invokevirtual 316, 3)) (kk : ZW p l e R s m args below meth c Q B ext D sc N0 S0 nL (pc + 3) (L) (zr (some h.1.1.1) :: st) ((zNewS h.1 100 (h.1.2 k).2, (fun k' j => if k' = h.1.1.1 then h.2.1 k j else h.2.1 k' j), zNewG h.1 h.2.2))) : ZW p l e R s m args below meth c Q B ext D sc N0 S0 nL (pc) (L) (zr (some k) :: st) (h) := by
  intro ca H locs cells slots ls a1 a2 a3 a4 a5 a6 a7
  have hkk : k < 10000000 := by omega
  rw [List.map_cons, zcv_own hkk]
  have hkind : ((zNewS h.1 100 (h.1.2 k).2, (fun k' j => if k' = h.1.1.1 then h.2.1 k j else h.2.1 k' j), zNewG h.1 h.2.2) : ZH).1.2 h.1.1.1 = (100, (h.1.2 k).2) := by
    show (if h.1.1.1 = h.1.1.1 then (100, (h.1.2 k).2) else _) = _
    rw [if_pos rfl]
  have hK := a2.one hk (by omega)
  rw [ht] at hK
  refine va_clone C.1 C.2.1 (by rw [C.2.2.1]; exact a6.1.symm) C.2.2.2.1 (C.2.2.2.2 _ (zTB_in zt_cl0 rfl)) (C.2.2.2.2 _ (zTB_in zt_cl1 rfl)) (C.2.2.2.2 _ (zTB_in zt_cl2 rfl)) (C.2.2.2.2 _ (zTB_in zt_cl3 rfl)) (C.2.2.2.2 _ (zTB_in zt_cl4 rfl)) hcl hK a1.2.1 zws_D a3 (fun q hq => by show B ≤ q; omega) k 0 (x := ((h.1.2 k).2, .inl (fun j => Int32.ofInt (h.2.1 k j)))) (by rw [zws_at hk, zce_int ht (Or.inl rfl)]) rfl (zfind_int a2 hk ht) ?_ hR.1 (by rw [zwd_eq]; omega) (by omega) (by show slots + (h.1.2 k).2 ≤ R.slots; omega) hd (fun q H1 b0 b1 b2 b3 => ?_)
  · intro i v hv
    have hi : i < (h.1.2 k).2 := by
      have := (Array.getElem?_eq_some_iff.mp hv).1
      rw [vp_cell_i, arrV_size] at this
      exact this
    rw [vp_cell_i, arrV_read _ _ hi] at hv
    cases hv
    rfl
  · refine zw_made (cA := ca k) (ca := ca) (ln := 3) (t := 100) (n := (h.1.2 k).2) hB hN (fun k' hk' => by funext j; exact if_neg hk') zNewG_row ?_ (fun _ => b0.2 0 _ rfl) a2 a1 a4 a5 a6 a7 b1 b2 b3 kk
    rw [zce_int (t := 100) (by rw [hkind]) (Or.inl rfl), hkind]
    have e1 : ((zNewS h.1 100 (h.1.2 k).2, (fun k' j => if k' = h.1.1.1 then h.2.1 k j else h.2.1 k' j), zNewG h.1 h.2.2) : ZH).2.1 h.1.1.1 = h.2.1 k := by
      funext j
      exact if_pos rfl
    rw [e1]
    simp only [if_pos]
theorem zw_cast (C : ZC p s m args c 15 cc nL) {k : Nat} (hk : k < h.1.1.1) (ht : (h.1.2 k).1 = 100) (hd : decode cc pc = .ok (.checkcast 317, 3)) (kk : ZW p l e R s m args below meth c Q B ext D sc N0 S0 nL (pc + 3) (L) (zr (some k) :: st) (h)) : ZW p l e R s m args below meth c Q B ext D sc N0 S0 nL (pc) (L) (zr (some k) :: st) (h) := by
  intro ca H locs cells slots ls a1 a2 a3 a4 a5 a6 a7
  have K := kk ca H locs cells slots ls a1 a2 a3 a4 a5 a6 a7
  have hkk : k < 10000000 := by have := a1.1; omega
  rw [List.map_cons, zcv_own hkk] at K ⊢
  exact va_castA C.1 C.2.1 C.2.2.2.1 (C.2.2.2.2 _ (zTB_in zt_cl5 rfl)) a1.2.1 k (x := ((h.1.2 k).2, .inl (fun j => Int32.ofInt (h.2.1 k j)))) (by rw [zws_at hk, zce_int ht (Or.inl rfl)]) (zfind_int a2 hk ht) hd K
end ZBI
