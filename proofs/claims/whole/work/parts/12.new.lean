/-! Making cells; what is built in -/
theorem zno9 {c : Nat} (h : c < 12) : ∀ k, k < znf c → zft (ztX c k) ≠ 9 :=
  zcases (P := fun c => ∀ k, k < znf c → zft (ztX c k) ≠ 9) h (by decide +kernel) (by decide +kernel) (by decide +kernel) (by decide +kernel) (by decide +kernel) (by decide +kernel) (by decide +kernel) (by decide +kernel) (by decide +kernel) (by decide +kernel) (by decide +kernel) (by decide +kernel)
theorem zft_all (t : FieldType) (h : zft t ≠ 9) : zft t = 0 ∨ zft t = 1 ∨ zft t = 2 ∨ zft t = 3 := by
  cases t <;> first | exact absurd rfl h | (simp [zft])
theorem zwd_eq {B : Nat} {ext : Nat → Nat} : ∀ st : List ZV, ((st.map (zcv B ext)).map fun v => v.category).sum = zwd st := by
  intro st
  induction st with
  | nil => rfl
  | cons v t ih =>
    simp only [List.map_cons, List.sum_cons, ih]
    rcases v with x | x | x | x
    · rfl
    · rfl
    · cases x <;> rfl
    · rfl
section ZNEW
variable {p : Program} {l : Launch} {e : Env} {R : Room} {s : State} {m : MethodId} {args : Array Value} {below : List Frame} {meth : Method} {c : Code} {Q : State → Prop}
variable {B : Nat} {ext : Nat → Nat} {D : va_G} {sc : Nat × (Nat → Int32)} {N0 S0 nL o pc : Nat} {cc : ByteArray} {L st : List ZV} {h : ZH}
theorem zq_new {ca : Nat → ClassId} {H1 : Heap} {q : Nat} {E : va_E} (b1 : va_P D vwCl (zws B ext ca h ++ [(q, E)]) H1) (b2 : va_D (zAr B) (zws B ext ca h ++ [(q, E)])) (hs : H1.size ≤ B + h.1.1.1 + 1) : q = B + h.1.1.1 := by
  have hlen : (zws B ext ca h).length = h.1.1.1 := by simp [zws]
  have hat : (zws B ext ca h ++ [(q, E)])[h.1.1.1]? = some (q, E) := by
    rw [List.getElem?_append_right (by omega), hlen, Nat.sub_self]; rfl
  have h1 : q < H1.size := (b1 _ _ hat).lt
  have h2 : B ≤ q := b2.2 _ _ hat
  by_cases hq : q < B + h.1.1.1
  · have hk : q - B < h.1.1.1 := by omega
    have hat2 : (zws B ext ca h ++ [(q, E)])[q - B]? = some (B + (q - B), zce B ext ca h (q - B)) := by
      rw [List.getElem?_append_left (by omega), zws_at hk]
    have := b2.1 _ _ _ _ hat2 hat (by show B + (q - B) = q; omega)
    omega
  · omega
theorem zsc_new {t n : Nat} {f : ZF} {g : ZG} (hN : h.1.1.1 < 1000000) (hf : ∀ k, k ≠ h.1.1.1 → f k = h.2.1 k) (hs : ZSc sc h) : ZSc sc (zNewS h.1 t n, f, g) := by
  have hne : ¬ zX + 6 = h.1.1.1 := by unfold zX; omega
  refine ⟨?_, fun j => ?_⟩
  · show (if zX + 6 = h.1.1.1 then _ else _) = _
    rw [if_neg hne]
    exact hs.1
  · show Int32.ofInt (f (zX + 6) j) = _
    rw [hf _ hne]
    exact hs.2 j
theorem zce_new_off {ca ca' : Nat → ClassId} {t n j : Nat} {f : ZF} {g : ZG} (hj : j < h.1.1.1) (hf : ∀ k, k ≠ h.1.1.1 → f k = h.2.1 k) (hg : ∀ k, k ≠ h.1.1.1 → g k = h.2.2 k) (hc : ca' j = ca j) : zce B ext ca' (zNewS h.1 t n, f, g) j = zce B ext ca h j := by
  refine zce_off ?_ (hf j (by omega)) (hg j (by omega)) hc
  show (if j = h.1.1.1 then _ else _) = _
  rw [if_neg (by omega)]
theorem zNewF_row (k : Nat) (hk : k ≠ h.1.1.1) : zNewF h.1 h.2.1 k = h.2.1 k := by
  funext j
  show (if k = h.1.1.1 then _ else _) = _
  rw [if_neg hk]
theorem zNewG_row (k : Nat) (hk : k ≠ h.1.1.1) : zNewG h.1 h.2.2 k = h.2.2 k := by
  funext j
  show (if k = h.1.1.1 then _ else _) = _
  rw [if_neg hk]
theorem ZK.push {ca : Nat → ClassId} {cA : ClassId} {t n : Nat} (hK : ZK D ca h.1 s) (hn : 100 ≤ t → ArrOfT s cA (zcomp t) ∧ va_RA s cA (zcomp t)) : ZK D (fun k => if k = h.1.1.1 then cA else ca k) (zNewS h.1 t n) s := by
  refine ⟨hK.1, fun k hk ht => ?_⟩
  have hk' : k < h.1.1.1 + 1 := hk
  have ht' : 100 ≤ (if k = h.1.1.1 then (t, n) else h.1.2 k).1 := ht
  show ArrOfT s (if k = h.1.1.1 then cA else ca k) (zcomp (if k = h.1.1.1 then (t, n) else h.1.2 k).1) ∧ va_RA s (if k = h.1.1.1 then cA else ca k) (zcomp (if k = h.1.1.1 then (t, n) else h.1.2 k).1)
  by_cases hk2 : k = h.1.1.1
  · rw [if_pos hk2] at ht'
    rw [if_pos hk2, if_pos hk2]
    exact hn ht'
  · rw [if_neg hk2] at ht'
    rw [if_neg hk2, if_neg hk2]
    exact hK.2 k (by omega) ht'
/-- a new cell of kind t with n slots, what it holds given: the heap behind it -/
theorem zw_made {t n ln : Nat} {f : ZF} {g : ZG} {a0 : va_E} {ca : Nat → ClassId} {cA : ClassId} {q : Nat} {H1 : Heap} {locs : List Loc} {cells slots : Nat} {ls : Array Slot} (hB : s.heap.size = B + N0) (hN : h.1.1.1 < 1000000) (hf : ∀ k, k ≠ h.1.1.1 → f k = h.2.1 k) (hg : ∀ k, k ≠ h.1.1.1 → g k = h.2.2 k)
    (he : zce B ext (fun k => if k = h.1.1.1 then cA else ca k) (zNewS h.1 t n, f, g) h.1.1.1 = a0) (hn : 100 ≤ t → ArrOfT s cA (zcomp t) ∧ va_RA s cA (zcomp t))
    (a2 : ZK D ca h.1 s) {H0 : Heap} (a1 : ZP B ext D sc ca h H0) (a4 : cells + N0 = h.1.1.1) (a5 : slots + S0 = h.1.1.2) (a6 : lv_has ls nL (zlv B ext 0 L)) (a7 : L.length = nL)
    (b1 : va_P D vwCl (zws B ext ca h ++ [(q, a0)]) H1) (b2 : va_D (zAr B) (zws B ext ca h ++ [(q, a0)])) (b3 : va_S (zAr B) s.heap H1 locs)
    (kk : ZW p l e R s m args below meth c Q B ext D sc N0 S0 nL (pc + ln) (L) (zr (some h.1.1.1) :: st) ((zNewS h.1 t n, f, g))) : W p l e R s m args below meth c H1 locs (cells + 1) (slots + n) Q (F0 m (pc + ln) ls (.ref q :: st.map (zcv B ext))) := by
  refine W.bound fun hb => ?_
  have hq := zq_new b1 b2 (by omega)
  subst hq
  have hws : zws B ext (fun k => if k = h.1.1.1 then cA else ca k) (zNewS h.1 t n, f, g) = zws B ext ca h ++ [(B + h.1.1.1, a0)] := by
    rw [← he]
    exact zws_push (h' := (zNewS h.1 t n, f, g)) rfl (fun j hj => zce_new_off hj hf hg (if_neg (by omega)))
  have K := kk (fun k => if k = h.1.1.1 then cA else ca k) H1 locs (cells + 1) (slots + n) ls ⟨by show h.1.1.1 + 1 ≤ 1000000; omega, by rw [hws]; exact b1, zsc_new hN hf a1.2.2⟩ (a2.push hn) b3 (by show cells + 1 + N0 = h.1.1.1 + 1; omega) (by show slots + n + S0 = h.1.1.2 + n; omega) a6 a7
  rw [List.map_cons, zcv_own (by omega)] at K
  exact K
theorem zw_new (C : ZC p s m args c o cc nL) (hB : s.heap.size = B + N0) {n cl : Nat} (hc : cl < 12) (hl : Cond.classLink (zRN o) n (zRX cl) ∈ tables_1) (hN : h.1.1.1 < 1000000) (hcells : h.1.1.1 + 1 ≤ N0 + R.cells) (hslots : h.1.1.2 + znf cl ≤ S0 + R.slots) (hd : decode cc pc = .ok (.new n, 3)) (kk : ZW p l e R s m args below meth c Q B ext D sc N0 S0 nL (pc + 3) (L) (zr (some h.1.1.1) :: st) ((zNewS h.1 cl (znf cl), zNewF h.1 h.2.1, zNewG h.1 h.2.2))) : ZW p l e R s m args below meth c Q B ext D sc N0 S0 nL (pc) (L) (st) (h) := by
  intro ca H locs cells slots ls a1 a2 a3 a4 a5 a6 a7
  have hkind : ((zNewS h.1 cl (znf cl), zNewF h.1 h.2.1, zNewG h.1 h.2.2).1.2 h.1.1.1).1 = cl := by
    show (if h.1.1.1 = h.1.1.1 then (cl, znf cl) else _).1 = cl
    rw [if_pos rfl]
  refine va_new C.1 C.2.1 (own := zRN o) (C := zRX cl) (T := zTX cl) (N := znf cl) (ci := cl) (Ts := zTB) C.2.2.2.2 (zlay_in hc) (ztX cl) (zty_ok hc) C.2.2.2.1 (C.2.2.2.2 _ (zTB_in hl rfl)) (C.2.2.2.2 _ (zTB_in (zins_ok hc).1 rfl)) (C.2.2.2.2 _ (zTB_in (zins_ok hc).2 rfl)) a2.1 a1.2.1 zws_D a3 (fun q hq => by show B ≤ q; omega) (zcl_at hc)
    (fs := (List.range (znf cl)).map (fun j => zfv B ext (zNewS h.1 cl (znf cl), zNewF h.1 h.2.1, zNewG h.1 h.2.2) h.1.1.1 cl j)) ?_ (by omega) (by omega) hd (fun q H1 b1 b2 b3 => ?_)
  · intro j hj
    have e1 : vp_V ((List.range (znf cl)).map (fun j => zfv B ext (zNewS h.1 cl (znf cl), zNewF h.1 h.2.1, zNewG h.1 h.2.2) h.1.1.1 cl j)) j = zfv B ext (zNewS h.1 cl (znf cl), zNewF h.1 h.2.1, zNewG h.1 h.2.2) h.1.1.1 cl j := by
      unfold vp_V
      simp [List.getD, hj]
    rw [e1]
    have z1 : (zNewS h.1 cl (znf cl), zNewF h.1 h.2.1, zNewG h.1 h.2.2).2.1 h.1.1.1 j = 0 := by
      show (if h.1.1.1 = h.1.1.1 then (0 : Int) else _) = 0
      rw [if_pos rfl]
    have z2 : (zNewS h.1 cl (znf cl), zNewF h.1 h.2.1, zNewG h.1 h.2.2).2.2 h.1.1.1 j = none := by
      show (if h.1.1.1 = h.1.1.1 then none else _) = none
      rw [if_pos rfl]
    unfold zfv
    rw [z1, z2]
    rcases zft_all _ (zno9 hc j hj) with h0 | h0 | h0 | h0
    · rw [zft0 h0]; rfl
    · rw [zft1 h0]; rfl
    · rcases zft2 h0 with ⟨u, hu⟩ | ⟨u, hu⟩ <;> rw [hu] <;> rfl
    · rw [zft3 h0]; rfl
  · exact zw_made (cA := ca 0) (ln := 3) (t := cl) (n := znf cl) hB hN zNewF_row zNewG_row (by rw [zce_obj (cl := cl) hkind hc]) (fun q => by omega) a2 a1 a4 a5 a6 a7 b1 b2 b3 kk
theorem zw_newI (C : ZC p s m args c o cc nL) (hB : s.heap.size = B + N0) {n : Int} (hn0 : 0 ≤ n) (hn1 : n ≤ 100000) (hl : Cond.arrayClass .int ∈ tables_1) (hN : h.1.1.1 < 1000000) (hcells : h.1.1.1 + 1 ≤ N0 + R.cells) (hslots : h.1.1.2 + n.toNat ≤ S0 + R.slots) (hd : decode cc pc = .ok (.newarray .int, 2)) (kk : ZW p l e R s m args below meth c Q B ext D sc N0 S0 nL (pc + 2) (L) (zr (some h.1.1.1) :: st) ((zNewS h.1 100 n.toNat, zNewF h.1 h.2.1, zNewG h.1 h.2.2))) : ZW p l e R s m args below meth c Q B ext D sc N0 S0 nL (pc) (L) (zi n :: st) (h) := by
  intro ca H locs cells slots ls a1 a2 a3 a4 a5 a6 a7
  have hkind : ((zNewS h.1 100 n.toNat, zNewF h.1 h.2.1, zNewG h.1 h.2.2).1.2 h.1.1.1).1 = 100 := by
    show (if h.1.1.1 = h.1.1.1 then (100, n.toNat) else _).1 = 100
    rw [if_pos rfl]
  have hlen : ((zNewS h.1 100 n.toNat, zNewF h.1 h.2.1, zNewG h.1 h.2.2).1.2 h.1.1.1).2 = n.toNat := by
    show (if h.1.1.1 = h.1.1.1 then (100, n.toNat) else _).2 = n.toNat
    rw [if_pos rfl]
  have hz := z_nat hn0 (by omega)
  refine va_newa C.1 C.2.1 (atype := .int) (ty := .int) (a0 := (n.toNat, .inl (fun _ => 0))) (C.2.2.2.2 _ (zTB_in hl rfl)) rfl a2.1 a1.2.1 zws_D a3 (fun q hq => by show B ≤ q; omega) (fun cA => rfl) hz.1 hz.2 (by simp only [componentBytes]; omega) (by omega) (by omega) hd (fun q cA H1 b0 b1 b2 b3 => ?_)
  refine zw_made (cA := cA) (ca := ca) (ln := 2) (t := 100) (n := n.toNat) hB hN zNewF_row zNewG_row ?_ (fun _ => b0.2 0 _ rfl) a2 a1 a4 a5 a6 a7 b1 b2 b3 kk
  rw [zce_int (t := 100) hkind (Or.inl rfl), hlen]
  have e1 : (zNewS h.1 100 n.toNat, zNewF h.1 h.2.1, zNewG h.1 h.2.2).2.1 h.1.1.1 = fun _ => 0 := by
    funext j
    show (if h.1.1.1 = h.1.1.1 then (0 : Int) else _) = 0
    rw [if_pos rfl]
  rw [e1]
  simp only [if_pos]
  rfl
theorem zw_newB (C : ZC p s m args c o cc nL) (hB : s.heap.size = B + N0) {n : Int} (hn0 : 0 ≤ n) (hn1 : n ≤ 100000) (hl : Cond.arrayClass .byte ∈ tables_1) (hN : h.1.1.1 < 1000000) (hcells : h.1.1.1 + 1 ≤ N0 + R.cells) (hslots : h.1.1.2 + n.toNat ≤ S0 + R.slots) (hd : decode cc pc = .ok (.newarray .byte, 2)) (kk : ZW p l e R s m args below meth c Q B ext D sc N0 S0 nL (pc + 2) (L) (zr (some h.1.1.1) :: st) ((zNewS h.1 101 n.toNat, zNewF h.1 h.2.1, zNewG h.1 h.2.2))) : ZW p l e R s m args below meth c Q B ext D sc N0 S0 nL (pc) (L) (zi n :: st) (h) := by
  intro ca H locs cells slots ls a1 a2 a3 a4 a5 a6 a7
  have hkind : ((zNewS h.1 101 n.toNat, zNewF h.1 h.2.1, zNewG h.1 h.2.2).1.2 h.1.1.1).1 = 101 := by
    show (if h.1.1.1 = h.1.1.1 then (101, n.toNat) else _).1 = 101
    rw [if_pos rfl]
  have hlen : ((zNewS h.1 101 n.toNat, zNewF h.1 h.2.1, zNewG h.1 h.2.2).1.2 h.1.1.1).2 = n.toNat := by
    show (if h.1.1.1 = h.1.1.1 then (101, n.toNat) else _).2 = n.toNat
    rw [if_pos rfl]
  have hz := z_nat hn0 (by omega)
  refine va_newa C.1 C.2.1 (atype := .byte) (ty := .byte) (a0 := (n.toNat, .inl (fun _ => 0))) (C.2.2.2.2 _ (zTB_in hl rfl)) rfl a2.1 a1.2.1 zws_D a3 (fun q hq => by show B ≤ q; omega) (fun cA => rfl) hz.1 hz.2 (by simp only [componentBytes]; omega) (by omega) (by omega) hd (fun q cA H1 b0 b1 b2 b3 => ?_)
  refine zw_made (cA := cA) (ca := ca) (ln := 2) (t := 101) (n := n.toNat) hB hN zNewF_row zNewG_row ?_ (fun _ => b0.2 0 _ rfl) a2 a1 a4 a5 a6 a7 b1 b2 b3 kk
  rw [zce_int (t := 101) hkind (Or.inr (Or.inl rfl)), hlen]
  have e1 : (zNewS h.1 101 n.toNat, zNewF h.1 h.2.1, zNewG h.1 h.2.2).2.1 h.1.1.1 = fun _ => 0 := by
    funext j
    show (if h.1.1.1 = h.1.1.1 then (0 : Int) else _) = 0
    rw [if_pos rfl]
  rw [e1]
  simp only [if_pos]
  rfl
theorem zw_newZ (C : ZC p s m args c o cc nL) (hB : s.heap.size = B + N0) {n : Int} (hn0 : 0 ≤ n) (hn1 : n ≤ 100000) (hl : Cond.arrayClass .boolean ∈ tables_1) (hN : h.1.1.1 < 1000000) (hcells : h.1.1.1 + 1 ≤ N0 + R.cells) (hslots : h.1.1.2 + n.toNat ≤ S0 + R.slots) (hd : decode cc pc = .ok (.newarray .boolean, 2)) (kk : ZW p l e R s m args below meth c Q B ext D sc N0 S0 nL (pc + 2) (L) (zr (some h.1.1.1) :: st) ((zNewS h.1 102 n.toNat, zNewF h.1 h.2.1, zNewG h.1 h.2.2))) : ZW p l e R s m args below meth c Q B ext D sc N0 S0 nL (pc) (L) (zi n :: st) (h) := by
  intro ca H locs cells slots ls a1 a2 a3 a4 a5 a6 a7
  have hkind : ((zNewS h.1 102 n.toNat, zNewF h.1 h.2.1, zNewG h.1 h.2.2).1.2 h.1.1.1).1 = 102 := by
    show (if h.1.1.1 = h.1.1.1 then (102, n.toNat) else _).1 = 102
    rw [if_pos rfl]
  have hlen : ((zNewS h.1 102 n.toNat, zNewF h.1 h.2.1, zNewG h.1 h.2.2).1.2 h.1.1.1).2 = n.toNat := by
    show (if h.1.1.1 = h.1.1.1 then (102, n.toNat) else _).2 = n.toNat
    rw [if_pos rfl]
  have hz := z_nat hn0 (by omega)
  refine va_newa C.1 C.2.1 (atype := .boolean) (ty := .boolean) (a0 := (n.toNat, .inl (fun _ => 0))) (C.2.2.2.2 _ (zTB_in hl rfl)) rfl a2.1 a1.2.1 zws_D a3 (fun q hq => by show B ≤ q; omega) (fun cA => rfl) hz.1 hz.2 (by simp only [componentBytes]; omega) (by omega) (by omega) hd (fun q cA H1 b0 b1 b2 b3 => ?_)
  refine zw_made (cA := cA) (ca := ca) (ln := 2) (t := 102) (n := n.toNat) hB hN zNewF_row zNewG_row ?_ (fun _ => b0.2 0 _ rfl) a2 a1 a4 a5 a6 a7 b1 b2 b3 kk
  rw [zce_int (t := 102) hkind (Or.inr (Or.inr rfl)), hlen]
  have e1 : (zNewS h.1 102 n.toNat, zNewF h.1 h.2.1, zNewG h.1 h.2.2).2.1 h.1.1.1 = fun _ => 0 := by
    funext j
    show (if h.1.1.1 = h.1.1.1 then (0 : Int) else _) = 0
    rw [if_pos rfl]
  rw [e1]
  simp only [if_pos]
  rfl
theorem zw_newJ (C : ZC p s m args c o cc nL) (hB : s.heap.size = B + N0) {n : Int} (hn0 : 0 ≤ n) (hn1 : n ≤ 100000) (hl : Cond.arrayClass .long ∈ tables_1) (hN : h.1.1.1 < 1000000) (hcells : h.1.1.1 + 1 ≤ N0 + R.cells) (hslots : h.1.1.2 + n.toNat ≤ S0 + R.slots) (hd : decode cc pc = .ok (.newarray .long, 2)) (kk : ZW p l e R s m args below meth c Q B ext D sc N0 S0 nL (pc + 2) (L) (zr (some h.1.1.1) :: st) ((zNewS h.1 103 n.toNat, zNewF h.1 h.2.1, zNewG h.1 h.2.2))) : ZW p l e R s m args below meth c Q B ext D sc N0 S0 nL (pc) (L) (zi n :: st) (h) := by
  intro ca H locs cells slots ls a1 a2 a3 a4 a5 a6 a7
  have hkind : ((zNewS h.1 103 n.toNat, zNewF h.1 h.2.1, zNewG h.1 h.2.2).1.2 h.1.1.1).1 = 103 := by
    show (if h.1.1.1 = h.1.1.1 then (103, n.toNat) else _).1 = 103
    rw [if_pos rfl]
  have hlen : ((zNewS h.1 103 n.toNat, zNewF h.1 h.2.1, zNewG h.1 h.2.2).1.2 h.1.1.1).2 = n.toNat := by
    show (if h.1.1.1 = h.1.1.1 then (103, n.toNat) else _).2 = n.toNat
    rw [if_pos rfl]
  have hz := z_nat hn0 (by omega)
  refine va_newa C.1 C.2.1 (atype := .long) (ty := .long) (a0 := (n.toNat, .inr (.inl (fun _ => 0)))) (C.2.2.2.2 _ (zTB_in hl rfl)) rfl a2.1 a1.2.1 zws_D a3 (fun q hq => by show B ≤ q; omega) (fun cA => rfl) hz.1 hz.2 (by simp only [componentBytes]; omega) (by omega) (by omega) hd (fun q cA H1 b0 b1 b2 b3 => ?_)
  refine zw_made (cA := cA) (ca := ca) (ln := 2) (t := 103) (n := n.toNat) hB hN zNewF_row zNewG_row ?_ (fun _ => b0.2 0 _ rfl) a2 a1 a4 a5 a6 a7 b1 b2 b3 kk
  rw [zce_long hkind, hlen]
  have e1 : (zNewS h.1 103 n.toNat, zNewF h.1 h.2.1, zNewG h.1 h.2.2).2.1 h.1.1.1 = fun _ => 0 := by
    funext j
    show (if h.1.1.1 = h.1.1.1 then (0 : Int) else _) = 0
    rw [if_pos rfl]
  rw [e1]
  simp only [if_pos]
  rfl
theorem zw_newR (C : ZC p s m args c o cc nL) (hB : s.heap.size = B + N0) {n : Int} {i t : Nat} (ht : 110 ≤ t) (hn0 : 0 ≤ n) (hn1 : n ≤ 100000) (hl : Cond.classLink (zRN o) i (zRX (t - 110)) ∈ tables_1) (hov : va_AO (zRX (t - 110)) s) (hN : h.1.1.1 < 1000000) (hcells : h.1.1.1 + 1 ≤ N0 + R.cells) (hslots : h.1.1.2 + n.toNat ≤ S0 + R.slots) (hd : decode cc pc = .ok (.anewarray i, 3)) (kk : ZW p l e R s m args below meth c Q B ext D sc N0 S0 nL (pc + 3) (L) (zr (some h.1.1.1) :: st) ((zNewS h.1 t n.toNat, zNewF h.1 h.2.1, zNewG h.1 h.2.2))) : ZW p l e R s m args below meth c Q B ext D sc N0 S0 nL (pc) (L) (zi n :: st) (h) := by
  intro ca H locs cells slots ls a1 a2 a3 a4 a5 a6 a7
  have hkind : ((zNewS h.1 t n.toNat, zNewF h.1 h.2.1, zNewG h.1 h.2.2).1.2 h.1.1.1).1 = t := by
    show (if h.1.1.1 = h.1.1.1 then (t, n.toNat) else _).1 = t
    rw [if_pos rfl]
  have hlen : ((zNewS h.1 t n.toNat, zNewF h.1 h.2.1, zNewG h.1 h.2.2).1.2 h.1.1.1).2 = n.toNat := by
    show (if h.1.1.1 = h.1.1.1 then (t, n.toNat) else _).2 = n.toNat
    rw [if_pos rfl]
  have hz := z_nat hn0 (by omega)
  refine va_newq C.1 C.2.1 C.2.2.2.1 (C.2.2.2.2 _ (zTB_in hl rfl)) hov a2.1 a1.2.1 zws_D a3 (fun q hq => by show B ≤ q; omega) hz.1 hz.2 (by omega) (by omega) (by omega) hd (fun q cA H1 b0 b1 b2 b3 => ?_)
  refine zw_made (cA := cA) (ca := ca) (ln := 3) (t := t) (n := n.toNat) hB hN zNewF_row zNewG_row ?_ (fun _ => by rw [zcomp_ref ht]; exact b0.2 0 _ rfl) a2 a1 a4 a5 a6 a7 b1 b2 b3 kk
  rw [zce_ref (t := t) hkind ht, hlen]
  have e1 : (zNewS h.1 t n.toNat, zNewF h.1 h.2.1, zNewG h.1 h.2.2).2.2 h.1.1.1 = fun _ => none := by
    funext j
    show (if h.1.1.1 = h.1.1.1 then none else _) = none
    rw [if_pos rfl]
  rw [e1]
  simp only [if_pos]
  rfl
theorem zcode_obj : Cond.code Lib.objectInit ⟨#[0xb1]⟩ 1 none ∈ tables_1 := List.mem_of_getElem? (i := 28) (by decide +kernel)
theorem zinst_obj : Cond.instanceMethod Lib.objectInit ∈ tables_1 := List.mem_of_getElem? (i := 27) (by decide +kernel)
theorem zw_objInit (C : ZC p s m args c o cc nL) {n : Nat} {k : Nat} (hl : Cond.methodLink (zRN o) n Lib.objectInit ∈ tables_1) (hR : 1 ≤ R.frames ∧ 60 ≤ R.locals) (hw : zwd st ≤ 8) (hd : decode cc pc = .ok (.invokespecial n, 3)) (kk : ZW p l e R s m args below meth c Q B ext D sc N0 S0 nL (pc + 3) (L) (st) (h)) : ZW p l e R s m args below meth c Q B ext D sc N0 S0 nL (pc) (L) (zr (some k) :: st) (h) := by
  intro ca H locs cells slots ls a1 a2 a3 a4 a5 a6 a7
  have K := kk ca H locs cells slots ls a1 a2 a3 a4 a5 a6 a7
  refine W.objInit C.1 C.2.1 C.2.2.2.1 (C.2.2.2.2 _ (zTB_in hl rfl)) (C.2.2.2.2 _ (zTB_in zinst_obj rfl)) (C.2.2.2.2 _ (zTB_in zcode_obj rfl)) (g := F0 m pc ls (zcv B ext (zr (some k)) :: st.map (zcv B ext))) rfl (by rw [C.2.2.1]; exact a6.1) (a := zad B ext k) (rest := st.map (zcv B ext)) rfl hd hR.1 ?_ K
  rw [zwd_eq]
  show 2 * 0 + zwd st + 12 ≤ R.locals
  omega
end ZNEW
