/-! What lies outside the small heap, and calls -/
def zlens : List Nat := [17, 3, 6, 2, 2, 53]
def zbyts : List (List Int32) := [(zstr 0).map Int32.ofInt, (zstr 1).map Int32.ofInt, (zstr 2).map Int32.ofInt, (zstr 3).map Int32.ofInt, (zstr 4).map Int32.ofInt, (zstr 5).map Int32.ofInt]
def ZSt (B : Nat) (ext adV : Nat → Nat) (U : State) (H : Heap) : Prop :=
  vk_S 6 zlens zbyts ext adV (zAr B) U H ∧ va_Z "java/lang/String" "COMPACT_STRINGS" "Z" (.int 1) (zAr B) U H ∧ va_Zq "jdk/internal/util/Preconditions" "SIOOBE_FORMATTER" "Ljava/util/function/BiFunction;" (zAr B) U H
def ZXt (B : Nat) (ext adV : Nat → Nat) (sc : Nat × (Nat → Int32)) (U : State) (H : Heap) : Prop :=
  (∀ o, ∀ q ∈ zCS o, vk_R (zRN o) q.1 (zTx q.2) (ext q.2) U) ∧ (∀ o, ∀ q ∈ zML o, q.2.2 = 3 → va_Nw (.methodLinkNest (zRN o) q.1 (zM q.2.1).1 "LetOff") U) ∧
  (va_AO (zRX 1) U ∧ va_AO (zRX 5) U ∧ va_AO (zRX 7) U) ∧ va_Nw (.castable "[I" "java/lang/Cloneable") U ∧ (va_X (ext 6) sc.1 sc.2 U H ∧ ext 6 < B) ∧ ZSt B ext adV U H
theorem ZXt.warm {B : Nat} {ext adV : Nat → Nat} {sc : Nat × (Nat → Int32)} {s U : State} {H : Heap} (hW : s.WarmedH U.vm) (h : ZXt B ext adV sc s H) : ZXt B ext adV sc U H := by
  obtain ⟨h1, h2, ⟨h3, h4, h5⟩, h6, ⟨h7, h8⟩, h9, h10, h11⟩ := h
  exact ⟨fun o q hq => (h1 o q hq).warm hW, fun o q hq h0 => (h2 o q hq h0).warmM hW, ⟨h3.moved hW.alike, h4.moved hW.alike, h5.moved hW.alike⟩, h6.warmC hW, ⟨h7.moved hW.alike, h8⟩, h9.moved hW.alike, h10.moved hW.alike, h11.moved hW.alike⟩
theorem ZXt.same {B : Nat} {ext adV : Nat → Nat} {sc : Nat × (Nat → Int32)} {u U : State} {H : Heap} (hv : u.vm = U.vm) (h : ZXt B ext adV sc u H) : ZXt B ext adV sc U H := by
  obtain ⟨h1, h2, ⟨h3, h4, h5⟩, h6, ⟨h7, h8⟩, h9, h10, h11⟩ := h
  have al : u.vm.Alike U.vm := by rw [← hv]; exact Vm.Alike.refl _
  exact ⟨fun o q hq => (h1 o q hq).same hv.symm, fun o q hq h0 => (h2 o q hq h0).same rfl hv, ⟨h3.moved al, h4.moved al, h5.moved al⟩, h6.same rfl hv, ⟨h7.moved al, h8⟩, h9.moved al, h10.moved al, h11.moved al⟩
theorem ZXt.kept {B : Nat} {ext adV : Nat → Nat} {sc : Nat × (Nat → Int32)} {U : State} {H H1 : Heap} (hq : ∀ a : Nat, a < H.size → ¬ zAr B a → H1[a]? = H[a]?) (h : ZXt B ext adV sc U H) : ZXt B ext adV sc U H1 := by
  obtain ⟨h1, h2, h3, h6, ⟨h7, h8⟩, h9, h10, h11⟩ := h
  have hl : ext 6 < H.size := by
    obtain ⟨scr, hs, -⟩ := h7
    exact (Array.getElem?_eq_some_iff.mp hs).1
  exact ⟨h1, h2, h3, h6, ⟨h7.kept (hq _ hl (by show ¬ B ≤ ext 6; omega)), h8⟩, h9.kept hq, h10.kept hq, h11.kept hq⟩
/-- a method's start and end, in the small machine's words -/
def ZPc (B : Nat) (ext adV : Nat → Nat) (D : va_G) (sc : Nat × (Nat → Int32)) (as : List ZV) (h : ZH) : Array Value → State → Prop :=
  va_Pc (as.map (zcv B ext)) (fun U => (∃ ca, ZP B ext D sc ca h U.heap ∧ ZK D ca h.1 U) ∧ U.heap.size = B + h.1.1.1 ∧ ZXt B ext adV sc U U.heap)
def ZQc (B : Nat) (ext : Nat → Nat) (D : va_G) (sc : Nat × (Nat → Int32)) (r : Option ZV) (h' : ZH) : Array Value → State → Outcome → State → Prop :=
  fun _ st oc t => oc = .returned (r.map (zcv B ext)) ∧ (∃ ca, ZP B ext D sc ca h' t.heap ∧ ZK D ca h'.1 t) ∧ va_F (zAr B) st t
def zrm (d mc ms : Nat) : Room := { frames := d, cells := mc, slots := ms, locals := 60 * d }
def zwsM (y : Nat) : List Jvm.Cond := Cond.code (zM y).1 (zM y).2.1 (zM y).2.2.1 (zM y).2.2.2.1 :: zTB
def ZMet (l : Launch) (B : Nat) (ext adV : Nat → Nat) (D : va_G) (sc : Nat × (Nat → Int32)) (d y : Nat) (as : List ZV) (h : ZH) (r : Option ZV) (h' : ZH) : Prop :=
  Met l (zM y).1 (zwsM y) (zrm d (h'.1.1.1 - h.1.1.1) (h'.1.1.2 - h.1.1.2)) (ZPc B ext adV D sc as h) (ZQc B ext D sc r h') (h'.1.1.1 - h.1.1.1) (h'.1.1.2 - h.1.1.2) (zAr B)
theorem ZPc.blind {B : Nat} {ext adV : Nat → Nat} {D : va_G} {sc : Nat × (Nat → Int32)} {as : List ZV} {h : ZH} : FrameBlind (ZPc B ext adV D sc as h) := by
  intro a U g mk q
  obtain ⟨h1, ⟨ca, hP, hK⟩, hs, hx⟩ := q
  exact ⟨h1, ⟨ca, hP, hK.moved (u := U) (U := U.calling g mk a) (Vm.Alike.refl U.vm)⟩, hs, hx.same (u := U) (U := U.calling g mk a) rfl⟩
theorem zgoodIn {ws : List Jvm.Cond} (h : ∀ w ∈ ws, w ∈ zTB) : GoodIn zTB ws := fun w hw => ⟨h w hw, good_of_word (zTB_good w (h w hw))⟩
theorem zwsM_in {y : Nat} (hy : y < 255) : ∀ w ∈ zwsM y, w ∈ zTB := by
  intro w hw
  rcases List.mem_cons.mp hw with rfl | hw
  · exact zTB_in (zMok_all y hy).1.1 rfl
  · exact hw
set_option maxRecDepth 100000 in
theorem zmaxL : ∀ y, y < 255 → (zM y).2.2.1 ≤ 41 := by decide +kernel
section ZCALL
variable {p : Program} {l : Launch} {e : Env} {R : Room} {s : State} {m : MethodId} {args : Array Value} {below : List Frame} {meth : Method} {c : Code} {Q : State → Prop}
variable {B : Nat} {ext adV : Nat → Nat} {D : va_G} {sc : Nat × (Nat → Int32)} {N0 S0 nL o pc : Nat} {cc : ByteArray} {L st : List ZV} {h h' : ZH} {r : Option ZV}
theorem zw_back {H : Heap} {locs : List Loc} {cells slots mc ms : Nat} {ls : Array Slot} {st0 rest : List Value} {a : Array Value}
    (hr : va_Run p l e R s m args below meth c H locs cells slots mc ms (F0 m pc ls st0) rest (ZQc B ext D sc r h' a) (zAr B)) (hS : va_S (zAr B) s.heap H locs)
    (kk : ∀ (ca : Nat → ClassId) (H1 : Heap) (locs1 : List Loc), ZP B ext D sc ca h' H1 → ZK D ca h'.1 s → va_S (zAr B) s.heap H1 locs1 → W p l e R s m args below meth c H1 locs1 (cells + mc) (slots + ms) Q (F0 m (pc + 3) ls ((r.map (zcv B ext)).toList ++ rest))) :
    W p l e R s m args below meth c H locs cells slots Q (F0 m pc ls st0) := by
  intro T hT X
  obtain ⟨v, st₀, t, T', L1, h0, X', hL, e1, e2, ⟨hv, ⟨ca, hP, hK⟩, hz, hk⟩, st1⟩ := hr T hT X
  have hv' : v = r.map (zcv B ext) := by cases hv; rfl
  subst hv'
  rw [h0] at hz hk
  have al : s.vm.Alike t.vm := by rw [← e2]; exact X'.warmed.alike
  obtain ⟨t2, b1, b2⟩ := kk ca T'.heap (locs ++ L1) (by rw [e1]; exact hP) (hK.moved al.symm)
    ⟨Nat.le_trans hS.1 (by rw [e1]; exact hz), fun q h1 h2 => by rw [e1, hk q (Nat.lt_of_lt_of_le h1 hS.1) h2]; exact hS.2.1 q h1 h2, fun q hq => by
      rcases List.mem_append.mp hq with h | h
      · exact hS.2.2 q h
      · exact hL q h⟩ T' rfl X'
  exact ⟨t2, st1 t2 b1, b2⟩
/-- what a callee finds -/
theorem zpre {ca : Nat → ClassId} {H : Heap} {locs : List Loc} {cells : Nat} {as : List ZV} (hX : ZXt B ext adV sc s s.heap) (hB : s.heap.size = B + N0) (a1 : ZP B ext D sc ca h H) (a2 : ZK D ca h.1 s) (a3 : va_S (zAr B) s.heap H locs) (a4 : cells + N0 = h.1.1.1) (hs : H.size ≤ s.heap.size + cells) :
    ∀ U : State, U.heap = H → s.WarmedH U.vm → ZPc B ext adV D sc as h (as.map (zcv B ext)).toArray U := by
  intro U hU hW
  have hlow := zlow a1.2.1 (Nat.le_trans (by omega) a3.1)
  exact ⟨rfl, ⟨ca, by rw [hU]; exact a1, a2.moved hW.alike⟩, by rw [hU]; omega, by rw [hU]; exact (hX.kept a3.2.1).warm hW⟩
theorem zroomC {d y : Nat} (hy : y < 255) (hR : d + 1 ≤ R.frames ∧ 60 * (d + 1) ≤ R.locals) {mc ms : Nat} : (zrm d mc ms).frames + 1 ≤ R.frames ∧ 8 + ((zM y).2.2.1 + 11) + (zrm d mc ms).locals ≤ R.locals := by
  have := zmaxL y hy
  refine ⟨?_, ?_⟩
  · show d + 1 ≤ R.frames
    omega
  · show 8 + ((zM y).2.2.1 + 11) + 60 * d ≤ R.locals
    omega
theorem zw_callV (C : ZC p s m args c o cc nL) (hX : ZXt B ext adV sc s s.heap) (hB : s.heap.size = B + N0) {n y d k : Nat} {As : List ZV} (hl : (n, y, 0) ∈ zML o) (hy : y < 255) (hv : znth zVl y = some true) (hi : znth zIl y = some true) (hn : zna y = some As.length) (hk : k < h.1.1.1) (hkc : (h.1.2 k).1 = (zM y).2.2.2.2) (hc12 : (zM y).2.2.2.2 < 12)
    (hM : ZMet l B ext adV D sc d y (zr (some k) :: As) h r h') (hR : d + 1 ≤ R.frames ∧ 60 * (d + 1) ≤ R.locals) (hmono : h.1.1.1 ≤ h'.1.1.1 ∧ h.1.1.2 ≤ h'.1.1.2) (hroom : h'.1.1.1 ≤ N0 + R.cells ∧ h'.1.1.2 ≤ S0 + R.slots) (hw : zwd st ≤ 8)
    (hd : decode cc pc = .ok (.invokevirtual n, 3)) (kk : ZW p l e R s m args below meth c Q B ext D sc N0 S0 nL (pc + 3) L (r.toList ++ st) h') : ZW p l e R s m args below meth c Q B ext D sc N0 S0 nL pc L (As.reverse ++ zr (some k) :: st) h := by
  intro ca H locs cells slots ls a1 a2 a3 a4 a5 a6 a7
  have hkk : k < 10000000 := by have := a1.1; omega
  obtain ⟨⟨ok1, ok2⟩, ok3, ok4, ok5, ok6⟩ := zMok_all y hy
  have hl1 : Cond.methodLink (zRN o) n (zM y).1 ∈ tables_1 := by
    have := zML_ok o (n, y, 0) hl
    simpa [zML_p] using this
  have hG : GoodIn zTB (wsV (zRN o) n (zM y).1.cls (zM y).1 (zwsM y)) := zgoodIn (fun w hw => by
    rcases List.mem_append.mp hw with h1 | h1
    · simp only [List.mem_cons, List.not_mem_nil, or_false] at h1
      rcases h1 with rfl | rfl | rfl | rfl
      · exact zTB_in hl1 rfl
      · exact zTB_in (zinst_all y hi) rfl
      · exact zTB_in' (zsel_all y hv) rfl
      · exact zTB_in ok2 rfl
    · exact zwsM_in hy w h1)
  have hcN : zRX (zM y).2.2.2.2 = (zM y).1.cls := by
    rw [ok4]
    exact zcases (P := fun c => zRX c = zRN c) hc12 rfl rfl rfl rfl rfl rfl rfl rfl rfl rfl rfl rfl
  have hst : (As.reverse ++ zr (some k) :: st).map (zcv B ext) = (As.map (zcv B ext)).reverse ++ .ref (B + k) :: st.map (zcv B ext) := by
    rw [List.map_append, List.map_cons, List.map_reverse, zcv_own hkk]
  have hargs : (zr (some k) :: As).map (zcv B ext) = Value.ref (B + k) :: As.map (zcv B ext) := by rw [List.map_cons, zcv_own hkk]
  rw [hst]
  refine W.bound fun hs => ?_
  have hpre := zpre (as := zr (some k) :: As) hX hB a1 a2 a3 a4 hs
  rw [hargs] at hpre
  refine zw_back (va_runV (y := (zM y).1) (own := zRN o) (C := (zM y).1.cls) (index := n) (bytes := (zM y).2.1) (maxL := (zM y).2.2.1) (ret := (zM y).2.2.2.1) (ws := zwsM y) (Ts := zTB) (cc := cc) (nL := nL) (b := B + k) (As := As.map (zcv B ext)) (rest := st.map (zcv B ext)) (n := As.length) ⟨C.1, C.2.1, C.2.2.1, C.2.2.2.1, C.2.2.2.2⟩ hM
    (cwV As.length C.2.2.2.2 hG rfl rfl rfl ⟨rfl, ok6.1, ok6.2, hn⟩ (zroomC hy hR)) ⟨ZPc.blind, ?_, hpre⟩ rfl (by simp) a6.1 rfl (lv_room (by rw [zwd_eq]; exact hw)) hd ⟨by omega, by omega⟩) a3 (fun ca1 H1 locs1 b1 b2 b3 => ?_)
  · have hr := va_recv (s := s) (tys := []) a2.1 a1.2.1 (ci := (zM y).2.2.2.2) (q := (zRX (zM y).2.2.2.2, zTX (zM y).2.2.2.2, znf (zM y).2.2.2.2)) (zcl_at hc12) (a := B + k) (q0 := k) (fs := _) (by rw [zws_at hk, zce_obj hkc hc12])
    rw [← hcN]
    exact hr
  · have K := kk ca1 H1 locs1 (cells + (h'.1.1.1 - h.1.1.1)) (slots + (h'.1.1.2 - h.1.1.2)) ls b1 b2 b3 (by omega) (by omega) a6 a7
    have e1 : (r.toList ++ st).map (zcv B ext) = (r.map (zcv B ext)).toList ++ st.map (zcv B ext) := by
      rw [List.map_append]
      cases r <;> rfl
    rw [e1] at K
    exact K
theorem zw_callS (C : ZC p s m args c o cc nL) (hX : ZXt B ext adV sc s s.heap) (hB : s.heap.size = B + N0) {n y d : Nat} {As : List ZV} (hl : (n, y, 1) ∈ zML o) (hy : y < 255) (hi : znth zIl y = some false) (hn : zna y = some As.length)
    (hM : ZMet l B ext adV D sc d y As h r h') (hR : d + 1 ≤ R.frames ∧ 60 * (d + 1) ≤ R.locals) (hmono : h.1.1.1 ≤ h'.1.1.1 ∧ h.1.1.2 ≤ h'.1.1.2) (hroom : h'.1.1.1 ≤ N0 + R.cells ∧ h'.1.1.2 ≤ S0 + R.slots) (hw : zwd st ≤ 8)
    (hd : decode cc pc = .ok (.invokestatic n, 3)) (kk : ZW p l e R s m args below meth c Q B ext D sc N0 S0 nL (pc + 3) L (r.toList ++ st) h') : ZW p l e R s m args below meth c Q B ext D sc N0 S0 nL pc L (As.reverse ++ st) h := by
  intro ca H locs cells slots ls a1 a2 a3 a4 a5 a6 a7
  obtain ⟨⟨ok1, ok2⟩, ok3, ok4, ok5, ok6⟩ := zMok_all y hy
  have hl1 : Cond.methodLink (zRN o) n (zM y).1 ∈ tables_1 := by
    have := zML_ok o (n, y, 1) hl
    simpa [zML_p] using this
  have hG : GoodIn zTB (va_wsS (zRN o) n (zM y).1 (zwsM y)) := zgoodIn (fun w hw => by
    rcases List.mem_append.mp hw with h1 | h1
    · simp only [List.mem_cons, List.not_mem_nil, or_false] at h1
      rcases h1 with rfl | rfl | rfl
      · exact zTB_in hl1 rfl
      · exact zTB_in (zstat_all y hi) rfl
      · exact zTB_in ok2 rfl
    · exact zwsM_in hy w h1)
  have hst : (As.reverse ++ st).map (zcv B ext) = (As.map (zcv B ext)).reverse ++ st.map (zcv B ext) := by
    rw [List.map_append, List.map_reverse]
  rw [hst]
  refine W.bound fun hs => ?_
  have hpre := zpre (as := As) hX hB a1 a2 a3 a4 hs
  refine zw_back (va_runS (y := (zM y).1) (own := zRN o) (index := n) (bytes := (zM y).2.1) (maxL := (zM y).2.2.1) (ret := (zM y).2.2.2.1) (ws := zwsM y) (Ts := zTB) (cc := cc) (nL := nL) (As := As.map (zcv B ext)) (rest := st.map (zcv B ext)) (n := As.length) ⟨C.1, C.2.1, C.2.2.1, C.2.2.2.1, C.2.2.2.2⟩ hM
    (va_cwS As.length C.2.2.2.2 hG rfl rfl rfl ⟨ok6.1, ok6.2, hn⟩ (zroomC hy hR)) ⟨ZPc.blind, hpre⟩ rfl (by simp) a6.1 rfl (lv_room (by rw [zwd_eq]; exact hw)) hd ⟨by omega, by omega⟩) a3 (fun ca1 H1 locs1 b1 b2 b3 => ?_)
  have K := kk ca1 H1 locs1 (cells + (h'.1.1.1 - h.1.1.1)) (slots + (h'.1.1.2 - h.1.1.2)) ls b1 b2 b3 (by omega) (by omega) a6 a7
  have e1 : (r.toList ++ st).map (zcv B ext) = (r.map (zcv B ext)).toList ++ st.map (zcv B ext) := by
    rw [List.map_append]
    cases r <;> rfl
  rw [e1] at K
  exact K
theorem zw_callI (C : ZC p s m args c o cc nL) (hX : ZXt B ext adV sc s s.heap) (hB : s.heap.size = B + N0) {n y d k : Nat} {As : List ZV} (hl : (n, y, 2) ∈ zML o ∨ (n, y, 3) ∈ zML o) (hy : y < 255) (hi : znth zIl y = some true) (hin : (zM y).1.name = "<init>") (hret : (zM y).2.2.2.1 = none) (hn : zna y = some As.length) (hk0 : k < h.1.1.1)
    (hM : ZMet l B ext adV D sc d y (zr (some k) :: As) h r h') (hR : d + 1 ≤ R.frames ∧ 60 * (d + 1) ≤ R.locals) (hmono : h.1.1.1 ≤ h'.1.1.1 ∧ h.1.1.2 ≤ h'.1.1.2) (hroom : h'.1.1.1 ≤ N0 + R.cells ∧ h'.1.1.2 ≤ S0 + R.slots) (hw : zwd st ≤ 8)
    (hd : decode cc pc = .ok (.invokespecial n, 3)) (kk : ZW p l e R s m args below meth c Q B ext D sc N0 S0 nL (pc + 3) L (r.toList ++ st) h') : ZW p l e R s m args below meth c Q B ext D sc N0 S0 nL pc L (As.reverse ++ zr (some k) :: st) h := by
  intro ca H locs cells slots ls a1 a2 a3 a4 a5 a6 a7
  have hk : k < 10000000 := by have := a1.1; omega
  obtain ⟨⟨ok1, ok2⟩, ok3, ok4, ok5, ok6⟩ := zMok_all y hy
  have hst : (As.reverse ++ zr (some k) :: st).map (zcv B ext) = (As.map (zcv B ext)).reverse ++ .ref (B + k) :: st.map (zcv B ext) := by
    rw [List.map_append, List.map_cons, List.map_reverse, zcv_own hk]
  have hargs : (zr (some k) :: As).map (zcv B ext) = Value.ref (B + k) :: As.map (zcv B ext) := by rw [List.map_cons, zcv_own hk]
  rw [hst]
  refine W.bound fun hs => ?_
  have hpre := zpre (as := zr (some k) :: As) hX hB a1 a2 a3 a4 hs
  rw [hargs] at hpre
  have hws : zwsM y = Cond.code (zM y).1 (zM y).2.1 (zM y).2.2.1 none :: zTB := by
    unfold zwsM
    rw [hret]
  have KK : ∀ (ca1 : Nat → ClassId) (H1 : Heap) (locs1 : List Loc), ZP B ext D sc ca1 h' H1 → ZK D ca1 h'.1 s → va_S (zAr B) s.heap H1 locs1 → W p l e R s m args below meth c H1 locs1 (cells + (h'.1.1.1 - h.1.1.1)) (slots + (h'.1.1.2 - h.1.1.2)) Q (F0 m (pc + 3) ls ((r.map (zcv B ext)).toList ++ st.map (zcv B ext))) := by
    intro ca1 H1 locs1 b1 b2 b3
    have K := kk ca1 H1 locs1 (cells + (h'.1.1.1 - h.1.1.1)) (slots + (h'.1.1.2 - h.1.1.2)) ls b1 b2 b3 (by omega) (by omega) a6 a7
    have e1 : (r.toList ++ st).map (zcv B ext) = (r.map (zcv B ext)).toList ++ st.map (zcv B ext) := by
      rw [List.map_append]
      cases r <;> rfl
    rw [e1] at K
    exact K
  rcases hl with hl | hl
  · have hl1 : Cond.methodLink (zRN o) n (zM y).1 ∈ tables_1 := by
      have := zML_ok o (n, y, 2) hl
      simpa [zML_p] using this
    exact zw_back (va_runI (y := (zM y).1) (own := zRN o) (index := n) (bytes := (zM y).2.1) (maxL := (zM y).2.2.1) (ws := zwsM y) (Ts := zTB) (cc := cc) (nL := nL) (b := B + k) (As := As.map (zcv B ext)) (rest := st.map (zcv B ext)) (n := As.length) ⟨C.1, C.2.1, C.2.2.1, C.2.2.2.1, C.2.2.2.2⟩ hM
      (cwI As.length C.2.2.2.2 (zgoodIn (zwsM_in hy)) hws rfl rfl (C.2.2.2.2 _ (zTB_in ok2 rfl)) (C.2.2.2.2 _ (zTB_in hl1 rfl)) (C.2.2.2.2 _ (zTB_in (zinst_all y hi) rfl)) hin ⟨ok6.1, ok6.2, hn⟩ (zroomC hy hR)) ⟨ZPc.blind, hpre⟩ rfl (by simp) a6.1 rfl (lv_room (by rw [zwd_eq]; exact hw)) hd ⟨by omega, by omega⟩) a3 KK
  · have hnest := hX.2.1 o (n, y, 3) hl rfl
    exact zw_back (va_runIN (y := (zM y).1) (own := zRN o) (host := "LetOff") (index := n) (bytes := (zM y).2.1) (maxL := (zM y).2.2.1) (ws := zwsM y) (Ts := zTB) (cc := cc) (nL := nL) (b := B + k) (As := As.map (zcv B ext)) (rest := st.map (zcv B ext)) (n := As.length) ⟨C.1, C.2.1, C.2.2.1, C.2.2.2.1, C.2.2.2.2⟩ hM
      ⟨va_cnB As.length C.2.2.2.2 (zgoodIn (zwsM_in hy)) hws rfl rfl hnest (C.2.2.2.2 _ (zTB_in ok2 rfl)) ⟨ok6.1, ok6.2, hn⟩ (zroomC hy hR), hin, C.2.2.2.2 _ (zTB_in (zinst_all y hi) rfl)⟩ ⟨ZPc.blind, hpre⟩ rfl (by simp) a6.1 rfl (lv_room (by rw [zwd_eq]; exact hw)) hd ⟨by omega, by omega⟩) a3 KK
end ZCALL
