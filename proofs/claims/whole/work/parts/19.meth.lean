/-! Every method that the small machine can run keeps its contract -/
theorem zrc0 {t : Option FieldType} (h : zrc t = 0) : t = none := by
  cases t with
  | none => rfl
  | some t => cases t <;> cases h
theorem zrc1 {t : Option FieldType} (h : zrc t = 1) : t = some .int := by
  cases t with
  | none => cases h
  | some t => cases t <;> first | rfl | cases h
theorem zrc2 {t : Option FieldType} (h : zrc t = 2) : t = some .boolean := by
  cases t with
  | none => cases h
  | some t => cases t <;> first | rfl | cases h
theorem zrc3 {t : Option FieldType} (h : zrc t = 3) : t = some .long := by
  cases t with
  | none => cases h
  | some t => cases t <;> first | rfl | cases h
theorem zrc4 {t : Option FieldType} (h : zrc t = 4) : ∃ u, t = some u ∧ ((∃ n, u = .object n) ∨ ∃ w, u = .array w) := by
  cases t with
  | none => cases h
  | some t => cases t <;> first | exact ⟨_, rfl, Or.inl ⟨_, rfl⟩⟩ | exact ⟨_, rfl, Or.inr ⟨_, rfl⟩⟩ | cases h
theorem zlv_app {B : Nat} {ext : Nat → Nat} : ∀ (L1 L2 : List ZV) (i : Nat), zlv B ext i (L1 ++ L2) = zlv B ext i L1 ++ zlv B ext (i + L1.length) L2 := by
  intro L1
  induction L1 with
  | nil => intro L2 i; rfl
  | cons u t ih =>
    intro L2 i
    show (if znu u = true then (i, zcv B ext u) :: zlv B ext (i + 1) (t ++ L2) else zlv B ext (i + 1) (t ++ L2)) = (if znu u = true then (i, zcv B ext u) :: zlv B ext (i + 1) t else zlv B ext (i + 1) t) ++ _
    rw [ih, List.length_cons, show i + (t.length + 1) = i + 1 + t.length by omega]
    split <;> simp
theorem zlv_rep {B : Nat} {ext : Nat → Nat} : ∀ (n i : Nat), zlv B ext i (List.replicate n zu) = [] := by
  intro n
  induction n with
  | zero => intro i; rfl
  | succ n ih =>
    intro i
    rw [List.replicate_succ]
    show (if znu zu = true then _ else zlv B ext (i + 1) (List.replicate n zu)) = []
    rw [ih]
    rfl
theorem zlv_args {B : Nat} {ext : Nat → Nat} : ∀ (as : List ZV) (i : Nat), ∀ q ∈ zlv B ext i (zargs as), q ∈ lv_args i (as.map (zcv B ext)) := by
  intro as
  induction as with
  | nil => intro i q hq; cases hq
  | cons u t ih =>
    intro i q hq
    rcases u with x | x | x | x
    · have hq' : q ∈ (i, zcv B ext (zi x)) :: zlv B ext (i + 1) (zargs t) := hq
      show q ∈ (i, zcv B ext (zi x)) :: lv_args (i + 1) (t.map (zcv B ext))
      rcases List.mem_cons.mp hq' with h | h
      · exact List.mem_cons.mpr (Or.inl h)
      · exact List.mem_cons.mpr (Or.inr (ih _ _ h))
    · have hq' : q ∈ (i, zcv B ext (zl x)) :: zlv B ext (i + 1 + 1) (zargs t) := hq
      show q ∈ (i, zcv B ext (zl x)) :: lv_args (i + 2) (t.map (zcv B ext))
      rcases List.mem_cons.mp hq' with h | h
      · exact List.mem_cons.mpr (Or.inl h)
      · exact List.mem_cons.mpr (Or.inr (ih _ _ h))
    · have hq' : q ∈ (i, zcv B ext (zr x)) :: zlv B ext (i + 1) (zargs t) := hq
      have e : lv_args i (((zr x) :: t).map (zcv B ext)) = (i, zcv B ext (zr x)) :: lv_args (i + 1) (t.map (zcv B ext)) := by
        show (i, zcv B ext (zr x)) :: lv_args (if (zcv B ext (zr x)).category = 2 then i + 2 else i + 1) _ = _
        rw [if_neg (by rw [zcat1r]; omega)]
      show q ∈ lv_args i (((zr x) :: t).map (zcv B ext))
      rw [e]
      rcases List.mem_cons.mp hq' with h | h
      · exact List.mem_cons.mpr (Or.inl h)
      · exact List.mem_cons.mpr (Or.inr (ih _ _ h))
    · have hq' : q ∈ zlv B ext (i + 1) (zargs t) := hq
      show q ∈ (i, Value.null) :: lv_args (i + 1) (t.map (zcv B ext))
      exact List.mem_cons.mpr (Or.inr (ih _ _ hq'))
theorem zsl_len {B : Nat} {ext : Nat → Nat} : ∀ as : List ZV, (lg_sl (as.map (zcv B ext))).length = (zargs as).length := by
  intro as
  induction as with
  | nil => rfl
  | cons u t ih =>
    have e : lg_sl ((u :: t).map (zcv B ext)) = (if (zcv B ext u).category = 2 then [Slot.val (zcv B ext u), .second] else [.val (zcv B ext u)]) ++ lg_sl (t.map (zcv B ext)) := by
      unfold lg_sl
      rw [List.map_cons, List.flatMap_cons]
    rw [e, List.length_append, ih]
    rcases u with x | x | x | x
    · show 1 + _ = (zi x :: zargs t).length
      rw [List.length_cons]; omega
    · show 2 + _ = (zl x :: zu :: zargs t).length
      rw [List.length_cons, List.length_cons]; omega
    · rw [if_neg (by have := zcat1r (B := B) (ext := ext) x; show ¬ (zcv B ext (zr x)).category = 2; omega)]
      show 1 + _ = (zr x :: zargs t).length
      rw [List.length_cons]; omega
    · show 1 + _ = (zu :: zargs t).length
      rw [List.length_cons]; omega
theorem zent_len {n : Nat} {as : List ZV} (h : (zargs as).length ≤ n) : (zent n as).length = n := by
  unfold zent
  rw [List.length_append, List.length_replicate]
  omega
theorem zent_has {B : Nat} {ext : Nat → Nat} {n : Nat} {as : List ZV} (h : (zargs as).length ≤ n) : lv_has ((lg_sl (as.map (zcv B ext)) ++ List.replicate (n - (lg_sl (as.map (zcv B ext))).length) Slot.unset).toArray) n (zlv B ext 0 (zent n as)) := by
  have h1 := lv_entry (as.map (zcv B ext)) (n := n) (by rw [zsl_len]; exact h)
  refine ⟨h1.1, h1.2.1, fun q hq => h1.2.2 q ?_⟩
  unfold zent at hq
  rw [zlv_app, zlv_rep, List.append_nil] at hq
  exact zlv_args as 0 q hq
section ZEV
variable {l : Launch} {B : Nat} {ext adV : Nat → Nat} {D : va_G} {sc : Nat × (Nat → Int32)}
theorem zret {p : Program} {e : Env} {R : Room} {s : State} {m : MethodId} {args : Array Value} {below : List Frame} {meth : Method} {c : Code} {N0 S0 nL o : Nat} {cc : ByteArray} {ini : Bool} {rc d mc ms : Nat} {rt : Option FieldType} {r : Option ZV} {hf : ZH} (C : ZC p s m args c o cc nL) (hlocks : meth.locks = false) (hr : meth.sig.returnType = rt) (hrc : zrc rt = rc) (hmc : mc + N0 = hf.1.1.1) (hms : ms + S0 = hf.1.1.2)
    (pc : Nat) (L st : List ZV) (en : ZE) (hck : zck o ini rc cc pc en = true) (hx : zx d en pc L st hf = some (.inr (.inr r))) : ZW p l e R s m args below meth c (MQ below (ZQc B ext D sc r hf) args s mc ms (zAr B)) B ext D sc N0 S0 nL pc L st hf := by
  intro ca H locs cells slots ls a1 a2 a3 a4 a5 a6 a7
  have ec : cells = mc := by omega
  have es : slots = ms := by omega
  subst ec
  subst es
  have hq : ∀ oc : Outcome, oc = .returned (r.map (zcv B ext)) → ∀ t : State, t.heap = H → s.WarmedH t.vm → ZQc B ext D sc r hf args s oc t := by
    intro oc ho t ht hW
    exact ⟨ho, ⟨ca, by rw [ht]; exact a1, a2.moved hW.alike⟩, a3.F ht⟩
  obtain ⟨i, q, a, b, cl, v⟩ := en
  cases i with
  | return_ =>
    obtain ⟨hd, hI⟩ := zck_dec hck rfl
    simp only [zckI, beq_iff_eq] at hI
    simp only [zx] at hx
    split at hx
    · rename_i hc
      cases hx
      obtain ⟨hc0, rfl⟩ := hc
      have hr' : meth.sig.returnType = none := by rw [hr]; exact zrc0 (by omega)
      exact W.vret C.1 C.2.1 hr' (hq _ rfl) a3.2.2 hd
    · cases hx
  | ireturn =>
    obtain ⟨hd, hI⟩ := zck_dec hck rfl
    simp only [zckI, beq_iff_eq] at hI
    simp only [zx] at hx
    split at hx
    · split at hx
      · rename_i x hc
        cases hx
        rcases hc with hc | ⟨hc, h01⟩
        · have hr' : meth.sig.returnType = some .int := by rw [hr]; exact zrc1 (by omega)
          exact W.iret C.1 C.2.1 hr' (hq _ rfl) a3.2.2 hd
        · have hr' : meth.sig.returnType = some .boolean := by rw [hr]; exact zrc2 (by omega)
          refine W.zret C.1 C.2.1 hr' ?_ (hq _ rfl) a3.2.2 hd
          show Value.int (Int32.ofInt x &&& 1) = Value.int (Int32.ofInt x)
          rcases h01 with rfl | rfl <;> decide
      · cases hx
    · cases hx
  | lreturn =>
    obtain ⟨hd, hI⟩ := zck_dec hck rfl
    simp only [zckI, beq_iff_eq] at hI
    simp only [zx] at hx
    split at hx
    · split at hx
      · cases hx
        have hr' : meth.sig.returnType = some .long := by rw [hr]; exact zrc3 (by omega)
        exact W.lret C.1 C.2.1 hr' (hq _ rfl) a3.2.2 hd
      · cases hx
    · cases hx
  | areturn =>
    obtain ⟨hd, hI⟩ := zck_dec hck rfl
    simp only [zckI, beq_iff_eq] at hI
    simp only [zx] at hx
    split at hx
    · split at hx
      · rename_i x hc
        cases hx
        obtain ⟨u, hu, hk⟩ := zrc4 (t := rt) (by omega)
        have hr' : meth.sig.returnType = some u := by rw [hr]; exact hu
        exact W.aret C.1 C.2.1 hr' hk (by cases x with | none => exact Or.inl rfl | some x => exact Or.inr ⟨_, rfl⟩) (hq _ rfl) a3.2.2 hd
      · cases hx
    · cases hx
  | invokevirtual nn =>
    exfalso
    simp only [zx, z_bi, z_cv, zgo] at hx
    repeat' (first | (cases hx; done) | split at hx)
  | invokestatic nn =>
    exfalso
    simp only [zx, z_bi, z_cs, zgo] at hx
    repeat' (first | (cases hx; done) | split at hx)
  | invokespecial nn =>
    exfalso
    simp only [zx, z_bi, z_ci, zgo] at hx
    repeat' (first | (cases hx; done) | split at hx)
  | _ =>
    exfalso
    simp only [zx, z_get, z_put, z_ald, z_ast, z_len, z_new, z_newa, z_if, zgo] at hx
    repeat' (first | (cases hx; done) | split at hx)
theorem zev_sound (hck : ∀ y, y < 255 → zckM y = true) : ∀ (d n y : Nat) (as : List ZV) (h : ZH) (r : Option ZV) (h' : ZH), zev zP d n y as h = some (r, h') → ZMono h h' ∧ (y < 255 → ZMet l B ext adV D sc d y as h r h') := by
  intro d
  induction d with
  | zero => intro n y as h r h' hr; cases hr
  | succ d ih =>
    intro n y as h r h' hr
    refine ⟨zev_mono _ _ _ _ _ _ _ hr, fun hy => ?_⟩
    have hm := zev_mono _ _ _ _ _ _ _ hr
    have hM := hck y hy
    unfold zckM at hM
    simp only [Bool.and_eq_true, beq_iff_eq] at hM
    obtain ⟨hT, hnL⟩ := hM
    obtain ⟨⟨ok1, ok2⟩, ok3, ok4, ok5, ok6⟩ := zMok_all y hy
    unfold zev at hr
    split at hr
    · rename_i hlen
      refine va_MetF (cc := (zM y).2.1) (maxL := (zM y).2.2.1) (ret := (zM y).2.2.2.1) ok5 rfl ?_
      intro p e s m args below meth c s₁ Bd hml hv
      obtain ⟨rfl, ⟨ca, hP, hK⟩, hs, hX⟩ := hv
      have hts : ∀ w ∈ zTB, w.before (as.map (zcv B ext)).toArray s = true := fun w hw => atoms_spec (ws := zwsM y) Bd.pre w (List.mem_cons_of_mem _ hw)
      have hown : s.vm.findClass (zRN (zM y).2.2.2.2) = some m.cls := by
        rw [← ok4]
        exact findClass_of_methodNamed Bd.named
      have C : ZC p s m (as.map (zcv B ext)).toArray c (zM y).2.2.2.2 (zM y).2.1 (zM y).2.2.1 := ⟨Bd.exec, Bd.bytes, hml, hown, hts⟩
      have hnm : ((zM y).1.name == "<init>") = true → meth.name = "<init>" := by
        intro hh
        have h1 : meth.name = (zM y).1.name := (name_of_methodNamed Bd.named Bd.method).1
        rw [h1]
        exact beq_iff_eq.mp hh
      rw [hnL] at hr hlen
      have hW := zrun_sound (l := l) (Q := MQ below (ZQc B ext D sc r h') (as.map (zcv B ext)).toArray s (h'.1.1.1 - h.1.1.1) (h'.1.1.2 - h.1.1.2) (zAr B)) (R := (headSpec (zwsM y) (zrm (d + 1) (h'.1.1.1 - h.1.1.1) (h'.1.1.2 - h.1.1.2))).room) (N0 := h.1.1.1) (S0 := h.1.1.2) (e := e) (below := below) (hf := h') C hX hs hnm hT ⟨Nat.le_refl _, Nat.le_refl _⟩ (fun y as h r h' q => ih n y as h r h' q) ⟨by show h'.1.1.1 ≤ h.1.1.1 + (h'.1.1.1 - h.1.1.1); omega, by show h'.1.1.2 ≤ h.1.1.2 + (h'.1.1.2 - h.1.1.2); omega⟩
        (fun pc L st en hc hx => zret C Bd.notSynchronized Bd.returns rfl (by have := hm.1; omega) (by have := hm.2; omega) pc L st en hc hx) n 0 _ _ _ hr
      rw [lg_entry_eq]
      exact hW ca s.heap [] 0 0 _ hP hK va_S.rf (by omega) (by omega) (zent_has hlen) (zent_len hlen)
    · cases hr
end ZEV
