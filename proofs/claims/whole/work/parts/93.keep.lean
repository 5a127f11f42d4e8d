/-! The machine leaves alone what lies beyond its cells: the script -/
def Kq (h h' : ZH) : Prop := h.1.1.1 ≤ 1000000 → (h'.1.1.1 ≤ 1000000 ∧ ∀ k, 1000000 ≤ k → h'.1.2 k = h.1.2 k ∧ h'.2.1 k = h.2.1 k)
theorem Kq.rf (h : ZH) : Kq h h := fun q => ⟨q, fun _ _ => ⟨rfl, rfl⟩⟩
theorem Kq.trans {a b c : ZH} (h1 : Kq a b) (h2 : Kq b c) : Kq a c := fun q => by
  obtain ⟨p1, p2⟩ := h1 q
  obtain ⟨p3, p4⟩ := h2 p1
  exact ⟨p3, fun k hk => ⟨(p4 k hk).1.trans (p2 k hk).1, (p4 k hk).2.trans (p2 k hk).2⟩⟩
theorem Kq.upF {h : ZH} {k i : Nat} {v : Int} (hk : k < h.1.1.1) : Kq h (h.1, up2 h.2.1 k i v, h.2.2) := fun q => ⟨q, fun c hc => ⟨rfl, up2_o _ _ (by omega)⟩⟩
theorem Kq.upG {h : ZH} {g' : ZG} : Kq h (h.1, h.2.1, g') := fun q => ⟨q, fun c hc => ⟨rfl, rfl⟩⟩
theorem Kq.new {h : ZH} {t n : Nat} (hl : h.1.1.1 < 1000000) {g' : ZG} : Kq h (zNewS h.1 t n, zNewF h.1 h.2.1, g') := fun _ => ⟨hl, fun c hc => ⟨if_neg (by omega), funext (fun j => if_neg (by omega))⟩⟩
/-- what one instruction leads to keeps it -/
def KO (h : ZH) (o : Option ZO) : Prop := ∀ q L st h', o = some (.inl (q, L, st, h')) → Kq h h'
theorem KO.none (h : ZH) : KO h none := fun _ _ _ _ e => by cases e
theorem KO.go {h h1 : ZH} {q : Nat} {L st : List ZV} (k : Kq h h1) : KO h (zgo q L st h1) := fun _ _ _ _ e => by
  unfold zgo at e
  cases e
  exact k
theorem KO.r {h : ZH} {x : (Nat × List ZV × Nat × List ZV) ⊕ Option ZV} : KO h (some (.inr x)) := fun _ _ _ _ e => by cases e
theorem KO.zif {h : ZH} {c : Bool} {t q : Nat} {L st : List ZV} : KO h (z_if c t q L st h) := by
  unfold z_if
  split <;> exact KO.go (Kq.rf h)
theorem KO.get {h : ZH} {q a b c : Nat} {L st : List ZV} : KO h (z_get q a b c L st h) := by
  unfold z_get
  repeat' split
  all_goals first | exact KO.none h | exact KO.go (Kq.rf h)
theorem KO.put {h : ZH} {q a b c : Nat} {L st : List ZV} : KO h (z_put q a b c L st h) := by
  unfold z_put
  split
  · split
    · rename_i e; exact KO.go (Kq.upF e.1.1)
    · exact KO.none h
  · split
    · rename_i e; exact KO.go (Kq.upF e.1.1)
    · exact KO.none h
  · split
    · exact KO.go Kq.upG
    · exact KO.none h
  · exact KO.none h
theorem KO.ald {h : ZH} {t q : Nat} {L st : List ZV} : KO h (z_ald t q L st h) := by
  unfold z_ald
  repeat' split
  all_goals first | exact KO.none h | exact KO.go (Kq.rf h)
theorem KO.ast {h : ZH} {t q : Nat} {L st : List ZV} : KO h (z_ast t q L st h) := by
  unfold z_ast
  split
  · split
    · rename_i e; exact KO.go (Kq.upF e.1.1.1)
    · exact KO.none h
  · split
    · rename_i e; exact KO.go (Kq.upF e.1.1.1)
    · exact KO.none h
  · split
    · exact KO.go Kq.upG
    · exact KO.none h
  · exact KO.none h
theorem KO.nw {h : ZH} {t n q : Nat} {L st : List ZV} : KO h (z_new t n q L st h) := by
  unfold z_new
  split
  · rename_i e; exact KO.go (Kq.new e)
  · exact KO.none h
theorem KO.nwa {h : ZH} {t q : Nat} {L st : List ZV} : KO h (z_newa t q L st h) := by
  unfold z_newa
  split
  · split
    · exact KO.nw
    · exact KO.none h
  · exact KO.none h
theorem KO.len {h : ZH} {q : Nat} {L st : List ZV} : KO h (z_len q L st h) := by
  unfold z_len
  repeat' split
  all_goals first | exact KO.none h | exact KO.go (Kq.rf h)
theorem KO.bi {h : ZH} {d a q : Nat} {L st : List ZV} : KO h (z_bi d a q L st h) := by
  unfold z_bi
  split
  · repeat' split
    all_goals first | exact KO.none h | exact KO.go (Kq.rf h)
  · repeat' split
    all_goals first | exact KO.none h | exact KO.go (Kq.rf h)
  · repeat' split
    all_goals first | exact KO.none h | exact KO.go (Kq.rf h)
  · split
    · split
      · rename_i e
        exact KO.go (fun _ => ⟨e.2.2.1, fun c hc => ⟨if_neg (by have := e.2.2.1; omega), funext (fun j => if_neg (by have := e.2.2.1; omega))⟩⟩)
      · exact KO.none h
    · exact KO.none h
  · split
    · split
      · rename_i e
        exact KO.go (fun q => ⟨q, fun c hc => ⟨rfl, zcpy_o (by have := e.2.1.1.1; omega)⟩⟩)
      · exact KO.none h
    · exact KO.none h
  · exact KO.none h
theorem KO.cv {h : ZH} {a b c q : Nat} {st : List ZV} : KO h (z_cv a b c q st h) := by
  unfold z_cv
  repeat' split
  all_goals first | exact KO.none h | exact KO.r
theorem KO.cs {h : ZH} {a b q : Nat} {st : List ZV} : KO h (z_cs a b q st) := by
  unfold z_cs
  repeat' split
  all_goals first | exact KO.none h | exact KO.r
theorem KO.ci {h : ZH} {a b q : Nat} {st : List ZV} : KO h (z_ci a b q st h) := by
  unfold z_ci
  repeat' split
  all_goals first | exact KO.none h | exact KO.r
theorem zx_ko {d : Nat} {e : ZE} {pc : Nat} {L st : List ZV} {h : ZH} : KO h (zx d e pc L st h) := by
  obtain ⟨i, q, a, b, c, v⟩ := e
  unfold zx
  repeat' split
  all_goals first | exact KO.none h | exact KO.go (Kq.rf h) | exact KO.r | exact KO.zif | exact KO.get | exact KO.put | exact KO.ald | exact KO.ast | exact KO.nw | exact KO.nwa | exact KO.len | exact KO.bi | exact KO.cv | exact KO.cs | exact KO.ci
theorem zrun_kq {d : Nat} {call : Nat → List ZV → ZH → Option (Option ZV × ZH)} {T : ZT} (hc : ∀ y as h r h', call y as h = some (r, h') → Kq h h') : ∀ (n pc : Nat) (L st : List ZV) (h : ZH) (r : Option ZV) (h' : ZH), zrun d call T n pc L st h = some (r, h') → Kq h h' := by
  intro n
  induction n with
  | zero => intro pc L st h r h' e; cases e
  | succ n ih =>
    intro pc L st h r h' e
    unfold zrun at e
    split at e
    · cases e
    · rename_i en _
      have hk := zx_ko (d := d) (e := en) (pc := pc) (L := L) (st := st) (h := h)
      split at e
      · cases e
      · rename_i q L' st' h1 ex
        exact (hk _ _ _ _ ex).trans (ih _ _ _ _ _ _ e)
      · split at e
        · cases e
        · rename_i r1 h1 ex
          exact (hc _ _ _ _ _ ex).trans (ih _ _ _ _ _ _ e)
      · cases e
        exact Kq.rf _
theorem zev_kq {P : Nat → Nat × ZT} : ∀ (d n y : Nat) (as : List ZV) (h : ZH) (r : Option ZV) (h' : ZH), zev P d n y as h = some (r, h') → Kq h h' := by
  intro d
  induction d with
  | zero => intro n y as h r h' e; cases e
  | succ d ih =>
    intro n y as h r h' e
    unfold zev at e
    split at e
    · exact zrun_kq (fun y as h r h' q => ih n y as h r h' q) _ _ _ _ _ _ _ e
    · cases e
/-- a call keeps it -/
theorem ZCt.kp {d y : Nat} {as : List ZV} {σ : ZS} {f : ZF} {g : ZG} {Q : ZQ} (hz : σ.1.1 ≤ 1000000) (h : ZCt d y as σ f g (fun r σ' f' g' => σ'.1.1 ≤ 1000000 → (∀ k, 1000000 ≤ k → σ'.2 k = σ.2 k ∧ f' k = f k) → Q r σ' f' g')) : ZCt d y as σ f g Q := by
  obtain ⟨n, r, σ', f', g', e, hq⟩ := h
  obtain ⟨h1, h2⟩ := zev_kq _ _ _ _ _ _ _ e hz
  exact ⟨n, r, σ', f', g', e, hq h1 h2⟩
