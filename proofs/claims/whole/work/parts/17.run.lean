/-! The small machine's runs, held against the machine's: a contract for every method -/
def ZMono (h h' : ZH) : Prop := h.1.1.1 ≤ h'.1.1.1 ∧ h.1.1.2 ≤ h'.1.1.2
theorem ZMono.rf (h : ZH) : ZMono h h := ⟨Nat.le_refl _, Nat.le_refl _⟩
theorem ZMono.trans {a b c : ZH} (h1 : ZMono a b) (h2 : ZMono b c) : ZMono a c := ⟨Nat.le_trans h1.1 h2.1, Nat.le_trans h1.2 h2.2⟩
theorem ZMono.of1 {h h' : ZH} (e : h'.1 = h.1) : ZMono h h' := by unfold ZMono; rw [e]; exact ⟨Nat.le_refl _, Nat.le_refl _⟩
theorem ZMono.new {h : ZH} {t n : Nat} {f : ZF} {g : ZG} : ZMono h (zNewS h.1 t n, f, g) := ⟨Nat.le_succ _, Nat.le_add_right _ _⟩
section ZMONO
variable {q1 : Nat} {L1 st1 : List ZV} {h1 : ZH}
theorem zgo_mono {q : Nat} {L st : List ZV} {h : ZH} (hx : zgo q L st h = some (.inl (q1, L1, st1, h1))) : ZMono h h1 := by
  unfold zgo at hx
  cases hx
  exact ZMono.rf _
theorem zgo_monoX {q : Nat} {L st : List ZV} {h h0 : ZH} (hx : zgo q L st h = some (.inl (q1, L1, st1, h1))) (e : h.1 = h0.1) : ZMono h0 h1 := by
  unfold zgo at hx
  cases hx
  exact ZMono.of1 e
theorem z_if_mono {c : Bool} {t q : Nat} {L st : List ZV} {h : ZH} (hx : z_if c t q L st h = some (.inl (q1, L1, st1, h1))) : ZMono h h1 := by
  unfold z_if at hx
  split at hx <;> exact zgo_mono hx
theorem z_get_mono {q a b c : Nat} {L st : List ZV} {h : ZH} (hx : z_get q a b c L st h = some (.inl (q1, L1, st1, h1))) : ZMono h h1 := by
  unfold z_get at hx
  split at hx
  · split at hx
    · split at hx
      · exact zgo_mono hx
      · split at hx <;> exact zgo_mono hx
    · cases hx
  · cases hx
theorem z_put_mono {q a b c : Nat} {L st : List ZV} {h : ZH} (hx : z_put q a b c L st h = some (.inl (q1, L1, st1, h1))) : ZMono h h1 := by
  unfold z_put at hx
  split at hx
  · split at hx
    · exact zgo_monoX hx rfl
    · cases hx
  · split at hx
    · exact zgo_monoX hx rfl
    · cases hx
  · split at hx
    · exact zgo_monoX hx rfl
    · cases hx
  · cases hx
theorem z_ald_mono {t q : Nat} {L st : List ZV} {h : ZH} (hx : z_ald t q L st h = some (.inl (q1, L1, st1, h1))) : ZMono h h1 := by
  unfold z_ald at hx
  split at hx
  · split at hx
    · split at hx
      · exact zgo_mono hx
      · split at hx <;> exact zgo_mono hx
    · cases hx
  · cases hx
theorem z_ast_mono {t q : Nat} {L st : List ZV} {h : ZH} (hx : z_ast t q L st h = some (.inl (q1, L1, st1, h1))) : ZMono h h1 := by
  unfold z_ast at hx
  split at hx
  · split at hx
    · exact zgo_monoX hx rfl
    · cases hx
  · split at hx
    · exact zgo_monoX hx rfl
    · cases hx
  · split at hx
    · exact zgo_monoX hx rfl
    · cases hx
  · cases hx
theorem z_new_mono {t n q : Nat} {L st : List ZV} {h : ZH} (hx : z_new t n q L st h = some (.inl (q1, L1, st1, h1))) : ZMono h h1 := by
  unfold z_new zgo at hx
  split at hx
  · cases hx
    exact ZMono.new
  · cases hx
theorem z_newa_mono {t q : Nat} {L st : List ZV} {h : ZH} (hx : z_newa t q L st h = some (.inl (q1, L1, st1, h1))) : ZMono h h1 := by
  unfold z_newa at hx
  split at hx
  · split at hx
    · exact z_new_mono hx
    · cases hx
  · cases hx
theorem z_len_mono {q : Nat} {L st : List ZV} {h : ZH} (hx : z_len q L st h = some (.inl (q1, L1, st1, h1))) : ZMono h h1 := by
  unfold z_len at hx
  split at hx
  · split at hx
    · exact zgo_mono hx
    · cases hx
  · cases hx
theorem z_bi_mono {d a q : Nat} {L st : List ZV} {h : ZH} (hx : z_bi d a q L st h = some (.inl (q1, L1, st1, h1))) : ZMono h h1 := by
  unfold z_bi at hx
  split at hx
  · split at hx
    · split at hx
      · exact zgo_mono hx
      · cases hx
    · cases hx
  · split at hx
    · split at hx
      · exact zgo_mono hx
      · cases hx
    · cases hx
  · split at hx
    · split at hx
      · exact zgo_mono hx
      · cases hx
    · cases hx
  · split at hx
    · split at hx
      · unfold zgo at hx
        cases hx
        exact ZMono.new
      · cases hx
    · cases hx
  · split at hx
    · split at hx
      · exact zgo_monoX hx rfl
      · cases hx
    · cases hx
  · cases hx
theorem z_cv_no {a b c q : Nat} {st : List ZV} {h : ZH} (hx : z_cv a b c q st h = some (.inl (q1, L1, st1, h1))) : False := by
  unfold z_cv at hx
  split at hx
  · split at hx <;> cases hx
  · cases hx
theorem z_cs_no {a b q : Nat} {st : List ZV} (hx : z_cs a b q st = some (.inl (q1, L1, st1, h1))) : False := by
  unfold z_cs at hx
  split at hx <;> cases hx
theorem z_ci_no {a b q : Nat} {st : List ZV} {h : ZH} (hx : z_ci a b q st h = some (.inl (q1, L1, st1, h1))) : False := by
  unfold z_ci at hx
  split at hx
  · split at hx <;> cases hx
  · cases hx
theorem zx_mono {d : Nat} {e : ZE} {pc : Nat} {L st : List ZV} {h : ZH} (hx : zx d e pc L st h = some (.inl (q1, L1, st1, h1))) : ZMono h h1 := by
  obtain ⟨i, q, a, b, cl, v⟩ := e
  cases i with
  | getfield n => exact z_get_mono hx
  | putfield n => exact z_put_mono hx
  | iaload => exact z_ald_mono hx
  | baload => exact z_ald_mono hx
  | laload => exact z_ald_mono hx
  | aaload => exact z_ald_mono hx
  | iastore => exact z_ast_mono hx
  | bastore => exact z_ast_mono hx
  | lastore => exact z_ast_mono hx
  | aastore => exact z_ast_mono hx
  | arraylength => exact z_len_mono hx
  | new n => exact z_new_mono hx
  | newarray n => exact z_newa_mono hx
  | anewarray n => exact z_newa_mono hx
  | goto off => exact zgo_mono hx
  | invokevirtual n =>
    simp only [zx] at hx
    split at hx
    · exact z_bi_mono hx
    · exact (z_cv_no hx).elim
  | invokestatic n =>
    simp only [zx] at hx
    split at hx
    · exact z_bi_mono hx
    · exact (z_cs_no hx).elim
  | invokespecial n =>
    simp only [zx] at hx
    split at hx
    · exact z_bi_mono hx
    · exact (z_ci_no hx).elim
  | ifCond cm off =>
    simp only [zx] at hx
    split at hx
    · exact z_if_mono hx
    · cases hx
  | if_icmp cm off =>
    simp only [zx] at hx
    split at hx
    · exact z_if_mono hx
    · cases hx
  | ifnull off =>
    simp only [zx] at hx
    split at hx
    · exact z_if_mono hx
    · cases hx
  | ifnonnull off =>
    simp only [zx] at hx
    split at hx
    · exact z_if_mono hx
    · cases hx
  | tableswitch dd lo hi offs =>
    simp only [zx] at hx
    split at hx
    · split at hx
      · exact zgo_mono hx
      · split at hx
        · exact zgo_mono hx
        · cases hx
    · cases hx
  | _ =>
    simp only [zx] at hx
    first
      | (split at hx <;> first | exact zgo_mono hx | (cases hx; done) | (split at hx <;> first | exact zgo_mono hx | (cases hx; done)))
      | (cases hx; done)
theorem zrun_mono {d : Nat} {call : Nat → List ZV → ZH → Option (Option ZV × ZH)} {T : ZT} (hcall : ∀ y as h r h', call y as h = some (r, h') → ZMono h h') : ∀ (n pc : Nat) (L st : List ZV) (h : ZH) (r : Option ZV) (h' : ZH), zrun d call T n pc L st h = some (r, h') → ZMono h h' := by
  intro n
  induction n with
  | zero => intro pc L st h r h' hr; cases hr
  | succ n ih =>
    intro pc L st h r h' hr
    unfold zrun at hr
    split at hr
    · cases hr
    · split at hr
      · cases hr
      · rename_i hx
        exact (zx_mono hx).trans (ih _ _ _ _ _ _ hr)
      · split at hr
        · cases hr
        · rename_i hc
          exact (hcall _ _ _ _ _ hc).trans (ih _ _ _ _ _ _ hr)
      · cases hr
        exact ZMono.rf _
theorem zev_mono {P : Nat → Nat × ZT} : ∀ (d n y : Nat) (as : List ZV) (h : ZH) (r : Option ZV) (h' : ZH), zev P d n y as h = some (r, h') → ZMono h h' := by
  intro d
  induction d with
  | zero => intro n y as h r h' hr; cases hr
  | succ d ih =>
    intro n y as h r h' hr
    unfold zev at hr
    split at hr
    · exact zrun_mono (fun y as h r h' => ih n y as h r h') _ _ _ _ _ _ _ hr
    · cases hr
end ZMONO
