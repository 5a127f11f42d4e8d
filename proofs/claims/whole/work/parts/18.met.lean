/-! From runs of the small machine to contracts of the machine -/
section ZRUN
variable {p : Program} {l : Launch} {e : Env} {R : Room} {s : State} {m : MethodId} {args : Array Value} {below : List Frame} {meth : Method} {c : Code} {Q : State → Prop}
variable {B : Nat} {ext adV : Nat → Nat} {D : va_G} {sc : Nat × (Nat → Int32)} {N0 S0 nL o : Nat} {cc : ByteArray}
theorem zsplit {st As : List ZV} {b : Nat} {x : ZV} (h : (st.take b).reverse = x :: As) : st = As.reverse ++ x :: st.drop b := by
  have h1 : st.take b = As.reverse ++ [x] := by
    have := congrArg List.reverse h
    rwa [List.reverse_reverse, List.reverse_cons] at this
  calc st = st.take b ++ st.drop b := (List.take_append_drop b st).symm
    _ = As.reverse ++ x :: st.drop b := by rw [h1]; simp
theorem zsplitS {st : List ZV} {b : Nat} : st = (st.take b).reverse.reverse ++ st.drop b := by
  rw [List.reverse_reverse, List.take_append_drop]
theorem zlenA {st As : List ZV} {b : Nat} {x : ZV} (h : (st.take b).reverse = x :: As) (hb : b ≤ st.length) : As.length = b - 1 := by
  have := congrArg List.length h
  rw [List.length_reverse, List.length_take, List.length_cons] at this
  omega
theorem zrun_sound {ini : Bool} {rc d : Nat} {T : ZT} {call : Nat → List ZV → ZH → Option (Option ZV × ZH)} (C : ZC p s m args c o cc nL) (hX : ZXt B ext adV sc s s.heap) (hB : s.heap.size = B + N0) (hnm : ini = true → meth.name = "<init>") (hT : zckT o ini rc cc 0 T = true) (hR : d + 1 ≤ R.frames ∧ 60 * (d + 1) ≤ R.locals)
    (hcall : ∀ y as h r h', call y as h = some (r, h') → ZMono h h' ∧ (y < 255 → ZMet l B ext adV D sc d y as h r h'))
    {r : Option ZV} {hf : ZH} (hroom : hf.1.1.1 ≤ N0 + R.cells ∧ hf.1.1.2 ≤ S0 + R.slots)
    (fin : ∀ (pc : Nat) (L st : List ZV) (en : ZE), zck o ini rc cc pc en = true → zx d en pc L st hf = some (.inr (.inr r)) → ZW p l e R s m args below meth c Q B ext D sc N0 S0 nL pc L st hf) :
    ∀ (n pc : Nat) (L st : List ZV) (h : ZH), zrun d call T n pc L st h = some (r, hf) → ZW p l e R s m args below meth c Q B ext D sc N0 S0 nL pc L st h := by
  intro n
  induction n with
  | zero => intro pc L st h hr; cases hr
  | succ n ih =>
    intro pc L st h hr
    have hmono := zrun_mono (fun y as h r h' q => (hcall y as h r h' q).1) _ _ _ _ _ _ _ hr
    have hr0 : h.1.1.1 ≤ N0 + R.cells ∧ h.1.1.2 ≤ S0 + R.slots := ⟨Nat.le_trans hmono.1 hroom.1, Nat.le_trans hmono.2 hroom.2⟩
    unfold zrun at hr
    split at hr
    · cases hr
    · rename_i en hlk
      have hck := zck_at hT hlk
      split at hr
      · cases hr
      · rename_i q L1 st1 h1 hx
        have hm1 := zrun_mono (fun y as h r h' q => (hcall y as h r h' q).1) _ _ _ _ _ _ _ hr
        obtain ⟨i, q0, a, b, cl, v⟩ := en
        exact zx_next C hX hB hnm hck hR hx hr0 ⟨Nat.le_trans hm1.1 hroom.1, Nat.le_trans hm1.2 hroom.2⟩ (ih _ _ _ _ hr)
      · rename_i y as q st1 hx
        split at hr
        · cases hr
        · rename_i r1 h1 hc
          obtain ⟨hm0, hmet⟩ := hcall _ _ _ _ _ hc
          have hm1 := zrun_mono (fun y as h r h' q => (hcall y as h r h' q).1) _ _ _ _ _ _ _ hr
          have hr1 : h1.1.1.1 ≤ N0 + R.cells ∧ h1.1.1.2 ≤ S0 + R.slots := ⟨Nat.le_trans hm1.1 hroom.1, Nat.le_trans hm1.2 hroom.2⟩
          have K := ih _ _ _ _ hr
          obtain ⟨i, q0, a, b, cl, v⟩ := en
          cases i with
          | invokevirtual nn =>
            obtain ⟨hd, hI⟩ := zck_dec hck rfl
            simp only [zx] at hx
            split at hx
            · unfold z_bi at hx
              repeat' (first | (cases hx; done) | (unfold zgo at hx; cases hx; done) | split at hx)
            · rename_i ha
              simp only [zckI, Bool.and_eq_true, beq_iff_eq] at hI
              obtain ⟨rfl, hI⟩ := hI
              rw [if_neg ha] at hI
              simp only [Bool.and_eq_true, beq_iff_eq, decide_eq_true_eq] at hI
              obtain ⟨⟨⟨⟨⟨⟨i1, i2, i3⟩, i4⟩, i5⟩, i6⟩, i7⟩, i8⟩ := hI
              unfold z_cv at hx
              split at hx
              · rename_i k As hrev
                split at hx
                · rename_i hk
                  cases hx
                  have hlen := zlenA hrev hk.1.1
                  rw [zsplit hrev]
                  subst i2
                  exact zw_callV C hX hB (zelem3 i1) i6 i4 i5 (by rw [hlen]; exact i7) hk.2.1 hk.2.2 i3 (hmet i6) hR hm0 hr1 hk.1.2 hd K
                · cases hx
              · cases hx
          | invokestatic nn =>
            obtain ⟨hd, hI⟩ := zck_dec hck rfl
            simp only [zx] at hx
            split at hx
            · unfold z_bi at hx
              repeat' (first | (cases hx; done) | (unfold zgo at hx; cases hx; done) | split at hx)
            · rename_i ha
              simp only [zckI, Bool.and_eq_true, beq_iff_eq] at hI
              obtain ⟨rfl, hI⟩ := hI
              rw [if_neg ha] at hI
              simp only [Bool.and_eq_true, beq_iff_eq, decide_eq_true_eq] at hI
              obtain ⟨⟨⟨i1, i2⟩, i3⟩, i4⟩ := hI
              unfold z_cs at hx
              split at hx
              · rename_i hk
                cases hx
                have hs := zsplitS (st := st) (b := b)
                rw [hs]
                exact zw_callS C hX hB (zelem3 i1) i3 i2 (by rw [List.length_reverse, List.length_take, Nat.min_eq_left hk.1]; exact i4) (hmet i3) hR hm0 hr1 hk.2 hd K
              · cases hx
          | invokespecial nn =>
            obtain ⟨hd, hI⟩ := zck_dec hck rfl
            simp only [zx] at hx
            split at hx
            · unfold z_bi at hx
              repeat' (first | (cases hx; done) | (unfold zgo at hx; cases hx; done) | split at hx)
            · rename_i ha
              simp only [zckI, Bool.and_eq_true, beq_iff_eq] at hI
              obtain ⟨rfl, hI⟩ := hI
              rw [if_neg ha] at hI
              simp only [Bool.and_eq_true, beq_iff_eq, decide_eq_true_eq, Bool.or_eq_true, Option.isNone_iff_eq_none] at hI
              obtain ⟨⟨⟨⟨⟨⟨i1, i2⟩, i3⟩, i4⟩, i5⟩, i6⟩, i7⟩ := hI
              unfold z_ci at hx
              split at hx
              · rename_i k As hrev
                split at hx
                · rename_i hk
                  cases hx
                  have hlen := zlenA hrev hk.1.1
                  rw [zsplit hrev]
                  exact zw_callI C hX hB (i1.elim (fun q => Or.inl (zelem3 q)) (fun q => Or.inr (zelem3 q))) i3 i2 i6 i7 (by rw [hlen]; exact i4) hk.2 (hmet i3) hR hm0 hr1 hk.1.2 hd K
                · cases hx
              · cases hx
          | _ =>
            exfalso
            simp only [zx, z_get, z_put, z_ald, z_ast, z_len, z_new, z_newa, z_if, zgo] at hx
            repeat' (first | (cases hx; done) | split at hx)
      · rename_i r1 hx
        cases hr
        exact fin _ _ _ _ hck hx
end ZRUN
