/-! Runs of the small machine, goal first -/
abbrev ZQ : Type := Option ZV → ZS → ZF → ZG → Prop
/-- method y, from these arguments and this heap, with at most d frames, comes to an end with Q -/
def ZCt (d y : Nat) (as : List ZV) (σ : ZS) (f : ZF) (g : ZG) (Q : ZQ) : Prop := ∃ n r σ' f' g', zev zP d n y as (σ, f, g) = some (r, (σ', f', g')) ∧ Q r σ' f' g'
/-- a frame with this code at pc comes to an end with Q -/
def ZWp (d : Nat) (T : ZT) (pc : Nat) (L st : List ZV) (σ : ZS) (f : ZF) (g : ZG) (Q : ZQ) : Prop := ∃ n r σ' f' g', zrun d (zev zP d n) T n pc L st (σ, f, g) = some (r, (σ', f', g')) ∧ Q r σ' f' g'
theorem zrun_up {d : Nat} {call call' : Nat → List ZV → ZH → Option (Option ZV × ZH)} {T : ZT} (hc : ∀ y as h x, call y as h = some x → call' y as h = some x) : ∀ (n n' pc : Nat) (L st : List ZV) (h : ZH) (x : Option ZV × ZH), zrun d call T n pc L st h = some x → n ≤ n' → zrun d call' T n' pc L st h = some x := by
  intro n
  induction n with
  | zero => intro n' pc L st h x hr; cases hr
  | succ n ih =>
    intro n' pc L st h x hr hn
    obtain ⟨n1, rfl⟩ : ∃ n1, n' = n1 + 1 := ⟨n' - 1, by omega⟩
    unfold zrun at hr ⊢
    split at hr
    · cases hr
    · split at hr
      · cases hr
      · exact ih _ _ _ _ _ _ hr (by omega)
      · split at hr
        · cases hr
        · rename_i hcc
          rw [hc _ _ _ _ hcc]
          exact ih _ _ _ _ _ _ hr (by omega)
      · exact hr
theorem zev_up {P : Nat → Nat × ZT} : ∀ (d n n' y : Nat) (as : List ZV) (h : ZH) (x : Option ZV × ZH), zev P d n y as h = some x → n ≤ n' → zev P d n' y as h = some x := by
  intro d
  induction d with
  | zero => intro n n' y as h x hr; cases hr
  | succ d ih =>
    intro n n' y as h x hr hn
    unfold zev at hr ⊢
    split at hr
    · rename_i hl
      rw [if_pos hl]
      exact zrun_up (fun y as h x q => ih n n' y as h x q hn) _ _ _ _ _ _ _ hr hn
    · cases hr
theorem z_bi_deep {d d' a q : Nat} {L st : List ZV} {h : ZH} {x : ZO} (hd : d ≤ d') (hx : z_bi d a q L st h = some x) : z_bi d' a q L st h = some x := by
  unfold z_bi at hx ⊢
  split at hx
  · exact hx
  · split at hx
    · split at hx
      · rename_i hk
        exact (if_pos ⟨hk.1, hk.2.1, Nat.le_trans hk.2.2 hd⟩).trans hx
      · cases hx
    · cases hx
  · split at hx
    · split at hx
      · rename_i hk
        exact (if_pos ⟨hk.1, hk.2.1, hk.2.2.1, hk.2.2.2.1, Nat.le_trans hk.2.2.2.2 hd⟩).trans hx
      · cases hx
    · cases hx
  · exact hx
  · exact hx
  · cases hx
theorem zx_deep {d d' : Nat} {e : ZE} {pc : Nat} {L st : List ZV} {h : ZH} {x : ZO} (hd : d ≤ d') (hx : zx d e pc L st h = some x) : zx d' e pc L st h = some x := by
  obtain ⟨i, q, a, b, cl, v⟩ := e
  cases i with
  | invokevirtual n =>
    simp only [zx] at hx ⊢
    split at hx
    · rename_i ha
      rw [if_pos ha]
      exact z_bi_deep hd hx
    · rename_i ha
      rw [if_neg ha]
      exact hx
  | invokestatic n =>
    simp only [zx] at hx ⊢
    split at hx
    · rename_i ha
      rw [if_pos ha]
      exact z_bi_deep hd hx
    · rename_i ha
      rw [if_neg ha]
      exact hx
  | invokespecial n =>
    simp only [zx] at hx ⊢
    split at hx
    · rename_i ha
      rw [if_pos ha]
      exact z_bi_deep hd hx
    · rename_i ha
      rw [if_neg ha]
      exact hx
  | _ => exact hx
theorem zrun_deep {d d' : Nat} {call call' : Nat → List ZV → ZH → Option (Option ZV × ZH)} {T : ZT} (hd : d ≤ d') (hc : ∀ y as h x, call y as h = some x → call' y as h = some x) : ∀ (n pc : Nat) (L st : List ZV) (h : ZH) (x : Option ZV × ZH), zrun d call T n pc L st h = some x → zrun d' call' T n pc L st h = some x := by
  intro n
  induction n with
  | zero => intro pc L st h x hr; cases hr
  | succ n ih =>
    intro pc L st h x hr
    unfold zrun at hr ⊢
    split at hr
    · cases hr
    · split at hr
      · cases hr
      · rename_i hx
        rw [zx_deep hd hx]
        exact ih _ _ _ _ _ hr
      · rename_i hx
        rw [zx_deep hd hx]
        split at hr
        · cases hr
        · rename_i hcc
          dsimp only
          rw [hc _ _ _ _ hcc]
          exact ih _ _ _ _ _ hr
      · rename_i hx
        rw [zx_deep hd hx]
        exact hr
theorem zev_deep {P : Nat → Nat × ZT} : ∀ (d d' n y : Nat) (as : List ZV) (h : ZH) (x : Option ZV × ZH), zev P d n y as h = some x → d ≤ d' → zev P d' n y as h = some x := by
  intro d
  induction d with
  | zero => intro d' n y as h x hr; cases hr
  | succ d ih =>
    intro d' n y as h x hr hd
    obtain ⟨d1, rfl⟩ : ∃ d1, d' = d1 + 1 := ⟨d' - 1, by omega⟩
    unfold zev at hr ⊢
    split at hr
    · rename_i hl
      rw [if_pos hl]
      exact zrun_deep (by omega) (fun y as h x q => ih d1 n y as h x q (by omega)) _ _ _ _ _ _ hr
    · cases hr
section ZWPS
variable {d : Nat} {T : ZT} {pc q a b c : Nat} {v : Int} {L st : List ZV} {σ : ZS} {f : ZF} {g : ZG} {Q : ZQ}
theorem ZCt.imp {y : Nat} {as : List ZV} {Q' : ZQ} (h : ZCt d y as σ f g Q) (k : ∀ r σ' f' g', Q r σ' f' g' → Q' r σ' f' g') : ZCt d y as σ f g Q' := by
  obtain ⟨n, r, σ', f', g', h1, h2⟩ := h
  exact ⟨n, r, σ', f', g', h1, k _ _ _ _ h2⟩
theorem ZCt.deep {y d' : Nat} {as : List ZV} (h : ZCt d y as σ f g Q) (hd : d ≤ d') : ZCt d' y as σ f g Q := by
  obtain ⟨n, r, σ', f', g', h1, h2⟩ := h
  exact ⟨n, r, σ', f', g', zev_deep _ _ _ _ _ _ _ h1 hd, h2⟩
theorem ZWp.imp {Q' : ZQ} (h : ZWp d T pc L st σ f g Q) (k : ∀ r σ' f' g', Q r σ' f' g' → Q' r σ' f' g') : ZWp d T pc L st σ f g Q' := by
  obtain ⟨n, r, σ', f', g', h1, h2⟩ := h
  exact ⟨n, r, σ', f', g', h1, k _ _ _ _ h2⟩
theorem ZWp.step {e : ZE} {L' st' : List ZV} {σ' : ZS} {f' : ZF} {g' : ZG} (hlk : zlk T pc = some e) (hx : zx d e pc L st (σ, f, g) = some (.inl (q, L', st', (σ', f', g')))) (k : ZWp d T q L' st' σ' f' g' Q) : ZWp d T pc L st σ f g Q := by
  obtain ⟨n, r, σ1, f1, g1, h1, h2⟩ := k
  refine ⟨n + 1, r, σ1, f1, g1, ?_, h2⟩
  unfold zrun
  rw [hlk]
  dsimp only
  rw [hx]
  dsimp only
  exact zrun_up (fun y as h x z => zev_up _ _ _ _ _ _ _ z (Nat.le_succ n)) _ _ _ _ _ _ _ h1 (Nat.le_refl n)
theorem ZWp.ret {e : ZE} {r : Option ZV} (hlk : zlk T pc = some e) (hx : zx d e pc L st (σ, f, g) = some (.inr (.inr r))) (hq : Q r σ f g) : ZWp d T pc L st σ f g Q := by
  refine ⟨1, r, σ, f, g, ?_, hq⟩
  unfold zrun
  rw [hlk]
  dsimp only
  rw [hx]
theorem ZWp.call {e : ZE} {y : Nat} {as st' : List ZV} (hlk : zlk T pc = some e) (hx : zx d e pc L st (σ, f, g) = some (.inr (.inl (y, as, q, st')))) (k : ZCt d y as σ f g (fun r σ' f' g' => ZWp d T q L (r.toList ++ st') σ' f' g' Q)) : ZWp d T pc L st σ f g Q := by
  obtain ⟨n1, r1, σ1, f1, g1, h1, n2, r2, σ2, f2, g2, h3, h4⟩ := k
  refine ⟨(n1 + n2) + 1, r2, σ2, f2, g2, ?_, h4⟩
  unfold zrun
  rw [hlk]
  dsimp only
  rw [hx]
  dsimp only
  rw [zev_up _ _ (n1 + n2 + 1) _ _ _ _ h1 (by omega)]
  exact zrun_up (fun y as h x z => zev_up _ _ _ _ _ _ _ z (by omega)) _ _ _ _ _ _ _ h3 (by omega)
theorem ZCt.of {y nL : Nat} {as L0 : List ZV} (hP : zP y = (nL, T)) (hl : Nat.ble (zargs as).length nL = true) (hL : zent nL as = L0) (k : ZWp d T 0 L0 [] σ f g Q) : ZCt (d + 1) y as σ f g Q := by
  obtain ⟨n, r, σ1, f1, g1, h1, h2⟩ := k
  refine ⟨n, r, σ1, f1, g1, ?_, h2⟩
  unfold zev
  rw [hP]
  dsimp only
  rw [if_pos (Nat.le_of_ble_eq_true hl), hL]
  exact h1
/-- the method's body, at any depth that is at least 1 -/
theorem ZCt.of' {y nL d0 : Nat} {as L0 : List ZV} (hd : 1 ≤ d0) (hP : zP y = (nL, T)) (hl : Nat.ble (zargs as).length nL = true) (hL : zent nL as = L0) (k : ∀ d, d + 1 = d0 → ZWp d T 0 L0 [] σ f g Q) : ZCt d0 y as σ f g Q := by
  obtain ⟨d, rfl⟩ : ∃ d, d0 = d + 1 := ⟨d0 - 1, by omega⟩
  exact ZCt.of hP hl hL (k d rfl)
theorem r_iconst {n : Int} (hlk : zlk T pc = some (.iconst n, q, a, b, c, v))  (k : ZWp d T q L (zi n :: st) σ f g Q) : ZWp d T pc L (st) σ f g Q := ZWp.step hlk rfl k
theorem r_bipush {n : Int} (hlk : zlk T pc = some (.bipush n, q, a, b, c, v))  (k : ZWp d T q L (zi n :: st) σ f g Q) : ZWp d T pc L (st) σ f g Q := ZWp.step hlk rfl k
theorem r_sipush {n : Int} (hlk : zlk T pc = some (.sipush n, q, a, b, c, v))  (k : ZWp d T q L (zi n :: st) σ f g Q) : ZWp d T pc L (st) σ f g Q := ZWp.step hlk rfl k
theorem r_lconst {n : Fin 2} (hlk : zlk T pc = some (.lconst n, q, a, b, c, v))  (k : ZWp d T q L (zl v :: st) σ f g Q) : ZWp d T pc L (st) σ f g Q := ZWp.step hlk rfl k
theorem r_ldc_w {n : Nat} (hlk : zlk T pc = some (.ldc_w n, q, a, b, c, v))  (k : ZWp d T q L (zi v :: st) σ f g Q) : ZWp d T pc L (st) σ f g Q := ZWp.step hlk rfl k
theorem r_ldc2 {n : Nat} (hlk : zlk T pc = some (.ldc2_w n, q, a, b, c, v))  (k : ZWp d T q L (zl v :: st) σ f g Q) : ZWp d T pc L (st) σ f g Q := ZWp.step hlk rfl k
theorem r_null (hlk : zlk T pc = some (.aconst_null, q, a, b, c, v))  (k : ZWp d T q L (zr none :: st) σ f g Q) : ZWp d T pc L (st) σ f g Q := ZWp.step hlk rfl k
theorem r_ldc {n : Nat} (hlk : zlk T pc = some (.ldc n, q, a, 0, c, v)) (k : ZWp d T q L (zi v :: st) σ f g Q) : ZWp d T pc L (st) σ f g Q := ZWp.step hlk rfl k
theorem r_ldcs {n : Nat} (hlk : zlk T pc = some (.ldc n, q, a, 2, c, v)) (k : ZWp d T q L (zr (some a) :: st) σ f g Q) : ZWp d T pc L (st) σ f g Q := ZWp.step hlk rfl k
theorem r_iload {n : Nat} {x : Int} (hlk : zlk T pc = some (.iload n, q, a, b, c, v)) (hg : zget L a = some (zi x)) (k : ZWp d T q L (zi x :: st) σ f g Q) : ZWp d T pc L (st) σ f g Q := ZWp.step hlk (by simp only [zx, hg]; rfl) k
theorem r_iload_n {n : Fin 4} {x : Int} (hlk : zlk T pc = some (.iload_n n, q, a, b, c, v)) (hg : zget L a = some (zi x)) (k : ZWp d T q L (zi x :: st) σ f g Q) : ZWp d T pc L (st) σ f g Q := ZWp.step hlk (by simp only [zx, hg]; rfl) k
theorem r_lload {n : Nat} {x : Int} (hlk : zlk T pc = some (.lload n, q, a, b, c, v)) (hg : zget L a = some (zl x)) (k : ZWp d T q L (zl x :: st) σ f g Q) : ZWp d T pc L (st) σ f g Q := ZWp.step hlk (by simp only [zx, hg]; rfl) k
theorem r_lload_n {n : Fin 4} {x : Int} (hlk : zlk T pc = some (.lload_n n, q, a, b, c, v)) (hg : zget L a = some (zl x)) (k : ZWp d T q L (zl x :: st) σ f g Q) : ZWp d T pc L (st) σ f g Q := ZWp.step hlk (by simp only [zx, hg]; rfl) k
theorem r_aload {n : Nat} {x : Option Nat} (hlk : zlk T pc = some (.aload n, q, a, b, c, v)) (hg : zget L a = some (zr x)) (k : ZWp d T q L (zr x :: st) σ f g Q) : ZWp d T pc L (st) σ f g Q := ZWp.step hlk (by simp only [zx, hg]; rfl) k
theorem r_aload_n {n : Fin 4} {x : Option Nat} (hlk : zlk T pc = some (.aload_n n, q, a, b, c, v)) (hg : zget L a = some (zr x)) (k : ZWp d T q L (zr x :: st) σ f g Q) : ZWp d T pc L (st) σ f g Q := ZWp.step hlk (by simp only [zx, hg]; rfl) k
theorem r_istore {n : Nat} {x : Int} {L' : List ZV} (hlk : zlk T pc = some (.istore n, q, a, b, c, v)) (hn : Nat.ble (a + 1) L.length = true) (hL : zst1 L a (zi x) = L') (k : ZWp d T q L' (st) σ f g Q) : ZWp d T pc L (zi x :: st) σ f g Q := ZWp.step hlk (by subst hL; exact (if_pos (show _ < _ from Nat.le_of_ble_eq_true hn)).trans rfl) k
theorem r_istore_n {n : Fin 4} {x : Int} {L' : List ZV} (hlk : zlk T pc = some (.istore_n n, q, a, b, c, v)) (hn : Nat.ble (a + 1) L.length = true) (hL : zst1 L a (zi x) = L') (k : ZWp d T q L' (st) σ f g Q) : ZWp d T pc L (zi x :: st) σ f g Q := ZWp.step hlk (by subst hL; exact (if_pos (show _ < _ from Nat.le_of_ble_eq_true hn)).trans rfl) k
theorem r_astore {n : Nat} {x : Option Nat} {L' : List ZV} (hlk : zlk T pc = some (.astore n, q, a, b, c, v)) (hn : Nat.ble (a + 1) L.length = true) (hL : zst1 L a (zr x) = L') (k : ZWp d T q L' (st) σ f g Q) : ZWp d T pc L (zr x :: st) σ f g Q := ZWp.step hlk (by subst hL; exact (if_pos (show _ < _ from Nat.le_of_ble_eq_true hn)).trans rfl) k
theorem r_astore_n {n : Fin 4} {x : Option Nat} {L' : List ZV} (hlk : zlk T pc = some (.astore_n n, q, a, b, c, v)) (hn : Nat.ble (a + 1) L.length = true) (hL : zst1 L a (zr x) = L') (k : ZWp d T q L' (st) σ f g Q) : ZWp d T pc L (zr x :: st) σ f g Q := ZWp.step hlk (by subst hL; exact (if_pos (show _ < _ from Nat.le_of_ble_eq_true hn)).trans rfl) k
theorem r_lstore {n : Nat} {x : Int} {L' : List ZV} (hlk : zlk T pc = some (.lstore n, q, a, b, c, v)) (hn : Nat.ble (a + 2) L.length = true) (hL : zst2 L a (zl x) = L') (k : ZWp d T q L' (st) σ f g Q) : ZWp d T pc L (zl x :: st) σ f g Q := ZWp.step hlk (by subst hL; exact (if_pos (show _ < _ from Nat.le_of_ble_eq_true hn)).trans rfl) k
theorem r_lstore_n {n : Fin 4} {x : Int} {L' : List ZV} (hlk : zlk T pc = some (.lstore_n n, q, a, b, c, v)) (hn : Nat.ble (a + 2) L.length = true) (hL : zst2 L a (zl x) = L') (k : ZWp d T q L' (st) σ f g Q) : ZWp d T pc L (zl x :: st) σ f g Q := ZWp.step hlk (by subst hL; exact (if_pos (show _ < _ from Nat.le_of_ble_eq_true hn)).trans rfl) k
theorem r_iinc {n : Nat} {w x : Int} {L' : List ZV} (hlk : zlk T pc = some (.iinc n w, q, a, b, c, v)) (hg : zget L a = some (zi x)) (hL : zst1 L a (zi (x + w)) = L') (k : ZWp d T q L' (st) σ f g Q) : ZWp d T pc L (st) σ f g Q := ZWp.step hlk (by simp only [zx, hg]; rw [hL]; rfl) k
theorem r_goto {off : Int} (hlk : zlk T pc = some (.goto off, q, a, b, c, v))  (k : ZWp d T q L (st) σ f g Q) : ZWp d T pc L (st) σ f g Q := ZWp.step hlk rfl k
theorem r_iadd {x y : Int} (hlk : zlk T pc = some (.iadd, q, a, b, c, v))  (k : ZWp d T q L (zi (x + y) :: st) σ f g Q) : ZWp d T pc L (zi y :: zi x :: st) σ f g Q := ZWp.step hlk rfl k
theorem r_isub {x y : Int} (hlk : zlk T pc = some (.isub, q, a, b, c, v))  (k : ZWp d T q L (zi (x - y) :: st) σ f g Q) : ZWp d T pc L (zi y :: zi x :: st) σ f g Q := ZWp.step hlk rfl k
theorem r_imul {x y : Int} (hlk : zlk T pc = some (.imul, q, a, b, c, v))  (k : ZWp d T q L (zi (x * y) :: st) σ f g Q) : ZWp d T pc L (zi y :: zi x :: st) σ f g Q := ZWp.step hlk rfl k
theorem r_iand {x y : Int} (hlk : zlk T pc = some (.iand, q, a, b, c, v))  (k : ZWp d T q L (zi (z_and x y) :: st) σ f g Q) : ZWp d T pc L (zi y :: zi x :: st) σ f g Q := ZWp.step hlk rfl k
theorem r_ior {x y : Int} (hlk : zlk T pc = some (.ior, q, a, b, c, v))  (k : ZWp d T q L (zi (z_or x y) :: st) σ f g Q) : ZWp d T pc L (zi y :: zi x :: st) σ f g Q := ZWp.step hlk rfl k
theorem r_ixor {x y : Int} (hlk : zlk T pc = some (.ixor, q, a, b, c, v))  (k : ZWp d T q L (zi (z_xor x y) :: st) σ f g Q) : ZWp d T pc L (zi y :: zi x :: st) σ f g Q := ZWp.step hlk rfl k
theorem r_ishl {x y : Int} (hlk : zlk T pc = some (.ishl, q, a, b, c, v))  (k : ZWp d T q L (zi (z_shl x y) :: st) σ f g Q) : ZWp d T pc L (zi y :: zi x :: st) σ f g Q := ZWp.step hlk rfl k
theorem r_ishr {x y : Int} (hlk : zlk T pc = some (.ishr, q, a, b, c, v))  (k : ZWp d T q L (zi (z_shr x y) :: st) σ f g Q) : ZWp d T pc L (zi y :: zi x :: st) σ f g Q := ZWp.step hlk rfl k
theorem r_iushr {x y : Int} (hlk : zlk T pc = some (.iushr, q, a, b, c, v))  (k : ZWp d T q L (zi (z_ushr x y) :: st) σ f g Q) : ZWp d T pc L (zi y :: zi x :: st) σ f g Q := ZWp.step hlk rfl k
theorem r_ladd {x y : Int} (hlk : zlk T pc = some (.ladd, q, a, b, c, v))  (k : ZWp d T q L (zl (x + y) :: st) σ f g Q) : ZWp d T pc L (zl y :: zl x :: st) σ f g Q := ZWp.step hlk rfl k
theorem r_lsub {x y : Int} (hlk : zlk T pc = some (.lsub, q, a, b, c, v))  (k : ZWp d T q L (zl (x - y) :: st) σ f g Q) : ZWp d T pc L (zl y :: zl x :: st) σ f g Q := ZWp.step hlk rfl k
theorem r_lmul {x y : Int} (hlk : zlk T pc = some (.lmul, q, a, b, c, v))  (k : ZWp d T q L (zl (x * y) :: st) σ f g Q) : ZWp d T pc L (zl y :: zl x :: st) σ f g Q := ZWp.step hlk rfl k
theorem r_land {x y : Int} (hlk : zlk T pc = some (.land, q, a, b, c, v))  (k : ZWp d T q L (zl (z_land x y) :: st) σ f g Q) : ZWp d T pc L (zl y :: zl x :: st) σ f g Q := ZWp.step hlk rfl k
theorem r_lor {x y : Int} (hlk : zlk T pc = some (.lor, q, a, b, c, v))  (k : ZWp d T q L (zl (z_lor x y) :: st) σ f g Q) : ZWp d T pc L (zl y :: zl x :: st) σ f g Q := ZWp.step hlk rfl k
theorem r_lshl {x y : Int} (hlk : zlk T pc = some (.lshl, q, a, b, c, v))  (k : ZWp d T q L (zl (z_lshl x y) :: st) σ f g Q) : ZWp d T pc L (zi y :: zl x :: st) σ f g Q := ZWp.step hlk rfl k
theorem r_lcmp {x y : Int} (hlk : zlk T pc = some (.lcmp, q, a, b, c, v))  (k : ZWp d T q L (zi (z_cmp x y) :: st) σ f g Q) : ZWp d T pc L (zl y :: zl x :: st) σ f g Q := ZWp.step hlk rfl k
theorem r_i2l {x : Int} (hlk : zlk T pc = some (.i2l, q, a, b, c, v)) (hr : -2147483648 ≤ x ∧ x ≤ 2147483647) (k : ZWp d T q L (zl x :: st) σ f g Q) : ZWp d T pc L (zi x :: st) σ f g Q := ZWp.step hlk (by simp only [zx, zal, wr_id hr]; rfl) k
theorem r_l2i {x : Int} (hlk : zlk T pc = some (.l2i, q, a, b, c, v))  (k : ZWp d T q L (zi x :: st) σ f g Q) : ZWp d T pc L (zl x :: st) σ f g Q := ZWp.step hlk rfl k
theorem r_i2b {x : Int} (hlk : zlk T pc = some (.i2b, q, a, b, c, v))  (k : ZWp d T q L (zi (z_b x) :: st) σ f g Q) : ZWp d T pc L (zi x :: st) σ f g Q := ZWp.step hlk rfl k
theorem r_idiv {x y : Int} (hlk : zlk T pc = some (.idiv, q, a, b, c, v)) (hx : -2147483648 ≤ x ∧ x ≤ 2147483647) (hy : -2147483648 ≤ y ∧ y ≤ 2147483647) (h0 : y ≠ 0) (k : ZWp d T q L (zi (x.tdiv y) :: st) σ f g Q) : ZWp d T pc L (zi y :: zi x :: st) σ f g Q := ZWp.step hlk (by simp only [zx, zal, z_div, z_rem, wr_id hx, wr_id hy]; rw [if_neg h0]; rfl) k
theorem r_irem {x y : Int} (hlk : zlk T pc = some (.irem, q, a, b, c, v)) (hx : -2147483648 ≤ x ∧ x ≤ 2147483647) (hy : -2147483648 ≤ y ∧ y ≤ 2147483647) (h0 : y ≠ 0) (k : ZWp d T q L (zi (x.tmod y) :: st) σ f g Q) : ZWp d T pc L (zi y :: zi x :: st) σ f g Q := ZWp.step hlk (by simp only [zx, zal, z_div, z_rem, wr_id hx, wr_id hy]; rw [if_neg h0]; rfl) k
theorem r_ldiv {x y : Int} (hlk : zlk T pc = some (.ldiv, q, a, b, c, v)) (h0 : ¬ wl y = 0) (k : ZWp d T q L (zl (z_ldiv x y) :: st) σ f g Q) : ZWp d T pc L (zl y :: zl x :: st) σ f g Q := ZWp.step hlk (by simp only [zx, zal]; rw [if_neg h0]; rfl) k
theorem r_lrem {x y : Int} (hlk : zlk T pc = some (.lrem, q, a, b, c, v)) (h0 : ¬ wl y = 0) (k : ZWp d T q L (zl (z_lrem x y) :: st) σ f g Q) : ZWp d T pc L (zl y :: zl x :: st) σ f g Q := ZWp.step hlk (by simp only [zx, zal]; rw [if_neg h0]; rfl) k
theorem r_dupi {x : Int} (hlk : zlk T pc = some (.dup, q, a, b, c, v))  (k : ZWp d T q L (zi x :: zi x :: st) σ f g Q) : ZWp d T pc L (zi x :: st) σ f g Q := ZWp.step hlk rfl k
theorem r_dupr {x : Option Nat} (hlk : zlk T pc = some (.dup, q, a, b, c, v))  (k : ZWp d T q L (zr x :: zr x :: st) σ f g Q) : ZWp d T pc L (zr x :: st) σ f g Q := ZWp.step hlk rfl k
theorem r_dup2 {y : Int} {x : Option Nat} (hlk : zlk T pc = some (.dup2, q, a, b, c, v))  (k : ZWp d T q L (zi y :: zr x :: zi y :: zr x :: st) σ f g Q) : ZWp d T pc L (zi y :: zr x :: st) σ f g Q := ZWp.step hlk rfl k
theorem r_popi {x : Int} (hlk : zlk T pc = some (.pop, q, a, b, c, v))  (k : ZWp d T q L (st) σ f g Q) : ZWp d T pc L (zi x :: st) σ f g Q := ZWp.step hlk rfl k
theorem r_popr {x : Option Nat} (hlk : zlk T pc = some (.pop, q, a, b, c, v))  (k : ZWp d T q L (st) σ f g Q) : ZWp d T pc L (zr x :: st) σ f g Q := ZWp.step hlk rfl k
theorem r_icmp_eq {x y : Int} {off : Int} (hlk : zlk T pc = some (.if_icmp .eq off, q, a, b, c, v)) (hx : -2147483648 ≤ x ∧ x ≤ 2147483647) (hy : -2147483648 ≤ y ∧ y ≤ 2147483647) (k1 : x = y → ZWp d T a L (st) σ f g Q) (k2 : x ≠ y → ZWp d T q L (st) σ f g Q) : ZWp d T pc L (zi y :: zi x :: st) σ f g Q := by
  by_cases hz : x = y
  · exact ZWp.step hlk (by simp only [zx, z_if, z_cm, wr_id hx, wr_id hy]; rw [if_pos (decide_eq_true (by first | exact hz | omega))]; rfl) (k1 hz)
  · exact ZWp.step hlk (by simp only [zx, z_if, z_cm, wr_id hx, wr_id hy]; rw [if_neg (fun q => hz (by have := of_decide_eq_true q; first | exact this | omega))]; rfl) (k2 (by omega))
theorem r_if_eq {x : Int} {off : Int} (hlk : zlk T pc = some (.ifCond .eq off, q, a, b, c, v)) (hx : -2147483648 ≤ x ∧ x ≤ 2147483647) (k1 : x = 0 → ZWp d T a L (st) σ f g Q) (k2 : x ≠ 0 → ZWp d T q L (st) σ f g Q) : ZWp d T pc L (zi x :: st) σ f g Q := by
  by_cases hz : x = 0
  · exact ZWp.step hlk (by simp only [zx, z_if, z_cm, wr_id hx, wr_zero]; rw [if_pos (decide_eq_true (by first | exact hz | omega))]; rfl) (k1 hz)
  · exact ZWp.step hlk (by simp only [zx, z_if, z_cm, wr_id hx, wr_zero]; rw [if_neg (fun q => hz (by have := of_decide_eq_true q; first | exact this | omega))]; rfl) (k2 (by omega))
theorem r_icmp_ne {x y : Int} {off : Int} (hlk : zlk T pc = some (.if_icmp .ne off, q, a, b, c, v)) (hx : -2147483648 ≤ x ∧ x ≤ 2147483647) (hy : -2147483648 ≤ y ∧ y ≤ 2147483647) (k1 : x ≠ y → ZWp d T a L (st) σ f g Q) (k2 : x = y → ZWp d T q L (st) σ f g Q) : ZWp d T pc L (zi y :: zi x :: st) σ f g Q := by
  by_cases hz : x ≠ y
  · exact ZWp.step hlk (by simp only [zx, z_if, z_cm, wr_id hx, wr_id hy]; rw [if_pos (decide_eq_true (by first | exact hz | omega))]; rfl) (k1 hz)
  · exact ZWp.step hlk (by simp only [zx, z_if, z_cm, wr_id hx, wr_id hy]; rw [if_neg (fun q => hz (by have := of_decide_eq_true q; first | exact this | omega))]; rfl) (k2 (by omega))
theorem r_if_ne {x : Int} {off : Int} (hlk : zlk T pc = some (.ifCond .ne off, q, a, b, c, v)) (hx : -2147483648 ≤ x ∧ x ≤ 2147483647) (k1 : x ≠ 0 → ZWp d T a L (st) σ f g Q) (k2 : x = 0 → ZWp d T q L (st) σ f g Q) : ZWp d T pc L (zi x :: st) σ f g Q := by
  by_cases hz : x ≠ 0
  · exact ZWp.step hlk (by simp only [zx, z_if, z_cm, wr_id hx, wr_zero]; rw [if_pos (decide_eq_true (by first | exact hz | omega))]; rfl) (k1 hz)
  · exact ZWp.step hlk (by simp only [zx, z_if, z_cm, wr_id hx, wr_zero]; rw [if_neg (fun q => hz (by have := of_decide_eq_true q; first | exact this | omega))]; rfl) (k2 (by omega))
theorem r_icmp_lt {x y : Int} {off : Int} (hlk : zlk T pc = some (.if_icmp .lt off, q, a, b, c, v)) (hx : -2147483648 ≤ x ∧ x ≤ 2147483647) (hy : -2147483648 ≤ y ∧ y ≤ 2147483647) (k1 : x < y → ZWp d T a L (st) σ f g Q) (k2 : y ≤ x → ZWp d T q L (st) σ f g Q) : ZWp d T pc L (zi y :: zi x :: st) σ f g Q := by
  by_cases hz : x < y
  · exact ZWp.step hlk (by simp only [zx, z_if, z_cm, wr_id hx, wr_id hy]; rw [if_pos (decide_eq_true (by first | exact hz | omega))]; rfl) (k1 hz)
  · exact ZWp.step hlk (by simp only [zx, z_if, z_cm, wr_id hx, wr_id hy]; rw [if_neg (fun q => hz (by have := of_decide_eq_true q; first | exact this | omega))]; rfl) (k2 (by omega))
theorem r_if_lt {x : Int} {off : Int} (hlk : zlk T pc = some (.ifCond .lt off, q, a, b, c, v)) (hx : -2147483648 ≤ x ∧ x ≤ 2147483647) (k1 : x < 0 → ZWp d T a L (st) σ f g Q) (k2 : 0 ≤ x → ZWp d T q L (st) σ f g Q) : ZWp d T pc L (zi x :: st) σ f g Q := by
  by_cases hz : x < 0
  · exact ZWp.step hlk (by simp only [zx, z_if, z_cm, wr_id hx, wr_zero]; rw [if_pos (decide_eq_true (by first | exact hz | omega))]; rfl) (k1 hz)
  · exact ZWp.step hlk (by simp only [zx, z_if, z_cm, wr_id hx, wr_zero]; rw [if_neg (fun q => hz (by have := of_decide_eq_true q; first | exact this | omega))]; rfl) (k2 (by omega))
theorem r_icmp_ge {x y : Int} {off : Int} (hlk : zlk T pc = some (.if_icmp .ge off, q, a, b, c, v)) (hx : -2147483648 ≤ x ∧ x ≤ 2147483647) (hy : -2147483648 ≤ y ∧ y ≤ 2147483647) (k1 : y ≤ x → ZWp d T a L (st) σ f g Q) (k2 : x < y → ZWp d T q L (st) σ f g Q) : ZWp d T pc L (zi y :: zi x :: st) σ f g Q := by
  by_cases hz : y ≤ x
  · exact ZWp.step hlk (by simp only [zx, z_if, z_cm, wr_id hx, wr_id hy]; rw [if_pos (decide_eq_true (by first | exact hz | omega))]; rfl) (k1 hz)
  · exact ZWp.step hlk (by simp only [zx, z_if, z_cm, wr_id hx, wr_id hy]; rw [if_neg (fun q => hz (by have := of_decide_eq_true q; first | exact this | omega))]; rfl) (k2 (by omega))
theorem r_if_ge {x : Int} {off : Int} (hlk : zlk T pc = some (.ifCond .ge off, q, a, b, c, v)) (hx : -2147483648 ≤ x ∧ x ≤ 2147483647) (k1 : 0 ≤ x → ZWp d T a L (st) σ f g Q) (k2 : x < 0 → ZWp d T q L (st) σ f g Q) : ZWp d T pc L (zi x :: st) σ f g Q := by
  by_cases hz : 0 ≤ x
  · exact ZWp.step hlk (by simp only [zx, z_if, z_cm, wr_id hx, wr_zero]; rw [if_pos (decide_eq_true (by first | exact hz | omega))]; rfl) (k1 hz)
  · exact ZWp.step hlk (by simp only [zx, z_if, z_cm, wr_id hx, wr_zero]; rw [if_neg (fun q => hz (by have := of_decide_eq_true q; first | exact this | omega))]; rfl) (k2 (by omega))
theorem r_icmp_gt {x y : Int} {off : Int} (hlk : zlk T pc = some (.if_icmp .gt off, q, a, b, c, v)) (hx : -2147483648 ≤ x ∧ x ≤ 2147483647) (hy : -2147483648 ≤ y ∧ y ≤ 2147483647) (k1 : y < x → ZWp d T a L (st) σ f g Q) (k2 : x ≤ y → ZWp d T q L (st) σ f g Q) : ZWp d T pc L (zi y :: zi x :: st) σ f g Q := by
  by_cases hz : y < x
  · exact ZWp.step hlk (by simp only [zx, z_if, z_cm, wr_id hx, wr_id hy]; rw [if_pos (decide_eq_true (by first | exact hz | omega))]; rfl) (k1 hz)
  · exact ZWp.step hlk (by simp only [zx, z_if, z_cm, wr_id hx, wr_id hy]; rw [if_neg (fun q => hz (by have := of_decide_eq_true q; first | exact this | omega))]; rfl) (k2 (by omega))
theorem r_if_gt {x : Int} {off : Int} (hlk : zlk T pc = some (.ifCond .gt off, q, a, b, c, v)) (hx : -2147483648 ≤ x ∧ x ≤ 2147483647) (k1 : 0 < x → ZWp d T a L (st) σ f g Q) (k2 : x ≤ 0 → ZWp d T q L (st) σ f g Q) : ZWp d T pc L (zi x :: st) σ f g Q := by
  by_cases hz : 0 < x
  · exact ZWp.step hlk (by simp only [zx, z_if, z_cm, wr_id hx, wr_zero]; rw [if_pos (decide_eq_true (by first | exact hz | omega))]; rfl) (k1 hz)
  · exact ZWp.step hlk (by simp only [zx, z_if, z_cm, wr_id hx, wr_zero]; rw [if_neg (fun q => hz (by have := of_decide_eq_true q; first | exact this | omega))]; rfl) (k2 (by omega))
theorem r_icmp_le {x y : Int} {off : Int} (hlk : zlk T pc = some (.if_icmp .le off, q, a, b, c, v)) (hx : -2147483648 ≤ x ∧ x ≤ 2147483647) (hy : -2147483648 ≤ y ∧ y ≤ 2147483647) (k1 : x ≤ y → ZWp d T a L (st) σ f g Q) (k2 : y < x → ZWp d T q L (st) σ f g Q) : ZWp d T pc L (zi y :: zi x :: st) σ f g Q := by
  by_cases hz : x ≤ y
  · exact ZWp.step hlk (by simp only [zx, z_if, z_cm, wr_id hx, wr_id hy]; rw [if_pos (decide_eq_true (by first | exact hz | omega))]; rfl) (k1 hz)
  · exact ZWp.step hlk (by simp only [zx, z_if, z_cm, wr_id hx, wr_id hy]; rw [if_neg (fun q => hz (by have := of_decide_eq_true q; first | exact this | omega))]; rfl) (k2 (by omega))
theorem r_if_le {x : Int} {off : Int} (hlk : zlk T pc = some (.ifCond .le off, q, a, b, c, v)) (hx : -2147483648 ≤ x ∧ x ≤ 2147483647) (k1 : x ≤ 0 → ZWp d T a L (st) σ f g Q) (k2 : 0 < x → ZWp d T q L (st) σ f g Q) : ZWp d T pc L (zi x :: st) σ f g Q := by
  by_cases hz : x ≤ 0
  · exact ZWp.step hlk (by simp only [zx, z_if, z_cm, wr_id hx, wr_zero]; rw [if_pos (decide_eq_true (by first | exact hz | omega))]; rfl) (k1 hz)
  · exact ZWp.step hlk (by simp only [zx, z_if, z_cm, wr_id hx, wr_zero]; rw [if_neg (fun q => hz (by have := of_decide_eq_true q; first | exact this | omega))]; rfl) (k2 (by omega))
theorem r_icmp_y {x y : Int} {cm : Jvm.ClassFile.Cond} {off : Int} (hlk : zlk T pc = some (.if_icmp cm off, q, a, b, c, v)) (hc : z_cm cm x y = true) (k : ZWp d T a L (st) σ f g Q) : ZWp d T pc L (zi y :: zi x :: st) σ f g Q := ZWp.step hlk ((if_pos hc).trans rfl) k
theorem r_icmp_n {x y : Int} {cm : Jvm.ClassFile.Cond} {off : Int} (hlk : zlk T pc = some (.if_icmp cm off, q, a, b, c, v)) (hc : z_cm cm x y = false) (k : ZWp d T q L (st) σ f g Q) : ZWp d T pc L (zi y :: zi x :: st) σ f g Q := ZWp.step hlk ((if_neg (by rw [hc]; decide)).trans rfl) k
theorem r_if_y {x : Int} {cm : Jvm.ClassFile.Cond} {off : Int} (hlk : zlk T pc = some (.ifCond cm off, q, a, b, c, v)) (hc : z_cm cm x 0 = true) (k : ZWp d T a L (st) σ f g Q) : ZWp d T pc L (zi x :: st) σ f g Q := ZWp.step hlk ((if_pos hc).trans rfl) k
theorem r_if_n {x : Int} {cm : Jvm.ClassFile.Cond} {off : Int} (hlk : zlk T pc = some (.ifCond cm off, q, a, b, c, v)) (hc : z_cm cm x 0 = false) (k : ZWp d T q L (st) σ f g Q) : ZWp d T pc L (zi x :: st) σ f g Q := ZWp.step hlk ((if_neg (by rw [hc]; decide)).trans rfl) k
theorem r_ifnullN {off : Int} (hlk : zlk T pc = some (.ifnull off, q, a, b, c, v)) (k : ZWp d T a L (st) σ f g Q) : ZWp d T pc L (zr none :: st) σ f g Q := ZWp.step hlk rfl k
theorem r_ifnullS {x : Nat} {off : Int} (hlk : zlk T pc = some (.ifnull off, q, a, b, c, v)) (k : ZWp d T q L (st) σ f g Q) : ZWp d T pc L (zr (some x) :: st) σ f g Q := ZWp.step hlk rfl k
theorem r_ifnonnullN {off : Int} (hlk : zlk T pc = some (.ifnonnull off, q, a, b, c, v)) (k : ZWp d T q L (st) σ f g Q) : ZWp d T pc L (zr none :: st) σ f g Q := ZWp.step hlk rfl k
theorem r_ifnonnullS {x : Nat} {off : Int} (hlk : zlk T pc = some (.ifnonnull off, q, a, b, c, v)) (k : ZWp d T a L (st) σ f g Q) : ZWp d T pc L (zr (some x) :: st) σ f g Q := ZWp.step hlk rfl k
theorem r_getI {n k : Nat} {x : Int} (hlk : zlk T pc = some (.getfield n, q, a, 0, c, v)) (ho : zO σ k c) (hf : f k a = x) (kk : ZWp d T q L (zi x :: st) σ f g Q) : ZWp d T pc L (zr (some k) :: st) σ f g Q := ZWp.step hlk (by subst hf; exact (if_pos ho).trans rfl) kk
theorem r_getZ {n k : Nat} {x : Int} (hlk : zlk T pc = some (.getfield n, q, a, 3, c, v)) (ho : zO σ k c) (hf : f k a = x) (kk : ZWp d T q L (zi x :: st) σ f g Q) : ZWp d T pc L (zr (some k) :: st) σ f g Q := ZWp.step hlk (by subst hf; exact (if_pos ho).trans rfl) kk
theorem r_getL {n k : Nat} {x : Int} (hlk : zlk T pc = some (.getfield n, q, a, 1, c, v)) (ho : zO σ k c) (hf : f k a = x) (kk : ZWp d T q L (zl x :: st) σ f g Q) : ZWp d T pc L (zr (some k) :: st) σ f g Q := ZWp.step hlk (by subst hf; exact (if_pos ho).trans rfl) kk
theorem r_getR {n k : Nat} {x : Option Nat} (hlk : zlk T pc = some (.getfield n, q, a, 2, c, v)) (ho : zO σ k c) (hg : g k a = x) (kk : ZWp d T q L (zr x :: st) σ f g Q) : ZWp d T pc L (zr (some k) :: st) σ f g Q := ZWp.step hlk (by subst hg; exact (if_pos ho).trans rfl) kk
theorem r_putI {n k : Nat} {x : Int} (hlk : zlk T pc = some (.putfield n, q, a, 0, c, v)) (ho : zO σ k c) (kk : ZWp d T q L (st) σ (up2 f k a x) g Q) : ZWp d T pc L (zi x :: zr (some k) :: st) σ f g Q := ZWp.step hlk ((if_pos ⟨ho, Or.inl rfl⟩).trans rfl) kk
theorem r_putZ {n k : Nat} {x : Int} (hlk : zlk T pc = some (.putfield n, q, a, 3, c, v)) (ho : zO σ k c) (h01 : x = 0 ∨ x = 1) (kk : ZWp d T q L (st) σ (up2 f k a x) g Q) : ZWp d T pc L (zi x :: zr (some k) :: st) σ f g Q := ZWp.step hlk ((if_pos ⟨ho, Or.inr ⟨rfl, h01⟩⟩).trans rfl) kk
theorem r_putL {n k : Nat} {x : Int} (hlk : zlk T pc = some (.putfield n, q, a, 1, c, v)) (ho : zO σ k c) (kk : ZWp d T q L (st) σ (up2 f k a x) g Q) : ZWp d T pc L (zl x :: zr (some k) :: st) σ f g Q := ZWp.step hlk ((if_pos ⟨ho, rfl⟩).trans rfl) kk
theorem r_putR {n k : Nat} {x : Option Nat} (hlk : zlk T pc = some (.putfield n, q, a, 2, c, v)) (ho : zO σ k c) (kk : ZWp d T q L (st) σ f (up2 g k a x) Q) : ZWp d T pc L (zr x :: zr (some k) :: st) σ f g Q := ZWp.step hlk ((if_pos ⟨ho, rfl⟩).trans rfl) kk
theorem r_iald {k n : Nat} {i : Int} {x : Int} (hlk : zlk T pc = some (.iaload, q, a, b, c, v)) (ha : zA σ k 100 n) (hn : n ≤ 2147483647) (hi : 0 ≤ i ∧ i < (n : Int)) (hf : f k i.toNat = x) (kk : ZWp d T q L (zi x :: st) σ f g Q) : ZWp d T pc L (zi i :: zr (some k) :: st) σ f g Q := by
  obtain ⟨h1, h2⟩ := ha
  have e1 : (σ.2 k).1 = 100 := by rw [h2]
  have e2 : (σ.2 k).2 = n := by rw [h2]
  subst hf
  exact ZWp.step hlk ((if_pos ⟨⟨Or.inl h1, e1⟩, hi.1, by rw [e2]; exact hi.2, by rw [e2]; exact hn⟩).trans rfl) kk
theorem r_bald {k n : Nat} {i : Int} {x : Int} (hlk : zlk T pc = some (.baload, q, 0, b, c, v)) (ha : zA σ k 101 n) (hn : n ≤ 2147483647) (hi : 0 ≤ i ∧ i < (n : Int)) (hf : f k i.toNat = x) (kk : ZWp d T q L (zi x :: st) σ f g Q) : ZWp d T pc L (zi i :: zr (some k) :: st) σ f g Q := by
  obtain ⟨h1, h2⟩ := ha
  have e1 : (σ.2 k).1 = 101 := by rw [h2]
  have e2 : (σ.2 k).2 = n := by rw [h2]
  subst hf
  exact ZWp.step hlk ((if_pos ⟨⟨Or.inl h1, e1⟩, hi.1, by rw [e2]; exact hi.2, by rw [e2]; exact hn⟩).trans rfl) kk
theorem r_zald {k n : Nat} {i : Int} {x : Int} (hlk : zlk T pc = some (.baload, q, 1, b, c, v)) (ha : zA σ k 102 n) (hn : n ≤ 2147483647) (hi : 0 ≤ i ∧ i < (n : Int)) (hf : f k i.toNat = x) (kk : ZWp d T q L (zi x :: st) σ f g Q) : ZWp d T pc L (zi i :: zr (some k) :: st) σ f g Q := by
  obtain ⟨h1, h2⟩ := ha
  have e1 : (σ.2 k).1 = 102 := by rw [h2]
  have e2 : (σ.2 k).2 = n := by rw [h2]
  subst hf
  exact ZWp.step hlk ((if_pos ⟨⟨Or.inl h1, e1⟩, hi.1, by rw [e2]; exact hi.2, by rw [e2]; exact hn⟩).trans rfl) kk
theorem r_lald {k n : Nat} {i : Int} {x : Int} (hlk : zlk T pc = some (.laload, q, a, b, c, v)) (ha : zA σ k 103 n) (hn : n ≤ 2147483647) (hi : 0 ≤ i ∧ i < (n : Int)) (hf : f k i.toNat = x) (kk : ZWp d T q L (zl x :: st) σ f g Q) : ZWp d T pc L (zi i :: zr (some k) :: st) σ f g Q := by
  obtain ⟨h1, h2⟩ := ha
  have e1 : (σ.2 k).1 = 103 := by rw [h2]
  have e2 : (σ.2 k).2 = n := by rw [h2]
  subst hf
  exact ZWp.step hlk ((if_pos ⟨⟨Or.inl h1, e1⟩, hi.1, by rw [e2]; exact hi.2, by rw [e2]; exact hn⟩).trans rfl) kk
theorem r_aald {k n : Nat} {i : Int} {x : Option Nat} (hlk : zlk T pc = some (.aaload, q, a, b, c, v)) (ha : zA σ k a n) (hn : n ≤ 2147483647) (hi : 0 ≤ i ∧ i < (n : Int)) (h110 : Nat.ble 110 a = true) (hg : g k i.toNat = x) (kk : ZWp d T q L (zr x :: st) σ f g Q) : ZWp d T pc L (zi i :: zr (some k) :: st) σ f g Q := by
  obtain ⟨h1, h2⟩ := ha
  have e1 : (σ.2 k).1 = a := by rw [h2]
  have e2 : (σ.2 k).2 = n := by rw [h2]
  have h3 := Nat.le_of_ble_eq_true h110
  subst hg
  exact ZWp.step hlk ((if_pos ⟨⟨Or.inl h1, e1⟩, hi.1, by rw [e2]; exact hi.2, by rw [e2]; exact hn⟩).trans ((if_neg (show ¬ a = 103 by omega)).trans ((if_pos h3).trans rfl))) kk
theorem r_sld {n : Nat} {i x : Int} (hlk : zlk T pc = some (.iaload, q, a, b, c, v)) (hs : σ.2 (zX + 6) = (100, n)) (hn : n ≤ 2147483647) (hi : 0 ≤ i ∧ i < (n : Int)) (hf : f (zX + 6) i.toNat = x) (kk : ZWp d T q L (zi x :: st) σ f g Q) : ZWp d T pc L (zi i :: zr (some (zX + 6)) :: st) σ f g Q := by
  have e1 : (σ.2 (zX + 6)).1 = 100 := by rw [hs]
  have e2 : (σ.2 (zX + 6)).2 = n := by rw [hs]
  subst hf
  exact ZWp.step hlk ((if_pos ⟨⟨Or.inr rfl, e1⟩, hi.1, by rw [e2]; exact hi.2, by rw [e2]; exact hn⟩).trans rfl) kk
theorem r_slen {n : Nat} (hlk : zlk T pc = some (.arraylength, q, a, b, c, v)) (hs : σ.2 (zX + 6) = (100, n)) (hn : n ≤ 2147483647) (kk : ZWp d T q L (zi (n : Int) :: st) σ f g Q) : ZWp d T pc L (zr (some (zX + 6)) :: st) σ f g Q := by
  have e1 : (σ.2 (zX + 6)).1 = 100 := by rw [hs]
  have e2 : (σ.2 (zX + 6)).2 = n := by rw [hs]
  subst e2
  exact ZWp.step hlk ((if_pos ⟨Or.inr rfl, by rw [e1]; exact Nat.le_refl _, hn⟩).trans rfl) kk
theorem r_alen {k t n : Nat} (hlk : zlk T pc = some (.arraylength, q, a, b, c, v)) (ha : zA σ k t n) (ht : 100 ≤ t) (hn : n ≤ 2147483647) (kk : ZWp d T q L (zi (n : Int) :: st) σ f g Q) : ZWp d T pc L (zr (some k) :: st) σ f g Q := by
  obtain ⟨h1, h2⟩ := ha
  have e1 : (σ.2 k).1 = t := by rw [h2]
  have e2 : (σ.2 k).2 = n := by rw [h2]
  subst e2
  exact ZWp.step hlk ((if_pos ⟨Or.inl h1, by rw [e1]; exact ht, hn⟩).trans rfl) kk
theorem r_iast {k n : Nat} {i x : Int} (hlk : zlk T pc = some (.iastore, q, a, b, c, v)) (ha : zA σ k 100 n) (hn : n ≤ 2147483647) (hi : 0 ≤ i ∧ i < (n : Int)) (kk : ZWp d T q L (st) σ (up2 f k i.toNat x) g Q) : ZWp d T pc L (zi x :: zi i :: zr (some k) :: st) σ f g Q := by
  obtain ⟨h1, h2⟩ := ha
  have e1 : (σ.2 k).1 = 100 := by rw [h2]
  have e2 : (σ.2 k).2 = n := by rw [h2]
  exact ZWp.step hlk ((if_pos ⟨⟨⟨h1, e1⟩, hi.1, by rw [e2]; exact hi.2, by rw [e2]; exact hn⟩, Or.inl rfl⟩).trans rfl) kk
theorem r_bast {k n : Nat} {i x : Int} (hlk : zlk T pc = some (.bastore, q, 0, b, c, v)) (ha : zA σ k 101 n) (hn : n ≤ 2147483647) (hi : 0 ≤ i ∧ i < (n : Int)) (hx : -128 ≤ x ∧ x ≤ 127) (kk : ZWp d T q L (st) σ (up2 f k i.toNat x) g Q) : ZWp d T pc L (zi x :: zi i :: zr (some k) :: st) σ f g Q := by
  obtain ⟨h1, h2⟩ := ha
  have e1 : (σ.2 k).1 = 101 := by rw [h2]
  have e2 : (σ.2 k).2 = n := by rw [h2]
  exact ZWp.step hlk ((if_pos ⟨⟨⟨h1, e1⟩, hi.1, by rw [e2]; exact hi.2, by rw [e2]; exact hn⟩, Or.inr (Or.inl ⟨rfl, hx⟩)⟩).trans rfl) kk
theorem r_zast {k n : Nat} {i x : Int} (hlk : zlk T pc = some (.bastore, q, 1, b, c, v)) (ha : zA σ k 102 n) (hn : n ≤ 2147483647) (hi : 0 ≤ i ∧ i < (n : Int)) (hx : x = 0 ∨ x = 1) (kk : ZWp d T q L (st) σ (up2 f k i.toNat x) g Q) : ZWp d T pc L (zi x :: zi i :: zr (some k) :: st) σ f g Q := by
  obtain ⟨h1, h2⟩ := ha
  have e1 : (σ.2 k).1 = 102 := by rw [h2]
  have e2 : (σ.2 k).2 = n := by rw [h2]
  exact ZWp.step hlk ((if_pos ⟨⟨⟨h1, e1⟩, hi.1, by rw [e2]; exact hi.2, by rw [e2]; exact hn⟩, Or.inr (Or.inr ⟨rfl, hx⟩)⟩).trans rfl) kk
theorem r_last {k n : Nat} {i x : Int} (hlk : zlk T pc = some (.lastore, q, a, b, c, v)) (ha : zA σ k 103 n) (hn : n ≤ 2147483647) (hi : 0 ≤ i ∧ i < (n : Int)) (kk : ZWp d T q L (st) σ (up2 f k i.toNat x) g Q) : ZWp d T pc L (zl x :: zi i :: zr (some k) :: st) σ f g Q := by
  obtain ⟨h1, h2⟩ := ha
  have e1 : (σ.2 k).1 = 103 := by rw [h2]
  have e2 : (σ.2 k).2 = n := by rw [h2]
  exact ZWp.step hlk ((if_pos ⟨⟨⟨h1, e1⟩, hi.1, by rw [e2]; exact hi.2, by rw [e2]; exact hn⟩, rfl⟩).trans rfl) kk
theorem r_aast {k n y : Nat} {i : Int} (hlk : zlk T pc = some (.aastore, q, a, b, c, v)) (ha : zA σ k a n) (hn : n ≤ 2147483647) (hi : 0 ≤ i ∧ i < (n : Int)) (h110 : Nat.ble 110 a = true) (hy : y < σ.1.1) (hyt : (σ.2 y).1 + 110 = a) (kk : ZWp d T q L (st) σ f (up2 g k i.toNat (some y)) Q) : ZWp d T pc L (zr (some y) :: zi i :: zr (some k) :: st) σ f g Q := by
  obtain ⟨h1, h2⟩ := ha
  have e1 : (σ.2 k).1 = a := by rw [h2]
  have e2 : (σ.2 k).2 = n := by rw [h2]
  exact ZWp.step hlk ((if_pos ⟨⟨⟨h1, e1⟩, hi.1, by rw [e2]; exact hi.2, by rw [e2]; exact hn⟩, Nat.le_of_ble_eq_true h110, hy, hyt⟩).trans rfl) kk
theorem r_new {n : Nat} (hlk : zlk T pc = some (.new n, q, a, b, c, v)) (hN : σ.1.1 < 1000000) (kk : ZWp d T q L (zr (some σ.1.1) :: st) (zNewS σ a b) (zNewF σ f) (zNewG σ g) Q) : ZWp d T pc L (st) σ f g Q := ZWp.step hlk ((if_pos hN).trans rfl) kk
theorem r_newa {t : ArrayType} {n : Int} (hlk : zlk T pc = some (.newarray t, q, a, b, c, v)) (hn : 0 ≤ n ∧ n ≤ 100000) (hN : σ.1.1 < 1000000) (kk : ZWp d T q L (zr (some σ.1.1) :: st) (zNewS σ a n.toNat) (zNewF σ f) (zNewG σ g) Q) : ZWp d T pc L (zi n :: st) σ f g Q := ZWp.step hlk ((if_pos hn).trans ((if_pos hN).trans rfl)) kk
theorem r_anew {i : Nat} {n : Int} (hlk : zlk T pc = some (.anewarray i, q, a, b, c, v)) (hn : 0 ≤ n ∧ n ≤ 100000) (hN : σ.1.1 < 1000000) (kk : ZWp d T q L (zr (some σ.1.1) :: st) (zNewS σ a n.toNat) (zNewF σ f) (zNewG σ g) Q) : ZWp d T pc L (zi n :: st) σ f g Q := ZWp.step hlk ((if_pos hn).trans ((if_pos hN).trans rfl)) kk
theorem r_obj {n k : Nat} (hlk : zlk T pc = some (.invokespecial n, q, 1000, b, c, v)) (hw : Nat.ble (zwd st) 8 = true) (kk : ZWp d T q L (st) σ f g Q) : ZWp d T pc L (zr (some k) :: st) σ f g Q := ZWp.step hlk ((if_pos (Nat.le_of_ble_eq_true hw)).trans rfl) kk
theorem r_slength {n k : Nat} (hlk : zlk T pc = some (.invokevirtual n, q, 1001, b, c, v)) (hk : zX ≤ k ∧ k < zX + 6) (hw : Nat.ble (zwd st) 8 = true) (hd : 4 ≤ d) (kk : ZWp d T q L (zi ((zstr (k - zX)).length : Int) :: st) σ f g Q) : ZWp d T pc L (zr (some k) :: st) σ f g Q := ZWp.step hlk ((if_pos ⟨hk, Nat.le_of_ble_eq_true hw, hd⟩).trans rfl) kk
theorem r_scharAt {n k : Nat} {i : Int} (hlk : zlk T pc = some (.invokevirtual n, q, 1002, b, c, v)) (hk : zX ≤ k ∧ k < zX + 6) (hi : 0 ≤ i ∧ i < ((zstr (k - zX)).length : Int)) (hw : Nat.ble (zwd st) 8 = true) (hd : 4 ≤ d) (kk : ZWp d T q L (zi ((zstr (k - zX)).getD i.toNat 0) :: st) σ f g Q) : ZWp d T pc L (zi i :: zr (some k) :: st) σ f g Q := ZWp.step hlk ((if_pos ⟨hk, hi.1, hi.2, Nat.le_of_ble_eq_true hw, hd⟩).trans rfl) kk
theorem r_acopy {n k k0 t n1 n0 : Nat} {sp dp nn : Int} (hlk : zlk T pc = some (.invokestatic n, q, 1003, b, c, v)) (hw : Nat.ble (zwd st) 8 = true) (ha : zA σ k t n1) (ha0 : zA σ k0 t n0) (ht : t = 100 ∨ t = 101) (hn : n1 ≤ 2147483647 ∧ n0 ≤ 2147483647) (hi : 0 ≤ sp ∧ 0 ≤ dp ∧ 0 ≤ nn ∧ sp + nn ≤ (n0 : Int) ∧ dp + nn ≤ (n1 : Int)) (hb : t = 100 ∨ ∀ i, i < nn.toNat → -128 ≤ f k0 (sp.toNat + i) ∧ f k0 (sp.toNat + i) ≤ 127) (kk : ZWp d T q L (st) σ (zcpy f k0 k sp.toNat dp.toNat nn.toNat) g Q) : ZWp d T pc L (zi nn :: zi dp :: zr (some k) :: zi sp :: zr (some k0) :: st) σ f g Q := by
  obtain ⟨h1, h2⟩ := ha
  obtain ⟨h3, h4⟩ := ha0
  have e1 : (σ.2 k).1 = t := by rw [h2]
  have e2 : (σ.2 k).2 = n1 := by rw [h2]
  have e3 : (σ.2 k0).1 = t := by rw [h4]
  have e4 : (σ.2 k0).2 = n0 := by rw [h4]
  refine ZWp.step hlk ?_ kk
  exact (if_pos ⟨Nat.le_of_ble_eq_true hw, ⟨⟨h1, h3⟩, by rw [e1, e3], by rw [e1]; exact ht, by rw [e2]; exact hn.1, by rw [e4]; exact hn.2⟩, ⟨hi.1, hi.2.1, hi.2.2.1, by rw [e4]; exact hi.2.2.2.1, by rw [e2]; exact hi.2.2.2.2⟩, by rw [e1]; exact hb⟩).trans rfl
theorem r_callV0 {n y k : Nat} (hlk : zlk T pc = some (.invokevirtual n, q, y, 1, c, v)) (hy : Nat.ble 1000 y = false) (ho : zO σ k c) (hw : Nat.ble (zwd st) 8 = true) (kk : ZCt d y [zr (some k)] σ f g (fun r σ' f' g' => ZWp d T q L (r.toList ++ st) σ' f' g' Q)) : ZWp d T pc L (zr (some k) :: st) σ f g Q := ZWp.call hlk ((if_neg (fun h => by have := Nat.ble_eq_true_of_le h; rw [hy] at this; cases this)).trans ((if_pos ⟨⟨by simp only [List.length_cons]; omega, Nat.le_of_ble_eq_true hw⟩, ho⟩).trans rfl)) kk
theorem r_callI0 {n y k : Nat} (hlk : zlk T pc = some (.invokespecial n, q, y, 1, c, v)) (hy : Nat.ble 1000 y = false) (ho : k < σ.1.1) (hw : Nat.ble (zwd st) 8 = true) (kk : ZCt d y [zr (some k)] σ f g (fun r σ' f' g' => ZWp d T q L (r.toList ++ st) σ' f' g' Q)) : ZWp d T pc L (zr (some k) :: st) σ f g Q := ZWp.call hlk ((if_neg (fun h => by have := Nat.ble_eq_true_of_le h; rw [hy] at this; cases this)).trans ((if_pos ⟨⟨by simp only [List.length_cons]; omega, Nat.le_of_ble_eq_true hw⟩, ho⟩).trans rfl)) kk
theorem r_callV1 {n y k : Nat} {x1 : ZV} (hlk : zlk T pc = some (.invokevirtual n, q, y, 2, c, v)) (hy : Nat.ble 1000 y = false) (ho : zO σ k c) (hw : Nat.ble (zwd st) 8 = true) (kk : ZCt d y [zr (some k), x1] σ f g (fun r σ' f' g' => ZWp d T q L (r.toList ++ st) σ' f' g' Q)) : ZWp d T pc L (x1 :: zr (some k) :: st) σ f g Q := ZWp.call hlk ((if_neg (fun h => by have := Nat.ble_eq_true_of_le h; rw [hy] at this; cases this)).trans ((if_pos ⟨⟨by simp only [List.length_cons]; omega, Nat.le_of_ble_eq_true hw⟩, ho⟩).trans rfl)) kk
theorem r_callI1 {n y k : Nat} {x1 : ZV} (hlk : zlk T pc = some (.invokespecial n, q, y, 2, c, v)) (hy : Nat.ble 1000 y = false) (ho : k < σ.1.1) (hw : Nat.ble (zwd st) 8 = true) (kk : ZCt d y [zr (some k), x1] σ f g (fun r σ' f' g' => ZWp d T q L (r.toList ++ st) σ' f' g' Q)) : ZWp d T pc L (x1 :: zr (some k) :: st) σ f g Q := ZWp.call hlk ((if_neg (fun h => by have := Nat.ble_eq_true_of_le h; rw [hy] at this; cases this)).trans ((if_pos ⟨⟨by simp only [List.length_cons]; omega, Nat.le_of_ble_eq_true hw⟩, ho⟩).trans rfl)) kk
theorem r_callS1 {n y : Nat} {x1 : ZV} (hlk : zlk T pc = some (.invokestatic n, q, y, 1, c, v)) (hy : Nat.ble 1000 y = false) (hw : Nat.ble (zwd st) 8 = true) (kk : ZCt d y [x1] σ f g (fun r σ' f' g' => ZWp d T q L (r.toList ++ st) σ' f' g' Q)) : ZWp d T pc L (x1 :: st) σ f g Q := ZWp.call hlk ((if_neg (fun h => by have := Nat.ble_eq_true_of_le h; rw [hy] at this; cases this)).trans ((if_pos ⟨by simp only [List.length_cons]; omega, Nat.le_of_ble_eq_true hw⟩).trans rfl)) kk
theorem r_callV2 {n y k : Nat} {x1 x2 : ZV} (hlk : zlk T pc = some (.invokevirtual n, q, y, 3, c, v)) (hy : Nat.ble 1000 y = false) (ho : zO σ k c) (hw : Nat.ble (zwd st) 8 = true) (kk : ZCt d y [zr (some k), x1, x2] σ f g (fun r σ' f' g' => ZWp d T q L (r.toList ++ st) σ' f' g' Q)) : ZWp d T pc L (x2 :: x1 :: zr (some k) :: st) σ f g Q := ZWp.call hlk ((if_neg (fun h => by have := Nat.ble_eq_true_of_le h; rw [hy] at this; cases this)).trans ((if_pos ⟨⟨by simp only [List.length_cons]; omega, Nat.le_of_ble_eq_true hw⟩, ho⟩).trans rfl)) kk
theorem r_callI2 {n y k : Nat} {x1 x2 : ZV} (hlk : zlk T pc = some (.invokespecial n, q, y, 3, c, v)) (hy : Nat.ble 1000 y = false) (ho : k < σ.1.1) (hw : Nat.ble (zwd st) 8 = true) (kk : ZCt d y [zr (some k), x1, x2] σ f g (fun r σ' f' g' => ZWp d T q L (r.toList ++ st) σ' f' g' Q)) : ZWp d T pc L (x2 :: x1 :: zr (some k) :: st) σ f g Q := ZWp.call hlk ((if_neg (fun h => by have := Nat.ble_eq_true_of_le h; rw [hy] at this; cases this)).trans ((if_pos ⟨⟨by simp only [List.length_cons]; omega, Nat.le_of_ble_eq_true hw⟩, ho⟩).trans rfl)) kk
theorem r_callS2 {n y : Nat} {x1 x2 : ZV} (hlk : zlk T pc = some (.invokestatic n, q, y, 2, c, v)) (hy : Nat.ble 1000 y = false) (hw : Nat.ble (zwd st) 8 = true) (kk : ZCt d y [x1, x2] σ f g (fun r σ' f' g' => ZWp d T q L (r.toList ++ st) σ' f' g' Q)) : ZWp d T pc L (x2 :: x1 :: st) σ f g Q := ZWp.call hlk ((if_neg (fun h => by have := Nat.ble_eq_true_of_le h; rw [hy] at this; cases this)).trans ((if_pos ⟨by simp only [List.length_cons]; omega, Nat.le_of_ble_eq_true hw⟩).trans rfl)) kk
theorem r_callV3 {n y k : Nat} {x1 x2 x3 : ZV} (hlk : zlk T pc = some (.invokevirtual n, q, y, 4, c, v)) (hy : Nat.ble 1000 y = false) (ho : zO σ k c) (hw : Nat.ble (zwd st) 8 = true) (kk : ZCt d y [zr (some k), x1, x2, x3] σ f g (fun r σ' f' g' => ZWp d T q L (r.toList ++ st) σ' f' g' Q)) : ZWp d T pc L (x3 :: x2 :: x1 :: zr (some k) :: st) σ f g Q := ZWp.call hlk ((if_neg (fun h => by have := Nat.ble_eq_true_of_le h; rw [hy] at this; cases this)).trans ((if_pos ⟨⟨by simp only [List.length_cons]; omega, Nat.le_of_ble_eq_true hw⟩, ho⟩).trans rfl)) kk
theorem r_callI3 {n y k : Nat} {x1 x2 x3 : ZV} (hlk : zlk T pc = some (.invokespecial n, q, y, 4, c, v)) (hy : Nat.ble 1000 y = false) (ho : k < σ.1.1) (hw : Nat.ble (zwd st) 8 = true) (kk : ZCt d y [zr (some k), x1, x2, x3] σ f g (fun r σ' f' g' => ZWp d T q L (r.toList ++ st) σ' f' g' Q)) : ZWp d T pc L (x3 :: x2 :: x1 :: zr (some k) :: st) σ f g Q := ZWp.call hlk ((if_neg (fun h => by have := Nat.ble_eq_true_of_le h; rw [hy] at this; cases this)).trans ((if_pos ⟨⟨by simp only [List.length_cons]; omega, Nat.le_of_ble_eq_true hw⟩, ho⟩).trans rfl)) kk
theorem r_callS3 {n y : Nat} {x1 x2 x3 : ZV} (hlk : zlk T pc = some (.invokestatic n, q, y, 3, c, v)) (hy : Nat.ble 1000 y = false) (hw : Nat.ble (zwd st) 8 = true) (kk : ZCt d y [x1, x2, x3] σ f g (fun r σ' f' g' => ZWp d T q L (r.toList ++ st) σ' f' g' Q)) : ZWp d T pc L (x3 :: x2 :: x1 :: st) σ f g Q := ZWp.call hlk ((if_neg (fun h => by have := Nat.ble_eq_true_of_le h; rw [hy] at this; cases this)).trans ((if_pos ⟨by simp only [List.length_cons]; omega, Nat.le_of_ble_eq_true hw⟩).trans rfl)) kk
theorem r_callV4 {n y k : Nat} {x1 x2 x3 x4 : ZV} (hlk : zlk T pc = some (.invokevirtual n, q, y, 5, c, v)) (hy : Nat.ble 1000 y = false) (ho : zO σ k c) (hw : Nat.ble (zwd st) 8 = true) (kk : ZCt d y [zr (some k), x1, x2, x3, x4] σ f g (fun r σ' f' g' => ZWp d T q L (r.toList ++ st) σ' f' g' Q)) : ZWp d T pc L (x4 :: x3 :: x2 :: x1 :: zr (some k) :: st) σ f g Q := ZWp.call hlk ((if_neg (fun h => by have := Nat.ble_eq_true_of_le h; rw [hy] at this; cases this)).trans ((if_pos ⟨⟨by simp only [List.length_cons]; omega, Nat.le_of_ble_eq_true hw⟩, ho⟩).trans rfl)) kk
theorem r_callI4 {n y k : Nat} {x1 x2 x3 x4 : ZV} (hlk : zlk T pc = some (.invokespecial n, q, y, 5, c, v)) (hy : Nat.ble 1000 y = false) (ho : k < σ.1.1) (hw : Nat.ble (zwd st) 8 = true) (kk : ZCt d y [zr (some k), x1, x2, x3, x4] σ f g (fun r σ' f' g' => ZWp d T q L (r.toList ++ st) σ' f' g' Q)) : ZWp d T pc L (x4 :: x3 :: x2 :: x1 :: zr (some k) :: st) σ f g Q := ZWp.call hlk ((if_neg (fun h => by have := Nat.ble_eq_true_of_le h; rw [hy] at this; cases this)).trans ((if_pos ⟨⟨by simp only [List.length_cons]; omega, Nat.le_of_ble_eq_true hw⟩, ho⟩).trans rfl)) kk
theorem r_callS4 {n y : Nat} {x1 x2 x3 x4 : ZV} (hlk : zlk T pc = some (.invokestatic n, q, y, 4, c, v)) (hy : Nat.ble 1000 y = false) (hw : Nat.ble (zwd st) 8 = true) (kk : ZCt d y [x1, x2, x3, x4] σ f g (fun r σ' f' g' => ZWp d T q L (r.toList ++ st) σ' f' g' Q)) : ZWp d T pc L (x4 :: x3 :: x2 :: x1 :: st) σ f g Q := ZWp.call hlk ((if_neg (fun h => by have := Nat.ble_eq_true_of_le h; rw [hy] at this; cases this)).trans ((if_pos ⟨by simp only [List.length_cons]; omega, Nat.le_of_ble_eq_true hw⟩).trans rfl)) kk
theorem r_callV5 {n y k : Nat} {x1 x2 x3 x4 x5 : ZV} (hlk : zlk T pc = some (.invokevirtual n, q, y, 6, c, v)) (hy : Nat.ble 1000 y = false) (ho : zO σ k c) (hw : Nat.ble (zwd st) 8 = true) (kk : ZCt d y [zr (some k), x1, x2, x3, x4, x5] σ f g (fun r σ' f' g' => ZWp d T q L (r.toList ++ st) σ' f' g' Q)) : ZWp d T pc L (x5 :: x4 :: x3 :: x2 :: x1 :: zr (some k) :: st) σ f g Q := ZWp.call hlk ((if_neg (fun h => by have := Nat.ble_eq_true_of_le h; rw [hy] at this; cases this)).trans ((if_pos ⟨⟨by simp only [List.length_cons]; omega, Nat.le_of_ble_eq_true hw⟩, ho⟩).trans rfl)) kk
theorem r_callI5 {n y k : Nat} {x1 x2 x3 x4 x5 : ZV} (hlk : zlk T pc = some (.invokespecial n, q, y, 6, c, v)) (hy : Nat.ble 1000 y = false) (ho : k < σ.1.1) (hw : Nat.ble (zwd st) 8 = true) (kk : ZCt d y [zr (some k), x1, x2, x3, x4, x5] σ f g (fun r σ' f' g' => ZWp d T q L (r.toList ++ st) σ' f' g' Q)) : ZWp d T pc L (x5 :: x4 :: x3 :: x2 :: x1 :: zr (some k) :: st) σ f g Q := ZWp.call hlk ((if_neg (fun h => by have := Nat.ble_eq_true_of_le h; rw [hy] at this; cases this)).trans ((if_pos ⟨⟨by simp only [List.length_cons]; omega, Nat.le_of_ble_eq_true hw⟩, ho⟩).trans rfl)) kk
theorem r_callS5 {n y : Nat} {x1 x2 x3 x4 x5 : ZV} (hlk : zlk T pc = some (.invokestatic n, q, y, 5, c, v)) (hy : Nat.ble 1000 y = false) (hw : Nat.ble (zwd st) 8 = true) (kk : ZCt d y [x1, x2, x3, x4, x5] σ f g (fun r σ' f' g' => ZWp d T q L (r.toList ++ st) σ' f' g' Q)) : ZWp d T pc L (x5 :: x4 :: x3 :: x2 :: x1 :: st) σ f g Q := ZWp.call hlk ((if_neg (fun h => by have := Nat.ble_eq_true_of_le h; rw [hy] at this; cases this)).trans ((if_pos ⟨by simp only [List.length_cons]; omega, Nat.le_of_ble_eq_true hw⟩).trans rfl)) kk
theorem r_ret (hlk : zlk T pc = some (.return_, q, a, b, 0, v)) (hq : Q none σ f g) : ZWp d T pc L ([]) σ f g Q := ZWp.ret hlk rfl hq
theorem r_iret {x : Int} (hlk : zlk T pc = some (.ireturn, q, a, b, 1, v)) (hq : Q (some (zi x)) σ f g) : ZWp d T pc L ([zi x]) σ f g Q := ZWp.ret hlk rfl hq
theorem r_zret {x : Int} (hlk : zlk T pc = some (.ireturn, q, a, b, 2, v)) (h01 : x = 0 ∨ x = 1) (hq : Q (some (zi x)) σ f g) : ZWp d T pc L ([zi x]) σ f g Q := ZWp.ret hlk (if_pos (Or.inr ⟨rfl, h01⟩)) hq
theorem r_lret {x : Int} (hlk : zlk T pc = some (.lreturn, q, a, b, 3, v)) (hq : Q (some (zl x)) σ f g) : ZWp d T pc L ([zl x]) σ f g Q := ZWp.ret hlk rfl hq
theorem r_aret {x : Option Nat} (hlk : zlk T pc = some (.areturn, q, a, b, 4, v)) (hq : Q (some (zr x)) σ f g) : ZWp d T pc L ([zr x]) σ f g Q := ZWp.ret hlk rfl hq
end ZWPS
