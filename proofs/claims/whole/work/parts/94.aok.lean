/-! What is in order stays in order -/
section AOKS
variable {N N' : Int} {rd rd' : Rd} {pl : Pl} {rd0 : Rd} {a : AS}
theorem VR.mono (h : VR pl N rd) (h1 : N ≤ N') (h2 : N' ≤ 1000000) : VR pl N' rd := ⟨h.1.mono h1 h2, h.2⟩
theorem VS.vr (h : VS pl N (-1) rd) (h5 : rd 5 0 ≤ 999) : VR pl N rd := ⟨h.1, h.2.1, h5, h.2.2.2⟩
theorem AWOk.mono {w : AW} (h : AWOk N w) (h1 : N ≤ N') (h2 : N' ≤ 1000000) : AWOk N' w := by
  obtain ⟨k1, k2⟩ := h
  refine ⟨k1, ?_⟩
  cases hp : w.pn with
  | none => rw [hp] at k2; exact k2
  | some x =>
    obtain ⟨pl, rd0⟩ := x
    rw [hp] at k2
    exact ⟨k2.1, k2.2.1.mono h1 h2, k2.2.2⟩
theorem AOk.mono (h : AOk N a) (h1 : N ≤ N') (h2 : N' ≤ 900000) : AOk N' a := by
  obtain ⟨k1, k2, k3, k4, k5, k6, k7, k8⟩ := h
  refine ⟨k1, k2, k3.mono h1 (by omega), k4, k5, ?_, fun k hk w fo x e => ⟨(k7 k hk w fo x e).1.mono h1 (by omega), (k7 k hk w fo x e).2⟩, by omega⟩
  cases hp : a.w.pn with
  | none => rw [hp] at k6; exact k6
  | some x =>
    obtain ⟨pl, rd0⟩ := x
    rw [hp] at k6
    exact fun i hi => (k6 i hi).mono h1 (by omega)
theorem AOk.rdS (h : AOk N a) (hp : a.w.pn = some (pl, rd0)) (hv : VR pl N rd') : AOk N (setRd a rd') := by
  obtain ⟨k1, k2, k3, k4, k5, k6, k7, k8⟩ := h
  refine ⟨k1, k2, ⟨k3.1, ?_⟩, k4, k5, k6, k7, k8⟩
  have k32 := k3.2
  show (match a.w.pn with
    | none => rd' = rdI
    | some (pl, rd0) => PlOk pl ∧ VR pl N rd' ∧ StOk pl rd0)
  rw [hp] at k32 ⊢
  exact ⟨k32.1, hv, k32.2.2⟩
theorem AOk.act (h : AOk N a) (hp : a.w.pn = some (pl, rd0)) (h1 : N ≤ N') (h2 : N' ≤ 900000) (hv : VR pl N' rd') : AOk N' (setRd (aKeep a) rd') :=
  AOk.rdS ((h.mono h1 h2).keep (by rw [hp]; exact fun q => by cases q)) (a := aKeep a) hp hv
theorem aok_step (h : AOk N a) (hN : N + 7 ≤ 900000) : AOk (N + 7) (sStep a).2 := by
  unfold sStep
  cases hp : a.w.pn with
  | none => exact h.mono (by omega) hN
  | some x =>
    obtain ⟨pl, rd0⟩ := x
    simp only
    obtain ⟨q1, q2, q3⟩ := h.plS hp
    split
    · exact h.mono (by omega) hN
    · refine h.act hp (by omega) hN ((q2.vs.step q1 (by omega)).vr ?_)
      rw [rStep_t]
      omega
theorem on_rng (h : AOk N a) {x : Int} (hx : isOnA a x) : ∃ pl rd0, a.w.pn = some (pl, rd0) ∧ VR pl N a.w.rd ∧ x.toNat < 6 ∧ 0 ≤ a.w.rd 0 x.toNat ∧ 0 ≤ a.w.rd 2 x.toNat := by
  obtain ⟨pl, rd0, hp⟩ := h.onPl (k := x.toNat) (by omega) hx.2.2
  obtain ⟨q1, q2, q3⟩ := h.plS hp
  have hc := q2.1.2.2.1 x.toNat (by omega)
  exact ⟨pl, rd0, hp, q2, by omega, by omega, by omega⟩
theorem aok_pole (h : AOk N a) (hN : N + 7 ≤ 900000) (x y : Int) : AOk (N + 7) (sPole a x y).2 := by
  unfold sPole
  split
  · rename_i hx
    obtain ⟨pl, rd0, hp, hv, h1, h2, h3⟩ := on_rng h hx.1
    refine h.act hp (by omega) hN ((((hv.vs.fuel h1 h2 ?_)).mono (by omega) (by omega)).vr ?_)
    · unfold poleV; split <;> omega
    · have := hv.2.2.1; simpa [up2] using this
  · exact h.mono (by omega) hN
theorem aok_grass (h : AOk N a) (hN : N + 7 ≤ 900000) (x : Int) : AOk (N + 7) (sGrass a x).2 := by
  unfold sGrass
  split
  · rename_i hx
    obtain ⟨pl, rd0, hp, hv, h1, h2, h3⟩ := on_rng h hx
    refine h.act hp (by omega) hN ((((hv.vs.grass h1 hx.2.2 (by omega))).mono (by omega) (by omega)).vr ?_)
    have := hv.2.2.1
    simpa [rCross, rOff, up2] using this
  · exact h.mono (by omega) hN
theorem aok_fill (h : AOk N a) (hN : N + 7 ≤ 900000) (x : Int) : AOk (N + 7) (sFill a x).2 := by
  unfold sFill
  cases hp : a.w.pn with
  | none => exact h.mono (by omega) hN
  | some z =>
    obtain ⟨pl, rd0⟩ := z
    simp only
    obtain ⟨q1, q2, q3⟩ := h.plS hp
    split
    · refine h.act hp (by omega) hN (((q2.vs.gap).mono (by omega) (by omega)).vr ?_)
      have := q2.2.2.1
      simpa [up2] using this
    · exact h.mono (by omega) hN
theorem aok_wish (h : AOk N a) (hN : N + 7 ≤ 900000) (x y : Int) : AOk (N + 7) (sWish a x y).2 := by
  unfold sWish
  split
  · rename_i hx
    obtain ⟨pl, rd0, hp, hv, h1, h2, h3⟩ := on_rng h hx.1
    have hy := hx.2.1
    unfold isRoadA at hy
    rw [roads1 hp] at hy
    refine h.act hp (by omega) hN ((((hv.vs.want h1 h2 hy)).mono (by omega) (by omega)).vr ?_)
    have := hv.2.2.1
    simpa [up2] using this
  · exact h.mono (by omega) hN
theorem aok_undo (h : AOk N a) (hN : N + 7 ≤ 900000) : AOk (N + 7) (sUndo a).2 := by
  unfold sUndo
  split
  · exact h.mono (by omega) hN
  · rename_i hu
    refine AOk.mono (N := N) ?_ (by omega) hN
    cases hp : a.w.pn with
    | none =>
      have h6 := h.2.2.2.2.2.1
      rw [hp] at h6
      exact absurd h6 hu
    | some z =>
      obtain ⟨pl, rd0⟩ := z
      have h6 := h.2.2.2.2.2.1
      rw [hp] at h6
      have h6' : ∀ i, i < a.uc → VR pl N (a.us i) := h6
      have hr := h.rdS hp (h6' 0 (by omega))
      obtain ⟨k1, k2, k3, k4, k5, k6, k7, k8⟩ := hr
      refine ⟨⟨k1.1, k1.2.1, ?_⟩, k2, k3, k4, k5, ?_, k7, k8⟩
      · show a.uc - 1 ≤ 20
        have := h.1.2.2
        omega
      · show (match a.w.pn with
          | none => a.uc - 1 = 0
          | some (pl, _) => ∀ i, i < a.uc - 1 → VR pl N (a.us (i + 1)))
        rw [hp]
        exact fun i hi => h6' (i + 1) (by omega)
theorem aok_force (h : AOk N a) (hN : N + 7 ≤ 900000) (x : Int) : AOk (N + 7) (sForce a x).2 := by
  unfold sForce
  split
  · rename_i hx
    obtain ⟨k1, k2, k3, k4, k5, k6, k7, k8⟩ := h.mono (N' := N + 7) (by omega) hN
    exact ⟨k1, k2, k3, hx, k5, k6, k7, k8⟩
  · exact h.mono (by omega) hN
theorem aok_seed (h : AOk N a) (hN : N + 7 ≤ 900000) {x : Int} (hx : IR x) : AOk (N + 7) (sSeed a x).2 := by
  unfold sSeed
  unfold IR at hx
  split
  · exact h.mono (by omega) hN
  · exact (h.mono (by omega) hN).sx (by omega)
theorem AOk.sT' (h : AOk N a) {n : Nat} (hn : n ≤ 400) (tp : Nat → Int) : AOk N (a.sT n tp) := by
  obtain ⟨k1, k2, k3, k4, k5, k6, k7, k8⟩ := h
  exact ⟨⟨hn, k1.2⟩, k2, k3, k4, k5, k6, k7, k8⟩
theorem aok_end (h : AOk N a) (hN : N + 7 ≤ 900000) (x : Int) : AOk (N + 7) (sEnd a x).2 := by
  have h1 := h.1.1
  unfold sEnd
  split
  · exact (h.mono (by omega) hN).sT' (by omega) _
  · exact h.mono (by omega) hN
theorem aok_feed (h : AOk N a) (hN : N + 7 ≤ 900000) (v1 v2 v3 v4 v5 : Int) : AOk (N + 7) (sFeed a v1 v2 v3 v4 v5).2 := by
  unfold sFeed
  split
  · exact (h.mono (by omega) hN).sT' (by omega) _
  · exact h.mono (by omega) hN
theorem AOk.ntS (h : AOk N a) {ns : Nat} {nt : Nat → Nat → Int} (hn : NtOk (a.w.sNt ns nt)) : AOk N (a.sW (a.w.sNt ns nt)) := by
  obtain ⟨k1, k2, k3, k4, k5, k6, k7, k8⟩ := h
  exact ⟨k1, k2, ⟨hn, k3.2⟩, k4, k5, k6, k7, k8⟩
theorem aok_note (h : AOk N a) (hN : N + 7 ≤ 900000) (n c e : Int) : AOk (N + 7) (sNote a n c e).2 := by
  have hm := h.mono (N' := N + 7) (by omega) hN
  unfold sNote
  split
  · exact hm.ntS ⟨Nat.zero_le _, fun i hi => absurd hi (Nat.not_lt_zero i)⟩
  · split
    · rename_i hx
      obtain ⟨h1, h2, h3, h4, h5⟩ := hx
      have hc : cellsN a ≤ 20 := by
        cases hp : a.w.pn with
        | none => rw [cells0 hp]; omega
        | some z =>
          obtain ⟨pl, rd0⟩ := z
          unfold cellsN
          rw [hp]
          exact (h.plS hp).1.1.2
      have hnt := h.2.2.1.1
      refine hm.ntS ⟨by show a.w.ns + 1 ≤ 10; omega, fun i hi => ?_⟩
      have hi' : i < a.w.ns + 1 := hi
      show (0 ≤ up2 (up2 (up2 a.w.nt 0 a.w.ns n) 1 a.w.ns c) 2 a.w.ns e 0 i ∧ up2 (up2 (up2 a.w.nt 0 a.w.ns n) 1 a.w.ns c) 2 a.w.ns e 0 i ≤ (60 : Int)) ∧ (0 ≤ up2 (up2 (up2 a.w.nt 0 a.w.ns n) 1 a.w.ns c) 2 a.w.ns e 1 i ∧ up2 (up2 (up2 a.w.nt 0 a.w.ns n) 1 a.w.ns c) 2 a.w.ns e 1 i < (6 : Int)) ∧ (-1 ≤ up2 (up2 (up2 a.w.nt 0 a.w.ns n) 1 a.w.ns c) 2 a.w.ns e 2 i ∧ up2 (up2 (up2 a.w.nt 0 a.w.ns n) 1 a.w.ns c) 2 a.w.ns e 2 i < (20 : Int))
      by_cases q : i = a.w.ns
      · subst q
        simp [up2]
        omega
      · have := hnt.2 i (by omega)
        simpa [up2, q] using this
    · exact hm
theorem aok_image (h : AOk N a) (hN : N + 7 ≤ 900000) (x : Int) : AOk (N + 7) (sImage a x).2 := by
  have hm := h.mono (N' := N + 7) (by omega) hN
  unfold sImage
  split
  · obtain ⟨k1, k2, k3, k4, k5, k6, k7, k8⟩ := hm
    refine ⟨k1, k2, k3, k4, k5, k6, fun k hk w fo x' e => ?_, k8⟩
    have e' : (if k = x.toNat then some (a.w, a.fo, a.x) else a.im k) = some (w, fo, x') := e
    split at e'
    · cases e'
      exact ⟨k3, k4, k5⟩
    · exact k7 k hk w fo x' e'
  · exact hm
theorem aok_back (h : AOk N a) (hN : N + 7 ≤ 900000) (x : Int) : AOk (N + 7) (sBack a x).2 := by
  have hm := h.mono (N' := N + 7) (by omega) hN
  unfold sBack
  split
  · rename_i hx
    cases hi : a.im x.toNat with
    | none => exact hm
    | some z =>
      obtain ⟨w, fo, y⟩ := z
      obtain ⟨k1, k2, k3, k4, k5, k6, k7, k8⟩ := hm
      obtain ⟨q1, q2, q3⟩ := k7 x.toNat (by omega) w fo y hi
      refine ⟨⟨k1.1, k1.2.1, Nat.zero_le _⟩, k2, q1, q2, q3, ?_, k7, k8⟩
      show (match w.pn with
        | none => (0 : Nat) = 0
        | some (pl, _) => ∀ i, i < 0 → VR pl (N + 7) (a.us i))
      cases w.pn with
      | none => rfl
      | some z => exact fun i hi => absurd hi (Nat.not_lt_zero i)
  · exact hm
theorem aok_rule (h : AOk N a) (hN : N + 7 ≤ 900000) : AOk (N + 7) (sRule a).2 := by
  have hm := h.mono (N' := N + 7) (by omega) hN
  by_cases h6 : a.rk < 6
  · rcases hr : dRule (aTx a) 13 0 (sk (aTx a) 0) 0 with e | cls
    · rw [sRule_inl h6 hr]
      exact hm.sT' (Nat.zero_le _) _
    · rw [sRule_inr h6 hr]
      obtain ⟨r1, r2⟩ := dRule_ok _ _ _ _ _ hr (by omega)
      obtain ⟨k1, k2, k3, k4, k5, k6, k7, k8⟩ := hm.sT' (Nat.zero_le _) a.tp
      refine ⟨⟨k1.1, by show a.rk + 1 ≤ 6; omega, k1.2.2⟩, fun i hi => ?_, k3, ⟨k4.1, ?_⟩, k5, k6, fun k hk w fo x e => ?_, k8⟩
      · have hi' : i < a.rk + 1 := hi
        show (if i = a.rk then cls else a.ru i).length ≤ 12 ∧ ∀ x ∈ (if i = a.rk then cls else a.ru i), clOk x
        by_cases e : i = a.rk
        · rw [if_pos e]; exact ⟨by omega, r2⟩
        · rw [if_neg e]; exact h.2.1 i (by omega)
      · show a.fo < ((a.rk + 1 : Nat) : Int)
        have := h.2.2.2.1.2
        omega
      · obtain ⟨q1, q2, q3⟩ := k7 k hk w fo x e
        refine ⟨q1, ⟨q2.1, ?_⟩, q3⟩
        show fo < ((a.rk + 1 : Nat) : Int)
        have : fo < (a.rk : Int) := q2.2
        omega
  · have e : sRule a = (-1, a) := by unfold sRule; rw [if_neg h6]
    rw [e]
    exact hm
theorem aok_show (h : AOk N a) (hN : N + 7 ≤ 900000) : AOk (N + 7) (sShow a).2 := by
  have hm := h.mono (N' := N + 7) (by omega) hN
  have hN0 := h.2.2.2.2.2.2.2
  rcases hr : dShow (aTx a) 41 0 pl0 rdI (sk (aTx a) 0) with e | ⟨pl, rd⟩
  · rw [sShow_inl hr]
    exact hm.sT' (Nat.zero_le _) _
  · rw [sShow_inr hr]
    obtain ⟨hpl, hst⟩ := dShow_ok _ _ _ _ _ _ _ hr (sk_le (Nat.zero_le _)) (Or.inl ⟨rfl, rfl, rfl⟩)
    obtain ⟨k1, k2, k3, k4, k5, k6, k7, k8⟩ := hm.sT' (Nat.zero_le _) a.tp
    refine ⟨⟨k1.1, k1.2.1, Nat.zero_le _⟩, k2, ⟨⟨Nat.zero_le _, fun i hi => absurd hi (Nat.not_lt_zero i)⟩, hpl, ⟨hst.1.mono (by omega) (by omega), hst.2.1, ?_, fun j _ => hst.2.2.1 j⟩, hst⟩, k4, k5, fun i hi => absurd hi (Nat.not_lt_zero i), k7, k8⟩
    have := hst.1.2.2.2.2.2.1.2
    show rd 5 0 ≤ 999
    omega
end AOKS
