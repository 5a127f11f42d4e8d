/-! The small machine's heap instructions, each held against the machine's own -/
theorem zft0 {t : FieldType} (h : zft t = 0) : t = .int := by cases t <;> first | rfl | cases h
theorem zft1 {t : FieldType} (h : zft t = 1) : t = .long := by cases t <;> first | rfl | cases h
theorem zft3 {t : FieldType} (h : zft t = 3) : t = .boolean := by cases t <;> first | rfl | cases h
theorem zft2 {t : FieldType} (h : zft t = 2) : (∃ n, t = .object n) ∨ ∃ u, t = .array u := by
  cases t <;> first | exact Or.inl ⟨_, rfl⟩ | exact Or.inr ⟨_, rfl⟩ | cases h
theorem zad_own {B : Nat} {ext : Nat → Nat} {k : Nat} (h : k < 10000000) : zad B ext k = B + k := by
  unfold zad zX
  rw [if_pos (by omega)]
theorem zcv_own {B : Nat} {ext : Nat → Nat} {k : Nat} (h : k < 10000000) : zcv B ext (zr (some k)) = .ref (B + k) := by
  show Value.ref (zad B ext k) = _
  rw [zad_own h]
theorem zce_obj {B : Nat} {ext : Nat → Nat} {ca : Nat → ClassId} {h : ZH} {k cl : Nat} (ht : (h.1.2 k).1 = cl) (hc : cl < 12) : zce B ext ca h k = .inr (cl, (List.range (znf cl)).map (fun j => zfv B ext h k cl j)) := by
  unfold zce
  rw [ht, if_pos (by omega)]
theorem zce_int {B : Nat} {ext : Nat → Nat} {ca : Nat → ClassId} {h : ZH} {k t : Nat} (ht : (h.1.2 k).1 = t) (hc : t = 100 ∨ t = 101 ∨ t = 102) : zce B ext ca h k = .inl (ca k, (h.1.2 k).2, .inl (fun j => Int32.ofInt (h.2.1 k j))) := by
  unfold zce
  rw [ht, if_neg (by omega), if_neg (by omega), if_neg (by omega)]
theorem zce_long {B : Nat} {ext : Nat → Nat} {ca : Nat → ClassId} {h : ZH} {k : Nat} (ht : (h.1.2 k).1 = 103) : zce B ext ca h k = .inl (ca k, (h.1.2 k).2, .inr (.inl (fun j => Int64.ofInt (h.2.1 k j)))) := by
  unfold zce
  rw [ht, if_neg (by omega), if_pos rfl]
theorem zce_ref {B : Nat} {ext : Nat → Nat} {ca : Nat → ClassId} {h : ZH} {k t : Nat} (ht : (h.1.2 k).1 = t) (hc : 110 ≤ t) : zce B ext ca h k = .inl (ca k, (h.1.2 k).2, .inr (.inr (.inr (.inr (fun j => (h.2.2 k j).map (zad B ext)))))) := by
  unfold zce
  rw [ht, if_neg (by omega), if_neg (by omega), if_pos hc]
theorem zcomp_ref {t : Nat} (h : 110 ≤ t) : zcomp t = .object (zRX (t - 110)) := by
  unfold zcomp
  rw [if_neg (by omega), if_neg (by omega), if_neg (by omega), if_pos h]
theorem znar_b {x : Int} (h : -128 ≤ x ∧ x ≤ 127) : vp_nar .byte (Int32.ofInt x) = Int32.ofInt x := by
  show (Int32.ofInt x).toInt8.toInt32 = Int32.ofInt x
  rw [z_i2b_of, show z_b x = x by unfold z_b; omega]
theorem znar_z {x : Int} (h : x = 0 ∨ x = 1) : vp_nar .boolean (Int32.ofInt x) = Int32.ofInt x := by
  rcases h with rfl | rfl <;> decide
section ZHEAP
variable {p : Program} {l : Launch} {e : Env} {R : Room} {s : State} {m : MethodId} {args : Array Value} {below : List Frame} {meth : Method} {c : Code} {Q : State → Prop}
variable {B : Nat} {ext : Nat → Nat} {D : va_G} {sc : Nat × (Nat → Int32)} {N0 S0 nL o pc : Nat} {cc : ByteArray} {L st : List ZV} {h : ZH}
theorem W.bound {H : Heap} {locs : List Loc} {cells slots : Nat} {g : JFrame} (k : H.size ≤ s.heap.size + cells → W p l e R s m args below meth c H locs cells slots Q g) : W p l e R s m args below meth c H locs cells slots Q g := by
  intro T hT X
  refine k ?_ T hT X
  have h1 := X.same.2.2.1
  rw [← hT]
  exact h1
theorem zlow {ca : Nat → ClassId} {H : Heap} (hP : va_P D vwCl (zws B ext ca h) H) (h0 : B ≤ H.size) : B + h.1.1.1 ≤ H.size := by
  by_cases hz : h.1.1.1 = 0
  · omega
  · have := (hP (h.1.1.1 - 1) _ (zws_at (by omega))).lt
    have h1 : B + (h.1.1.1 - 1) < H.size := this
    omega
theorem zw_get (C : ZC p s m args c o cc nL) {n k a cl : Nat} (hk : k < h.1.1.1) (ht : (h.1.2 k).1 = cl) (hc : cl < 12) (ha : a < znf cl) (hl : Cond.fieldLink (zRN o) n (zRX cl) (zTX cl a).2.1 (zTX cl a).2.2.1 ∈ tables_1) {w : ZV} (hw : zfv B ext h k cl a = zcv B ext w) (hd : decode cc pc = .ok (.getfield n, 3)) (kk : ZW p l e R s m args below meth c Q B ext D sc N0 S0 nL (pc + 3) (L) (w :: st) (h)) : ZW p l e R s m args below meth c Q B ext D sc N0 S0 nL (pc) (L) (zr (some k) :: st) (h) := by
  intro ca H locs cells slots ls a1 a2 a3 a4 a5 a6 a7
  have K := kk ca H locs cells slots ls a1 a2 a3 a4 a5 a6 a7
  have hkk : k < 10000000 := by have := a1.1; omega
  rw [List.map_cons, zcv_own hkk]
  have he : (zws B ext ca h)[k]? = some (B + k, .inr (cl, (List.range (znf cl)).map (fun j => zfv B ext h k cl j))) := by rw [zws_at hk, zce_obj ht hc]
  refine va_get C.1 C.2.1 (own := zRN o) (ref := zRX cl) (C := zRX cl) (T := zTX cl) (N := znf cl) (ci := cl) (Ts := zTB) C.2.2.2.2 (zlay_in hc) C.2.2.2.1 a2.1 a1.2.1 k he (zcl_at hc) a ha (C.2.2.2.2 _ (zTB_in hl rfl)) (by rw [zcls_ok hc a ha]; exact fun x hx => hx) (v := zcv B ext w) ?_ hd K
  rw [← hw]
  simp [ha]
theorem zws_upd {ca : Nat → ClassId} {h h' : ZH} {k : Nat} (e0 : h'.1 = h.1) (eo : ∀ j, j ≠ k → h'.2.1 j = h.2.1 j ∧ h'.2.2 j = h.2.2 j) : (zws B ext ca h).set k (B + k, zce B ext ca h' k) = zws B ext ca h' :=
  zws_set (by rw [e0]) (fun j hj => zce_off (by rw [e0]) (eo j hj).1 (eo j hj).2 rfl)
theorem zsc_upd {h h' : ZH} {k : Nat} (hk : k < 10000000) (e0 : h'.1 = h.1) (eo : ∀ j, j ≠ k → h'.2.1 j = h.2.1 j ∧ h'.2.2 j = h.2.2 j) (hs : ZSc sc h) : ZSc sc h' := by
  refine ⟨by rw [e0]; exact hs.1, fun j => ?_⟩
  rw [(eo (zX + 6) (by unfold zX; omega)).1]
  exact hs.2 j
theorem zw_put (C : ZC p s m args c o cc nL) {n k a cl : Nat} (hk : k < h.1.1.1) (ht : (h.1.2 k).1 = cl) (hc : cl < 12) (ha : a < znf cl) (hl : Cond.fieldLink (zRN o) n (zRX cl) (zTX cl a).2.1 (zTX cl a).2.2.1 ∈ tables_1) (hfin : (zTX cl a).2.2.2 = false ∨ (meth.name = "<init>" ∧ zRX cl = zRN o)) {w : ZV} {h' : ZH} (e0 : h'.1 = h.1) (eo : ∀ j, j ≠ k → h'.2.1 j = h.2.1 j ∧ h'.2.2 j = h.2.2 j) (ek : ∀ j, zfv B ext h' k cl j = if j = a then zcv B ext w else zfv B ext h k cl j) (hn : narrow (ztX cl a) (zcv B ext w) = zcv B ext w) (hfit : fits (ztX cl a) (zcv B ext w) = true) (hd : decode cc pc = .ok (.putfield n, 3)) (kk : ZW p l e R s m args below meth c Q B ext D sc N0 S0 nL (pc + 3) (L) (st) (h')) : ZW p l e R s m args below meth c Q B ext D sc N0 S0 nL (pc) (L) (w :: zr (some k) :: st) (h) := by
  intro ca H locs cells slots ls a1 a2 a3 a4 a5 a6 a7
  have hkk : k < 10000000 := by have := a1.1; omega
  rw [List.map_cons, List.map_cons, zcv_own hkk]
  have he : (zws B ext ca h)[k]? = some (B + k, .inr (cl, (List.range (znf cl)).map (fun j => zfv B ext h k cl j))) := by rw [zws_at hk, zce_obj ht hc]
  have hset : ((List.range (znf cl)).map (fun j => zfv B ext h k cl j)).set a (zcv B ext w) = (List.range (znf cl)).map (fun j => zfv B ext h' k cl j) := by
    apply List.ext_getElem?
    intro j
    by_cases hj : j < znf cl
    · rw [List.getElem?_set]
      by_cases hja : a = j
      · subst hja
        simp [hj, ek]
      · rw [if_neg hja]
        simp only [List.getElem?_map, List.getElem?_range hj, Option.map_some]
        rw [ek j, if_neg (fun q => hja q.symm)]
    · rw [List.getElem?_eq_none (by simp; omega), List.getElem?_eq_none (by simp; omega)]
  have hlen : a < ((List.range (znf cl)).map (fun j => zfv B ext h k cl j)).length := by simpa using ha
  have hnew : (zws B ext ca h).set k (B + k, .inr (cl, ((List.range (znf cl)).map (fun j => zfv B ext h k cl j)).set a (zcv B ext w))) = zws B ext ca h' := by
    rw [hset, ← zws_upd e0 eo, zce_obj (h := h') (by rw [e0]; exact ht) hc]
  have hsame : ∀ x, s.fieldFound? (zTX cl a).1 (zTX cl a).2.1 (zTX cl a).2.2.1 = some x → s.fieldFound? (zRX cl) (zTX cl a).2.1 (zTX cl a).2.2.1 = some x := by rw [zcls_ok hc a ha]; exact fun x hx => hx
  have KK : ∀ (H1 : Heap) (locs1 : List Loc), va_P D vwCl ((zws B ext ca h).set k (B + k, .inr (cl, ((List.range (znf cl)).map (fun j => zfv B ext h k cl j)).set a (zcv B ext w)))) H1 → va_D (zAr B) ((zws B ext ca h).set k (B + k, .inr (cl, ((List.range (znf cl)).map (fun j => zfv B ext h k cl j)).set a (zcv B ext w)))) → va_S (zAr B) s.heap H1 locs1 → W p l e R s m args below meth c H1 locs1 cells slots Q (F0 m (pc + 3) ls (st.map (zcv B ext))) := by
    intro H1 locs1 b1 b2 b4
    rw [hnew] at b1
    exact kk ca H1 locs1 cells slots ls ⟨by rw [e0]; exact a1.1, b1, zsc_upd hkk e0 eo a1.2.2⟩ (by rw [e0]; exact a2) b4 (by rw [e0]; exact a4) (by rw [e0]; exact a5) a6 a7
  by_cases hf : (zTX cl a).2.2.2 = true
  · rcases hfin with h0 | ⟨h1, h2⟩
    · rw [hf] at h0; cases h0
    · exact va_putF C.1 C.2.1 (own := zRN o) (ref := zRX cl) (C := zRX cl) (T := zTX cl) (N := znf cl) (ci := cl) (Ts := zTB) C.2.2.2.2 (zlay_in hc) (ztX cl) (zty_ok hc) (znm_ok hc) C.2.2.2.1 a2.1 a1.2.1 zws_D a3 k he (zcl_at hc) a ha (C.2.2.2.2 _ (zTB_in hl rfl)) hsame hf h1 (by rw [zcls_ok hc a ha]; exact h2) (zty_ok hc a ha) hn hfit hlen hd KK
  · exact va_put C.1 C.2.1 (own := zRN o) (ref := zRX cl) (C := zRX cl) (T := zTX cl) (N := znf cl) (ci := cl) (Ts := zTB) C.2.2.2.2 (zlay_in hc) (ztX cl) (zty_ok hc) (znm_ok hc) C.2.2.2.1 a2.1 a1.2.1 zws_D a3 k he (zcl_at hc) a ha (C.2.2.2.2 _ (zTB_in hl rfl)) hsame (by simpa using hf) (zty_ok hc a ha) hn hfit hlen hd KK
theorem up2_row {α : Type} (f : Nat → Nat → α) {a i j : Nat} (v : α) (h : j ≠ a) : up2 f a i v j = f j := by
  funext b
  exact up2_ne f v (fun q => h q.1)
theorem zw_putI (C : ZC p s m args c o cc nL) {n k a cl b : Nat} {x : Int} (hk : k < h.1.1.1) (ht : (h.1.2 k).1 = cl) (hc : cl < 12) (ha : a < znf cl) (hb : zft (ztX cl a) = b) (hx : b = 0 ∨ (b = 3 ∧ (x = 0 ∨ x = 1))) (hl : Cond.fieldLink (zRN o) n (zRX cl) (zTX cl a).2.1 (zTX cl a).2.2.1 ∈ tables_1) (hfin : (zTX cl a).2.2.2 = false ∨ (meth.name = "<init>" ∧ zRX cl = zRN o)) (hd : decode cc pc = .ok (.putfield n, 3)) (kk : ZW p l e R s m args below meth c Q B ext D sc N0 S0 nL (pc + 3) (L) (st) ((h.1, up2 h.2.1 k a x, h.2.2))) : ZW p l e R s m args below meth c Q B ext D sc N0 S0 nL (pc) (L) (zi x :: zr (some k) :: st) (h) := by
  refine zw_put C hk ht hc ha hl hfin (w := zi x) (h' := (h.1, up2 h.2.1 k a x, h.2.2)) rfl (fun j hj => ⟨up2_row _ _ hj, rfl⟩) (fun j => ?_) ?_ ?_ hd kk
  · by_cases hj : j = a
    · subst hj
      rw [if_pos rfl]
      unfold zfv
      rw [if_neg (by omega), if_neg (by omega)]
      show Value.int (Int32.ofInt (up2 h.2.1 k j x k j)) = _
      rw [up2_same]
      rfl
    · rw [if_neg hj]
      unfold zfv
      dsimp only
      rw [up2_ne h.2.1 x (fun q => hj q.2)]
  · rcases hx with h0 | ⟨h3, h4⟩
    · rw [zft0 (hb.trans h0)]; rfl
    · rw [zft3 (hb.trans h3)]
      show Value.int (Int32.ofInt x &&& 1) = Value.int (Int32.ofInt x)
      rcases h4 with rfl | rfl <;> decide
  · rcases hx with h0 | ⟨h3, h4⟩
    · rw [zft0 (hb.trans h0)]; rfl
    · rw [zft3 (hb.trans h3)]
      show (Int32.ofInt x == 0 || Int32.ofInt x == 1) = true
      rcases h4 with rfl | rfl <;> decide
theorem zw_putL (C : ZC p s m args c o cc nL) {n k a cl : Nat} {x : Int} (hk : k < h.1.1.1) (ht : (h.1.2 k).1 = cl) (hc : cl < 12) (ha : a < znf cl) (hb : zft (ztX cl a) = 1) (hl : Cond.fieldLink (zRN o) n (zRX cl) (zTX cl a).2.1 (zTX cl a).2.2.1 ∈ tables_1) (hfin : (zTX cl a).2.2.2 = false ∨ (meth.name = "<init>" ∧ zRX cl = zRN o)) (hd : decode cc pc = .ok (.putfield n, 3)) (kk : ZW p l e R s m args below meth c Q B ext D sc N0 S0 nL (pc + 3) (L) (st) ((h.1, up2 h.2.1 k a x, h.2.2))) : ZW p l e R s m args below meth c Q B ext D sc N0 S0 nL (pc) (L) (zl x :: zr (some k) :: st) (h) := by
  refine zw_put C hk ht hc ha hl hfin (w := zl x) (h' := (h.1, up2 h.2.1 k a x, h.2.2)) rfl (fun j hj => ⟨up2_row _ _ hj, rfl⟩) (fun j => ?_) ?_ ?_ hd kk
  · by_cases hj : j = a
    · subst hj
      rw [if_pos rfl]
      unfold zfv
      rw [if_pos hb]
      show Value.long (Int64.ofInt (up2 h.2.1 k j x k j)) = _
      rw [up2_same]
      rfl
    · rw [if_neg hj]
      unfold zfv
      dsimp only
      rw [up2_ne h.2.1 x (fun q => hj q.2)]
  · rw [zft1 hb]; rfl
  · rw [zft1 hb]; rfl
theorem zw_putR (C : ZC p s m args c o cc nL) {n k a cl : Nat} {x : Option Nat} (hk : k < h.1.1.1) (ht : (h.1.2 k).1 = cl) (hc : cl < 12) (ha : a < znf cl) (hb : zft (ztX cl a) = 2) (hl : Cond.fieldLink (zRN o) n (zRX cl) (zTX cl a).2.1 (zTX cl a).2.2.1 ∈ tables_1) (hfin : (zTX cl a).2.2.2 = false ∨ (meth.name = "<init>" ∧ zRX cl = zRN o)) (hd : decode cc pc = .ok (.putfield n, 3)) (kk : ZW p l e R s m args below meth c Q B ext D sc N0 S0 nL (pc + 3) (L) (st) ((h.1, h.2.1, up2 h.2.2 k a x))) : ZW p l e R s m args below meth c Q B ext D sc N0 S0 nL (pc) (L) (zr x :: zr (some k) :: st) (h) := by
  refine zw_put C hk ht hc ha hl hfin (w := zr x) (h' := (h.1, h.2.1, up2 h.2.2 k a x)) rfl (fun j hj => ⟨rfl, up2_row _ _ hj⟩) (fun j => ?_) ?_ ?_ hd kk
  · by_cases hj : j = a
    · subst hj
      rw [if_pos rfl]
      unfold zfv
      rw [if_neg (by omega), if_pos hb]
      show va_rf ((up2 h.2.2 k j x k j).map (zad B ext)) = _
      rw [up2_same]
      rfl
    · rw [if_neg hj]
      unfold zfv
      dsimp only
      rw [up2_ne h.2.2 x (fun q => hj q.2)]
  · rcases zft2 hb with ⟨t, ht2⟩ | ⟨t, ht2⟩ <;> rw [ht2] <;> rfl
  · rcases zft2 hb with ⟨t, ht2⟩ | ⟨t, ht2⟩ <;> rw [ht2] <;> cases x <;> rfl
theorem zw_iald (C : ZC p s m args c o cc nL) {k : Nat} {i : Int} (hk : k < h.1.1.1) (ht : (h.1.2 k).1 = 100) (h0 : 0 ≤ i) (h1 : i < ((h.1.2 k).2 : Int)) (h2 : (h.1.2 k).2 ≤ 2147483647) (hd : decode cc pc = .ok (.iaload, 1)) (kk : ZW p l e R s m args below meth c Q B ext D sc N0 S0 nL (pc + 1) (L) (zi (h.2.1 k i.toNat) :: st) (h)) : ZW p l e R s m args below meth c Q B ext D sc N0 S0 nL (pc) (L) (zi i :: zr (some k) :: st) (h) := by
  intro ca H locs cells slots ls a1 a2 a3 a4 a5 a6 a7
  have K := kk ca H locs cells slots ls a1 a2 a3 a4 a5 a6 a7
  have hkk : k < 10000000 := by have := a1.1; omega
  rw [List.map_cons, List.map_cons, zcv_own hkk]
  have hz := z_idx h0 h1 h2
  have hK := a2.one hk (by omega)
  rw [ht] at hK
  refine va_iald C.1 C.2.1 hK a1.2.1 k 0 (by rw [zws_at hk, zce_int ht (Or.inl rfl)]) rfl hz.1 hd ?_
  rw [hz.2]
  exact K
theorem zw_bald (C : ZC p s m args c o cc nL) {k : Nat} {i : Int} (hk : k < h.1.1.1) (ht : (h.1.2 k).1 = 101) (h0 : 0 ≤ i) (h1 : i < ((h.1.2 k).2 : Int)) (h2 : (h.1.2 k).2 ≤ 2147483647) (hd : decode cc pc = .ok (.baload, 1)) (kk : ZW p l e R s m args below meth c Q B ext D sc N0 S0 nL (pc + 1) (L) (zi (h.2.1 k i.toNat) :: st) (h)) : ZW p l e R s m args below meth c Q B ext D sc N0 S0 nL (pc) (L) (zi i :: zr (some k) :: st) (h) := by
  intro ca H locs cells slots ls a1 a2 a3 a4 a5 a6 a7
  have K := kk ca H locs cells slots ls a1 a2 a3 a4 a5 a6 a7
  have hkk : k < 10000000 := by have := a1.1; omega
  rw [List.map_cons, List.map_cons, zcv_own hkk]
  have hz := z_idx h0 h1 h2
  have hK := a2.one hk (by omega)
  rw [ht] at hK
  refine va_bald C.1 C.2.1 hK a1.2.1 k 0 (by rw [zws_at hk, zce_int ht (Or.inr (Or.inl rfl))]) rfl hz.1 hd ?_
  rw [hz.2]
  exact K
theorem zw_zald (C : ZC p s m args c o cc nL) {k : Nat} {i : Int} (hk : k < h.1.1.1) (ht : (h.1.2 k).1 = 102) (h0 : 0 ≤ i) (h1 : i < ((h.1.2 k).2 : Int)) (h2 : (h.1.2 k).2 ≤ 2147483647) (hd : decode cc pc = .ok (.baload, 1)) (kk : ZW p l e R s m args below meth c Q B ext D sc N0 S0 nL (pc + 1) (L) (zi (h.2.1 k i.toNat) :: st) (h)) : ZW p l e R s m args below meth c Q B ext D sc N0 S0 nL (pc) (L) (zi i :: zr (some k) :: st) (h) := by
  intro ca H locs cells slots ls a1 a2 a3 a4 a5 a6 a7
  have K := kk ca H locs cells slots ls a1 a2 a3 a4 a5 a6 a7
  have hkk : k < 10000000 := by have := a1.1; omega
  rw [List.map_cons, List.map_cons, zcv_own hkk]
  have hz := z_idx h0 h1 h2
  have hK := a2.one hk (by omega)
  rw [ht] at hK
  refine va_zald C.1 C.2.1 hK a1.2.1 k 0 (by rw [zws_at hk, zce_int ht (Or.inr (Or.inr rfl))]) rfl hz.1 hd ?_
  rw [hz.2]
  exact K
theorem zw_lald (C : ZC p s m args c o cc nL) {k : Nat} {i : Int} (hk : k < h.1.1.1) (ht : (h.1.2 k).1 = 103) (h0 : 0 ≤ i) (h1 : i < ((h.1.2 k).2 : Int)) (h2 : (h.1.2 k).2 ≤ 2147483647) (hd : decode cc pc = .ok (.laload, 1)) (kk : ZW p l e R s m args below meth c Q B ext D sc N0 S0 nL (pc + 1) (L) (zl (h.2.1 k i.toNat) :: st) (h)) : ZW p l e R s m args below meth c Q B ext D sc N0 S0 nL (pc) (L) (zi i :: zr (some k) :: st) (h) := by
  intro ca H locs cells slots ls a1 a2 a3 a4 a5 a6 a7
  have K := kk ca H locs cells slots ls a1 a2 a3 a4 a5 a6 a7
  have hkk : k < 10000000 := by have := a1.1; omega
  rw [List.map_cons, List.map_cons, zcv_own hkk]
  have hz := z_idx h0 h1 h2
  have hK := a2.one hk (by omega)
  rw [ht] at hK
  refine va_lald C.1 C.2.1 hK a1.2.1 k 0 (by rw [zws_at hk, zce_long ht]) rfl hz.1 hd ?_
  rw [hz.2]
  exact K
theorem zw_aald (C : ZC p s m args c o cc nL) {k t : Nat} {i : Int} (hk : k < h.1.1.1) (ht : (h.1.2 k).1 = t) (h3 : 110 ≤ t) (h0 : 0 ≤ i) (h1 : i < ((h.1.2 k).2 : Int)) (h2 : (h.1.2 k).2 ≤ 2147483647) (hd : decode cc pc = .ok (.aaload, 1)) (kk : ZW p l e R s m args below meth c Q B ext D sc N0 S0 nL (pc + 1) (L) (zr (h.2.2 k i.toNat) :: st) (h)) : ZW p l e R s m args below meth c Q B ext D sc N0 S0 nL (pc) (L) (zi i :: zr (some k) :: st) (h) := by
  intro ca H locs cells slots ls a1 a2 a3 a4 a5 a6 a7
  have K := kk ca H locs cells slots ls a1 a2 a3 a4 a5 a6 a7
  have hkk : k < 10000000 := by have := a1.1; omega
  rw [List.map_cons, List.map_cons, zcv_own hkk]
  have hz := z_idx h0 h1 h2
  have hK := a2.one hk (by omega)
  rw [ht, zcomp_ref h3] at hK
  refine va_aldq C.1 C.2.1 hK a1.2.1 k 0 (by rw [zws_at hk, zce_ref ht h3]) rfl hz.1 hd ?_
  rw [hz.2]
  exact K
theorem zw_sld (C : ZC p s m args c o cc nL) {i : Int} (hX : va_X (ext 6) sc.1 sc.2 s s.heap) (hbl : ext 6 < s.heap.size) (hbB : ext 6 < B) (ht : (h.1.2 (zX + 6)).1 = 100) (h0 : 0 ≤ i) (h1 : i < ((h.1.2 (zX + 6)).2 : Int)) (h2 : (h.1.2 (zX + 6)).2 ≤ 2147483647) (hd : decode cc pc = .ok (.iaload, 1)) (kk : ZW p l e R s m args below meth c Q B ext D sc N0 S0 nL (pc + 1) (L) (zi (h.2.1 (zX + 6) i.toNat) :: st) (h)) : ZW p l e R s m args below meth c Q B ext D sc N0 S0 nL (pc) (L) (zi i :: zr (some (zX + 6)) :: st) (h) := by
  intro ca H locs cells slots ls a1 a2 a3 a4 a5 a6 a7
  have K := kk ca H locs cells slots ls a1 a2 a3 a4 a5 a6 a7
  have e : zcv B ext (zr (some (zX + 6))) = .ref (ext 6) := by
    show Value.ref (zad B ext (zX + 6)) = _
    unfold zad; rw [if_neg (by omega), Nat.add_sub_cancel_left]
  rw [List.map_cons, List.map_cons, e]
  have hz := z_idx h0 h1 h2
  have hs := a1.2.2
  have e2 : (h.1.2 (zX + 6)).2 = sc.1 := by rw [hs.1]
  rw [e2] at hz
  refine va_sld C.1 C.2.1 hX hbl (A := zAr B) (by show ¬ B ≤ ext 6; omega) a3 hz.1 hd ?_
  rw [hz.2, ← hs.2]
  exact K
theorem zw_slen (C : ZC p s m args c o cc nL) (hX : va_X (ext 6) sc.1 sc.2 s s.heap) (hbl : ext 6 < s.heap.size) (hbB : ext 6 < B) (hd : decode cc pc = .ok (.arraylength, 1)) (kk : ZW p l e R s m args below meth c Q B ext D sc N0 S0 nL (pc + 1) (L) (zi ((h.1.2 (zX + 6)).2 : Int) :: st) (h)) : ZW p l e R s m args below meth c Q B ext D sc N0 S0 nL (pc) (L) (zr (some (zX + 6)) :: st) (h) := by
  intro ca H locs cells slots ls a1 a2 a3 a4 a5 a6 a7
  have K := kk ca H locs cells slots ls a1 a2 a3 a4 a5 a6 a7
  have e : zcv B ext (zr (some (zX + 6))) = .ref (ext 6) := by
    show Value.ref (zad B ext (zX + 6)) = _
    unfold zad; rw [if_neg (by omega), Nat.add_sub_cancel_left]
  rw [List.map_cons, e]
  have hs := a1.2.2
  have e2 : (h.1.2 (zX + 6)).2 = sc.1 := by rw [hs.1]
  refine va_slen C.1 C.2.1 hX hbl (A := zAr B) (by show ¬ B ≤ ext 6; omega) a3 hd ?_
  rw [← e2, ← Int32.ofInt_eq_ofNat]
  exact K
theorem zw_alen (C : ZC p s m args c o cc nL) {k : Nat} (hk : k < h.1.1.1) (ht : 100 ≤ (h.1.2 k).1) (hd : decode cc pc = .ok (.arraylength, 1)) (kk : ZW p l e R s m args below meth c Q B ext D sc N0 S0 nL (pc + 1) (L) (zi ((h.1.2 k).2 : Int) :: st) (h)) : ZW p l e R s m args below meth c Q B ext D sc N0 S0 nL (pc) (L) (zr (some k) :: st) (h) := by
  intro ca H locs cells slots ls a1 a2 a3 a4 a5 a6 a7
  have K := kk ca H locs cells slots ls a1 a2 a3 a4 a5 a6 a7
  have hkk : k < 10000000 := by have := a1.1; omega
  rw [List.map_cons, zcv_own hkk]
  have hx : ∃ x : vp_A, zce B ext ca h k = .inl (ca k, x) ∧ x.1 = (h.1.2 k).2 := by
    unfold zce
    rw [if_neg (by omega)]
    split
    · exact ⟨_, rfl, rfl⟩
    · split
      · exact ⟨_, rfl, rfl⟩
      · exact ⟨_, rfl, rfl⟩
  obtain ⟨x, hx1, hx2⟩ := hx
  refine va_alen C.1 C.2.1 (a2.one hk ht) a1.2.1 k 0 (x := x) (by rw [zws_at hk, hx1]) rfl rfl hd ?_
  rw [hx2, ← Int32.ofInt_eq_ofNat]
  exact K
theorem zw_iast (C : ZC p s m args c o cc nL) {k : Nat} {i x : Int} (hk : k < h.1.1.1) (ht : (h.1.2 k).1 = 100) (h0 : 0 ≤ i) (h1 : i < ((h.1.2 k).2 : Int)) (h2 : (h.1.2 k).2 ≤ 2147483647) (hd : decode cc pc = .ok (.iastore, 1)) (kk : ZW p l e R s m args below meth c Q B ext D sc N0 S0 nL (pc + 1) (L) (st) ((h.1, up2 h.2.1 k i.toNat x, h.2.2))) : ZW p l e R s m args below meth c Q B ext D sc N0 S0 nL (pc) (L) (zi x :: zi i :: zr (some k) :: st) (h) := by
  intro ca H locs cells slots ls a1 a2 a3 a4 a5 a6 a7
  have hkk : k < 10000000 := by have := a1.1; omega
  rw [List.map_cons, List.map_cons, List.map_cons, zcv_own hkk]
  have hz := z_idx h0 h1 h2
  have hK := a2.one hk (by omega)
  rw [ht] at hK
  have eo : ∀ j, j ≠ k → (h.1, up2 h.2.1 k i.toNat x, h.2.2).2.1 j = h.2.1 j ∧ (h.1, up2 h.2.1 k i.toNat x, h.2.2).2.2 j = h.2.2 j := fun j hj => ⟨up2_row _ _ hj, rfl⟩
  have hnew : (zws B ext ca h).set k (B + k, .inl (ca k, (h.1.2 k).2, .inl (upd (fun j => Int32.ofInt (h.2.1 k j)) i.toNat (Int32.ofInt x)))) = zws B ext ca (h.1, up2 h.2.1 k i.toNat x, h.2.2) := by
    rw [← zws_upd (h := h) (h' := (h.1, up2 h.2.1 k i.toNat x, h.2.2)) (k := k) rfl eo, zce_int (h := (h.1, up2 h.2.1 k i.toNat x, h.2.2)) ht (Or.inl rfl)]
    have ef : (upd (fun j => Int32.ofInt (h.2.1 k j)) i.toNat (Int32.ofInt x)) = fun j => Int32.ofInt ((h.1, up2 h.2.1 k i.toNat x, h.2.2).2.1 k j) := by
      funext j
      unfold upd
      by_cases hj : j = i.toNat
      · rw [if_pos hj, hj]
        show _ = Int32.ofInt (up2 h.2.1 k i.toNat x k i.toNat)
        rw [up2_same]
      · rw [if_neg hj]
        show _ = Int32.ofInt (up2 h.2.1 k i.toNat x k j)
        rw [up2_ne h.2.1 x (fun q => hj q.2)]
    rw [ef]
  refine va_iast C.1 C.2.1 hK a1.2.1 zws_D a3 k 0 (by rw [zws_at hk, zce_int ht (Or.inl rfl)]) rfl hz.1 hd (fun H1 locs1 b1 b2 b3 => ?_)
  rw [hz.2] at b1
  rw [hnew] at b1
  exact kk ca H1 locs1 cells slots ls ⟨a1.1, b1, zsc_upd (h := h) (h' := (h.1, up2 h.2.1 k i.toNat x, h.2.2)) hkk rfl eo a1.2.2⟩ a2 b3 a4 a5 a6 a7
theorem zw_bast (C : ZC p s m args c o cc nL) {k : Nat} {i x : Int} (hk : k < h.1.1.1) (ht : (h.1.2 k).1 = 101) (h0 : 0 ≤ i) (h1 : i < ((h.1.2 k).2 : Int)) (h2 : (h.1.2 k).2 ≤ 2147483647) (hx : -128 ≤ x ∧ x ≤ 127) (hd : decode cc pc = .ok (.bastore, 1)) (kk : ZW p l e R s m args below meth c Q B ext D sc N0 S0 nL (pc + 1) (L) (st) ((h.1, up2 h.2.1 k i.toNat x, h.2.2))) : ZW p l e R s m args below meth c Q B ext D sc N0 S0 nL (pc) (L) (zi x :: zi i :: zr (some k) :: st) (h) := by
  intro ca H locs cells slots ls a1 a2 a3 a4 a5 a6 a7
  have hkk : k < 10000000 := by have := a1.1; omega
  rw [List.map_cons, List.map_cons, List.map_cons, zcv_own hkk]
  have hz := z_idx h0 h1 h2
  have hK := a2.one hk (by omega)
  rw [ht] at hK
  have eo : ∀ j, j ≠ k → (h.1, up2 h.2.1 k i.toNat x, h.2.2).2.1 j = h.2.1 j ∧ (h.1, up2 h.2.1 k i.toNat x, h.2.2).2.2 j = h.2.2 j := fun j hj => ⟨up2_row _ _ hj, rfl⟩
  have hnew : (zws B ext ca h).set k (B + k, .inl (ca k, (h.1.2 k).2, .inl (upd (fun j => Int32.ofInt (h.2.1 k j)) i.toNat (Int32.ofInt x)))) = zws B ext ca (h.1, up2 h.2.1 k i.toNat x, h.2.2) := by
    rw [← zws_upd (h := h) (h' := (h.1, up2 h.2.1 k i.toNat x, h.2.2)) (k := k) rfl eo, zce_int (h := (h.1, up2 h.2.1 k i.toNat x, h.2.2)) ht (Or.inr (Or.inl rfl))]
    have ef : (upd (fun j => Int32.ofInt (h.2.1 k j)) i.toNat (Int32.ofInt x)) = fun j => Int32.ofInt ((h.1, up2 h.2.1 k i.toNat x, h.2.2).2.1 k j) := by
      funext j
      unfold upd
      by_cases hj : j = i.toNat
      · rw [if_pos hj, hj]
        show _ = Int32.ofInt (up2 h.2.1 k i.toNat x k i.toNat)
        rw [up2_same]
      · rw [if_neg hj]
        show _ = Int32.ofInt (up2 h.2.1 k i.toNat x k j)
        rw [up2_ne h.2.1 x (fun q => hj q.2)]
    rw [ef]
  refine va_bast C.1 C.2.1 hK a1.2.1 zws_D a3 k 0 (by rw [zws_at hk, zce_int ht (Or.inr (Or.inl rfl))]) rfl hz.1 hd (fun H1 locs1 b1 b2 b3 => ?_)
  rw [hz.2, znar_b hx] at b1
  rw [hnew] at b1
  exact kk ca H1 locs1 cells slots ls ⟨a1.1, b1, zsc_upd (h := h) (h' := (h.1, up2 h.2.1 k i.toNat x, h.2.2)) hkk rfl eo a1.2.2⟩ a2 b3 a4 a5 a6 a7
theorem zw_zast (C : ZC p s m args c o cc nL) {k : Nat} {i x : Int} (hk : k < h.1.1.1) (ht : (h.1.2 k).1 = 102) (h0 : 0 ≤ i) (h1 : i < ((h.1.2 k).2 : Int)) (h2 : (h.1.2 k).2 ≤ 2147483647) (hx : x = 0 ∨ x = 1) (hd : decode cc pc = .ok (.bastore, 1)) (kk : ZW p l e R s m args below meth c Q B ext D sc N0 S0 nL (pc + 1) (L) (st) ((h.1, up2 h.2.1 k i.toNat x, h.2.2))) : ZW p l e R s m args below meth c Q B ext D sc N0 S0 nL (pc) (L) (zi x :: zi i :: zr (some k) :: st) (h) := by
  intro ca H locs cells slots ls a1 a2 a3 a4 a5 a6 a7
  have hkk : k < 10000000 := by have := a1.1; omega
  rw [List.map_cons, List.map_cons, List.map_cons, zcv_own hkk]
  have hz := z_idx h0 h1 h2
  have hK := a2.one hk (by omega)
  rw [ht] at hK
  have eo : ∀ j, j ≠ k → (h.1, up2 h.2.1 k i.toNat x, h.2.2).2.1 j = h.2.1 j ∧ (h.1, up2 h.2.1 k i.toNat x, h.2.2).2.2 j = h.2.2 j := fun j hj => ⟨up2_row _ _ hj, rfl⟩
  have hnew : (zws B ext ca h).set k (B + k, .inl (ca k, (h.1.2 k).2, .inl (upd (fun j => Int32.ofInt (h.2.1 k j)) i.toNat (Int32.ofInt x)))) = zws B ext ca (h.1, up2 h.2.1 k i.toNat x, h.2.2) := by
    rw [← zws_upd (h := h) (h' := (h.1, up2 h.2.1 k i.toNat x, h.2.2)) (k := k) rfl eo, zce_int (h := (h.1, up2 h.2.1 k i.toNat x, h.2.2)) ht (Or.inr (Or.inr rfl))]
    have ef : (upd (fun j => Int32.ofInt (h.2.1 k j)) i.toNat (Int32.ofInt x)) = fun j => Int32.ofInt ((h.1, up2 h.2.1 k i.toNat x, h.2.2).2.1 k j) := by
      funext j
      unfold upd
      by_cases hj : j = i.toNat
      · rw [if_pos hj, hj]
        show _ = Int32.ofInt (up2 h.2.1 k i.toNat x k i.toNat)
        rw [up2_same]
      · rw [if_neg hj]
        show _ = Int32.ofInt (up2 h.2.1 k i.toNat x k j)
        rw [up2_ne h.2.1 x (fun q => hj q.2)]
    rw [ef]
  refine va_zast C.1 C.2.1 hK a1.2.1 zws_D a3 k 0 (by rw [zws_at hk, zce_int ht (Or.inr (Or.inr rfl))]) rfl hz.1 hd (fun H1 locs1 b1 b2 b3 => ?_)
  rw [hz.2, znar_z hx] at b1
  rw [hnew] at b1
  exact kk ca H1 locs1 cells slots ls ⟨a1.1, b1, zsc_upd (h := h) (h' := (h.1, up2 h.2.1 k i.toNat x, h.2.2)) hkk rfl eo a1.2.2⟩ a2 b3 a4 a5 a6 a7
theorem zw_last (C : ZC p s m args c o cc nL) {k : Nat} {i x : Int} (hk : k < h.1.1.1) (ht : (h.1.2 k).1 = 103) (h0 : 0 ≤ i) (h1 : i < ((h.1.2 k).2 : Int)) (h2 : (h.1.2 k).2 ≤ 2147483647) (hd : decode cc pc = .ok (.lastore, 1)) (kk : ZW p l e R s m args below meth c Q B ext D sc N0 S0 nL (pc + 1) (L) (st) ((h.1, up2 h.2.1 k i.toNat x, h.2.2))) : ZW p l e R s m args below meth c Q B ext D sc N0 S0 nL (pc) (L) (zl x :: zi i :: zr (some k) :: st) (h) := by
  intro ca H locs cells slots ls a1 a2 a3 a4 a5 a6 a7
  have hkk : k < 10000000 := by have := a1.1; omega
  rw [List.map_cons, List.map_cons, List.map_cons, zcv_own hkk]
  have hz := z_idx h0 h1 h2
  have hK := a2.one hk (by omega)
  rw [ht] at hK
  have eo : ∀ j, j ≠ k → (h.1, up2 h.2.1 k i.toNat x, h.2.2).2.1 j = h.2.1 j ∧ (h.1, up2 h.2.1 k i.toNat x, h.2.2).2.2 j = h.2.2 j := fun j hj => ⟨up2_row _ _ hj, rfl⟩
  have hnew : (zws B ext ca h).set k (B + k, .inl (ca k, (h.1.2 k).2, .inr (.inl (vp_updL (fun j => Int64.ofInt (h.2.1 k j)) i.toNat (Int64.ofInt x))))) = zws B ext ca (h.1, up2 h.2.1 k i.toNat x, h.2.2) := by
    rw [← zws_upd (h := h) (h' := (h.1, up2 h.2.1 k i.toNat x, h.2.2)) (k := k) rfl eo, zce_long (h := (h.1, up2 h.2.1 k i.toNat x, h.2.2)) ht]
    have ef : (vp_updL (fun j => Int64.ofInt (h.2.1 k j)) i.toNat (Int64.ofInt x)) = fun j => Int64.ofInt ((h.1, up2 h.2.1 k i.toNat x, h.2.2).2.1 k j) := by
      funext j
      unfold vp_updL
      by_cases hj : j = i.toNat
      · rw [if_pos hj, hj]
        show _ = Int64.ofInt (up2 h.2.1 k i.toNat x k i.toNat)
        rw [up2_same]
      · rw [if_neg hj]
        show _ = Int64.ofInt (up2 h.2.1 k i.toNat x k j)
        rw [up2_ne h.2.1 x (fun q => hj q.2)]
    rw [ef]
  refine va_last C.1 C.2.1 hK a1.2.1 zws_D a3 k 0 (by rw [zws_at hk, zce_long ht]) rfl hz.1 hd (fun H1 locs1 b1 b2 b3 => ?_)
  rw [hz.2] at b1
  rw [hnew] at b1
  exact kk ca H1 locs1 cells slots ls ⟨a1.1, b1, zsc_upd (h := h) (h' := (h.1, up2 h.2.1 k i.toNat x, h.2.2)) hkk rfl eo a1.2.2⟩ a2 b3 a4 a5 a6 a7
theorem zw_aast (C : ZC p s m args c o cc nL) {k t y : Nat} {i : Int} (hk : k < h.1.1.1) (ht : (h.1.2 k).1 = t) (h3 : 110 ≤ t) (h4 : t < 122) (hy : y < h.1.1.1) (hyt : (h.1.2 y).1 + 110 = t) (h0 : 0 ≤ i) (h1 : i < ((h.1.2 k).2 : Int)) (h2 : (h.1.2 k).2 ≤ 2147483647) (hd : decode cc pc = .ok (.aastore, 1)) (kk : ZW p l e R s m args below meth c Q B ext D sc N0 S0 nL (pc + 1) (L) (st) ((h.1, h.2.1, up2 h.2.2 k i.toNat (some y)))) : ZW p l e R s m args below meth c Q B ext D sc N0 S0 nL (pc) (L) (zr (some y) :: zi i :: zr (some k) :: st) (h) := by
  intro ca H locs cells slots ls a1 a2 a3 a4 a5 a6 a7
  have hkk : k < 10000000 := by have := a1.1; omega
  have hyy : y < 10000000 := by have := a1.1; omega
  rw [List.map_cons, List.map_cons, List.map_cons, zcv_own hkk, zcv_own hyy]
  have hz := z_idx h0 h1 h2
  have hK := a2.one hk (by omega)
  rw [ht, zcomp_ref h3] at hK
  have eo : ∀ j, j ≠ k → (h.1, h.2.1, up2 h.2.2 k i.toNat (some y)).2.1 j = h.2.1 j ∧ (h.1, h.2.1, up2 h.2.2 k i.toNat (some y)).2.2 j = h.2.2 j := fun j hj => ⟨rfl, up2_row _ _ hj⟩
  have hnew : (zws B ext ca h).set k (B + k, .inl (ca k, (h.1.2 k).2, .inr (.inr (.inr (.inr (va_up (fun j => (h.2.2 k j).map (zad B ext)) i.toNat (some (B + y)))))))) = zws B ext ca (h.1, h.2.1, up2 h.2.2 k i.toNat (some y)) := by
    rw [← zws_upd (h := h) (h' := (h.1, h.2.1, up2 h.2.2 k i.toNat (some y))) (k := k) rfl eo, zce_ref (h := (h.1, h.2.1, up2 h.2.2 k i.toNat (some y))) ht h3]
    have ef : va_up (fun j => (h.2.2 k j).map (zad B ext)) i.toNat (some (B + y)) = fun j => ((h.1, h.2.1, up2 h.2.2 k i.toNat (some y)).2.2 k j).map (zad B ext) := by
      funext j
      unfold va_up
      by_cases hj : j = i.toNat
      · rw [if_pos hj, hj]
        show _ = (up2 h.2.2 k i.toNat (some y) k i.toNat).map (zad B ext)
        rw [up2_same]
        show _ = some (zad B ext y)
        rw [zad_own hyy]
      · rw [if_neg hj]
        show _ = (up2 h.2.2 k i.toNat (some y) k j).map (zad B ext)
        rw [up2_ne h.2.2 (some y) (fun q => hj q.2)]
    rw [ef]
  refine va_astq C.1 C.2.1 hK a1.2.1 zws_D a3 k 0 y (t - 110) (r := (zRX (t - 110), zTX (t - 110), znf (t - 110))) (by rw [zws_at hk, zce_ref ht h3]) rfl (by rw [zws_at hy, zce_obj (cl := t - 110) (by omega) (by omega)]) (zcl_at (by omega)) hz.1 hd (fun H1 locs1 b1 b2 b3 => ?_)
  rw [hz.2] at b1
  rw [hnew] at b1
  exact kk ca H1 locs1 cells slots ls ⟨a1.1, b1, zsc_upd (h := h) (h' := (h.1, h.2.1, up2 h.2.2 k i.toNat (some y))) hkk rfl eo a1.2.2⟩ a2 b3 a4 a5 a6 a7
end ZHEAP
