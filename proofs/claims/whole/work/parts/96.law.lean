/-! The law -/
theorem zX_big : 1000000 ≤ zX + 6 := by unfold zX; omega
/-- what is so whenever a call is over -/
def LwS (n : Nat) (x : Nat → Int) (j : Nat) (σ : ZS) (f : ZF) (g : ZG) (a : AS) : Prop := CI σ f g a ∧ MI f a ∧ (∃ N, AOk N a ∧ N ≤ 7 * (j : Int)) ∧ (σ.1.1 ≤ 240 + 9 * j ∧ σ.1.2 ≤ 100000 + 401 * j) ∧ σ.2 (zX + 6) = (100, n) ∧ f (zX + 6) = x
section LAW
variable {σ : ZS} {f : ZF} {g : ZG} {Q : ZQ} {n : Nat} {x : Nat → Int} {j : Nat} {a : AS} {i : Int}
theorem LwS.next (h : LwS n x j σ f g a) : LwS n x (j + 1) σ f g a := by
  obtain ⟨h1, h2, ⟨N, h3, h4⟩, h5, h6, h7⟩ := h
  exact ⟨h1, h2, ⟨N, h3, by omega⟩, by omega, h6, h7⟩
theorem lw_feed (h0 : LwS n x j σ f g a) (hn : n ≤ 3072) (hx : ∀ k, IR (x k)) (hj : j ≤ 600) (hi : 0 ≤ i ∧ i + 6 ≤ (n : Int)) (K : ∀ σ' f' g' a', LwS n x (j + 1) σ' f' g' a' → ZWp 1000 zt255 1213 [zr (some (zX + 6)), zr (some 0), zr (some 219), zi i] [] σ' f' g' Q) : ZWp 1000 zt255 188 [zr (some (zX + 6)), zr (some 0), zr (some 219), zi i] [] σ f g Q := by
  have h := h0
  obtain ⟨hI, hM, ⟨N, hA, hNj⟩, hsz, hsc, hfx⟩ := h
  have hs := hI.sh
  have hz : σ.1.1 ≤ 1000000 := by omega
  refine r_aload_n rfl rfl ?_
  refine r_aload_n rfl rfl ?_
  refine r_iload_n rfl rfl ?_
  refine r_iconst rfl ?_
  refine r_iadd rfl ?_
  refine r_sld rfl hsc (by omega) (by omega) (congrFun hfx _) ?_
  refine r_aload_n rfl rfl ?_
  refine r_iload_n rfl rfl ?_
  refine r_iconst rfl ?_
  refine r_iadd rfl ?_
  refine r_sld rfl hsc (by omega) (by omega) (congrFun hfx _) ?_
  refine r_aload_n rfl rfl ?_
  refine r_iload_n rfl rfl ?_
  refine r_iconst rfl ?_
  refine r_iadd rfl ?_
  refine r_sld rfl hsc (by omega) (by omega) (congrFun hfx _) ?_
  refine r_aload_n rfl rfl ?_
  refine r_iload_n rfl rfl ?_
  refine r_iconst rfl ?_
  refine r_iadd rfl ?_
  refine r_sld rfl hsc (by omega) (by omega) (congrFun hfx _) ?_
  refine r_aload_n rfl rfl ?_
  refine r_iload_n rfl rfl ?_
  refine r_iconst rfl ?_
  refine r_iadd rfl ?_
  refine r_sld rfl hsc (by omega) (by omega) (congrFun hfx _) ?_
  refine r_callV5 rfl rfl (hs.o rfl) rfl (ZCt.kp hz (k_feed (by omega) hI hA  (fun f1 g1 hI1 hk1 hz1 hq1 => ?_)))
  have hM1 := hM.frk hk1
  have hs1 := hI1.sh
  have hsc1 : _ = (100, n) := (hq1 _ zX_big).1.trans hsc
  have hfx1 : _ = x := (hq1 _ zX_big).2.trans hfx
  refine r_aload_n rfl rfl ?_
  refine r_aload_n rfl rfl ?_
  refine r_iload_n rfl rfl ?_
  refine r_iconst rfl ?_
  refine r_iadd rfl ?_
  refine r_sld rfl hsc1 (by omega) (by omega) (congrFun hfx1 _) ?_
  refine r_aload_n rfl rfl ?_
  refine r_iload_n rfl rfl ?_
  refine r_iconst rfl ?_
  refine r_iadd rfl ?_
  refine r_sld rfl hsc1 (by omega) (by omega) (congrFun hfx1 _) ?_
  refine r_aload_n rfl rfl ?_
  refine r_iload_n rfl rfl ?_
  refine r_iconst rfl ?_
  refine r_iadd rfl ?_
  refine r_sld rfl hsc1 (by omega) (by omega) (congrFun hfx1 _) ?_
  refine r_aload_n rfl rfl ?_
  refine r_iload_n rfl rfl ?_
  refine r_iconst rfl ?_
  refine r_iadd rfl ?_
  refine r_sld rfl hsc1 (by omega) (by omega) (congrFun hfx1 _) ?_
  refine r_aload_n rfl rfl ?_
  refine r_iload_n rfl rfl ?_
  refine r_iconst rfl ?_
  refine r_iadd rfl ?_
  refine r_sld rfl hsc1 (by omega) (by omega) (congrFun hfx1 _) ?_
  refine r_callV5 rfl rfl (hs1.o rfl) rfl (ZCt.kp hz1 (c_feed (by omega) hs1 hM1 hA  (fun f2 hM2 hx2 hz2 hq2 => ?_)))
  refine r_icmp_y rfl (decide_eq_true rfl) ?_
  exact K _ _ _ _ ⟨hI1.frm hx2, hM2, ⟨N + 7, aok_feed hA (by omega) _ _ _ _ _, by omega⟩, by omega, (hq2 _ zX_big).1.trans hsc1, (hq2 _ zX_big).2.trans hfx1⟩
theorem lw_end (h0 : LwS n x j σ f g a) (hn : n ≤ 3072) (hx : ∀ k, IR (x k)) (hj : j ≤ 600) (hi : 0 ≤ i ∧ i + 6 ≤ (n : Int)) (K : ∀ σ' f' g' a', LwS n x (j + 1) σ' f' g' a' → ZWp 1000 zt255 1213 [zr (some (zX + 6)), zr (some 0), zr (some 219), zi i] [] σ' f' g' Q) : ZWp 1000 zt255 251 [zr (some (zX + 6)), zr (some 0), zr (some 219), zi i] [] σ f g Q := by
  have h := h0
  obtain ⟨hI, hM, ⟨N, hA, hNj⟩, hsz, hsc, hfx⟩ := h
  have hs := hI.sh
  have hz : σ.1.1 ≤ 1000000 := by omega
  refine r_aload_n rfl rfl ?_
  refine r_aload_n rfl rfl ?_
  refine r_iload_n rfl rfl ?_
  refine r_iconst rfl ?_
  refine r_iadd rfl ?_
  refine r_sld rfl hsc (by omega) (by omega) (congrFun hfx _) ?_
  refine r_callV1 rfl rfl (hs.o rfl) rfl (ZCt.kp hz (k_end (by omega) hI hA (hx _) (fun f1 g1 hI1 hk1 hz1 hq1 => ?_)))
  have hM1 := hM.frk hk1
  have hs1 := hI1.sh
  have hsc1 : _ = (100, n) := (hq1 _ zX_big).1.trans hsc
  have hfx1 : _ = x := (hq1 _ zX_big).2.trans hfx
  refine r_aload_n rfl rfl ?_
  refine r_aload_n rfl rfl ?_
  refine r_iload_n rfl rfl ?_
  refine r_iconst rfl ?_
  refine r_iadd rfl ?_
  refine r_sld rfl hsc1 (by omega) (by omega) (congrFun hfx1 _) ?_
  refine r_callV1 rfl rfl (hs1.o rfl) rfl (ZCt.kp hz1 (c_end (by omega) hs1 hM1 hA (hx _) (fun f2 hM2 hx2 hz2 hq2 => ?_)))
  refine r_icmp_y rfl (decide_eq_true rfl) ?_
  exact K _ _ _ _ ⟨hI1.frm hx2, hM2, ⟨N + 7, aok_end hA (by omega) _, by omega⟩, by omega, (hq2 _ zX_big).1.trans hsc1, (hq2 _ zX_big).2.trans hfx1⟩
theorem lw_show (h0 : LwS n x j σ f g a) (hn : n ≤ 3072) (hx : ∀ k, IR (x k)) (hj : j ≤ 600) (hi : 0 ≤ i ∧ i + 6 ≤ (n : Int)) (K : ∀ σ' f' g' a', LwS n x (j + 1) σ' f' g' a' → ZWp 1000 zt255 1213 [zr (some (zX + 6)), zr (some 0), zr (some 219), zi i] [] σ' f' g' Q) : ZWp 1000 zt255 274 [zr (some (zX + 6)), zr (some 0), zr (some 219), zi i] [] σ f g Q := by
  have h := h0
  obtain ⟨hI, hM, ⟨N, hA, hNj⟩, hsz, hsc, hfx⟩ := h
  have hs := hI.sh
  have hz : σ.1.1 ≤ 1000000 := by omega
  refine r_aload_n rfl rfl ?_
  refine r_callV0 rfl rfl (hs.o rfl) rfl (ZCt.kp hz (k_show (by omega) hI hA (by omega) (fun σ1 f1 g1 hI1 hk1 hn1 hl1 hz1 hq1 => ?_)))
  have hM1 := hM.frk hk1
  have hs1 := hI1.sh
  have hsc1 : _ = (100, n) := (hq1 _ zX_big).1.trans hsc
  have hfx1 : _ = x := (hq1 _ zX_big).2.trans hfx
  refine r_aload_n rfl rfl ?_
  refine r_callV0 rfl rfl (hs1.o rfl) rfl (ZCt.kp hz1 (c_show (by omega) hs1 hM1 hA (hI.tx hA) (fun f2 hM2 hx2 hz2 hq2 => ?_)))
  refine r_icmp_y rfl (decide_eq_true rfl) ?_
  exact K _ _ _ _ ⟨hI1.frm hx2, hM2, ⟨N + 7, aok_show hA (by omega), by omega⟩, by omega, (hq2 _ zX_big).1.trans hsc1, (hq2 _ zX_big).2.trans hfx1⟩
theorem lw_rule (h0 : LwS n x j σ f g a) (hn : n ≤ 3072) (hx : ∀ k, IR (x k)) (hj : j ≤ 600) (hi : 0 ≤ i ∧ i + 6 ≤ (n : Int)) (K : ∀ σ' f' g' a', LwS n x (j + 1) σ' f' g' a' → ZWp 1000 zt255 1213 [zr (some (zX + 6)), zr (some 0), zr (some 219), zi i] [] σ' f' g' Q) : ZWp 1000 zt255 287 [zr (some (zX + 6)), zr (some 0), zr (some 219), zi i] [] σ f g Q := by
  have h := h0
  obtain ⟨hI, hM, ⟨N, hA, hNj⟩, hsz, hsc, hfx⟩ := h
  have hs := hI.sh
  have hz : σ.1.1 ≤ 1000000 := by omega
  refine r_aload_n rfl rfl ?_
  refine r_callV0 rfl rfl (hs.o rfl) rfl (ZCt.kp hz (k_rule (by omega) hI hA (by omega) (fun σ1 f1 g1 hI1 hk1 hn1 hl1 hz1 hq1 => ?_)))
  have hM1 := hM.frk hk1
  have hs1 := hI1.sh
  have hsc1 : _ = (100, n) := (hq1 _ zX_big).1.trans hsc
  have hfx1 : _ = x := (hq1 _ zX_big).2.trans hfx
  refine r_aload_n rfl rfl ?_
  refine r_callV0 rfl rfl (hs1.o rfl) rfl (ZCt.kp hz1 (c_rule (by omega) hs1 hM1 hA (hI.tx hA) (fun f2 hM2 hx2 hz2 hq2 => ?_)))
  refine r_icmp_y rfl (decide_eq_true rfl) ?_
  exact K _ _ _ _ ⟨hI1.frm hx2, hM2, ⟨N + 7, aok_rule hA (by omega), by omega⟩, by omega, (hq2 _ zX_big).1.trans hsc1, (hq2 _ zX_big).2.trans hfx1⟩
theorem lw_force (h0 : LwS n x j σ f g a) (hn : n ≤ 3072) (hx : ∀ k, IR (x k)) (hj : j ≤ 600) (hi : 0 ≤ i ∧ i + 6 ≤ (n : Int)) (K : ∀ σ' f' g' a', LwS n x (j + 1) σ' f' g' a' → ZWp 1000 zt255 1213 [zr (some (zX + 6)), zr (some 0), zr (some 219), zi i] [] σ' f' g' Q) : ZWp 1000 zt255 300 [zr (some (zX + 6)), zr (some 0), zr (some 219), zi i] [] σ f g Q := by
  have h := h0
  obtain ⟨hI, hM, ⟨N, hA, hNj⟩, hsz, hsc, hfx⟩ := h
  have hs := hI.sh
  have hz : σ.1.1 ≤ 1000000 := by omega
  refine r_aload_n rfl rfl ?_
  refine r_aload_n rfl rfl ?_
  refine r_iload_n rfl rfl ?_
  refine r_iconst rfl ?_
  refine r_iadd rfl ?_
  refine r_sld rfl hsc (by omega) (by omega) (congrFun hfx _) ?_
  refine r_callV1 rfl rfl (hs.o rfl) rfl (ZCt.kp hz (k_force (by omega) hI hA (hx _) (fun f1 g1 hI1 hk1 hz1 hq1 => ?_)))
  have hM1 := hM.frk hk1
  have hs1 := hI1.sh
  have hsc1 : _ = (100, n) := (hq1 _ zX_big).1.trans hsc
  have hfx1 : _ = x := (hq1 _ zX_big).2.trans hfx
  refine r_aload_n rfl rfl ?_
  refine r_aload_n rfl rfl ?_
  refine r_iload_n rfl rfl ?_
  refine r_iconst rfl ?_
  refine r_iadd rfl ?_
  refine r_sld rfl hsc1 (by omega) (by omega) (congrFun hfx1 _) ?_
  refine r_callV1 rfl rfl (hs1.o rfl) rfl (ZCt.kp hz1 (c_force (by omega) hs1 hM1 hA (hx _) (fun f2 hM2 hx2 hz2 hq2 => ?_)))
  refine r_icmp_y rfl (decide_eq_true rfl) ?_
  exact K _ _ _ _ ⟨hI1.frm hx2, hM2, ⟨N + 7, aok_force hA (by omega) _, by omega⟩, by omega, (hq2 _ zX_big).1.trans hsc1, (hq2 _ zX_big).2.trans hfx1⟩
theorem lw_car (h0 : LwS n x j σ f g a) (hn : n ≤ 3072) (hx : ∀ k, IR (x k)) (hj : j ≤ 600) (hi : 0 ≤ i ∧ i + 6 ≤ (n : Int)) (K : ∀ σ' f' g' a', LwS n x (j + 1) σ' f' g' a' → ZWp 1000 zt255 1213 [zr (some (zX + 6)), zr (some 0), zr (some 219), zi i] [] σ' f' g' Q) : ZWp 1000 zt255 323 [zr (some (zX + 6)), zr (some 0), zr (some 219), zi i] [] σ f g Q := by
  have h := h0
  obtain ⟨hI, hM, ⟨N, hA, hNj⟩, hsz, hsc, hfx⟩ := h
  have hs := hI.sh
  have hz : σ.1.1 ≤ 1000000 := by omega
  refine r_aload_n rfl rfl ?_
  refine r_aload_n rfl rfl ?_
  refine r_iload_n rfl rfl ?_
  refine r_iconst rfl ?_
  refine r_iadd rfl ?_
  refine r_sld rfl hsc (by omega) (by omega) (congrFun hfx _) ?_
  refine r_aload_n rfl rfl ?_
  refine r_iload_n rfl rfl ?_
  refine r_iconst rfl ?_
  refine r_iadd rfl ?_
  refine r_sld rfl hsc (by omega) (by omega) (congrFun hfx _) ?_
  refine r_callV2 rfl rfl (hs.o rfl) rfl (k_car (by omega) hI hA (hx _) (hx _) ?_)
  have hsc1 := hsc
  have hfx1 := hfx
  refine r_aload_n rfl rfl ?_
  refine r_aload_n rfl rfl ?_
  refine r_iload_n rfl rfl ?_
  refine r_iconst rfl ?_
  refine r_iadd rfl ?_
  refine r_sld rfl hsc1 (by omega) (by omega) (congrFun hfx1 _) ?_
  refine r_aload_n rfl rfl ?_
  refine r_iload_n rfl rfl ?_
  refine r_iconst rfl ?_
  refine r_iadd rfl ?_
  refine r_sld rfl hsc1 (by omega) (by omega) (congrFun hfx1 _) ?_
  refine r_callV2 rfl rfl (hs.o rfl) rfl (c_car (by omega) hs hM hA (hx _) (hx _) ?_)
  refine r_icmp_y rfl (decide_eq_true rfl) ?_
  exact K _ _ _ _ h0.next
theorem lw_road (h0 : LwS n x j σ f g a) (hn : n ≤ 3072) (hx : ∀ k, IR (x k)) (hj : j ≤ 600) (hi : 0 ≤ i ∧ i + 6 ≤ (n : Int)) (K : ∀ σ' f' g' a', LwS n x (j + 1) σ' f' g' a' → ZWp 1000 zt255 1213 [zr (some (zX + 6)), zr (some 0), zr (some 219), zi i] [] σ' f' g' Q) : ZWp 1000 zt255 356 [zr (some (zX + 6)), zr (some 0), zr (some 219), zi i] [] σ f g Q := by
  have h := h0
  obtain ⟨hI, hM, ⟨N, hA, hNj⟩, hsz, hsc, hfx⟩ := h
  have hs := hI.sh
  have hz : σ.1.1 ≤ 1000000 := by omega
  refine r_aload_n rfl rfl ?_
  refine r_aload_n rfl rfl ?_
  refine r_iload_n rfl rfl ?_
  refine r_iconst rfl ?_
  refine r_iadd rfl ?_
  refine r_sld rfl hsc (by omega) (by omega) (congrFun hfx _) ?_
  refine r_aload_n rfl rfl ?_
  refine r_iload_n rfl rfl ?_
  refine r_iconst rfl ?_
  refine r_iadd rfl ?_
  refine r_sld rfl hsc (by omega) (by omega) (congrFun hfx _) ?_
  refine r_callV2 rfl rfl (hs.o rfl) rfl (k_road (by omega) hI hA (hx _) (hx _) ?_)
  have hsc1 := hsc
  have hfx1 := hfx
  refine r_aload_n rfl rfl ?_
  refine r_aload_n rfl rfl ?_
  refine r_iload_n rfl rfl ?_
  refine r_iconst rfl ?_
  refine r_iadd rfl ?_
  refine r_sld rfl hsc1 (by omega) (by omega) (congrFun hfx1 _) ?_
  refine r_aload_n rfl rfl ?_
  refine r_iload_n rfl rfl ?_
  refine r_iconst rfl ?_
  refine r_iadd rfl ?_
  refine r_sld rfl hsc1 (by omega) (by omega) (congrFun hfx1 _) ?_
  refine r_callV2 rfl rfl (hs.o rfl) rfl (c_road (by omega) hs hM hA (hx _) (hx _) ?_)
  refine r_icmp_y rfl (decide_eq_true rfl) ?_
  exact K _ _ _ _ h0.next
theorem lw_gapIn (h0 : LwS n x j σ f g a) (hn : n ≤ 3072) (hx : ∀ k, IR (x k)) (hj : j ≤ 600) (hi : 0 ≤ i ∧ i + 6 ≤ (n : Int)) (K : ∀ σ' f' g' a', LwS n x (j + 1) σ' f' g' a' → ZWp 1000 zt255 1213 [zr (some (zX + 6)), zr (some 0), zr (some 219), zi i] [] σ' f' g' Q) : ZWp 1000 zt255 389 [zr (some (zX + 6)), zr (some 0), zr (some 219), zi i] [] σ f g Q := by
  have h := h0
  obtain ⟨hI, hM, ⟨N, hA, hNj⟩, hsz, hsc, hfx⟩ := h
  have hs := hI.sh
  have hz : σ.1.1 ≤ 1000000 := by omega
  refine r_aload_n rfl rfl ?_
  refine r_aload_n rfl rfl ?_
  refine r_iload_n rfl rfl ?_
  refine r_iconst rfl ?_
  refine r_iadd rfl ?_
  refine r_sld rfl hsc (by omega) (by omega) (congrFun hfx _) ?_
  refine r_callV1 rfl rfl (hs.o rfl) rfl (k_gapIn (by omega) hI hA (hx _) ?_)
  have hsc1 := hsc
  have hfx1 := hfx
  refine r_aload_n rfl rfl ?_
  refine r_aload_n rfl rfl ?_
  refine r_iload_n rfl rfl ?_
  refine r_iconst rfl ?_
  refine r_iadd rfl ?_
  refine r_sld rfl hsc1 (by omega) (by omega) (congrFun hfx1 _) ?_
  refine r_callV1 rfl rfl (hs.o rfl) rfl (c_gapIn (by omega) hs hM hA (hx _) ?_)
  refine r_icmp_y rfl (decide_eq_true rfl) ?_
  exact K _ _ _ _ h0.next
theorem lw_step (h0 : LwS n x j σ f g a) (hn : n ≤ 3072) (hx : ∀ k, IR (x k)) (hj : j ≤ 600) (hi : 0 ≤ i ∧ i + 6 ≤ (n : Int)) (K : ∀ σ' f' g' a', LwS n x (j + 1) σ' f' g' a' → ZWp 1000 zt255 1213 [zr (some (zX + 6)), zr (some 0), zr (some 219), zi i] [] σ' f' g' Q) : ZWp 1000 zt255 412 [zr (some (zX + 6)), zr (some 0), zr (some 219), zi i] [] σ f g Q := by
  have h := h0
  obtain ⟨hI, hM, ⟨N, hA, hNj⟩, hsz, hsc, hfx⟩ := h
  have hs := hI.sh
  have hz : σ.1.1 ≤ 1000000 := by omega
  refine r_aload_n rfl rfl ?_
  refine r_callV0 rfl rfl (hs.o rfl) rfl (ZCt.kp hz (k_step (by omega) hI hA  (fun f1 g1 hI1 hk1 hz1 hq1 => ?_)))
  have hM1 := hM.frk hk1
  have hs1 := hI1.sh
  have hsc1 : _ = (100, n) := (hq1 _ zX_big).1.trans hsc
  have hfx1 : _ = x := (hq1 _ zX_big).2.trans hfx
  refine r_aload_n rfl rfl ?_
  refine r_callV0 rfl rfl (hs1.o rfl) rfl (ZCt.kp hz1 (c_step (by omega) hs1 hM1 hA  (fun f2 hM2 hx2 hz2 hq2 => ?_)))
  refine r_icmp_y rfl (decide_eq_true rfl) ?_
  exact K _ _ _ _ ⟨hI1.frm hx2, hM2, ⟨N + 7, aok_step hA (by omega), by omega⟩, by omega, (hq2 _ zX_big).1.trans hsc1, (hq2 _ zX_big).2.trans hfx1⟩
theorem lw_pole (h0 : LwS n x j σ f g a) (hn : n ≤ 3072) (hx : ∀ k, IR (x k)) (hj : j ≤ 600) (hi : 0 ≤ i ∧ i + 6 ≤ (n : Int)) (K : ∀ σ' f' g' a', LwS n x (j + 1) σ' f' g' a' → ZWp 1000 zt255 1213 [zr (some (zX + 6)), zr (some 0), zr (some 219), zi i] [] σ' f' g' Q) : ZWp 1000 zt255 425 [zr (some (zX + 6)), zr (some 0), zr (some 219), zi i] [] σ f g Q := by
  have h := h0
  obtain ⟨hI, hM, ⟨N, hA, hNj⟩, hsz, hsc, hfx⟩ := h
  have hs := hI.sh
  have hz : σ.1.1 ≤ 1000000 := by omega
  refine r_aload_n rfl rfl ?_
  refine r_aload_n rfl rfl ?_
  refine r_iload_n rfl rfl ?_
  refine r_iconst rfl ?_
  refine r_iadd rfl ?_
  refine r_sld rfl hsc (by omega) (by omega) (congrFun hfx _) ?_
  refine r_aload_n rfl rfl ?_
  refine r_iload_n rfl rfl ?_
  refine r_iconst rfl ?_
  refine r_iadd rfl ?_
  refine r_sld rfl hsc (by omega) (by omega) (congrFun hfx _) ?_
  refine r_callV2 rfl rfl (hs.o rfl) rfl (ZCt.kp hz (k_pole (by omega) hI hA (hx _) (hx _) (fun f1 g1 hI1 hk1 hz1 hq1 => ?_)))
  have hM1 := hM.frk hk1
  have hs1 := hI1.sh
  have hsc1 : _ = (100, n) := (hq1 _ zX_big).1.trans hsc
  have hfx1 : _ = x := (hq1 _ zX_big).2.trans hfx
  refine r_aload_n rfl rfl ?_
  refine r_aload_n rfl rfl ?_
  refine r_iload_n rfl rfl ?_
  refine r_iconst rfl ?_
  refine r_iadd rfl ?_
  refine r_sld rfl hsc1 (by omega) (by omega) (congrFun hfx1 _) ?_
  refine r_aload_n rfl rfl ?_
  refine r_iload_n rfl rfl ?_
  refine r_iconst rfl ?_
  refine r_iadd rfl ?_
  refine r_sld rfl hsc1 (by omega) (by omega) (congrFun hfx1 _) ?_
  refine r_callV2 rfl rfl (hs1.o rfl) rfl (ZCt.kp hz1 (c_pole (by omega) hs1 hM1 hA (hx _) (hx _) (fun f2 hM2 hx2 hz2 hq2 => ?_)))
  refine r_icmp_y rfl (decide_eq_true rfl) ?_
  exact K _ _ _ _ ⟨hI1.frm hx2, hM2, ⟨N + 7, aok_pole hA (by omega) _ _, by omega⟩, by omega, (hq2 _ zX_big).1.trans hsc1, (hq2 _ zX_big).2.trans hfx1⟩
theorem lw_grass (h0 : LwS n x j σ f g a) (hn : n ≤ 3072) (hx : ∀ k, IR (x k)) (hj : j ≤ 600) (hi : 0 ≤ i ∧ i + 6 ≤ (n : Int)) (K : ∀ σ' f' g' a', LwS n x (j + 1) σ' f' g' a' → ZWp 1000 zt255 1213 [zr (some (zX + 6)), zr (some 0), zr (some 219), zi i] [] σ' f' g' Q) : ZWp 1000 zt255 458 [zr (some (zX + 6)), zr (some 0), zr (some 219), zi i] [] σ f g Q := by
  have h := h0
  obtain ⟨hI, hM, ⟨N, hA, hNj⟩, hsz, hsc, hfx⟩ := h
  have hs := hI.sh
  have hz : σ.1.1 ≤ 1000000 := by omega
  refine r_aload_n rfl rfl ?_
  refine r_aload_n rfl rfl ?_
  refine r_iload_n rfl rfl ?_
  refine r_iconst rfl ?_
  refine r_iadd rfl ?_
  refine r_sld rfl hsc (by omega) (by omega) (congrFun hfx _) ?_
  refine r_callV1 rfl rfl (hs.o rfl) rfl (ZCt.kp hz (k_grass (by omega) hI hA (hx _) (fun f1 g1 hI1 hk1 hz1 hq1 => ?_)))
  have hM1 := hM.frk hk1
  have hs1 := hI1.sh
  have hsc1 : _ = (100, n) := (hq1 _ zX_big).1.trans hsc
  have hfx1 : _ = x := (hq1 _ zX_big).2.trans hfx
  refine r_aload_n rfl rfl ?_
  refine r_aload_n rfl rfl ?_
  refine r_iload_n rfl rfl ?_
  refine r_iconst rfl ?_
  refine r_iadd rfl ?_
  refine r_sld rfl hsc1 (by omega) (by omega) (congrFun hfx1 _) ?_
  refine r_callV1 rfl rfl (hs1.o rfl) rfl (ZCt.kp hz1 (c_grass (by omega) hs1 hM1 hA (hx _) (fun f2 hM2 hx2 hz2 hq2 => ?_)))
  refine r_icmp_y rfl (decide_eq_true rfl) ?_
  exact K _ _ _ _ ⟨hI1.frm hx2, hM2, ⟨N + 7, aok_grass hA (by omega) _, by omega⟩, by omega, (hq2 _ zX_big).1.trans hsc1, (hq2 _ zX_big).2.trans hfx1⟩
theorem lw_fill (h0 : LwS n x j σ f g a) (hn : n ≤ 3072) (hx : ∀ k, IR (x k)) (hj : j ≤ 600) (hi : 0 ≤ i ∧ i + 6 ≤ (n : Int)) (K : ∀ σ' f' g' a', LwS n x (j + 1) σ' f' g' a' → ZWp 1000 zt255 1213 [zr (some (zX + 6)), zr (some 0), zr (some 219), zi i] [] σ' f' g' Q) : ZWp 1000 zt255 481 [zr (some (zX + 6)), zr (some 0), zr (some 219), zi i] [] σ f g Q := by
  have h := h0
  obtain ⟨hI, hM, ⟨N, hA, hNj⟩, hsz, hsc, hfx⟩ := h
  have hs := hI.sh
  have hz : σ.1.1 ≤ 1000000 := by omega
  refine r_aload_n rfl rfl ?_
  refine r_aload_n rfl rfl ?_
  refine r_iload_n rfl rfl ?_
  refine r_iconst rfl ?_
  refine r_iadd rfl ?_
  refine r_sld rfl hsc (by omega) (by omega) (congrFun hfx _) ?_
  refine r_callV1 rfl rfl (hs.o rfl) rfl (ZCt.kp hz (k_fill (by omega) hI hA (hx _) (fun f1 g1 hI1 hk1 hz1 hq1 => ?_)))
  have hM1 := hM.frk hk1
  have hs1 := hI1.sh
  have hsc1 : _ = (100, n) := (hq1 _ zX_big).1.trans hsc
  have hfx1 : _ = x := (hq1 _ zX_big).2.trans hfx
  refine r_aload_n rfl rfl ?_
  refine r_aload_n rfl rfl ?_
  refine r_iload_n rfl rfl ?_
  refine r_iconst rfl ?_
  refine r_iadd rfl ?_
  refine r_sld rfl hsc1 (by omega) (by omega) (congrFun hfx1 _) ?_
  refine r_callV1 rfl rfl (hs1.o rfl) rfl (ZCt.kp hz1 (c_fill (by omega) hs1 hM1 hA (hx _) (fun f2 hM2 hx2 hz2 hq2 => ?_)))
  refine r_icmp_y rfl (decide_eq_true rfl) ?_
  exact K _ _ _ _ ⟨hI1.frm hx2, hM2, ⟨N + 7, aok_fill hA (by omega) _, by omega⟩, by omega, (hq2 _ zX_big).1.trans hsc1, (hq2 _ zX_big).2.trans hfx1⟩
theorem lw_wish (h0 : LwS n x j σ f g a) (hn : n ≤ 3072) (hx : ∀ k, IR (x k)) (hj : j ≤ 600) (hi : 0 ≤ i ∧ i + 6 ≤ (n : Int)) (K : ∀ σ' f' g' a', LwS n x (j + 1) σ' f' g' a' → ZWp 1000 zt255 1213 [zr (some (zX + 6)), zr (some 0), zr (some 219), zi i] [] σ' f' g' Q) : ZWp 1000 zt255 504 [zr (some (zX + 6)), zr (some 0), zr (some 219), zi i] [] σ f g Q := by
  have h := h0
  obtain ⟨hI, hM, ⟨N, hA, hNj⟩, hsz, hsc, hfx⟩ := h
  have hs := hI.sh
  have hz : σ.1.1 ≤ 1000000 := by omega
  refine r_aload_n rfl rfl ?_
  refine r_aload_n rfl rfl ?_
  refine r_iload_n rfl rfl ?_
  refine r_iconst rfl ?_
  refine r_iadd rfl ?_
  refine r_sld rfl hsc (by omega) (by omega) (congrFun hfx _) ?_
  refine r_aload_n rfl rfl ?_
  refine r_iload_n rfl rfl ?_
  refine r_iconst rfl ?_
  refine r_iadd rfl ?_
  refine r_sld rfl hsc (by omega) (by omega) (congrFun hfx _) ?_
  refine r_callV2 rfl rfl (hs.o rfl) rfl (ZCt.kp hz (k_wish (by omega) hI hA (hx _) (hx _) (fun f1 g1 hI1 hk1 hz1 hq1 => ?_)))
  have hM1 := hM.frk hk1
  have hs1 := hI1.sh
  have hsc1 : _ = (100, n) := (hq1 _ zX_big).1.trans hsc
  have hfx1 : _ = x := (hq1 _ zX_big).2.trans hfx
  refine r_aload_n rfl rfl ?_
  refine r_aload_n rfl rfl ?_
  refine r_iload_n rfl rfl ?_
  refine r_iconst rfl ?_
  refine r_iadd rfl ?_
  refine r_sld rfl hsc1 (by omega) (by omega) (congrFun hfx1 _) ?_
  refine r_aload_n rfl rfl ?_
  refine r_iload_n rfl rfl ?_
  refine r_iconst rfl ?_
  refine r_iadd rfl ?_
  refine r_sld rfl hsc1 (by omega) (by omega) (congrFun hfx1 _) ?_
  refine r_callV2 rfl rfl (hs1.o rfl) rfl (ZCt.kp hz1 (c_wish (by omega) hs1 hM1 hA (hx _) (hx _) (fun f2 hM2 hx2 hz2 hq2 => ?_)))
  refine r_icmp_y rfl (decide_eq_true rfl) ?_
  exact K _ _ _ _ ⟨hI1.frm hx2, hM2, ⟨N + 7, aok_wish hA (by omega) _ _, by omega⟩, by omega, (hq2 _ zX_big).1.trans hsc1, (hq2 _ zX_big).2.trans hfx1⟩
theorem lw_undo (h0 : LwS n x j σ f g a) (hn : n ≤ 3072) (hx : ∀ k, IR (x k)) (hj : j ≤ 600) (hi : 0 ≤ i ∧ i + 6 ≤ (n : Int)) (K : ∀ σ' f' g' a', LwS n x (j + 1) σ' f' g' a' → ZWp 1000 zt255 1213 [zr (some (zX + 6)), zr (some 0), zr (some 219), zi i] [] σ' f' g' Q) : ZWp 1000 zt255 537 [zr (some (zX + 6)), zr (some 0), zr (some 219), zi i] [] σ f g Q := by
  have h := h0
  obtain ⟨hI, hM, ⟨N, hA, hNj⟩, hsz, hsc, hfx⟩ := h
  have hs := hI.sh
  have hz : σ.1.1 ≤ 1000000 := by omega
  refine r_aload_n rfl rfl ?_
  refine r_callV0 rfl rfl (hs.o rfl) rfl (ZCt.kp hz (k_undo (by omega) hI hA  (fun f1 g1 hI1 hk1 hz1 hq1 => ?_)))
  have hM1 := hM.frk hk1
  have hs1 := hI1.sh
  have hsc1 : _ = (100, n) := (hq1 _ zX_big).1.trans hsc
  have hfx1 : _ = x := (hq1 _ zX_big).2.trans hfx
  refine r_aload_n rfl rfl ?_
  refine r_callV0 rfl rfl (hs1.o rfl) rfl (ZCt.kp hz1 (c_undo (by omega) hs1 hM1 hA  (fun f2 hM2 hx2 hz2 hq2 => ?_)))
  refine r_icmp_y rfl (decide_eq_true rfl) ?_
  exact K _ _ _ _ ⟨hI1.frm hx2, hM2, ⟨N + 7, aok_undo hA (by omega), by omega⟩, by omega, (hq2 _ zX_big).1.trans hsc1, (hq2 _ zX_big).2.trans hfx1⟩
theorem lw_ahead (h0 : LwS n x j σ f g a) (hn : n ≤ 3072) (hx : ∀ k, IR (x k)) (hj : j ≤ 600) (hi : 0 ≤ i ∧ i + 6 ≤ (n : Int)) (K : ∀ σ' f' g' a', LwS n x (j + 1) σ' f' g' a' → ZWp 1000 zt255 1213 [zr (some (zX + 6)), zr (some 0), zr (some 219), zi i] [] σ' f' g' Q) : ZWp 1000 zt255 550 [zr (some (zX + 6)), zr (some 0), zr (some 219), zi i] [] σ f g Q := by
  have h := h0
  obtain ⟨hI, hM, ⟨N, hA, hNj⟩, hsz, hsc, hfx⟩ := h
  have hs := hI.sh
  have hz : σ.1.1 ≤ 1000000 := by omega
  refine r_aload_n rfl rfl ?_
  refine r_aload_n rfl rfl ?_
  refine r_iload_n rfl rfl ?_
  refine r_iconst rfl ?_
  refine r_iadd rfl ?_
  refine r_sld rfl hsc (by omega) (by omega) (congrFun hfx _) ?_
  refine r_aload_n rfl rfl ?_
  refine r_iload_n rfl rfl ?_
  refine r_iconst rfl ?_
  refine r_iadd rfl ?_
  refine r_sld rfl hsc (by omega) (by omega) (congrFun hfx _) ?_
  refine r_aload_n rfl rfl ?_
  refine r_iload_n rfl rfl ?_
  refine r_iconst rfl ?_
  refine r_iadd rfl ?_
  refine r_sld rfl hsc (by omega) (by omega) (congrFun hfx _) ?_
  refine r_callV3 rfl rfl (hs.o rfl) rfl (ZCt.kp hz (k_ahead (by omega) hI hA (hx _) (hx _) (hx _) (fun f1 g1 hf1 hg1 hz1 hq1 => ?_)))
  have hI1 := hI.fr hf1 hg1
  have hM1 := hM.frk hf1.k
  have hs1 := hI1.sh
  have hsc1 : _ = (100, n) := (hq1 _ zX_big).1.trans hsc
  have hfx1 : _ = x := (hq1 _ zX_big).2.trans hfx
  refine r_aload_n rfl rfl ?_
  refine r_aload_n rfl rfl ?_
  refine r_iload_n rfl rfl ?_
  refine r_iconst rfl ?_
  refine r_iadd rfl ?_
  refine r_sld rfl hsc1 (by omega) (by omega) (congrFun hfx1 _) ?_
  refine r_aload_n rfl rfl ?_
  refine r_iload_n rfl rfl ?_
  refine r_iconst rfl ?_
  refine r_iadd rfl ?_
  refine r_sld rfl hsc1 (by omega) (by omega) (congrFun hfx1 _) ?_
  refine r_aload_n rfl rfl ?_
  refine r_iload_n rfl rfl ?_
  refine r_iconst rfl ?_
  refine r_iadd rfl ?_
  refine r_sld rfl hsc1 (by omega) (by omega) (congrFun hfx1 _) ?_
  refine r_callV3 rfl rfl (hs1.o rfl) rfl (ZCt.kp hz1 (c_ahead (by omega) hs1 hM1 hA (hx _) (hx _) (hx _) (fun f2 hf2 hz2 hq2 => ?_)))
  refine r_icmp_y rfl (decide_eq_true rfl) ?_
  exact K _ _ _ _ ⟨hI1.frm hf2.x, hM1.fr hf2, ⟨N, hA, by omega⟩, by omega, (hq2 _ zX_big).1.trans hsc1, (hq2 _ zX_big).2.trans hfx1⟩
theorem lw_lets (h0 : LwS n x j σ f g a) (hn : n ≤ 3072) (hx : ∀ k, IR (x k)) (hj : j ≤ 600) (hi : 0 ≤ i ∧ i + 6 ≤ (n : Int)) (K : ∀ σ' f' g' a', LwS n x (j + 1) σ' f' g' a' → ZWp 1000 zt255 1213 [zr (some (zX + 6)), zr (some 0), zr (some 219), zi i] [] σ' f' g' Q) : ZWp 1000 zt255 593 [zr (some (zX + 6)), zr (some 0), zr (some 219), zi i] [] σ f g Q := by
  have h := h0
  obtain ⟨hI, hM, ⟨N, hA, hNj⟩, hsz, hsc, hfx⟩ := h
  have hs := hI.sh
  have hz : σ.1.1 ≤ 1000000 := by omega
  refine r_aload_n rfl rfl ?_
  refine r_aload_n rfl rfl ?_
  refine r_iload_n rfl rfl ?_
  refine r_iconst rfl ?_
  refine r_iadd rfl ?_
  refine r_sld rfl hsc (by omega) (by omega) (congrFun hfx _) ?_
  refine r_callV1 rfl rfl (hs.o rfl) rfl (ZCt.kp hz (k_lets (by omega) hI hA (hx _) (fun f1 g1 hf1 hg1 hz1 hq1 => ?_)))
  have hI1 := hI.fr hf1 hg1
  have hM1 := hM.frk hf1.k
  have hs1 := hI1.sh
  have hsc1 : _ = (100, n) := (hq1 _ zX_big).1.trans hsc
  have hfx1 : _ = x := (hq1 _ zX_big).2.trans hfx
  refine r_aload_n rfl rfl ?_
  refine r_aload_n rfl rfl ?_
  refine r_iload_n rfl rfl ?_
  refine r_iconst rfl ?_
  refine r_iadd rfl ?_
  refine r_sld rfl hsc1 (by omega) (by omega) (congrFun hfx1 _) ?_
  refine r_callV1 rfl rfl (hs1.o rfl) rfl (ZCt.kp hz1 (c_lets (by omega) hs1 hM1 hA (hx _) (fun f2 hf2 hz2 hq2 => ?_)))
  refine r_icmp_y rfl (decide_eq_true rfl) ?_
  exact K _ _ _ _ ⟨hI1.frm hf2.x, hM1.fr hf2, ⟨N, hA, by omega⟩, by omega, (hq2 _ zX_big).1.trans hsc1, (hq2 _ zX_big).2.trans hfx1⟩
theorem lw_still (h0 : LwS n x j σ f g a) (hn : n ≤ 3072) (hx : ∀ k, IR (x k)) (hj : j ≤ 600) (hi : 0 ≤ i ∧ i + 6 ≤ (n : Int)) (K : ∀ σ' f' g' a', LwS n x (j + 1) σ' f' g' a' → ZWp 1000 zt255 1213 [zr (some (zX + 6)), zr (some 0), zr (some 219), zi i] [] σ' f' g' Q) : ZWp 1000 zt255 616 [zr (some (zX + 6)), zr (some 0), zr (some 219), zi i] [] σ f g Q := by
  have h := h0
  obtain ⟨hI, hM, ⟨N, hA, hNj⟩, hsz, hsc, hfx⟩ := h
  have hs := hI.sh
  have hz : σ.1.1 ≤ 1000000 := by omega
  refine r_aload_n rfl rfl ?_
  refine r_callV0 rfl rfl (hs.o rfl) rfl (ZCt.kp hz (k_still (by omega) hI hA  (fun f1 g1 hf1 hg1 hz1 hq1 => ?_)))
  have hI1 := hI.fr hf1 hg1
  have hM1 := hM.frk hf1.k
  have hs1 := hI1.sh
  have hsc1 : _ = (100, n) := (hq1 _ zX_big).1.trans hsc
  have hfx1 : _ = x := (hq1 _ zX_big).2.trans hfx
  refine r_aload_n rfl rfl ?_
  refine r_callV0 rfl rfl (hs1.o rfl) rfl (ZCt.kp hz1 (c_still (by omega) hs1 hM1 hA  (fun f2 hf2 hz2 hq2 => ?_)))
  refine r_icmp_y rfl (decide_eq_true rfl) ?_
  exact K _ _ _ _ ⟨hI1.frm hf2.x, hM1.fr hf2, ⟨N, hA, by omega⟩, by omega, (hq2 _ zX_big).1.trans hsc1, (hq2 _ zX_big).2.trans hfx1⟩
theorem lw_leastFuel (h0 : LwS n x j σ f g a) (hn : n ≤ 3072) (hx : ∀ k, IR (x k)) (hj : j ≤ 600) (hi : 0 ≤ i ∧ i + 6 ≤ (n : Int)) (K : ∀ σ' f' g' a', LwS n x (j + 1) σ' f' g' a' → ZWp 1000 zt255 1213 [zr (some (zX + 6)), zr (some 0), zr (some 219), zi i] [] σ' f' g' Q) : ZWp 1000 zt255 629 [zr (some (zX + 6)), zr (some 0), zr (some 219), zi i] [] σ f g Q := by
  have h := h0
  obtain ⟨hI, hM, ⟨N, hA, hNj⟩, hsz, hsc, hfx⟩ := h
  have hs := hI.sh
  have hz : σ.1.1 ≤ 1000000 := by omega
  refine r_aload_n rfl rfl ?_
  refine r_aload_n rfl rfl ?_
  refine r_iload_n rfl rfl ?_
  refine r_iconst rfl ?_
  refine r_iadd rfl ?_
  refine r_sld rfl hsc (by omega) (by omega) (congrFun hfx _) ?_
  refine r_aload_n rfl rfl ?_
  refine r_iload_n rfl rfl ?_
  refine r_iconst rfl ?_
  refine r_iadd rfl ?_
  refine r_sld rfl hsc (by omega) (by omega) (congrFun hfx _) ?_
  refine r_callV2 rfl rfl (hs.o rfl) rfl (ZCt.kp hz (k_leastFuel (by omega) hI hA (hx _) (hx _) (fun f1 g1 hf1 hg1 hz1 hq1 => ?_)))
  have hI1 := hI.fr hf1 hg1
  have hM1 := hM.frk hf1.k
  have hs1 := hI1.sh
  have hsc1 : _ = (100, n) := (hq1 _ zX_big).1.trans hsc
  have hfx1 : _ = x := (hq1 _ zX_big).2.trans hfx
  refine r_aload_n rfl rfl ?_
  refine r_aload_n rfl rfl ?_
  refine r_iload_n rfl rfl ?_
  refine r_iconst rfl ?_
  refine r_iadd rfl ?_
  refine r_sld rfl hsc1 (by omega) (by omega) (congrFun hfx1 _) ?_
  refine r_aload_n rfl rfl ?_
  refine r_iload_n rfl rfl ?_
  refine r_iconst rfl ?_
  refine r_iadd rfl ?_
  refine r_sld rfl hsc1 (by omega) (by omega) (congrFun hfx1 _) ?_
  refine r_callV2 rfl rfl (hs1.o rfl) rfl (ZCt.kp hz1 (c_leastFuel (by omega) hs1 hM1 hA (hx _) (hx _) (fun f2 hf2 hz2 hq2 => ?_)))
  refine r_icmp_y rfl (decide_eq_true rfl) ?_
  exact K _ _ _ _ ⟨hI1.frm hf2.x, hM1.fr hf2, ⟨N, hA, by omega⟩, by omega, (hq2 _ zX_big).1.trans hsc1, (hq2 _ zX_big).2.trans hfx1⟩
theorem lw_bestGrass (h0 : LwS n x j σ f g a) (hn : n ≤ 3072) (hx : ∀ k, IR (x k)) (hj : j ≤ 600) (hi : 0 ≤ i ∧ i + 6 ≤ (n : Int)) (K : ∀ σ' f' g' a', LwS n x (j + 1) σ' f' g' a' → ZWp 1000 zt255 1213 [zr (some (zX + 6)), zr (some 0), zr (some 219), zi i] [] σ' f' g' Q) : ZWp 1000 zt255 662 [zr (some (zX + 6)), zr (some 0), zr (some 219), zi i] [] σ f g Q := by
  have h := h0
  obtain ⟨hI, hM, ⟨N, hA, hNj⟩, hsz, hsc, hfx⟩ := h
  have hs := hI.sh
  have hz : σ.1.1 ≤ 1000000 := by omega
  refine r_aload_n rfl rfl ?_
  refine r_aload_n rfl rfl ?_
  refine r_iload_n rfl rfl ?_
  refine r_iconst rfl ?_
  refine r_iadd rfl ?_
  refine r_sld rfl hsc (by omega) (by omega) (congrFun hfx _) ?_
  refine r_aload_n rfl rfl ?_
  refine r_iload_n rfl rfl ?_
  refine r_iconst rfl ?_
  refine r_iadd rfl ?_
  refine r_sld rfl hsc (by omega) (by omega) (congrFun hfx _) ?_
  refine r_callV2 rfl rfl (hs.o rfl) rfl (ZCt.kp hz (k_bestGrass (by omega) hI hA (hx _) (hx _) (fun f1 g1 hf1 hg1 hz1 hq1 => ?_)))
  have hI1 := hI.fr hf1 hg1
  have hM1 := hM.frk hf1.k
  have hs1 := hI1.sh
  have hsc1 : _ = (100, n) := (hq1 _ zX_big).1.trans hsc
  have hfx1 : _ = x := (hq1 _ zX_big).2.trans hfx
  refine r_aload_n rfl rfl ?_
  refine r_aload_n rfl rfl ?_
  refine r_iload_n rfl rfl ?_
  refine r_iconst rfl ?_
  refine r_iadd rfl ?_
  refine r_sld rfl hsc1 (by omega) (by omega) (congrFun hfx1 _) ?_
  refine r_aload_n rfl rfl ?_
  refine r_iload_n rfl rfl ?_
  refine r_iconst rfl ?_
  refine r_iadd rfl ?_
  refine r_sld rfl hsc1 (by omega) (by omega) (congrFun hfx1 _) ?_
  refine r_callV2 rfl rfl (hs1.o rfl) rfl (ZCt.kp hz1 (c_bestGrass (by omega) hs1 hM1 hA (hx _) (hx _) (fun f2 hf2 hz2 hq2 => ?_)))
  refine r_icmp_y rfl (decide_eq_true rfl) ?_
  exact K _ _ _ _ ⟨hI1.frm hf2.x, hM1.fr hf2, ⟨N, hA, by omega⟩, by omega, (hq2 _ zX_big).1.trans hsc1, (hq2 _ zX_big).2.trans hfx1⟩
theorem lw_bestFill (h0 : LwS n x j σ f g a) (hn : n ≤ 3072) (hx : ∀ k, IR (x k)) (hj : j ≤ 600) (hi : 0 ≤ i ∧ i + 6 ≤ (n : Int)) (K : ∀ σ' f' g' a', LwS n x (j + 1) σ' f' g' a' → ZWp 1000 zt255 1213 [zr (some (zX + 6)), zr (some 0), zr (some 219), zi i] [] σ' f' g' Q) : ZWp 1000 zt255 695 [zr (some (zX + 6)), zr (some 0), zr (some 219), zi i] [] σ f g Q := by
  have h := h0
  obtain ⟨hI, hM, ⟨N, hA, hNj⟩, hsz, hsc, hfx⟩ := h
  have hs := hI.sh
  have hz : σ.1.1 ≤ 1000000 := by omega
  refine r_aload_n rfl rfl ?_
  refine r_aload_n rfl rfl ?_
  refine r_iload_n rfl rfl ?_
  refine r_iconst rfl ?_
  refine r_iadd rfl ?_
  refine r_sld rfl hsc (by omega) (by omega) (congrFun hfx _) ?_
  refine r_aload_n rfl rfl ?_
  refine r_iload_n rfl rfl ?_
  refine r_iconst rfl ?_
  refine r_iadd rfl ?_
  refine r_sld rfl hsc (by omega) (by omega) (congrFun hfx _) ?_
  refine r_callV2 rfl rfl (hs.o rfl) rfl (ZCt.kp hz (k_bestFill (by omega) hI hA (hx _) (hx _) (fun f1 g1 hf1 hg1 hz1 hq1 => ?_)))
  have hI1 := hI.fr hf1 hg1
  have hM1 := hM.frk hf1.k
  have hs1 := hI1.sh
  have hsc1 : _ = (100, n) := (hq1 _ zX_big).1.trans hsc
  have hfx1 : _ = x := (hq1 _ zX_big).2.trans hfx
  refine r_aload_n rfl rfl ?_
  refine r_aload_n rfl rfl ?_
  refine r_iload_n rfl rfl ?_
  refine r_iconst rfl ?_
  refine r_iadd rfl ?_
  refine r_sld rfl hsc1 (by omega) (by omega) (congrFun hfx1 _) ?_
  refine r_aload_n rfl rfl ?_
  refine r_iload_n rfl rfl ?_
  refine r_iconst rfl ?_
  refine r_iadd rfl ?_
  refine r_sld rfl hsc1 (by omega) (by omega) (congrFun hfx1 _) ?_
  refine r_callV2 rfl rfl (hs1.o rfl) rfl (ZCt.kp hz1 (c_bestFill (by omega) hs1 hM1 hA (hx _) (hx _) (fun f2 hf2 hz2 hq2 => ?_)))
  refine r_icmp_y rfl (decide_eq_true rfl) ?_
  exact K _ _ _ _ ⟨hI1.frm hf2.x, hM1.fr hf2, ⟨N, hA, by omega⟩, by omega, (hq2 _ zX_big).1.trans hsc1, (hq2 _ zX_big).2.trans hfx1⟩
theorem lw_closed (h0 : LwS n x j σ f g a) (hn : n ≤ 3072) (hx : ∀ k, IR (x k)) (hj : j ≤ 600) (hi : 0 ≤ i ∧ i + 6 ≤ (n : Int)) (K : ∀ σ' f' g' a', LwS n x (j + 1) σ' f' g' a' → ZWp 1000 zt255 1213 [zr (some (zX + 6)), zr (some 0), zr (some 219), zi i] [] σ' f' g' Q) : ZWp 1000 zt255 728 [zr (some (zX + 6)), zr (some 0), zr (some 219), zi i] [] σ f g Q := by
  have h := h0
  obtain ⟨hI, hM, ⟨N, hA, hNj⟩, hsz, hsc, hfx⟩ := h
  have hs := hI.sh
  have hz : σ.1.1 ≤ 1000000 := by omega
  refine r_aload_n rfl rfl ?_
  refine r_aload_n rfl rfl ?_
  refine r_iload_n rfl rfl ?_
  refine r_iconst rfl ?_
  refine r_iadd rfl ?_
  refine r_sld rfl hsc (by omega) (by omega) (congrFun hfx _) ?_
  refine r_aload_n rfl rfl ?_
  refine r_iload_n rfl rfl ?_
  refine r_iconst rfl ?_
  refine r_iadd rfl ?_
  refine r_sld rfl hsc (by omega) (by omega) (congrFun hfx _) ?_
  refine r_callV2 rfl rfl (hs.o rfl) rfl (ZCt.kp hz (k_closed (by omega) hI hA (hx _) (hx _) (fun f1 g1 hf1 hg1 hz1 hq1 => ?_)))
  have hI1 := hI.fr hf1 hg1
  have hM1 := hM.frk hf1.k
  have hs1 := hI1.sh
  have hsc1 : _ = (100, n) := (hq1 _ zX_big).1.trans hsc
  have hfx1 : _ = x := (hq1 _ zX_big).2.trans hfx
  refine r_aload_n rfl rfl ?_
  refine r_aload_n rfl rfl ?_
  refine r_iload_n rfl rfl ?_
  refine r_iconst rfl ?_
  refine r_iadd rfl ?_
  refine r_sld rfl hsc1 (by omega) (by omega) (congrFun hfx1 _) ?_
  refine r_aload_n rfl rfl ?_
  refine r_iload_n rfl rfl ?_
  refine r_iconst rfl ?_
  refine r_iadd rfl ?_
  refine r_sld rfl hsc1 (by omega) (by omega) (congrFun hfx1 _) ?_
  refine r_callV2 rfl rfl (hs1.o rfl) rfl (ZCt.kp hz1 (c_closed (by omega) hs1 hM1 hA (hx _) (hx _) (fun f2 hf2 hz2 hq2 => ?_)))
  refine r_icmp_y rfl (decide_eq_true rfl) ?_
  exact K _ _ _ _ ⟨hI1.frm hf2.x, hM1.fr hf2, ⟨N, hA, by omega⟩, by omega, (hq2 _ zX_big).1.trans hsc1, (hq2 _ zX_big).2.trans hfx1⟩
theorem lw_row (h0 : LwS n x j σ f g a) (hn : n ≤ 3072) (hx : ∀ k, IR (x k)) (hj : j ≤ 600) (hi : 0 ≤ i ∧ i + 6 ≤ (n : Int)) (K : ∀ σ' f' g' a', LwS n x (j + 1) σ' f' g' a' → ZWp 1000 zt255 1213 [zr (some (zX + 6)), zr (some 0), zr (some 219), zi i] [] σ' f' g' Q) : ZWp 1000 zt255 761 [zr (some (zX + 6)), zr (some 0), zr (some 219), zi i] [] σ f g Q := by
  have h := h0
  obtain ⟨hI, hM, ⟨N, hA, hNj⟩, hsz, hsc, hfx⟩ := h
  have hs := hI.sh
  have hz : σ.1.1 ≤ 1000000 := by omega
  refine r_aload_n rfl rfl ?_
  refine r_aload_n rfl rfl ?_
  refine r_iload_n rfl rfl ?_
  refine r_iconst rfl ?_
  refine r_iadd rfl ?_
  refine r_sld rfl hsc (by omega) (by omega) (congrFun hfx _) ?_
  refine r_aload_n rfl rfl ?_
  refine r_iload_n rfl rfl ?_
  refine r_iconst rfl ?_
  refine r_iadd rfl ?_
  refine r_sld rfl hsc (by omega) (by omega) (congrFun hfx _) ?_
  refine r_callV2 rfl rfl (hs.o rfl) rfl (ZCt.kp hz (k_row (by omega) hI hA (hx _) (hx _) (fun f1 g1 hf1 hg1 hz1 hq1 => ?_)))
  have hI1 := hI.fr hf1 hg1
  have hM1 := hM.frk hf1.k
  have hs1 := hI1.sh
  have hsc1 : _ = (100, n) := (hq1 _ zX_big).1.trans hsc
  have hfx1 : _ = x := (hq1 _ zX_big).2.trans hfx
  refine r_aload_n rfl rfl ?_
  refine r_aload_n rfl rfl ?_
  refine r_iload_n rfl rfl ?_
  refine r_iconst rfl ?_
  refine r_iadd rfl ?_
  refine r_sld rfl hsc1 (by omega) (by omega) (congrFun hfx1 _) ?_
  refine r_aload_n rfl rfl ?_
  refine r_iload_n rfl rfl ?_
  refine r_iconst rfl ?_
  refine r_iadd rfl ?_
  refine r_sld rfl hsc1 (by omega) (by omega) (congrFun hfx1 _) ?_
  refine r_callV2 rfl rfl (hs1.o rfl) rfl (ZCt.kp hz1 (c_row (by omega) hs1 hM1 hA (hx _) (hx _) (fun f2 hf2 hz2 hq2 => ?_)))
  refine r_icmp_y rfl (decide_eq_true rfl) ?_
  exact K _ _ _ _ ⟨hI1.frm hf2.x, hM1.fr hf2, ⟨N, hA, by omega⟩, by omega, (hq2 _ zX_big).1.trans hsc1, (hq2 _ zX_big).2.trans hfx1⟩
theorem lw_wished (h0 : LwS n x j σ f g a) (hn : n ≤ 3072) (hx : ∀ k, IR (x k)) (hj : j ≤ 600) (hi : 0 ≤ i ∧ i + 6 ≤ (n : Int)) (K : ∀ σ' f' g' a', LwS n x (j + 1) σ' f' g' a' → ZWp 1000 zt255 1213 [zr (some (zX + 6)), zr (some 0), zr (some 219), zi i] [] σ' f' g' Q) : ZWp 1000 zt255 794 [zr (some (zX + 6)), zr (some 0), zr (some 219), zi i] [] σ f g Q := by
  have h := h0
  obtain ⟨hI, hM, ⟨N, hA, hNj⟩, hsz, hsc, hfx⟩ := h
  have hs := hI.sh
  have hz : σ.1.1 ≤ 1000000 := by omega
  refine r_aload_n rfl rfl ?_
  refine r_aload_n rfl rfl ?_
  refine r_iload_n rfl rfl ?_
  refine r_iconst rfl ?_
  refine r_iadd rfl ?_
  refine r_sld rfl hsc (by omega) (by omega) (congrFun hfx _) ?_
  refine r_aload_n rfl rfl ?_
  refine r_iload_n rfl rfl ?_
  refine r_iconst rfl ?_
  refine r_iadd rfl ?_
  refine r_sld rfl hsc (by omega) (by omega) (congrFun hfx _) ?_
  refine r_callV2 rfl rfl (hs.o rfl) rfl (ZCt.kp hz (k_wished (by omega) hI hA (hx _) (hx _) (fun f1 g1 hf1 hg1 hz1 hq1 => ?_)))
  have hI1 := hI.fr hf1 hg1
  have hM1 := hM.frk hf1.k
  have hs1 := hI1.sh
  have hsc1 : _ = (100, n) := (hq1 _ zX_big).1.trans hsc
  have hfx1 : _ = x := (hq1 _ zX_big).2.trans hfx
  refine r_aload_n rfl rfl ?_
  refine r_aload_n rfl rfl ?_
  refine r_iload_n rfl rfl ?_
  refine r_iconst rfl ?_
  refine r_iadd rfl ?_
  refine r_sld rfl hsc1 (by omega) (by omega) (congrFun hfx1 _) ?_
  refine r_aload_n rfl rfl ?_
  refine r_iload_n rfl rfl ?_
  refine r_iconst rfl ?_
  refine r_iadd rfl ?_
  refine r_sld rfl hsc1 (by omega) (by omega) (congrFun hfx1 _) ?_
  refine r_callV2 rfl rfl (hs1.o rfl) rfl (ZCt.kp hz1 (c_wished (by omega) hs1 hM1 hA (hx _) (hx _) (fun f2 hf2 hz2 hq2 => ?_)))
  refine r_icmp_y rfl (decide_eq_true rfl) ?_
  exact K _ _ _ _ ⟨hI1.frm hf2.x, hM1.fr hf2, ⟨N, hA, by omega⟩, by omega, (hq2 _ zX_big).1.trans hsc1, (hq2 _ zX_big).2.trans hfx1⟩
theorem lw_longest (h0 : LwS n x j σ f g a) (hn : n ≤ 3072) (hx : ∀ k, IR (x k)) (hj : j ≤ 600) (hi : 0 ≤ i ∧ i + 6 ≤ (n : Int)) (K : ∀ σ' f' g' a', LwS n x (j + 1) σ' f' g' a' → ZWp 1000 zt255 1213 [zr (some (zX + 6)), zr (some 0), zr (some 219), zi i] [] σ' f' g' Q) : ZWp 1000 zt255 827 [zr (some (zX + 6)), zr (some 0), zr (some 219), zi i] [] σ f g Q := by
  have h := h0
  obtain ⟨hI, hM, ⟨N, hA, hNj⟩, hsz, hsc, hfx⟩ := h
  have hs := hI.sh
  have hz : σ.1.1 ≤ 1000000 := by omega
  refine r_aload_n rfl rfl ?_
  refine r_aload_n rfl rfl ?_
  refine r_iload_n rfl rfl ?_
  refine r_iconst rfl ?_
  refine r_iadd rfl ?_
  refine r_sld rfl hsc (by omega) (by omega) (congrFun hfx _) ?_
  refine r_aload_n rfl rfl ?_
  refine r_iload_n rfl rfl ?_
  refine r_iconst rfl ?_
  refine r_iadd rfl ?_
  refine r_sld rfl hsc (by omega) (by omega) (congrFun hfx _) ?_
  refine r_callV2 rfl rfl (hs.o rfl) rfl (ZCt.kp hz (k_longest (by omega) hI hA (hx _) (hx _) (fun f1 g1 hf1 hg1 hz1 hq1 => ?_)))
  have hI1 := hI.fr hf1 hg1
  have hM1 := hM.frk hf1.k
  have hs1 := hI1.sh
  have hsc1 : _ = (100, n) := (hq1 _ zX_big).1.trans hsc
  have hfx1 : _ = x := (hq1 _ zX_big).2.trans hfx
  refine r_aload_n rfl rfl ?_
  refine r_aload_n rfl rfl ?_
  refine r_iload_n rfl rfl ?_
  refine r_iconst rfl ?_
  refine r_iadd rfl ?_
  refine r_sld rfl hsc1 (by omega) (by omega) (congrFun hfx1 _) ?_
  refine r_aload_n rfl rfl ?_
  refine r_iload_n rfl rfl ?_
  refine r_iconst rfl ?_
  refine r_iadd rfl ?_
  refine r_sld rfl hsc1 (by omega) (by omega) (congrFun hfx1 _) ?_
  refine r_callV2 rfl rfl (hs1.o rfl) rfl (ZCt.kp hz1 (c_longest (by omega) hs1 hM1 hA (hx _) (hx _) (fun f2 hf2 hz2 hq2 => ?_)))
  refine r_icmp_y rfl (decide_eq_true rfl) ?_
  exact K _ _ _ _ ⟨hI1.frm hf2.x, hM1.fr hf2, ⟨N, hA, by omega⟩, by omega, (hq2 _ zX_big).1.trans hsc1, (hq2 _ zX_big).2.trans hfx1⟩
theorem lw_rests (h0 : LwS n x j σ f g a) (hn : n ≤ 3072) (hx : ∀ k, IR (x k)) (hj : j ≤ 600) (hi : 0 ≤ i ∧ i + 6 ≤ (n : Int)) (K : ∀ σ' f' g' a', LwS n x (j + 1) σ' f' g' a' → ZWp 1000 zt255 1213 [zr (some (zX + 6)), zr (some 0), zr (some 219), zi i] [] σ' f' g' Q) : ZWp 1000 zt255 860 [zr (some (zX + 6)), zr (some 0), zr (some 219), zi i] [] σ f g Q := by
  have h := h0
  obtain ⟨hI, hM, ⟨N, hA, hNj⟩, hsz, hsc, hfx⟩ := h
  have hs := hI.sh
  have hz : σ.1.1 ≤ 1000000 := by omega
  refine r_aload_n rfl rfl ?_
  refine r_aload_n rfl rfl ?_
  refine r_iload_n rfl rfl ?_
  refine r_iconst rfl ?_
  refine r_iadd rfl ?_
  refine r_sld rfl hsc (by omega) (by omega) (congrFun hfx _) ?_
  refine r_aload_n rfl rfl ?_
  refine r_iload_n rfl rfl ?_
  refine r_iconst rfl ?_
  refine r_iadd rfl ?_
  refine r_sld rfl hsc (by omega) (by omega) (congrFun hfx _) ?_
  refine r_aload_n rfl rfl ?_
  refine r_iload_n rfl rfl ?_
  refine r_iconst rfl ?_
  refine r_iadd rfl ?_
  refine r_sld rfl hsc (by omega) (by omega) (congrFun hfx _) ?_
  refine r_aload_n rfl rfl ?_
  refine r_iload_n rfl rfl ?_
  refine r_iconst rfl ?_
  refine r_iadd rfl ?_
  refine r_sld rfl hsc (by omega) (by omega) (congrFun hfx _) ?_
  refine r_callV4 rfl rfl (hs.o rfl) rfl (ZCt.kp hz (k_rests (by omega) hI hA (hx _) (hx _) (hx _) (hx _) (fun f1 g1 hf1 hg1 hz1 hq1 => ?_)))
  have hI1 := hI.fr hf1 hg1
  have hM1 := hM.frk hf1.k
  have hs1 := hI1.sh
  have hsc1 : _ = (100, n) := (hq1 _ zX_big).1.trans hsc
  have hfx1 : _ = x := (hq1 _ zX_big).2.trans hfx
  refine r_aload_n rfl rfl ?_
  refine r_aload_n rfl rfl ?_
  refine r_iload_n rfl rfl ?_
  refine r_iconst rfl ?_
  refine r_iadd rfl ?_
  refine r_sld rfl hsc1 (by omega) (by omega) (congrFun hfx1 _) ?_
  refine r_aload_n rfl rfl ?_
  refine r_iload_n rfl rfl ?_
  refine r_iconst rfl ?_
  refine r_iadd rfl ?_
  refine r_sld rfl hsc1 (by omega) (by omega) (congrFun hfx1 _) ?_
  refine r_aload_n rfl rfl ?_
  refine r_iload_n rfl rfl ?_
  refine r_iconst rfl ?_
  refine r_iadd rfl ?_
  refine r_sld rfl hsc1 (by omega) (by omega) (congrFun hfx1 _) ?_
  refine r_aload_n rfl rfl ?_
  refine r_iload_n rfl rfl ?_
  refine r_iconst rfl ?_
  refine r_iadd rfl ?_
  refine r_sld rfl hsc1 (by omega) (by omega) (congrFun hfx1 _) ?_
  refine r_callV4 rfl rfl (hs1.o rfl) rfl (ZCt.kp hz1 (c_rests (by omega) hs1 hM1 hA (hx _) (hx _) (hx _) (hx _) (fun f2 hf2 hz2 hq2 => ?_)))
  refine r_icmp_y rfl (decide_eq_true rfl) ?_
  exact K _ _ _ _ ⟨hI1.frm hf2.x, hM1.fr hf2, ⟨N, hA, by omega⟩, by omega, (hq2 _ zX_big).1.trans hsc1, (hq2 _ zX_big).2.trans hfx1⟩
theorem lw_ring (h0 : LwS n x j σ f g a) (hn : n ≤ 3072) (hx : ∀ k, IR (x k)) (hj : j ≤ 600) (hi : 0 ≤ i ∧ i + 6 ≤ (n : Int)) (K : ∀ σ' f' g' a', LwS n x (j + 1) σ' f' g' a' → ZWp 1000 zt255 1213 [zr (some (zX + 6)), zr (some 0), zr (some 219), zi i] [] σ' f' g' Q) : ZWp 1000 zt255 913 [zr (some (zX + 6)), zr (some 0), zr (some 219), zi i] [] σ f g Q := by
  have h := h0
  obtain ⟨hI, hM, ⟨N, hA, hNj⟩, hsz, hsc, hfx⟩ := h
  have hs := hI.sh
  have hz : σ.1.1 ≤ 1000000 := by omega
  refine r_aload_n rfl rfl ?_
  refine r_aload_n rfl rfl ?_
  refine r_iload_n rfl rfl ?_
  refine r_iconst rfl ?_
  refine r_iadd rfl ?_
  refine r_sld rfl hsc (by omega) (by omega) (congrFun hfx _) ?_
  refine r_callV1 rfl rfl (hs.o rfl) rfl (ZCt.kp hz (k_ring (by omega) hI hA (hx _) (fun f1 g1 hf1 hg1 hz1 hq1 => ?_)))
  have hI1 := hI.fr hf1 hg1
  have hM1 := hM.frk hf1.k
  have hs1 := hI1.sh
  have hsc1 : _ = (100, n) := (hq1 _ zX_big).1.trans hsc
  have hfx1 : _ = x := (hq1 _ zX_big).2.trans hfx
  refine r_aload_n rfl rfl ?_
  refine r_aload_n rfl rfl ?_
  refine r_iload_n rfl rfl ?_
  refine r_iconst rfl ?_
  refine r_iadd rfl ?_
  refine r_sld rfl hsc1 (by omega) (by omega) (congrFun hfx1 _) ?_
  refine r_callV1 rfl rfl (hs1.o rfl) rfl (ZCt.kp hz1 (c_ring (by omega) hs1 hM1 hA (hx _) (fun f2 hf2 hz2 hq2 => ?_)))
  refine r_icmp_y rfl (decide_eq_true rfl) ?_
  exact K _ _ _ _ ⟨hI1.frm hf2.x, hM1.fr hf2, ⟨N, hA, by omega⟩, by omega, (hq2 _ zX_big).1.trans hsc1, (hq2 _ zX_big).2.trans hfx1⟩
theorem lw_litres (h0 : LwS n x j σ f g a) (hn : n ≤ 3072) (hx : ∀ k, IR (x k)) (hj : j ≤ 600) (hi : 0 ≤ i ∧ i + 6 ≤ (n : Int)) (K : ∀ σ' f' g' a', LwS n x (j + 1) σ' f' g' a' → ZWp 1000 zt255 1213 [zr (some (zX + 6)), zr (some 0), zr (some 219), zi i] [] σ' f' g' Q) : ZWp 1000 zt255 936 [zr (some (zX + 6)), zr (some 0), zr (some 219), zi i] [] σ f g Q := by
  have h := h0
  obtain ⟨hI, hM, ⟨N, hA, hNj⟩, hsz, hsc, hfx⟩ := h
  have hs := hI.sh
  have hz : σ.1.1 ≤ 1000000 := by omega
  refine r_aload_n rfl rfl ?_
  refine r_aload_n rfl rfl ?_
  refine r_iload_n rfl rfl ?_
  refine r_iconst rfl ?_
  refine r_iadd rfl ?_
  refine r_sld rfl hsc (by omega) (by omega) (congrFun hfx _) ?_
  refine r_aload_n rfl rfl ?_
  refine r_iload_n rfl rfl ?_
  refine r_iconst rfl ?_
  refine r_iadd rfl ?_
  refine r_sld rfl hsc (by omega) (by omega) (congrFun hfx _) ?_
  refine r_callV2 rfl rfl (hs.o rfl) rfl (k_litres (by omega) hI hA (hx _) (hx _) ?_)
  have hsc1 := hsc
  have hfx1 := hfx
  refine r_aload_n rfl rfl ?_
  refine r_aload_n rfl rfl ?_
  refine r_iload_n rfl rfl ?_
  refine r_iconst rfl ?_
  refine r_iadd rfl ?_
  refine r_sld rfl hsc1 (by omega) (by omega) (congrFun hfx1 _) ?_
  refine r_aload_n rfl rfl ?_
  refine r_iload_n rfl rfl ?_
  refine r_iconst rfl ?_
  refine r_iadd rfl ?_
  refine r_sld rfl hsc1 (by omega) (by omega) (congrFun hfx1 _) ?_
  refine r_callV2 rfl rfl (hs.o rfl) rfl (c_litres (by omega) hs hM hA (hx _) (hx _) ?_)
  refine r_icmp_y rfl (decide_eq_true rfl) ?_
  exact K _ _ _ _ h0.next
theorem lw_note (h0 : LwS n x j σ f g a) (hn : n ≤ 3072) (hx : ∀ k, IR (x k)) (hj : j ≤ 600) (hi : 0 ≤ i ∧ i + 6 ≤ (n : Int)) (K : ∀ σ' f' g' a', LwS n x (j + 1) σ' f' g' a' → ZWp 1000 zt255 1213 [zr (some (zX + 6)), zr (some 0), zr (some 219), zi i] [] σ' f' g' Q) : ZWp 1000 zt255 969 [zr (some (zX + 6)), zr (some 0), zr (some 219), zi i] [] σ f g Q := by
  have h := h0
  obtain ⟨hI, hM, ⟨N, hA, hNj⟩, hsz, hsc, hfx⟩ := h
  have hs := hI.sh
  have hz : σ.1.1 ≤ 1000000 := by omega
  refine r_aload_n rfl rfl ?_
  refine r_aload_n rfl rfl ?_
  refine r_iload_n rfl rfl ?_
  refine r_iconst rfl ?_
  refine r_iadd rfl ?_
  refine r_sld rfl hsc (by omega) (by omega) (congrFun hfx _) ?_
  refine r_aload_n rfl rfl ?_
  refine r_iload_n rfl rfl ?_
  refine r_iconst rfl ?_
  refine r_iadd rfl ?_
  refine r_sld rfl hsc (by omega) (by omega) (congrFun hfx _) ?_
  refine r_aload_n rfl rfl ?_
  refine r_iload_n rfl rfl ?_
  refine r_iconst rfl ?_
  refine r_iadd rfl ?_
  refine r_sld rfl hsc (by omega) (by omega) (congrFun hfx _) ?_
  refine r_callV3 rfl rfl (hs.o rfl) rfl (ZCt.kp hz (k_note (by omega) hI hA (hx _) (hx _) (hx _) (fun f1 g1 hI1 hk1 hz1 hq1 => ?_)))
  have hM1 := hM.frk hk1
  have hs1 := hI1.sh
  have hsc1 : _ = (100, n) := (hq1 _ zX_big).1.trans hsc
  have hfx1 : _ = x := (hq1 _ zX_big).2.trans hfx
  refine r_aload_n rfl rfl ?_
  refine r_aload_n rfl rfl ?_
  refine r_iload_n rfl rfl ?_
  refine r_iconst rfl ?_
  refine r_iadd rfl ?_
  refine r_sld rfl hsc1 (by omega) (by omega) (congrFun hfx1 _) ?_
  refine r_aload_n rfl rfl ?_
  refine r_iload_n rfl rfl ?_
  refine r_iconst rfl ?_
  refine r_iadd rfl ?_
  refine r_sld rfl hsc1 (by omega) (by omega) (congrFun hfx1 _) ?_
  refine r_aload_n rfl rfl ?_
  refine r_iload_n rfl rfl ?_
  refine r_iconst rfl ?_
  refine r_iadd rfl ?_
  refine r_sld rfl hsc1 (by omega) (by omega) (congrFun hfx1 _) ?_
  refine r_callV3 rfl rfl (hs1.o rfl) rfl (ZCt.kp hz1 (c_note (by omega) hs1 hM1 hA (hx _) (hx _) (hx _) (fun f2 hM2 hx2 hz2 hq2 => ?_)))
  refine r_icmp_y rfl (decide_eq_true rfl) ?_
  exact K _ _ _ _ ⟨hI1.frm hx2, hM2, ⟨N + 7, aok_note hA (by omega) _ _ _, by omega⟩, by omega, (hq2 _ zX_big).1.trans hsc1, (hq2 _ zX_big).2.trans hfx1⟩
theorem lw_ruled (h0 : LwS n x j σ f g a) (hn : n ≤ 3072) (hx : ∀ k, IR (x k)) (hj : j ≤ 600) (hi : 0 ≤ i ∧ i + 6 ≤ (n : Int)) (K : ∀ σ' f' g' a', LwS n x (j + 1) σ' f' g' a' → ZWp 1000 zt255 1213 [zr (some (zX + 6)), zr (some 0), zr (some 219), zi i] [] σ' f' g' Q) : ZWp 1000 zt255 1012 [zr (some (zX + 6)), zr (some 0), zr (some 219), zi i] [] σ f g Q := by
  have h := h0
  obtain ⟨hI, hM, ⟨N, hA, hNj⟩, hsz, hsc, hfx⟩ := h
  have hs := hI.sh
  have hz : σ.1.1 ≤ 1000000 := by omega
  refine r_aload_n rfl rfl ?_
  refine r_aload_n rfl rfl ?_
  refine r_iload_n rfl rfl ?_
  refine r_iconst rfl ?_
  refine r_iadd rfl ?_
  refine r_sld rfl hsc (by omega) (by omega) (congrFun hfx _) ?_
  refine r_callV1 rfl rfl (hs.o rfl) rfl (ZCt.kp hz (k_ruled (by omega) hI hA (hx _) (fun f1 g1 hf1 hg1 hz1 hq1 => ?_)))
  have hI1 := hI.fr hf1 hg1
  have hM1 := hM.frk hf1.k
  have hs1 := hI1.sh
  have hsc1 : _ = (100, n) := (hq1 _ zX_big).1.trans hsc
  have hfx1 : _ = x := (hq1 _ zX_big).2.trans hfx
  refine r_aload_n rfl rfl ?_
  refine r_aload_n rfl rfl ?_
  refine r_iload_n rfl rfl ?_
  refine r_iconst rfl ?_
  refine r_iadd rfl ?_
  refine r_sld rfl hsc1 (by omega) (by omega) (congrFun hfx1 _) ?_
  refine r_callV1 rfl rfl (hs1.o rfl) rfl (ZCt.kp hz1 (c_ruled (by omega) hs1 hM1 hA (hx _) (fun f2 hf2 hz2 hq2 => ?_)))
  refine r_icmp_y rfl (decide_eq_true rfl) ?_
  exact K _ _ _ _ ⟨hI1.frm hf2.x, hM1.fr hf2, ⟨N, hA, by omega⟩, by omega, (hq2 _ zX_big).1.trans hsc1, (hq2 _ zX_big).2.trans hfx1⟩
theorem lw_look (h0 : LwS n x j σ f g a) (hn : n ≤ 3072) (hx : ∀ k, IR (x k)) (hj : j ≤ 600) (hi : 0 ≤ i ∧ i + 6 ≤ (n : Int)) (K : ∀ σ' f' g' a', LwS n x (j + 1) σ' f' g' a' → ZWp 1000 zt255 1213 [zr (some (zX + 6)), zr (some 0), zr (some 219), zi i] [] σ' f' g' Q) : ZWp 1000 zt255 1035 [zr (some (zX + 6)), zr (some 0), zr (some 219), zi i] [] σ f g Q := by
  have h := h0
  obtain ⟨hI, hM, ⟨N, hA, hNj⟩, hsz, hsc, hfx⟩ := h
  have hs := hI.sh
  have hz : σ.1.1 ≤ 1000000 := by omega
  refine r_aload_n rfl rfl ?_
  refine r_aload_n rfl rfl ?_
  refine r_iload_n rfl rfl ?_
  refine r_iconst rfl ?_
  refine r_iadd rfl ?_
  refine r_sld rfl hsc (by omega) (by omega) (congrFun hfx _) ?_
  refine r_aload_n rfl rfl ?_
  refine r_iload_n rfl rfl ?_
  refine r_iconst rfl ?_
  refine r_iadd rfl ?_
  refine r_sld rfl hsc (by omega) (by omega) (congrFun hfx _) ?_
  refine r_callV2 rfl rfl (hs.o rfl) rfl (ZCt.kp hz (k_look (by omega) hI hA (hx _) (hx _) (fun f1 g1 hf1 hg1 hz1 hq1 => ?_)))
  have hI1 := hI.fr hf1 hg1
  have hM1 := hM.frk hf1.k
  have hs1 := hI1.sh
  have hsc1 : _ = (100, n) := (hq1 _ zX_big).1.trans hsc
  have hfx1 : _ = x := (hq1 _ zX_big).2.trans hfx
  refine r_aload_n rfl rfl ?_
  refine r_aload_n rfl rfl ?_
  refine r_iload_n rfl rfl ?_
  refine r_iconst rfl ?_
  refine r_iadd rfl ?_
  refine r_sld rfl hsc1 (by omega) (by omega) (congrFun hfx1 _) ?_
  refine r_aload_n rfl rfl ?_
  refine r_iload_n rfl rfl ?_
  refine r_iconst rfl ?_
  refine r_iadd rfl ?_
  refine r_sld rfl hsc1 (by omega) (by omega) (congrFun hfx1 _) ?_
  refine r_callV2 rfl rfl (hs1.o rfl) rfl (ZCt.kp hz1 (c_look (by omega) hs1 hM1 hA (hx _) (hx _) (fun f2 hf2 hz2 hq2 => ?_)))
  refine r_icmp_y rfl (decide_eq_true rfl) ?_
  exact K _ _ _ _ ⟨hI1.frm hf2.x, hM1.fr hf2, ⟨N, hA, by omega⟩, by omega, (hq2 _ zX_big).1.trans hsc1, (hq2 _ zX_big).2.trans hfx1⟩
theorem lw_seed (h0 : LwS n x j σ f g a) (hn : n ≤ 3072) (hx : ∀ k, IR (x k)) (hj : j ≤ 600) (hi : 0 ≤ i ∧ i + 6 ≤ (n : Int)) (K : ∀ σ' f' g' a', LwS n x (j + 1) σ' f' g' a' → ZWp 1000 zt255 1213 [zr (some (zX + 6)), zr (some 0), zr (some 219), zi i] [] σ' f' g' Q) : ZWp 1000 zt255 1068 [zr (some (zX + 6)), zr (some 0), zr (some 219), zi i] [] σ f g Q := by
  have h := h0
  obtain ⟨hI, hM, ⟨N, hA, hNj⟩, hsz, hsc, hfx⟩ := h
  have hs := hI.sh
  have hz : σ.1.1 ≤ 1000000 := by omega
  refine r_aload_n rfl rfl ?_
  refine r_aload_n rfl rfl ?_
  refine r_iload_n rfl rfl ?_
  refine r_iconst rfl ?_
  refine r_iadd rfl ?_
  refine r_sld rfl hsc (by omega) (by omega) (congrFun hfx _) ?_
  refine r_callV1 rfl rfl (hs.o rfl) rfl (ZCt.kp hz (k_seed (by omega) hI hA (hx _) (fun f1 g1 hI1 hk1 hz1 hq1 => ?_)))
  have hM1 := hM.frk hk1
  have hs1 := hI1.sh
  have hsc1 : _ = (100, n) := (hq1 _ zX_big).1.trans hsc
  have hfx1 : _ = x := (hq1 _ zX_big).2.trans hfx
  refine r_aload_n rfl rfl ?_
  refine r_aload_n rfl rfl ?_
  refine r_iload_n rfl rfl ?_
  refine r_iconst rfl ?_
  refine r_iadd rfl ?_
  refine r_sld rfl hsc1 (by omega) (by omega) (congrFun hfx1 _) ?_
  refine r_callV1 rfl rfl (hs1.o rfl) rfl (ZCt.kp hz1 (c_seed (by omega) hs1 hM1 hA (hx _) (fun f2 hM2 hx2 hz2 hq2 => ?_)))
  refine r_icmp_y rfl (decide_eq_true rfl) ?_
  exact K _ _ _ _ ⟨hI1.frm hx2, hM2, ⟨N + 7, aok_seed hA (by omega) (hx _), by omega⟩, by omega, (hq2 _ zX_big).1.trans hsc1, (hq2 _ zX_big).2.trans hfx1⟩
theorem lw_shows (h0 : LwS n x j σ f g a) (hn : n ≤ 3072) (hx : ∀ k, IR (x k)) (hj : j ≤ 600) (hi : 0 ≤ i ∧ i + 6 ≤ (n : Int)) (K : ∀ σ' f' g' a', LwS n x (j + 1) σ' f' g' a' → ZWp 1000 zt255 1213 [zr (some (zX + 6)), zr (some 0), zr (some 219), zi i] [] σ' f' g' Q) : ZWp 1000 zt255 1091 [zr (some (zX + 6)), zr (some 0), zr (some 219), zi i] [] σ f g Q := by
  have h := h0
  obtain ⟨hI, hM, ⟨N, hA, hNj⟩, hsz, hsc, hfx⟩ := h
  have hs := hI.sh
  have hz : σ.1.1 ≤ 1000000 := by omega
  refine r_aload_n rfl rfl ?_
  refine r_aload_n rfl rfl ?_
  refine r_iload_n rfl rfl ?_
  refine r_iconst rfl ?_
  refine r_iadd rfl ?_
  refine r_sld rfl hsc (by omega) (by omega) (congrFun hfx _) ?_
  refine r_aload_n rfl rfl ?_
  refine r_iload_n rfl rfl ?_
  refine r_iconst rfl ?_
  refine r_iadd rfl ?_
  refine r_sld rfl hsc (by omega) (by omega) (congrFun hfx _) ?_
  refine r_aload_n rfl rfl ?_
  refine r_iload_n rfl rfl ?_
  refine r_iconst rfl ?_
  refine r_iadd rfl ?_
  refine r_sld rfl hsc (by omega) (by omega) (congrFun hfx _) ?_
  refine r_aload_n rfl rfl ?_
  refine r_iload_n rfl rfl ?_
  refine r_iconst rfl ?_
  refine r_iadd rfl ?_
  refine r_sld rfl hsc (by omega) (by omega) (congrFun hfx _) ?_
  refine r_callV4 rfl rfl (hs.o rfl) rfl (ZCt.kp hz (k_shows (by omega) hI hA (hx _) (hx _) (hx _) (hx _) (fun f1 g1 hf1 hg1 hz1 hq1 => ?_)))
  have hI1 := hI.fr hf1 hg1
  have hM1 := hM.frk hf1.k
  have hs1 := hI1.sh
  have hsc1 : _ = (100, n) := (hq1 _ zX_big).1.trans hsc
  have hfx1 : _ = x := (hq1 _ zX_big).2.trans hfx
  refine r_aload_n rfl rfl ?_
  refine r_aload_n rfl rfl ?_
  refine r_iload_n rfl rfl ?_
  refine r_iconst rfl ?_
  refine r_iadd rfl ?_
  refine r_sld rfl hsc1 (by omega) (by omega) (congrFun hfx1 _) ?_
  refine r_aload_n rfl rfl ?_
  refine r_iload_n rfl rfl ?_
  refine r_iconst rfl ?_
  refine r_iadd rfl ?_
  refine r_sld rfl hsc1 (by omega) (by omega) (congrFun hfx1 _) ?_
  refine r_aload_n rfl rfl ?_
  refine r_iload_n rfl rfl ?_
  refine r_iconst rfl ?_
  refine r_iadd rfl ?_
  refine r_sld rfl hsc1 (by omega) (by omega) (congrFun hfx1 _) ?_
  refine r_aload_n rfl rfl ?_
  refine r_iload_n rfl rfl ?_
  refine r_iconst rfl ?_
  refine r_iadd rfl ?_
  refine r_sld rfl hsc1 (by omega) (by omega) (congrFun hfx1 _) ?_
  refine r_callV4 rfl rfl (hs1.o rfl) rfl (ZCt.kp hz1 (c_shows (by omega) hs1 hM1 hA (hx _) (hx _) (hx _) (hx _) (fun f2 hf2 hz2 hq2 => ?_)))
  refine r_icmp_y rfl (decide_eq_true rfl) ?_
  exact K _ _ _ _ ⟨hI1.frm hf2.x, hM1.fr hf2, ⟨N, hA, by omega⟩, by omega, (hq2 _ zX_big).1.trans hsc1, (hq2 _ zX_big).2.trans hfx1⟩
theorem lw_count (h0 : LwS n x j σ f g a) (hn : n ≤ 3072) (hx : ∀ k, IR (x k)) (hj : j ≤ 600) (hi : 0 ≤ i ∧ i + 6 ≤ (n : Int)) (K : ∀ σ' f' g' a', LwS n x (j + 1) σ' f' g' a' → ZWp 1000 zt255 1213 [zr (some (zX + 6)), zr (some 0), zr (some 219), zi i] [] σ' f' g' Q) : ZWp 1000 zt255 1144 [zr (some (zX + 6)), zr (some 0), zr (some 219), zi i] [] σ f g Q := by
  have h := h0
  obtain ⟨hI, hM, ⟨N, hA, hNj⟩, hsz, hsc, hfx⟩ := h
  have hs := hI.sh
  have hz : σ.1.1 ≤ 1000000 := by omega
  refine r_aload_n rfl rfl ?_
  refine r_aload_n rfl rfl ?_
  refine r_iload_n rfl rfl ?_
  refine r_iconst rfl ?_
  refine r_iadd rfl ?_
  refine r_sld rfl hsc (by omega) (by omega) (congrFun hfx _) ?_
  refine r_callV1 rfl rfl (hs.o rfl) rfl (k_count (by omega) hI hA (hx _) ?_)
  have hsc1 := hsc
  have hfx1 := hfx
  refine r_aload_n rfl rfl ?_
  refine r_aload_n rfl rfl ?_
  refine r_iload_n rfl rfl ?_
  refine r_iconst rfl ?_
  refine r_iadd rfl ?_
  refine r_sld rfl hsc1 (by omega) (by omega) (congrFun hfx1 _) ?_
  refine r_callV1 rfl rfl (hs.o rfl) rfl (c_count (by omega) hs hM hA (hx _) ?_)
  refine r_icmp_y rfl (decide_eq_true rfl) ?_
  exact K _ _ _ _ h0.next
theorem lw_image (h0 : LwS n x j σ f g a) (hn : n ≤ 3072) (hx : ∀ k, IR (x k)) (hj : j ≤ 600) (hi : 0 ≤ i ∧ i + 6 ≤ (n : Int)) (K : ∀ σ' f' g' a', LwS n x (j + 1) σ' f' g' a' → ZWp 1000 zt255 1213 [zr (some (zX + 6)), zr (some 0), zr (some 219), zi i] [] σ' f' g' Q) : ZWp 1000 zt255 1167 [zr (some (zX + 6)), zr (some 0), zr (some 219), zi i] [] σ f g Q := by
  have h := h0
  obtain ⟨hI, hM, ⟨N, hA, hNj⟩, hsz, hsc, hfx⟩ := h
  have hs := hI.sh
  have hz : σ.1.1 ≤ 1000000 := by omega
  refine r_aload_n rfl rfl ?_
  refine r_aload_n rfl rfl ?_
  refine r_iload_n rfl rfl ?_
  refine r_iconst rfl ?_
  refine r_iadd rfl ?_
  refine r_sld rfl hsc (by omega) (by omega) (congrFun hfx _) ?_
  refine r_callV1 rfl rfl (hs.o rfl) rfl (ZCt.kp hz (k_image (by omega) hI hA (hx _) (fun f1 g1 hI1 hk1 hz1 hq1 => ?_)))
  have hM1 := hM.frk hk1
  have hs1 := hI1.sh
  have hsc1 : _ = (100, n) := (hq1 _ zX_big).1.trans hsc
  have hfx1 : _ = x := (hq1 _ zX_big).2.trans hfx
  refine r_aload_n rfl rfl ?_
  refine r_aload_n rfl rfl ?_
  refine r_iload_n rfl rfl ?_
  refine r_iconst rfl ?_
  refine r_iadd rfl ?_
  refine r_sld rfl hsc1 (by omega) (by omega) (congrFun hfx1 _) ?_
  refine r_callV1 rfl rfl (hs1.o rfl) rfl (ZCt.kp hz1 (c_image (by omega) hs1 hM1 hA (hx _) (fun f2 hM2 hx2 hz2 hq2 => ?_)))
  refine r_icmp_y rfl (decide_eq_true rfl) ?_
  exact K _ _ _ _ ⟨hI1.frm hx2, hM2, ⟨N + 7, aok_image hA (by omega) _, by omega⟩, by omega, (hq2 _ zX_big).1.trans hsc1, (hq2 _ zX_big).2.trans hfx1⟩
theorem lw_back (h0 : LwS n x j σ f g a) (hn : n ≤ 3072) (hx : ∀ k, IR (x k)) (hj : j ≤ 600) (hi : 0 ≤ i ∧ i + 6 ≤ (n : Int)) (K : ∀ σ' f' g' a', LwS n x (j + 1) σ' f' g' a' → ZWp 1000 zt255 1213 [zr (some (zX + 6)), zr (some 0), zr (some 219), zi i] [] σ' f' g' Q) : ZWp 1000 zt255 1190 [zr (some (zX + 6)), zr (some 0), zr (some 219), zi i] [] σ f g Q := by
  have h := h0
  obtain ⟨hI, hM, ⟨N, hA, hNj⟩, hsz, hsc, hfx⟩ := h
  have hs := hI.sh
  have hz : σ.1.1 ≤ 1000000 := by omega
  refine r_aload_n rfl rfl ?_
  refine r_aload_n rfl rfl ?_
  refine r_iload_n rfl rfl ?_
  refine r_iconst rfl ?_
  refine r_iadd rfl ?_
  refine r_sld rfl hsc (by omega) (by omega) (congrFun hfx _) ?_
  refine r_callV1 rfl rfl (hs.o rfl) rfl (ZCt.kp hz (k_back (by omega) hI hA (hx _) (fun f1 g1 hI1 hk1 hz1 hq1 => ?_)))
  have hM1 := hM.frk hk1
  have hs1 := hI1.sh
  have hsc1 : _ = (100, n) := (hq1 _ zX_big).1.trans hsc
  have hfx1 : _ = x := (hq1 _ zX_big).2.trans hfx
  refine r_aload_n rfl rfl ?_
  refine r_aload_n rfl rfl ?_
  refine r_iload_n rfl rfl ?_
  refine r_iconst rfl ?_
  refine r_iadd rfl ?_
  refine r_sld rfl hsc1 (by omega) (by omega) (congrFun hfx1 _) ?_
  refine r_callV1 rfl rfl (hs1.o rfl) rfl (ZCt.kp hz1 (c_back (by omega) hs1 hM1 hA (hx _) (fun f2 hM2 hx2 hz2 hq2 => ?_)))
  refine r_icmp_y rfl (decide_eq_true rfl) ?_
  exact K _ _ _ _ ⟨hI1.frm hx2, hM2, ⟨N + 7, aok_back hA (by omega) _, by omega⟩, by omega, (hq2 _ zX_big).1.trans hsc1, (hq2 _ zX_big).2.trans hfx1⟩
theorem l_law (hn : n ≤ 3072) (hx : ∀ k, IR (x k)) (j : Nat) (i : Int) (hi : i = 6 * (j : Int)) (hj : 6 * j ≤ n + 6) (σ : ZS) (f : ZF) (g : ZG) (a : AS) (h0 : LwS n x j σ f g a) : ZWp 1000 zt255 18 [zr (some (zX + 6)), zr (some 0), zr (some 219), zi i] [] σ f g (fun r σ' _ _ => r = some (zi 1) ∧ σ'.1.1 ≤ 600000 ∧ σ'.1.2 ≤ 7302250) := by
  have h := h0
  obtain ⟨hI, hM, ⟨N, hA, hNj⟩, hsz, hsc, hfx⟩ := h
  have K : 6 * j + 6 ≤ n → ∀ σ' f' g' a', LwS n x (j + 1) σ' f' g' a' → ZWp 1000 zt255 1213 [zr (some (zX + 6)), zr (some 0), zr (some 219), zi i] [] σ' f' g' (fun r σ' _ _ => r = some (zi 1) ∧ σ'.1.1 ≤ 600000 ∧ σ'.1.2 ≤ 7302250) := fun hle σ' f' g' a' h' => by
    refine r_iinc (L' := [_, _, _, _]) rfl rfl rfl ?_
    refine r_goto rfl ?_
    exact l_law hn hx (j + 1) (i + 6) (by omega) (by omega) σ' f' g' a' h'
  refine r_iload_n rfl rfl ?_
  refine r_aload_n rfl rfl ?_
  refine r_slen rfl hsc (by omega) ?_
  refine r_bipush rfl ?_
  refine r_isub rfl ?_
  refine r_icmp_gt rfl (by omega) (by omega) (fun hgt => ?_) (fun hgt => ?_)
  · refine r_iconst rfl ?_
    refine r_zret rfl (by omega) ?_
    exact ⟨rfl, by omega, by omega⟩
  · refine r_aload_n rfl rfl ?_
    refine r_iload_n rfl rfl ?_
    refine r_sld rfl hsc (by omega) (by omega) (congrFun hfx _) ?_
    refine r_bipush rfl ?_
    refine r_iand rfl ?_
    refine r_tsw rfl (z_and_rng _ _) rfl (And.intro (fun s33_0 => ?_) (fun s33n0 => (And.intro (fun s33_1 => ?_) (fun s33n1 => (And.intro (fun s33_2 => ?_) (fun s33n2 => (And.intro (fun s33_3 => ?_) (fun s33n3 => (And.intro (fun s33_4 => ?_) (fun s33n4 => (And.intro (fun s33_5 => ?_) (fun s33n5 => (And.intro (fun s33_6 => ?_) (fun s33n6 => (And.intro (fun s33_7 => ?_) (fun s33n7 => (And.intro (fun s33_8 => ?_) (fun s33n8 => (And.intro (fun s33_9 => ?_) (fun s33n9 => (And.intro (fun s33_10 => ?_) (fun s33n10 => (And.intro (fun s33_11 => ?_) (fun s33n11 => (And.intro (fun s33_12 => ?_) (fun s33n12 => (And.intro (fun s33_13 => ?_) (fun s33n13 => (And.intro (fun s33_14 => ?_) (fun s33n14 => (And.intro (fun s33_15 => ?_) (fun s33n15 => (And.intro (fun s33_16 => ?_) (fun s33n16 => (And.intro (fun s33_17 => ?_) (fun s33n17 => (And.intro (fun s33_18 => ?_) (fun s33n18 => (And.intro (fun s33_19 => ?_) (fun s33n19 => (And.intro (fun s33_20 => ?_) (fun s33n20 => (And.intro (fun s33_21 => ?_) (fun s33n21 => (And.intro (fun s33_22 => ?_) (fun s33n22 => (And.intro (fun s33_23 => ?_) (fun s33n23 => (And.intro (fun s33_24 => ?_) (fun s33n24 => (And.intro (fun s33_25 => ?_) (fun s33n25 => (And.intro (fun s33_26 => ?_) (fun s33n26 => (And.intro (fun s33_27 => ?_) (fun s33n27 => (And.intro (fun s33_28 => ?_) (fun s33n28 => (And.intro (fun s33_29 => ?_) (fun s33n29 => (And.intro (fun s33_30 => ?_) (fun s33n30 => (And.intro (fun s33_31 => ?_) (fun s33n31 => (And.intro (fun s33_32 => ?_) (fun s33n32 => (And.intro (fun s33_33 => ?_) (fun s33n33 => (And.intro (fun s33_34 => ?_) (fun s33n34 => ?_))))))))))))))))))))))))))))))))))))))))))))))))))))))))))))))))))))))
    · exact lw_feed h0 hn hx (by omega) (by omega) (K (by omega))
    · exact lw_end h0 hn hx (by omega) (by omega) (K (by omega))
    · exact lw_show h0 hn hx (by omega) (by omega) (K (by omega))
    · exact lw_rule h0 hn hx (by omega) (by omega) (K (by omega))
    · exact lw_force h0 hn hx (by omega) (by omega) (K (by omega))
    · exact lw_car h0 hn hx (by omega) (by omega) (K (by omega))
    · exact lw_road h0 hn hx (by omega) (by omega) (K (by omega))
    · exact lw_gapIn h0 hn hx (by omega) (by omega) (K (by omega))
    · exact lw_step h0 hn hx (by omega) (by omega) (K (by omega))
    · exact lw_pole h0 hn hx (by omega) (by omega) (K (by omega))
    · exact lw_grass h0 hn hx (by omega) (by omega) (K (by omega))
    · exact lw_fill h0 hn hx (by omega) (by omega) (K (by omega))
    · exact lw_wish h0 hn hx (by omega) (by omega) (K (by omega))
    · exact lw_undo h0 hn hx (by omega) (by omega) (K (by omega))
    · exact lw_ahead h0 hn hx (by omega) (by omega) (K (by omega))
    · exact lw_lets h0 hn hx (by omega) (by omega) (K (by omega))
    · exact lw_still h0 hn hx (by omega) (by omega) (K (by omega))
    · exact lw_leastFuel h0 hn hx (by omega) (by omega) (K (by omega))
    · exact lw_bestGrass h0 hn hx (by omega) (by omega) (K (by omega))
    · exact lw_bestFill h0 hn hx (by omega) (by omega) (K (by omega))
    · exact lw_closed h0 hn hx (by omega) (by omega) (K (by omega))
    · exact lw_row h0 hn hx (by omega) (by omega) (K (by omega))
    · exact lw_wished h0 hn hx (by omega) (by omega) (K (by omega))
    · exact lw_longest h0 hn hx (by omega) (by omega) (K (by omega))
    · exact lw_rests h0 hn hx (by omega) (by omega) (K (by omega))
    · exact lw_ring h0 hn hx (by omega) (by omega) (K (by omega))
    · exact lw_litres h0 hn hx (by omega) (by omega) (K (by omega))
    · exact lw_note h0 hn hx (by omega) (by omega) (K (by omega))
    · exact lw_ruled h0 hn hx (by omega) (by omega) (K (by omega))
    · exact lw_look h0 hn hx (by omega) (by omega) (K (by omega))
    · exact lw_seed h0 hn hx (by omega) (by omega) (K (by omega))
    · exact lw_shows h0 hn hx (by omega) (by omega) (K (by omega))
    · exact lw_count h0 hn hx (by omega) (by omega) (K (by omega))
    · exact lw_image h0 hn hx (by omega) (by omega) (K (by omega))
    · exact lw_back h0 hn hx (by omega) (by omega) (K (by omega))
    · exact K (by omega) _ _ _ _ h0.next
termination_by 600 - j
theorem kn_zero (n : Nat) (x : Nat → Int) : Kn (zs0 n) (zf0 x) zg0 0 [] 0 [] [] := ⟨⟨rfl, rfl, rfl⟩, (fun k t e => by cases e), fun k i hk => absurd hk (Nat.not_lt_zero k), fun k i hk => absurd hk (Nat.not_lt_zero k), (fun x hx => by cases hx), (fun x hx => by cases hx)⟩
theorem law_beg {σ : ZS} {f : ZF} {g : ZG} {Q : ZQ} (h : Kn σ f g 0 [] 0 [] []) (K : ∀ σ' f' g', Kn σ' f' g' 240 yxT (ycS + 40 + 6094) yxG yxF → (∀ k, 1000000 ≤ k → σ'.2 k = σ.2 k ∧ f' k = f k) → ZWp 1000 zt255 18 [zr (some (zX + 6)), zr (some 0), zr (some 219), zi 0] [] σ' f' g' Q) : ZWp 1000 zt255 0 [zr (some (zX + 6)), zu, zu, zu] [] σ f g Q := by
  have z0 := h.sz
  refine r_new rfl (by omega) ?_
  rw [z0]
  have h1 := h.new 10 20
  refine r_dupr rfl ?_
  refine r_callI0 rfl rfl (by rw [h1.sz]; omega) rfl (ZCt.kp (by rw [h1.sz]; omega) (kn_class (by omega) h1 rfl (fun σ2 f2 g2 h2 _ q2 => ?_)))
  refine r_astore_n (L' := [_, _, _, _]) rfl rfl rfl ?_
  have z2 := h2.sz
  refine r_new rfl (by omega) ?_
  rw [z2]
  have h3 := h2.new 11 40
  refine r_dupr rfl ?_
  refine r_callI0 rfl rfl (by rw [h3.sz]; omega) rfl (ZCt.kp (by rw [h3.sz]; omega) (kn_model (by omega) 240 h3 (znth_top h2.1.2.2) (by omega) (fun σ4 f4 g4 h4 _ q4 => ?_)))
  refine r_astore_n (L' := [_, _, _, _]) rfl rfl rfl ?_
  refine r_iconst rfl ?_
  refine r_istore_n (L' := [_, _, _, _]) rfl rfl rfl ?_
  refine K σ4 f4 g4 h4 (fun k hk => ?_)
  have a1 := q2 k hk
  have a2 := q4 k hk
  refine ⟨a2.1.trans (Eq.trans ?_ (a1.1.trans ?_)), a2.2.trans (Eq.trans ?_ (a1.2.trans ?_))⟩
  · exact if_neg (by omega)
  · exact if_neg (by omega)
  · exact funext (fun i => if_neg (by omega))
  · exact funext (fun i => if_neg (by omega))
theorem ys_le : ycS + 40 + 6094 ≤ 100000 := by decide +kernel
theorem law_all {n : Nat} {x : Nat → Int} (hn : n ≤ 3072) (hx : ∀ k, IR (x k)) : ZWp 1000 zt255 0 [zr (some (zX + 6)), zu, zu, zu] [] (zs0 n) (zf0 x) zg0 (fun r σ' _ _ => r = some (zi 1) ∧ σ'.1.1 ≤ 600000 ∧ σ'.1.2 ≤ 7302250) := by
  have e6 : (zs0 n).2 (zX + 6) = (100, n) := by
    show (if zX + 6 = zX + 6 then (100, n) else (0, 0)) = _
    rw [if_pos rfl]
  have f6 : zf0 x (zX + 6) = x := by
    funext k
    show (if zX + 6 = zX + 6 then x k else 0) = _
    rw [if_pos rfl]
  refine law_beg (kn_zero n x) (fun σ1 f1 g1 h1 q1 => ?_)
  have hb := h1.sz
  have hl : σ1.1.2 ≤ 100000 := Nat.le_trans (Nat.le_of_eq h1.1.2.1) ys_le
  exact l_law hn hx 0 0 rfl (by omega) σ1 f1 g1 a0 ⟨h1.ci, h1.mi, ⟨0, aok0, by omega⟩, ⟨by omega, by omega⟩, (q1 _ zX_big).1.trans e6, (q1 _ zX_big).2.trans f6⟩
theorem zpure : ZPure := by
  intro n x hn hx
  obtain ⟨k, r, σ', f', g', e, e1, e2, e3⟩ := law_all hn hx
  subst e1
  exact ⟨k, (σ', f', g'), e, e2, e3⟩
end LAW
