/-! Rules as a whole, in both programs -/
abbrev Cls : Type := List (List Tk × Option (List Tk))
def cCodes : Cls → List Int
  | [] => []
  | (s, none) :: r => s.map tcode ++ (100069 :: cCodes r)
  | (s, some t) :: r => s.map tcode ++ (t.map tcode ++ (100073 :: cCodes r))
def clOk (x : List Tk × Option (List Tk)) : Prop := chk x.1 [] = some [false] ∧ (match x.2 with
  | none => nvs x.1 ≤ 60
  | some t => chk t [] = some [true] ∧ nvs x.1 + nvs t ≤ 60)
def Rev (w : Nat → Int) : Cls → Bool
  | [] => false
  | (s, none) :: _ => decide (0 < wl (val w s))
  | (s, some t) :: r => if wl (val w t) = 0 then Rev w r else decide (0 < wl (val w s))
theorem val_congr {w w' : Nat → Int} (hw : ∀ i, i < 10 → w i = w' i) {l : List Tk} {bs : List Bool} (h : chk l [] = some bs) : val w l = val w' l := by
  unfold val
  rw [exec_congr hw l [] bs [] h]
theorem exec_top {w : Nat → Int} {l : List Tk} {b : Bool} (h : chk l [] = some [b]) (st : List Int) : exec w l st = val w l :: st := by
  have := exec_app (w := w) l [] [b] [] h trivial st
  rw [(exec_val h).1] at this
  exact this
theorem chk_nvs : ∀ (l : List Tk) (bs bs' : List Bool), chk l bs = some bs' → bs'.length ≤ bs.length + nvs l := by
  intro l
  induction l with
  | nil => intro bs bs' h; simp only [chk] at h; cases h; simp [nvs]
  | cons t l ih =>
    intro bs bs' h
    obtain ⟨b1, h1, h2⟩ := chk_cons h
    have h3 := ih b1 bs' h2
    simp only [nvs]
    rcases tk1_inv h1 with ⟨h0, hv, rfl⟩ | ⟨h0, hv, rfl⟩ | ⟨h0, hv, r, rfl, rfl⟩ | ⟨hv, a, b, o, r, rfl, rfl, hk⟩
    · rw [if_pos (by omega)]; simp only [List.length_cons] at h3; omega
    · rw [if_pos (by omega)]; simp only [List.length_cons] at h3; omega
    · simp only [List.length_cons] at h3 ⊢; omega
    · simp only [List.length_cons] at h3 ⊢; omega
theorem Ty.one (x : Int) : Ty [false] [x] := ⟨fun q => (by cases q), trivial⟩
section RULES2
variable {d : Nat} {σ : ZS} {f : ZF} {g : ZG} {Q : ZQ}
theorem k_takes59 (hd : 1 ≤ d) (K : Q (some (zi 0)) σ f g) : ZCt d 67 [zi (100069 - 100010)] σ f g Q := by
  refine ZCt.of' (L0 := [_]) (by omega) rfl rfl rfl (fun d hd1 => ?_)
  refine r_iload_n rfl rfl ?_
  refine r_bipush rfl ?_
  refine r_icmp_eq rfl (by omega) (by omega) (fun h => ?_) (fun h => by omega)
  refine r_iconst rfl ?_
  refine r_zret rfl (by omega) ?_
  exact K
theorem l_alC1 (hd : 1 ≤ d) {q c len : Nat} {x5 x6 x7 x8 : ZV} (hO : zO σ q 7) (hg : g q 0 = some c) (hc : zA σ c 100 len) (hlen : len ≤ 400) (hw : zA σ 23 103 10) (hst : zA σ 24 103 60) (hc24 : c ≠ 24) {i : Nat} (hi : i < len) (hcode : f c i = 100069) (k1 : 0 < wl (f 24 0) → Q (some (zi 1)) σ f g) (k2 : ¬ 0 < wl (f 24 0) → Q (some (zi 0)) σ f g) : ZWp d zt66 5 [zr (some q), zr (some 23), zr (some 24), zi ((0 + 1 : Nat) : Int), zi (i : Int), x5, x6, x7, x8] [] σ f g Q := by
  have hw0 := wl_zero
  refine r_iload rfl rfl ?_
  refine r_aload_n rfl rfl ?_
  refine r_getR rfl (by first | assumption | exact hs.o rfl) (by first | assumption | exact hs.g rfl) ?_
  refine r_alen rfl (by first | assumption | exact hs.a rfl) (by omega) (by omega) ?_
  refine r_icmp_ge rfl (by omega) (by omega) (fun h12 => ?_) (fun h12 => ?_)
  · exfalso; omega
  · refine r_aload_n rfl rfl ?_
    refine r_getR rfl (by first | assumption | exact hs.o rfl) (by first | assumption | exact hs.g rfl) ?_
    refine r_iload rfl rfl ?_
    refine r_iald rfl (by first | assumption | exact hs.a rfl) (by omega) (by omega) ((zix (n := i) (by omega)).trans hcode) ?_
    refine r_istore (L' := [_, _, _, _, _, _, _, _, _]) rfl rfl rfl ?_
    refine r_iload rfl rfl ?_
    refine r_ldc rfl ?_
    refine r_isub rfl ?_
    refine r_istore (L' := [_, _, _, _, _, _, _, _, _]) rfl rfl rfl ?_
    refine r_iload rfl rfl ?_
    refine r_if_ge rfl (by omega) (fun h33 => ?_) (fun h33 => ?_)
    · refine r_iload_n rfl rfl ?_
      refine r_iconst rfl ?_
      refine r_icmp_lt rfl (by omega) (by omega) (fun h75 => ?_) (fun h75 => ?_)
      · exfalso; omega
      · refine r_iload_n rfl rfl ?_
        refine r_iconst rfl ?_
        refine r_icmp_ge rfl (by omega) (by omega) (fun h80 => ?_) (fun h80 => ?_)
        · exfalso; omega
        · refine r_iload rfl rfl ?_
          refine r_callS1 rfl rfl rfl (k_takes59 (by omega) ?_)
          refine r_if_y rfl (by decide) ?_
          refine r_aload_n rfl rfl ?_
          refine r_iload_n rfl rfl ?_
          refine r_iconst rfl ?_
          refine r_isub rfl ?_
          refine r_lald rfl (by first | assumption | exact hs.a rfl) (by omega) (by omega) (zix (n := 0) (by omega)) ?_
          refine r_lstore (L' := [_, _, _, _, _, _, _, _, _]) rfl rfl rfl ?_
          refine r_iload rfl rfl ?_
          refine r_bipush rfl ?_
          refine r_icmp_ne rfl (by omega) (by omega) (fun h104 => ?_) (fun h104 => ?_)
          · exfalso; omega
          · refine r_lload rfl rfl ?_
            refine r_lconst rfl ?_
            refine r_lcmpW rfl (fun w110 e110a e110b e110c => ?_)
            refine r_if_le rfl (by omega) (fun h111 => ?_) (fun h111 => ?_)
            · refine r_iconst rfl ?_
              refine r_zret rfl (by omega) ?_
              exact k2 (by omega)
            · refine r_iconst rfl ?_
              refine r_goto rfl ?_
              refine r_zret rfl (by omega) ?_
              exact k1 (by omega)
    · exfalso; omega
theorem l_alC2 (hd : 1 ≤ d) {q c len : Nat} {x5 x6 x7 x8 : ZV} (hO : zO σ q 7) (hg : g q 0 = some c) (hc : zA σ c 100 len) (hlen : len ≤ 400) (hw : zA σ 23 103 10) (hst : zA σ 24 103 60) (hc24 : c ≠ 24) {i : Nat} (hi : i < len) (hcode : f c i = 100073) (k1 : ¬ wl (f 24 1) = 0 → 0 < wl (f 24 0) → Q (some (zi 1)) σ f g) (k2 : ¬ wl (f 24 1) = 0 → ¬ 0 < wl (f 24 0) → Q (some (zi 0)) σ f g) (k3 : wl (f 24 1) = 0 → ∀ x5 x6 x7 x8, ZWp d zt66 5 [zr (some q), zr (some 23), zr (some 24), zi ((0 : Nat) : Int), zi ((i + 1 : Nat) : Int), x5, x6, x7, x8] [] σ f g Q) : ZWp d zt66 5 [zr (some q), zr (some 23), zr (some 24), zi ((0 + 1 + 1 : Nat) : Int), zi (i : Int), x5, x6, x7, x8] [] σ f g Q := by
  have hw0 := wl_zero
  refine r_iload rfl rfl ?_
  refine r_aload_n rfl rfl ?_
  refine r_getR rfl (by first | assumption | exact hs.o rfl) (by first | assumption | exact hs.g rfl) ?_
  refine r_alen rfl (by first | assumption | exact hs.a rfl) (by omega) (by omega) ?_
  refine r_icmp_ge rfl (by omega) (by omega) (fun h12 => ?_) (fun h12 => ?_)
  · exfalso; omega
  · refine r_aload_n rfl rfl ?_
    refine r_getR rfl (by first | assumption | exact hs.o rfl) (by first | assumption | exact hs.g rfl) ?_
    refine r_iload rfl rfl ?_
    refine r_iald rfl (by first | assumption | exact hs.a rfl) (by omega) (by omega) ((zix (n := i) (by omega)).trans hcode) ?_
    refine r_istore (L' := [_, _, _, _, _, _, _, _, _]) rfl rfl rfl ?_
    refine r_iload rfl rfl ?_
    refine r_ldc rfl ?_
    refine r_isub rfl ?_
    refine r_istore (L' := [_, _, _, _, _, _, _, _, _]) rfl rfl rfl ?_
    refine r_iload rfl rfl ?_
    refine r_if_ge rfl (by omega) (fun h33 => ?_) (fun h33 => ?_)
    · refine r_iload_n rfl rfl ?_
      refine r_iconst rfl ?_
      refine r_icmp_lt rfl (by omega) (by omega) (fun h75 => ?_) (fun h75 => ?_)
      · exfalso; omega
      · refine r_iload_n rfl rfl ?_
        refine r_iconst rfl ?_
        refine r_icmp_ge rfl (by omega) (by omega) (fun h80 => ?_) (fun h80 => ?_)
        · refine r_aload_n rfl rfl ?_
          refine r_iload_n rfl rfl ?_
          refine r_iconst rfl ?_
          refine r_isub rfl ?_
          refine r_lald rfl (by first | assumption | exact hs.a rfl) (by omega) (by omega) (zix (n := 1) (by omega)) ?_
          refine r_lstore (L' := [_, _, _, _, _, _, _, _, _]) rfl rfl rfl ?_
          refine r_iload rfl rfl ?_
          refine r_bipush rfl ?_
          refine r_icmp_ne rfl (by omega) (by omega) (fun h104 => ?_) (fun h104 => ?_)
          · refine r_iload rfl rfl ?_
            refine r_bipush rfl ?_
            refine r_icmp_ne rfl (by omega) (by omega) (fun h124 => ?_) (fun h124 => ?_)
            · refine r_iload rfl rfl ?_
              refine r_bipush rfl ?_
              refine r_icmp_eq rfl (by omega) (by omega) (fun h143 => ?_) (fun h143 => ?_)
              · refine r_lload rfl rfl ?_
                refine r_lconst rfl ?_
                refine r_lcmpW rfl (fun w172 e172a e172b e172c => ?_)
                refine r_if_eq rfl (by omega) (fun h173 => ?_) (fun h173 => ?_)
                · refine r_iinc (L' := [_, _, _, _, _, _, _, _, _]) rfl rfl rfl ?_
                  refine r_iinc (L' := [_, _, _, _, _, _, _, _, _]) rfl rfl rfl ?_
                  refine r_goto rfl ?_
                  exact k3 (by omega) _ _ _ _
                · refine r_aload_n rfl rfl ?_
                  refine r_iload_n rfl rfl ?_
                  refine r_iconst rfl ?_
                  refine r_isub rfl ?_
                  refine r_lald rfl (by first | assumption | exact hs.a rfl) (by omega) (by omega) (zix (n := 0) (by omega)) ?_
                  refine r_lconst rfl ?_
                  refine r_lcmpW rfl (fun w182 e182a e182b e182c => ?_)
                  refine r_if_le rfl (by omega) (fun h183 => ?_) (fun h183 => ?_)
                  · refine r_iconst rfl ?_
                    refine r_zret rfl (by omega) ?_
                    exact k2 (by omega) (by omega)
                  · refine r_iconst rfl ?_
                    refine r_goto rfl ?_
                    refine r_zret rfl (by omega) ?_
                    exact k1 (by omega) (by omega)
              · exfalso; omega
            · exfalso; omega
          · exfalso; omega
        · exfalso; omega
    · exfalso; omega
theorem l_alL (hd : 2 ≤ d) {q c len : Nat} (hO : zO σ q 7) (hg : g q 0 = some c) (hc : zA σ c 100 len) (hlen : len ≤ 400) (hw : zA σ 23 103 10) (hst : zA σ 24 103 60) (hc24 : c ≠ 24) : ∀ (cls : Cls) (f : ZF) (i : Nat) (x5 x6 x7 x8 : ZV), (∀ x ∈ cls, clOk x) → At (f c) i (cCodes cls) → i + (cCodes cls).length = len →
    (∀ f', StF 24 f f' 0 → (Rev (f 23) cls = true → Q (some (zi 1)) σ f' g) ∧ (Rev (f 23) cls = false → Q (some (zi 0)) σ f' g)) → ZWp d zt66 5 [zr (some q), zr (some 23), zr (some 24), zi ((0 : Nat) : Int), zi (i : Int), x5, x6, x7, x8] [] σ f g Q := by
  intro cls
  induction cls with
  | nil =>
    intro f i x5 x6 x7 x8 hok hat hi K
    simp only [cCodes, List.length_nil] at hi
    refine r_iload rfl rfl ?_
    refine r_aload_n rfl rfl ?_
    refine r_getR rfl (by first | assumption | exact hs.o rfl) (by first | assumption | exact hs.g rfl) ?_
    refine r_alen rfl (by first | assumption | exact hs.a rfl) (by omega) (by omega) ?_
    refine r_icmp_ge rfl (by omega) (by omega) (fun h12 => ?_) (fun h12 => ?_)
    · refine r_iconst rfl ?_
      refine r_zret rfl (by omega) ?_
      exact (K f (StF.rf 24 f 0)).2 rfl
    · exfalso; omega
  | cons p r ih =>
    obtain ⟨s, o⟩ := p
    intro f i x5 x6 x7 x8 hok hat hi K
    have hp := hok (s, o) (List.mem_cons_self)
    obtain ⟨p1, p3⟩ := hp
    cases o with
    | none =>
      simp only [cCodes] at hat hi
      rw [At.app] at hat
      simp only [List.length_append, List.length_map, List.length_cons] at hat hi
      refine l_alS (by omega) hO hg hc hlen hw hst hc24 s f i [] [false] [] x5 x6 x7 x8 p1 trivial trivial hat.1 (by omega) (by simpa using p3) (fun f1 y5 y6 y7 y8 h1 h2 => ?_)
      rw [(exec_val p1).1] at h2 ⊢
      have h2 := h2.1
      simp only [List.length_nil] at h2
      refine l_alC1 (by omega) hO hg hc hlen hw hst hc24 (by omega) (by rw [h1.1 c hc24]; exact hat.2.1) (fun h => ?_) (fun h => ?_)
      · exact (K f1 h1).1 (by rw [h2] at h; simp [Rev, h])
      · exact (K f1 h1).2 (by rw [h2] at h; simp [Rev, h] <;> omega)
    | some t =>
      simp only [cCodes] at hat hi
      rw [At.app, At.app] at hat
      simp only [List.length_append, List.length_map, List.length_cons] at hat hi
      obtain ⟨p3, p5⟩ := p3
      simp only at p1 p3 p5
      have hnv1 := chk_nvs _ _ _ p1
      simp only [List.length_cons, List.length_nil] at hnv1
      refine l_alS (by omega) hO hg hc hlen hw hst hc24 s f i [] [false] [] x5 x6 x7 x8 p1 trivial trivial hat.1 (by omega) (by simp only [List.length_nil]; omega) (fun f1 y5 y6 y7 y8 h1 h2 => ?_)
      rw [(exec_val p1).1] at h2 ⊢
      refine l_alS (by omega) hO hg hc hlen hw hst hc24 t f1 (i + s.length) [false] [true, false] [val (f 23) s] y5 y6 y7 y8 (chk_app t [] [true] p3 [false]) (Ty.one _) h2 (by rw [h1.1 c hc24]; exact hat.2.1) (by omega) (by simp only [List.length_cons, List.length_nil]; omega) (fun f2 z5 z6 z7 z8 h3 h4 => ?_)
      rw [exec_top p3] at h4 ⊢
      have e0 : f2 24 0 = val (f 23) s := h4.2.1
      have e1 : f2 24 1 = val (f 23) t := by rw [h1.1 23 (by omega)] at h4; exact h4.1
      have h13 := h1.trans h3 (by omega)
      refine l_alC2 (by omega) hO hg hc hlen hw hst hc24 (by omega) (by rw [h13.1 c hc24]; exact hat.2.2.1) (fun q1 q2 => ?_) (fun q1 q2 => ?_) (fun q1 u5 u6 u7 u8 => ?_)
      · rw [e1] at q1
        rw [e0] at q2
        exact (K f2 h13).1 (by simp [Rev, q1, q2])
      · rw [e1] at q1
        rw [e0] at q2
        exact (K f2 h13).2 (by simp [Rev, q1, q2] <;> omega)
      · rw [e1] at q1
        refine ih f2 (i + s.length + t.length + 1) u5 u6 u7 u8 (fun x hx => hok x (List.mem_cons_of_mem _ hx)) (by rw [h13.1 c hc24]; exact hat.2.2.2) (by omega) (fun f3 h5 => ?_)
        have := K f3 (h13.trans h5 (by omega))
        rw [h13.1 23 (by omega)]
        simp only [Rev, q1, if_true] at this
        exact this
theorem k_allows (hd : 3 ≤ d) {q c len : Nat} (hO : zO σ q 7) (hg : g q 0 = some c) (hc : zA σ c 100 len) (hlen : len ≤ 400) (hw : zA σ 23 103 10) (hst : zA σ 24 103 60) (hc24 : c ≠ 24) {cls : Cls} (hok : ∀ x ∈ cls, clOk x) (hat : At (f c) 0 (cCodes cls)) (hl : (cCodes cls).length = len)
    (K : ∀ f', StF 24 f f' 0 → (Rev (f 23) cls = true → Q (some (zi 1)) σ f' g) ∧ (Rev (f 23) cls = false → Q (some (zi 0)) σ f' g)) : ZCt d 66 [zr (some q), zr (some 23), zr (some 24)] σ f g Q := by
  refine ZCt.of' (L0 := [_, _, _, _, _, _, _, _, _]) (by omega) rfl rfl rfl (fun d hd1 => ?_)
  refine r_iconst rfl ?_
  refine r_istore_n (L' := [_, _, _, _, _, _, _, _, _]) rfl rfl rfl ?_
  refine r_iconst rfl ?_
  refine r_istore (L' := [_, _, _, _, _, _, _, _, _]) rfl rfl rfl ?_
  exact l_alL (by omega) hO hg hc hlen hw hst hc24 cls f 0 _ _ _ _ hok hat (by omega) K
theorem z_and15 {s : Nat} (hs : s < 16) {v : Int} (hv : 0 ≤ v ∧ v ≤ 99999) : z_and ((s : Int) + 16 * v) 15 = (s : Int) := by
  obtain ⟨w, rfl⟩ := Int.eq_ofNat_of_zero_le hv.1
  have e := z_and_nat (a := s + 16 * w) (b := 15) (by omega) (by omega)
  rw [show (((s + 16 * w : Nat) : Int)) = (s : Int) + 16 * (w : Int) by omega] at e
  rw [show ((15 : Nat) : Int) = 15 from rfl] at e
  rw [e]
  have h2 : (s + 16 * w) &&& 15 = s := by
    have := Nat.and_two_pow_sub_one_eq_mod (s + 16 * w) 4
    simp only [show 2 ^ 4 - 1 = 15 from rfl] at this
    rw [this]
    omega
  rw [h2]
theorem z_shr4 {s : Nat} (hs : s < 16) {v : Int} (hv : 0 ≤ v ∧ v ≤ 99999) : z_shr ((s : Int) + 16 * v) 4 = v := by
  obtain ⟨w, rfl⟩ := Int.eq_ofNat_of_zero_le hv.1
  have e := z_shr_nat (a := s + 16 * w) (c := 4) (by omega) (by omega)
  rw [show (((s + 16 * w : Nat) : Int)) = (s : Int) + 16 * (w : Int) by omega] at e
  rw [show ((4 : Nat) : Int) = 4 from rfl] at e
  rw [e, Nat.shiftRight_eq_div_pow]
  omega
def StM (f f' : ZF) (s : Nat) : Prop := (∀ c, c ≠ 227 → c ≠ 219 → f' c = f c) ∧ (∀ i, i ≠ 18 → f' 219 i = f 219 i) ∧ ∀ j, j < s → f' 227 j = f 227 j
theorem StM.rf (f : ZF) (s : Nat) : StM f f s := ⟨fun _ _ _ => rfl, fun _ _ => rfl, fun _ _ => rfl⟩
theorem StM.trans {s s' : Nat} {a b c : ZF} (h1 : StM a b s) (h2 : StM b c s') (hs : s ≤ s') : StM a c s := ⟨fun k q1 q2 => (h2.1 k q1 q2).trans (h1.1 k q1 q2), fun i q => (h2.2.1 i q).trans (h1.2.1 i q), fun j q => (h2.2.2 j (by omega)).trans (h1.2.2 j q)⟩
theorem StM.st {s i : Nat} {f0 f : ZF} {v : Int} (h : StM f0 f s) (hi : s ≤ i) : StM f0 (up2 f 227 i v) s := h.trans (s' := s) ⟨fun c q _ => up2_o _ _ q, fun j _ => by rw [up2_o _ _ (by omega)], fun j q => up2_ne _ _ (fun z => by omega)⟩ (Nat.le_refl _)
theorem StM.top {s : Nat} {f0 f : ZF} {v : Int} (h : StM f0 f s) : StM f0 (up2 f 219 18 v) s := h.trans (s' := s) ⟨fun c _ q => up2_o _ _ q, fun j q => up2_ne _ _ (fun z => q z.2), fun j q => by rw [up2_o _ _ (by omega)]⟩ (Nat.le_refl _)
theorem StM.frm {s : Nat} {f f' : ZF} (h : StM f f' s) : FrM f f' := ⟨fun c q1 q2 _ _ => h.1 c q2 q1, fun i q1 _ => h.2.1 i q1, fun i _ => by rw [h.1 229 (by omega) (by omega)]⟩
theorem c_push (hd : 1 ≤ d) (hs : Sh σ g) {k : Nat} (hk : k < 64) (htop : f 219 18 = (k : Int)) {v : Int} (K : Q none σ (up2 (up2 f 227 k v) 219 18 ((k + 1 : Nat) : Int)) g) : ZCt d 200 [zr (some 219), zl v] σ f g Q := by
  refine ZCt.of' (L0 := [_, _, _]) (by omega) rfl rfl rfl (fun d hd1 => ?_)
  refine r_aload_n rfl rfl ?_
  refine r_getR rfl (by first | assumption | exact hs.o rfl) (by first | assumption | exact hs.g rfl) ?_
  refine r_aload_n rfl rfl ?_
  refine r_getI rfl (by first | assumption | exact hs.o rfl) htop ?_
  refine r_lload_n rfl rfl ?_
  refine r_lastN (k) rfl (by first | assumption | exact hs.a rfl) (by omega) (by omega) (by omega) ?_
  refine r_aload_n rfl rfl ?_
  refine r_dupr rfl ?_
  refine r_getI rfl (by first | assumption | exact hs.o rfl) (show up2 f 227 k v 219 18 = (k : Int) by rw [up2_o _ _ (by omega)]; exact htop) ?_
  refine r_iconst rfl ?_
  refine r_iadd rfl ?_
  refine r_putI rfl (by first | assumption | exact hs.o rfl) ?_
  refine r_ret rfl ?_
  exact K
theorem c_pop (hd : 1 ≤ d) (hs : Sh σ g) {k : Nat} (hk : k < 64) (htop : f 219 18 = ((k + 1 : Nat) : Int)) (K : Q (some (zl (f 227 k))) σ (up2 f 219 18 (k : Int)) g) : ZCt d 201 [zr (some 219)] σ f g Q := by
  refine ZCt.of' (L0 := [_]) (by omega) rfl rfl rfl (fun d hd1 => ?_)
  refine r_aload_n rfl rfl ?_
  refine r_dupr rfl ?_
  refine r_getI rfl (by first | assumption | exact hs.o rfl) htop ?_
  refine r_iconst rfl ?_
  refine r_isub rfl ?_
  rw [show ((k + 1 : Nat) : Int) - 1 = (k : Int) by omega]
  refine r_putI rfl (by first | assumption | exact hs.o rfl) ?_
  refine r_aload_n rfl rfl ?_
  refine r_getR rfl (by first | assumption | exact hs.o rfl) (by first | assumption | exact hs.g rfl) ?_
  refine r_aload_n rfl rfl ?_
  refine r_getI rfl (by first | assumption | exact hs.o rfl) (up2_same _ _ _ _) ?_
  refine r_lald rfl (by first | assumption | exact hs.a rfl) (by omega) (by omega) ((zix (n := k) (by omega)).trans (show up2 f 219 18 (k : Int) 227 k = f 227 k by rw [up2_o _ _ (by omega)])) ?_
  refine r_lret rfl ?_
  exact K
theorem l_reN (hd : 1 ≤ d) {t : Nat} {b0 en : Int} {x5 x6 x7 x8 x9 x10 : ZV} (hs : Sh σ g) (ht : t < 6) {i s : Nat} (hi : (i : Int) < en) (hen : en ≤ 400) (hs64 : s < 64) (htop : f 219 18 = (s : Int)) {v : Int} (hv : 0 ≤ v ∧ v ≤ 99999) (hcode : f 221 (400 * t + i) = ((0 : Nat) : Int) + 16 * v) (K : ∀ x5 x6, ZWp d zt199 8 [zr (some 219), zi (t : Int), zi b0, zi en, zi ((i + 1 : Nat) : Int), x5, x6, x7, x8, x9, x10] [] σ (up2 (up2 f 227 s v) 219 18 ((s + 1 : Nat) : Int)) g Q) : ZWp d zt199 8 [zr (some 219), zi (t : Int), zi b0, zi en, zi (i : Int), x5, x6, x7, x8, x9, x10] [] σ f g Q := by
  refine r_iload rfl rfl ?_
  refine r_iload_n rfl rfl ?_
  refine r_icmp_ge rfl (by omega) (by omega) (fun h11 => ?_) (fun h11 => ?_)
  · exfalso; omega
  · refine r_aload_n rfl rfl ?_
    refine r_getR rfl (by first | assumption | exact hs.o rfl) (by first | assumption | exact hs.g rfl) ?_
    refine r_sipush rfl ?_
    refine r_iload_n rfl rfl ?_
    refine r_imul rfl ?_
    refine r_iload rfl rfl ?_
    refine r_iadd rfl ?_
    refine r_iald rfl (by first | assumption | exact hs.a rfl) (by omega) (by omega) ((zix (n := 400 * t + i) (by omega)).trans hcode) ?_
    refine r_bipush rfl ?_
    refine r_iand rfl ?_
    rw [z_and15 (by omega) (by omega)]
    refine r_istore (L' := [_, _, _, _, _, _, _, _, _, _, _]) rfl rfl rfl ?_
    refine r_aload_n rfl rfl ?_
    refine r_getR rfl (by first | assumption | exact hs.o rfl) (by first | assumption | exact hs.g rfl) ?_
    refine r_sipush rfl ?_
    refine r_iload_n rfl rfl ?_
    refine r_imul rfl ?_
    refine r_iload rfl rfl ?_
    refine r_iadd rfl ?_
    refine r_iald rfl (by first | assumption | exact hs.a rfl) (by omega) (by omega) ((zix (n := 400 * t + i) (by omega)).trans hcode) ?_
    refine r_iconst rfl ?_
    refine r_ishr rfl ?_
    rw [z_shr4 (by omega) (by omega)]
    refine r_istore (L' := [_, _, _, _, _, _, _, _, _, _, _]) rfl rfl rfl ?_
    refine r_iload rfl rfl ?_
    refine r_if_ne rfl (by omega) (fun h51 => ?_) (fun h51 => ?_)
    · exfalso; omega
    · refine r_aload_n rfl rfl ?_
      refine r_iload rfl rfl ?_
      refine r_i2l rfl (by omega) ?_
      refine r_callV1 rfl rfl (by first | assumption | exact hs.o rfl) rfl (c_push (by omega) hs hs64 htop ?_)
      refine r_goto rfl ?_
      refine r_iinc (L' := [_, _, _, _, _, _, _, _, _, _, _]) rfl rfl rfl ?_
      refine r_goto rfl ?_
      exact K _ _
theorem l_reW (hd : 1 ≤ d) {t : Nat} {b0 en : Int} {x5 x6 x7 x8 x9 x10 : ZV} (hs : Sh σ g) (ht : t < 6) {i s : Nat} (hi : (i : Int) < en) (hen : en ≤ 400) (hs64 : s < 64) (htop : f 219 18 = (s : Int)) {w : Nat} (hv : w < 10) (hcode : f 221 (400 * t + i) = ((1 : Nat) : Int) + 16 * (w : Int)) (K : ∀ x5 x6, ZWp d zt199 8 [zr (some 219), zi (t : Int), zi b0, zi en, zi ((i + 1 : Nat) : Int), x5, x6, x7, x8, x9, x10] [] σ (up2 (up2 f 227 s (f 228 w)) 219 18 ((s + 1 : Nat) : Int)) g Q) : ZWp d zt199 8 [zr (some 219), zi (t : Int), zi b0, zi en, zi (i : Int), x5, x6, x7, x8, x9, x10] [] σ f g Q := by
  refine r_iload rfl rfl ?_
  refine r_iload_n rfl rfl ?_
  refine r_icmp_ge rfl (by omega) (by omega) (fun h11 => ?_) (fun h11 => ?_)
  · exfalso; omega
  · refine r_aload_n rfl rfl ?_
    refine r_getR rfl (by first | assumption | exact hs.o rfl) (by first | assumption | exact hs.g rfl) ?_
    refine r_sipush rfl ?_
    refine r_iload_n rfl rfl ?_
    refine r_imul rfl ?_
    refine r_iload rfl rfl ?_
    refine r_iadd rfl ?_
    refine r_iald rfl (by first | assumption | exact hs.a rfl) (by omega) (by omega) ((zix (n := 400 * t + i) (by omega)).trans hcode) ?_
    refine r_bipush rfl ?_
    refine r_iand rfl ?_
    rw [z_and15 (by omega) (by omega)]
    refine r_istore (L' := [_, _, _, _, _, _, _, _, _, _, _]) rfl rfl rfl ?_
    refine r_aload_n rfl rfl ?_
    refine r_getR rfl (by first | assumption | exact hs.o rfl) (by first | assumption | exact hs.g rfl) ?_
    refine r_sipush rfl ?_
    refine r_iload_n rfl rfl ?_
    refine r_imul rfl ?_
    refine r_iload rfl rfl ?_
    refine r_iadd rfl ?_
    refine r_iald rfl (by first | assumption | exact hs.a rfl) (by omega) (by omega) ((zix (n := 400 * t + i) (by omega)).trans hcode) ?_
    refine r_iconst rfl ?_
    refine r_ishr rfl ?_
    rw [z_shr4 (by omega) (by omega)]
    refine r_istore (L' := [_, _, _, _, _, _, _, _, _, _, _]) rfl rfl rfl ?_
    refine r_iload rfl rfl ?_
    refine r_if_ne rfl (by omega) (fun h51 => ?_) (fun h51 => ?_)
    · refine r_iload rfl rfl ?_
      refine r_iconst rfl ?_
      refine r_icmp_ne rfl (by omega) (by omega) (fun h67 => ?_) (fun h67 => ?_)
      · exfalso; omega
      · refine r_aload_n rfl rfl ?_
        refine r_aload_n rfl rfl ?_
        refine r_getR rfl (by first | assumption | exact hs.o rfl) (by first | assumption | exact hs.g rfl) ?_
        refine r_iload rfl rfl ?_
        refine r_lald rfl (by first | assumption | exact hs.a rfl) (by omega) (by omega) (zix (n := w) (by omega)) ?_
        refine r_callV1 rfl rfl (by first | assumption | exact hs.o rfl) rfl (c_push (by omega) hs hs64 htop ?_)
        refine r_goto rfl ?_
        refine r_iinc (L' := [_, _, _, _, _, _, _, _, _, _, _]) rfl rfl rfl ?_
        refine r_goto rfl ?_
        exact K _ _
    · exfalso; omega
theorem l_reT (hd : 1 ≤ d) {t : Nat} {b0 en : Int} {x5 x6 x7 x8 x9 x10 : ZV} (hs : Sh σ g) (ht : t < 6) {i s : Nat} (hi : (i : Int) < en) (hen : en ≤ 400) (hs64 : s < 64) (htop : f 219 18 = ((s + 1 : Nat) : Int)) (hcode : f 221 (400 * t + i) = ((11 : Nat) : Int) + 16 * 0) (K : ∀ x5 x6, ZWp d zt199 8 [zr (some 219), zi (t : Int), zi b0, zi en, zi ((i + 1 : Nat) : Int), x5, x6, x7, x8, x9, x10] [] σ (up2 (up2 (up2 f 219 18 (s : Int)) 227 s (1 - f 227 s)) 219 18 ((s + 1 : Nat) : Int)) g Q) : ZWp d zt199 8 [zr (some 219), zi (t : Int), zi b0, zi en, zi (i : Int), x5, x6, x7, x8, x9, x10] [] σ f g Q := by
  refine r_iload rfl rfl ?_
  refine r_iload_n rfl rfl ?_
  refine r_icmp_ge rfl (by omega) (by omega) (fun h11 => ?_) (fun h11 => ?_)
  · exfalso; omega
  · refine r_aload_n rfl rfl ?_
    refine r_getR rfl (by first | assumption | exact hs.o rfl) (by first | assumption | exact hs.g rfl) ?_
    refine r_sipush rfl ?_
    refine r_iload_n rfl rfl ?_
    refine r_imul rfl ?_
    refine r_iload rfl rfl ?_
    refine r_iadd rfl ?_
    refine r_iald rfl (by first | assumption | exact hs.a rfl) (by omega) (by omega) ((zix (n := 400 * t + i) (by omega)).trans hcode) ?_
    refine r_bipush rfl ?_
    refine r_iand rfl ?_
    rw [z_and15 (by omega) (by omega)]
    refine r_istore (L' := [_, _, _, _, _, _, _, _, _, _, _]) rfl rfl rfl ?_
    refine r_aload_n rfl rfl ?_
    refine r_getR rfl (by first | assumption | exact hs.o rfl) (by first | assumption | exact hs.g rfl) ?_
    refine r_sipush rfl ?_
    refine r_iload_n rfl rfl ?_
    refine r_imul rfl ?_
    refine r_iload rfl rfl ?_
    refine r_iadd rfl ?_
    refine r_iald rfl (by first | assumption | exact hs.a rfl) (by omega) (by omega) ((zix (n := 400 * t + i) (by omega)).trans hcode) ?_
    refine r_iconst rfl ?_
    refine r_ishr rfl ?_
    rw [z_shr4 (by omega) (by omega)]
    refine r_istore (L' := [_, _, _, _, _, _, _, _, _, _, _]) rfl rfl rfl ?_
    refine r_iload rfl rfl ?_
    refine r_if_ne rfl (by omega) (fun h51 => ?_) (fun h51 => ?_)
    · refine r_iload rfl rfl ?_
      refine r_iconst rfl ?_
      refine r_icmp_ne rfl (by omega) (by omega) (fun h67 => ?_) (fun h67 => ?_)
      · refine r_iload rfl rfl ?_
        refine r_bipush rfl ?_
        refine r_icmp_ne rfl (by omega) (by omega) (fun h88 => ?_) (fun h88 => ?_)
        · exfalso; omega
        · refine r_aload_n rfl rfl ?_
          refine r_lconst rfl ?_
          refine r_aload_n rfl rfl ?_
          refine r_callV0 rfl rfl (by first | assumption | exact hs.o rfl) rfl (c_pop (by omega) hs hs64 htop ?_)
          refine r_lsub rfl ?_
          refine r_callV1 rfl rfl (by first | assumption | exact hs.o rfl) rfl (c_push (by omega) hs hs64 (up2_same _ _ _ _) ?_)
          refine r_goto rfl ?_
          refine r_iinc (L' := [_, _, _, _, _, _, _, _, _, _, _]) rfl rfl rfl ?_
          refine r_goto rfl ?_
          exact K _ _
      · exfalso; omega
    · exfalso; omega
theorem l_reO (hd : 1 ≤ d) {t : Nat} {b0 en : Int} {x5 x6 x7 x8 x9 x10 : ZV} (hs : Sh σ g) (ht : t < 6) {i s : Nat} (hi : (i : Int) < en) (hen : en ≤ 400) {o : Nat} (ho : VOp o) (hs64 : s + 1 < 64) (htop : f 219 18 = ((s + 2 : Nat) : Int)) (hcode : f 221 (400 * t + i) = (o : Int) + 16 * 0) (K : ∀ x5 x6 x7 x8 x9 x10, ZWp d zt199 8 [zr (some 219), zi (t : Int), zi b0, zi en, zi ((i + 1 : Nat) : Int), x5, x6, x7, x8, x9, x10] [] σ (up2 (up2 (up2 (up2 f 219 18 ((s + 1 : Nat) : Int)) 219 18 (s : Int)) 227 s (op1 o (f 227 s) (f 227 (s + 1)))) 219 18 ((s + 1 : Nat) : Int)) g Q) : ZWp d zt199 8 [zr (some 219), zi (t : Int), zi b0, zi en, zi (i : Int), x5, x6, x7, x8, x9, x10] [] σ f g Q := by
  refine r_iload rfl rfl ?_
  refine r_iload_n rfl rfl ?_
  refine r_icmp_ge rfl (by omega) (by omega) (fun h11 => ?_) (fun h11 => ?_)
  · exfalso; omega
  · refine r_aload_n rfl rfl ?_
    refine r_getR rfl (by first | assumption | exact hs.o rfl) (by first | assumption | exact hs.g rfl) ?_
    refine r_sipush rfl ?_
    refine r_iload_n rfl rfl ?_
    refine r_imul rfl ?_
    refine r_iload rfl rfl ?_
    refine r_iadd rfl ?_
    refine r_iald rfl (by first | assumption | exact hs.a rfl) (by omega) (by omega) ((zix (n := 400 * t + i) (by omega)).trans hcode) ?_
    refine r_bipush rfl ?_
    refine r_iand rfl ?_
    rw [z_and15 (by omega) (by omega)]
    refine r_istore (L' := [_, _, _, _, _, _, _, _, _, _, _]) rfl rfl rfl ?_
    refine r_aload_n rfl rfl ?_
    refine r_getR rfl (by first | assumption | exact hs.o rfl) (by first | assumption | exact hs.g rfl) ?_
    refine r_sipush rfl ?_
    refine r_iload_n rfl rfl ?_
    refine r_imul rfl ?_
    refine r_iload rfl rfl ?_
    refine r_iadd rfl ?_
    refine r_iald rfl (by first | assumption | exact hs.a rfl) (by omega) (by omega) ((zix (n := 400 * t + i) (by omega)).trans hcode) ?_
    refine r_iconst rfl ?_
    refine r_ishr rfl ?_
    rw [z_shr4 (by omega) (by omega)]
    refine r_istore (L' := [_, _, _, _, _, _, _, _, _, _, _]) rfl rfl rfl ?_
    refine r_iload rfl rfl ?_
    refine r_if_ne rfl (by omega) (fun h51 => ?_) (fun h51 => ?_)
    · refine r_iload rfl rfl ?_
      refine r_iconst rfl ?_
      refine r_icmp_ne rfl (by omega) (by omega) (fun h67 => ?_) (fun h67 => ?_)
      · refine r_iload rfl rfl ?_
        refine r_bipush rfl ?_
        refine r_icmp_ne rfl (by omega) (by omega) (fun h88 => ?_) (fun h88 => ?_)
        · refine r_aload_n rfl rfl ?_
          refine r_callV0 rfl rfl (by first | assumption | exact hs.o rfl) rfl (c_pop (by omega) hs (k := s + 1) hs64 htop ?_)
          refine r_lstore (L' := [_, _, _, _, _, _, _, _, _, _, _]) rfl rfl rfl ?_
          refine r_aload_n rfl rfl ?_
          refine r_callV0 rfl rfl (by first | assumption | exact hs.o rfl) rfl (c_pop (by omega) hs (k := s) (by omega) (up2_same _ _ _ _) ?_)
          rw [show up2 f 219 18 ((s + 1 : Nat) : Int) 227 s = f 227 s by rw [up2_o _ _ (by omega)]]
          refine r_lstore (L' := [_, _, _, _, _, _, _, _, _, _, _]) rfl rfl rfl ?_
          refine r_aload_n rfl rfl ?_
          refine r_iload rfl rfl ?_
          refine r_lload rfl rfl ?_
          refine r_lload rfl rfl ?_
          refine r_callS3 rfl rfl rfl (c_one (s := o) (by omega) ho ?_)
          refine r_callV1 rfl rfl (by first | assumption | exact hs.o rfl) rfl (c_push (by omega) hs (k := s) (by omega) (up2_same _ _ _ _) ?_)
          refine r_iinc (L' := [_, _, _, _, _, _, _, _, _, _, _]) rfl rfl rfl ?_
          refine r_goto rfl ?_
          exact K _ _ _ _ _ _
        · exfalso; omega
      · exfalso; omega
    · exfalso; omega
theorem l_reS (hd : 1 ≤ d) (hs : Sh σ g) {t : Nat} (ht : t < 6) {b0 en : Int} (hen : en ≤ 400) : ∀ (l : List Tk) (f : ZF) (i : Nat) (bs bs' : List Bool) (st : List Int) (x5 x6 x7 x8 x9 x10 : ZV), chk l bs = some bs' → Ty bs st → Stk (f 227) st → f 219 18 = (st.length : Int) → At (f 221) (400 * t + i) (l.map tsign) → ((i + l.length : Nat) : Int) ≤ en → st.length + nvs l ≤ 60 →
    (∀ f' x5 x6 x7 x8 x9 x10, StM f f' 0 → f' 219 18 = ((exec (f 228) l st).length : Int) → Stk (f' 227) (exec (f 228) l st) → ZWp d zt199 8 [zr (some 219), zi (t : Int), zi b0, zi en, zi ((i + l.length : Nat) : Int), x5, x6, x7, x8, x9, x10] [] σ f' g Q) → ZWp d zt199 8 [zr (some 219), zi (t : Int), zi b0, zi en, zi (i : Int), x5, x6, x7, x8, x9, x10] [] σ f g Q := by
  intro l
  induction l with
  | nil =>
    intro f i bs bs' st x5 x6 x7 x8 x9 x10 hch hty hstk htop hat hi hn K
    exact K f x5 x6 x7 x8 x9 x10 (StM.rf f 0) htop hstk
  | cons k l ih =>
    intro f i bs bs' st x5 x6 x7 x8 x9 x10 hch hty hstk htop hat hi hn K
    obtain ⟨b1, h1, h2⟩ := chk_cons hch
    have hcode : f 221 (400 * t + i) = tsign k := hat.1
    have hat2 : At (f 221) (400 * t + (i + 1)) (l.map tsign) := hat.2
    simp only [List.length_cons, nvs] at hi hn
    have next : ∀ (f1 : ZF) (st1 : List Int) (y5 y6 y7 y8 y9 y10 : ZV), st1 = ex1 (f 228) k st → StM f f1 0 → f1 219 18 = (st1.length : Int) → Stk (f1 227) st1 → st1.length + nvs l ≤ 60 → ZWp d zt199 8 [zr (some 219), zi (t : Int), zi b0, zi en, zi ((i + 1 : Nat) : Int), y5, y6, y7, y8, y9, y10] [] σ f1 g Q := by
      intro f1 st1 y5 y6 y7 y8 y9 y10 e1 e2 e2' e3 e4
      subst e1
      refine ih f1 (i + 1) b1 bs' _ y5 y6 y7 y8 y9 y10 h2 (hty.tex1 h1) e3 e2' (by rw [e2.1 221 (by omega) (by omega)]; exact hat2) (by omega) e4 (fun f2 z5 z6 z7 z8 z9 z10 h3 h3' h4 => ?_)
      rw [e2.1 228 (by omega) (by omega)] at h4 h3'
      rw [show i + 1 + l.length = i + (k :: l).length by simp only [List.length_cons]; omega]
      exact K f2 z5 z6 z7 z8 z9 z10 (e2.trans h3 (Nat.le_refl 0)) h3' h4
    rcases tk1_inv h1 with ⟨h0, hv, rfl⟩ | ⟨h0, hv, rfl⟩ | ⟨h0, hv, r, rfl, rfl⟩ | ⟨hv, a, b, o, r, rfl, rfl, hk⟩
    · rw [if_pos (by omega)] at hn
      have e2 : ex1 (f 228) k st = k.2 :: st := by unfold ex1; rw [if_pos h0]
      refine l_reN (by omega) hs ht (by omega) hen (by omega) htop hv (by rw [hcode]; unfold tsign; rw [h0]) (fun x5 x6 => ?_)
      exact next _ (k.2 :: st) _ _ _ _ _ _ e2.symm (((StM.rf f 0).st (Nat.zero_le _)).top) (up2_same _ _ _ _) (by rw [up2_o _ _ (by omega)]; exact ⟨up2_same _ _ _ _, hstk.same _ (fun j hj => up2_ne _ _ (fun z => by omega))⟩) (by simp only [List.length_cons]; omega)
    · rw [if_pos (by omega)] at hn
      obtain ⟨w, hw'⟩ := Int.eq_ofNat_of_zero_le hv.1
      have e2 : ex1 (f 228) k st = f 228 w :: st := by unfold ex1; rw [if_neg (by omega), if_pos h0, hw', Int.toNat_natCast]
      refine l_reW (by omega) hs ht (by omega) hen (by omega) htop (w := w) (by omega) (by rw [hcode]; unfold tsign; rw [h0, hw']) (fun x5 x6 => ?_)
      exact next _ (f 228 w :: st) _ _ _ _ _ _ e2.symm (((StM.rf f 0).st (Nat.zero_le _)).top) (up2_same _ _ _ _) (by rw [up2_o _ _ (by omega)]; exact ⟨up2_same _ _ _ _, hstk.same _ (fun j hj => up2_ne _ _ (fun z => by omega))⟩) (by simp only [List.length_cons]; omega)
    · rw [if_neg (by omega)] at hn
      cases st with
      | nil => exact hty.elim
      | cons x s =>
        have e2 : ex1 (f 228) k (x :: s) = (1 - x) :: s := by unfold ex1; rw [if_neg (by omega), if_neg (by omega), if_pos h0]
        simp only [List.length_cons] at hn htop
        refine l_reT (by omega) hs ht (by omega) hen (s := s.length) (by omega) htop (by rw [hcode]; unfold tsign; rw [h0, hv]) (fun x5 x6 => ?_)
        rw [hstk.1]
        exact next _ ((1 - x) :: s) _ _ _ _ _ _ e2.symm ((((StM.rf f 0).top).st (Nat.zero_le _)).top) (up2_same _ _ _ _) (by rw [up2_o _ _ (by omega)]; exact ⟨up2_same _ _ _ _, hstk.2.same _ (fun j hj => by rw [up2_ne _ _ (fun z => by omega), up2_o _ _ (by omega)])⟩) (by simp only [List.length_cons]; omega)
    · have hvo : VOp k.1 := by rcases hk with hk | hk | hk <;> omega
      rw [if_neg (by omega)] at hn
      cases st with
      | nil => exact hty.elim
      | cons y s => cases s with
        | nil => exact hty.2.elim
        | cons x s =>
          simp only [List.length_cons] at hn htop
          have hy : f 227 (s.length + 1) = y := hstk.1
          refine l_reO (by omega) hs ht (by omega) hen (s := s.length) hvo (by omega) htop (by rw [hcode]; unfold tsign; rw [hv]) (fun x5 x6 x7 x8 x9 x10 => ?_)
          rw [hstk.2.1, hy]
          exact next _ (op1 k.1 x y :: s) _ _ _ _ _ _ (ex1_op hvo x y s).symm (((((StM.rf f 0).top).top).st (Nat.zero_le _)).top) (up2_same _ _ _ _) (by rw [up2_o _ _ (by omega)]; exact ⟨up2_same _ _ _ _, hstk.2.2.same _ (fun j hj => by rw [up2_ne _ _ (fun z => by omega), up2_o _ _ (by omega), up2_o _ _ (by omega)])⟩) (by simp only [List.length_cons]; omega)
theorem c_reckons (hd : 2 ≤ d) (hs : Sh σ g) {t b : Nat} (ht : t < 6) {e : List Tk} {bk : Bool} (hok : chk e [] = some [bk]) (hb : b + e.length ≤ 400) (hnv : nvs e ≤ 60) (hat : At (f 221) (400 * t + b) (e.map tsign)) (K : ∀ f', StM f f' 0 → Q (some (zl (val (f 228) e))) σ f' g) : ZCt d 199 [zr (some 219), zi (t : Int), zi (b : Int), zi ((b + e.length : Nat) : Int)] σ f g Q := by
  refine ZCt.of' (L0 := [_, _, _, _, _, _, _, _, _, _, _]) (by omega) rfl rfl rfl (fun d hd1 => ?_)
  refine r_aload_n rfl rfl ?_
  refine r_iconst rfl ?_
  refine r_putI rfl (by first | assumption | exact hs.o rfl) ?_
  refine r_iload_n rfl rfl ?_
  refine r_istore (L' := [_, _, _, _, _, _, _, _, _, _, _]) rfl rfl rfl ?_
  refine l_reS (by omega) hs ht (by omega) e _ b [] [bk] [] _ _ _ _ _ _ hok trivial trivial (up2_same _ _ _ _) (by rw [up2_o _ _ (by omega)]; exact hat) (by omega) (by simp only [List.length_nil]; omega) (fun f1 x5 x6 x7 x8 x9 x10 h1 h2 h3 => ?_)
  rw [(exec_val hok).1] at h2 h3
  have h3 : f1 227 0 = _ := h3.1
  refine r_iload rfl rfl ?_
  refine r_iload_n rfl rfl ?_
  refine r_icmp_ge rfl (by omega) (by omega) (fun h11 => ?_) (fun h11 => ?_)
  · refine r_aload_n rfl rfl ?_
    refine r_callV0 rfl rfl (by first | assumption | exact hs.o rfl) rfl (c_pop (by omega) hs (k := 0) (by omega) h2 ?_)
    refine r_lret rfl ?_
    rw [h3, up2_o _ _ (show 228 ≠ 219 by omega)]
    exact K _ ((((StM.rf f 0).top).trans h1 (Nat.le_refl 0)).top)
  · exfalso; omega
/-- the reference's rows tell this rule, from clause c on -/
def MAt (f : ZF) (t : Nat) : Nat → Cls → Prop
  | _, [] => True
  | c, (s, none) :: r => (∃ b : Nat, f 223 (48 * t + 4 * c) = (b : Int) ∧ f 223 (48 * t + 4 * c + 1) = ((b + s.length : Nat) : Int) ∧ b + s.length ≤ 400 ∧ At (f 221) (400 * t + b) (s.map tsign)) ∧ f 223 (48 * t + 4 * c + 2) = -1 ∧ MAt f t (c + 1) r
  | c, (s, some e) :: r => (∃ b : Nat, f 223 (48 * t + 4 * c) = (b : Int) ∧ f 223 (48 * t + 4 * c + 1) = ((b + s.length : Nat) : Int) ∧ b + s.length ≤ 400 ∧ At (f 221) (400 * t + b) (s.map tsign)) ∧ (∃ b : Nat, f 223 (48 * t + 4 * c + 2) = (b : Int) ∧ f 223 (48 * t + 4 * c + 3) = ((b + e.length : Nat) : Int) ∧ b + e.length ≤ 400 ∧ At (f 221) (400 * t + b) (e.map tsign)) ∧ MAt f t (c + 1) r
theorem MAt.same {f f' : ZF} {t : Nat} : ∀ (cls : Cls) (c : Nat), MAt f t c cls → (∀ i, 48 * t ≤ i → i < 48 * t + 4 * (c + cls.length) → f' 223 i = f 223 i) → (∀ i, 400 * t ≤ i → i < 400 * t + 400 → f' 221 i = f 221 i) → MAt f' t c cls := by
  intro cls
  induction cls with
  | nil => intro c h e1 e2; exact trivial
  | cons p r ih =>
    obtain ⟨s, o⟩ := p
    intro c h e1 e2
    simp only [List.length_cons] at e1
    have at' : ∀ (b : Nat) (e : List Tk), b + e.length ≤ 400 → At (f 221) (400 * t + b) (e.map tsign) → At (f' 221) (400 * t + b) (e.map tsign) := fun b e hb ha => ha.same _ _ (fun j q1 q2 => e2 j (by omega) (by simp at q2; omega))
    cases o with
    | none =>
      obtain ⟨⟨b, h1, h2, h3, h4⟩, h5, h6⟩ := h
      exact ⟨⟨b, by rw [e1 _ (by omega) (by omega)]; exact h1, by rw [e1 _ (by omega) (by omega)]; exact h2, h3, at' b s h3 h4⟩, by rw [e1 _ (by omega) (by omega)]; exact h5, ih (c + 1) h6 (fun i q1 q2 => e1 i (by omega) (by omega)) e2⟩
    | some e =>
      obtain ⟨⟨b, h1, h2, h3, h4⟩, ⟨b', h1', h2', h3', h4'⟩, h6⟩ := h
      exact ⟨⟨b, by rw [e1 _ (by omega) (by omega)]; exact h1, by rw [e1 _ (by omega) (by omega)]; exact h2, h3, at' b s h3 h4⟩, ⟨b', by rw [e1 _ (by omega) (by omega)]; exact h1', by rw [e1 _ (by omega) (by omega)]; exact h2', h3', at' b' e h3' h4'⟩, ih (c + 1) h6 (fun i q1 q2 => e1 i (by omega) (by omega)) e2⟩
theorem l_summed (hd : 2 ≤ d) (hs : Sh σ g) {t nc : Nat} (ht : t < 6) (hnc : nc ≤ 12) : ∀ (cls : Cls) (f : ZF) (c : Nat) (x3 : ZV), f 224 t = (nc : Int) → c + cls.length = nc → (∀ x ∈ cls, clOk x) → MAt f t c cls →
    (∀ f' v, StM f f' 0 → (0 < wl v ↔ Rev (f 228) cls = true) → Q (some (zl v)) σ f' g) → ZWp d zt198 2 [zr (some 219), zi (t : Int), zi (c : Int), x3] [] σ f g Q := by
  have hw0 := wl_zero
  have hw1 := wl_one
  intro cls
  induction cls with
  | nil =>
    intro f c x3 hcl hc hok hat K
    simp only [List.length_nil] at hc
    refine r_iload_n rfl rfl ?_
    refine r_aload_n rfl rfl ?_
    refine r_getR rfl (by first | assumption | exact hs.o rfl) (by first | assumption | exact hs.g rfl) ?_
    refine r_iload_n rfl rfl ?_
    refine r_iald rfl (by first | assumption | exact hs.a rfl) (by omega) (by omega) ((zix (n := t) (by omega)).trans hcl) ?_
    refine r_icmp_ge rfl (by omega) (by omega) (fun h9 => ?_) (fun h9 => ?_)
    · refine r_lconst rfl ?_
      refine r_lret rfl ?_
      exact K f 0 (StM.rf f 0) (by simp [Rev, wl_zero])
    · exfalso; omega
  | cons p r ih =>
    obtain ⟨s, o⟩ := p
    intro f c x3 hcl hc hok hat K
    obtain ⟨p1, p3⟩ := hok (s, o) List.mem_cons_self
    simp only [List.length_cons] at hc
    cases o with
    | none =>
      obtain ⟨⟨b, b1, b2, b3, b4⟩, b5, b6⟩ := hat
      simp only at p3
      refine r_iload_n rfl rfl ?_
      refine r_aload_n rfl rfl ?_
      refine r_getR rfl (by first | assumption | exact hs.o rfl) (by first | assumption | exact hs.g rfl) ?_
      refine r_iload_n rfl rfl ?_
      refine r_iald rfl (by first | assumption | exact hs.a rfl) (by omega) (by omega) ((zix (n := t) (by omega)).trans hcl) ?_
      refine r_icmp_ge rfl (by omega) (by omega) (fun h9 => ?_) (fun h9 => ?_)
      · exfalso; omega
      · refine r_bipush rfl ?_
        refine r_iload_n rfl rfl ?_
        refine r_imul rfl ?_
        refine r_iconst rfl ?_
        refine r_iload_n rfl rfl ?_
        refine r_imul rfl ?_
        refine r_iadd rfl ?_
        refine r_istore_n (L' := [_, _, _, _]) rfl rfl rfl ?_
        refine r_aload_n rfl rfl ?_
        refine r_getR rfl (by first | assumption | exact hs.o rfl) (by first | assumption | exact hs.g rfl) ?_
        refine r_iload_n rfl rfl ?_
        refine r_iconst rfl ?_
        refine r_iadd rfl ?_
        refine r_iald rfl (by first | assumption | exact hs.a rfl) (by omega) (by omega) ((zix (n := 48 * t + 4 * c + 2) (by omega)).trans b5) ?_
        refine r_if_lt rfl (by omega) (fun h29 => ?_) (fun h29 => ?_)
        · refine r_aload_n rfl rfl ?_
          refine r_iload_n rfl rfl ?_
          refine r_aload_n rfl rfl ?_
          refine r_getR rfl (by first | assumption | exact hs.o rfl) (by first | assumption | exact hs.g rfl) ?_
          refine r_iload_n rfl rfl ?_
          refine r_iald rfl (by first | assumption | exact hs.a rfl) (by omega) (by omega) ((zix (n := 48 * t + 4 * c) (by omega)).trans b1) ?_
          refine r_aload_n rfl rfl ?_
          refine r_getR rfl (by first | assumption | exact hs.o rfl) (by first | assumption | exact hs.g rfl) ?_
          refine r_iload_n rfl rfl ?_
          refine r_iconst rfl ?_
          refine r_iadd rfl ?_
          refine r_iald rfl (by first | assumption | exact hs.a rfl) (by omega) (by omega) ((zix (n := 48 * t + 4 * c + 1) (by omega)).trans b2) ?_
          refine r_callV3 rfl rfl (by first | assumption | exact hs.o rfl) rfl (c_reckons (by omega) hs ht p1 b3 p3 b4 (fun f1 h1 => ?_))
          refine r_lret rfl ?_
          exact K f1 _ h1 (by simp [Rev])
        · exfalso; omega
    | some e =>
      obtain ⟨⟨b, b1, b2, b3, b4⟩, ⟨b', c1, c2, c3, c4⟩, b6⟩ := hat
      obtain ⟨p3, p5⟩ := p3
      simp only at p1 p3 p5
      have h01 := (exec_val (w := f 228) p3).2 rfl
      refine r_iload_n rfl rfl ?_
      refine r_aload_n rfl rfl ?_
      refine r_getR rfl (by first | assumption | exact hs.o rfl) (by first | assumption | exact hs.g rfl) ?_
      refine r_iload_n rfl rfl ?_
      refine r_iald rfl (by first | assumption | exact hs.a rfl) (by omega) (by omega) ((zix (n := t) (by omega)).trans hcl) ?_
      refine r_icmp_ge rfl (by omega) (by omega) (fun h9 => ?_) (fun h9 => ?_)
      · exfalso; omega
      · refine r_bipush rfl ?_
        refine r_iload_n rfl rfl ?_
        refine r_imul rfl ?_
        refine r_iconst rfl ?_
        refine r_iload_n rfl rfl ?_
        refine r_imul rfl ?_
        refine r_iadd rfl ?_
        refine r_istore_n (L' := [_, _, _, _]) rfl rfl rfl ?_
        refine r_aload_n rfl rfl ?_
        refine r_getR rfl (by first | assumption | exact hs.o rfl) (by first | assumption | exact hs.g rfl) ?_
        refine r_iload_n rfl rfl ?_
        refine r_iconst rfl ?_
        refine r_iadd rfl ?_
        refine r_iald rfl (by first | assumption | exact hs.a rfl) (by omega) (by omega) ((zix (n := 48 * t + 4 * c + 2) (by omega)).trans c1) ?_
        refine r_if_lt rfl (by omega) (fun h29 => ?_) (fun h29 => ?_)
        · exfalso; omega
        · refine r_aload_n rfl rfl ?_
          refine r_iload_n rfl rfl ?_
          refine r_aload_n rfl rfl ?_
          refine r_getR rfl (by first | assumption | exact hs.o rfl) (by first | assumption | exact hs.g rfl) ?_
          refine r_iload_n rfl rfl ?_
          refine r_iconst rfl ?_
          refine r_iadd rfl ?_
          refine r_iald rfl (by first | assumption | exact hs.a rfl) (by omega) (by omega) ((zix (n := 48 * t + 4 * c + 2) (by omega)).trans c1) ?_
          refine r_aload_n rfl rfl ?_
          refine r_getR rfl (by first | assumption | exact hs.o rfl) (by first | assumption | exact hs.g rfl) ?_
          refine r_iload_n rfl rfl ?_
          refine r_iconst rfl ?_
          refine r_iadd rfl ?_
          refine r_iald rfl (by first | assumption | exact hs.a rfl) (by omega) (by omega) ((zix (n := 48 * t + 4 * c + 3) (by omega)).trans c2) ?_
          refine r_callV3 rfl rfl (by first | assumption | exact hs.o rfl) rfl (c_reckons (by omega) hs ht p3 c3 (by omega) c4 (fun f1 h1 => ?_))
          refine r_lconst rfl ?_
          refine r_lcmpW rfl (fun w54 e54a e54b e54c => ?_)
          refine r_if_ne rfl (by omega) (fun hz => ?_) (fun hz => ?_)
          · refine r_iinc (L' := [_, _, _, _]) rfl rfl rfl ?_
            refine r_goto rfl ?_
            have q : wl (val (f 228) e) = 0 := by rcases h01 with h | h <;> rw [h] at e54b e54c ⊢ <;> omega
            refine ih f1 (c + 1) _ (by rw [h1.1 224 (by omega) (by omega)]; exact hcl) (by omega) (fun x hx => hok x (List.mem_cons_of_mem _ hx)) (b6.same _ _ (fun i _ _ => by rw [h1.1 223 (by omega) (by omega)]) (fun i _ _ => by rw [h1.1 221 (by omega) (by omega)])) (fun f2 v h2 hv => ?_)
            refine K f2 v (h1.trans h2 (Nat.le_refl 0)) ?_
            rw [h1.1 228 (by omega) (by omega)] at hv
            simpa [Rev, q] using hv
          · refine r_aload_n rfl rfl ?_
            refine r_iload_n rfl rfl ?_
            refine r_aload_n rfl rfl ?_
            refine r_getR rfl (by first | assumption | exact hs.o rfl) (by first | assumption | exact hs.g rfl) ?_
            refine r_iload_n rfl rfl ?_
            refine r_iald rfl (by first | assumption | exact hs.a rfl) (by omega) (by omega) ((zix (n := 48 * t + 4 * c) (by omega)).trans ((congrFun (h1.1 223 (by omega) (by omega)) _).trans b1)) ?_
            refine r_aload_n rfl rfl ?_
            refine r_getR rfl (by first | assumption | exact hs.o rfl) (by first | assumption | exact hs.g rfl) ?_
            refine r_iload_n rfl rfl ?_
            refine r_iconst rfl ?_
            refine r_iadd rfl ?_
            refine r_iald rfl (by first | assumption | exact hs.a rfl) (by omega) (by omega) ((zix (n := 48 * t + 4 * c + 1) (by omega)).trans ((congrFun (h1.1 223 (by omega) (by omega)) _).trans b2)) ?_
            refine r_callV3 rfl rfl (by first | assumption | exact hs.o rfl) rfl (c_reckons (e := s) (f := f1) (by omega) hs ht p1 b3 (by omega) (by rw [h1.1 221 (by omega) (by omega)]; exact b4) (fun f2 h2 => ?_))
            refine r_lret rfl ?_
            rw [h1.1 228 (by omega) (by omega)]
            refine K f2 _ (h1.trans h2 (Nat.le_refl 0)) ?_
            have q : ¬ wl (val (f 228) e) = 0 := by rcases h01 with h | h <;> rw [h] at e54b e54c ⊢ <;> omega
            simp [Rev, q]
theorem c_summedBy (hd : 3 ≤ d) (hs : Sh σ g) {t nc : Nat} (ht : t < 6) (hnc : nc ≤ 12) {cls : Cls} (hcl : f 224 t = (nc : Int)) (hc : cls.length = nc) (hok : ∀ x ∈ cls, clOk x) (hat : MAt f t 0 cls)
    (K : ∀ f' v, StM f f' 0 → (0 < wl v ↔ Rev (f 228) cls = true) → Q (some (zl v)) σ f' g) : ZCt d 198 [zr (some 219), zi (t : Int)] σ f g Q := by
  refine ZCt.of' (L0 := [_, _, _, _]) (by omega) rfl rfl rfl (fun d hd1 => ?_)
  refine r_iconst rfl ?_
  refine r_istore_n (L' := [_, _, _, _]) rfl rfl rfl ?_
  exact l_summed (by omega) hs ht hnc cls f 0 _ hcl (by omega) hok hat K
end RULES2
