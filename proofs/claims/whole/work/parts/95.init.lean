/-! What is new: all that is known of it, in lists -/
def lk {α : Type} (z : α) : List (Nat × Nat × α) → Nat → Nat → α
  | [], _, _ => z
  | x :: t, k, i => if k = x.1 ∧ i = x.2.1 then x.2.2 else lk z t k i
theorem lk_no {α : Type} {z : α} : ∀ (l : List (Nat × Nat × α)) (k i : Nat), (∀ x ∈ l, x.1 ≠ k) → lk z l k i = z := by
  intro l
  induction l with
  | nil => intro k i _; rfl
  | cons x t ih =>
    intro k i h
    show (if k = x.1 ∧ i = x.2.1 then x.2.2 else lk z t k i) = z
    rw [if_neg (fun q => h x List.mem_cons_self q.1.symm)]
    exact ih k i (fun y hy => h y (List.mem_cons_of_mem _ hy))
theorem znth_l {α : Type} : ∀ {l l' : List α} {k : Nat} {x : α}, znth l k = some x → znth (l ++ l') k = some x := by
  intro l
  induction l with
  | nil => intro l' k x h; cases h
  | cons y t ih =>
    intro l' k x h
    cases k with
    | zero => exact h
    | succ k => exact ih (l' := l') (k := k) h
theorem znth_top {α : Type} : ∀ {l : List α} {k : Nat} {x : α}, l.length = k → znth (l ++ [x]) k = some x := by
  intro l
  induction l with
  | nil => intro k x h; subst h; rfl
  | cons y t ih =>
    intro k x h
    subst h
    exact ih (k := t.length) rfl
theorem znth_app {α : Type} : ∀ {l : List α} {k : Nat} {x y : α}, znth (l ++ [x]) k = some y → znth l k = some y ∨ (k = l.length ∧ y = x) := by
  intro l
  induction l with
  | nil =>
    intro k x y h
    cases k with
    | zero => cases h; exact Or.inr ⟨rfl, rfl⟩
    | succ k => cases h
  | cons z t ih =>
    intro k x y h
    cases k with
    | zero => exact Or.inl h
    | succ k =>
      rcases ih (k := k) h with q | ⟨q1, q2⟩
      · exact Or.inl q
      · exact Or.inr ⟨by simp [q1], q2⟩
abbrev LT : Type := List (Nat × Nat)
abbrev LG : Type := List (Nat × Nat × Option Nat)
abbrev LF : Type := List (Nat × Nat × Int)
def Kn (σ : ZS) (f : ZF) (g : ZG) (n : Nat) (T : LT) (S : Nat) (G : LG) (F : LF) : Prop := (σ.1.1 = n ∧ σ.1.2 = S ∧ T.length = n) ∧ (∀ k t, znth T k = some t → σ.2 k = t) ∧ (∀ k i, k < n → f k i = lk 0 F k i) ∧ (∀ k i, k < n → g k i = lk none G k i) ∧ (∀ x ∈ F, x.1 < n) ∧ (∀ x ∈ G, x.1 < n)
section KN
variable {d : Nat} {σ : ZS} {f : ZF} {g : ZG} {Q : ZQ} {n : Nat} {T : LT} {S : Nat} {G : LG} {F : LF} {Tb : ZT} {pc q a b c : Nat} {v : Int} {L st : List ZV}
theorem Kn.sz (h : Kn σ f g n T S G F) : σ.1.1 = n := h.1.1
theorem Kn.eq {n' : Nat} {T' : LT} {S' : Nat} {G' : LG} {F' : LF} (h : Kn σ f g n T S G F) (e1 : n = n') (e2 : T = T') (e3 : S = S') (e4 : G = G') (e5 : F = F') : Kn σ f g n' T' S' G' F' := by subst e1 e2 e3 e4 e5; exact h
theorem Kn.lt (h : Kn σ f g n T S G F) {k : Nat} {t : Nat × Nat} (hk : znth T k = some t) : k < n := by
  have := znth_lt T k t hk
  rw [h.1.2.2] at this
  exact this
theorem Kn.o (h : Kn σ f g n T S G F) {k c e : Nat} (hk : znth T k = some (c, e)) : zO σ k c := ⟨by rw [h.sz]; exact h.lt hk, by rw [h.2.1 k _ hk]⟩
theorem Kn.ar (h : Kn σ f g n T S G F) {k t e : Nat} (hk : znth T k = some (t, e)) : zA σ k t e := ⟨by rw [h.sz]; exact h.lt hk, h.2.1 k _ hk⟩
theorem Kn.new (h : Kn σ f g n T S G F) (t m : Nat) : Kn (zNewS σ t m) (zNewF σ f) (zNewG σ g) (n + 1) (T ++ [(t, m)]) (S + m) G F := by
  obtain ⟨⟨h1, h2, h3⟩, h4, h5, h6, h7, h8⟩ := h
  refine ⟨⟨by show σ.1.1 + 1 = _; rw [h1], by show σ.1.2 + m = _; rw [h2], by simp [h3]⟩, fun k t' e => ?_, fun k i hk => ?_, fun k i hk => ?_, fun x hx => by have := h7 x hx; omega, fun x hx => by have := h8 x hx; omega⟩
  · show (if k = σ.1.1 then (t, m) else σ.2 k) = t'
    rcases znth_app e with q | ⟨q1, q2⟩
    · have := znth_lt T k _ q
      rw [if_neg (by omega)]
      exact h4 k t' q
    · rw [if_pos (by omega), q2]
  · show (if k = σ.1.1 then 0 else f k i) = _
    by_cases e : k = n
    · rw [if_pos (by omega), lk_no F k i (fun x hx => by have := h7 x hx; omega)]
    · rw [if_neg (by omega)]; exact h5 k i (by omega)
  · show (if k = σ.1.1 then none else g k i) = _
    by_cases e : k = n
    · rw [if_pos (by omega), lk_no G k i (fun x hx => by have := h8 x hx; omega)]
    · rw [if_neg (by omega)]; exact h6 k i (by omega)
theorem Kn.upF (h : Kn σ f g n T S G F) {k : Nat} (hk : k < n) (i : Nat) (x : Int) : Kn σ (up2 f k i x) g n T S G ((k, i, x) :: F) := by
  obtain ⟨h1, h4, h5, h6, h7, h8⟩ := h
  refine ⟨h1, h4, fun k' i' hk' => ?_, h6, fun y hy => ?_, h8⟩
  · show (if k' = k ∧ i' = i then x else f k' i') = (if k' = k ∧ i' = i then x else lk 0 F k' i')
    rw [h5 k' i' hk']
  · rcases List.mem_cons.1 hy with q | q
    · rw [q]; exact hk
    · exact h7 y q
theorem Kn.upG (h : Kn σ f g n T S G F) {k : Nat} (hk : k < n) (i : Nat) (x : Option Nat) : Kn σ f (up2 g k i x) n T S ((k, i, x) :: G) F := by
  obtain ⟨h1, h4, h5, h6, h7, h8⟩ := h
  refine ⟨h1, h4, h5, fun k' i' hk' => ?_, h7, fun y hy => ?_⟩
  · show (if k' = k ∧ i' = i then x else g k' i') = (if k' = k ∧ i' = i then x else lk none G k' i')
    rw [h6 k' i' hk']
  · rcases List.mem_cons.1 hy with q | q
    · rw [q]; exact hk
    · exact h8 y q
theorem kn_new {m : Nat} (n' : Nat) (hlk : zlk Tb pc = some (.new m, q, a, b, c, v)) (h : Kn σ f g n T S G F) (hn : n + 1 = n' ∧ n' ≤ 1000) (kk : ∀ σ' f' g', Kn σ' f' g' n' (T ++ [(a, b)]) (S + b) G F → znth (T ++ [(a, b)]) n = some (a, b) → ZWp d Tb q L (zr (some n) :: st) σ' f' g' Q) : ZWp d Tb pc L st σ f g Q := by
  obtain ⟨rfl, hn⟩ := hn
  have := h.sz
  refine r_new hlk (by omega) ?_
  rw [h.sz]
  exact kk _ _ _ (h.new a b) (znth_top h.1.2.2)
theorem kn_newa {t : ArrayType} {m : Int} (n' b' : Nat) (hlk : zlk Tb pc = some (.newarray t, q, a, b, c, v)) (h : Kn σ f g n T S G F) (hn : n + 1 = n' ∧ n' ≤ 1000) (hm : m.toNat = b') (hm2 : 0 ≤ m ∧ m ≤ 100000) (kk : ∀ σ' f' g', Kn σ' f' g' n' (T ++ [(a, b')]) (S + b') G F → znth (T ++ [(a, b')]) n = some (a, b') → ZWp d Tb q L (zr (some n) :: st) σ' f' g' Q) : ZWp d Tb pc L (zi m :: st) σ f g Q := by
  obtain ⟨rfl, hn⟩ := hn
  subst hm
  have := h.sz
  refine r_newa hlk hm2 (by omega) ?_
  rw [h.sz]
  exact kk _ _ _ (h.new a m.toNat) (znth_top h.1.2.2)
theorem kn_anew {i : Nat} {m : Int} (n' b' : Nat) (hlk : zlk Tb pc = some (.anewarray i, q, a, b, c, v)) (h : Kn σ f g n T S G F) (hn : n + 1 = n' ∧ n' ≤ 1000) (hm : m.toNat = b') (hm2 : 0 ≤ m ∧ m ≤ 100000) (kk : ∀ σ' f' g', Kn σ' f' g' n' (T ++ [(a, b')]) (S + b') G F → znth (T ++ [(a, b')]) n = some (a, b') → ZWp d Tb q L (zr (some n) :: st) σ' f' g' Q) : ZWp d Tb pc L (zi m :: st) σ f g Q := by
  obtain ⟨rfl, hn⟩ := hn
  subst hm
  have := h.sz
  refine r_anew hlk hm2 (by omega) ?_
  rw [h.sz]
  exact kk _ _ _ (h.new a m.toNat) (znth_top h.1.2.2)
theorem kn_putR {m k e : Nat} {x : Option Nat} (hlk : zlk Tb pc = some (.putfield m, q, a, 2, c, v)) (h : Kn σ f g n T S G F) (hk : znth T k = some (c, e)) (kk : ∀ g', Kn σ f g' n T S ((k, a, x) :: G) F → ZWp d Tb q L st σ f g' Q) : ZWp d Tb pc L (zr x :: zr (some k) :: st) σ f g Q := r_putR hlk (h.o hk) (kk _ (h.upG (h.lt hk) a x))
theorem kn_putI {m k e : Nat} {x : Int} (hlk : zlk Tb pc = some (.putfield m, q, a, 0, c, v)) (h : Kn σ f g n T S G F) (hk : znth T k = some (c, e)) (kk : ∀ f', Kn σ f' g n T S G ((k, a, x) :: F) → ZWp d Tb q L st σ f' g Q) : ZWp d Tb pc L (zi x :: zr (some k) :: st) σ f g Q := r_putI hlk (h.o hk) (kk _ (h.upF (h.lt hk) a x))
theorem kn_putZ {m k e : Nat} {x : Int} (hlk : zlk Tb pc = some (.putfield m, q, a, 3, c, v)) (h : Kn σ f g n T S G F) (hk : znth T k = some (c, e)) (h01 : x = 0 ∨ x = 1) (kk : ∀ f', Kn σ f' g n T S G ((k, a, x) :: F) → ZWp d Tb q L st σ f' g Q) : ZWp d Tb pc L (zi x :: zr (some k) :: st) σ f g Q := r_putZ hlk (h.o hk) h01 (kk _ (h.upF (h.lt hk) a x))
theorem kn_getR {m k e : Nat} {x : Option Nat} (hlk : zlk Tb pc = some (.getfield m, q, a, 2, c, v)) (h : Kn σ f g n T S G F) (hk : znth T k = some (c, e)) (hx : lk none G k a = x) (kk : ZWp d Tb q L (zr x :: st) σ f g Q) : ZWp d Tb pc L (zr (some k) :: st) σ f g Q := r_getR hlk (h.o hk) ((h.2.2.2.1 k a (h.lt hk)).trans hx) kk
theorem kn_aast {k m y e1 e2 : Nat} {i : Int} (hlk : zlk Tb pc = some (.aastore, q, a, b, c, v)) (h : Kn σ f g n T S G F) (hk : znth T k = some (a, m)) (hm : m ≤ 2147483647) (hi : 0 ≤ i ∧ i < (m : Int)) (h110 : Nat.ble 110 a = true) (hy : znth T y = some (e1, e2)) (hyt : e1 + 110 = a) (kk : ∀ g', Kn σ f g' n T S ((k, i.toNat, some y) :: G) F → ZWp d Tb q L st σ f g' Q) : ZWp d Tb pc L (zr (some y) :: zi i :: zr (some k) :: st) σ f g Q := by
  have hyo := h.o hy
  exact r_aast hlk (h.ar hk) hm hi h110 hyo.1 (by rw [hyo.2]; exact hyt) (kk _ (h.upG (h.lt hk) i.toNat (some y)))
def yrT : LT := [(100, 6), (100, 6), (100, 6), (100, 6), (100, 5)]
def yrG (r : Nat) : LG := [(r, 4, some (r + 5)), (r, 3, some (r + 4)), (r, 2, some (r + 3)), (r, 1, some (r + 2)), (r, 0, some (r + 1))]
def ys6 (k : Nat) (F : LF) : LF := (k, 5, -1) :: (k, 4, -1) :: (k, 3, -1) :: (k, 2, -1) :: (k, 1, -1) :: (k, 0, -1) :: F
def yrF (r : Nat) (F : LF) : LF := (r, 8, 0) :: (r, 7, 0) :: (r, 6, 0) :: (r, 5, 0) :: ys6 (r + 2) (ys6 (r + 1) F)
theorem Kn.m6 (h : Kn σ f g n T S G F) {k : Nat} (hk : k < n) : Kn σ (m6 f k) g n T S G (ys6 k F) := ((((((h.upF hk 0 (-1)).upF hk 1 (-1)).upF hk 2 (-1)).upF hk 3 (-1)).upF hk 4 (-1)).upF hk 5 (-1))
theorem kn_round (hd : 1 ≤ d) {r : Nat} (n' : Nat) (h : Kn σ f g n T S G F) (hr : znth T r = some (5, 9)) (hn : n = r + 1 ∧ n' = r + 6 ∧ n' ≤ 1000) (K : ∀ σ' f' g', Kn σ' f' g' n' (T ++ yrT) (S + 29) (yrG r ++ G) (yrF r F) → Q none σ' f' g') : ZCt d 1 [zr (some r)] σ f g Q := by
  refine ZCt.of' (L0 := [_]) (by omega) rfl rfl rfl (fun d hd1 => ?_)
  obtain ⟨rfl, rfl, hn⟩ := hn
  have ho := h.o hr
  have hz := h.sz
  refine r_aload_n rfl rfl ?_
  refine r_obj rfl rfl ?_
  refine l_ri1 (by omega) ho (by omega) ?_
  refine l_ri2 (by omega) ho.new (by show σ.1.1 + 1 < _; omega) ?_
  refine l_ri3 (by omega) ho.new.new (by show σ.1.1 + 1 + 1 < _; omega) ?_
  refine l_ri4 (by omega) ho.new.new.new (by show σ.1.1 + 1 + 1 + 1 < _; omega) ?_
  refine l_ri5 (by omega) ho.new.new.new.new (by show σ.1.1 + 1 + 1 + 1 + 1 < _; omega) ?_
  refine l_ri6 (by omega) ho.new.new.new.new.new ?_
  have h1 := ((h.new 100 6).m6 (k := σ.1.1) (by omega)).upG (k := r) (by omega) 0 (some σ.1.1)
  have z1 := h1.sz
  have h2 := ((h1.new 100 6).m6 (k := (zNewS σ 100 6).1.1) (by omega)).upG (k := r) (by omega) 1 (some (zNewS σ 100 6).1.1)
  have z2 := h2.sz
  have h3 := (h2.new 100 6).upG (k := r) (by omega) 2 (some (zNewS (zNewS σ 100 6) 100 6).1.1)
  have z3 := h3.sz
  have h4 := (h3.new 100 6).upG (k := r) (by omega) 3 (some (zNewS (zNewS (zNewS σ 100 6) 100 6) 100 6).1.1)
  have z4 := h4.sz
  have h5 := (h4.new 100 5).upG (k := r) (by omega) 4 (some (zNewS (zNewS (zNewS (zNewS σ 100 6) 100 6) 100 6) 100 6).1.1)
  have h6 := (((h5.upF (k := r) (by omega) 5 0).upF (k := r) (by omega) 6 0).upF (k := r) (by omega) 7 0).upF (k := r) (by omega) 8 0
  refine K _ _ _ ?_
  refine h6.eq (by omega) (by simp [yrT]) (by omega) ?_ ?_
  · show _ = (r, 4, some (r + 5)) :: (r, 3, some (r + 4)) :: (r, 2, some (r + 3)) :: (r, 1, some (r + 2)) :: (r, 0, some (r + 1)) :: G
    rw [z4, z3, z2, z1, hz]
  · rw [z1, hz]
    rfl

theorem kn_notes0 (hd : 1 ≤ d) {r : Nat} (n' : Nat) (h : Kn σ f g n T S G F) (hr : znth T (r) = some (2, 4)) (hn : n = r + 1 ∧ n' = r + 4 ∧ n' ≤ 1000) (K : ∀ σ' f' g', Kn σ' f' g' n' (((T ++ [(100, 10)]) ++ [(100, 10)]) ++ [(100, 10)]) (((S + 10) + 10) + 10) ((r, 3, some (r + 3)) :: ((r, 2, some (r + 2)) :: ((r, 1, some (r + 1)) :: G))) ((r, 0, 0) :: F) → Q none σ' f' g') : ZCt d 2 [zr (some (r))] σ f g Q := by
  refine ZCt.of' (L0 := [_]) (by omega) rfl rfl rfl (fun d hd1 => ?_)
  obtain ⟨rfl, rfl, hn⟩ := hn
  refine r_aload_n rfl rfl ?_
  refine r_obj rfl rfl ?_
  refine r_aload_n rfl rfl ?_
  refine r_iconst rfl ?_
  refine kn_putI rfl h (hr) (fun f1 h1 => ?_)
  refine r_aload_n rfl rfl ?_
  refine r_bipush rfl ?_
  refine kn_newa (r + 2) 10 rfl h1 ⟨rfl, by omega⟩ rfl (by omega) (fun σ2 f2 g2 h2 t2 => ?_)
  refine kn_putR rfl h2 (znth_l (hr)) (fun g3 h3 => ?_)
  refine r_aload_n rfl rfl ?_
  refine r_bipush rfl ?_
  refine kn_newa (r + 3) 10 rfl h3 ⟨rfl, by omega⟩ rfl (by omega) (fun σ4 f4 g4 h4 t4 => ?_)
  refine kn_putR rfl h4 (znth_l (znth_l (hr))) (fun g5 h5 => ?_)
  refine r_aload_n rfl rfl ?_
  refine r_bipush rfl ?_
  refine kn_newa (r + 4) 10 rfl h5 ⟨rfl, by omega⟩ rfl (by omega) (fun σ6 f6 g6 h6 t6 => ?_)
  refine kn_putR rfl h6 (znth_l (znth_l (znth_l (hr)))) (fun g7 h7 => ?_)
  refine r_ret rfl ?_
  exact K _ _ _ h7
def ynT : LT := [(100, 10)] ++ ([(100, 10)] ++ ([(100, 10)]))
def ynG (r : Nat) : LG := ((r, 3, some (r + 3)) :: ((r, 2, some (r + 2)) :: ((r, 1, some (r + 1)) :: [])))
def ynF (r : Nat) (F : LF) : LF := ((r, 0, 0) :: F)
theorem kn_notes (hd : 1 ≤ d) {r : Nat} (n' : Nat) (h : Kn σ f g n T S G F) (hr : znth T (r) = some (2, 4)) (hn : n = r + 1 ∧ n' = r + 4 ∧ n' ≤ 1000) (K : ∀ σ' f' g', Kn σ' f' g' n' (T ++ ynT) (S + 30) (ynG r ++ G) (ynF r F) → Q none σ' f' g') : ZCt d 2 [zr (some (r))] σ f g Q := by
  refine kn_notes0 (by omega) n' h hr hn (fun σ' f' g' h' => K σ' f' g' ?_)
  have eT : T ++ ynT = (((T ++ [(100, 10)]) ++ [(100, 10)]) ++ [(100, 10)]) := by simp only [ynT, List.append_assoc]
  have eG : ynG r ++ G = ((r, 3, some (r + 3)) :: ((r, 2, some (r + 2)) :: ((r, 1, some (r + 1)) :: G))) := by simp only [ynG, List.append_assoc, List.cons_append, List.nil_append]
  have eS : S + 30 = (((S + 10) + 10) + 10) := by omega
  rw [eT, eG, eS]
  exact h'

theorem kn_reader0 (hd : 1 ≤ d) {r : Nat} (n' : Nat) (h : Kn σ f g n T S G F) (hr : znth T (r) = some (4, 7)) (hn : n = r + 1 ∧ n' = r + 2 ∧ n' ≤ 1000) (K : ∀ σ' f' g', Kn σ' f' g' n' (T ++ [(101, 400)]) (S + 400) ((r, 3, some (r + 1)) :: G) ((r, 6, 0) :: ((r, 5, 0) :: ((r, 4, 0) :: ((r, 2, 0) :: ((r, 1, 0) :: ((r, 0, 0) :: F)))))) → Q none σ' f' g') : ZCt d 4 [zr (some (r))] σ f g Q := by
  refine ZCt.of' (L0 := [_]) (by omega) rfl rfl rfl (fun d hd1 => ?_)
  obtain ⟨rfl, rfl, hn⟩ := hn
  refine r_aload_n rfl rfl ?_
  refine r_obj rfl rfl ?_
  refine r_aload_n rfl rfl ?_
  refine r_iconst rfl ?_
  refine kn_putI rfl h (hr) (fun f1 h1 => ?_)
  refine r_aload_n rfl rfl ?_
  refine r_iconst rfl ?_
  refine kn_putI rfl h1 (hr) (fun f2 h2 => ?_)
  refine r_aload_n rfl rfl ?_
  refine r_iconst rfl ?_
  refine kn_putI rfl h2 (hr) (fun f3 h3 => ?_)
  refine r_aload_n rfl rfl ?_
  refine r_sipush rfl ?_
  refine kn_newa (r + 2) 400 rfl h3 ⟨rfl, by omega⟩ rfl (by omega) (fun σ4 f4 g4 h4 t4 => ?_)
  refine kn_putR rfl h4 (znth_l (hr)) (fun g5 h5 => ?_)
  refine r_aload_n rfl rfl ?_
  refine r_iconst rfl ?_
  refine kn_putI rfl h5 (znth_l (hr)) (fun f6 h6 => ?_)
  refine r_aload_n rfl rfl ?_
  refine r_iconst rfl ?_
  refine kn_putI rfl h6 (znth_l (hr)) (fun f7 h7 => ?_)
  refine r_aload_n rfl rfl ?_
  refine r_iconst rfl ?_
  refine kn_putI rfl h7 (znth_l (hr)) (fun f8 h8 => ?_)
  refine r_ret rfl ?_
  exact K _ _ _ h8
def yeT : LT := [(101, 400)]
def yeG (r : Nat) : LG := ((r, 3, some (r + 1)) :: [])
def yeF (r : Nat) (F : LF) : LF := ((r, 6, 0) :: ((r, 5, 0) :: ((r, 4, 0) :: ((r, 2, 0) :: ((r, 1, 0) :: ((r, 0, 0) :: F))))))
theorem kn_reader (hd : 1 ≤ d) {r : Nat} (n' : Nat) (h : Kn σ f g n T S G F) (hr : znth T (r) = some (4, 7)) (hn : n = r + 1 ∧ n' = r + 2 ∧ n' ≤ 1000) (K : ∀ σ' f' g', Kn σ' f' g' n' (T ++ yeT) (S + 400) (yeG r ++ G) (yeF r F) → Q none σ' f' g') : ZCt d 4 [zr (some (r))] σ f g Q := by
  refine kn_reader0 (by omega) n' h hr hn (fun σ' f' g' h' => K σ' f' g' ?_)
  have eT : T ++ yeT = (T ++ [(101, 400)]) := by simp only [yeT, List.append_assoc]
  have eG : yeG r ++ G = ((r, 3, some (r + 1)) :: G) := by simp only [yeG, List.append_assoc, List.cons_append, List.nil_append]
  have eS : S + 400 = (S + 400) := by omega
  rw [eT, eG, eS]
  exact h'

theorem kn_image0 (hd : 2 ≤ d) {r : Nat} (n' : Nat) (h : Kn σ f g n T S G F) (hr : znth T (r) = some (1, 6)) (hn : n = r + 1 ∧ n' = r + 11 ∧ n' ≤ 1000) (K : ∀ σ' f' g', Kn σ' f' g' n' ((((T ++ [(5, 9)]) ++ yrT) ++ [(2, 4)]) ++ ynT) ((((S + 9) + 29) + 4) + 30) ((r, 5, some (r + 7)) :: (ynG (r + 7) ++ ((r, 4, some (r + 1)) :: (yrG (r + 1) ++ ((r, 1, none) :: G))))) (ynF (r + 7) (yrF (r + 1) ((r, 3, 0) :: ((r, 2, -1) :: ((r, 0, 0) :: F))))) → Q none σ' f' g') : ZCt d 8 [zr (some (r))] σ f g Q := by
  refine ZCt.of' (L0 := [_]) (by omega) rfl rfl rfl (fun d hd1 => ?_)
  obtain ⟨rfl, rfl, hn⟩ := hn
  refine r_aload_n rfl rfl ?_
  refine r_obj rfl rfl ?_
  refine r_aload_n rfl rfl ?_
  refine r_iconst rfl ?_
  refine kn_putZ rfl h (hr) (by omega) (fun f1 h1 => ?_)
  refine r_aload_n rfl rfl ?_
  refine r_null rfl ?_
  refine kn_putR rfl h1 (hr) (fun g2 h2 => ?_)
  refine r_aload_n rfl rfl ?_
  refine r_iconst rfl ?_
  refine kn_putI rfl h2 (hr) (fun f3 h3 => ?_)
  refine r_aload_n rfl rfl ?_
  refine r_iconst rfl ?_
  refine kn_putI rfl h3 (hr) (fun f4 h4 => ?_)
  refine r_aload_n rfl rfl ?_
  refine kn_new (r + 2) rfl h4 ⟨rfl, by omega⟩ (fun σ5 f5 g5 h5 t5 => ?_)
  refine r_dupr rfl ?_
  refine r_callI0 rfl rfl (by rw [h5.sz]; omega) rfl (kn_round (by omega) (r + 7) h5 (t5) (by omega) (fun σ6 f6 g6 h6 => ?_))
  refine kn_putR rfl h6 (znth_l (znth_l (hr))) (fun g7 h7 => ?_)
  refine r_aload_n rfl rfl ?_
  refine kn_new (r + 8) rfl h7 ⟨rfl, by omega⟩ (fun σ8 f8 g8 h8 t8 => ?_)
  refine r_dupr rfl ?_
  refine r_callI0 rfl rfl (by rw [h8.sz]; omega) rfl (kn_notes (by omega) (r + 11) h8 (t8) (by omega) (fun σ9 f9 g9 h9 => ?_))
  refine kn_putR rfl h9 (znth_l (znth_l (znth_l (znth_l (hr))))) (fun g10 h10 => ?_)
  refine r_ret rfl ?_
  exact K _ _ _ h10
def yiT : LT := [(5, 9)] ++ (yrT ++ ([(2, 4)] ++ (ynT)))
def yiG (r : Nat) : LG := ((r, 5, some (r + 7)) :: (ynG (r + 7) ++ ((r, 4, some (r + 1)) :: (yrG (r + 1) ++ ((r, 1, none) :: [])))))
def yiF (r : Nat) (F : LF) : LF := (ynF (r + 7) (yrF (r + 1) ((r, 3, 0) :: ((r, 2, -1) :: ((r, 0, 0) :: F)))))
theorem kn_image (hd : 2 ≤ d) {r : Nat} (n' : Nat) (h : Kn σ f g n T S G F) (hr : znth T (r) = some (1, 6)) (hn : n = r + 1 ∧ n' = r + 11 ∧ n' ≤ 1000) (K : ∀ σ' f' g', Kn σ' f' g' n' (T ++ yiT) (S + 72) (yiG r ++ G) (yiF r F) → Q none σ' f' g') : ZCt d 8 [zr (some (r))] σ f g Q := by
  refine kn_image0 (by omega) n' h hr hn (fun σ' f' g' h' => K σ' f' g' ?_)
  have eT : T ++ yiT = ((((T ++ [(5, 9)]) ++ yrT) ++ [(2, 4)]) ++ ynT) := by simp only [yiT, List.append_assoc]
  have eG : yiG r ++ G = ((r, 5, some (r + 7)) :: (ynG (r + 7) ++ ((r, 4, some (r + 1)) :: (yrG (r + 1) ++ ((r, 1, none) :: G))))) := by simp only [yiG, List.append_assoc, List.cons_append, List.nil_append]
  have eS : S + 72 = ((((S + 9) + 29) + 4) + 30) := by omega
  rw [eT, eG, eS]
  exact h'

theorem kn_shower0 (hd : 2 ≤ d) (n' : Nat) (h : Kn σ f g n T S G F) (hr : znth T (15) = some (9, 1)) (hn : n = 16 ∧ n' = 18 ∧ n' ≤ 1000) (K : ∀ σ' f' g', Kn σ' f' g' n' ((T ++ [(4, 7)]) ++ yeT) ((S + 7) + 400) ((15, 0, some (16)) :: (yeG (16) ++ G)) (yeF (16) F) → Q none σ' f' g') : ZCt d 3 [zr (some (15))] σ f g Q := by
  refine ZCt.of' (L0 := [_]) (by omega) rfl rfl rfl (fun d hd1 => ?_)
  obtain ⟨rfl, rfl, hn⟩ := hn
  refine r_aload_n rfl rfl ?_
  refine r_obj rfl rfl ?_
  refine r_aload_n rfl rfl ?_
  refine kn_new (17) rfl h ⟨rfl, by omega⟩ (fun σ1 f1 g1 h1 t1 => ?_)
  refine r_dupr rfl ?_
  refine r_callI0 rfl rfl (by rw [h1.sz]; omega) rfl (kn_reader (by omega) (18) h1 (t1) (by omega) (fun σ2 f2 g2 h2 => ?_))
  refine kn_putR rfl h2 (znth_l (znth_l (hr))) (fun g3 h3 => ?_)
  refine r_ret rfl ?_
  exact K _ _ _ h3
def ysT : LT := [(4, 7)] ++ (yeT)
def ysG : LG := ((15, 0, some (16)) :: (yeG (16) ++ []))
def ysF (F : LF) : LF := (yeF (16) F)
theorem kn_shower (hd : 2 ≤ d) (n' : Nat) (h : Kn σ f g n T S G F) (hr : znth T (15) = some (9, 1)) (hn : n = 16 ∧ n' = 18 ∧ n' ≤ 1000) (K : ∀ σ' f' g', Kn σ' f' g' n' (T ++ ysT) (S + 407) (ysG ++ G) (ysF F) → Q none σ' f' g') : ZCt d 3 [zr (some (15))] σ f g Q := by
  refine kn_shower0 (by omega) n' h hr hn (fun σ' f' g' h' => K σ' f' g' ?_)
  have eT : T ++ ysT = ((T ++ [(4, 7)]) ++ yeT) := by simp only [ysT, List.append_assoc]
  have eG : ysG ++ G = ((15, 0, some (16)) :: (yeG (16) ++ G)) := by simp only [ysG, List.append_assoc, List.cons_append, List.nil_append]
  have eS : S + 407 = ((S + 7) + 400) := by omega
  rw [eT, eG, eS]
  exact h'

theorem kn_ruler0 (hd : 2 ≤ d) (n' : Nat) (h : Kn σ f g n T S G F) (hr : znth T (18) = some (8, 4)) (hn : n = 19 ∧ n' = 22 ∧ n' ≤ 1000) (K : ∀ σ' f' g', Kn σ' f' g' n' (((T ++ [(4, 7)]) ++ yeT) ++ [(100, 400)]) (((S + 7) + 400) + 400) ((18, 1, some (21)) :: ((18, 0, some (19)) :: (yeG (19) ++ G))) ((18, 3, 0) :: ((18, 2, 0) :: (yeF (19) F))) → Q none σ' f' g') : ZCt d 5 [zr (some (18))] σ f g Q := by
  refine ZCt.of' (L0 := [_]) (by omega) rfl rfl rfl (fun d hd1 => ?_)
  obtain ⟨rfl, rfl, hn⟩ := hn
  refine r_aload_n rfl rfl ?_
  refine r_obj rfl rfl ?_
  refine r_aload_n rfl rfl ?_
  refine kn_new (20) rfl h ⟨rfl, by omega⟩ (fun σ1 f1 g1 h1 t1 => ?_)
  refine r_dupr rfl ?_
  refine r_callI0 rfl rfl (by rw [h1.sz]; omega) rfl (kn_reader (by omega) (21) h1 (t1) (by omega) (fun σ2 f2 g2 h2 => ?_))
  refine kn_putR rfl h2 (znth_l (znth_l (hr))) (fun g3 h3 => ?_)
  refine r_aload_n rfl rfl ?_
  refine r_sipush rfl ?_
  refine kn_newa (22) 400 rfl h3 ⟨rfl, by omega⟩ rfl (by omega) (fun σ4 f4 g4 h4 t4 => ?_)
  refine kn_putR rfl h4 (znth_l (znth_l (znth_l (hr)))) (fun g5 h5 => ?_)
  refine r_aload_n rfl rfl ?_
  refine r_iconst rfl ?_
  refine kn_putI rfl h5 (znth_l (znth_l (znth_l (hr)))) (fun f6 h6 => ?_)
  refine r_aload_n rfl rfl ?_
  refine r_iconst rfl ?_
  refine kn_putI rfl h6 (znth_l (znth_l (znth_l (hr)))) (fun f7 h7 => ?_)
  refine r_ret rfl ?_
  exact K _ _ _ h7
def yuT : LT := [(4, 7)] ++ (yeT ++ ([(100, 400)]))
def yuG : LG := ((18, 1, some (21)) :: ((18, 0, some (19)) :: (yeG (19) ++ [])))
def yuF (F : LF) : LF := ((18, 3, 0) :: ((18, 2, 0) :: (yeF (19) F)))
theorem kn_ruler (hd : 2 ≤ d) (n' : Nat) (h : Kn σ f g n T S G F) (hr : znth T (18) = some (8, 4)) (hn : n = 19 ∧ n' = 22 ∧ n' ≤ 1000) (K : ∀ σ' f' g', Kn σ' f' g' n' (T ++ yuT) (S + 807) (yuG ++ G) (yuF F) → Q none σ' f' g') : ZCt d 5 [zr (some (18))] σ f g Q := by
  refine kn_ruler0 (by omega) n' h hr hn (fun σ' f' g' h' => K σ' f' g' ?_)
  have eT : T ++ yuT = (((T ++ [(4, 7)]) ++ yeT) ++ [(100, 400)]) := by simp only [yuT, List.append_assoc]
  have eG : yuG ++ G = ((18, 1, some (21)) :: ((18, 0, some (19)) :: (yeG (19) ++ G))) := by simp only [yuG, List.append_assoc, List.cons_append, List.nil_append]
  have eS : S + 807 = (((S + 7) + 400) + 400) := by omega
  rw [eT, eG, eS]
  exact h'

theorem kn_engine0 (hd : 1 ≤ d) (n' : Nat) (h : Kn σ f g n T S G F) (hr : znth T (22) = some (0, 7)) (hn : n = 23 ∧ n' = 25 ∧ n' ≤ 1000) (K : ∀ σ' f' g', Kn σ' f' g' n' ((T ++ [(103, 10)]) ++ [(103, 60)]) ((S + 10) + 60) ((22, 6, some (24)) :: ((22, 5, some (23)) :: ((22, 1, none) :: ((22, 0, none) :: G)))) ((22, 4, 0) :: ((22, 3, -1) :: ((22, 2, -1) :: F))) → Q none σ' f' g') : ZCt d 6 [zr (some (22))] σ f g Q := by
  refine ZCt.of' (L0 := [_]) (by omega) rfl rfl rfl (fun d hd1 => ?_)
  obtain ⟨rfl, rfl, hn⟩ := hn
  refine r_aload_n rfl rfl ?_
  refine r_obj rfl rfl ?_
  refine r_aload_n rfl rfl ?_
  refine r_null rfl ?_
  refine kn_putR rfl h (hr) (fun g1 h1 => ?_)
  refine r_aload_n rfl rfl ?_
  refine r_null rfl ?_
  refine kn_putR rfl h1 (hr) (fun g2 h2 => ?_)
  refine r_aload_n rfl rfl ?_
  refine r_iconst rfl ?_
  refine kn_putI rfl h2 (hr) (fun f3 h3 => ?_)
  refine r_aload_n rfl rfl ?_
  refine r_iconst rfl ?_
  refine kn_putI rfl h3 (hr) (fun f4 h4 => ?_)
  refine r_aload_n rfl rfl ?_
  refine r_iconst rfl ?_
  refine kn_putZ rfl h4 (hr) (by omega) (fun f5 h5 => ?_)
  refine r_aload_n rfl rfl ?_
  refine r_bipush rfl ?_
  refine kn_newa (24) 10 rfl h5 ⟨rfl, by omega⟩ rfl (by omega) (fun σ6 f6 g6 h6 t6 => ?_)
  refine kn_putR rfl h6 (znth_l (hr)) (fun g7 h7 => ?_)
  refine r_aload_n rfl rfl ?_
  refine r_bipush rfl ?_
  refine kn_newa (25) 60 rfl h7 ⟨rfl, by omega⟩ rfl (by omega) (fun σ8 f8 g8 h8 t8 => ?_)
  refine kn_putR rfl h8 (znth_l (znth_l (hr))) (fun g9 h9 => ?_)
  refine r_ret rfl ?_
  exact K _ _ _ h9
def ygT : LT := [(103, 10)] ++ ([(103, 60)])
def ygG : LG := ((22, 6, some (24)) :: ((22, 5, some (23)) :: ((22, 1, none) :: ((22, 0, none) :: []))))
def ygF (F : LF) : LF := ((22, 4, 0) :: ((22, 3, -1) :: ((22, 2, -1) :: F)))
theorem kn_engine (hd : 1 ≤ d) (n' : Nat) (h : Kn σ f g n T S G F) (hr : znth T (22) = some (0, 7)) (hn : n = 23 ∧ n' = 25 ∧ n' ≤ 1000) (K : ∀ σ' f' g', Kn σ' f' g' n' (T ++ ygT) (S + 70) (ygG ++ G) (ygF F) → Q none σ' f' g') : ZCt d 6 [zr (some (22))] σ f g Q := by
  refine kn_engine0 (by omega) n' h hr hn (fun σ' f' g' h' => K σ' f' g' ?_)
  have eT : T ++ ygT = ((T ++ [(103, 10)]) ++ [(103, 60)]) := by simp only [ygT, List.append_assoc]
  have eG : ygG ++ G = ((22, 6, some (24)) :: ((22, 5, some (23)) :: ((22, 1, none) :: ((22, 0, none) :: G)))) := by simp only [ygG, List.append_assoc, List.cons_append, List.nil_append]
  have eS : S + 70 = ((S + 10) + 60) := by omega
  rw [eT, eG, eS]
  exact h'

theorem kn_search0 (hd : 2 ≤ d) (n' : Nat) (h : Kn σ f g n T S G F) (hr : znth T (25) = some (6, 4)) (hn : n = 26 ∧ n' = 47 ∧ n' ≤ 1000) (K : ∀ σ' f' g', Kn σ' f' g' n' (((((((((T ++ [(100, 3)]) ++ [(100, 3)]) ++ [(115, 3)]) ++ [(5, 9)]) ++ yrT) ++ [(5, 9)]) ++ yrT) ++ [(5, 9)]) ++ yrT) (((((((((S + 3) + 3) + 3) + 9) + 29) + 9) + 29) + 9) + 29) ((28, (2 : Int).toNat, some (41)) :: (yrG (41) ++ ((28, (1 : Int).toNat, some (35)) :: (yrG (35) ++ ((28, (0 : Int).toNat, some (29)) :: (yrG (29) ++ ((25, 3, some (28)) :: ((25, 2, some (27)) :: ((25, 1, some (26)) :: G))))))))) (yrF (41) (yrF (35) (yrF (29) ((25, 0, 0) :: F)))) → Q none σ' f' g') : ZCt d 7 [zr (some (25))] σ f g Q := by
  refine ZCt.of' (L0 := [_, _]) (by omega) rfl rfl rfl (fun d hd1 => ?_)
  obtain ⟨rfl, rfl, hn⟩ := hn
  refine r_aload_n rfl rfl ?_
  refine r_obj rfl rfl ?_
  refine r_aload_n rfl rfl ?_
  refine r_iconst rfl ?_
  refine kn_putI rfl h (hr) (fun f1 h1 => ?_)
  refine r_aload_n rfl rfl ?_
  refine r_iconst rfl ?_
  refine kn_newa (27) 3 rfl h1 ⟨rfl, by omega⟩ rfl (by omega) (fun σ2 f2 g2 h2 t2 => ?_)
  refine kn_putR rfl h2 (znth_l (hr)) (fun g3 h3 => ?_)
  refine r_aload_n rfl rfl ?_
  refine r_iconst rfl ?_
  refine kn_newa (28) 3 rfl h3 ⟨rfl, by omega⟩ rfl (by omega) (fun σ4 f4 g4 h4 t4 => ?_)
  refine kn_putR rfl h4 (znth_l (znth_l (hr))) (fun g5 h5 => ?_)
  refine r_aload_n rfl rfl ?_
  refine r_iconst rfl ?_
  refine kn_anew (29) 3 rfl h5 ⟨rfl, by omega⟩ rfl (by omega) (fun σ6 f6 g6 h6 t6 => ?_)
  refine kn_putR rfl h6 (znth_l (znth_l (znth_l (hr)))) (fun g7 h7 => ?_)
  refine r_iconst rfl ?_
  refine r_istore_n (L' := [_, _]) rfl rfl rfl ?_
  refine r_iload_n rfl rfl ?_
  refine r_iconst rfl ?_
  refine r_icmp_n rfl (by decide) ?_
  refine r_aload_n rfl rfl ?_
  refine kn_getR rfl h7 (znth_l (znth_l (znth_l (hr)))) rfl ?_
  refine r_iload_n rfl rfl ?_
  refine kn_new (30) rfl h7 ⟨rfl, by omega⟩ (fun σ8 f8 g8 h8 t8 => ?_)
  refine r_dupr rfl ?_
  refine r_callI0 rfl rfl (by rw [h8.sz]; omega) rfl (kn_round (by omega) (35) h8 (t8) (by omega) (fun σ9 f9 g9 h9 => ?_))
  refine kn_aast rfl h9 (znth_l (znth_l (t6))) (by omega) (by omega) rfl (znth_l (t8)) rfl (fun g10 h10 => ?_)
  refine r_iinc (L' := [_, _]) rfl rfl rfl ?_
  show ZWp _ _ _ [zr (some 25), zi 1] _ _ _ _ _
  refine r_goto rfl ?_
  refine r_iload_n rfl rfl ?_
  refine r_iconst rfl ?_
  refine r_icmp_n rfl (by decide) ?_
  refine r_aload_n rfl rfl ?_
  refine kn_getR rfl h10 (znth_l (znth_l (znth_l (znth_l (znth_l (hr)))))) rfl ?_
  refine r_iload_n rfl rfl ?_
  refine kn_new (36) rfl h10 ⟨rfl, by omega⟩ (fun σ11 f11 g11 h11 t11 => ?_)
  refine r_dupr rfl ?_
  refine r_callI0 rfl rfl (by rw [h11.sz]; omega) rfl (kn_round (by omega) (41) h11 (t11) (by omega) (fun σ12 f12 g12 h12 => ?_))
  refine kn_aast rfl h12 (znth_l (znth_l (znth_l (znth_l (t6))))) (by omega) (by omega) rfl (znth_l (t11)) rfl (fun g13 h13 => ?_)
  refine r_iinc (L' := [_, _]) rfl rfl rfl ?_
  show ZWp _ _ _ [zr (some 25), zi 2] _ _ _ _ _
  refine r_goto rfl ?_
  refine r_iload_n rfl rfl ?_
  refine r_iconst rfl ?_
  refine r_icmp_n rfl (by decide) ?_
  refine r_aload_n rfl rfl ?_
  refine kn_getR rfl h13 (znth_l (znth_l (znth_l (znth_l (znth_l (znth_l (znth_l (hr)))))))) rfl ?_
  refine r_iload_n rfl rfl ?_
  refine kn_new (42) rfl h13 ⟨rfl, by omega⟩ (fun σ14 f14 g14 h14 t14 => ?_)
  refine r_dupr rfl ?_
  refine r_callI0 rfl rfl (by rw [h14.sz]; omega) rfl (kn_round (by omega) (47) h14 (t14) (by omega) (fun σ15 f15 g15 h15 => ?_))
  refine kn_aast rfl h15 (znth_l (znth_l (znth_l (znth_l (znth_l (znth_l (t6))))))) (by omega) (by omega) rfl (znth_l (t14)) rfl (fun g16 h16 => ?_)
  refine r_iinc (L' := [_, _]) rfl rfl rfl ?_
  show ZWp _ _ _ [zr (some 25), zi 3] _ _ _ _ _
  refine r_goto rfl ?_
  refine r_iload_n rfl rfl ?_
  refine r_iconst rfl ?_
  refine r_icmp_y rfl (by decide) ?_
  refine r_ret rfl ?_
  exact K _ _ _ h16
def ywT : LT := [(100, 3)] ++ ([(100, 3)] ++ ([(115, 3)] ++ ([(5, 9)] ++ (yrT ++ ([(5, 9)] ++ (yrT ++ ([(5, 9)] ++ (yrT))))))))
def ywG : LG := ((28, (2 : Int).toNat, some (41)) :: (yrG (41) ++ ((28, (1 : Int).toNat, some (35)) :: (yrG (35) ++ ((28, (0 : Int).toNat, some (29)) :: (yrG (29) ++ ((25, 3, some (28)) :: ((25, 2, some (27)) :: ((25, 1, some (26)) :: [])))))))))
def ywF (F : LF) : LF := (yrF (41) (yrF (35) (yrF (29) ((25, 0, 0) :: F))))
theorem kn_search (hd : 2 ≤ d) (n' : Nat) (h : Kn σ f g n T S G F) (hr : znth T (25) = some (6, 4)) (hn : n = 26 ∧ n' = 47 ∧ n' ≤ 1000) (K : ∀ σ' f' g', Kn σ' f' g' n' (T ++ ywT) (S + 123) (ywG ++ G) (ywF F) → Q none σ' f' g') : ZCt d 7 [zr (some (25))] σ f g Q := by
  refine kn_search0 (by omega) n' h hr hn (fun σ' f' g' h' => K σ' f' g' ?_)
  have eT : T ++ ywT = (((((((((T ++ [(100, 3)]) ++ [(100, 3)]) ++ [(115, 3)]) ++ [(5, 9)]) ++ yrT) ++ [(5, 9)]) ++ yrT) ++ [(5, 9)]) ++ yrT) := by simp only [ywT, List.append_assoc]
  have eG : ywG ++ G = ((28, (2 : Int).toNat, some (41)) :: (yrG (41) ++ ((28, (1 : Int).toNat, some (35)) :: (yrG (35) ++ ((28, (0 : Int).toNat, some (29)) :: (yrG (29) ++ ((25, 3, some (28)) :: ((25, 2, some (27)) :: ((25, 1, some (26)) :: G))))))))) := by simp only [ywG, List.append_assoc, List.cons_append, List.nil_append]
  have eS : S + 123 = (((((((((S + 3) + 3) + 3) + 9) + 29) + 9) + 29) + 9) + 29) := by omega
  rw [eT, eG, eS]
  exact h'

theorem kn_model0 (hd : 1 ≤ d) (n' : Nat) (h : Kn σ f g n T S G F) (hr : znth T (219) = some (11, 40)) (hn : n = 220 ∧ n' = 240 ∧ n' ≤ 1000) (K : ∀ σ' f' g', Kn σ' f' g' n' ((((((((((((((((((((T ++ [(101, 400)]) ++ [(100, 2400)]) ++ [(100, 7)]) ++ [(100, 288)]) ++ [(100, 6)]) ++ [(100, 115)]) ++ [(100, 400)]) ++ [(103, 64)]) ++ [(103, 10)]) ++ [(100, 146)]) ++ [(100, 1140)]) ++ [(100, 57)]) ++ [(100, 50)]) ++ [(100, 366)]) ++ [(102, 7)]) ++ [(100, 42)]) ++ [(100, 584)]) ++ [(100, 4)]) ++ [(100, 4)]) ++ [(102, 4)]) ((((((((((((((((((((S + 400) + 2400) + 7) + 288) + 6) + 115) + 400) + 64) + 10) + 146) + 1140) + 57) + 50) + 366) + 7) + 42) + 584) + 4) + 4) + 4) ((219, 39, some (239)) :: ((219, 38, some (238)) :: ((219, 37, some (237)) :: ((219, 36, some (236)) :: ((219, 34, some (235)) :: ((219, 33, some (234)) :: ((219, 32, some (233)) :: ((219, 31, some (232)) :: ((219, 28, some (231)) :: ((219, 26, some (230)) :: ((219, 20, some (229)) :: ((219, 19, some (228)) :: ((219, 17, some (227)) :: ((219, 15, some (226)) :: ((219, 7, some (225)) :: ((219, 6, some (224)) :: ((219, 5, some (223)) :: ((219, 4, some (222)) :: ((219, 3, some (221)) :: ((219, 0, some (220)) :: G)))))))))))))))))))) ((219, 24, -1) :: ((219, 23, -1) :: ((219, 21, -1) :: F))) → Q none σ' f' g') : ZCt d 132 [zr (some (219))] σ f g Q := by
  refine ZCt.of' (L0 := [_]) (by omega) rfl rfl rfl (fun d hd1 => ?_)
  obtain ⟨rfl, rfl, hn⟩ := hn
  refine r_aload_n rfl rfl ?_
  refine r_obj rfl rfl ?_
  refine r_aload_n rfl rfl ?_
  refine r_sipush rfl ?_
  refine kn_newa (221) 400 rfl h ⟨rfl, by omega⟩ rfl (by omega) (fun σ1 f1 g1 h1 t1 => ?_)
  refine kn_putR rfl h1 (znth_l (hr)) (fun g2 h2 => ?_)
  refine r_aload_n rfl rfl ?_
  refine r_sipush rfl ?_
  refine kn_newa (222) 2400 rfl h2 ⟨rfl, by omega⟩ rfl (by omega) (fun σ3 f3 g3 h3 t3 => ?_)
  refine kn_putR rfl h3 (znth_l (znth_l (hr))) (fun g4 h4 => ?_)
  refine r_aload_n rfl rfl ?_
  refine r_bipush rfl ?_
  refine kn_newa (223) 7 rfl h4 ⟨rfl, by omega⟩ rfl (by omega) (fun σ5 f5 g5 h5 t5 => ?_)
  refine kn_putR rfl h5 (znth_l (znth_l (znth_l (hr)))) (fun g6 h6 => ?_)
  refine r_aload_n rfl rfl ?_
  refine r_sipush rfl ?_
  refine kn_newa (224) 288 rfl h6 ⟨rfl, by omega⟩ rfl (by omega) (fun σ7 f7 g7 h7 t7 => ?_)
  refine kn_putR rfl h7 (znth_l (znth_l (znth_l (znth_l (hr))))) (fun g8 h8 => ?_)
  refine r_aload_n rfl rfl ?_
  refine r_bipush rfl ?_
  refine kn_newa (225) 6 rfl h8 ⟨rfl, by omega⟩ rfl (by omega) (fun σ9 f9 g9 h9 t9 => ?_)
  refine kn_putR rfl h9 (znth_l (znth_l (znth_l (znth_l (znth_l (hr)))))) (fun g10 h10 => ?_)
  refine r_aload_n rfl rfl ?_
  refine r_bipush rfl ?_
  refine kn_newa (226) 115 rfl h10 ⟨rfl, by omega⟩ rfl (by omega) (fun σ11 f11 g11 h11 t11 => ?_)
  refine kn_putR rfl h11 (znth_l (znth_l (znth_l (znth_l (znth_l (znth_l (hr))))))) (fun g12 h12 => ?_)
  refine r_aload_n rfl rfl ?_
  refine r_sipush rfl ?_
  refine kn_newa (227) 400 rfl h12 ⟨rfl, by omega⟩ rfl (by omega) (fun σ13 f13 g13 h13 t13 => ?_)
  refine kn_putR rfl h13 (znth_l (znth_l (znth_l (znth_l (znth_l (znth_l (znth_l (hr)))))))) (fun g14 h14 => ?_)
  refine r_aload_n rfl rfl ?_
  refine r_bipush rfl ?_
  refine kn_newa (228) 64 rfl h14 ⟨rfl, by omega⟩ rfl (by omega) (fun σ15 f15 g15 h15 t15 => ?_)
  refine kn_putR rfl h15 (znth_l (znth_l (znth_l (znth_l (znth_l (znth_l (znth_l (znth_l (hr))))))))) (fun g16 h16 => ?_)
  refine r_aload_n rfl rfl ?_
  refine r_bipush rfl ?_
  refine kn_newa (229) 10 rfl h16 ⟨rfl, by omega⟩ rfl (by omega) (fun σ17 f17 g17 h17 t17 => ?_)
  refine kn_putR rfl h17 (znth_l (znth_l (znth_l (znth_l (znth_l (znth_l (znth_l (znth_l (znth_l (hr)))))))))) (fun g18 h18 => ?_)
  refine r_aload_n rfl rfl ?_
  refine r_sipush rfl ?_
  refine kn_newa (230) 146 rfl h18 ⟨rfl, by omega⟩ rfl (by omega) (fun σ19 f19 g19 h19 t19 => ?_)
  refine kn_putR rfl h19 (znth_l (znth_l (znth_l (znth_l (znth_l (znth_l (znth_l (znth_l (znth_l (znth_l (hr))))))))))) (fun g20 h20 => ?_)
  refine r_aload_n rfl rfl ?_
  refine r_iconst rfl ?_
  refine kn_putI rfl h20 (znth_l (znth_l (znth_l (znth_l (znth_l (znth_l (znth_l (znth_l (znth_l (znth_l (hr))))))))))) (fun f21 h21 => ?_)
  refine r_aload_n rfl rfl ?_
  refine r_iconst rfl ?_
  refine kn_putI rfl h21 (znth_l (znth_l (znth_l (znth_l (znth_l (znth_l (znth_l (znth_l (znth_l (znth_l (hr))))))))))) (fun f22 h22 => ?_)
  refine r_aload_n rfl rfl ?_
  refine r_iconst rfl ?_
  refine kn_putI rfl h22 (znth_l (znth_l (znth_l (znth_l (znth_l (znth_l (znth_l (znth_l (znth_l (znth_l (hr))))))))))) (fun f23 h23 => ?_)
  refine r_aload_n rfl rfl ?_
  refine r_sipush rfl ?_
  refine kn_newa (231) 1140 rfl h23 ⟨rfl, by omega⟩ rfl (by omega) (fun σ24 f24 g24 h24 t24 => ?_)
  refine kn_putR rfl h24 (znth_l (znth_l (znth_l (znth_l (znth_l (znth_l (znth_l (znth_l (znth_l (znth_l (znth_l (hr)))))))))))) (fun g25 h25 => ?_)
  refine r_aload_n rfl rfl ?_
  refine r_bipush rfl ?_
  refine kn_newa (232) 57 rfl h25 ⟨rfl, by omega⟩ rfl (by omega) (fun σ26 f26 g26 h26 t26 => ?_)
  refine kn_putR rfl h26 (znth_l (znth_l (znth_l (znth_l (znth_l (znth_l (znth_l (znth_l (znth_l (znth_l (znth_l (znth_l (hr))))))))))))) (fun g27 h27 => ?_)
  refine r_aload_n rfl rfl ?_
  refine r_bipush rfl ?_
  refine kn_newa (233) 50 rfl h27 ⟨rfl, by omega⟩ rfl (by omega) (fun σ28 f28 g28 h28 t28 => ?_)
  refine kn_putR rfl h28 (znth_l (znth_l (znth_l (znth_l (znth_l (znth_l (znth_l (znth_l (znth_l (znth_l (znth_l (znth_l (znth_l (hr)))))))))))))) (fun g29 h29 => ?_)
  refine r_aload_n rfl rfl ?_
  refine r_sipush rfl ?_
  refine kn_newa (234) 366 rfl h29 ⟨rfl, by omega⟩ rfl (by omega) (fun σ30 f30 g30 h30 t30 => ?_)
  refine kn_putR rfl h30 (znth_l (znth_l (znth_l (znth_l (znth_l (znth_l (znth_l (znth_l (znth_l (znth_l (znth_l (znth_l (znth_l (znth_l (hr))))))))))))))) (fun g31 h31 => ?_)
  refine r_aload_n rfl rfl ?_
  refine r_bipush rfl ?_
  refine kn_newa (235) 7 rfl h31 ⟨rfl, by omega⟩ rfl (by omega) (fun σ32 f32 g32 h32 t32 => ?_)
  refine kn_putR rfl h32 (znth_l (znth_l (znth_l (znth_l (znth_l (znth_l (znth_l (znth_l (znth_l (znth_l (znth_l (znth_l (znth_l (znth_l (znth_l (hr)))))))))))))))) (fun g33 h33 => ?_)
  refine r_aload_n rfl rfl ?_
  refine r_bipush rfl ?_
  refine kn_newa (236) 42 rfl h33 ⟨rfl, by omega⟩ rfl (by omega) (fun σ34 f34 g34 h34 t34 => ?_)
  refine kn_putR rfl h34 (znth_l (znth_l (znth_l (znth_l (znth_l (znth_l (znth_l (znth_l (znth_l (znth_l (znth_l (znth_l (znth_l (znth_l (znth_l (znth_l (hr))))))))))))))))) (fun g35 h35 => ?_)
  refine r_aload_n rfl rfl ?_
  refine r_sipush rfl ?_
  refine kn_newa (237) 584 rfl h35 ⟨rfl, by omega⟩ rfl (by omega) (fun σ36 f36 g36 h36 t36 => ?_)
  refine kn_putR rfl h36 (znth_l (znth_l (znth_l (znth_l (znth_l (znth_l (znth_l (znth_l (znth_l (znth_l (znth_l (znth_l (znth_l (znth_l (znth_l (znth_l (znth_l (hr)))))))))))))))))) (fun g37 h37 => ?_)
  refine r_aload_n rfl rfl ?_
  refine r_iconst rfl ?_
  refine kn_newa (238) 4 rfl h37 ⟨rfl, by omega⟩ rfl (by omega) (fun σ38 f38 g38 h38 t38 => ?_)
  refine kn_putR rfl h38 (znth_l (znth_l (znth_l (znth_l (znth_l (znth_l (znth_l (znth_l (znth_l (znth_l (znth_l (znth_l (znth_l (znth_l (znth_l (znth_l (znth_l (znth_l (hr))))))))))))))))))) (fun g39 h39 => ?_)
  refine r_aload_n rfl rfl ?_
  refine r_iconst rfl ?_
  refine kn_newa (239) 4 rfl h39 ⟨rfl, by omega⟩ rfl (by omega) (fun σ40 f40 g40 h40 t40 => ?_)
  refine kn_putR rfl h40 (znth_l (znth_l (znth_l (znth_l (znth_l (znth_l (znth_l (znth_l (znth_l (znth_l (znth_l (znth_l (znth_l (znth_l (znth_l (znth_l (znth_l (znth_l (znth_l (hr)))))))))))))))))))) (fun g41 h41 => ?_)
  refine r_aload_n rfl rfl ?_
  refine r_iconst rfl ?_
  refine kn_newa (240) 4 rfl h41 ⟨rfl, by omega⟩ rfl (by omega) (fun σ42 f42 g42 h42 t42 => ?_)
  refine kn_putR rfl h42 (znth_l (znth_l (znth_l (znth_l (znth_l (znth_l (znth_l (znth_l (znth_l (znth_l (znth_l (znth_l (znth_l (znth_l (znth_l (znth_l (znth_l (znth_l (znth_l (znth_l (hr))))))))))))))))))))) (fun g43 h43 => ?_)
  refine r_ret rfl ?_
  exact K _ _ _ h43
def ymT : LT := [(101, 400)] ++ ([(100, 2400)] ++ ([(100, 7)] ++ ([(100, 288)] ++ ([(100, 6)] ++ ([(100, 115)] ++ ([(100, 400)] ++ ([(103, 64)] ++ ([(103, 10)] ++ ([(100, 146)] ++ ([(100, 1140)] ++ ([(100, 57)] ++ ([(100, 50)] ++ ([(100, 366)] ++ ([(102, 7)] ++ ([(100, 42)] ++ ([(100, 584)] ++ ([(100, 4)] ++ ([(100, 4)] ++ ([(102, 4)])))))))))))))))))))
def ymG : LG := ((219, 39, some (239)) :: ((219, 38, some (238)) :: ((219, 37, some (237)) :: ((219, 36, some (236)) :: ((219, 34, some (235)) :: ((219, 33, some (234)) :: ((219, 32, some (233)) :: ((219, 31, some (232)) :: ((219, 28, some (231)) :: ((219, 26, some (230)) :: ((219, 20, some (229)) :: ((219, 19, some (228)) :: ((219, 17, some (227)) :: ((219, 15, some (226)) :: ((219, 7, some (225)) :: ((219, 6, some (224)) :: ((219, 5, some (223)) :: ((219, 4, some (222)) :: ((219, 3, some (221)) :: ((219, 0, some (220)) :: []))))))))))))))))))))
def ymF (F : LF) : LF := ((219, 24, -1) :: ((219, 23, -1) :: ((219, 21, -1) :: F)))
theorem kn_model (hd : 1 ≤ d) (n' : Nat) (h : Kn σ f g n T S G F) (hr : znth T (219) = some (11, 40)) (hn : n = 220 ∧ n' = 240 ∧ n' ≤ 1000) (K : ∀ σ' f' g', Kn σ' f' g' n' (T ++ ymT) (S + 6094) (ymG ++ G) (ymF F) → Q none σ' f' g') : ZCt d 132 [zr (some (219))] σ f g Q := by
  refine kn_model0 (by omega) n' h hr hn (fun σ' f' g' h' => K σ' f' g' ?_)
  have eT : T ++ ymT = ((((((((((((((((((((T ++ [(101, 400)]) ++ [(100, 2400)]) ++ [(100, 7)]) ++ [(100, 288)]) ++ [(100, 6)]) ++ [(100, 115)]) ++ [(100, 400)]) ++ [(103, 64)]) ++ [(103, 10)]) ++ [(100, 146)]) ++ [(100, 1140)]) ++ [(100, 57)]) ++ [(100, 50)]) ++ [(100, 366)]) ++ [(102, 7)]) ++ [(100, 42)]) ++ [(100, 584)]) ++ [(100, 4)]) ++ [(100, 4)]) ++ [(102, 4)]) := by simp only [ymT, List.append_assoc]
  have eG : ymG ++ G = ((219, 39, some (239)) :: ((219, 38, some (238)) :: ((219, 37, some (237)) :: ((219, 36, some (236)) :: ((219, 34, some (235)) :: ((219, 33, some (234)) :: ((219, 32, some (233)) :: ((219, 31, some (232)) :: ((219, 28, some (231)) :: ((219, 26, some (230)) :: ((219, 20, some (229)) :: ((219, 19, some (228)) :: ((219, 17, some (227)) :: ((219, 15, some (226)) :: ((219, 7, some (225)) :: ((219, 6, some (224)) :: ((219, 5, some (223)) :: ((219, 4, some (222)) :: ((219, 3, some (221)) :: ((219, 0, some (220)) :: G)))))))))))))))))))) := by simp only [ymG, List.append_assoc, List.cons_append, List.nil_append]
  have eS : S + 6094 = ((((((((((((((((((((S + 400) + 2400) + 7) + 288) + 6) + 115) + 400) + 64) + 10) + 146) + 1140) + 57) + 50) + 366) + 7) + 42) + 584) + 4) + 4) + 4) := by omega
  rw [eT, eG, eS]
  exact h'
theorem l_img (hd : 3 ≤ d) {r : Nat} (n' : Nat) {k : Int} (hk : 0 ≤ k ∧ k < 4) (h : Kn σ f g r T S G F) (hr0 : znth T 0 = some (10, 20)) (hrA : znth T 13 = some (111, 4)) (hg : lk none G 0 9 = some 13) (hn : n' = r + 11 ∧ n' ≤ 1000) (K : ∀ σ' f' g', Kn σ' f' g' n' ((T ++ [(1, 6)]) ++ yiT) ((S + 6) + 72) ((13, k.toNat, some (r)) :: (yiG (r) ++ G)) (yiF (r) F) → znth ((T ++ [(1, 6)]) ++ yiT) 0 = some (10, 20) → znth ((T ++ [(1, 6)]) ++ yiT) 13 = some (111, 4) → ZWp d zt0 187 [zr (some 0), zi k] [] σ' f' g' Q) : ZWp d zt0 174 [zr (some 0), zi k] [] σ f g Q := by
  obtain ⟨rfl, hn⟩ := hn
  refine r_aload_n rfl rfl ?_
  refine kn_getR rfl h (hr0) hg ?_
  refine r_iload_n rfl rfl ?_
  refine kn_new (r + 1) rfl h ⟨rfl, by omega⟩ (fun σ1 f1 g1 h1 t1 => ?_)
  refine r_dupr rfl ?_
  refine r_callI0 rfl rfl (by rw [h1.sz]; omega) rfl (kn_image (by omega) (r + 11) h1 (t1) (by omega) (fun σ2 f2 g2 h2 => ?_))
  refine kn_aast rfl h2 (znth_l (znth_l (hrA))) (by omega) (by omega) rfl (znth_l (t1)) rfl (fun g3 h3 => ?_)
  exact K _ _ _ h3 (znth_l (znth_l hr0)) (znth_l (znth_l hrA))
theorem l_rnd (hd : 3 ≤ d) {r : Nat} (n' : Nat) {k : Int} (hk : 0 ≤ k ∧ k < 20) (h : Kn σ f g r T S G F) (hr0 : znth T 0 = some (10, 20)) (hrA : znth T 14 = some (115, 20)) (hg : lk none G 0 10 = some 14) (hn : n' = r + 6 ∧ n' ≤ 1000) (K : ∀ σ' f' g', Kn σ' f' g' n' ((T ++ [(5, 9)]) ++ yrT) ((S + 9) + 29) ((14, k.toNat, some (r)) :: (yrG (r) ++ G)) (yrF (r) F) → znth ((T ++ [(5, 9)]) ++ yrT) 0 = some (10, 20) → znth ((T ++ [(5, 9)]) ++ yrT) 14 = some (115, 20) → ZWp d zt0 214 [zr (some 0), zi k] [] σ' f' g' Q) : ZWp d zt0 201 [zr (some 0), zi k] [] σ f g Q := by
  obtain ⟨rfl, hn⟩ := hn
  refine r_aload_n rfl rfl ?_
  refine kn_getR rfl h (hr0) hg ?_
  refine r_iload_n rfl rfl ?_
  refine kn_new (r + 1) rfl h ⟨rfl, by omega⟩ (fun σ1 f1 g1 h1 t1 => ?_)
  refine r_dupr rfl ?_
  refine r_callI0 rfl rfl (by rw [h1.sz]; omega) rfl (kn_round (by omega) (r + 6) h1 (t1) (by omega) (fun σ2 f2 g2 h2 => ?_))
  refine kn_aast rfl h2 (znth_l (znth_l (hrA))) (by omega) (by omega) rfl (znth_l (t1)) rfl (fun g3 h3 => ?_)
  exact K _ _ _ h3 (znth_l (znth_l hr0)) (znth_l (znth_l hrA))
def ycT : LT := (((((((((((((((((((((((((((((((((((((((((((((((((((((((((((((((((((([(10, 20)] ++ [(101, 400)]) ++ [(117, 6)]) ++ [(5, 9)]) ++ yrT) ++ [(2, 4)]) ++ ynT) ++ [(111, 4)]) ++ [(115, 20)]) ++ [(9, 1)]) ++ ysT) ++ [(8, 4)]) ++ yuT) ++ [(0, 7)]) ++ ygT) ++ [(6, 4)]) ++ ywT) ++ [(5, 9)]) ++ yrT) ++ [(100, 126)]) ++ [(103, 61)]) ++ [(1, 6)]) ++ yiT) ++ [(1, 6)]) ++ yiT) ++ [(1, 6)]) ++ yiT) ++ [(1, 6)]) ++ yiT) ++ [(5, 9)]) ++ yrT) ++ [(5, 9)]) ++ yrT) ++ [(5, 9)]) ++ yrT) ++ [(5, 9)]) ++ yrT) ++ [(5, 9)]) ++ yrT) ++ [(5, 9)]) ++ yrT) ++ [(5, 9)]) ++ yrT) ++ [(5, 9)]) ++ yrT) ++ [(5, 9)]) ++ yrT) ++ [(5, 9)]) ++ yrT) ++ [(5, 9)]) ++ yrT) ++ [(5, 9)]) ++ yrT) ++ [(5, 9)]) ++ yrT) ++ [(5, 9)]) ++ yrT) ++ [(5, 9)]) ++ yrT) ++ [(5, 9)]) ++ yrT) ++ [(5, 9)]) ++ yrT) ++ [(5, 9)]) ++ yrT) ++ [(5, 9)]) ++ yrT) ++ [(5, 9)]) ++ yrT)
def ycS : Nat := ((((((((((((((((((((((((((((((((((((((((((((((((((((((((((((((((((((20 + 400) + 6) + 9) + 29) + 4) + 30) + 4) + 20) + 1) + 407) + 4) + 807) + 7) + 70) + 4) + 123) + 9) + 29) + 126) + 61) + 6) + 72) + 6) + 72) + 6) + 72) + 6) + 72) + 9) + 29) + 9) + 29) + 9) + 29) + 9) + 29) + 9) + 29) + 9) + 29) + 9) + 29) + 9) + 29) + 9) + 29) + 9) + 29) + 9) + 29) + 9) + 29) + 9) + 29) + 9) + 29) + 9) + 29) + 9) + 29) + 9) + 29) + 9) + 29) + 9) + 29) + 9) + 29)
def ycG : LG := ((14, (19 : Int).toNat, some (213)) :: (yrG (213) ++ ((14, (18 : Int).toNat, some (207)) :: (yrG (207) ++ ((14, (17 : Int).toNat, some (201)) :: (yrG (201) ++ ((14, (16 : Int).toNat, some (195)) :: (yrG (195) ++ ((14, (15 : Int).toNat, some (189)) :: (yrG (189) ++ ((14, (14 : Int).toNat, some (183)) :: (yrG (183) ++ ((14, (13 : Int).toNat, some (177)) :: (yrG (177) ++ ((14, (12 : Int).toNat, some (171)) :: (yrG (171) ++ ((14, (11 : Int).toNat, some (165)) :: (yrG (165) ++ ((14, (10 : Int).toNat, some (159)) :: (yrG (159) ++ ((14, (9 : Int).toNat, some (153)) :: (yrG (153) ++ ((14, (8 : Int).toNat, some (147)) :: (yrG (147) ++ ((14, (7 : Int).toNat, some (141)) :: (yrG (141) ++ ((14, (6 : Int).toNat, some (135)) :: (yrG (135) ++ ((14, (5 : Int).toNat, some (129)) :: (yrG (129) ++ ((14, (4 : Int).toNat, some (123)) :: (yrG (123) ++ ((14, (3 : Int).toNat, some (117)) :: (yrG (117) ++ ((14, (2 : Int).toNat, some (111)) :: (yrG (111) ++ ((14, (1 : Int).toNat, some (105)) :: (yrG (105) ++ ((14, (0 : Int).toNat, some (99)) :: (yrG (99) ++ ((13, (3 : Int).toNat, some (88)) :: (yiG (88) ++ ((13, (2 : Int).toNat, some (77)) :: (yiG (77) ++ ((13, (1 : Int).toNat, some (66)) :: (yiG (66) ++ ((13, (0 : Int).toNat, some (55)) :: (yiG (55) ++ ((0, 19, some (54)) :: ((0, 18, some (53)) :: ((0, 17, some (47)) :: (yrG (47) ++ ((0, 16, some (25)) :: (ywG ++ ((0, 15, some (22)) :: (ygG ++ ((0, 14, some (18)) :: (yuG ++ ((0, 13, some (15)) :: (ysG ++ ((0, 10, some (14)) :: ((0, 9, some (13)) :: ((0, 8, some (9)) :: (ynG (9) ++ ((0, 5, some (3)) :: (yrG (3) ++ ((0, 4, none) :: ((0, 2, some (2)) :: ((0, 0, some (1)) :: [])))))))))))))))))))))))))))))))))))))))))))))))))))))))))))))))))))))
def ycF : LF := (yrF (213) (yrF (207) (yrF (201) (yrF (195) (yrF (189) (yrF (183) (yrF (177) (yrF (171) (yrF (165) (yrF (159) (yrF (153) (yrF (147) (yrF (141) (yrF (135) (yrF (129) (yrF (123) (yrF (117) (yrF (111) (yrF (105) (yrF (99) (yiF (88) (yiF (77) (yiF (66) (yiF (55) (yrF (47) (ywF (ygF (yuF (ysF ((0, 12, 0) :: ((0, 11, 0) :: (ynF (9) ((0, 7, 0) :: ((0, 6, -1) :: (yrF (3) ((0, 3, 0) :: ((0, 1, 0) :: [])))))))))))))))))))))))))))))))))))))
set_option maxRecDepth 100000 in
theorem kn_class (hd : 4 ≤ d) (h : Kn σ f g 1 [(10, 20)] 20 [] []) (hr : znth ([(10, 20)] : LT) 0 = some (10, 20)) (K : ∀ σ' f' g', Kn σ' f' g' 219 ycT ycS ycG ycF → Q none σ' f' g') : ZCt d 0 [zr (some 0)] σ f g Q := by
  refine ZCt.of' (L0 := [_, _]) (by omega) rfl rfl rfl (fun d hd1 => ?_)
  refine r_aload_n rfl rfl ?_
  refine r_obj rfl rfl ?_
  refine r_aload_n rfl rfl ?_
  refine r_sipush rfl ?_
  refine kn_newa (2) 400 rfl h ⟨rfl, by omega⟩ rfl (by omega) (fun σ1 f1 g1 h1 t1 => ?_)
  refine kn_putR rfl h1 (znth_l (hr)) (fun g2 h2 => ?_)
  refine r_aload_n rfl rfl ?_
  refine r_iconst rfl ?_
  refine kn_putI rfl h2 (znth_l (hr)) (fun f3 h3 => ?_)
  refine r_aload_n rfl rfl ?_
  refine r_bipush rfl ?_
  refine kn_anew (3) 6 rfl h3 ⟨rfl, by omega⟩ rfl (by omega) (fun σ4 f4 g4 h4 t4 => ?_)
  refine kn_putR rfl h4 (znth_l (znth_l (hr))) (fun g5 h5 => ?_)
  refine r_aload_n rfl rfl ?_
  refine r_iconst rfl ?_
  refine kn_putI rfl h5 (znth_l (znth_l (hr))) (fun f6 h6 => ?_)
  refine r_aload_n rfl rfl ?_
  refine r_null rfl ?_
  refine kn_putR rfl h6 (znth_l (znth_l (hr))) (fun g7 h7 => ?_)
  refine r_aload_n rfl rfl ?_
  refine kn_new (4) rfl h7 ⟨rfl, by omega⟩ (fun σ8 f8 g8 h8 t8 => ?_)
  refine r_dupr rfl ?_
  refine r_callI0 rfl rfl (by rw [h8.sz]; omega) rfl (kn_round (by omega) (9) h8 (t8) (by omega) (fun σ9 f9 g9 h9 => ?_))
  refine kn_putR rfl h9 (znth_l (znth_l (znth_l (znth_l (hr))))) (fun g10 h10 => ?_)
  refine r_aload_n rfl rfl ?_
  refine r_iconst rfl ?_
  refine kn_putI rfl h10 (znth_l (znth_l (znth_l (znth_l (hr))))) (fun f11 h11 => ?_)
  refine r_aload_n rfl rfl ?_
  refine r_iconst rfl ?_
  refine kn_putI rfl h11 (znth_l (znth_l (znth_l (znth_l (hr))))) (fun f12 h12 => ?_)
  refine r_aload_n rfl rfl ?_
  refine kn_new (10) rfl h12 ⟨rfl, by omega⟩ (fun σ13 f13 g13 h13 t13 => ?_)
  refine r_dupr rfl ?_
  refine r_callI0 rfl rfl (by rw [h13.sz]; omega) rfl (kn_notes (by omega) (13) h13 (t13) (by omega) (fun σ14 f14 g14 h14 => ?_))
  refine kn_putR rfl h14 (znth_l (znth_l (znth_l (znth_l (znth_l (znth_l (hr))))))) (fun g15 h15 => ?_)
  refine r_aload_n rfl rfl ?_
  refine r_iconst rfl ?_
  refine kn_anew (14) 4 rfl h15 ⟨rfl, by omega⟩ rfl (by omega) (fun σ16 f16 g16 h16 t16 => ?_)
  refine kn_putR rfl h16 (znth_l (znth_l (znth_l (znth_l (znth_l (znth_l (znth_l (hr)))))))) (fun g17 h17 => ?_)
  refine r_aload_n rfl rfl ?_
  refine r_bipush rfl ?_
  refine kn_anew (15) 20 rfl h17 ⟨rfl, by omega⟩ rfl (by omega) (fun σ18 f18 g18 h18 t18 => ?_)
  refine kn_putR rfl h18 (znth_l (znth_l (znth_l (znth_l (znth_l (znth_l (znth_l (znth_l (hr))))))))) (fun g19 h19 => ?_)
  refine r_aload_n rfl rfl ?_
  refine r_iconst rfl ?_
  refine kn_putI rfl h19 (znth_l (znth_l (znth_l (znth_l (znth_l (znth_l (znth_l (znth_l (hr))))))))) (fun f20 h20 => ?_)
  refine r_aload_n rfl rfl ?_
  refine r_iconst rfl ?_
  refine kn_putI rfl h20 (znth_l (znth_l (znth_l (znth_l (znth_l (znth_l (znth_l (znth_l (hr))))))))) (fun f21 h21 => ?_)
  refine r_aload_n rfl rfl ?_
  refine kn_new (16) rfl h21 ⟨rfl, by omega⟩ (fun σ22 f22 g22 h22 t22 => ?_)
  refine r_dupr rfl ?_
  refine r_callI0 rfl rfl (by rw [h22.sz]; omega) rfl (kn_shower (by omega) (18) h22 (t22) (by omega) (fun σ23 f23 g23 h23 => ?_))
  refine kn_putR rfl h23 (znth_l (znth_l (znth_l (znth_l (znth_l (znth_l (znth_l (znth_l (znth_l (znth_l (hr))))))))))) (fun g24 h24 => ?_)
  refine r_aload_n rfl rfl ?_
  refine kn_new (19) rfl h24 ⟨rfl, by omega⟩ (fun σ25 f25 g25 h25 t25 => ?_)
  refine r_dupr rfl ?_
  refine r_callI0 rfl rfl (by rw [h25.sz]; omega) rfl (kn_ruler (by omega) (22) h25 (t25) (by omega) (fun σ26 f26 g26 h26 => ?_))
  refine kn_putR rfl h26 (znth_l (znth_l (znth_l (znth_l (znth_l (znth_l (znth_l (znth_l (znth_l (znth_l (znth_l (znth_l (hr))))))))))))) (fun g27 h27 => ?_)
  refine r_aload_n rfl rfl ?_
  refine kn_new (23) rfl h27 ⟨rfl, by omega⟩ (fun σ28 f28 g28 h28 t28 => ?_)
  refine r_dupr rfl ?_
  refine r_callI0 rfl rfl (by rw [h28.sz]; omega) rfl (kn_engine (by omega) (25) h28 (t28) (by omega) (fun σ29 f29 g29 h29 => ?_))
  refine kn_putR rfl h29 (znth_l (znth_l (znth_l (znth_l (znth_l (znth_l (znth_l (znth_l (znth_l (znth_l (znth_l (znth_l (znth_l (znth_l (hr))))))))))))))) (fun g30 h30 => ?_)
  refine r_aload_n rfl rfl ?_
  refine kn_new (26) rfl h30 ⟨rfl, by omega⟩ (fun σ31 f31 g31 h31 t31 => ?_)
  refine r_dupr rfl ?_
  refine r_callI0 rfl rfl (by rw [h31.sz]; omega) rfl (kn_search (by omega) (47) h31 (t31) (by omega) (fun σ32 f32 g32 h32 => ?_))
  refine kn_putR rfl h32 (znth_l (znth_l (znth_l (znth_l (znth_l (znth_l (znth_l (znth_l (znth_l (znth_l (znth_l (znth_l (znth_l (znth_l (znth_l (znth_l (hr))))))))))))))))) (fun g33 h33 => ?_)
  refine r_aload_n rfl rfl ?_
  refine kn_new (48) rfl h33 ⟨rfl, by omega⟩ (fun σ34 f34 g34 h34 t34 => ?_)
  refine r_dupr rfl ?_
  refine r_callI0 rfl rfl (by rw [h34.sz]; omega) rfl (kn_round (by omega) (53) h34 (t34) (by omega) (fun σ35 f35 g35 h35 => ?_))
  refine kn_putR rfl h35 (znth_l (znth_l (znth_l (znth_l (znth_l (znth_l (znth_l (znth_l (znth_l (znth_l (znth_l (znth_l (znth_l (znth_l (znth_l (znth_l (znth_l (znth_l (hr))))))))))))))))))) (fun g36 h36 => ?_)
  refine r_aload_n rfl rfl ?_
  refine r_bipush rfl ?_
  refine kn_newa (54) 126 rfl h36 ⟨rfl, by omega⟩ rfl (by omega) (fun σ37 f37 g37 h37 t37 => ?_)
  refine kn_putR rfl h37 (znth_l (znth_l (znth_l (znth_l (znth_l (znth_l (znth_l (znth_l (znth_l (znth_l (znth_l (znth_l (znth_l (znth_l (znth_l (znth_l (znth_l (znth_l (znth_l (hr)))))))))))))))))))) (fun g38 h38 => ?_)
  refine r_aload_n rfl rfl ?_
  refine r_bipush rfl ?_
  refine kn_newa (55) 61 rfl h38 ⟨rfl, by omega⟩ rfl (by omega) (fun σ39 f39 g39 h39 t39 => ?_)
  refine kn_putR rfl h39 (znth_l (znth_l (znth_l (znth_l (znth_l (znth_l (znth_l (znth_l (znth_l (znth_l (znth_l (znth_l (znth_l (znth_l (znth_l (znth_l (znth_l (znth_l (znth_l (znth_l (hr))))))))))))))))))))) (fun g40 h40 => ?_)
  refine r_iconst rfl ?_
  refine r_istore_n (L' := [_, _]) rfl rfl rfl ?_
  refine r_iload_n rfl rfl ?_
  refine r_iconst rfl ?_
  refine r_icmp_n rfl (by decide) ?_
  refine l_img (by omega) 66 (by omega) h40 (znth_l (znth_l (znth_l (znth_l (znth_l (znth_l (znth_l (znth_l (znth_l (znth_l (znth_l (znth_l (znth_l (znth_l (znth_l (znth_l (znth_l (znth_l (znth_l (znth_l (hr))))))))))))))))))))) (znth_l (znth_l (znth_l (znth_l (znth_l (znth_l (znth_l (znth_l (znth_l (znth_l (znth_l (znth_l (znth_l (t16)))))))))))))) rfl (by omega) (fun σ41 f41 g41 h41 p41 q41 => ?_)
  refine r_iinc (L' := [_, _]) rfl rfl rfl ?_
  show ZWp _ _ _ [zr (some 0), zi 1] _ _ _ _ _
  refine r_goto rfl ?_
  refine r_iload_n rfl rfl ?_
  refine r_iconst rfl ?_
  refine r_icmp_n rfl (by decide) ?_
  refine l_img (by omega) 77 (by omega) h41 (p41) (q41) rfl (by omega) (fun σ42 f42 g42 h42 p42 q42 => ?_)
  refine r_iinc (L' := [_, _]) rfl rfl rfl ?_
  show ZWp _ _ _ [zr (some 0), zi 2] _ _ _ _ _
  refine r_goto rfl ?_
  refine r_iload_n rfl rfl ?_
  refine r_iconst rfl ?_
  refine r_icmp_n rfl (by decide) ?_
  refine l_img (by omega) 88 (by omega) h42 (p42) (q42) rfl (by omega) (fun σ43 f43 g43 h43 p43 q43 => ?_)
  refine r_iinc (L' := [_, _]) rfl rfl rfl ?_
  show ZWp _ _ _ [zr (some 0), zi 3] _ _ _ _ _
  refine r_goto rfl ?_
  refine r_iload_n rfl rfl ?_
  refine r_iconst rfl ?_
  refine r_icmp_n rfl (by decide) ?_
  refine l_img (by omega) 99 (by omega) h43 (p43) (q43) rfl (by omega) (fun σ44 f44 g44 h44 p44 q44 => ?_)
  refine r_iinc (L' := [_, _]) rfl rfl rfl ?_
  show ZWp _ _ _ [zr (some 0), zi 4] _ _ _ _ _
  refine r_goto rfl ?_
  refine r_iload_n rfl rfl ?_
  refine r_iconst rfl ?_
  refine r_icmp_y rfl (by decide) ?_
  refine r_iconst rfl ?_
  refine r_istore_n (L' := [_, _]) rfl rfl rfl ?_
  refine r_iload_n rfl rfl ?_
  refine r_bipush rfl ?_
  refine r_icmp_n rfl (by decide) ?_
  refine l_rnd (by omega) 105 (by omega) h44 (p44) (znth_l (znth_l (znth_l (znth_l (znth_l (znth_l (znth_l (znth_l (znth_l (znth_l (znth_l (znth_l (znth_l (znth_l (znth_l (znth_l (znth_l (znth_l (znth_l (znth_l (t18))))))))))))))))))))) rfl (by omega) (fun σ45 f45 g45 h45 p45 q45 => ?_)
  refine r_iinc (L' := [_, _]) rfl rfl rfl ?_
  show ZWp _ _ _ [zr (some 0), zi 1] _ _ _ _ _
  refine r_goto rfl ?_
  refine r_iload_n rfl rfl ?_
  refine r_bipush rfl ?_
  refine r_icmp_n rfl (by decide) ?_
  refine l_rnd (by omega) 111 (by omega) h45 (p45) (q45) rfl (by omega) (fun σ46 f46 g46 h46 p46 q46 => ?_)
  refine r_iinc (L' := [_, _]) rfl rfl rfl ?_
  show ZWp _ _ _ [zr (some 0), zi 2] _ _ _ _ _
  refine r_goto rfl ?_
  refine r_iload_n rfl rfl ?_
  refine r_bipush rfl ?_
  refine r_icmp_n rfl (by decide) ?_
  refine l_rnd (by omega) 117 (by omega) h46 (p46) (q46) rfl (by omega) (fun σ47 f47 g47 h47 p47 q47 => ?_)
  refine r_iinc (L' := [_, _]) rfl rfl rfl ?_
  show ZWp _ _ _ [zr (some 0), zi 3] _ _ _ _ _
  refine r_goto rfl ?_
  refine r_iload_n rfl rfl ?_
  refine r_bipush rfl ?_
  refine r_icmp_n rfl (by decide) ?_
  refine l_rnd (by omega) 123 (by omega) h47 (p47) (q47) rfl (by omega) (fun σ48 f48 g48 h48 p48 q48 => ?_)
  refine r_iinc (L' := [_, _]) rfl rfl rfl ?_
  show ZWp _ _ _ [zr (some 0), zi 4] _ _ _ _ _
  refine r_goto rfl ?_
  refine r_iload_n rfl rfl ?_
  refine r_bipush rfl ?_
  refine r_icmp_n rfl (by decide) ?_
  refine l_rnd (by omega) 129 (by omega) h48 (p48) (q48) rfl (by omega) (fun σ49 f49 g49 h49 p49 q49 => ?_)
  refine r_iinc (L' := [_, _]) rfl rfl rfl ?_
  show ZWp _ _ _ [zr (some 0), zi 5] _ _ _ _ _
  refine r_goto rfl ?_
  refine r_iload_n rfl rfl ?_
  refine r_bipush rfl ?_
  refine r_icmp_n rfl (by decide) ?_
  refine l_rnd (by omega) 135 (by omega) h49 (p49) (q49) rfl (by omega) (fun σ50 f50 g50 h50 p50 q50 => ?_)
  refine r_iinc (L' := [_, _]) rfl rfl rfl ?_
  show ZWp _ _ _ [zr (some 0), zi 6] _ _ _ _ _
  refine r_goto rfl ?_
  refine r_iload_n rfl rfl ?_
  refine r_bipush rfl ?_
  refine r_icmp_n rfl (by decide) ?_
  refine l_rnd (by omega) 141 (by omega) h50 (p50) (q50) rfl (by omega) (fun σ51 f51 g51 h51 p51 q51 => ?_)
  refine r_iinc (L' := [_, _]) rfl rfl rfl ?_
  show ZWp _ _ _ [zr (some 0), zi 7] _ _ _ _ _
  refine r_goto rfl ?_
  refine r_iload_n rfl rfl ?_
  refine r_bipush rfl ?_
  refine r_icmp_n rfl (by decide) ?_
  refine l_rnd (by omega) 147 (by omega) h51 (p51) (q51) rfl (by omega) (fun σ52 f52 g52 h52 p52 q52 => ?_)
  refine r_iinc (L' := [_, _]) rfl rfl rfl ?_
  show ZWp _ _ _ [zr (some 0), zi 8] _ _ _ _ _
  refine r_goto rfl ?_
  refine r_iload_n rfl rfl ?_
  refine r_bipush rfl ?_
  refine r_icmp_n rfl (by decide) ?_
  refine l_rnd (by omega) 153 (by omega) h52 (p52) (q52) rfl (by omega) (fun σ53 f53 g53 h53 p53 q53 => ?_)
  refine r_iinc (L' := [_, _]) rfl rfl rfl ?_
  show ZWp _ _ _ [zr (some 0), zi 9] _ _ _ _ _
  refine r_goto rfl ?_
  refine r_iload_n rfl rfl ?_
  refine r_bipush rfl ?_
  refine r_icmp_n rfl (by decide) ?_
  refine l_rnd (by omega) 159 (by omega) h53 (p53) (q53) rfl (by omega) (fun σ54 f54 g54 h54 p54 q54 => ?_)
  refine r_iinc (L' := [_, _]) rfl rfl rfl ?_
  show ZWp _ _ _ [zr (some 0), zi 10] _ _ _ _ _
  refine r_goto rfl ?_
  refine r_iload_n rfl rfl ?_
  refine r_bipush rfl ?_
  refine r_icmp_n rfl (by decide) ?_
  refine l_rnd (by omega) 165 (by omega) h54 (p54) (q54) rfl (by omega) (fun σ55 f55 g55 h55 p55 q55 => ?_)
  refine r_iinc (L' := [_, _]) rfl rfl rfl ?_
  show ZWp _ _ _ [zr (some 0), zi 11] _ _ _ _ _
  refine r_goto rfl ?_
  refine r_iload_n rfl rfl ?_
  refine r_bipush rfl ?_
  refine r_icmp_n rfl (by decide) ?_
  refine l_rnd (by omega) 171 (by omega) h55 (p55) (q55) rfl (by omega) (fun σ56 f56 g56 h56 p56 q56 => ?_)
  refine r_iinc (L' := [_, _]) rfl rfl rfl ?_
  show ZWp _ _ _ [zr (some 0), zi 12] _ _ _ _ _
  refine r_goto rfl ?_
  refine r_iload_n rfl rfl ?_
  refine r_bipush rfl ?_
  refine r_icmp_n rfl (by decide) ?_
  refine l_rnd (by omega) 177 (by omega) h56 (p56) (q56) rfl (by omega) (fun σ57 f57 g57 h57 p57 q57 => ?_)
  refine r_iinc (L' := [_, _]) rfl rfl rfl ?_
  show ZWp _ _ _ [zr (some 0), zi 13] _ _ _ _ _
  refine r_goto rfl ?_
  refine r_iload_n rfl rfl ?_
  refine r_bipush rfl ?_
  refine r_icmp_n rfl (by decide) ?_
  refine l_rnd (by omega) 183 (by omega) h57 (p57) (q57) rfl (by omega) (fun σ58 f58 g58 h58 p58 q58 => ?_)
  refine r_iinc (L' := [_, _]) rfl rfl rfl ?_
  show ZWp _ _ _ [zr (some 0), zi 14] _ _ _ _ _
  refine r_goto rfl ?_
  refine r_iload_n rfl rfl ?_
  refine r_bipush rfl ?_
  refine r_icmp_n rfl (by decide) ?_
  refine l_rnd (by omega) 189 (by omega) h58 (p58) (q58) rfl (by omega) (fun σ59 f59 g59 h59 p59 q59 => ?_)
  refine r_iinc (L' := [_, _]) rfl rfl rfl ?_
  show ZWp _ _ _ [zr (some 0), zi 15] _ _ _ _ _
  refine r_goto rfl ?_
  refine r_iload_n rfl rfl ?_
  refine r_bipush rfl ?_
  refine r_icmp_n rfl (by decide) ?_
  refine l_rnd (by omega) 195 (by omega) h59 (p59) (q59) rfl (by omega) (fun σ60 f60 g60 h60 p60 q60 => ?_)
  refine r_iinc (L' := [_, _]) rfl rfl rfl ?_
  show ZWp _ _ _ [zr (some 0), zi 16] _ _ _ _ _
  refine r_goto rfl ?_
  refine r_iload_n rfl rfl ?_
  refine r_bipush rfl ?_
  refine r_icmp_n rfl (by decide) ?_
  refine l_rnd (by omega) 201 (by omega) h60 (p60) (q60) rfl (by omega) (fun σ61 f61 g61 h61 p61 q61 => ?_)
  refine r_iinc (L' := [_, _]) rfl rfl rfl ?_
  show ZWp _ _ _ [zr (some 0), zi 17] _ _ _ _ _
  refine r_goto rfl ?_
  refine r_iload_n rfl rfl ?_
  refine r_bipush rfl ?_
  refine r_icmp_n rfl (by decide) ?_
  refine l_rnd (by omega) 207 (by omega) h61 (p61) (q61) rfl (by omega) (fun σ62 f62 g62 h62 p62 q62 => ?_)
  refine r_iinc (L' := [_, _]) rfl rfl rfl ?_
  show ZWp _ _ _ [zr (some 0), zi 18] _ _ _ _ _
  refine r_goto rfl ?_
  refine r_iload_n rfl rfl ?_
  refine r_bipush rfl ?_
  refine r_icmp_n rfl (by decide) ?_
  refine l_rnd (by omega) 213 (by omega) h62 (p62) (q62) rfl (by omega) (fun σ63 f63 g63 h63 p63 q63 => ?_)
  refine r_iinc (L' := [_, _]) rfl rfl rfl ?_
  show ZWp _ _ _ [zr (some 0), zi 19] _ _ _ _ _
  refine r_goto rfl ?_
  refine r_iload_n rfl rfl ?_
  refine r_bipush rfl ?_
  refine r_icmp_n rfl (by decide) ?_
  refine l_rnd (by omega) 219 (by omega) h63 (p63) (q63) rfl (by omega) (fun σ64 f64 g64 h64 p64 q64 => ?_)
  refine r_iinc (L' := [_, _]) rfl rfl rfl ?_
  show ZWp _ _ _ [zr (some 0), zi 20] _ _ _ _ _
  refine r_goto rfl ?_
  refine r_iload_n rfl rfl ?_
  refine r_bipush rfl ?_
  refine r_icmp_y rfl (by decide) ?_
  refine r_ret rfl ?_
  exact K _ _ _ h64
/-- the state of what is new -/
def a0 : AS := (0, fun _ => 0, 0, fun _ => [], (none, rdI, 0, fun _ _ => 0), -1, 0, 0, fun _ => rdI, fun _ => none)
theorem aok0 : AOk 0 a0 := ⟨⟨Nat.zero_le _, Nat.zero_le _, Nat.zero_le _⟩, fun i hi => absurd hi (Nat.not_lt_zero i), ⟨⟨Nat.zero_le _, fun i hi => absurd hi (Nat.not_lt_zero i)⟩, rfl⟩, ⟨by show (-1 : Int) ≤ -1; omega, by show (-1 : Int) < 0; omega⟩, ⟨by show (0 : Int) ≤ 0; omega, by show (0 : Int) ≤ 2147483647; omega⟩, rfl, (fun k hk w fo x e => by cases e), by omega⟩
def yxT : LT := (ycT ++ [(11, 40)]) ++ ymT
def yxG : LG := ymG ++ ycG
def yxF : LF := ymF ycF
def roB (T : LT) (G : LG) (r : Nat) : Bool := decide (znth T r = some (5, 9)) && (decide (znth T (r + 1) = some (100, 6)) && decide (znth T (r + 2) = some (100, 6)) && decide (znth T (r + 3) = some (100, 6)) && decide (znth T (r + 4) = some (100, 6)) && decide (znth T (r + 5) = some (100, 5))) && (decide (lk none G r 0 = some (r + 1)) && decide (lk none G r 1 = some (r + 2)) && decide (lk none G r 2 = some (r + 3)) && decide (lk none G r 3 = some (r + 4)) && decide (lk none G r 4 = some (r + 5)))
def noB (T : LT) (G : LG) (r : Nat) : Bool := decide (znth T r = some (2, 4)) && (decide (znth T (r + 1) = some (100, 10)) && decide (znth T (r + 2) = some (100, 10)) && decide (znth T (r + 3) = some (100, 10))) && (decide (lk none G r 1 = some (r + 1)) && decide (lk none G r 2 = some (r + 2)) && decide (lk none G r 3 = some (r + 3)))
def ioB (T : LT) (G : LG) (r : Nat) : Bool := decide (znth T r = some (1, 6)) && (decide (lk none G r 4 = some (r + 1)) && decide (lk none G r 5 = some (r + 7))) && roB T G (r + 1) && noB T G (r + 7)
theorem Kn.gt (h : Kn σ f g n T S G F) {k i : Nat} {t : Nat × Nat} {x : Option Nat} (hk : znth T k = some t) (e : lk none G k i = x) : g k i = x := (h.2.2.2.1 k i (h.lt hk)).trans e
theorem Kn.ro (h : Kn σ f g n T S G F) {r : Nat} (e : roB T G r = true) : RO σ g r := by
  unfold roB at e
  simp only [Bool.and_eq_true, decide_eq_true_eq] at e
  obtain ⟨⟨e0, ⟨⟨⟨⟨e1, e2⟩, e3⟩, e4⟩, e5⟩⟩, ⟨⟨⟨⟨q1, q2⟩, q3⟩, q4⟩, q5⟩⟩ := e
  exact ⟨h.o e0, ⟨h.ar e1, h.ar e2, h.ar e3, h.ar e4, h.ar e5⟩, h.gt e0 q1, h.gt e0 q2, h.gt e0 q3, h.gt e0 q4, h.gt e0 q5⟩
theorem Kn.no (h : Kn σ f g n T S G F) {r : Nat} (e : noB T G r = true) : NO σ g r := by
  unfold noB at e
  simp only [Bool.and_eq_true, decide_eq_true_eq] at e
  obtain ⟨⟨e0, ⟨⟨e1, e2⟩, e3⟩⟩, ⟨⟨q1, q2⟩, q3⟩⟩ := e
  exact ⟨h.o e0, ⟨h.ar e1, h.ar e2, h.ar e3⟩, h.gt e0 q1, h.gt e0 q2, h.gt e0 q3⟩
theorem Kn.io (h : Kn σ f g n T S G F) {r : Nat} (e : ioB T G r = true) : IO' σ g r := by
  unfold ioB at e
  simp only [Bool.and_eq_true, decide_eq_true_eq] at e
  obtain ⟨⟨⟨e0, ⟨q1, q2⟩⟩, e1⟩, e2⟩ := e
  exact ⟨h.o e0, ⟨h.gt e0 q1, h.gt e0 q2⟩, h.ro e1, h.no e2⟩
theorem y_T : yxT = zT0 := by decide +kernel
theorem y_M : ∀ i, i < 40 → (znth zMO i).getD none = none ∨ lk none yxG 219 i = (znth zMO i).getD none := by decide +kernel
theorem y_L : ∀ i, i < 20 → (znth zLO i).getD none = none ∨ lk none yxG 0 i = (znth zLO i).getD none := by decide +kernel
theorem y_s : lk none yxG 15 0 = some 16 ∧ lk none yxG 16 3 = some 17 ∧ lk none yxG 18 0 = some 19 ∧ lk none yxG 18 1 = some 21 ∧ lk none yxG 19 3 = some 20 ∧ lk none yxG 22 5 = some 23 ∧ lk none yxG 22 6 = some 24 ∧ lk none yxG 25 1 = some 26 ∧ lk none yxG 25 2 = some 27 ∧ lk none yxG 25 3 = some 28 := by decide +kernel
theorem y_r : ∀ i, i < 20 → lk none yxG 14 i = some (99 + 6 * i) ∧ roB yxT yxG (99 + 6 * i) = true := by decide +kernel
theorem y_i : ∀ i, i < 4 → lk none yxG 13 i = some (55 + 11 * i) ∧ ioB yxT yxG (55 + 11 * i) = true := by decide +kernel
theorem y_w : ∀ i, i < 3 → lk none yxG 28 i = some (29 + 6 * i) ∧ roB yxT yxG (29 + 6 * i) = true := by decide +kernel
theorem y_o : roB yxT yxG 3 = true ∧ roB yxT yxG 47 = true ∧ noB yxT yxG 9 = true := by decide +kernel
theorem y_f : lk 0 yxF 0 1 = 0 ∧ lk 0 yxF 0 3 = 0 ∧ lk 0 yxF 0 6 = -1 ∧ lk 0 yxF 0 7 = 0 ∧ lk 0 yxF 0 11 = 0 ∧ lk 0 yxF 0 12 = 0 ∧ lk 0 yxF 9 0 = 0 ∧ lk 0 yxF 3 5 = 0 ∧ lk 0 yxF 3 6 = 0 ∧ lk 0 yxF 3 7 = 0 ∧ lk 0 yxF 3 8 = 0 ∧ lk none yxG 0 4 = none ∧ (∀ i, i < 4 → lk 0 yxF (55 + 11 * i) 0 = 0) := by decide +kernel
theorem y_c : ∀ i, i < 6 → lk 0 yxF 4 i = -1 ∧ lk 0 yxF 5 i = -1 ∧ lk 0 yxF 6 i = 0 ∧ lk 0 yxF 7 i = 0 := by decide +kernel
theorem y_c8 : ∀ i, i < 5 → lk 0 yxF 8 i = 0 := by decide +kernel
theorem y_1 : ∀ x ∈ yxF, x.1 ≠ 1 ∧ x.1 ≠ 229 ∧ x.1 ≠ 239 := by decide +kernel
theorem y_m : lk 0 yxF 219 1 = 0 ∧ lk 0 yxF 219 2 = 0 ∧ lk 0 yxF 219 21 = -1 ∧ lk 0 yxF 219 22 = 0 ∧ lk 0 yxF 219 23 = -1 ∧ lk 0 yxF 219 24 = -1 ∧ lk 0 yxF 219 27 = 0 := by decide +kernel
theorem Kn.sh (h : Kn σ f g 240 yxT S yxG yxF) : Sh σ g := by
  have hlen : yxT.length = 240 := h.1.2.2
  have hg : ∀ k i, k < 240 → g k i = lk none yxG k i := fun k i hk => h.2.2.2.1 k i hk
  refine ⟨by rw [h.sz]; exact Nat.le_refl _, fun k t e => h.2.1 k t (by rw [y_T]; exact e), fun k a r e => ?_, fun i hi => ⟨(hg 14 i (by omega)).trans (y_r i hi).1, h.ro (y_r i hi).2⟩, fun i hi => ⟨(hg 13 i (by omega)).trans (y_i i hi).1, h.io (y_i i hi).2⟩, fun i hi => ⟨(hg 28 i (by omega)).trans (y_w i hi).1, h.ro (y_w i hi).2⟩, h.ro y_o.1, h.ro y_o.2.1, h.no y_o.2.2⟩
  unfold zG0 at e
  obtain ⟨s1, s2, s3, s4, s5, s6, s7, s8, s9, s10⟩ := y_s
  split at e
  · rename_i q
    subst q
    by_cases hi : a < 40
    · rcases y_M a hi with q | q
      · rw [q] at e; cases e
      · rw [hg 219 a (by omega), q]; exact e
    · have : znth zMO a = none := by
        cases hz : znth zMO a with
        | none => rfl
        | some z => have := znth_lt zMO a z hz; have e40 : zMO.length = 40 := rfl; omega
      rw [this] at e; cases e
  · split at e
    · rename_i q
      subst q
      by_cases hi : a < 20
      · rcases y_L a hi with q | q
        · rw [q] at e; cases e
        · rw [hg 0 a (by omega), q]; exact e
      · have : znth zLO a = none := by
          cases hz : znth zLO a with
          | none => rfl
          | some z => have := znth_lt zLO a z hz; have e20 : zLO.length = 20 := rfl; omega
        rw [this] at e; cases e
    · by_cases q15 : k = 15
      · subst q15
        rw [if_pos rfl] at e
        by_cases w0 : a = 0
        · subst w0
          rw [if_pos rfl] at e
          exact ((hg 15 0 (by omega)).trans s1).trans e
        rw [if_neg w0] at e
        cases e
      rw [if_neg q15] at e
      by_cases q16 : k = 16
      · subst q16
        rw [if_pos rfl] at e
        by_cases w3 : a = 3
        · subst w3
          rw [if_pos rfl] at e
          exact ((hg 16 3 (by omega)).trans s2).trans e
        rw [if_neg w3] at e
        cases e
      rw [if_neg q16] at e
      by_cases q18 : k = 18
      · subst q18
        rw [if_pos rfl] at e
        by_cases w0 : a = 0
        · subst w0
          rw [if_pos rfl] at e
          exact ((hg 18 0 (by omega)).trans s3).trans e
        rw [if_neg w0] at e
        by_cases w1 : a = 1
        · subst w1
          rw [if_pos rfl] at e
          exact ((hg 18 1 (by omega)).trans s4).trans e
        rw [if_neg w1] at e
        cases e
      rw [if_neg q18] at e
      by_cases q19 : k = 19
      · subst q19
        rw [if_pos rfl] at e
        by_cases w3 : a = 3
        · subst w3
          rw [if_pos rfl] at e
          exact ((hg 19 3 (by omega)).trans s5).trans e
        rw [if_neg w3] at e
        cases e
      rw [if_neg q19] at e
      by_cases q22 : k = 22
      · subst q22
        rw [if_pos rfl] at e
        by_cases w5 : a = 5
        · subst w5
          rw [if_pos rfl] at e
          exact ((hg 22 5 (by omega)).trans s6).trans e
        rw [if_neg w5] at e
        by_cases w6 : a = 6
        · subst w6
          rw [if_pos rfl] at e
          exact ((hg 22 6 (by omega)).trans s7).trans e
        rw [if_neg w6] at e
        cases e
      rw [if_neg q22] at e
      by_cases q25 : k = 25
      · subst q25
        rw [if_pos rfl] at e
        by_cases w1 : a = 1
        · subst w1
          rw [if_pos rfl] at e
          exact ((hg 25 1 (by omega)).trans s8).trans e
        rw [if_neg w1] at e
        by_cases w2 : a = 2
        · subst w2
          rw [if_pos rfl] at e
          exact ((hg 25 2 (by omega)).trans s9).trans e
        rw [if_neg w2] at e
        by_cases w3 : a = 3
        · subst w3
          rw [if_pos rfl] at e
          exact ((hg 25 3 (by omega)).trans s10).trans e
        rw [if_neg w3] at e
        cases e
      rw [if_neg q25] at e
      cases e
theorem Kn.ci (h : Kn σ f g 240 yxT S yxG yxF) : CI σ f g a0 := by
  have hf : ∀ k i, k < 240 → f k i = lk 0 yxF k i := fun k i hk => h.2.2.1 k i hk
  obtain ⟨f1, f2, f3, f4, f5, f6, f7, f8, f9, f10, f11, f12, f13⟩ := y_f
  refine ⟨h.sh, (hf 0 1 (by omega)).trans f1, fun i hi => ?_, fun i hi => absurd hi (Nat.not_lt_zero i), (hf 0 3 (by omega)).trans f2, fun i hi => absurd hi (Nat.not_lt_zero i), ⟨(h.2.2.2.1 0 4 (by omega)).trans f12, ⟨fun k hk => ?_, fun j hj => ?_, (hf 3 7 (by omega)).trans f10, (hf 3 8 (by omega)).trans f11, ?_, ?_⟩, (hf 9 0 (by omega)).trans f7, fun i hi => absurd hi (Nat.not_lt_zero i)⟩, (hf 0 6 (by omega)).trans f3, (hf 0 7 (by omega)).trans f4, (hf 0 11 (by omega)).trans f5, ⟨0, by omega, (hf 0 12 (by omega)).trans f6, fun i hi => absurd hi (Nat.not_lt_zero i)⟩, fun k hk => (hf _ 0 (by omega)).trans (f13 k hk)⟩
  · rw [hf 1 i (by omega), lk_no yxF 1 i (fun x hx => (y_1 x hx).1)]
    omega
  · obtain ⟨c1, c2, c3, c4⟩ := y_c k hk
    exact ⟨(hf 4 k (by omega)).trans c1, (hf 5 k (by omega)).trans c2, (hf 6 k (by omega)).trans c3, (hf 7 k (by omega)).trans c4⟩
  · exact (hf 8 j (by omega)).trans (y_c8 j hj)
  · rw [hf 3 6 (by omega), f9]
    exact ⟨0, rfl, by omega, fun c _ => by rw [Nat.zero_testBit]; exact (decide_eq_false_iff_not.2 (fun q => by have : (0 : Int) = 1 := q; omega)).symm⟩
  · rw [hf 3 5 (by omega), f8]
    exact ⟨0, rfl, by omega, fun c _ => by rw [Nat.zero_testBit]; exact (rOc_I c).symm⟩
theorem Kn.mi (h : Kn σ f g 240 yxT S yxG yxF) : MI f a0 := by
  have hf : ∀ k i, k < 240 → f k i = lk 0 yxF k i := fun k i hk => h.2.2.1 k i hk
  have h229 : ∀ i, f 229 i = 0 := fun i => (hf 229 i (by omega)).trans (lk_no yxF 229 i (fun x hx => (y_1 x hx).2.1))
  have h239 : ∀ i, f 239 i = 0 := fun i => (hf 239 i (by omega)).trans (lk_no yxF 239 i (fun x hx => (y_1 x hx).2.2))
  obtain ⟨m1, m2, m3, m4, m5, m6, m7⟩ := y_m
  refine ⟨(hf 219 1 (by omega)).trans m1, fun i hi => absurd hi (Nat.not_lt_zero i), (hf 219 2 (by omega)).trans m2, fun i hi => absurd hi (Nat.not_lt_zero i), ⟨⟨h229 0, h229 1, h229 2, h229 3⟩, ⟨h229 10, h229 11, fun k hk => Or.inl ⟨rfl, rfl, rfl, rfl, h229 _, h229 _, h229 _, h229 _, h229 _⟩, fun j hj => h229 _, fun c hc => h229 _⟩, h229 145, fun i hi => absurd hi (Nat.not_lt_zero i)⟩, (hf 219 21 (by omega)).trans m3, (hf 219 22 (by omega)).trans m4, (hf 219 23 (by omega)).trans m5, (hf 219 24 (by omega)).trans m6, (hf 219 27 (by omega)).trans m7, fun i hi => absurd hi (Nat.not_lt_zero i), fun k hk => h239 k⟩
end KN
