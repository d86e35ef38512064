section YL
variable {w : Wc} {A : Nat → Prop} {g : Gx} {Q : State → Prop} {d mc ms : Nat} {cc : ByteArray} {own : String} {nL : Nat} {pc pc' : Nat} {ls : List (Option Value)} {st : List Value} {k n : Nat} {ws : va_W}
theorem y_iadd (hg : OY w A g d mc ms cc own nL) {x y : Int32} (hd : decode cc pc = .ok (.iadd, 1)) (hp : pc + 1 = pc') (kk : Y w A g Q pc' ls (.int (x + y) :: st) k n ws) : Y w A g Q pc ls (.int y :: .int x :: st) k n ws := by
  obtain ⟨p, l, e, R, s, m, args, below, meth, c⟩ := g
  obtain ⟨hx, hb, hml, hown, hts, hR, hK, hlk, hA, hsr⟩ := hg
  intro H locs lsA hP hD hS hl
  subst hp
  exact lv_iadd hx hb hd (kk H locs lsA hP hD hS hl)
theorem y_isub (hg : OY w A g d mc ms cc own nL) {x y : Int32} (hd : decode cc pc = .ok (.isub, 1)) (hp : pc + 1 = pc') (kk : Y w A g Q pc' ls (.int (x - y) :: st) k n ws) : Y w A g Q pc ls (.int y :: .int x :: st) k n ws := by
  obtain ⟨p, l, e, R, s, m, args, below, meth, c⟩ := g
  obtain ⟨hx, hb, hml, hown, hts, hR, hK, hlk, hA, hsr⟩ := hg
  intro H locs lsA hP hD hS hl
  subst hp
  exact lv_isub hx hb hd (kk H locs lsA hP hD hS hl)
theorem y_iand (hg : OY w A g d mc ms cc own nL) {x y : Int32} (hd : decode cc pc = .ok (.iand, 1)) (hp : pc + 1 = pc') (kk : Y w A g Q pc' ls (.int (x &&& y) :: st) k n ws) : Y w A g Q pc ls (.int y :: .int x :: st) k n ws := by
  obtain ⟨p, l, e, R, s, m, args, below, meth, c⟩ := g
  obtain ⟨hx, hb, hml, hown, hts, hR, hK, hlk, hA, hsr⟩ := hg
  intro H locs lsA hP hD hS hl
  subst hp
  exact lv_iand hx hb hd (kk H locs lsA hP hD hS hl)
theorem y_land (hg : OY w A g d mc ms cc own nL) {x y : Int64} (hd : decode cc pc = .ok (.land, 1)) (hp : pc + 1 = pc') (kk : Y w A g Q pc' ls (.long (x &&& y) :: st) k n ws) : Y w A g Q pc ls (.long y :: .long x :: st) k n ws := by
  obtain ⟨p, l, e, R, s, m, args, below, meth, c⟩ := g
  obtain ⟨hx, hb, hml, hown, hts, hR, hK, hlk, hA, hsr⟩ := hg
  intro H locs lsA hP hD hS hl
  subst hp
  exact lv_land hx hb hd (kk H locs lsA hP hD hS hl)
theorem y_lor (hg : OY w A g d mc ms cc own nL) {x y : Int64} (hd : decode cc pc = .ok (.lor, 1)) (hp : pc + 1 = pc') (kk : Y w A g Q pc' ls (.long (x ||| y) :: st) k n ws) : Y w A g Q pc ls (.long y :: .long x :: st) k n ws := by
  obtain ⟨p, l, e, R, s, m, args, below, meth, c⟩ := g
  obtain ⟨hx, hb, hml, hown, hts, hR, hK, hlk, hA, hsr⟩ := hg
  intro H locs lsA hP hD hS hl
  subst hp
  exact lv_lor hx hb hd (kk H locs lsA hP hD hS hl)
theorem y_i2l (hg : OY w A g d mc ms cc own nL) {x : Int32} (hd : decode cc pc = .ok (.i2l, 1)) (hp : pc + 1 = pc') (kk : Y w A g Q pc' ls (.long (x.toInt64) :: st) k n ws) : Y w A g Q pc ls (.int x :: st) k n ws := by
  obtain ⟨p, l, e, R, s, m, args, below, meth, c⟩ := g
  obtain ⟨hx, hb, hml, hown, hts, hR, hK, hlk, hA, hsr⟩ := hg
  intro H locs lsA hP hD hS hl
  subst hp
  exact lv_i2l hx hb hd rfl (kk H locs lsA hP hD hS hl)
theorem y_lshl (hg : OY w A g d mc ms cc own nL) {x : Int64} {y : Int32} (hd : decode cc pc = .ok (.lshl, 1)) (hp : pc + 1 = pc') (kk : Y w A g Q pc' ls (.long (x <<< (y.toInt64 &&& 63)) :: st) k n ws) : Y w A g Q pc ls (.int y :: .long x :: st) k n ws := by
  obtain ⟨p, l, e, R, s, m, args, below, meth, c⟩ := g
  obtain ⟨hx, hb, hml, hown, hts, hR, hK, hlk, hA, hsr⟩ := hg
  intro H locs lsA hP hD hS hl
  subst hp
  exact lv_lshl hx hb hd rfl (kk H locs lsA hP hD hS hl)
theorem y_ldc2 (hg : OY w A g d mc ms cc own nL) {i : Nat} {v : Int64} (hc : Cond.constantLong own i v ∈ GT) (hd : decode cc pc = .ok (.ldc2_w i, 3)) (hp : pc + 3 = pc') (kk : Y w A g Q pc' ls (.long v :: st) k n ws) : Y w A g Q pc ls st k n ws := by
  obtain ⟨p, l, e, R, s, m, args, below, meth, c⟩ := g
  obtain ⟨hx, hb, hml, hown, hts, hR, hK, hlk, hA, hsr⟩ := hg
  intro H locs lsA hP hD hS hl
  subst hp
  exact lv_ldc2 hx hb hown (hts _ hc) hd (kk H locs lsA hP hD hS hl)
theorem y_aload1 (hg : OY w A g d mc ms cc own nL) {a0 : Option Value} {x : Nat} (hd : decode cc pc = .ok (.aload_n 1, 1)) (hp : pc + 1 = pc') (kk : Y w A g Q pc' (a0 :: some (.ref x) :: ls) (.ref x :: st) k n ws) : Y w A g Q pc (a0 :: some (.ref x) :: ls) st k n ws := by
  obtain ⟨p, l, e, R, s, m, args, below, meth, c⟩ := g
  obtain ⟨hx, hb, hml, hown, hts, hR, hK, hlk, hA, hsr⟩ := hg
  intro H locs lsA hP hD hS hl
  subst hp
  exact lv_aload_n hx hb hd rfl (lv_l hl (k := 1) rfl) (kk H locs lsA hP hD hS hl)
theorem y_astore1 (hg : OY w A g d mc ms cc own nL) {a0 a1 : Option Value} {x : Nat} (hd : decode cc pc = .ok (.astore_n 1, 1)) (hc : nl a0 = true) (hn : Nat.ble 2 nL = true) (hp : pc + 1 = pc') (kk : Y w A g Q pc' (a0 :: some (.ref x) :: ls) st k n ws) : Y w A g Q pc (a0 :: a1 :: ls) (.ref x :: st) k n ws := by
  obtain ⟨p, l, e, R, s, m, args, below, meth, c⟩ := g
  obtain ⟨hx, hb, hml, hown, hts, hR, hK, hlk, hA, hsr⟩ := hg
  intro H locs lsA hP hD hS hl
  subst hp
  have hn2 : 1 < c.maxLocals := by rw [hml]; exact Nat.le_of_ble_eq_true hn
  exact lv_astore_n hx hb hd rfl hl hn2 rfl (fun ls2 hl2 => kk H locs ls2 hP hD hS (lv_stL (k := 1) (ls := (a0 :: a1 :: ls)) hl2 (by simp) (nl_prev (k := 0) rfl hc)))
theorem y_aload2 (hg : OY w A g d mc ms cc own nL) {a0 a1 : Option Value} {x : Nat} (hd : decode cc pc = .ok (.aload_n 2, 1)) (hp : pc + 1 = pc') (kk : Y w A g Q pc' (a0 :: a1 :: some (.ref x) :: ls) (.ref x :: st) k n ws) : Y w A g Q pc (a0 :: a1 :: some (.ref x) :: ls) st k n ws := by
  obtain ⟨p, l, e, R, s, m, args, below, meth, c⟩ := g
  obtain ⟨hx, hb, hml, hown, hts, hR, hK, hlk, hA, hsr⟩ := hg
  intro H locs lsA hP hD hS hl
  subst hp
  exact lv_aload_n hx hb hd rfl (lv_l hl (k := 2) rfl) (kk H locs lsA hP hD hS hl)
theorem y_astore2 (hg : OY w A g d mc ms cc own nL) {a0 a1 a2 : Option Value} {x : Nat} (hd : decode cc pc = .ok (.astore_n 2, 1)) (hc : nl a1 = true) (hn : Nat.ble 3 nL = true) (hp : pc + 1 = pc') (kk : Y w A g Q pc' (a0 :: a1 :: some (.ref x) :: ls) st k n ws) : Y w A g Q pc (a0 :: a1 :: a2 :: ls) (.ref x :: st) k n ws := by
  obtain ⟨p, l, e, R, s, m, args, below, meth, c⟩ := g
  obtain ⟨hx, hb, hml, hown, hts, hR, hK, hlk, hA, hsr⟩ := hg
  intro H locs lsA hP hD hS hl
  subst hp
  have hn2 : 2 < c.maxLocals := by rw [hml]; exact Nat.le_of_ble_eq_true hn
  exact lv_astore_n hx hb hd rfl hl hn2 rfl (fun ls2 hl2 => kk H locs ls2 hP hD hS (lv_stL (k := 2) (ls := (a0 :: a1 :: a2 :: ls)) hl2 (by simp) (nl_prev (k := 1) rfl hc)))
theorem y_iload3 (hg : OY w A g d mc ms cc own nL) {a0 a1 a2 : Option Value} {x : Int32} (hd : decode cc pc = .ok (.iload_n 3, 1)) (hp : pc + 1 = pc') (kk : Y w A g Q pc' (a0 :: a1 :: a2 :: some (.int x) :: ls) (.int x :: st) k n ws) : Y w A g Q pc (a0 :: a1 :: a2 :: some (.int x) :: ls) st k n ws := by
  obtain ⟨p, l, e, R, s, m, args, below, meth, c⟩ := g
  obtain ⟨hx, hb, hml, hown, hts, hR, hK, hlk, hA, hsr⟩ := hg
  intro H locs lsA hP hD hS hl
  subst hp
  exact lv_iload_n hx hb hd rfl (lv_l hl (k := 3) rfl) (kk H locs lsA hP hD hS hl)
theorem y_istore3 (hg : OY w A g d mc ms cc own nL) {a0 a1 a2 a3 : Option Value} {x : Int32} (hd : decode cc pc = .ok (.istore_n 3, 1)) (hc : nl a2 = true) (hn : Nat.ble 4 nL = true) (hp : pc + 1 = pc') (kk : Y w A g Q pc' (a0 :: a1 :: a2 :: some (.int x) :: ls) st k n ws) : Y w A g Q pc (a0 :: a1 :: a2 :: a3 :: ls) (.int x :: st) k n ws := by
  obtain ⟨p, l, e, R, s, m, args, below, meth, c⟩ := g
  obtain ⟨hx, hb, hml, hown, hts, hR, hK, hlk, hA, hsr⟩ := hg
  intro H locs lsA hP hD hS hl
  subst hp
  have hn2 : 3 < c.maxLocals := by rw [hml]; exact Nat.le_of_ble_eq_true hn
  exact lv_istore_n hx hb hd rfl hl hn2 rfl (fun ls2 hl2 => kk H locs ls2 hP hD hS (lv_stL (k := 3) (ls := a0 :: a1 :: a2 :: a3 :: ls) hl2 (by simp) (nl_prev (k := 2) rfl hc)))
theorem y_iinc3 (hg : OY w A g d mc ms cc own nL) {a0 a1 a2 : Option Value} {x v : Int32} {z : Int} (hd : decode cc pc = .ok (.iinc 3 z, 3)) (hv : Int32.ofInt z = v) (hc : nl a2 = true) (hn : Nat.ble 4 nL = true) (hp : pc + 3 = pc') (kk : Y w A g Q pc' (a0 :: a1 :: a2 :: some (.int (x + v)) :: ls) st k n ws) : Y w A g Q pc (a0 :: a1 :: a2 :: some (.int x) :: ls) st k n ws := by
  obtain ⟨p, l, e, R, s, m, args, below, meth, c⟩ := g
  obtain ⟨hx, hb, hml, hown, hts, hR, hK, hlk, hA, hsr⟩ := hg
  intro H locs lsA hP hD hS hl
  subst hp
  subst hv
  have hn2 : 3 < c.maxLocals := by rw [hml]; exact Nat.le_of_ble_eq_true hn
  obtain ⟨j, hj⟩ := List.getElem?_of_mem ((toL_mem (q := (3, .int x)) (a0 :: a1 :: a2 :: some (.int x) :: ls) 0).mpr ⟨3, rfl, by simp⟩)
  exact lv_iinc hx hb hd hl hj rfl hn2 rfl (fun ls2 hl2 => kk H locs ls2 hP hD hS (lv_stL (k := 3) (ls := a0 :: a1 :: a2 :: some (.int x) :: ls) hl2 (by simp) (nl_prev (k := 2) rfl hc)))
theorem y_gt (hg : OY w A g d mc ms cc own nL) {x y : Int32} {off : Int} {tg : Nat} (hd : decode cc pc = .ok (.if_icmp .gt off, 3)) (ht : (pc : Int) + off = (tg : Int)) (hp : pc + 3 = pc') (k1 : y < x → Y w A g Q tg ls st k n ws) (k2 : ¬ y < x → Y w A g Q pc' ls st k n ws) : Y w A g Q pc ls (.int y :: .int x :: st) k n ws := by
  obtain ⟨p, l, e, R, s, m, args, below, meth, c⟩ := g
  obtain ⟨hx, hb, hml, hown, hts, hR, hK, hlk, hA, hsr⟩ := hg
  intro H locs lsA hP hD hS hl
  subst hp
  exact lv_icmp_gt hx hb hd ht (fun h => k1 h H locs lsA hP hD hS hl) (fun h => k2 h H locs lsA hP hD hS hl)
theorem y_eqT (hg : OY w A g d mc ms cc own nL) {x y : Int32} {off : Int} {tg : Nat} (hd : decode cc pc = .ok (.if_icmp .eq off, 3)) (ht : (pc : Int) + off = (tg : Int)) (he : x = y) (kk : Y w A g Q tg ls st k n ws) : Y w A g Q pc ls (.int y :: .int x :: st) k n ws := by
  obtain ⟨p, l, e, R, s, m, args, below, meth, c⟩ := g
  obtain ⟨hx, hb, hml, hown, hts, hR, hK, hlk, hA, hsr⟩ := hg
  intro H locs lsA hP hD hS hl
  exact lv_icmp_eq hx hb hd ht (fun h => kk H locs lsA hP hD hS hl) (fun h => absurd he h)
theorem y_tab (hg : OY w A g d mc ms cc own nL) {dflt lo hi : Int} {offs : Array Int} {len tg : Nat} {x : Int32} {ps : List (Int32 × Int)} (hd : decode cc pc = .ok (.tableswitch dflt lo hi offs, len)) (hps : tOk lo hi offs ps = true) (ht : (pc : Int) + lk ps x dflt = (tg : Int)) (kk : Y w A g Q tg ls st k n ws) : Y w A g Q pc ls (.int x :: st) k n ws := by
  obtain ⟨p, l, e, R, s, m, args, below, meth, c⟩ := g
  obtain ⟨hx, hb, hml, hown, hts, hR, hK, hlk, hA, hsr⟩ := hg
  intro H locs lsA hP hD hS hl
  simp only [tOk, Bool.and_eq_true, decide_eq_true_eq] at hps
  obtain ⟨⟨h1, h2⟩, h3⟩ := hps
  have key : ∀ (i : Nat) (p : Int32 × Int), ps[i]? = some p → p.1.toInt = lo + (i : Int) := by
    intro i p hi
    have hl2 := (List.getElem?_eq_some_iff.mp hi).1
    have e1 : (ps.map (fun q => q.1.toInt))[i]? = some p.1.toInt := by rw [List.getElem?_map, hi]; rfl
    rw [h2, List.getElem?_map, List.getElem?_range hl2] at e1
    exact (Option.some.inj e1).symm
  by_cases hc : x.toInt < lo ∨ hi < x.toInt
  · rw [lk_out ps x dflt (fun q hq => by
      obtain ⟨i, hi2⟩ := List.getElem?_of_mem hq
      have := key i q hi2
      have hl2 := (List.getElem?_eq_some_iff.mp hi2).1
      intro e2
      rw [e2] at hc
      omega)] at ht
    exact lv_tableOut hx hb hd hc ht (kk H locs lsA hP hD hS hl)
  · have hn : (x.toInt - lo).toNat < ps.length := by omega
    obtain ⟨q, hq⟩ : ∃ q, ps[(x.toInt - lo).toNat]? = some q := ⟨_, List.getElem?_eq_getElem hn⟩
    have hxq : x = q.1 := by
      have := key _ q hq
      exact Int32.toInt_inj.mp (by omega)
    rw [lk_in ps x dflt _ q hq hxq (fun i p hi hp e2 => by
      have a1 := key i p hp
      have a2 := key _ q hq
      rw [← hxq] at a2
      rw [← e2] at a1
      omega)] at ht
    refine lv_tableIn hx hb hd (by omega) (by omega) (off := q.2) ?_ ht (kk H locs lsA hP hD hS hl)
    rw [← Array.getElem?_toList, h1, List.getElem?_map, hq]
    rfl
/-- the script, at the law's start -/
def YX (A : Nat → Prop) (g : Gx) (b L : Nat) (xs : Nat → Int32) : Prop := match g with
  | (_, _, _, _, s, _, _, _, _, _) => va_X b L xs s s.heap ∧ b < s.heap.size ∧ ¬ A b
def YS (A : Nat → Prop) (w : Wc) (g : Gx) : Prop := match g with
  | (_, _, _, _, s, _, _, _, _, _) => St A w s s.heap
theorem y_sld (hg : OY w A g d mc ms cc own nL) {b L : Nat} {xs : Nat → Int32} (hX : YX A g b L xs) {i : Int32} (hin : vp_in i L) (hd : decode cc pc = .ok (.iaload, 1)) (hp : pc + 1 = pc') (kk : Y w A g Q pc' ls (.int (xs (ix i)) :: st) k n ws) : Y w A g Q pc ls (.int i :: .ref b :: st) k n ws := by
  obtain ⟨p, l, e, R, s, m, args, below, meth, c⟩ := g
  obtain ⟨hx, hb, hml, hown, hts, hR, hK, hlk, hA, hsr⟩ := hg
  intro H locs lsA hP hD hS hl
  subst hp
  exact va_sld hx hb hX.1 hX.2.1 hX.2.2 hS hin hd (kk H locs lsA hP hD hS hl)
theorem y_slen (hg : OY w A g d mc ms cc own nL) {b L : Nat} {xs : Nat → Int32} (hX : YX A g b L xs) (hd : decode cc pc = .ok (.arraylength, 1)) (hp : pc + 1 = pc') (kk : Y w A g Q pc' ls (.int (nI L) :: st) k n ws) : Y w A g Q pc ls (.ref b :: st) k n ws := by
  obtain ⟨p, l, e, R, s, m, args, below, meth, c⟩ := g
  obtain ⟨hx, hb, hml, hown, hts, hR, hK, hlk, hA, hsr⟩ := hg
  intro H locs lsA hP hD hS hl
  subst hp
  exact va_slen hx hb hX.1 hX.2.1 hX.2.2 hS hd (kk H locs lsA hP hD hS hl)
theorem St.narrow {A B : Nat → Prop} {w : Wc} {U : State} {H : Heap} (h : St A w U H) (hAB : ∀ q, B q → A q) : St B w U H := by
  obtain ⟨⟨z1, t1⟩, ⟨z2, t2⟩, z3, v⟩ := h
  have nz : ∀ {C n d : String} {v : Value}, va_Z C n d v A U H → va_Z C n d v B U H := by
    intro C n d v hz
    obtain ⟨cf, kf, fi, f, a, cell, g1, g2, g3, g4, g5, g6, g7, g8⟩ := hz
    exact ⟨cf, kf, fi, f, a, cell, g1, g2, g3, g4, g5, g6, g7, fun q => g8 (hAB _ q)⟩
  exact ⟨⟨nz z1, t1.narrow hAB⟩, ⟨nz z2, t2.narrow hAB⟩, nz z3, v.narrow hAB⟩
theorem D_inj {S : Shp} {w : Wc} {σ : Sg} {A : Nat → Prop} (h : va_D A (wsL S w σ)) : Inj S w := fun i j hi hj e => h.1 i j _ _ (wsL_at hi) (wsL_at hj) e
theorem P_l {D : va_G} {a b : va_W} {H : Heap} (h : va_P D vwCl (a ++ b) H) : va_P D vwCl a H := fun k q hk => h k q (by rw [List.getElem?_append_left (List.getElem?_eq_some_iff.mp hk).1]; exact hk)
theorem P_r {D : va_G} {a b : va_W} {H : Heap} (h : va_P D vwCl (a ++ b) H) : va_P D vwCl b H := fun k q hk => h (a.length + k) q (by rw [List.getElem?_append_right (by omega)]; simpa using hk)
theorem D_l {A : Nat → Prop} {a b : va_W} (h : va_D A (a ++ b)) : va_D A a := ⟨fun i j x z hi hj e => h.1 i j x z (by rw [List.getElem?_append_left (List.getElem?_eq_some_iff.mp hi).1]; exact hi) (by rw [List.getElem?_append_left (List.getElem?_eq_some_iff.mp hj).1]; exact hj) e, fun k q hk => h.2 k q (by rw [List.getElem?_append_left (List.getElem?_eq_some_iff.mp hk).1]; exact hk)⟩
theorem D_r {A : Nat → Prop} {a b : va_W} (h : va_D A (a ++ b)) : va_D A b := ⟨fun i j x z hi hj e => by
    have := h.1 (a.length + i) (a.length + j) x z (by rw [List.getElem?_append_right (by omega)]; simpa using hi) (by rw [List.getElem?_append_right (by omega)]; simpa using hj) e
    omega, fun k q hk => h.2 (a.length + k) q (by rw [List.getElem?_append_right (by omega)]; simpa using hk)⟩
theorem D_x {A : Nat → Prop} {a b : va_W} (h : va_D A (a ++ b)) {x z : Nat × va_E} (hx : x ∈ a) (hz : z ∈ b) : x.1 ≠ z.1 := by
  intro e
  obtain ⟨i, hi⟩ := List.getElem?_of_mem hx
  obtain ⟨j, hj⟩ := List.getElem?_of_mem hz
  have hl := (List.getElem?_eq_some_iff.mp hi).1
  have := h.1 i (a.length + j) x z (by rw [List.getElem?_append_left hl]; exact hi) (by rw [List.getElem?_append_right (by omega)]; simpa using hj) e
  omega
theorem D_swap {A : Nat → Prop} {a b : va_W} (h : va_D A (a ++ b)) : va_D A (b ++ a) := by
  refine va_D.app (D_r h) (D_l h) (fun i j x z hi hj e => ?_)
  exact D_x h (List.mem_of_getElem? hj) (List.mem_of_getElem? hi) e.symm
theorem P_swap {D : va_G} {a b : va_W} {H : Heap} (h : va_P D vwCl (a ++ b) H) : va_P D vwCl (b ++ a) H := va_P.app (P_r h) (P_l h)
theorem wsL_D2 {S : Shp} {w : Wc} {A : Nat → Prop} {σ τ : Sg} (h : va_D A (wsL S w σ)) : va_D A (wsL S w τ) := by
  refine ⟨fun i j x z hi hj e => ?_, fun k q hk => ?_⟩
  · obtain ⟨h1, rfl⟩ := wsL_of hi
    obtain ⟨h2, rfl⟩ := wsL_of hj
    exact h.1 i j _ _ (wsL_at h1) (wsL_at h2) e
  · obtain ⟨h1, rfl⟩ := wsL_of hk
    exact h.2 k (ad w k, ent S w σ k) (wsL_at h1)
/-- a call of a method of the world that stands first; the other world stays -/
theorem y_call {S : Shp} {wx : Wc} {σ : Sg} {B : va_W} (hg : OY w A g d mc ms cc own nL) (hst0 : YS A wx g) (hD0 : dG wx = dG w) (hcA : tys wx = tys w) (hsr0 : ∀ s, SR w s → SR wx s) {kc ci N d2 idx na maxL : Nat} {T : u_T} {bytes : ByteArray} {rt : Option FieldType} {y : MethodName} {C : String} {As stk : List Value} {Pq : Int32 → Sg → Prop} (hM : CI S wx (gL g) d2 (.code y bytes maxL rt) y (.ref (ad wx kc) :: As) σ Pq) (hk : kd S kc = ci + 1) (h19 : ci < 19) (hc : vwCl[ci]? = some (C, T, N)) (hinst : Cond.instanceMethod y ∈ GT) (hsel : Cond.selects C y y ∈ GT) (hmi : MI y bytes maxL rt na C) (hlk : Cond.methodLink own idx y ∈ GT) (hR1 : Nat.ble (d2 + 1) d = true) (hR2 : Nat.ble maxL 21 = true) (h1 : Nat.ble k mc = true) (h2 : Nat.ble n ms = true) (hn : As.length = na) (hstk : stk = As.reverse ++ .ref (ad wx kc) :: st) (hsum : Nat.ble (st.map fun v => v.category).sum 8 = true) (hd : decode cc pc = .ok (.invokevirtual idx, 3)) (hp : pc + 3 = pc')
    (kk : ∀ r τ, Pq r τ → Y w A g Q pc' ls (.int r :: st) k n (wsL S wx τ ++ B)) : Y w A g Q pc ls stk k n (wsL S wx σ ++ B) := by
  obtain ⟨p, l, e, R, s, m, args, below, meth, c⟩ := g
  obtain ⟨hx, hb, hml, hown, hts, hR, hK, hlk2, hA, hsr⟩ := hg
  intro H locs lsA hP hD hS hlv
  subst hp; subst hstk
  obtain ⟨hcode, hini, hC, hdd⟩ := hmi
  subst hC
  have g1 := Nat.le_of_ble_eq_true hR1
  have g2 := Nat.le_of_ble_eq_true hR2
  have hPS : va_P (dG wx) vwCl (wsL S wx σ) H := by rw [hD0]; exact P_l hP
  have hinj : Inj S wx := D_inj (D_l hD)
  have hsub : ∀ q, FA S wx q → A q := fun q hq => FA_D hq (D_l hD)
  have hst : St (FA S wx) wx s H := (St.kept hst0 (fun a z1 z2 => hS.2.1 a z1 z2)).narrow hsub
  have cb : CallB R s args own idx y bytes maxL rt (.code y bytes maxL rt :: GT) (rm d2) 0 0 na := callB_of (Ts := GT) na hts (GT_good hcode) rfl rfl rfl (hts _ hini) (hts _ hlk) hdd ⟨Nat.le_trans g1 hR.1, by
    show 8 + (maxL + 11) + 40 * d2 ≤ R.locals
    have := hR.2.1
    omega⟩
  have hKx : va_K (dG wx) vwCl (tys wx) s := by rw [hD0, hcA]; exact hK
  refine va_calli (A0 := A) (va_runV (As := As) (rest := st) ⟨hx, hb, hml, hown, hts⟩ hM ⟨cb, hts _ hinst, hts _ hsel⟩ ⟨WP_blind, va_recv (D := dG wx) (cl := vwCl) (tys := tys wx) (ws := wsL S wx σ) hKx hPS hc (obj_at hk h19), fun U hU hW => ⟨rfl, by rw [hU]; exact hPS, va_K.moved hW.alike hKx, by rw [hU]; exact St.moved hW.alike hst, hinj, (hsr0 _ hsr).warm hW⟩⟩ rfl hn (hlv.1.trans hml) rfl (lv_room (Nat.le_of_ble_eq_true hsum)) hd ⟨Nat.le_trans (Nat.le_of_ble_eq_true h1) hR.2.2.1, Nat.le_trans (Nat.le_of_ble_eq_true h2) hR.2.2.2⟩) hS (fun q _ h => hsub q h) hsub (fun r u t H1 locs1 ht hvm hw hB hz hk1 hS1 => ?_)
  have hP1 := hB.1
  rw [ht, hD0] at hP1
  refine kk r u hw H1 locs1 lsA (va_P.app hP1 (fun j x hj => ?_)) ?_ hS1 hlv
  · have hx9 : x ∈ B := List.mem_of_getElem? hj
    refine (P_r hP j x hj).kept (hk1 x.1 ((P_r hP j x hj).lt) (fun h => ?_))
    obtain ⟨i, hi, e9⟩ := h
    exact D_x hD (List.mem_of_getElem? (wsL_at (w := wx) (σ := σ) hi)) hx9 e9.symm
  · refine va_D.app (wsL_D2 (D_l hD)) (D_r hD) (fun i j x z hi hj e => ?_)
    obtain ⟨h3, rfl⟩ := wsL_of hi
    exact D_x hD (List.mem_of_getElem? (wsL_at (w := wx) (σ := σ) h3)) (List.mem_of_getElem? hj) e
theorem y_swap {B1 B2 : va_W} (kk : Y w A g Q pc ls st k n (B2 ++ B1)) : Y w A g Q pc ls st k n (B1 ++ B2) := by
  obtain ⟨p, l, e, R, s, m, args, below, meth, c⟩ := g
  exact fun H locs lsA hP hD hS hl => kk H locs lsA (P_swap hP) (D_swap hD) hS hl
end YL
