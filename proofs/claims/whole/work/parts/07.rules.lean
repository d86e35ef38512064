theorem nl_prev {k : Nat} {ls : List (Option Value)} {x : Option Value} (hx : ls[k]? = some x) (hc : nl x = true) : ∀ j, j + 1 = k + 1 → ∀ a, ls[j]? = some a → nl a = true := by
  intro j hj a ha
  have : j = k := by omega
  subst this
  rw [hx] at ha
  cases ha
  exact hc
theorem nl_prev0 {ls : List (Option Value)} : ∀ j, j + 1 = 0 → ∀ a, ls[j]? = some a → nl a = true := fun j hj => by omega
section RULES
variable {S : Shp} {w : Wc} {g : Gx} {Q : State → Prop} {d : Nat} {cc : ByteArray} {own : String} {nL : Nat} {ret : Option FieldType} {pc pc' : Nat} {ls : List (Option Value)} {st : List Value} {σ : Sg}
theorem x_ic (hg : OK S w g d cc own nL ret) {n : Int} {v : Int32} (hd : decode cc pc = .ok (.iconst n, 1)) (hv : Int32.ofInt n = v) (hp : pc + 1 = pc') (k : X S w g Q pc' ls (.int v :: st) σ) : X S w g Q pc ls st σ := by
  obtain ⟨p, l, e, R, s, m, args, below, meth, c⟩ := g
  obtain ⟨hx, hb, hml, hown, hts, hR, hK, hr, hlk, hinj, hst, hsr⟩ := hg
  intro H locs lsA hP hS hl
  subst hp
  exact lv_iconst hx hb hd hv (k H locs lsA hP hS hl)
theorem x_bi (hg : OK S w g d cc own nL ret) {n : Int} {v : Int32} (hd : decode cc pc = .ok (.bipush n, 2)) (hv : (Int8.ofInt n).toInt32 = v) (hp : pc + 2 = pc') (k : X S w g Q pc' ls (.int v :: st) σ) : X S w g Q pc ls st σ := by
  obtain ⟨p, l, e, R, s, m, args, below, meth, c⟩ := g
  obtain ⟨hx, hb, hml, hown, hts, hR, hK, hr, hlk, hinj, hst, hsr⟩ := hg
  intro H locs lsA hP hS hl
  subst hp
  exact lv_bipush hx hb hd hv (k H locs lsA hP hS hl)
theorem x_si (hg : OK S w g d cc own nL ret) {n : Int} {v : Int32} (hd : decode cc pc = .ok (.sipush n, 3)) (hv : (Int16.ofInt n).toInt32 = v) (hp : pc + 3 = pc') (k : X S w g Q pc' ls (.int v :: st) σ) : X S w g Q pc ls st σ := by
  obtain ⟨p, l, e, R, s, m, args, below, meth, c⟩ := g
  obtain ⟨hx, hb, hml, hown, hts, hR, hK, hr, hlk, hinj, hst, hsr⟩ := hg
  intro H locs lsA hP hS hl
  subst hp
  exact lv_sipush hx hb hd hv (k H locs lsA hP hS hl)
theorem x_ldc (hg : OK S w g d cc own nL ret) {i : Nat} {v : Int32} (hc : Cond.constant own i v ∈ GT) (hd : decode cc pc = .ok (.ldc i, 2)) (hp : pc + 2 = pc') (k : X S w g Q pc' ls (.int v :: st) σ) : X S w g Q pc ls st σ := by
  obtain ⟨p, l, e, R, s, m, args, below, meth, c⟩ := g
  obtain ⟨hx, hb, hml, hown, hts, hR, hK, hr, hlk, hinj, hst, hsr⟩ := hg
  intro H locs lsA hP hS hl
  subst hp
  exact lv_ldc hx hb hown (hts _ hc) hd (k H locs lsA hP hS hl)
theorem x_ldcw (hg : OK S w g d cc own nL ret) {i : Nat} {v : Int32} (hc : Cond.constant own i v ∈ GT) (hd : decode cc pc = .ok (.ldc_w i, 3)) (hp : pc + 3 = pc') (k : X S w g Q pc' ls (.int v :: st) σ) : X S w g Q pc ls st σ := by
  obtain ⟨p, l, e, R, s, m, args, below, meth, c⟩ := g
  obtain ⟨hx, hb, hml, hown, hts, hR, hK, hr, hlk, hinj, hst, hsr⟩ := hg
  intro H locs lsA hP hS hl
  subst hp
  exact lv_ldcw hx hb hown (hts _ hc) hd (k H locs lsA hP hS hl)
theorem x_ldc2 (hg : OK S w g d cc own nL ret) {i : Nat} {v : Int64} (hc : Cond.constantLong own i v ∈ GT) (hd : decode cc pc = .ok (.ldc2_w i, 3)) (hp : pc + 3 = pc') (k : X S w g Q pc' ls (.long v :: st) σ) : X S w g Q pc ls st σ := by
  obtain ⟨p, l, e, R, s, m, args, below, meth, c⟩ := g
  obtain ⟨hx, hb, hml, hown, hts, hR, hK, hr, hlk, hinj, hst, hsr⟩ := hg
  intro H locs lsA hP hS hl
  subst hp
  exact lv_ldc2 hx hb hown (hts _ hc) hd (k H locs lsA hP hS hl)
theorem x_ldcS (hg : OK S w g d cc own nL ret) {i : Nat} {tx : String} (j : Int32) (hc : txR[ix j]? = some (own, i, tx)) (hd : decode cc pc = .ok (.ldc i, 2)) (hp : pc + 2 = pc') (k : X S w g Q pc' ls (.ref (sa w j) :: st) σ) : X S w g Q pc ls st σ := by
  obtain ⟨p, l, e, R, s, m, args, below, meth, c⟩ := g
  obtain ⟨hx, hb, hml, hown, hts, hR, hK, hr, hlk, hinj, hst, hsr⟩ := hg
  intro H locs lsA hP hS hl
  subst hp
  exact va_ldcS hx hb hown (hsr.1 _ _ hc) hd (k H locs lsA hP hS hl)
theorem x_iadd (hg : OK S w g d cc own nL ret) {x y : Int32} (hd : decode cc pc = .ok (.iadd, 1)) (hp : pc + 1 = pc') (k : X S w g Q pc' ls (.int (x + y) :: st) σ) : X S w g Q pc ls (.int y :: .int x :: st) σ := by
  obtain ⟨p, l, e, R, s, m, args, below, meth, c⟩ := g
  obtain ⟨hx, hb, hml, hown, hts, hR, hK, hr, hlk, hinj, hst, hsr⟩ := hg
  intro H locs lsA hP hS hl
  subst hp
  exact lv_iadd hx hb hd (k H locs lsA hP hS hl)
theorem x_isub (hg : OK S w g d cc own nL ret) {x y : Int32} (hd : decode cc pc = .ok (.isub, 1)) (hp : pc + 1 = pc') (k : X S w g Q pc' ls (.int (x - y) :: st) σ) : X S w g Q pc ls (.int y :: .int x :: st) σ := by
  obtain ⟨p, l, e, R, s, m, args, below, meth, c⟩ := g
  obtain ⟨hx, hb, hml, hown, hts, hR, hK, hr, hlk, hinj, hst, hsr⟩ := hg
  intro H locs lsA hP hS hl
  subst hp
  exact lv_isub hx hb hd (k H locs lsA hP hS hl)
theorem x_imul (hg : OK S w g d cc own nL ret) {x y : Int32} (hd : decode cc pc = .ok (.imul, 1)) (hp : pc + 1 = pc') (k : X S w g Q pc' ls (.int (x * y) :: st) σ) : X S w g Q pc ls (.int y :: .int x :: st) σ := by
  obtain ⟨p, l, e, R, s, m, args, below, meth, c⟩ := g
  obtain ⟨hx, hb, hml, hown, hts, hR, hK, hr, hlk, hinj, hst, hsr⟩ := hg
  intro H locs lsA hP hS hl
  subst hp
  exact lv_imul hx hb hd (k H locs lsA hP hS hl)
theorem x_iand (hg : OK S w g d cc own nL ret) {x y : Int32} (hd : decode cc pc = .ok (.iand, 1)) (hp : pc + 1 = pc') (k : X S w g Q pc' ls (.int (x &&& y) :: st) σ) : X S w g Q pc ls (.int y :: .int x :: st) σ := by
  obtain ⟨p, l, e, R, s, m, args, below, meth, c⟩ := g
  obtain ⟨hx, hb, hml, hown, hts, hR, hK, hr, hlk, hinj, hst, hsr⟩ := hg
  intro H locs lsA hP hS hl
  subst hp
  exact lv_iand hx hb hd (k H locs lsA hP hS hl)
theorem x_ior (hg : OK S w g d cc own nL ret) {x y : Int32} (hd : decode cc pc = .ok (.ior, 1)) (hp : pc + 1 = pc') (k : X S w g Q pc' ls (.int (x ||| y) :: st) σ) : X S w g Q pc ls (.int y :: .int x :: st) σ := by
  obtain ⟨p, l, e, R, s, m, args, below, meth, c⟩ := g
  obtain ⟨hx, hb, hml, hown, hts, hR, hK, hr, hlk, hinj, hst, hsr⟩ := hg
  intro H locs lsA hP hS hl
  subst hp
  exact lv_ior hx hb hd (k H locs lsA hP hS hl)
theorem x_ixor (hg : OK S w g d cc own nL ret) {x y : Int32} (hd : decode cc pc = .ok (.ixor, 1)) (hp : pc + 1 = pc') (k : X S w g Q pc' ls (.int (x ^^^ y) :: st) σ) : X S w g Q pc ls (.int y :: .int x :: st) σ := by
  obtain ⟨p, l, e, R, s, m, args, below, meth, c⟩ := g
  obtain ⟨hx, hb, hml, hown, hts, hR, hK, hr, hlk, hinj, hst, hsr⟩ := hg
  intro H locs lsA hP hS hl
  subst hp
  exact lv_ixor hx hb hd (k H locs lsA hP hS hl)
theorem x_ishl (hg : OK S w g d cc own nL ret) {x y : Int32} (hd : decode cc pc = .ok (.ishl, 1)) (hp : pc + 1 = pc') (k : X S w g Q pc' ls (.int (x <<< (y &&& 31)) :: st) σ) : X S w g Q pc ls (.int y :: .int x :: st) σ := by
  obtain ⟨p, l, e, R, s, m, args, below, meth, c⟩ := g
  obtain ⟨hx, hb, hml, hown, hts, hR, hK, hr, hlk, hinj, hst, hsr⟩ := hg
  intro H locs lsA hP hS hl
  subst hp
  exact lv_ishl hx hb hd (k H locs lsA hP hS hl)
theorem x_ishr (hg : OK S w g d cc own nL ret) {x y : Int32} (hd : decode cc pc = .ok (.ishr, 1)) (hp : pc + 1 = pc') (k : X S w g Q pc' ls (.int (x >>> (y &&& 31)) :: st) σ) : X S w g Q pc ls (.int y :: .int x :: st) σ := by
  obtain ⟨p, l, e, R, s, m, args, below, meth, c⟩ := g
  obtain ⟨hx, hb, hml, hown, hts, hR, hK, hr, hlk, hinj, hst, hsr⟩ := hg
  intro H locs lsA hP hS hl
  subst hp
  exact lv_ishr hx hb hd (k H locs lsA hP hS hl)
theorem x_land (hg : OK S w g d cc own nL ret) {x y : Int64} (hd : decode cc pc = .ok (.land, 1)) (hp : pc + 1 = pc') (k : X S w g Q pc' ls (.long (x &&& y) :: st) σ) : X S w g Q pc ls (.long y :: .long x :: st) σ := by
  obtain ⟨p, l, e, R, s, m, args, below, meth, c⟩ := g
  obtain ⟨hx, hb, hml, hown, hts, hR, hK, hr, hlk, hinj, hst, hsr⟩ := hg
  intro H locs lsA hP hS hl
  subst hp
  exact lv_land hx hb hd (k H locs lsA hP hS hl)
theorem x_lor (hg : OK S w g d cc own nL ret) {x y : Int64} (hd : decode cc pc = .ok (.lor, 1)) (hp : pc + 1 = pc') (k : X S w g Q pc' ls (.long (x ||| y) :: st) σ) : X S w g Q pc ls (.long y :: .long x :: st) σ := by
  obtain ⟨p, l, e, R, s, m, args, below, meth, c⟩ := g
  obtain ⟨hx, hb, hml, hown, hts, hR, hK, hr, hlk, hinj, hst, hsr⟩ := hg
  intro H locs lsA hP hS hl
  subst hp
  exact lv_lor hx hb hd (k H locs lsA hP hS hl)
theorem x_idiv (hg : OK S w g d cc own nL ret) {x y : Int32} (hd : decode cc pc = .ok (.idiv, 1)) (hne : ¬ y = 0) (hp : pc + 1 = pc') (k : X S w g Q pc' ls (.int (x / y) :: st) σ) : X S w g Q pc ls (.int y :: .int x :: st) σ := by
  obtain ⟨p, l, e, R, s, m, args, below, meth, c⟩ := g
  obtain ⟨hx, hb, hml, hown, hts, hR, hK, hr, hlk, hinj, hst, hsr⟩ := hg
  intro H locs lsA hP hS hl
  subst hp
  exact lv_idiv hx hb hd hne (k H locs lsA hP hS hl)
theorem x_irem (hg : OK S w g d cc own nL ret) {x y : Int32} (hd : decode cc pc = .ok (.irem, 1)) (hne : ¬ y = 0) (hp : pc + 1 = pc') (k : X S w g Q pc' ls (.int (x - x / y * y) :: st) σ) : X S w g Q pc ls (.int y :: .int x :: st) σ := by
  obtain ⟨p, l, e, R, s, m, args, below, meth, c⟩ := g
  obtain ⟨hx, hb, hml, hown, hts, hR, hK, hr, hlk, hinj, hst, hsr⟩ := hg
  intro H locs lsA hP hS hl
  subst hp
  exact lv_irem hx hb hd hne (k H locs lsA hP hS hl)
theorem x_iushr (hg : OK S w g d cc own nL ret) {x y : Int32} (hd : decode cc pc = .ok (.iushr, 1)) (hp : pc + 1 = pc') (k : X S w g Q pc' ls (.int ((x.toUInt32 >>> (y.toUInt32 &&& Int32.toUInt32 31)).toInt32) :: st) σ) : X S w g Q pc ls (.int y :: .int x :: st) σ := by
  obtain ⟨p, l, e, R, s, m, args, below, meth, c⟩ := g
  obtain ⟨hx, hb, hml, hown, hts, hR, hK, hr, hlk, hinj, hst, hsr⟩ := hg
  intro H locs lsA hP hS hl
  subst hp
  exact lv_iushr hx hb hd rfl (k H locs lsA hP hS hl)
theorem x_ineg (hg : OK S w g d cc own nL ret) {x : Int32} (hd : decode cc pc = .ok (.ineg, 1)) (hp : pc + 1 = pc') (k : X S w g Q pc' ls (.int (-x) :: st) σ) : X S w g Q pc ls (.int x :: st) σ := by
  obtain ⟨p, l, e, R, s, m, args, below, meth, c⟩ := g
  obtain ⟨hx, hb, hml, hown, hts, hR, hK, hr, hlk, hinj, hst, hsr⟩ := hg
  intro H locs lsA hP hS hl
  subst hp
  exact lv_ineg hx hb hd (k H locs lsA hP hS hl)
theorem x_i2l (hg : OK S w g d cc own nL ret) {x : Int32} (hd : decode cc pc = .ok (.i2l, 1)) (hp : pc + 1 = pc') (k : X S w g Q pc' ls (.long (x.toInt64) :: st) σ) : X S w g Q pc ls (.int x :: st) σ := by
  obtain ⟨p, l, e, R, s, m, args, below, meth, c⟩ := g
  obtain ⟨hx, hb, hml, hown, hts, hR, hK, hr, hlk, hinj, hst, hsr⟩ := hg
  intro H locs lsA hP hS hl
  subst hp
  exact lv_i2l hx hb hd rfl (k H locs lsA hP hS hl)
theorem x_l2i (hg : OK S w g d cc own nL ret) {x : Int64} (hd : decode cc pc = .ok (.l2i, 1)) (hp : pc + 1 = pc') (k : X S w g Q pc' ls (.int (x.toInt32) :: st) σ) : X S w g Q pc ls (.long x :: st) σ := by
  obtain ⟨p, l, e, R, s, m, args, below, meth, c⟩ := g
  obtain ⟨hx, hb, hml, hown, hts, hR, hK, hr, hlk, hinj, hst, hsr⟩ := hg
  intro H locs lsA hP hS hl
  subst hp
  exact lv_l2i hx hb hd rfl (k H locs lsA hP hS hl)
theorem x_i2b (hg : OK S w g d cc own nL ret) {x : Int32} (hd : decode cc pc = .ok (.i2b, 1)) (hp : pc + 1 = pc') (k : X S w g Q pc' ls (.int (x.toInt8.toInt32) :: st) σ) : X S w g Q pc ls (.int x :: st) σ := by
  obtain ⟨p, l, e, R, s, m, args, below, meth, c⟩ := g
  obtain ⟨hx, hb, hml, hown, hts, hR, hK, hr, hlk, hinj, hst, hsr⟩ := hg
  intro H locs lsA hP hS hl
  subst hp
  exact lv_i2b hx hb hd rfl (k H locs lsA hP hS hl)
theorem x_i2s (hg : OK S w g d cc own nL ret) {x : Int32} (hd : decode cc pc = .ok (.i2s, 1)) (hp : pc + 1 = pc') (k : X S w g Q pc' ls (.int (x.toInt16.toInt32) :: st) σ) : X S w g Q pc ls (.int x :: st) σ := by
  obtain ⟨p, l, e, R, s, m, args, below, meth, c⟩ := g
  obtain ⟨hx, hb, hml, hown, hts, hR, hK, hr, hlk, hinj, hst, hsr⟩ := hg
  intro H locs lsA hP hS hl
  subst hp
  exact lv_i2s hx hb hd rfl (k H locs lsA hP hS hl)
theorem x_i2c (hg : OK S w g d cc own nL ret) {x : Int32} (hd : decode cc pc = .ok (.i2c, 1)) (hp : pc + 1 = pc') (k : X S w g Q pc' ls (.int ((x.toUInt32 % 65536).toInt32) :: st) σ) : X S w g Q pc ls (.int x :: st) σ := by
  obtain ⟨p, l, e, R, s, m, args, below, meth, c⟩ := g
  obtain ⟨hx, hb, hml, hown, hts, hR, hK, hr, hlk, hinj, hst, hsr⟩ := hg
  intro H locs lsA hP hS hl
  subst hp
  exact lv_i2c hx hb hd rfl (k H locs lsA hP hS hl)
theorem x_lshl (hg : OK S w g d cc own nL ret) {x : Int64} {y : Int32} (hd : decode cc pc = .ok (.lshl, 1)) (hp : pc + 1 = pc') (k : X S w g Q pc' ls (.long (x <<< (y.toInt64 &&& 63)) :: st) σ) : X S w g Q pc ls (.int y :: .long x :: st) σ := by
  obtain ⟨p, l, e, R, s, m, args, below, meth, c⟩ := g
  obtain ⟨hx, hb, hml, hown, hts, hR, hK, hr, hlk, hinj, hst, hsr⟩ := hg
  intro H locs lsA hP hS hl
  subst hp
  exact lv_lshl hx hb hd rfl (k H locs lsA hP hS hl)
theorem x_lshr (hg : OK S w g d cc own nL ret) {x : Int64} {y : Int32} (hd : decode cc pc = .ok (.lshr, 1)) (hp : pc + 1 = pc') (k : X S w g Q pc' ls (.long (x >>> (y.toInt64 &&& 63)) :: st) σ) : X S w g Q pc ls (.int y :: .long x :: st) σ := by
  obtain ⟨p, l, e, R, s, m, args, below, meth, c⟩ := g
  obtain ⟨hx, hb, hml, hown, hts, hR, hK, hr, hlk, hinj, hst, hsr⟩ := hg
  intro H locs lsA hP hS hl
  subst hp
  exact lv_lshr hx hb hd rfl (k H locs lsA hP hS hl)
theorem x_lushr (hg : OK S w g d cc own nL ret) {x : Int64} {y : Int32} (hd : decode cc pc = .ok (.lushr, 1)) (hp : pc + 1 = pc') (k : X S w g Q pc' ls (.long ((x.toUInt64 >>> (y.toInt64.toUInt64 &&& Int64.toUInt64 63)).toInt64) :: st) σ) : X S w g Q pc ls (.int y :: .long x :: st) σ := by
  obtain ⟨p, l, e, R, s, m, args, below, meth, c⟩ := g
  obtain ⟨hx, hb, hml, hown, hts, hR, hK, hr, hlk, hinj, hst, hsr⟩ := hg
  intro H locs lsA hP hS hl
  subst hp
  exact lv_lushr hx hb hd rfl (k H locs lsA hP hS hl)
theorem x_pop (hg : OK S w g d cc own nL ret) {v : Value} (hd : decode cc pc = .ok (.pop, 1)) (hv : v.category = 1) (hp : pc + 1 = pc') (k : X S w g Q pc' ls st σ) : X S w g Q pc ls (v :: st) σ := by
  obtain ⟨p, l, e, R, s, m, args, below, meth, c⟩ := g
  obtain ⟨hx, hb, hml, hown, hts, hR, hK, hr, hlk, hinj, hst, hsr⟩ := hg
  intro H locs lsA hP hS hl
  subst hp
  exact lv_pop hx hb hd hv (k H locs lsA hP hS hl)
theorem x_dup (hg : OK S w g d cc own nL ret) {v : Value} (hd : decode cc pc = .ok (.dup, 1)) (hv : v.category = 1) (hp : pc + 1 = pc') (k : X S w g Q pc' ls (v :: v :: st) σ) : X S w g Q pc ls (v :: st) σ := by
  obtain ⟨p, l, e, R, s, m, args, below, meth, c⟩ := g
  obtain ⟨hx, hb, hml, hown, hts, hR, hK, hr, hlk, hinj, hst, hsr⟩ := hg
  intro H locs lsA hP hS hl
  subst hp
  exact lv_dup hx hb hd hv (k H locs lsA hP hS hl)
theorem x_dup2 (hg : OK S w g d cc own nL ret) {v u : Value} (hd : decode cc pc = .ok (.dup2, 1)) (hv : v.category = 1) (hu : u.category = 1) (hp : pc + 1 = pc') (k : X S w g Q pc' ls (v :: u :: v :: u :: st) σ) : X S w g Q pc ls (v :: u :: st) σ := by
  obtain ⟨p, l, e, R, s, m, args, below, meth, c⟩ := g
  obtain ⟨hx, hb, hml, hown, hts, hR, hK, hr, hlk, hinj, hst, hsr⟩ := hg
  intro H locs lsA hP hS hl
  subst hp
  exact lv_dup2_11 hx hb hd hv hu (k H locs lsA hP hS hl)
theorem x_goto (hg : OK S w g d cc own nL ret) {off : Int} (hd : decode cc pc = .ok (.goto off, 3)) (ht : (pc : Int) + off = (pc' : Int)) (k : X S w g Q pc' ls st σ) : X S w g Q pc ls st σ := by
  obtain ⟨p, l, e, R, s, m, args, below, meth, c⟩ := g
  obtain ⟨hx, hb, hml, hown, hts, hR, hK, hr, hlk, hinj, hst, hsr⟩ := hg
  intro H locs lsA hP hS hl
  exact lv_goto hx hb hd ht (k H locs lsA hP hS hl)
theorem x_if_eq (hg : OK S w g d cc own nL ret) {x : Int32} {off : Int} {tg : Nat} {B C : Prop} (hd : decode cc pc = .ok (.ifCond .eq off, 3)) (ht : (pc : Int) + off = (tg : Int)) (hp : pc + 3 = pc') (hw : (x = 0 → B) ∧ (¬ x = 0 → C)) (k1 : B → X S w g Q tg ls st σ) (k2 : C → X S w g Q pc' ls st σ) : X S w g Q pc ls (.int x :: st) σ := by
  obtain ⟨p, l, e, R, s, m, args, below, meth, c⟩ := g
  obtain ⟨hx, hb, hml, hown, hts, hR, hK, hr, hlk, hinj, hst, hsr⟩ := hg
  intro H locs lsA hP hS hl
  subst hp
  exact lv_if_eq hx hb hd ht (fun h => k1 (hw.1 h) H locs lsA hP hS hl) (fun h => k2 (hw.2 h) H locs lsA hP hS hl)
theorem x_icmp_eq (hg : OK S w g d cc own nL ret) {x y : Int32} {off : Int} {tg : Nat} {B C : Prop} (hd : decode cc pc = .ok (.if_icmp .eq off, 3)) (ht : (pc : Int) + off = (tg : Int)) (hp : pc + 3 = pc') (hw : (x = y → B) ∧ (¬ x = y → C)) (k1 : B → X S w g Q tg ls st σ) (k2 : C → X S w g Q pc' ls st σ) : X S w g Q pc ls (.int y :: .int x :: st) σ := by
  obtain ⟨p, l, e, R, s, m, args, below, meth, c⟩ := g
  obtain ⟨hx, hb, hml, hown, hts, hR, hK, hr, hlk, hinj, hst, hsr⟩ := hg
  intro H locs lsA hP hS hl
  subst hp
  exact lv_icmp_eq hx hb hd ht (fun h => k1 (hw.1 h) H locs lsA hP hS hl) (fun h => k2 (hw.2 h) H locs lsA hP hS hl)
theorem x_if_ne (hg : OK S w g d cc own nL ret) {x : Int32} {off : Int} {tg : Nat} {B C : Prop} (hd : decode cc pc = .ok (.ifCond .ne off, 3)) (ht : (pc : Int) + off = (tg : Int)) (hp : pc + 3 = pc') (hw : (¬ x = 0 → B) ∧ (x = 0 → C)) (k1 : B → X S w g Q tg ls st σ) (k2 : C → X S w g Q pc' ls st σ) : X S w g Q pc ls (.int x :: st) σ := by
  obtain ⟨p, l, e, R, s, m, args, below, meth, c⟩ := g
  obtain ⟨hx, hb, hml, hown, hts, hR, hK, hr, hlk, hinj, hst, hsr⟩ := hg
  intro H locs lsA hP hS hl
  subst hp
  exact lv_if_ne hx hb hd ht (fun h => k1 (hw.1 h) H locs lsA hP hS hl) (fun h => k2 (hw.2 h) H locs lsA hP hS hl)
theorem x_icmp_ne (hg : OK S w g d cc own nL ret) {x y : Int32} {off : Int} {tg : Nat} {B C : Prop} (hd : decode cc pc = .ok (.if_icmp .ne off, 3)) (ht : (pc : Int) + off = (tg : Int)) (hp : pc + 3 = pc') (hw : (¬ x = y → B) ∧ (x = y → C)) (k1 : B → X S w g Q tg ls st σ) (k2 : C → X S w g Q pc' ls st σ) : X S w g Q pc ls (.int y :: .int x :: st) σ := by
  obtain ⟨p, l, e, R, s, m, args, below, meth, c⟩ := g
  obtain ⟨hx, hb, hml, hown, hts, hR, hK, hr, hlk, hinj, hst, hsr⟩ := hg
  intro H locs lsA hP hS hl
  subst hp
  exact lv_icmp_ne hx hb hd ht (fun h => k1 (hw.1 h) H locs lsA hP hS hl) (fun h => k2 (hw.2 h) H locs lsA hP hS hl)
theorem x_if_lt (hg : OK S w g d cc own nL ret) {x : Int32} {off : Int} {tg : Nat} {B C : Prop} (hd : decode cc pc = .ok (.ifCond .lt off, 3)) (ht : (pc : Int) + off = (tg : Int)) (hp : pc + 3 = pc') (hw : (x < 0 → B) ∧ (¬ x < 0 → C)) (k1 : B → X S w g Q tg ls st σ) (k2 : C → X S w g Q pc' ls st σ) : X S w g Q pc ls (.int x :: st) σ := by
  obtain ⟨p, l, e, R, s, m, args, below, meth, c⟩ := g
  obtain ⟨hx, hb, hml, hown, hts, hR, hK, hr, hlk, hinj, hst, hsr⟩ := hg
  intro H locs lsA hP hS hl
  subst hp
  exact lv_if_lt hx hb hd ht (fun h => k1 (hw.1 h) H locs lsA hP hS hl) (fun h => k2 (hw.2 h) H locs lsA hP hS hl)
theorem x_icmp_lt (hg : OK S w g d cc own nL ret) {x y : Int32} {off : Int} {tg : Nat} {B C : Prop} (hd : decode cc pc = .ok (.if_icmp .lt off, 3)) (ht : (pc : Int) + off = (tg : Int)) (hp : pc + 3 = pc') (hw : (x < y → B) ∧ (¬ x < y → C)) (k1 : B → X S w g Q tg ls st σ) (k2 : C → X S w g Q pc' ls st σ) : X S w g Q pc ls (.int y :: .int x :: st) σ := by
  obtain ⟨p, l, e, R, s, m, args, below, meth, c⟩ := g
  obtain ⟨hx, hb, hml, hown, hts, hR, hK, hr, hlk, hinj, hst, hsr⟩ := hg
  intro H locs lsA hP hS hl
  subst hp
  exact lv_icmp_lt hx hb hd ht (fun h => k1 (hw.1 h) H locs lsA hP hS hl) (fun h => k2 (hw.2 h) H locs lsA hP hS hl)
theorem x_if_ge (hg : OK S w g d cc own nL ret) {x : Int32} {off : Int} {tg : Nat} {B C : Prop} (hd : decode cc pc = .ok (.ifCond .ge off, 3)) (ht : (pc : Int) + off = (tg : Int)) (hp : pc + 3 = pc') (hw : (0 ≤ x → B) ∧ (¬ 0 ≤ x → C)) (k1 : B → X S w g Q tg ls st σ) (k2 : C → X S w g Q pc' ls st σ) : X S w g Q pc ls (.int x :: st) σ := by
  obtain ⟨p, l, e, R, s, m, args, below, meth, c⟩ := g
  obtain ⟨hx, hb, hml, hown, hts, hR, hK, hr, hlk, hinj, hst, hsr⟩ := hg
  intro H locs lsA hP hS hl
  subst hp
  exact lv_if_ge hx hb hd ht (fun h => k1 (hw.1 h) H locs lsA hP hS hl) (fun h => k2 (hw.2 h) H locs lsA hP hS hl)
theorem x_icmp_ge (hg : OK S w g d cc own nL ret) {x y : Int32} {off : Int} {tg : Nat} {B C : Prop} (hd : decode cc pc = .ok (.if_icmp .ge off, 3)) (ht : (pc : Int) + off = (tg : Int)) (hp : pc + 3 = pc') (hw : (y ≤ x → B) ∧ (¬ y ≤ x → C)) (k1 : B → X S w g Q tg ls st σ) (k2 : C → X S w g Q pc' ls st σ) : X S w g Q pc ls (.int y :: .int x :: st) σ := by
  obtain ⟨p, l, e, R, s, m, args, below, meth, c⟩ := g
  obtain ⟨hx, hb, hml, hown, hts, hR, hK, hr, hlk, hinj, hst, hsr⟩ := hg
  intro H locs lsA hP hS hl
  subst hp
  exact lv_icmp_ge hx hb hd ht (fun h => k1 (hw.1 h) H locs lsA hP hS hl) (fun h => k2 (hw.2 h) H locs lsA hP hS hl)
theorem x_if_gt (hg : OK S w g d cc own nL ret) {x : Int32} {off : Int} {tg : Nat} {B C : Prop} (hd : decode cc pc = .ok (.ifCond .gt off, 3)) (ht : (pc : Int) + off = (tg : Int)) (hp : pc + 3 = pc') (hw : (0 < x → B) ∧ (¬ 0 < x → C)) (k1 : B → X S w g Q tg ls st σ) (k2 : C → X S w g Q pc' ls st σ) : X S w g Q pc ls (.int x :: st) σ := by
  obtain ⟨p, l, e, R, s, m, args, below, meth, c⟩ := g
  obtain ⟨hx, hb, hml, hown, hts, hR, hK, hr, hlk, hinj, hst, hsr⟩ := hg
  intro H locs lsA hP hS hl
  subst hp
  exact lv_if_gt hx hb hd ht (fun h => k1 (hw.1 h) H locs lsA hP hS hl) (fun h => k2 (hw.2 h) H locs lsA hP hS hl)
theorem x_icmp_gt (hg : OK S w g d cc own nL ret) {x y : Int32} {off : Int} {tg : Nat} {B C : Prop} (hd : decode cc pc = .ok (.if_icmp .gt off, 3)) (ht : (pc : Int) + off = (tg : Int)) (hp : pc + 3 = pc') (hw : (y < x → B) ∧ (¬ y < x → C)) (k1 : B → X S w g Q tg ls st σ) (k2 : C → X S w g Q pc' ls st σ) : X S w g Q pc ls (.int y :: .int x :: st) σ := by
  obtain ⟨p, l, e, R, s, m, args, below, meth, c⟩ := g
  obtain ⟨hx, hb, hml, hown, hts, hR, hK, hr, hlk, hinj, hst, hsr⟩ := hg
  intro H locs lsA hP hS hl
  subst hp
  exact lv_icmp_gt hx hb hd ht (fun h => k1 (hw.1 h) H locs lsA hP hS hl) (fun h => k2 (hw.2 h) H locs lsA hP hS hl)
theorem x_if_le (hg : OK S w g d cc own nL ret) {x : Int32} {off : Int} {tg : Nat} {B C : Prop} (hd : decode cc pc = .ok (.ifCond .le off, 3)) (ht : (pc : Int) + off = (tg : Int)) (hp : pc + 3 = pc') (hw : (x ≤ 0 → B) ∧ (¬ x ≤ 0 → C)) (k1 : B → X S w g Q tg ls st σ) (k2 : C → X S w g Q pc' ls st σ) : X S w g Q pc ls (.int x :: st) σ := by
  obtain ⟨p, l, e, R, s, m, args, below, meth, c⟩ := g
  obtain ⟨hx, hb, hml, hown, hts, hR, hK, hr, hlk, hinj, hst, hsr⟩ := hg
  intro H locs lsA hP hS hl
  subst hp
  exact lv_if_le hx hb hd ht (fun h => k1 (hw.1 h) H locs lsA hP hS hl) (fun h => k2 (hw.2 h) H locs lsA hP hS hl)
theorem x_icmp_le (hg : OK S w g d cc own nL ret) {x y : Int32} {off : Int} {tg : Nat} {B C : Prop} (hd : decode cc pc = .ok (.if_icmp .le off, 3)) (ht : (pc : Int) + off = (tg : Int)) (hp : pc + 3 = pc') (hw : (x ≤ y → B) ∧ (¬ x ≤ y → C)) (k1 : B → X S w g Q tg ls st σ) (k2 : C → X S w g Q pc' ls st σ) : X S w g Q pc ls (.int y :: .int x :: st) σ := by
  obtain ⟨p, l, e, R, s, m, args, below, meth, c⟩ := g
  obtain ⟨hx, hb, hml, hown, hts, hR, hK, hr, hlk, hinj, hst, hsr⟩ := hg
  intro H locs lsA hP hS hl
  subst hp
  exact lv_icmp_le hx hb hd ht (fun h => k1 (hw.1 h) H locs lsA hP hS hl) (fun h => k2 (hw.2 h) H locs lsA hP hS hl)
theorem x_br {c B C : Prop} {G : Prop} (hw : (c → B) ∧ (¬ c → C)) (k1 : c → B → G) (k2 : ¬ c → C → G) : G := by
  by_cases h : c
  · exact k1 h (hw.1 h)
  · exact k2 h (hw.2 h)
theorem x_ifnullR (hg : OK S w g d cc own nL ret) {x : Nat} {off : Int} (hd : decode cc pc = .ok (.ifnull off, 3)) (hp : pc + 3 = pc') (k : X S w g Q pc' ls st σ) : X S w g Q pc ls (.ref x :: st) σ := by
  obtain ⟨p, l, e, R, s, m, args, below, meth, c⟩ := g
  obtain ⟨hx, hb, hml, hown, hts, hR, hK, hr, hlk, hinj, hst, hsr⟩ := hg
  intro H locs lsA hP hS hl
  subst hp
  exact lv_ifnull hx hb hd (k H locs lsA hP hS hl)
theorem x_ifnullN (hg : OK S w g d cc own nL ret) {off : Int} (hd : decode cc pc = .ok (.ifnull off, 3)) (ht : (pc : Int) + off = (pc' : Int)) (k : X S w g Q pc' ls st σ) : X S w g Q pc ls (.null :: st) σ := by
  obtain ⟨p, l, e, R, s, m, args, below, meth, c⟩ := g
  obtain ⟨hx, hb, hml, hown, hts, hR, hK, hr, hlk, hinj, hst, hsr⟩ := hg
  intro H locs lsA hP hS hl
  exact lv_ifnullN hx hb hd ht (k H locs lsA hP hS hl)
theorem x_iload_0 (hg : OK S w g d cc own nL ret) {x : Int32} (hd : decode cc pc = .ok (.iload_n 0, 1)) (hp : pc + 1 = pc') (k : X S w g Q pc' (some (.int x) :: ls) (.int x :: st) σ) : X S w g Q pc (some (.int x) :: ls) st σ := by
  obtain ⟨p, l, e, R, s, m, args, below, meth, c⟩ := g
  obtain ⟨hx, hb, hml, hown, hts, hR, hK, hr, hlk, hinj, hst, hsr⟩ := hg
  intro H locs lsA hP hS hl
  subst hp
  exact lv_iload_n hx hb hd rfl (lv_l hl (k := 0) rfl) (k H locs lsA hP hS hl)
theorem x_aload_0 (hg : OK S w g d cc own nL ret) {x : Nat} (hd : decode cc pc = .ok (.aload_n 0, 1)) (hp : pc + 1 = pc') (k : X S w g Q pc' (some (.ref x) :: ls) (.ref x :: st) σ) : X S w g Q pc (some (.ref x) :: ls) st σ := by
  obtain ⟨p, l, e, R, s, m, args, below, meth, c⟩ := g
  obtain ⟨hx, hb, hml, hown, hts, hR, hK, hr, hlk, hinj, hst, hsr⟩ := hg
  intro H locs lsA hP hS hl
  subst hp
  exact lv_aload_n hx hb hd rfl (lv_l hl (k := 0) rfl) (k H locs lsA hP hS hl)
theorem x_lload_0 (hg : OK S w g d cc own nL ret) {x : Int64} (hd : decode cc pc = .ok (.lload_n 0, 1)) (hp : pc + 1 = pc') (k : X S w g Q pc' (some (.long x) :: ls) (.long x :: st) σ) : X S w g Q pc (some (.long x) :: ls) st σ := by
  obtain ⟨p, l, e, R, s, m, args, below, meth, c⟩ := g
  obtain ⟨hx, hb, hml, hown, hts, hR, hK, hr, hlk, hinj, hst, hsr⟩ := hg
  intro H locs lsA hP hS hl
  subst hp
  exact lv_lload_n hx hb hd rfl (lv_l hl (k := 0) rfl) (k H locs lsA hP hS hl)
theorem x_istore_0 (hg : OK S w g d cc own nL ret) {a0 : Option Value} {x : Int32} (hd : decode cc pc = .ok (.istore_n 0, 1)) (hn : Nat.ble 1 nL = true) (hp : pc + 1 = pc') (k : X S w g Q pc' (some (.int x) :: ls) st σ) : X S w g Q pc (a0 :: ls) (.int x :: st) σ := by
  obtain ⟨p, l, e, R, s, m, args, below, meth, c⟩ := g
  obtain ⟨hx, hb, hml, hown, hts, hR, hK, hr, hlk, hinj, hst, hsr⟩ := hg
  intro H locs lsA hP hS hl
  subst hp
  have hn2 : 0 < c.maxLocals := by rw [hml]; exact Nat.le_of_ble_eq_true hn
  exact lv_istore_n hx hb hd rfl hl hn2 rfl (fun ls2 hl2 => k H locs ls2 hP hS (lv_stL (k := 0) (ls := (a0 :: ls)) hl2 (by simp) nl_prev0))
theorem x_astore_0 (hg : OK S w g d cc own nL ret) {a0 : Option Value} {x : Nat} (hd : decode cc pc = .ok (.astore_n 0, 1)) (hn : Nat.ble 1 nL = true) (hp : pc + 1 = pc') (k : X S w g Q pc' (some (.ref x) :: ls) st σ) : X S w g Q pc (a0 :: ls) (.ref x :: st) σ := by
  obtain ⟨p, l, e, R, s, m, args, below, meth, c⟩ := g
  obtain ⟨hx, hb, hml, hown, hts, hR, hK, hr, hlk, hinj, hst, hsr⟩ := hg
  intro H locs lsA hP hS hl
  subst hp
  have hn2 : 0 < c.maxLocals := by rw [hml]; exact Nat.le_of_ble_eq_true hn
  exact lv_astore_n hx hb hd rfl hl hn2 rfl (fun ls2 hl2 => k H locs ls2 hP hS (lv_stL (k := 0) (ls := (a0 :: ls)) hl2 (by simp) nl_prev0))
theorem x_iinc_0 (hg : OK S w g d cc own nL ret) {x v : Int32} {n : Int} (hd : decode cc pc = .ok (.iinc 0 n, 3)) (hv : Int32.ofInt n = v) (hn : Nat.ble 1 nL = true) (hp : pc + 3 = pc') (k : X S w g Q pc' (some (.int (x + v)) :: ls) st σ) : X S w g Q pc (some (.int x) :: ls) st σ := by
  obtain ⟨p, l, e, R, s, m, args, below, meth, c⟩ := g
  obtain ⟨hx, hb, hml, hown, hts, hR, hK, hr, hlk, hinj, hst, hsr⟩ := hg
  intro H locs lsA hP hS hl
  subst hp
  subst hv
  have hn2 : 0 < c.maxLocals := by rw [hml]; exact Nat.le_of_ble_eq_true hn
  obtain ⟨j, hj⟩ := List.getElem?_of_mem ((toL_mem (q := (0, .int x)) (some (.int x) :: ls) 0).mpr ⟨0, rfl, by simp⟩)
  exact lv_iinc hx hb hd hl hj rfl hn2 rfl (fun ls2 hl2 => k H locs ls2 hP hS (lv_stL (k := 0) (ls := (some (.int x) :: ls)) hl2 (by simp) nl_prev0))
theorem x_drop_0 {a0 : Option Value} (k : X S w g Q pc (none :: ls) st σ) : X S w g Q pc (a0 :: ls) st σ := by
  obtain ⟨p, l, e, R, s, m, args, below, meth, c⟩ := g
  intro H locs lsA hP hS hl
  refine k H locs lsA hP hS ⟨hl.1, hl.2.1, fun q hq => hl.2.2 q ?_⟩
  obtain ⟨j, h1, h2⟩ := (toL_mem _ 0).mp hq
  refine (toL_mem _ 0).mpr ⟨j, ?_, h2⟩
  rcases j with _ | j <;> first | exact h1 | simp at h1
theorem x_iload_1 (hg : OK S w g d cc own nL ret) {a0 : Option Value} {x : Int32} (hd : decode cc pc = .ok (.iload_n 1, 1)) (hp : pc + 1 = pc') (k : X S w g Q pc' (a0 :: some (.int x) :: ls) (.int x :: st) σ) : X S w g Q pc (a0 :: some (.int x) :: ls) st σ := by
  obtain ⟨p, l, e, R, s, m, args, below, meth, c⟩ := g
  obtain ⟨hx, hb, hml, hown, hts, hR, hK, hr, hlk, hinj, hst, hsr⟩ := hg
  intro H locs lsA hP hS hl
  subst hp
  exact lv_iload_n hx hb hd rfl (lv_l hl (k := 1) rfl) (k H locs lsA hP hS hl)
theorem x_aload_1 (hg : OK S w g d cc own nL ret) {a0 : Option Value} {x : Nat} (hd : decode cc pc = .ok (.aload_n 1, 1)) (hp : pc + 1 = pc') (k : X S w g Q pc' (a0 :: some (.ref x) :: ls) (.ref x :: st) σ) : X S w g Q pc (a0 :: some (.ref x) :: ls) st σ := by
  obtain ⟨p, l, e, R, s, m, args, below, meth, c⟩ := g
  obtain ⟨hx, hb, hml, hown, hts, hR, hK, hr, hlk, hinj, hst, hsr⟩ := hg
  intro H locs lsA hP hS hl
  subst hp
  exact lv_aload_n hx hb hd rfl (lv_l hl (k := 1) rfl) (k H locs lsA hP hS hl)
theorem x_lload_1 (hg : OK S w g d cc own nL ret) {a0 : Option Value} {x : Int64} (hd : decode cc pc = .ok (.lload_n 1, 1)) (hp : pc + 1 = pc') (k : X S w g Q pc' (a0 :: some (.long x) :: ls) (.long x :: st) σ) : X S w g Q pc (a0 :: some (.long x) :: ls) st σ := by
  obtain ⟨p, l, e, R, s, m, args, below, meth, c⟩ := g
  obtain ⟨hx, hb, hml, hown, hts, hR, hK, hr, hlk, hinj, hst, hsr⟩ := hg
  intro H locs lsA hP hS hl
  subst hp
  exact lv_lload_n hx hb hd rfl (lv_l hl (k := 1) rfl) (k H locs lsA hP hS hl)
theorem x_istore_1 (hg : OK S w g d cc own nL ret) {a0 a1 : Option Value} {x : Int32} (hd : decode cc pc = .ok (.istore_n 1, 1)) (hc : nl a0 = true) (hn : Nat.ble 2 nL = true) (hp : pc + 1 = pc') (k : X S w g Q pc' (a0 :: some (.int x) :: ls) st σ) : X S w g Q pc (a0 :: a1 :: ls) (.int x :: st) σ := by
  obtain ⟨p, l, e, R, s, m, args, below, meth, c⟩ := g
  obtain ⟨hx, hb, hml, hown, hts, hR, hK, hr, hlk, hinj, hst, hsr⟩ := hg
  intro H locs lsA hP hS hl
  subst hp
  have hn2 : 1 < c.maxLocals := by rw [hml]; exact Nat.le_of_ble_eq_true hn
  exact lv_istore_n hx hb hd rfl hl hn2 rfl (fun ls2 hl2 => k H locs ls2 hP hS (lv_stL (k := 1) (ls := (a0 :: a1 :: ls)) hl2 (by simp) (nl_prev (k := 0) rfl hc)))
theorem x_astore_1 (hg : OK S w g d cc own nL ret) {a0 a1 : Option Value} {x : Nat} (hd : decode cc pc = .ok (.astore_n 1, 1)) (hc : nl a0 = true) (hn : Nat.ble 2 nL = true) (hp : pc + 1 = pc') (k : X S w g Q pc' (a0 :: some (.ref x) :: ls) st σ) : X S w g Q pc (a0 :: a1 :: ls) (.ref x :: st) σ := by
  obtain ⟨p, l, e, R, s, m, args, below, meth, c⟩ := g
  obtain ⟨hx, hb, hml, hown, hts, hR, hK, hr, hlk, hinj, hst, hsr⟩ := hg
  intro H locs lsA hP hS hl
  subst hp
  have hn2 : 1 < c.maxLocals := by rw [hml]; exact Nat.le_of_ble_eq_true hn
  exact lv_astore_n hx hb hd rfl hl hn2 rfl (fun ls2 hl2 => k H locs ls2 hP hS (lv_stL (k := 1) (ls := (a0 :: a1 :: ls)) hl2 (by simp) (nl_prev (k := 0) rfl hc)))
theorem x_iinc_1 (hg : OK S w g d cc own nL ret) {a0 : Option Value} {x v : Int32} {n : Int} (hd : decode cc pc = .ok (.iinc 1 n, 3)) (hv : Int32.ofInt n = v) (hc : nl a0 = true) (hn : Nat.ble 2 nL = true) (hp : pc + 3 = pc') (k : X S w g Q pc' (a0 :: some (.int (x + v)) :: ls) st σ) : X S w g Q pc (a0 :: some (.int x) :: ls) st σ := by
  obtain ⟨p, l, e, R, s, m, args, below, meth, c⟩ := g
  obtain ⟨hx, hb, hml, hown, hts, hR, hK, hr, hlk, hinj, hst, hsr⟩ := hg
  intro H locs lsA hP hS hl
  subst hp
  subst hv
  have hn2 : 1 < c.maxLocals := by rw [hml]; exact Nat.le_of_ble_eq_true hn
  obtain ⟨j, hj⟩ := List.getElem?_of_mem ((toL_mem (q := (1, .int x)) (a0 :: some (.int x) :: ls) 0).mpr ⟨1, rfl, by simp⟩)
  exact lv_iinc hx hb hd hl hj rfl hn2 rfl (fun ls2 hl2 => k H locs ls2 hP hS (lv_stL (k := 1) (ls := (a0 :: some (.int x) :: ls)) hl2 (by simp) (nl_prev (k := 0) rfl hc)))
theorem x_drop_1 {a0 a1 : Option Value} (k : X S w g Q pc (a0 :: none :: ls) st σ) : X S w g Q pc (a0 :: a1 :: ls) st σ := by
  obtain ⟨p, l, e, R, s, m, args, below, meth, c⟩ := g
  intro H locs lsA hP hS hl
  refine k H locs lsA hP hS ⟨hl.1, hl.2.1, fun q hq => hl.2.2 q ?_⟩
  obtain ⟨j, h1, h2⟩ := (toL_mem _ 0).mp hq
  refine (toL_mem _ 0).mpr ⟨j, ?_, h2⟩
  rcases j with _ | _ | j <;> first | exact h1 | simp at h1
theorem x_iload_2 (hg : OK S w g d cc own nL ret) {a0 a1 : Option Value} {x : Int32} (hd : decode cc pc = .ok (.iload_n 2, 1)) (hp : pc + 1 = pc') (k : X S w g Q pc' (a0 :: a1 :: some (.int x) :: ls) (.int x :: st) σ) : X S w g Q pc (a0 :: a1 :: some (.int x) :: ls) st σ := by
  obtain ⟨p, l, e, R, s, m, args, below, meth, c⟩ := g
  obtain ⟨hx, hb, hml, hown, hts, hR, hK, hr, hlk, hinj, hst, hsr⟩ := hg
  intro H locs lsA hP hS hl
  subst hp
  exact lv_iload_n hx hb hd rfl (lv_l hl (k := 2) rfl) (k H locs lsA hP hS hl)
theorem x_aload_2 (hg : OK S w g d cc own nL ret) {a0 a1 : Option Value} {x : Nat} (hd : decode cc pc = .ok (.aload_n 2, 1)) (hp : pc + 1 = pc') (k : X S w g Q pc' (a0 :: a1 :: some (.ref x) :: ls) (.ref x :: st) σ) : X S w g Q pc (a0 :: a1 :: some (.ref x) :: ls) st σ := by
  obtain ⟨p, l, e, R, s, m, args, below, meth, c⟩ := g
  obtain ⟨hx, hb, hml, hown, hts, hR, hK, hr, hlk, hinj, hst, hsr⟩ := hg
  intro H locs lsA hP hS hl
  subst hp
  exact lv_aload_n hx hb hd rfl (lv_l hl (k := 2) rfl) (k H locs lsA hP hS hl)
theorem x_lload_2 (hg : OK S w g d cc own nL ret) {a0 a1 : Option Value} {x : Int64} (hd : decode cc pc = .ok (.lload_n 2, 1)) (hp : pc + 1 = pc') (k : X S w g Q pc' (a0 :: a1 :: some (.long x) :: ls) (.long x :: st) σ) : X S w g Q pc (a0 :: a1 :: some (.long x) :: ls) st σ := by
  obtain ⟨p, l, e, R, s, m, args, below, meth, c⟩ := g
  obtain ⟨hx, hb, hml, hown, hts, hR, hK, hr, hlk, hinj, hst, hsr⟩ := hg
  intro H locs lsA hP hS hl
  subst hp
  exact lv_lload_n hx hb hd rfl (lv_l hl (k := 2) rfl) (k H locs lsA hP hS hl)
theorem x_istore_2 (hg : OK S w g d cc own nL ret) {a0 a1 a2 : Option Value} {x : Int32} (hd : decode cc pc = .ok (.istore_n 2, 1)) (hc : nl a1 = true) (hn : Nat.ble 3 nL = true) (hp : pc + 1 = pc') (k : X S w g Q pc' (a0 :: a1 :: some (.int x) :: ls) st σ) : X S w g Q pc (a0 :: a1 :: a2 :: ls) (.int x :: st) σ := by
  obtain ⟨p, l, e, R, s, m, args, below, meth, c⟩ := g
  obtain ⟨hx, hb, hml, hown, hts, hR, hK, hr, hlk, hinj, hst, hsr⟩ := hg
  intro H locs lsA hP hS hl
  subst hp
  have hn2 : 2 < c.maxLocals := by rw [hml]; exact Nat.le_of_ble_eq_true hn
  exact lv_istore_n hx hb hd rfl hl hn2 rfl (fun ls2 hl2 => k H locs ls2 hP hS (lv_stL (k := 2) (ls := (a0 :: a1 :: a2 :: ls)) hl2 (by simp) (nl_prev (k := 1) rfl hc)))
theorem x_astore_2 (hg : OK S w g d cc own nL ret) {a0 a1 a2 : Option Value} {x : Nat} (hd : decode cc pc = .ok (.astore_n 2, 1)) (hc : nl a1 = true) (hn : Nat.ble 3 nL = true) (hp : pc + 1 = pc') (k : X S w g Q pc' (a0 :: a1 :: some (.ref x) :: ls) st σ) : X S w g Q pc (a0 :: a1 :: a2 :: ls) (.ref x :: st) σ := by
  obtain ⟨p, l, e, R, s, m, args, below, meth, c⟩ := g
  obtain ⟨hx, hb, hml, hown, hts, hR, hK, hr, hlk, hinj, hst, hsr⟩ := hg
  intro H locs lsA hP hS hl
  subst hp
  have hn2 : 2 < c.maxLocals := by rw [hml]; exact Nat.le_of_ble_eq_true hn
  exact lv_astore_n hx hb hd rfl hl hn2 rfl (fun ls2 hl2 => k H locs ls2 hP hS (lv_stL (k := 2) (ls := (a0 :: a1 :: a2 :: ls)) hl2 (by simp) (nl_prev (k := 1) rfl hc)))
theorem x_iinc_2 (hg : OK S w g d cc own nL ret) {a0 a1 : Option Value} {x v : Int32} {n : Int} (hd : decode cc pc = .ok (.iinc 2 n, 3)) (hv : Int32.ofInt n = v) (hc : nl a1 = true) (hn : Nat.ble 3 nL = true) (hp : pc + 3 = pc') (k : X S w g Q pc' (a0 :: a1 :: some (.int (x + v)) :: ls) st σ) : X S w g Q pc (a0 :: a1 :: some (.int x) :: ls) st σ := by
  obtain ⟨p, l, e, R, s, m, args, below, meth, c⟩ := g
  obtain ⟨hx, hb, hml, hown, hts, hR, hK, hr, hlk, hinj, hst, hsr⟩ := hg
  intro H locs lsA hP hS hl
  subst hp
  subst hv
  have hn2 : 2 < c.maxLocals := by rw [hml]; exact Nat.le_of_ble_eq_true hn
  obtain ⟨j, hj⟩ := List.getElem?_of_mem ((toL_mem (q := (2, .int x)) (a0 :: a1 :: some (.int x) :: ls) 0).mpr ⟨2, rfl, by simp⟩)
  exact lv_iinc hx hb hd hl hj rfl hn2 rfl (fun ls2 hl2 => k H locs ls2 hP hS (lv_stL (k := 2) (ls := (a0 :: a1 :: some (.int x) :: ls)) hl2 (by simp) (nl_prev (k := 1) rfl hc)))
theorem x_drop_2 {a0 a1 a2 : Option Value} (k : X S w g Q pc (a0 :: a1 :: none :: ls) st σ) : X S w g Q pc (a0 :: a1 :: a2 :: ls) st σ := by
  obtain ⟨p, l, e, R, s, m, args, below, meth, c⟩ := g
  intro H locs lsA hP hS hl
  refine k H locs lsA hP hS ⟨hl.1, hl.2.1, fun q hq => hl.2.2 q ?_⟩
  obtain ⟨j, h1, h2⟩ := (toL_mem _ 0).mp hq
  refine (toL_mem _ 0).mpr ⟨j, ?_, h2⟩
  rcases j with _ | _ | _ | j <;> first | exact h1 | simp at h1
theorem x_iload_3 (hg : OK S w g d cc own nL ret) {a0 a1 a2 : Option Value} {x : Int32} (hd : decode cc pc = .ok (.iload_n 3, 1)) (hp : pc + 1 = pc') (k : X S w g Q pc' (a0 :: a1 :: a2 :: some (.int x) :: ls) (.int x :: st) σ) : X S w g Q pc (a0 :: a1 :: a2 :: some (.int x) :: ls) st σ := by
  obtain ⟨p, l, e, R, s, m, args, below, meth, c⟩ := g
  obtain ⟨hx, hb, hml, hown, hts, hR, hK, hr, hlk, hinj, hst, hsr⟩ := hg
  intro H locs lsA hP hS hl
  subst hp
  exact lv_iload_n hx hb hd rfl (lv_l hl (k := 3) rfl) (k H locs lsA hP hS hl)
theorem x_aload_3 (hg : OK S w g d cc own nL ret) {a0 a1 a2 : Option Value} {x : Nat} (hd : decode cc pc = .ok (.aload_n 3, 1)) (hp : pc + 1 = pc') (k : X S w g Q pc' (a0 :: a1 :: a2 :: some (.ref x) :: ls) (.ref x :: st) σ) : X S w g Q pc (a0 :: a1 :: a2 :: some (.ref x) :: ls) st σ := by
  obtain ⟨p, l, e, R, s, m, args, below, meth, c⟩ := g
  obtain ⟨hx, hb, hml, hown, hts, hR, hK, hr, hlk, hinj, hst, hsr⟩ := hg
  intro H locs lsA hP hS hl
  subst hp
  exact lv_aload_n hx hb hd rfl (lv_l hl (k := 3) rfl) (k H locs lsA hP hS hl)
theorem x_lload_3 (hg : OK S w g d cc own nL ret) {a0 a1 a2 : Option Value} {x : Int64} (hd : decode cc pc = .ok (.lload_n 3, 1)) (hp : pc + 1 = pc') (k : X S w g Q pc' (a0 :: a1 :: a2 :: some (.long x) :: ls) (.long x :: st) σ) : X S w g Q pc (a0 :: a1 :: a2 :: some (.long x) :: ls) st σ := by
  obtain ⟨p, l, e, R, s, m, args, below, meth, c⟩ := g
  obtain ⟨hx, hb, hml, hown, hts, hR, hK, hr, hlk, hinj, hst, hsr⟩ := hg
  intro H locs lsA hP hS hl
  subst hp
  exact lv_lload_n hx hb hd rfl (lv_l hl (k := 3) rfl) (k H locs lsA hP hS hl)
theorem x_istore_3 (hg : OK S w g d cc own nL ret) {a0 a1 a2 a3 : Option Value} {x : Int32} (hd : decode cc pc = .ok (.istore_n 3, 1)) (hc : nl a2 = true) (hn : Nat.ble 4 nL = true) (hp : pc + 1 = pc') (k : X S w g Q pc' (a0 :: a1 :: a2 :: some (.int x) :: ls) st σ) : X S w g Q pc (a0 :: a1 :: a2 :: a3 :: ls) (.int x :: st) σ := by
  obtain ⟨p, l, e, R, s, m, args, below, meth, c⟩ := g
  obtain ⟨hx, hb, hml, hown, hts, hR, hK, hr, hlk, hinj, hst, hsr⟩ := hg
  intro H locs lsA hP hS hl
  subst hp
  have hn2 : 3 < c.maxLocals := by rw [hml]; exact Nat.le_of_ble_eq_true hn
  exact lv_istore_n hx hb hd rfl hl hn2 rfl (fun ls2 hl2 => k H locs ls2 hP hS (lv_stL (k := 3) (ls := (a0 :: a1 :: a2 :: a3 :: ls)) hl2 (by simp) (nl_prev (k := 2) rfl hc)))
theorem x_astore_3 (hg : OK S w g d cc own nL ret) {a0 a1 a2 a3 : Option Value} {x : Nat} (hd : decode cc pc = .ok (.astore_n 3, 1)) (hc : nl a2 = true) (hn : Nat.ble 4 nL = true) (hp : pc + 1 = pc') (k : X S w g Q pc' (a0 :: a1 :: a2 :: some (.ref x) :: ls) st σ) : X S w g Q pc (a0 :: a1 :: a2 :: a3 :: ls) (.ref x :: st) σ := by
  obtain ⟨p, l, e, R, s, m, args, below, meth, c⟩ := g
  obtain ⟨hx, hb, hml, hown, hts, hR, hK, hr, hlk, hinj, hst, hsr⟩ := hg
  intro H locs lsA hP hS hl
  subst hp
  have hn2 : 3 < c.maxLocals := by rw [hml]; exact Nat.le_of_ble_eq_true hn
  exact lv_astore_n hx hb hd rfl hl hn2 rfl (fun ls2 hl2 => k H locs ls2 hP hS (lv_stL (k := 3) (ls := (a0 :: a1 :: a2 :: a3 :: ls)) hl2 (by simp) (nl_prev (k := 2) rfl hc)))
theorem x_iinc_3 (hg : OK S w g d cc own nL ret) {a0 a1 a2 : Option Value} {x v : Int32} {n : Int} (hd : decode cc pc = .ok (.iinc 3 n, 3)) (hv : Int32.ofInt n = v) (hc : nl a2 = true) (hn : Nat.ble 4 nL = true) (hp : pc + 3 = pc') (k : X S w g Q pc' (a0 :: a1 :: a2 :: some (.int (x + v)) :: ls) st σ) : X S w g Q pc (a0 :: a1 :: a2 :: some (.int x) :: ls) st σ := by
  obtain ⟨p, l, e, R, s, m, args, below, meth, c⟩ := g
  obtain ⟨hx, hb, hml, hown, hts, hR, hK, hr, hlk, hinj, hst, hsr⟩ := hg
  intro H locs lsA hP hS hl
  subst hp
  subst hv
  have hn2 : 3 < c.maxLocals := by rw [hml]; exact Nat.le_of_ble_eq_true hn
  obtain ⟨j, hj⟩ := List.getElem?_of_mem ((toL_mem (q := (3, .int x)) (a0 :: a1 :: a2 :: some (.int x) :: ls) 0).mpr ⟨3, rfl, by simp⟩)
  exact lv_iinc hx hb hd hl hj rfl hn2 rfl (fun ls2 hl2 => k H locs ls2 hP hS (lv_stL (k := 3) (ls := (a0 :: a1 :: a2 :: some (.int x) :: ls)) hl2 (by simp) (nl_prev (k := 2) rfl hc)))
theorem x_drop_3 {a0 a1 a2 a3 : Option Value} (k : X S w g Q pc (a0 :: a1 :: a2 :: none :: ls) st σ) : X S w g Q pc (a0 :: a1 :: a2 :: a3 :: ls) st σ := by
  obtain ⟨p, l, e, R, s, m, args, below, meth, c⟩ := g
  intro H locs lsA hP hS hl
  refine k H locs lsA hP hS ⟨hl.1, hl.2.1, fun q hq => hl.2.2 q ?_⟩
  obtain ⟨j, h1, h2⟩ := (toL_mem _ 0).mp hq
  refine (toL_mem _ 0).mpr ⟨j, ?_, h2⟩
  rcases j with _ | _ | _ | _ | j <;> first | exact h1 | simp at h1
theorem x_iload_4 (hg : OK S w g d cc own nL ret) {a0 a1 a2 a3 : Option Value} {x : Int32} (hd : decode cc pc = .ok (.iload 4, 2)) (hp : pc + 2 = pc') (k : X S w g Q pc' (a0 :: a1 :: a2 :: a3 :: some (.int x) :: ls) (.int x :: st) σ) : X S w g Q pc (a0 :: a1 :: a2 :: a3 :: some (.int x) :: ls) st σ := by
  obtain ⟨p, l, e, R, s, m, args, below, meth, c⟩ := g
  obtain ⟨hx, hb, hml, hown, hts, hR, hK, hr, hlk, hinj, hst, hsr⟩ := hg
  intro H locs lsA hP hS hl
  subst hp
  exact lv_iload hx hb hd (lv_l hl (k := 4) rfl) (k H locs lsA hP hS hl)
theorem x_aload_4 (hg : OK S w g d cc own nL ret) {a0 a1 a2 a3 : Option Value} {x : Nat} (hd : decode cc pc = .ok (.aload 4, 2)) (hp : pc + 2 = pc') (k : X S w g Q pc' (a0 :: a1 :: a2 :: a3 :: some (.ref x) :: ls) (.ref x :: st) σ) : X S w g Q pc (a0 :: a1 :: a2 :: a3 :: some (.ref x) :: ls) st σ := by
  obtain ⟨p, l, e, R, s, m, args, below, meth, c⟩ := g
  obtain ⟨hx, hb, hml, hown, hts, hR, hK, hr, hlk, hinj, hst, hsr⟩ := hg
  intro H locs lsA hP hS hl
  subst hp
  exact lv_aload hx hb hd (lv_l hl (k := 4) rfl) (k H locs lsA hP hS hl)
theorem x_istore_4 (hg : OK S w g d cc own nL ret) {a0 a1 a2 a3 a4 : Option Value} {x : Int32} (hd : decode cc pc = .ok (.istore 4, 2)) (hc : nl a3 = true) (hn : Nat.ble 5 nL = true) (hp : pc + 2 = pc') (k : X S w g Q pc' (a0 :: a1 :: a2 :: a3 :: some (.int x) :: ls) st σ) : X S w g Q pc (a0 :: a1 :: a2 :: a3 :: a4 :: ls) (.int x :: st) σ := by
  obtain ⟨p, l, e, R, s, m, args, below, meth, c⟩ := g
  obtain ⟨hx, hb, hml, hown, hts, hR, hK, hr, hlk, hinj, hst, hsr⟩ := hg
  intro H locs lsA hP hS hl
  subst hp
  have hn2 : 4 < c.maxLocals := by rw [hml]; exact Nat.le_of_ble_eq_true hn
  exact lv_istore hx hb hd hl hn2 rfl (fun ls2 hl2 => k H locs ls2 hP hS (lv_stL (k := 4) (ls := (a0 :: a1 :: a2 :: a3 :: a4 :: ls)) hl2 (by simp) (nl_prev (k := 3) rfl hc)))
theorem x_astore_4 (hg : OK S w g d cc own nL ret) {a0 a1 a2 a3 a4 : Option Value} {x : Nat} (hd : decode cc pc = .ok (.astore 4, 2)) (hc : nl a3 = true) (hn : Nat.ble 5 nL = true) (hp : pc + 2 = pc') (k : X S w g Q pc' (a0 :: a1 :: a2 :: a3 :: some (.ref x) :: ls) st σ) : X S w g Q pc (a0 :: a1 :: a2 :: a3 :: a4 :: ls) (.ref x :: st) σ := by
  obtain ⟨p, l, e, R, s, m, args, below, meth, c⟩ := g
  obtain ⟨hx, hb, hml, hown, hts, hR, hK, hr, hlk, hinj, hst, hsr⟩ := hg
  intro H locs lsA hP hS hl
  subst hp
  have hn2 : 4 < c.maxLocals := by rw [hml]; exact Nat.le_of_ble_eq_true hn
  exact lv_astore hx hb hd hl hn2 rfl (fun ls2 hl2 => k H locs ls2 hP hS (lv_stL (k := 4) (ls := (a0 :: a1 :: a2 :: a3 :: a4 :: ls)) hl2 (by simp) (nl_prev (k := 3) rfl hc)))
theorem x_iinc_4 (hg : OK S w g d cc own nL ret) {a0 a1 a2 a3 : Option Value} {x v : Int32} {n : Int} (hd : decode cc pc = .ok (.iinc 4 n, 3)) (hv : Int32.ofInt n = v) (hc : nl a3 = true) (hn : Nat.ble 5 nL = true) (hp : pc + 3 = pc') (k : X S w g Q pc' (a0 :: a1 :: a2 :: a3 :: some (.int (x + v)) :: ls) st σ) : X S w g Q pc (a0 :: a1 :: a2 :: a3 :: some (.int x) :: ls) st σ := by
  obtain ⟨p, l, e, R, s, m, args, below, meth, c⟩ := g
  obtain ⟨hx, hb, hml, hown, hts, hR, hK, hr, hlk, hinj, hst, hsr⟩ := hg
  intro H locs lsA hP hS hl
  subst hp
  subst hv
  have hn2 : 4 < c.maxLocals := by rw [hml]; exact Nat.le_of_ble_eq_true hn
  obtain ⟨j, hj⟩ := List.getElem?_of_mem ((toL_mem (q := (4, .int x)) (a0 :: a1 :: a2 :: a3 :: some (.int x) :: ls) 0).mpr ⟨4, rfl, by simp⟩)
  exact lv_iinc hx hb hd hl hj rfl hn2 rfl (fun ls2 hl2 => k H locs ls2 hP hS (lv_stL (k := 4) (ls := (a0 :: a1 :: a2 :: a3 :: some (.int x) :: ls)) hl2 (by simp) (nl_prev (k := 3) rfl hc)))
theorem x_drop_4 {a0 a1 a2 a3 a4 : Option Value} (k : X S w g Q pc (a0 :: a1 :: a2 :: a3 :: none :: ls) st σ) : X S w g Q pc (a0 :: a1 :: a2 :: a3 :: a4 :: ls) st σ := by
  obtain ⟨p, l, e, R, s, m, args, below, meth, c⟩ := g
  intro H locs lsA hP hS hl
  refine k H locs lsA hP hS ⟨hl.1, hl.2.1, fun q hq => hl.2.2 q ?_⟩
  obtain ⟨j, h1, h2⟩ := (toL_mem _ 0).mp hq
  refine (toL_mem _ 0).mpr ⟨j, ?_, h2⟩
  rcases j with _ | _ | _ | _ | _ | j <;> first | exact h1 | simp at h1
theorem x_iload_5 (hg : OK S w g d cc own nL ret) {a0 a1 a2 a3 a4 : Option Value} {x : Int32} (hd : decode cc pc = .ok (.iload 5, 2)) (hp : pc + 2 = pc') (k : X S w g Q pc' (a0 :: a1 :: a2 :: a3 :: a4 :: some (.int x) :: ls) (.int x :: st) σ) : X S w g Q pc (a0 :: a1 :: a2 :: a3 :: a4 :: some (.int x) :: ls) st σ := by
  obtain ⟨p, l, e, R, s, m, args, below, meth, c⟩ := g
  obtain ⟨hx, hb, hml, hown, hts, hR, hK, hr, hlk, hinj, hst, hsr⟩ := hg
  intro H locs lsA hP hS hl
  subst hp
  exact lv_iload hx hb hd (lv_l hl (k := 5) rfl) (k H locs lsA hP hS hl)
theorem x_aload_5 (hg : OK S w g d cc own nL ret) {a0 a1 a2 a3 a4 : Option Value} {x : Nat} (hd : decode cc pc = .ok (.aload 5, 2)) (hp : pc + 2 = pc') (k : X S w g Q pc' (a0 :: a1 :: a2 :: a3 :: a4 :: some (.ref x) :: ls) (.ref x :: st) σ) : X S w g Q pc (a0 :: a1 :: a2 :: a3 :: a4 :: some (.ref x) :: ls) st σ := by
  obtain ⟨p, l, e, R, s, m, args, below, meth, c⟩ := g
  obtain ⟨hx, hb, hml, hown, hts, hR, hK, hr, hlk, hinj, hst, hsr⟩ := hg
  intro H locs lsA hP hS hl
  subst hp
  exact lv_aload hx hb hd (lv_l hl (k := 5) rfl) (k H locs lsA hP hS hl)
theorem x_istore_5 (hg : OK S w g d cc own nL ret) {a0 a1 a2 a3 a4 a5 : Option Value} {x : Int32} (hd : decode cc pc = .ok (.istore 5, 2)) (hc : nl a4 = true) (hn : Nat.ble 6 nL = true) (hp : pc + 2 = pc') (k : X S w g Q pc' (a0 :: a1 :: a2 :: a3 :: a4 :: some (.int x) :: ls) st σ) : X S w g Q pc (a0 :: a1 :: a2 :: a3 :: a4 :: a5 :: ls) (.int x :: st) σ := by
  obtain ⟨p, l, e, R, s, m, args, below, meth, c⟩ := g
  obtain ⟨hx, hb, hml, hown, hts, hR, hK, hr, hlk, hinj, hst, hsr⟩ := hg
  intro H locs lsA hP hS hl
  subst hp
  have hn2 : 5 < c.maxLocals := by rw [hml]; exact Nat.le_of_ble_eq_true hn
  exact lv_istore hx hb hd hl hn2 rfl (fun ls2 hl2 => k H locs ls2 hP hS (lv_stL (k := 5) (ls := (a0 :: a1 :: a2 :: a3 :: a4 :: a5 :: ls)) hl2 (by simp) (nl_prev (k := 4) rfl hc)))
theorem x_astore_5 (hg : OK S w g d cc own nL ret) {a0 a1 a2 a3 a4 a5 : Option Value} {x : Nat} (hd : decode cc pc = .ok (.astore 5, 2)) (hc : nl a4 = true) (hn : Nat.ble 6 nL = true) (hp : pc + 2 = pc') (k : X S w g Q pc' (a0 :: a1 :: a2 :: a3 :: a4 :: some (.ref x) :: ls) st σ) : X S w g Q pc (a0 :: a1 :: a2 :: a3 :: a4 :: a5 :: ls) (.ref x :: st) σ := by
  obtain ⟨p, l, e, R, s, m, args, below, meth, c⟩ := g
  obtain ⟨hx, hb, hml, hown, hts, hR, hK, hr, hlk, hinj, hst, hsr⟩ := hg
  intro H locs lsA hP hS hl
  subst hp
  have hn2 : 5 < c.maxLocals := by rw [hml]; exact Nat.le_of_ble_eq_true hn
  exact lv_astore hx hb hd hl hn2 rfl (fun ls2 hl2 => k H locs ls2 hP hS (lv_stL (k := 5) (ls := (a0 :: a1 :: a2 :: a3 :: a4 :: a5 :: ls)) hl2 (by simp) (nl_prev (k := 4) rfl hc)))
theorem x_iinc_5 (hg : OK S w g d cc own nL ret) {a0 a1 a2 a3 a4 : Option Value} {x v : Int32} {n : Int} (hd : decode cc pc = .ok (.iinc 5 n, 3)) (hv : Int32.ofInt n = v) (hc : nl a4 = true) (hn : Nat.ble 6 nL = true) (hp : pc + 3 = pc') (k : X S w g Q pc' (a0 :: a1 :: a2 :: a3 :: a4 :: some (.int (x + v)) :: ls) st σ) : X S w g Q pc (a0 :: a1 :: a2 :: a3 :: a4 :: some (.int x) :: ls) st σ := by
  obtain ⟨p, l, e, R, s, m, args, below, meth, c⟩ := g
  obtain ⟨hx, hb, hml, hown, hts, hR, hK, hr, hlk, hinj, hst, hsr⟩ := hg
  intro H locs lsA hP hS hl
  subst hp
  subst hv
  have hn2 : 5 < c.maxLocals := by rw [hml]; exact Nat.le_of_ble_eq_true hn
  obtain ⟨j, hj⟩ := List.getElem?_of_mem ((toL_mem (q := (5, .int x)) (a0 :: a1 :: a2 :: a3 :: a4 :: some (.int x) :: ls) 0).mpr ⟨5, rfl, by simp⟩)
  exact lv_iinc hx hb hd hl hj rfl hn2 rfl (fun ls2 hl2 => k H locs ls2 hP hS (lv_stL (k := 5) (ls := (a0 :: a1 :: a2 :: a3 :: a4 :: some (.int x) :: ls)) hl2 (by simp) (nl_prev (k := 4) rfl hc)))
theorem x_drop_5 {a0 a1 a2 a3 a4 a5 : Option Value} (k : X S w g Q pc (a0 :: a1 :: a2 :: a3 :: a4 :: none :: ls) st σ) : X S w g Q pc (a0 :: a1 :: a2 :: a3 :: a4 :: a5 :: ls) st σ := by
  obtain ⟨p, l, e, R, s, m, args, below, meth, c⟩ := g
  intro H locs lsA hP hS hl
  refine k H locs lsA hP hS ⟨hl.1, hl.2.1, fun q hq => hl.2.2 q ?_⟩
  obtain ⟨j, h1, h2⟩ := (toL_mem _ 0).mp hq
  refine (toL_mem _ 0).mpr ⟨j, ?_, h2⟩
  rcases j with _ | _ | _ | _ | _ | _ | j <;> first | exact h1 | simp at h1
theorem x_iload_6 (hg : OK S w g d cc own nL ret) {a0 a1 a2 a3 a4 a5 : Option Value} {x : Int32} (hd : decode cc pc = .ok (.iload 6, 2)) (hp : pc + 2 = pc') (k : X S w g Q pc' (a0 :: a1 :: a2 :: a3 :: a4 :: a5 :: some (.int x) :: ls) (.int x :: st) σ) : X S w g Q pc (a0 :: a1 :: a2 :: a3 :: a4 :: a5 :: some (.int x) :: ls) st σ := by
  obtain ⟨p, l, e, R, s, m, args, below, meth, c⟩ := g
  obtain ⟨hx, hb, hml, hown, hts, hR, hK, hr, hlk, hinj, hst, hsr⟩ := hg
  intro H locs lsA hP hS hl
  subst hp
  exact lv_iload hx hb hd (lv_l hl (k := 6) rfl) (k H locs lsA hP hS hl)
theorem x_aload_6 (hg : OK S w g d cc own nL ret) {a0 a1 a2 a3 a4 a5 : Option Value} {x : Nat} (hd : decode cc pc = .ok (.aload 6, 2)) (hp : pc + 2 = pc') (k : X S w g Q pc' (a0 :: a1 :: a2 :: a3 :: a4 :: a5 :: some (.ref x) :: ls) (.ref x :: st) σ) : X S w g Q pc (a0 :: a1 :: a2 :: a3 :: a4 :: a5 :: some (.ref x) :: ls) st σ := by
  obtain ⟨p, l, e, R, s, m, args, below, meth, c⟩ := g
  obtain ⟨hx, hb, hml, hown, hts, hR, hK, hr, hlk, hinj, hst, hsr⟩ := hg
  intro H locs lsA hP hS hl
  subst hp
  exact lv_aload hx hb hd (lv_l hl (k := 6) rfl) (k H locs lsA hP hS hl)
theorem x_istore_6 (hg : OK S w g d cc own nL ret) {a0 a1 a2 a3 a4 a5 a6 : Option Value} {x : Int32} (hd : decode cc pc = .ok (.istore 6, 2)) (hc : nl a5 = true) (hn : Nat.ble 7 nL = true) (hp : pc + 2 = pc') (k : X S w g Q pc' (a0 :: a1 :: a2 :: a3 :: a4 :: a5 :: some (.int x) :: ls) st σ) : X S w g Q pc (a0 :: a1 :: a2 :: a3 :: a4 :: a5 :: a6 :: ls) (.int x :: st) σ := by
  obtain ⟨p, l, e, R, s, m, args, below, meth, c⟩ := g
  obtain ⟨hx, hb, hml, hown, hts, hR, hK, hr, hlk, hinj, hst, hsr⟩ := hg
  intro H locs lsA hP hS hl
  subst hp
  have hn2 : 6 < c.maxLocals := by rw [hml]; exact Nat.le_of_ble_eq_true hn
  exact lv_istore hx hb hd hl hn2 rfl (fun ls2 hl2 => k H locs ls2 hP hS (lv_stL (k := 6) (ls := (a0 :: a1 :: a2 :: a3 :: a4 :: a5 :: a6 :: ls)) hl2 (by simp) (nl_prev (k := 5) rfl hc)))
theorem x_astore_6 (hg : OK S w g d cc own nL ret) {a0 a1 a2 a3 a4 a5 a6 : Option Value} {x : Nat} (hd : decode cc pc = .ok (.astore 6, 2)) (hc : nl a5 = true) (hn : Nat.ble 7 nL = true) (hp : pc + 2 = pc') (k : X S w g Q pc' (a0 :: a1 :: a2 :: a3 :: a4 :: a5 :: some (.ref x) :: ls) st σ) : X S w g Q pc (a0 :: a1 :: a2 :: a3 :: a4 :: a5 :: a6 :: ls) (.ref x :: st) σ := by
  obtain ⟨p, l, e, R, s, m, args, below, meth, c⟩ := g
  obtain ⟨hx, hb, hml, hown, hts, hR, hK, hr, hlk, hinj, hst, hsr⟩ := hg
  intro H locs lsA hP hS hl
  subst hp
  have hn2 : 6 < c.maxLocals := by rw [hml]; exact Nat.le_of_ble_eq_true hn
  exact lv_astore hx hb hd hl hn2 rfl (fun ls2 hl2 => k H locs ls2 hP hS (lv_stL (k := 6) (ls := (a0 :: a1 :: a2 :: a3 :: a4 :: a5 :: a6 :: ls)) hl2 (by simp) (nl_prev (k := 5) rfl hc)))
theorem x_iinc_6 (hg : OK S w g d cc own nL ret) {a0 a1 a2 a3 a4 a5 : Option Value} {x v : Int32} {n : Int} (hd : decode cc pc = .ok (.iinc 6 n, 3)) (hv : Int32.ofInt n = v) (hc : nl a5 = true) (hn : Nat.ble 7 nL = true) (hp : pc + 3 = pc') (k : X S w g Q pc' (a0 :: a1 :: a2 :: a3 :: a4 :: a5 :: some (.int (x + v)) :: ls) st σ) : X S w g Q pc (a0 :: a1 :: a2 :: a3 :: a4 :: a5 :: some (.int x) :: ls) st σ := by
  obtain ⟨p, l, e, R, s, m, args, below, meth, c⟩ := g
  obtain ⟨hx, hb, hml, hown, hts, hR, hK, hr, hlk, hinj, hst, hsr⟩ := hg
  intro H locs lsA hP hS hl
  subst hp
  subst hv
  have hn2 : 6 < c.maxLocals := by rw [hml]; exact Nat.le_of_ble_eq_true hn
  obtain ⟨j, hj⟩ := List.getElem?_of_mem ((toL_mem (q := (6, .int x)) (a0 :: a1 :: a2 :: a3 :: a4 :: a5 :: some (.int x) :: ls) 0).mpr ⟨6, rfl, by simp⟩)
  exact lv_iinc hx hb hd hl hj rfl hn2 rfl (fun ls2 hl2 => k H locs ls2 hP hS (lv_stL (k := 6) (ls := (a0 :: a1 :: a2 :: a3 :: a4 :: a5 :: some (.int x) :: ls)) hl2 (by simp) (nl_prev (k := 5) rfl hc)))
theorem x_drop_6 {a0 a1 a2 a3 a4 a5 a6 : Option Value} (k : X S w g Q pc (a0 :: a1 :: a2 :: a3 :: a4 :: a5 :: none :: ls) st σ) : X S w g Q pc (a0 :: a1 :: a2 :: a3 :: a4 :: a5 :: a6 :: ls) st σ := by
  obtain ⟨p, l, e, R, s, m, args, below, meth, c⟩ := g
  intro H locs lsA hP hS hl
  refine k H locs lsA hP hS ⟨hl.1, hl.2.1, fun q hq => hl.2.2 q ?_⟩
  obtain ⟨j, h1, h2⟩ := (toL_mem _ 0).mp hq
  refine (toL_mem _ 0).mpr ⟨j, ?_, h2⟩
  rcases j with _ | _ | _ | _ | _ | _ | _ | j <;> first | exact h1 | simp at h1
theorem x_iload_7 (hg : OK S w g d cc own nL ret) {a0 a1 a2 a3 a4 a5 a6 : Option Value} {x : Int32} (hd : decode cc pc = .ok (.iload 7, 2)) (hp : pc + 2 = pc') (k : X S w g Q pc' (a0 :: a1 :: a2 :: a3 :: a4 :: a5 :: a6 :: some (.int x) :: ls) (.int x :: st) σ) : X S w g Q pc (a0 :: a1 :: a2 :: a3 :: a4 :: a5 :: a6 :: some (.int x) :: ls) st σ := by
  obtain ⟨p, l, e, R, s, m, args, below, meth, c⟩ := g
  obtain ⟨hx, hb, hml, hown, hts, hR, hK, hr, hlk, hinj, hst, hsr⟩ := hg
  intro H locs lsA hP hS hl
  subst hp
  exact lv_iload hx hb hd (lv_l hl (k := 7) rfl) (k H locs lsA hP hS hl)
theorem x_aload_7 (hg : OK S w g d cc own nL ret) {a0 a1 a2 a3 a4 a5 a6 : Option Value} {x : Nat} (hd : decode cc pc = .ok (.aload 7, 2)) (hp : pc + 2 = pc') (k : X S w g Q pc' (a0 :: a1 :: a2 :: a3 :: a4 :: a5 :: a6 :: some (.ref x) :: ls) (.ref x :: st) σ) : X S w g Q pc (a0 :: a1 :: a2 :: a3 :: a4 :: a5 :: a6 :: some (.ref x) :: ls) st σ := by
  obtain ⟨p, l, e, R, s, m, args, below, meth, c⟩ := g
  obtain ⟨hx, hb, hml, hown, hts, hR, hK, hr, hlk, hinj, hst, hsr⟩ := hg
  intro H locs lsA hP hS hl
  subst hp
  exact lv_aload hx hb hd (lv_l hl (k := 7) rfl) (k H locs lsA hP hS hl)
theorem x_istore_7 (hg : OK S w g d cc own nL ret) {a0 a1 a2 a3 a4 a5 a6 a7 : Option Value} {x : Int32} (hd : decode cc pc = .ok (.istore 7, 2)) (hc : nl a6 = true) (hn : Nat.ble 8 nL = true) (hp : pc + 2 = pc') (k : X S w g Q pc' (a0 :: a1 :: a2 :: a3 :: a4 :: a5 :: a6 :: some (.int x) :: ls) st σ) : X S w g Q pc (a0 :: a1 :: a2 :: a3 :: a4 :: a5 :: a6 :: a7 :: ls) (.int x :: st) σ := by
  obtain ⟨p, l, e, R, s, m, args, below, meth, c⟩ := g
  obtain ⟨hx, hb, hml, hown, hts, hR, hK, hr, hlk, hinj, hst, hsr⟩ := hg
  intro H locs lsA hP hS hl
  subst hp
  have hn2 : 7 < c.maxLocals := by rw [hml]; exact Nat.le_of_ble_eq_true hn
  exact lv_istore hx hb hd hl hn2 rfl (fun ls2 hl2 => k H locs ls2 hP hS (lv_stL (k := 7) (ls := (a0 :: a1 :: a2 :: a3 :: a4 :: a5 :: a6 :: a7 :: ls)) hl2 (by simp) (nl_prev (k := 6) rfl hc)))
theorem x_astore_7 (hg : OK S w g d cc own nL ret) {a0 a1 a2 a3 a4 a5 a6 a7 : Option Value} {x : Nat} (hd : decode cc pc = .ok (.astore 7, 2)) (hc : nl a6 = true) (hn : Nat.ble 8 nL = true) (hp : pc + 2 = pc') (k : X S w g Q pc' (a0 :: a1 :: a2 :: a3 :: a4 :: a5 :: a6 :: some (.ref x) :: ls) st σ) : X S w g Q pc (a0 :: a1 :: a2 :: a3 :: a4 :: a5 :: a6 :: a7 :: ls) (.ref x :: st) σ := by
  obtain ⟨p, l, e, R, s, m, args, below, meth, c⟩ := g
  obtain ⟨hx, hb, hml, hown, hts, hR, hK, hr, hlk, hinj, hst, hsr⟩ := hg
  intro H locs lsA hP hS hl
  subst hp
  have hn2 : 7 < c.maxLocals := by rw [hml]; exact Nat.le_of_ble_eq_true hn
  exact lv_astore hx hb hd hl hn2 rfl (fun ls2 hl2 => k H locs ls2 hP hS (lv_stL (k := 7) (ls := (a0 :: a1 :: a2 :: a3 :: a4 :: a5 :: a6 :: a7 :: ls)) hl2 (by simp) (nl_prev (k := 6) rfl hc)))
theorem x_iinc_7 (hg : OK S w g d cc own nL ret) {a0 a1 a2 a3 a4 a5 a6 : Option Value} {x v : Int32} {n : Int} (hd : decode cc pc = .ok (.iinc 7 n, 3)) (hv : Int32.ofInt n = v) (hc : nl a6 = true) (hn : Nat.ble 8 nL = true) (hp : pc + 3 = pc') (k : X S w g Q pc' (a0 :: a1 :: a2 :: a3 :: a4 :: a5 :: a6 :: some (.int (x + v)) :: ls) st σ) : X S w g Q pc (a0 :: a1 :: a2 :: a3 :: a4 :: a5 :: a6 :: some (.int x) :: ls) st σ := by
  obtain ⟨p, l, e, R, s, m, args, below, meth, c⟩ := g
  obtain ⟨hx, hb, hml, hown, hts, hR, hK, hr, hlk, hinj, hst, hsr⟩ := hg
  intro H locs lsA hP hS hl
  subst hp
  subst hv
  have hn2 : 7 < c.maxLocals := by rw [hml]; exact Nat.le_of_ble_eq_true hn
  obtain ⟨j, hj⟩ := List.getElem?_of_mem ((toL_mem (q := (7, .int x)) (a0 :: a1 :: a2 :: a3 :: a4 :: a5 :: a6 :: some (.int x) :: ls) 0).mpr ⟨7, rfl, by simp⟩)
  exact lv_iinc hx hb hd hl hj rfl hn2 rfl (fun ls2 hl2 => k H locs ls2 hP hS (lv_stL (k := 7) (ls := (a0 :: a1 :: a2 :: a3 :: a4 :: a5 :: a6 :: some (.int x) :: ls)) hl2 (by simp) (nl_prev (k := 6) rfl hc)))
theorem x_drop_7 {a0 a1 a2 a3 a4 a5 a6 a7 : Option Value} (k : X S w g Q pc (a0 :: a1 :: a2 :: a3 :: a4 :: a5 :: a6 :: none :: ls) st σ) : X S w g Q pc (a0 :: a1 :: a2 :: a3 :: a4 :: a5 :: a6 :: a7 :: ls) st σ := by
  obtain ⟨p, l, e, R, s, m, args, below, meth, c⟩ := g
  intro H locs lsA hP hS hl
  refine k H locs lsA hP hS ⟨hl.1, hl.2.1, fun q hq => hl.2.2 q ?_⟩
  obtain ⟨j, h1, h2⟩ := (toL_mem _ 0).mp hq
  refine (toL_mem _ 0).mpr ⟨j, ?_, h2⟩
  rcases j with _ | _ | _ | _ | _ | _ | _ | _ | j <;> first | exact h1 | simp at h1
theorem x_iload_8 (hg : OK S w g d cc own nL ret) {a0 a1 a2 a3 a4 a5 a6 a7 : Option Value} {x : Int32} (hd : decode cc pc = .ok (.iload 8, 2)) (hp : pc + 2 = pc') (k : X S w g Q pc' (a0 :: a1 :: a2 :: a3 :: a4 :: a5 :: a6 :: a7 :: some (.int x) :: ls) (.int x :: st) σ) : X S w g Q pc (a0 :: a1 :: a2 :: a3 :: a4 :: a5 :: a6 :: a7 :: some (.int x) :: ls) st σ := by
  obtain ⟨p, l, e, R, s, m, args, below, meth, c⟩ := g
  obtain ⟨hx, hb, hml, hown, hts, hR, hK, hr, hlk, hinj, hst, hsr⟩ := hg
  intro H locs lsA hP hS hl
  subst hp
  exact lv_iload hx hb hd (lv_l hl (k := 8) rfl) (k H locs lsA hP hS hl)
theorem x_aload_8 (hg : OK S w g d cc own nL ret) {a0 a1 a2 a3 a4 a5 a6 a7 : Option Value} {x : Nat} (hd : decode cc pc = .ok (.aload 8, 2)) (hp : pc + 2 = pc') (k : X S w g Q pc' (a0 :: a1 :: a2 :: a3 :: a4 :: a5 :: a6 :: a7 :: some (.ref x) :: ls) (.ref x :: st) σ) : X S w g Q pc (a0 :: a1 :: a2 :: a3 :: a4 :: a5 :: a6 :: a7 :: some (.ref x) :: ls) st σ := by
  obtain ⟨p, l, e, R, s, m, args, below, meth, c⟩ := g
  obtain ⟨hx, hb, hml, hown, hts, hR, hK, hr, hlk, hinj, hst, hsr⟩ := hg
  intro H locs lsA hP hS hl
  subst hp
  exact lv_aload hx hb hd (lv_l hl (k := 8) rfl) (k H locs lsA hP hS hl)
theorem x_istore_8 (hg : OK S w g d cc own nL ret) {a0 a1 a2 a3 a4 a5 a6 a7 a8 : Option Value} {x : Int32} (hd : decode cc pc = .ok (.istore 8, 2)) (hc : nl a7 = true) (hn : Nat.ble 9 nL = true) (hp : pc + 2 = pc') (k : X S w g Q pc' (a0 :: a1 :: a2 :: a3 :: a4 :: a5 :: a6 :: a7 :: some (.int x) :: ls) st σ) : X S w g Q pc (a0 :: a1 :: a2 :: a3 :: a4 :: a5 :: a6 :: a7 :: a8 :: ls) (.int x :: st) σ := by
  obtain ⟨p, l, e, R, s, m, args, below, meth, c⟩ := g
  obtain ⟨hx, hb, hml, hown, hts, hR, hK, hr, hlk, hinj, hst, hsr⟩ := hg
  intro H locs lsA hP hS hl
  subst hp
  have hn2 : 8 < c.maxLocals := by rw [hml]; exact Nat.le_of_ble_eq_true hn
  exact lv_istore hx hb hd hl hn2 rfl (fun ls2 hl2 => k H locs ls2 hP hS (lv_stL (k := 8) (ls := (a0 :: a1 :: a2 :: a3 :: a4 :: a5 :: a6 :: a7 :: a8 :: ls)) hl2 (by simp) (nl_prev (k := 7) rfl hc)))
theorem x_astore_8 (hg : OK S w g d cc own nL ret) {a0 a1 a2 a3 a4 a5 a6 a7 a8 : Option Value} {x : Nat} (hd : decode cc pc = .ok (.astore 8, 2)) (hc : nl a7 = true) (hn : Nat.ble 9 nL = true) (hp : pc + 2 = pc') (k : X S w g Q pc' (a0 :: a1 :: a2 :: a3 :: a4 :: a5 :: a6 :: a7 :: some (.ref x) :: ls) st σ) : X S w g Q pc (a0 :: a1 :: a2 :: a3 :: a4 :: a5 :: a6 :: a7 :: a8 :: ls) (.ref x :: st) σ := by
  obtain ⟨p, l, e, R, s, m, args, below, meth, c⟩ := g
  obtain ⟨hx, hb, hml, hown, hts, hR, hK, hr, hlk, hinj, hst, hsr⟩ := hg
  intro H locs lsA hP hS hl
  subst hp
  have hn2 : 8 < c.maxLocals := by rw [hml]; exact Nat.le_of_ble_eq_true hn
  exact lv_astore hx hb hd hl hn2 rfl (fun ls2 hl2 => k H locs ls2 hP hS (lv_stL (k := 8) (ls := (a0 :: a1 :: a2 :: a3 :: a4 :: a5 :: a6 :: a7 :: a8 :: ls)) hl2 (by simp) (nl_prev (k := 7) rfl hc)))
theorem x_iinc_8 (hg : OK S w g d cc own nL ret) {a0 a1 a2 a3 a4 a5 a6 a7 : Option Value} {x v : Int32} {n : Int} (hd : decode cc pc = .ok (.iinc 8 n, 3)) (hv : Int32.ofInt n = v) (hc : nl a7 = true) (hn : Nat.ble 9 nL = true) (hp : pc + 3 = pc') (k : X S w g Q pc' (a0 :: a1 :: a2 :: a3 :: a4 :: a5 :: a6 :: a7 :: some (.int (x + v)) :: ls) st σ) : X S w g Q pc (a0 :: a1 :: a2 :: a3 :: a4 :: a5 :: a6 :: a7 :: some (.int x) :: ls) st σ := by
  obtain ⟨p, l, e, R, s, m, args, below, meth, c⟩ := g
  obtain ⟨hx, hb, hml, hown, hts, hR, hK, hr, hlk, hinj, hst, hsr⟩ := hg
  intro H locs lsA hP hS hl
  subst hp
  subst hv
  have hn2 : 8 < c.maxLocals := by rw [hml]; exact Nat.le_of_ble_eq_true hn
  obtain ⟨j, hj⟩ := List.getElem?_of_mem ((toL_mem (q := (8, .int x)) (a0 :: a1 :: a2 :: a3 :: a4 :: a5 :: a6 :: a7 :: some (.int x) :: ls) 0).mpr ⟨8, rfl, by simp⟩)
  exact lv_iinc hx hb hd hl hj rfl hn2 rfl (fun ls2 hl2 => k H locs ls2 hP hS (lv_stL (k := 8) (ls := (a0 :: a1 :: a2 :: a3 :: a4 :: a5 :: a6 :: a7 :: some (.int x) :: ls)) hl2 (by simp) (nl_prev (k := 7) rfl hc)))
theorem x_drop_8 {a0 a1 a2 a3 a4 a5 a6 a7 a8 : Option Value} (k : X S w g Q pc (a0 :: a1 :: a2 :: a3 :: a4 :: a5 :: a6 :: a7 :: none :: ls) st σ) : X S w g Q pc (a0 :: a1 :: a2 :: a3 :: a4 :: a5 :: a6 :: a7 :: a8 :: ls) st σ := by
  obtain ⟨p, l, e, R, s, m, args, below, meth, c⟩ := g
  intro H locs lsA hP hS hl
  refine k H locs lsA hP hS ⟨hl.1, hl.2.1, fun q hq => hl.2.2 q ?_⟩
  obtain ⟨j, h1, h2⟩ := (toL_mem _ 0).mp hq
  refine (toL_mem _ 0).mpr ⟨j, ?_, h2⟩
  rcases j with _ | _ | _ | _ | _ | _ | _ | _ | _ | j <;> first | exact h1 | simp at h1
theorem x_iload_9 (hg : OK S w g d cc own nL ret) {a0 a1 a2 a3 a4 a5 a6 a7 a8 : Option Value} {x : Int32} (hd : decode cc pc = .ok (.iload 9, 2)) (hp : pc + 2 = pc') (k : X S w g Q pc' (a0 :: a1 :: a2 :: a3 :: a4 :: a5 :: a6 :: a7 :: a8 :: some (.int x) :: ls) (.int x :: st) σ) : X S w g Q pc (a0 :: a1 :: a2 :: a3 :: a4 :: a5 :: a6 :: a7 :: a8 :: some (.int x) :: ls) st σ := by
  obtain ⟨p, l, e, R, s, m, args, below, meth, c⟩ := g
  obtain ⟨hx, hb, hml, hown, hts, hR, hK, hr, hlk, hinj, hst, hsr⟩ := hg
  intro H locs lsA hP hS hl
  subst hp
  exact lv_iload hx hb hd (lv_l hl (k := 9) rfl) (k H locs lsA hP hS hl)
theorem x_aload_9 (hg : OK S w g d cc own nL ret) {a0 a1 a2 a3 a4 a5 a6 a7 a8 : Option Value} {x : Nat} (hd : decode cc pc = .ok (.aload 9, 2)) (hp : pc + 2 = pc') (k : X S w g Q pc' (a0 :: a1 :: a2 :: a3 :: a4 :: a5 :: a6 :: a7 :: a8 :: some (.ref x) :: ls) (.ref x :: st) σ) : X S w g Q pc (a0 :: a1 :: a2 :: a3 :: a4 :: a5 :: a6 :: a7 :: a8 :: some (.ref x) :: ls) st σ := by
  obtain ⟨p, l, e, R, s, m, args, below, meth, c⟩ := g
  obtain ⟨hx, hb, hml, hown, hts, hR, hK, hr, hlk, hinj, hst, hsr⟩ := hg
  intro H locs lsA hP hS hl
  subst hp
  exact lv_aload hx hb hd (lv_l hl (k := 9) rfl) (k H locs lsA hP hS hl)
theorem x_istore_9 (hg : OK S w g d cc own nL ret) {a0 a1 a2 a3 a4 a5 a6 a7 a8 a9 : Option Value} {x : Int32} (hd : decode cc pc = .ok (.istore 9, 2)) (hc : nl a8 = true) (hn : Nat.ble 10 nL = true) (hp : pc + 2 = pc') (k : X S w g Q pc' (a0 :: a1 :: a2 :: a3 :: a4 :: a5 :: a6 :: a7 :: a8 :: some (.int x) :: ls) st σ) : X S w g Q pc (a0 :: a1 :: a2 :: a3 :: a4 :: a5 :: a6 :: a7 :: a8 :: a9 :: ls) (.int x :: st) σ := by
  obtain ⟨p, l, e, R, s, m, args, below, meth, c⟩ := g
  obtain ⟨hx, hb, hml, hown, hts, hR, hK, hr, hlk, hinj, hst, hsr⟩ := hg
  intro H locs lsA hP hS hl
  subst hp
  have hn2 : 9 < c.maxLocals := by rw [hml]; exact Nat.le_of_ble_eq_true hn
  exact lv_istore hx hb hd hl hn2 rfl (fun ls2 hl2 => k H locs ls2 hP hS (lv_stL (k := 9) (ls := (a0 :: a1 :: a2 :: a3 :: a4 :: a5 :: a6 :: a7 :: a8 :: a9 :: ls)) hl2 (by simp) (nl_prev (k := 8) rfl hc)))
theorem x_astore_9 (hg : OK S w g d cc own nL ret) {a0 a1 a2 a3 a4 a5 a6 a7 a8 a9 : Option Value} {x : Nat} (hd : decode cc pc = .ok (.astore 9, 2)) (hc : nl a8 = true) (hn : Nat.ble 10 nL = true) (hp : pc + 2 = pc') (k : X S w g Q pc' (a0 :: a1 :: a2 :: a3 :: a4 :: a5 :: a6 :: a7 :: a8 :: some (.ref x) :: ls) st σ) : X S w g Q pc (a0 :: a1 :: a2 :: a3 :: a4 :: a5 :: a6 :: a7 :: a8 :: a9 :: ls) (.ref x :: st) σ := by
  obtain ⟨p, l, e, R, s, m, args, below, meth, c⟩ := g
  obtain ⟨hx, hb, hml, hown, hts, hR, hK, hr, hlk, hinj, hst, hsr⟩ := hg
  intro H locs lsA hP hS hl
  subst hp
  have hn2 : 9 < c.maxLocals := by rw [hml]; exact Nat.le_of_ble_eq_true hn
  exact lv_astore hx hb hd hl hn2 rfl (fun ls2 hl2 => k H locs ls2 hP hS (lv_stL (k := 9) (ls := (a0 :: a1 :: a2 :: a3 :: a4 :: a5 :: a6 :: a7 :: a8 :: a9 :: ls)) hl2 (by simp) (nl_prev (k := 8) rfl hc)))
theorem x_iinc_9 (hg : OK S w g d cc own nL ret) {a0 a1 a2 a3 a4 a5 a6 a7 a8 : Option Value} {x v : Int32} {n : Int} (hd : decode cc pc = .ok (.iinc 9 n, 3)) (hv : Int32.ofInt n = v) (hc : nl a8 = true) (hn : Nat.ble 10 nL = true) (hp : pc + 3 = pc') (k : X S w g Q pc' (a0 :: a1 :: a2 :: a3 :: a4 :: a5 :: a6 :: a7 :: a8 :: some (.int (x + v)) :: ls) st σ) : X S w g Q pc (a0 :: a1 :: a2 :: a3 :: a4 :: a5 :: a6 :: a7 :: a8 :: some (.int x) :: ls) st σ := by
  obtain ⟨p, l, e, R, s, m, args, below, meth, c⟩ := g
  obtain ⟨hx, hb, hml, hown, hts, hR, hK, hr, hlk, hinj, hst, hsr⟩ := hg
  intro H locs lsA hP hS hl
  subst hp
  subst hv
  have hn2 : 9 < c.maxLocals := by rw [hml]; exact Nat.le_of_ble_eq_true hn
  obtain ⟨j, hj⟩ := List.getElem?_of_mem ((toL_mem (q := (9, .int x)) (a0 :: a1 :: a2 :: a3 :: a4 :: a5 :: a6 :: a7 :: a8 :: some (.int x) :: ls) 0).mpr ⟨9, rfl, by simp⟩)
  exact lv_iinc hx hb hd hl hj rfl hn2 rfl (fun ls2 hl2 => k H locs ls2 hP hS (lv_stL (k := 9) (ls := (a0 :: a1 :: a2 :: a3 :: a4 :: a5 :: a6 :: a7 :: a8 :: some (.int x) :: ls)) hl2 (by simp) (nl_prev (k := 8) rfl hc)))
theorem x_drop_9 {a0 a1 a2 a3 a4 a5 a6 a7 a8 a9 : Option Value} (k : X S w g Q pc (a0 :: a1 :: a2 :: a3 :: a4 :: a5 :: a6 :: a7 :: a8 :: none :: ls) st σ) : X S w g Q pc (a0 :: a1 :: a2 :: a3 :: a4 :: a5 :: a6 :: a7 :: a8 :: a9 :: ls) st σ := by
  obtain ⟨p, l, e, R, s, m, args, below, meth, c⟩ := g
  intro H locs lsA hP hS hl
  refine k H locs lsA hP hS ⟨hl.1, hl.2.1, fun q hq => hl.2.2 q ?_⟩
  obtain ⟨j, h1, h2⟩ := (toL_mem _ 0).mp hq
  refine (toL_mem _ 0).mpr ⟨j, ?_, h2⟩
  rcases j with _ | _ | _ | _ | _ | _ | _ | _ | _ | _ | j <;> first | exact h1 | simp at h1
theorem x_iload_10 (hg : OK S w g d cc own nL ret) {a0 a1 a2 a3 a4 a5 a6 a7 a8 a9 : Option Value} {x : Int32} (hd : decode cc pc = .ok (.iload 10, 2)) (hp : pc + 2 = pc') (k : X S w g Q pc' (a0 :: a1 :: a2 :: a3 :: a4 :: a5 :: a6 :: a7 :: a8 :: a9 :: some (.int x) :: ls) (.int x :: st) σ) : X S w g Q pc (a0 :: a1 :: a2 :: a3 :: a4 :: a5 :: a6 :: a7 :: a8 :: a9 :: some (.int x) :: ls) st σ := by
  obtain ⟨p, l, e, R, s, m, args, below, meth, c⟩ := g
  obtain ⟨hx, hb, hml, hown, hts, hR, hK, hr, hlk, hinj, hst, hsr⟩ := hg
  intro H locs lsA hP hS hl
  subst hp
  exact lv_iload hx hb hd (lv_l hl (k := 10) rfl) (k H locs lsA hP hS hl)
theorem x_aload_10 (hg : OK S w g d cc own nL ret) {a0 a1 a2 a3 a4 a5 a6 a7 a8 a9 : Option Value} {x : Nat} (hd : decode cc pc = .ok (.aload 10, 2)) (hp : pc + 2 = pc') (k : X S w g Q pc' (a0 :: a1 :: a2 :: a3 :: a4 :: a5 :: a6 :: a7 :: a8 :: a9 :: some (.ref x) :: ls) (.ref x :: st) σ) : X S w g Q pc (a0 :: a1 :: a2 :: a3 :: a4 :: a5 :: a6 :: a7 :: a8 :: a9 :: some (.ref x) :: ls) st σ := by
  obtain ⟨p, l, e, R, s, m, args, below, meth, c⟩ := g
  obtain ⟨hx, hb, hml, hown, hts, hR, hK, hr, hlk, hinj, hst, hsr⟩ := hg
  intro H locs lsA hP hS hl
  subst hp
  exact lv_aload hx hb hd (lv_l hl (k := 10) rfl) (k H locs lsA hP hS hl)
theorem x_istore_10 (hg : OK S w g d cc own nL ret) {a0 a1 a2 a3 a4 a5 a6 a7 a8 a9 a10 : Option Value} {x : Int32} (hd : decode cc pc = .ok (.istore 10, 2)) (hc : nl a9 = true) (hn : Nat.ble 11 nL = true) (hp : pc + 2 = pc') (k : X S w g Q pc' (a0 :: a1 :: a2 :: a3 :: a4 :: a5 :: a6 :: a7 :: a8 :: a9 :: some (.int x) :: ls) st σ) : X S w g Q pc (a0 :: a1 :: a2 :: a3 :: a4 :: a5 :: a6 :: a7 :: a8 :: a9 :: a10 :: ls) (.int x :: st) σ := by
  obtain ⟨p, l, e, R, s, m, args, below, meth, c⟩ := g
  obtain ⟨hx, hb, hml, hown, hts, hR, hK, hr, hlk, hinj, hst, hsr⟩ := hg
  intro H locs lsA hP hS hl
  subst hp
  have hn2 : 10 < c.maxLocals := by rw [hml]; exact Nat.le_of_ble_eq_true hn
  exact lv_istore hx hb hd hl hn2 rfl (fun ls2 hl2 => k H locs ls2 hP hS (lv_stL (k := 10) (ls := (a0 :: a1 :: a2 :: a3 :: a4 :: a5 :: a6 :: a7 :: a8 :: a9 :: a10 :: ls)) hl2 (by simp) (nl_prev (k := 9) rfl hc)))
theorem x_astore_10 (hg : OK S w g d cc own nL ret) {a0 a1 a2 a3 a4 a5 a6 a7 a8 a9 a10 : Option Value} {x : Nat} (hd : decode cc pc = .ok (.astore 10, 2)) (hc : nl a9 = true) (hn : Nat.ble 11 nL = true) (hp : pc + 2 = pc') (k : X S w g Q pc' (a0 :: a1 :: a2 :: a3 :: a4 :: a5 :: a6 :: a7 :: a8 :: a9 :: some (.ref x) :: ls) st σ) : X S w g Q pc (a0 :: a1 :: a2 :: a3 :: a4 :: a5 :: a6 :: a7 :: a8 :: a9 :: a10 :: ls) (.ref x :: st) σ := by
  obtain ⟨p, l, e, R, s, m, args, below, meth, c⟩ := g
  obtain ⟨hx, hb, hml, hown, hts, hR, hK, hr, hlk, hinj, hst, hsr⟩ := hg
  intro H locs lsA hP hS hl
  subst hp
  have hn2 : 10 < c.maxLocals := by rw [hml]; exact Nat.le_of_ble_eq_true hn
  exact lv_astore hx hb hd hl hn2 rfl (fun ls2 hl2 => k H locs ls2 hP hS (lv_stL (k := 10) (ls := (a0 :: a1 :: a2 :: a3 :: a4 :: a5 :: a6 :: a7 :: a8 :: a9 :: a10 :: ls)) hl2 (by simp) (nl_prev (k := 9) rfl hc)))
theorem x_iinc_10 (hg : OK S w g d cc own nL ret) {a0 a1 a2 a3 a4 a5 a6 a7 a8 a9 : Option Value} {x v : Int32} {n : Int} (hd : decode cc pc = .ok (.iinc 10 n, 3)) (hv : Int32.ofInt n = v) (hc : nl a9 = true) (hn : Nat.ble 11 nL = true) (hp : pc + 3 = pc') (k : X S w g Q pc' (a0 :: a1 :: a2 :: a3 :: a4 :: a5 :: a6 :: a7 :: a8 :: a9 :: some (.int (x + v)) :: ls) st σ) : X S w g Q pc (a0 :: a1 :: a2 :: a3 :: a4 :: a5 :: a6 :: a7 :: a8 :: a9 :: some (.int x) :: ls) st σ := by
  obtain ⟨p, l, e, R, s, m, args, below, meth, c⟩ := g
  obtain ⟨hx, hb, hml, hown, hts, hR, hK, hr, hlk, hinj, hst, hsr⟩ := hg
  intro H locs lsA hP hS hl
  subst hp
  subst hv
  have hn2 : 10 < c.maxLocals := by rw [hml]; exact Nat.le_of_ble_eq_true hn
  obtain ⟨j, hj⟩ := List.getElem?_of_mem ((toL_mem (q := (10, .int x)) (a0 :: a1 :: a2 :: a3 :: a4 :: a5 :: a6 :: a7 :: a8 :: a9 :: some (.int x) :: ls) 0).mpr ⟨10, rfl, by simp⟩)
  exact lv_iinc hx hb hd hl hj rfl hn2 rfl (fun ls2 hl2 => k H locs ls2 hP hS (lv_stL (k := 10) (ls := (a0 :: a1 :: a2 :: a3 :: a4 :: a5 :: a6 :: a7 :: a8 :: a9 :: some (.int x) :: ls)) hl2 (by simp) (nl_prev (k := 9) rfl hc)))
theorem x_drop_10 {a0 a1 a2 a3 a4 a5 a6 a7 a8 a9 a10 : Option Value} (k : X S w g Q pc (a0 :: a1 :: a2 :: a3 :: a4 :: a5 :: a6 :: a7 :: a8 :: a9 :: none :: ls) st σ) : X S w g Q pc (a0 :: a1 :: a2 :: a3 :: a4 :: a5 :: a6 :: a7 :: a8 :: a9 :: a10 :: ls) st σ := by
  obtain ⟨p, l, e, R, s, m, args, below, meth, c⟩ := g
  intro H locs lsA hP hS hl
  refine k H locs lsA hP hS ⟨hl.1, hl.2.1, fun q hq => hl.2.2 q ?_⟩
  obtain ⟨j, h1, h2⟩ := (toL_mem _ 0).mp hq
  refine (toL_mem _ 0).mpr ⟨j, ?_, h2⟩
  rcases j with _ | _ | _ | _ | _ | _ | _ | _ | _ | _ | _ | j <;> first | exact h1 | simp at h1
theorem x_iload_11 (hg : OK S w g d cc own nL ret) {a0 a1 a2 a3 a4 a5 a6 a7 a8 a9 a10 : Option Value} {x : Int32} (hd : decode cc pc = .ok (.iload 11, 2)) (hp : pc + 2 = pc') (k : X S w g Q pc' (a0 :: a1 :: a2 :: a3 :: a4 :: a5 :: a6 :: a7 :: a8 :: a9 :: a10 :: some (.int x) :: ls) (.int x :: st) σ) : X S w g Q pc (a0 :: a1 :: a2 :: a3 :: a4 :: a5 :: a6 :: a7 :: a8 :: a9 :: a10 :: some (.int x) :: ls) st σ := by
  obtain ⟨p, l, e, R, s, m, args, below, meth, c⟩ := g
  obtain ⟨hx, hb, hml, hown, hts, hR, hK, hr, hlk, hinj, hst, hsr⟩ := hg
  intro H locs lsA hP hS hl
  subst hp
  exact lv_iload hx hb hd (lv_l hl (k := 11) rfl) (k H locs lsA hP hS hl)
theorem x_aload_11 (hg : OK S w g d cc own nL ret) {a0 a1 a2 a3 a4 a5 a6 a7 a8 a9 a10 : Option Value} {x : Nat} (hd : decode cc pc = .ok (.aload 11, 2)) (hp : pc + 2 = pc') (k : X S w g Q pc' (a0 :: a1 :: a2 :: a3 :: a4 :: a5 :: a6 :: a7 :: a8 :: a9 :: a10 :: some (.ref x) :: ls) (.ref x :: st) σ) : X S w g Q pc (a0 :: a1 :: a2 :: a3 :: a4 :: a5 :: a6 :: a7 :: a8 :: a9 :: a10 :: some (.ref x) :: ls) st σ := by
  obtain ⟨p, l, e, R, s, m, args, below, meth, c⟩ := g
  obtain ⟨hx, hb, hml, hown, hts, hR, hK, hr, hlk, hinj, hst, hsr⟩ := hg
  intro H locs lsA hP hS hl
  subst hp
  exact lv_aload hx hb hd (lv_l hl (k := 11) rfl) (k H locs lsA hP hS hl)
theorem x_istore_11 (hg : OK S w g d cc own nL ret) {a0 a1 a2 a3 a4 a5 a6 a7 a8 a9 a10 a11 : Option Value} {x : Int32} (hd : decode cc pc = .ok (.istore 11, 2)) (hc : nl a10 = true) (hn : Nat.ble 12 nL = true) (hp : pc + 2 = pc') (k : X S w g Q pc' (a0 :: a1 :: a2 :: a3 :: a4 :: a5 :: a6 :: a7 :: a8 :: a9 :: a10 :: some (.int x) :: ls) st σ) : X S w g Q pc (a0 :: a1 :: a2 :: a3 :: a4 :: a5 :: a6 :: a7 :: a8 :: a9 :: a10 :: a11 :: ls) (.int x :: st) σ := by
  obtain ⟨p, l, e, R, s, m, args, below, meth, c⟩ := g
  obtain ⟨hx, hb, hml, hown, hts, hR, hK, hr, hlk, hinj, hst, hsr⟩ := hg
  intro H locs lsA hP hS hl
  subst hp
  have hn2 : 11 < c.maxLocals := by rw [hml]; exact Nat.le_of_ble_eq_true hn
  exact lv_istore hx hb hd hl hn2 rfl (fun ls2 hl2 => k H locs ls2 hP hS (lv_stL (k := 11) (ls := (a0 :: a1 :: a2 :: a3 :: a4 :: a5 :: a6 :: a7 :: a8 :: a9 :: a10 :: a11 :: ls)) hl2 (by simp) (nl_prev (k := 10) rfl hc)))
theorem x_astore_11 (hg : OK S w g d cc own nL ret) {a0 a1 a2 a3 a4 a5 a6 a7 a8 a9 a10 a11 : Option Value} {x : Nat} (hd : decode cc pc = .ok (.astore 11, 2)) (hc : nl a10 = true) (hn : Nat.ble 12 nL = true) (hp : pc + 2 = pc') (k : X S w g Q pc' (a0 :: a1 :: a2 :: a3 :: a4 :: a5 :: a6 :: a7 :: a8 :: a9 :: a10 :: some (.ref x) :: ls) st σ) : X S w g Q pc (a0 :: a1 :: a2 :: a3 :: a4 :: a5 :: a6 :: a7 :: a8 :: a9 :: a10 :: a11 :: ls) (.ref x :: st) σ := by
  obtain ⟨p, l, e, R, s, m, args, below, meth, c⟩ := g
  obtain ⟨hx, hb, hml, hown, hts, hR, hK, hr, hlk, hinj, hst, hsr⟩ := hg
  intro H locs lsA hP hS hl
  subst hp
  have hn2 : 11 < c.maxLocals := by rw [hml]; exact Nat.le_of_ble_eq_true hn
  exact lv_astore hx hb hd hl hn2 rfl (fun ls2 hl2 => k H locs ls2 hP hS (lv_stL (k := 11) (ls := (a0 :: a1 :: a2 :: a3 :: a4 :: a5 :: a6 :: a7 :: a8 :: a9 :: a10 :: a11 :: ls)) hl2 (by simp) (nl_prev (k := 10) rfl hc)))
theorem x_iinc_11 (hg : OK S w g d cc own nL ret) {a0 a1 a2 a3 a4 a5 a6 a7 a8 a9 a10 : Option Value} {x v : Int32} {n : Int} (hd : decode cc pc = .ok (.iinc 11 n, 3)) (hv : Int32.ofInt n = v) (hc : nl a10 = true) (hn : Nat.ble 12 nL = true) (hp : pc + 3 = pc') (k : X S w g Q pc' (a0 :: a1 :: a2 :: a3 :: a4 :: a5 :: a6 :: a7 :: a8 :: a9 :: a10 :: some (.int (x + v)) :: ls) st σ) : X S w g Q pc (a0 :: a1 :: a2 :: a3 :: a4 :: a5 :: a6 :: a7 :: a8 :: a9 :: a10 :: some (.int x) :: ls) st σ := by
  obtain ⟨p, l, e, R, s, m, args, below, meth, c⟩ := g
  obtain ⟨hx, hb, hml, hown, hts, hR, hK, hr, hlk, hinj, hst, hsr⟩ := hg
  intro H locs lsA hP hS hl
  subst hp
  subst hv
  have hn2 : 11 < c.maxLocals := by rw [hml]; exact Nat.le_of_ble_eq_true hn
  obtain ⟨j, hj⟩ := List.getElem?_of_mem ((toL_mem (q := (11, .int x)) (a0 :: a1 :: a2 :: a3 :: a4 :: a5 :: a6 :: a7 :: a8 :: a9 :: a10 :: some (.int x) :: ls) 0).mpr ⟨11, rfl, by simp⟩)
  exact lv_iinc hx hb hd hl hj rfl hn2 rfl (fun ls2 hl2 => k H locs ls2 hP hS (lv_stL (k := 11) (ls := (a0 :: a1 :: a2 :: a3 :: a4 :: a5 :: a6 :: a7 :: a8 :: a9 :: a10 :: some (.int x) :: ls)) hl2 (by simp) (nl_prev (k := 10) rfl hc)))
theorem x_drop_11 {a0 a1 a2 a3 a4 a5 a6 a7 a8 a9 a10 a11 : Option Value} (k : X S w g Q pc (a0 :: a1 :: a2 :: a3 :: a4 :: a5 :: a6 :: a7 :: a8 :: a9 :: a10 :: none :: ls) st σ) : X S w g Q pc (a0 :: a1 :: a2 :: a3 :: a4 :: a5 :: a6 :: a7 :: a8 :: a9 :: a10 :: a11 :: ls) st σ := by
  obtain ⟨p, l, e, R, s, m, args, below, meth, c⟩ := g
  intro H locs lsA hP hS hl
  refine k H locs lsA hP hS ⟨hl.1, hl.2.1, fun q hq => hl.2.2 q ?_⟩
  obtain ⟨j, h1, h2⟩ := (toL_mem _ 0).mp hq
  refine (toL_mem _ 0).mpr ⟨j, ?_, h2⟩
  rcases j with _ | _ | _ | _ | _ | _ | _ | _ | _ | _ | _ | _ | j <;> first | exact h1 | simp at h1
theorem x_iload_12 (hg : OK S w g d cc own nL ret) {a0 a1 a2 a3 a4 a5 a6 a7 a8 a9 a10 a11 : Option Value} {x : Int32} (hd : decode cc pc = .ok (.iload 12, 2)) (hp : pc + 2 = pc') (k : X S w g Q pc' (a0 :: a1 :: a2 :: a3 :: a4 :: a5 :: a6 :: a7 :: a8 :: a9 :: a10 :: a11 :: some (.int x) :: ls) (.int x :: st) σ) : X S w g Q pc (a0 :: a1 :: a2 :: a3 :: a4 :: a5 :: a6 :: a7 :: a8 :: a9 :: a10 :: a11 :: some (.int x) :: ls) st σ := by
  obtain ⟨p, l, e, R, s, m, args, below, meth, c⟩ := g
  obtain ⟨hx, hb, hml, hown, hts, hR, hK, hr, hlk, hinj, hst, hsr⟩ := hg
  intro H locs lsA hP hS hl
  subst hp
  exact lv_iload hx hb hd (lv_l hl (k := 12) rfl) (k H locs lsA hP hS hl)
theorem x_aload_12 (hg : OK S w g d cc own nL ret) {a0 a1 a2 a3 a4 a5 a6 a7 a8 a9 a10 a11 : Option Value} {x : Nat} (hd : decode cc pc = .ok (.aload 12, 2)) (hp : pc + 2 = pc') (k : X S w g Q pc' (a0 :: a1 :: a2 :: a3 :: a4 :: a5 :: a6 :: a7 :: a8 :: a9 :: a10 :: a11 :: some (.ref x) :: ls) (.ref x :: st) σ) : X S w g Q pc (a0 :: a1 :: a2 :: a3 :: a4 :: a5 :: a6 :: a7 :: a8 :: a9 :: a10 :: a11 :: some (.ref x) :: ls) st σ := by
  obtain ⟨p, l, e, R, s, m, args, below, meth, c⟩ := g
  obtain ⟨hx, hb, hml, hown, hts, hR, hK, hr, hlk, hinj, hst, hsr⟩ := hg
  intro H locs lsA hP hS hl
  subst hp
  exact lv_aload hx hb hd (lv_l hl (k := 12) rfl) (k H locs lsA hP hS hl)
theorem x_istore_12 (hg : OK S w g d cc own nL ret) {a0 a1 a2 a3 a4 a5 a6 a7 a8 a9 a10 a11 a12 : Option Value} {x : Int32} (hd : decode cc pc = .ok (.istore 12, 2)) (hc : nl a11 = true) (hn : Nat.ble 13 nL = true) (hp : pc + 2 = pc') (k : X S w g Q pc' (a0 :: a1 :: a2 :: a3 :: a4 :: a5 :: a6 :: a7 :: a8 :: a9 :: a10 :: a11 :: some (.int x) :: ls) st σ) : X S w g Q pc (a0 :: a1 :: a2 :: a3 :: a4 :: a5 :: a6 :: a7 :: a8 :: a9 :: a10 :: a11 :: a12 :: ls) (.int x :: st) σ := by
  obtain ⟨p, l, e, R, s, m, args, below, meth, c⟩ := g
  obtain ⟨hx, hb, hml, hown, hts, hR, hK, hr, hlk, hinj, hst, hsr⟩ := hg
  intro H locs lsA hP hS hl
  subst hp
  have hn2 : 12 < c.maxLocals := by rw [hml]; exact Nat.le_of_ble_eq_true hn
  exact lv_istore hx hb hd hl hn2 rfl (fun ls2 hl2 => k H locs ls2 hP hS (lv_stL (k := 12) (ls := (a0 :: a1 :: a2 :: a3 :: a4 :: a5 :: a6 :: a7 :: a8 :: a9 :: a10 :: a11 :: a12 :: ls)) hl2 (by simp) (nl_prev (k := 11) rfl hc)))
theorem x_astore_12 (hg : OK S w g d cc own nL ret) {a0 a1 a2 a3 a4 a5 a6 a7 a8 a9 a10 a11 a12 : Option Value} {x : Nat} (hd : decode cc pc = .ok (.astore 12, 2)) (hc : nl a11 = true) (hn : Nat.ble 13 nL = true) (hp : pc + 2 = pc') (k : X S w g Q pc' (a0 :: a1 :: a2 :: a3 :: a4 :: a5 :: a6 :: a7 :: a8 :: a9 :: a10 :: a11 :: some (.ref x) :: ls) st σ) : X S w g Q pc (a0 :: a1 :: a2 :: a3 :: a4 :: a5 :: a6 :: a7 :: a8 :: a9 :: a10 :: a11 :: a12 :: ls) (.ref x :: st) σ := by
  obtain ⟨p, l, e, R, s, m, args, below, meth, c⟩ := g
  obtain ⟨hx, hb, hml, hown, hts, hR, hK, hr, hlk, hinj, hst, hsr⟩ := hg
  intro H locs lsA hP hS hl
  subst hp
  have hn2 : 12 < c.maxLocals := by rw [hml]; exact Nat.le_of_ble_eq_true hn
  exact lv_astore hx hb hd hl hn2 rfl (fun ls2 hl2 => k H locs ls2 hP hS (lv_stL (k := 12) (ls := (a0 :: a1 :: a2 :: a3 :: a4 :: a5 :: a6 :: a7 :: a8 :: a9 :: a10 :: a11 :: a12 :: ls)) hl2 (by simp) (nl_prev (k := 11) rfl hc)))
theorem x_iinc_12 (hg : OK S w g d cc own nL ret) {a0 a1 a2 a3 a4 a5 a6 a7 a8 a9 a10 a11 : Option Value} {x v : Int32} {n : Int} (hd : decode cc pc = .ok (.iinc 12 n, 3)) (hv : Int32.ofInt n = v) (hc : nl a11 = true) (hn : Nat.ble 13 nL = true) (hp : pc + 3 = pc') (k : X S w g Q pc' (a0 :: a1 :: a2 :: a3 :: a4 :: a5 :: a6 :: a7 :: a8 :: a9 :: a10 :: a11 :: some (.int (x + v)) :: ls) st σ) : X S w g Q pc (a0 :: a1 :: a2 :: a3 :: a4 :: a5 :: a6 :: a7 :: a8 :: a9 :: a10 :: a11 :: some (.int x) :: ls) st σ := by
  obtain ⟨p, l, e, R, s, m, args, below, meth, c⟩ := g
  obtain ⟨hx, hb, hml, hown, hts, hR, hK, hr, hlk, hinj, hst, hsr⟩ := hg
  intro H locs lsA hP hS hl
  subst hp
  subst hv
  have hn2 : 12 < c.maxLocals := by rw [hml]; exact Nat.le_of_ble_eq_true hn
  obtain ⟨j, hj⟩ := List.getElem?_of_mem ((toL_mem (q := (12, .int x)) (a0 :: a1 :: a2 :: a3 :: a4 :: a5 :: a6 :: a7 :: a8 :: a9 :: a10 :: a11 :: some (.int x) :: ls) 0).mpr ⟨12, rfl, by simp⟩)
  exact lv_iinc hx hb hd hl hj rfl hn2 rfl (fun ls2 hl2 => k H locs ls2 hP hS (lv_stL (k := 12) (ls := (a0 :: a1 :: a2 :: a3 :: a4 :: a5 :: a6 :: a7 :: a8 :: a9 :: a10 :: a11 :: some (.int x) :: ls)) hl2 (by simp) (nl_prev (k := 11) rfl hc)))
theorem x_drop_12 {a0 a1 a2 a3 a4 a5 a6 a7 a8 a9 a10 a11 a12 : Option Value} (k : X S w g Q pc (a0 :: a1 :: a2 :: a3 :: a4 :: a5 :: a6 :: a7 :: a8 :: a9 :: a10 :: a11 :: none :: ls) st σ) : X S w g Q pc (a0 :: a1 :: a2 :: a3 :: a4 :: a5 :: a6 :: a7 :: a8 :: a9 :: a10 :: a11 :: a12 :: ls) st σ := by
  obtain ⟨p, l, e, R, s, m, args, below, meth, c⟩ := g
  intro H locs lsA hP hS hl
  refine k H locs lsA hP hS ⟨hl.1, hl.2.1, fun q hq => hl.2.2 q ?_⟩
  obtain ⟨j, h1, h2⟩ := (toL_mem _ 0).mp hq
  refine (toL_mem _ 0).mpr ⟨j, ?_, h2⟩
  rcases j with _ | _ | _ | _ | _ | _ | _ | _ | _ | _ | _ | _ | _ | j <;> first | exact h1 | simp at h1
theorem x_iload_13 (hg : OK S w g d cc own nL ret) {a0 a1 a2 a3 a4 a5 a6 a7 a8 a9 a10 a11 a12 : Option Value} {x : Int32} (hd : decode cc pc = .ok (.iload 13, 2)) (hp : pc + 2 = pc') (k : X S w g Q pc' (a0 :: a1 :: a2 :: a3 :: a4 :: a5 :: a6 :: a7 :: a8 :: a9 :: a10 :: a11 :: a12 :: some (.int x) :: ls) (.int x :: st) σ) : X S w g Q pc (a0 :: a1 :: a2 :: a3 :: a4 :: a5 :: a6 :: a7 :: a8 :: a9 :: a10 :: a11 :: a12 :: some (.int x) :: ls) st σ := by
  obtain ⟨p, l, e, R, s, m, args, below, meth, c⟩ := g
  obtain ⟨hx, hb, hml, hown, hts, hR, hK, hr, hlk, hinj, hst, hsr⟩ := hg
  intro H locs lsA hP hS hl
  subst hp
  exact lv_iload hx hb hd (lv_l hl (k := 13) rfl) (k H locs lsA hP hS hl)
theorem x_aload_13 (hg : OK S w g d cc own nL ret) {a0 a1 a2 a3 a4 a5 a6 a7 a8 a9 a10 a11 a12 : Option Value} {x : Nat} (hd : decode cc pc = .ok (.aload 13, 2)) (hp : pc + 2 = pc') (k : X S w g Q pc' (a0 :: a1 :: a2 :: a3 :: a4 :: a5 :: a6 :: a7 :: a8 :: a9 :: a10 :: a11 :: a12 :: some (.ref x) :: ls) (.ref x :: st) σ) : X S w g Q pc (a0 :: a1 :: a2 :: a3 :: a4 :: a5 :: a6 :: a7 :: a8 :: a9 :: a10 :: a11 :: a12 :: some (.ref x) :: ls) st σ := by
  obtain ⟨p, l, e, R, s, m, args, below, meth, c⟩ := g
  obtain ⟨hx, hb, hml, hown, hts, hR, hK, hr, hlk, hinj, hst, hsr⟩ := hg
  intro H locs lsA hP hS hl
  subst hp
  exact lv_aload hx hb hd (lv_l hl (k := 13) rfl) (k H locs lsA hP hS hl)
theorem x_istore_13 (hg : OK S w g d cc own nL ret) {a0 a1 a2 a3 a4 a5 a6 a7 a8 a9 a10 a11 a12 a13 : Option Value} {x : Int32} (hd : decode cc pc = .ok (.istore 13, 2)) (hc : nl a12 = true) (hn : Nat.ble 14 nL = true) (hp : pc + 2 = pc') (k : X S w g Q pc' (a0 :: a1 :: a2 :: a3 :: a4 :: a5 :: a6 :: a7 :: a8 :: a9 :: a10 :: a11 :: a12 :: some (.int x) :: ls) st σ) : X S w g Q pc (a0 :: a1 :: a2 :: a3 :: a4 :: a5 :: a6 :: a7 :: a8 :: a9 :: a10 :: a11 :: a12 :: a13 :: ls) (.int x :: st) σ := by
  obtain ⟨p, l, e, R, s, m, args, below, meth, c⟩ := g
  obtain ⟨hx, hb, hml, hown, hts, hR, hK, hr, hlk, hinj, hst, hsr⟩ := hg
  intro H locs lsA hP hS hl
  subst hp
  have hn2 : 13 < c.maxLocals := by rw [hml]; exact Nat.le_of_ble_eq_true hn
  exact lv_istore hx hb hd hl hn2 rfl (fun ls2 hl2 => k H locs ls2 hP hS (lv_stL (k := 13) (ls := (a0 :: a1 :: a2 :: a3 :: a4 :: a5 :: a6 :: a7 :: a8 :: a9 :: a10 :: a11 :: a12 :: a13 :: ls)) hl2 (by simp) (nl_prev (k := 12) rfl hc)))
theorem x_astore_13 (hg : OK S w g d cc own nL ret) {a0 a1 a2 a3 a4 a5 a6 a7 a8 a9 a10 a11 a12 a13 : Option Value} {x : Nat} (hd : decode cc pc = .ok (.astore 13, 2)) (hc : nl a12 = true) (hn : Nat.ble 14 nL = true) (hp : pc + 2 = pc') (k : X S w g Q pc' (a0 :: a1 :: a2 :: a3 :: a4 :: a5 :: a6 :: a7 :: a8 :: a9 :: a10 :: a11 :: a12 :: some (.ref x) :: ls) st σ) : X S w g Q pc (a0 :: a1 :: a2 :: a3 :: a4 :: a5 :: a6 :: a7 :: a8 :: a9 :: a10 :: a11 :: a12 :: a13 :: ls) (.ref x :: st) σ := by
  obtain ⟨p, l, e, R, s, m, args, below, meth, c⟩ := g
  obtain ⟨hx, hb, hml, hown, hts, hR, hK, hr, hlk, hinj, hst, hsr⟩ := hg
  intro H locs lsA hP hS hl
  subst hp
  have hn2 : 13 < c.maxLocals := by rw [hml]; exact Nat.le_of_ble_eq_true hn
  exact lv_astore hx hb hd hl hn2 rfl (fun ls2 hl2 => k H locs ls2 hP hS (lv_stL (k := 13) (ls := (a0 :: a1 :: a2 :: a3 :: a4 :: a5 :: a6 :: a7 :: a8 :: a9 :: a10 :: a11 :: a12 :: a13 :: ls)) hl2 (by simp) (nl_prev (k := 12) rfl hc)))
theorem x_iinc_13 (hg : OK S w g d cc own nL ret) {a0 a1 a2 a3 a4 a5 a6 a7 a8 a9 a10 a11 a12 : Option Value} {x v : Int32} {n : Int} (hd : decode cc pc = .ok (.iinc 13 n, 3)) (hv : Int32.ofInt n = v) (hc : nl a12 = true) (hn : Nat.ble 14 nL = true) (hp : pc + 3 = pc') (k : X S w g Q pc' (a0 :: a1 :: a2 :: a3 :: a4 :: a5 :: a6 :: a7 :: a8 :: a9 :: a10 :: a11 :: a12 :: some (.int (x + v)) :: ls) st σ) : X S w g Q pc (a0 :: a1 :: a2 :: a3 :: a4 :: a5 :: a6 :: a7 :: a8 :: a9 :: a10 :: a11 :: a12 :: some (.int x) :: ls) st σ := by
  obtain ⟨p, l, e, R, s, m, args, below, meth, c⟩ := g
  obtain ⟨hx, hb, hml, hown, hts, hR, hK, hr, hlk, hinj, hst, hsr⟩ := hg
  intro H locs lsA hP hS hl
  subst hp
  subst hv
  have hn2 : 13 < c.maxLocals := by rw [hml]; exact Nat.le_of_ble_eq_true hn
  obtain ⟨j, hj⟩ := List.getElem?_of_mem ((toL_mem (q := (13, .int x)) (a0 :: a1 :: a2 :: a3 :: a4 :: a5 :: a6 :: a7 :: a8 :: a9 :: a10 :: a11 :: a12 :: some (.int x) :: ls) 0).mpr ⟨13, rfl, by simp⟩)
  exact lv_iinc hx hb hd hl hj rfl hn2 rfl (fun ls2 hl2 => k H locs ls2 hP hS (lv_stL (k := 13) (ls := (a0 :: a1 :: a2 :: a3 :: a4 :: a5 :: a6 :: a7 :: a8 :: a9 :: a10 :: a11 :: a12 :: some (.int x) :: ls)) hl2 (by simp) (nl_prev (k := 12) rfl hc)))
theorem x_drop_13 {a0 a1 a2 a3 a4 a5 a6 a7 a8 a9 a10 a11 a12 a13 : Option Value} (k : X S w g Q pc (a0 :: a1 :: a2 :: a3 :: a4 :: a5 :: a6 :: a7 :: a8 :: a9 :: a10 :: a11 :: a12 :: none :: ls) st σ) : X S w g Q pc (a0 :: a1 :: a2 :: a3 :: a4 :: a5 :: a6 :: a7 :: a8 :: a9 :: a10 :: a11 :: a12 :: a13 :: ls) st σ := by
  obtain ⟨p, l, e, R, s, m, args, below, meth, c⟩ := g
  intro H locs lsA hP hS hl
  refine k H locs lsA hP hS ⟨hl.1, hl.2.1, fun q hq => hl.2.2 q ?_⟩
  obtain ⟨j, h1, h2⟩ := (toL_mem _ 0).mp hq
  refine (toL_mem _ 0).mpr ⟨j, ?_, h2⟩
  rcases j with _ | _ | _ | _ | _ | _ | _ | _ | _ | _ | _ | _ | _ | _ | j <;> first | exact h1 | simp at h1
theorem x_iload_14 (hg : OK S w g d cc own nL ret) {a0 a1 a2 a3 a4 a5 a6 a7 a8 a9 a10 a11 a12 a13 : Option Value} {x : Int32} (hd : decode cc pc = .ok (.iload 14, 2)) (hp : pc + 2 = pc') (k : X S w g Q pc' (a0 :: a1 :: a2 :: a3 :: a4 :: a5 :: a6 :: a7 :: a8 :: a9 :: a10 :: a11 :: a12 :: a13 :: some (.int x) :: ls) (.int x :: st) σ) : X S w g Q pc (a0 :: a1 :: a2 :: a3 :: a4 :: a5 :: a6 :: a7 :: a8 :: a9 :: a10 :: a11 :: a12 :: a13 :: some (.int x) :: ls) st σ := by
  obtain ⟨p, l, e, R, s, m, args, below, meth, c⟩ := g
  obtain ⟨hx, hb, hml, hown, hts, hR, hK, hr, hlk, hinj, hst, hsr⟩ := hg
  intro H locs lsA hP hS hl
  subst hp
  exact lv_iload hx hb hd (lv_l hl (k := 14) rfl) (k H locs lsA hP hS hl)
theorem x_aload_14 (hg : OK S w g d cc own nL ret) {a0 a1 a2 a3 a4 a5 a6 a7 a8 a9 a10 a11 a12 a13 : Option Value} {x : Nat} (hd : decode cc pc = .ok (.aload 14, 2)) (hp : pc + 2 = pc') (k : X S w g Q pc' (a0 :: a1 :: a2 :: a3 :: a4 :: a5 :: a6 :: a7 :: a8 :: a9 :: a10 :: a11 :: a12 :: a13 :: some (.ref x) :: ls) (.ref x :: st) σ) : X S w g Q pc (a0 :: a1 :: a2 :: a3 :: a4 :: a5 :: a6 :: a7 :: a8 :: a9 :: a10 :: a11 :: a12 :: a13 :: some (.ref x) :: ls) st σ := by
  obtain ⟨p, l, e, R, s, m, args, below, meth, c⟩ := g
  obtain ⟨hx, hb, hml, hown, hts, hR, hK, hr, hlk, hinj, hst, hsr⟩ := hg
  intro H locs lsA hP hS hl
  subst hp
  exact lv_aload hx hb hd (lv_l hl (k := 14) rfl) (k H locs lsA hP hS hl)
theorem x_istore_14 (hg : OK S w g d cc own nL ret) {a0 a1 a2 a3 a4 a5 a6 a7 a8 a9 a10 a11 a12 a13 a14 : Option Value} {x : Int32} (hd : decode cc pc = .ok (.istore 14, 2)) (hc : nl a13 = true) (hn : Nat.ble 15 nL = true) (hp : pc + 2 = pc') (k : X S w g Q pc' (a0 :: a1 :: a2 :: a3 :: a4 :: a5 :: a6 :: a7 :: a8 :: a9 :: a10 :: a11 :: a12 :: a13 :: some (.int x) :: ls) st σ) : X S w g Q pc (a0 :: a1 :: a2 :: a3 :: a4 :: a5 :: a6 :: a7 :: a8 :: a9 :: a10 :: a11 :: a12 :: a13 :: a14 :: ls) (.int x :: st) σ := by
  obtain ⟨p, l, e, R, s, m, args, below, meth, c⟩ := g
  obtain ⟨hx, hb, hml, hown, hts, hR, hK, hr, hlk, hinj, hst, hsr⟩ := hg
  intro H locs lsA hP hS hl
  subst hp
  have hn2 : 14 < c.maxLocals := by rw [hml]; exact Nat.le_of_ble_eq_true hn
  exact lv_istore hx hb hd hl hn2 rfl (fun ls2 hl2 => k H locs ls2 hP hS (lv_stL (k := 14) (ls := (a0 :: a1 :: a2 :: a3 :: a4 :: a5 :: a6 :: a7 :: a8 :: a9 :: a10 :: a11 :: a12 :: a13 :: a14 :: ls)) hl2 (by simp) (nl_prev (k := 13) rfl hc)))
theorem x_astore_14 (hg : OK S w g d cc own nL ret) {a0 a1 a2 a3 a4 a5 a6 a7 a8 a9 a10 a11 a12 a13 a14 : Option Value} {x : Nat} (hd : decode cc pc = .ok (.astore 14, 2)) (hc : nl a13 = true) (hn : Nat.ble 15 nL = true) (hp : pc + 2 = pc') (k : X S w g Q pc' (a0 :: a1 :: a2 :: a3 :: a4 :: a5 :: a6 :: a7 :: a8 :: a9 :: a10 :: a11 :: a12 :: a13 :: some (.ref x) :: ls) st σ) : X S w g Q pc (a0 :: a1 :: a2 :: a3 :: a4 :: a5 :: a6 :: a7 :: a8 :: a9 :: a10 :: a11 :: a12 :: a13 :: a14 :: ls) (.ref x :: st) σ := by
  obtain ⟨p, l, e, R, s, m, args, below, meth, c⟩ := g
  obtain ⟨hx, hb, hml, hown, hts, hR, hK, hr, hlk, hinj, hst, hsr⟩ := hg
  intro H locs lsA hP hS hl
  subst hp
  have hn2 : 14 < c.maxLocals := by rw [hml]; exact Nat.le_of_ble_eq_true hn
  exact lv_astore hx hb hd hl hn2 rfl (fun ls2 hl2 => k H locs ls2 hP hS (lv_stL (k := 14) (ls := (a0 :: a1 :: a2 :: a3 :: a4 :: a5 :: a6 :: a7 :: a8 :: a9 :: a10 :: a11 :: a12 :: a13 :: a14 :: ls)) hl2 (by simp) (nl_prev (k := 13) rfl hc)))
theorem x_iinc_14 (hg : OK S w g d cc own nL ret) {a0 a1 a2 a3 a4 a5 a6 a7 a8 a9 a10 a11 a12 a13 : Option Value} {x v : Int32} {n : Int} (hd : decode cc pc = .ok (.iinc 14 n, 3)) (hv : Int32.ofInt n = v) (hc : nl a13 = true) (hn : Nat.ble 15 nL = true) (hp : pc + 3 = pc') (k : X S w g Q pc' (a0 :: a1 :: a2 :: a3 :: a4 :: a5 :: a6 :: a7 :: a8 :: a9 :: a10 :: a11 :: a12 :: a13 :: some (.int (x + v)) :: ls) st σ) : X S w g Q pc (a0 :: a1 :: a2 :: a3 :: a4 :: a5 :: a6 :: a7 :: a8 :: a9 :: a10 :: a11 :: a12 :: a13 :: some (.int x) :: ls) st σ := by
  obtain ⟨p, l, e, R, s, m, args, below, meth, c⟩ := g
  obtain ⟨hx, hb, hml, hown, hts, hR, hK, hr, hlk, hinj, hst, hsr⟩ := hg
  intro H locs lsA hP hS hl
  subst hp
  subst hv
  have hn2 : 14 < c.maxLocals := by rw [hml]; exact Nat.le_of_ble_eq_true hn
  obtain ⟨j, hj⟩ := List.getElem?_of_mem ((toL_mem (q := (14, .int x)) (a0 :: a1 :: a2 :: a3 :: a4 :: a5 :: a6 :: a7 :: a8 :: a9 :: a10 :: a11 :: a12 :: a13 :: some (.int x) :: ls) 0).mpr ⟨14, rfl, by simp⟩)
  exact lv_iinc hx hb hd hl hj rfl hn2 rfl (fun ls2 hl2 => k H locs ls2 hP hS (lv_stL (k := 14) (ls := (a0 :: a1 :: a2 :: a3 :: a4 :: a5 :: a6 :: a7 :: a8 :: a9 :: a10 :: a11 :: a12 :: a13 :: some (.int x) :: ls)) hl2 (by simp) (nl_prev (k := 13) rfl hc)))
theorem x_drop_14 {a0 a1 a2 a3 a4 a5 a6 a7 a8 a9 a10 a11 a12 a13 a14 : Option Value} (k : X S w g Q pc (a0 :: a1 :: a2 :: a3 :: a4 :: a5 :: a6 :: a7 :: a8 :: a9 :: a10 :: a11 :: a12 :: a13 :: none :: ls) st σ) : X S w g Q pc (a0 :: a1 :: a2 :: a3 :: a4 :: a5 :: a6 :: a7 :: a8 :: a9 :: a10 :: a11 :: a12 :: a13 :: a14 :: ls) st σ := by
  obtain ⟨p, l, e, R, s, m, args, below, meth, c⟩ := g
  intro H locs lsA hP hS hl
  refine k H locs lsA hP hS ⟨hl.1, hl.2.1, fun q hq => hl.2.2 q ?_⟩
  obtain ⟨j, h1, h2⟩ := (toL_mem _ 0).mp hq
  refine (toL_mem _ 0).mpr ⟨j, ?_, h2⟩
  rcases j with _ | _ | _ | _ | _ | _ | _ | _ | _ | _ | _ | _ | _ | _ | _ | j <;> first | exact h1 | simp at h1
theorem x_nm {x : Int32} {B : Int32 → Prop} (hw : ∀ y, y = x → B y) (k : ∀ y, B y → X S w g Q pc ls (.int y :: st) σ) : X S w g Q pc ls (.int x :: st) σ := k x (hw x rfl)
end RULES
