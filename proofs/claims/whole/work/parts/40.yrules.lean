theorem cd_objInit : Cond.code objectInit ⟨#[0xb1]⟩ 1 none ∈ GT := GT_of (i := 25) (by decide +kernel) (by decide +kernel)
theorem ac_int : Cond.arrayClass .int ∈ GT := GT_of (i := 61) (by decide +kernel) (by decide +kernel)
theorem ao_Thing {w : Wc} (s : State) (h : SR w s) : va_AO "BagBottom$Thing" s := h.2.2.2.2.1
theorem ao_Text {w : Wc} (s : State) (h : SR w s) : va_AO "BagBottom$Text" s := h.2.2.2.2.2.1
theorem ao_Sheet {w : Wc} (s : State) (h : SR w s) : va_AO "BagBottom$Sheet" s := h.2.2.2.2.2.2
-- CONSTRUCTORS: the world is a list of cells, at addresses that come as they are made
def rmc (d mc ms : Nat) : Room := { frames := d, cells := mc, slots := ms, locals := 40 * d }
def OY (w : Wc) (A : Nat → Prop) (g : Gx) (d mc ms : Nat) (cc : ByteArray) (own : String) (nL : Nat) : Prop := match g with
  | (p, _, _, R, s, m, args, _, meth, c) => p.tables.exec = Jvm.exec ∧ c.code = cc ∧ c.maxLocals = nL ∧ s.vm.findClass own = some m.cls ∧ (∀ x ∈ GT, x.before args s = true) ∧ (d ≤ R.frames ∧ 40 * d ≤ R.locals ∧ mc ≤ R.cells ∧ ms ≤ R.slots) ∧ va_K (dG w) vwCl (tys w) s ∧ meth.locks = false ∧ (∀ q, s.heap.size ≤ q → A q) ∧ SR w s
def Y (w : Wc) (A : Nat → Prop) (g : Gx) (Q : State → Prop) (pc : Nat) (ls : List (Option Value)) (st : List Value) (k n : Nat) (ws : va_W) : Prop := match g with
  | (p, l, e, R, s, m, args, below, meth, c) => ∀ (H : Heap) (locs : List Loc) (lsA : Array Slot), va_P (dG w) vwCl ws H → va_D A ws → va_S A s.heap H locs → lv_has lsA c.maxLocals (toL 0 ls) → W p l e R s m args below meth c H locs k n Q (F0 m pc lsA st)
def YI (g : Gx) : Prop := match g with
  | (_, _, _, _, _, _, _, _, meth, _) => meth.name = "<init>" ∧ meth.sig.returnType = none
def QY (w : Wc) (A : Nat → Prop) (g : Gx) (mc ms : Nat) (h0 : Nat) (G : (Nat → Nat) → va_W) : State → Prop := match g with
  | (_, _, _, _, s, _, args, below, _, _) => MQ below (va_Qv (fun a : Nat → Nat => a 0 = h0) (fun a t => va_P (dG w) vwCl (G a) t.heap ∧ va_D A (G a)) A) args s mc ms A
def CC (w : Wc) (l : Launch) (d mc ms : Nat) (cd : Cond) (y : MethodName) (as : List Value) (h0 : Nat) (e0 : va_E) (G : (Nat → Nat) → va_W) : Prop := ∀ sz : Nat, Met l y (cd :: GT) (rmc d mc ms) (va_Pc (.ref h0 :: as) (fun U => U.heap.size = sz ∧ va_P (dG w) vwCl [(h0, e0)] U.heap ∧ va_K (dG w) vwCl (tys w) U ∧ SR w U)) (va_Qv (fun a : Nat → Nat => a 0 = h0) (fun a t => va_P (dG w) vwCl (G a) t.heap ∧ va_D (va_A [(h0, e0)] sz) (G a)) (va_A [(h0, e0)] sz)) mc ms (va_A [(h0, e0)] sz)
abbrev eI (w : Wc) (n : Nat) : va_E := .inl (cA w 0, n, .inl (fun _ => 0))
abbrev eF (w : Wc) (n : Nat) (f : Nat → Int32) : va_E := .inl (cA w 0, n, .inl f)
abbrev eQ (w : Wc) (t n : Nat) (f : Nat → Option Nat) : va_E := .inl (cA w t, n, .inr (.inr (.inr (.inr f))))
theorem cc_of {w : Wc} {l : Launch} {d mc ms maxL : Nat} {cc : ByteArray} {y : MethodName} {own : String} {as : List Value} {h0 : Nat} {e0 : va_E} {G : (Nat → Nat) → va_W} {ls0 : List (Option Value)} (ho : y.cls = own) (hn : y.name = "<init>") (hy : plainName y.cls = true) (hlen : Nat.ble (lg_sl (.ref h0 :: as)).length maxL = true) (hls : toL 0 ls0 = lv_args 0 (.ref h0 :: as))
    (body : ∀ g A, gL g = l → OY w A g d mc ms cc own maxL → YI g → Y w A g (QY w A g mc ms h0 G) 0 ls0 [] 0 0 [(h0, e0)]) : CC w l d mc ms (.code y cc maxL none) y as h0 e0 G := by
  intro sz
  refine Met.ofW (cc := cc) (maxL := maxL) (ret := none) hy rfl ?_
  intro p e s m args below meth c s₁ B hml hv
  obtain ⟨rfl, hsz, hP, hK, hsr⟩ := hv
  subst hsz
  have hts := atoms_spec (ws := Cond.code y cc maxL none :: GT) B.pre
  have hown : s.vm.findClass own = some m.cls := by
    rw [← ho]
    exact findClass_of_methodNamed B.named
  have hl := lv_entry (.ref h0 :: as) (n := maxL) (Nat.le_of_ble_eq_true hlen)
  have hin : meth.name = "<init>" := by
    rw [← hn]
    exact (name_of_methodNamed B.named B.method).1
  have hD : va_D (va_A [(h0, e0)] s.heap.size) [(h0, e0)] := by
    refine ⟨fun i j p q hi hj _ => ?_, fun k q hk => va_A.in hk⟩
    have h1 := (List.getElem?_eq_some_iff.mp hi).1
    have h2 := (List.getElem?_eq_some_iff.mp hj).1
    simp at h1 h2
    omega
  rw [lg_entry_eq]
  exact body (p, l, e, rmc d mc ms, s, m, (.ref h0 :: as).toArray, below, meth, c) (va_A [(h0, e0)] s.heap.size) rfl ⟨B.exec, B.bytes, hml, hown, fun x hx => hts x (List.mem_cons_of_mem _ hx), ⟨Nat.le_refl _, Nat.le_refl _, Nat.le_refl _, Nat.le_refl _⟩, hK, B.notSynchronized, fun q h => Or.inr h, hsr⟩ ⟨hin, B.returns⟩ s.heap [] _ hP hD va_S.rf (by rw [hls, hml]; exact hl)
section YR
variable {w : Wc} {A : Nat → Prop} {g : Gx} {Q : State → Prop} {d mc ms : Nat} {cc : ByteArray} {own : String} {nL : Nat} {pc pc' : Nat} {ls : List (Option Value)} {st : List Value} {k n : Nat} {ws : va_W}
theorem y_cast {ws2 : va_W} (h : ws = ws2) (kk : Y w A g Q pc ls st k n ws2) : Y w A g Q pc ls st k n ws := h ▸ kk
theorem y_ic (hg : OY w A g d mc ms cc own nL) {z : Int} {v : Int32} (hd : decode cc pc = .ok (.iconst z, 1)) (hv : Int32.ofInt z = v) (hp : pc + 1 = pc') (kk : Y w A g Q pc' ls (.int v :: st) k n ws) : Y w A g Q pc ls st k n ws := by
  obtain ⟨p, l, e, R, s, m, args, below, meth, c⟩ := g
  obtain ⟨hx, hb, hml, hown, hts, hR, hK, hlk, hA, hsr⟩ := hg
  intro H locs lsA hP hD hS hl
  subst hp
  exact lv_iconst hx hb hd hv (kk H locs lsA hP hD hS hl)
theorem y_bi (hg : OY w A g d mc ms cc own nL) {z : Int} {v : Int32} (hd : decode cc pc = .ok (.bipush z, 2)) (hv : (Int8.ofInt z).toInt32 = v) (hp : pc + 2 = pc') (kk : Y w A g Q pc' ls (.int v :: st) k n ws) : Y w A g Q pc ls st k n ws := by
  obtain ⟨p, l, e, R, s, m, args, below, meth, c⟩ := g
  obtain ⟨hx, hb, hml, hown, hts, hR, hK, hlk, hA, hsr⟩ := hg
  intro H locs lsA hP hD hS hl
  subst hp
  exact lv_bipush hx hb hd hv (kk H locs lsA hP hD hS hl)
theorem y_si (hg : OY w A g d mc ms cc own nL) {z : Int} {v : Int32} (hd : decode cc pc = .ok (.sipush z, 3)) (hv : (Int16.ofInt z).toInt32 = v) (hp : pc + 3 = pc') (kk : Y w A g Q pc' ls (.int v :: st) k n ws) : Y w A g Q pc ls st k n ws := by
  obtain ⟨p, l, e, R, s, m, args, below, meth, c⟩ := g
  obtain ⟨hx, hb, hml, hown, hts, hR, hK, hlk, hA, hsr⟩ := hg
  intro H locs lsA hP hD hS hl
  subst hp
  exact lv_sipush hx hb hd hv (kk H locs lsA hP hD hS hl)
theorem y_dup (hg : OY w A g d mc ms cc own nL) {v : Value} (hd : decode cc pc = .ok (.dup, 1)) (hv : v.category = 1) (hp : pc + 1 = pc') (kk : Y w A g Q pc' ls (v :: v :: st) k n ws) : Y w A g Q pc ls (v :: st) k n ws := by
  obtain ⟨p, l, e, R, s, m, args, below, meth, c⟩ := g
  obtain ⟨hx, hb, hml, hown, hts, hR, hK, hlk, hA, hsr⟩ := hg
  intro H locs lsA hP hD hS hl
  subst hp
  exact lv_dup hx hb hd hv (kk H locs lsA hP hD hS hl)
theorem y_ldcS (hg : OY w A g d mc ms cc own nL) {i : Nat} {tx : String} (j : Int32) (hc : txR[ix j]? = some (own, i, tx)) (hd : decode cc pc = .ok (.ldc i, 2)) (hp : pc + 2 = pc') (kk : Y w A g Q pc' ls (.ref (sa w j) :: st) k n ws) : Y w A g Q pc ls st k n ws := by
  obtain ⟨p, l, e, R, s, m, args, below, meth, c⟩ := g
  obtain ⟨hx, hb, hml, hown, hts, hR, hK, hlk, hA, hsr⟩ := hg
  intro H locs lsA hP hD hS hl
  subst hp
  exact va_ldcS hx hb hown (hsr.1 _ _ hc) hd (kk H locs lsA hP hD hS hl)
theorem y_goto (hg : OY w A g d mc ms cc own nL) {off : Int} (hd : decode cc pc = .ok (.goto off, 3)) (ht : (pc : Int) + off = (pc' : Int)) (kk : Y w A g Q pc' ls st k n ws) : Y w A g Q pc ls st k n ws := by
  obtain ⟨p, l, e, R, s, m, args, below, meth, c⟩ := g
  obtain ⟨hx, hb, hml, hown, hts, hR, hK, hlk, hA, hsr⟩ := hg
  intro H locs lsA hP hD hS hl
  exact lv_goto hx hb hd ht (kk H locs lsA hP hD hS hl)
theorem y_gef (hg : OY w A g d mc ms cc own nL) {x y : Int32} {off : Int} (hd : decode cc pc = .ok (.if_icmp .ge off, 3)) {tg : Nat} (ht : (pc : Int) + off = (tg : Int)) (hn : ¬ y ≤ x) (hp : pc + 3 = pc') (kk : Y w A g Q pc' ls st k n ws) : Y w A g Q pc ls (.int y :: .int x :: st) k n ws := by
  obtain ⟨p, l, e, R, s, m, args, below, meth, c⟩ := g
  obtain ⟨hx, hb, hml, hown, hts, hR, hK, hlk, hA, hsr⟩ := hg
  intro H locs lsA hP hD hS hl
  subst hp
  exact lv_icmp_ge hx hb hd ht (fun h => absurd h hn) (fun _ => kk H locs lsA hP hD hS hl)
theorem y_get (hg : OY w A g d mc ms cc own nL) {x y : Int32} {off : Int} (hd : decode cc pc = .ok (.if_icmp .ge off, 3)) {tg : Nat} (ht : (pc : Int) + off = (tg : Int)) (hn : y ≤ x) (kk : Y w A g Q tg ls st k n ws) : Y w A g Q pc ls (.int y :: .int x :: st) k n ws := by
  obtain ⟨p, l, e, R, s, m, args, below, meth, c⟩ := g
  obtain ⟨hx, hb, hml, hown, hts, hR, hK, hlk, hA, hsr⟩ := hg
  intro H locs lsA hP hD hS hl
  exact lv_icmp_ge hx hb hd ht (fun _ => kk H locs lsA hP hD hS hl) (fun h => absurd hn h)
theorem y_aload0 (hg : OY w A g d mc ms cc own nL) {x : Nat} {t : List (Option Value)} (hd : decode cc pc = .ok (.aload_n 0, 1)) (hp : pc + 1 = pc') (kk : Y w A g Q pc' (some (.ref x) :: t) (.ref x :: st) k n ws) : Y w A g Q pc (some (.ref x) :: t) st k n ws := by
  obtain ⟨p, l, e, R, s, m, args, below, meth, c⟩ := g
  obtain ⟨hx, hb, hml, hown, hts, hR, hK, hlk, hA, hsr⟩ := hg
  intro H locs lsA hP hD hS hl
  subst hp
  exact lv_aload_n hx hb hd rfl (lv_l hl (k := 0) rfl) (kk H locs lsA hP hD hS hl)
theorem y_iload1 (hg : OY w A g d mc ms cc own nL) {a0 : Option Value} {x : Int32} {t : List (Option Value)} (hd : decode cc pc = .ok (.iload_n 1, 1)) (hp : pc + 1 = pc') (kk : Y w A g Q pc' (a0 :: some (.int x) :: t) (.int x :: st) k n ws) : Y w A g Q pc (a0 :: some (.int x) :: t) st k n ws := by
  obtain ⟨p, l, e, R, s, m, args, below, meth, c⟩ := g
  obtain ⟨hx, hb, hml, hown, hts, hR, hK, hlk, hA, hsr⟩ := hg
  intro H locs lsA hP hD hS hl
  subst hp
  exact lv_iload_n hx hb hd rfl (lv_l hl (k := 1) rfl) (kk H locs lsA hP hD hS hl)
theorem y_istore1 (hg : OY w A g d mc ms cc own nL) {a0 a1 : Option Value} {x : Int32} {t : List (Option Value)} (hd : decode cc pc = .ok (.istore_n 1, 1)) (hc : nl a0 = true) (hn : Nat.ble 2 nL = true) (hp : pc + 1 = pc') (kk : Y w A g Q pc' (a0 :: some (.int x) :: t) st k n ws) : Y w A g Q pc (a0 :: a1 :: t) (.int x :: st) k n ws := by
  obtain ⟨p, l, e, R, s, m, args, below, meth, c⟩ := g
  obtain ⟨hx, hb, hml, hown, hts, hR, hK, hlk, hA, hsr⟩ := hg
  intro H locs lsA hP hD hS hl
  subst hp
  have hn2 : 1 < c.maxLocals := by rw [hml]; exact Nat.le_of_ble_eq_true hn
  exact lv_istore_n hx hb hd rfl hl hn2 rfl (fun ls2 hl2 => kk H locs ls2 hP hD hS (lv_stL (k := 1) (ls := a0 :: a1 :: t) hl2 (by simp) (nl_prev (k := 0) rfl hc)))
theorem y_iinc1 (hg : OY w A g d mc ms cc own nL) {a0 : Option Value} {x v y : Int32} {z : Int} {t : List (Option Value)} (hd : decode cc pc = .ok (.iinc 1 z, 3)) (hv : Int32.ofInt z = v) (hy : x + v = y) (hc : nl a0 = true) (hn : Nat.ble 2 nL = true) (hp : pc + 3 = pc') (kk : Y w A g Q pc' (a0 :: some (.int y) :: t) st k n ws) : Y w A g Q pc (a0 :: some (.int x) :: t) st k n ws := by
  obtain ⟨p, l, e, R, s, m, args, below, meth, c⟩ := g
  obtain ⟨hx, hb, hml, hown, hts, hR, hK, hlk, hA, hsr⟩ := hg
  intro H locs lsA hP hD hS hl
  subst hp; subst hv; subst hy
  have hn2 : 1 < c.maxLocals := by rw [hml]; exact Nat.le_of_ble_eq_true hn
  obtain ⟨j, hj⟩ := List.getElem?_of_mem ((toL_mem (q := (1, .int x)) (a0 :: some (.int x) :: t) 0).mpr ⟨1, rfl, by simp⟩)
  exact lv_iinc hx hb hd hl hj rfl hn2 rfl (fun ls2 hl2 => kk H locs ls2 hP hD hS (lv_stL (k := 1) (ls := a0 :: some (.int x) :: t) hl2 (by simp) (nl_prev (k := 0) rfl hc)))
theorem y_getr (hg : OY w A g d mc ms cc own nL) {j idx ci N a : Nat} {C : String} {T : u_T} {fs : List Value} {v : Value} (q0 : Nat) (he : ws[q0]? = some (a, .inr (ci, fs))) (hc : vwCl[ci]? = some (C, T, N)) (hin : ∀ x ∈ u_ws C T N, x ∈ GT) (hj : j < N) (hv : fs[j]? = some v) (hl : Cond.fieldLink own idx (T j).1 (T j).2.1 (T j).2.2.1 ∈ GT) (hd : decode cc pc = .ok (.getfield idx, 3)) (hp : pc + 3 = pc') (kk : Y w A g Q pc' ls (v :: st) k n ws) : Y w A g Q pc ls (.ref a :: st) k n ws := by
  obtain ⟨p, l, e, R, s, m, args, below, meth, c⟩ := g
  obtain ⟨hx, hb, hml, hown, hts, hR, hK, hlk, hA, hsr⟩ := hg
  intro H locs lsA hP hD hS hlv
  subst hp
  exact va_get (D := dG w) (cl := vwCl) (tys := tys w) (ws := ws) (ci := ci) hx hb hts hin hown hK hP q0 he hc j hj (hts _ hl) (fun _ h => h) hv hd (kk H locs lsA hP hD hS hlv)
theorem y_put (hg : OY w A g d mc ms cc own nL) {j idx ci N a : Nat} {C : String} {T : u_T} {ty0 : Nat → FieldType} {fs : List Value} {v : Value} {ws2 : va_W} (q0 : Nat) (he : ws[q0]? = some (a, .inr (ci, fs))) (hc : vwCl[ci]? = some (C, T, N)) (hin : ∀ x ∈ u_ws C T N, x ∈ GT) (hty : ∀ k, k < N → parseFieldDescriptor (T k).2.2.1 = some (ty0 k)) (hnm : ∀ a, a < N → ∀ b, b < N → a ≠ b → (T a).2.1 ≠ (T b).2.1) (hj : j < N) (hfin : (T j).2.2.2 = false) (hn : narrow (ty0 j) v = v) (hfit : fits (ty0 j) v = true) (hjl : Nat.blt j fs.length = true) (hl : Cond.fieldLink own idx (T j).1 (T j).2.1 (T j).2.2.1 ∈ GT) (hd : decode cc pc = .ok (.putfield idx, 3)) (hp : pc + 3 = pc') (h2 : ws.set q0 (a, .inr (ci, fs.set j v)) = ws2) (kk : Y w A g Q pc' ls st k n ws2) : Y w A g Q pc ls (v :: .ref a :: st) k n ws := by
  obtain ⟨p, l, e, R, s, m, args, below, meth, c⟩ := g
  obtain ⟨hx, hb, hml, hown, hts, hR, hK, hlk, hA, hsr⟩ := hg
  intro H locs lsA hP hD hS hlv
  subst hp; subst h2
  refine va_put (D := dG w) (cl := vwCl) (tys := tys w) (ws := ws) (ci := ci) (ty := ty0 j) hx hb hts hin ty0 hty hnm hown hK hP hD hS q0 he hc j hj (hts _ hl) (fun _ h => h) hfin (hty j hj) hn hfit (by simpa [Nat.blt_eq] using hjl) hd (fun H1 locs1 hP1 hD1 hS1 => kk H1 locs1 lsA hP1 hD1 hS1 hlv)
theorem y_putF (hg : OY w A g d mc ms cc own nL) (hi : YI g) {j idx ci N a : Nat} {C : String} {T : u_T} {ty0 : Nat → FieldType} {fs : List Value} {v : Value} {ws2 : va_W} (q0 : Nat) (he : ws[q0]? = some (a, .inr (ci, fs))) (hc : vwCl[ci]? = some (C, T, N)) (hin : ∀ x ∈ u_ws C T N, x ∈ GT) (hty : ∀ k, k < N → parseFieldDescriptor (T k).2.2.1 = some (ty0 k)) (hnm : ∀ a, a < N → ∀ b, b < N → a ≠ b → (T a).2.1 ≠ (T b).2.1) (hj : j < N) (hfin : (T j).2.2.2 = true) (hdecl : (T j).1 = own) (hn : narrow (ty0 j) v = v) (hfit : fits (ty0 j) v = true) (hjl : Nat.blt j fs.length = true) (hl : Cond.fieldLink own idx (T j).1 (T j).2.1 (T j).2.2.1 ∈ GT) (hd : decode cc pc = .ok (.putfield idx, 3)) (hp : pc + 3 = pc') (h2 : ws.set q0 (a, .inr (ci, fs.set j v)) = ws2) (kk : Y w A g Q pc' ls st k n ws2) : Y w A g Q pc ls (v :: .ref a :: st) k n ws := by
  obtain ⟨p, l, e, R, s, m, args, below, meth, c⟩ := g
  obtain ⟨hx, hb, hml, hown, hts, hR, hK, hlk, hA, hsr⟩ := hg
  intro H locs lsA hP hD hS hlv
  subst hp; subst h2
  refine va_putF (D := dG w) (cl := vwCl) (tys := tys w) (ws := ws) (ci := ci) (ty := ty0 j) hx hb hts hin ty0 hty hnm hown hK hP hD hS q0 he hc j hj (hts _ hl) (fun _ h => h) hfin hi.1 hdecl (hty j hj) hn hfit (by simpa [Nat.blt_eq] using hjl) hd (fun H1 locs1 hP1 hD1 hS1 => kk H1 locs1 lsA hP1 hD1 hS1 hlv)
theorem y_iast (hg : OY w A g d mc ms cc own nL) {a N : Nat} {f : Nat → Int32} {i x : Int32} {ws2 : va_W} (q0 : Nat) (he : ws[q0]? = some (a, eF w N f)) (hin : vp_in i N) (hd : decode cc pc = .ok (.iastore, 1)) (hp : pc + 1 = pc') (h2 : ws.set q0 (a, eF w N (upd f i.toNatClampNeg x)) = ws2) (kk : Y w A g Q pc' ls st k n ws2) : Y w A g Q pc ls (.int x :: .int i :: .ref a :: st) k n ws := by
  obtain ⟨p, l, e, R, s, m, args, below, meth, c⟩ := g
  obtain ⟨hx, hb, hml, hown, hts, hR, hK, hlk, hA, hsr⟩ := hg
  intro H locs lsA hP hD hS hlv
  subst hp; subst h2
  exact va_iast (D := dG w) (cl := vwCl) (tys := tys w) (ws := ws) hx hb hK hP hD hS q0 0 he rfl hin hd (fun H1 locs1 hP1 hD1 hS1 => kk H1 locs1 lsA hP1 hD1 hS1 hlv)
theorem y_aast (hg : OY w A g d mc ms cc own nL) {a N t v ci : Nat} {f : Nat → Option Nat} {r : vw_C} {vs : List Value} {i : Int32} {ws2 : va_W} (q0 qk : Nat) (he : ws[q0]? = some (a, eQ w t N f)) (ht : (tys w)[t]? = some (cA w t, .object r.1)) (hv : ws[qk]? = some (v, .inr (ci, vs))) (hc : vwCl[ci]? = some r) (hin : vp_in i N) (hd : decode cc pc = .ok (.aastore, 1)) (hp : pc + 1 = pc') (h2 : ws.set q0 (a, eQ w t N (va_up f i.toNatClampNeg (some v))) = ws2) (kk : Y w A g Q pc' ls st k n ws2) : Y w A g Q pc ls (.ref v :: .int i :: .ref a :: st) k n ws := by
  obtain ⟨p, l, e, R, s, m, args, below, meth, c⟩ := g
  obtain ⟨hx, hb, hml, hown, hts, hR, hK, hlk, hA, hsr⟩ := hg
  intro H locs lsA hP hD hS hlv
  subst hp; subst h2
  exact va_astq (D := dG w) (cl := vwCl) (tys := tys w) (ws := ws) hx hb hK hP hD hS q0 t qk ci he ht hv hc hin hd (fun H1 locs1 hP1 hD1 hS1 => kk H1 locs1 lsA hP1 hD1 hS1 hlv)
theorem y_new (hg : OY w A g d mc ms cc own nL) {idx ci N : Nat} {C : String} {T : u_T} {ty0 : Nat → FieldType} {fs : List Value} (hc : vwCl[ci]? = some (C, T, N)) (hin : ∀ x ∈ u_ws C T N, x ∈ GT) (hty : ∀ k, k < N → parseFieldDescriptor (T k).2.2.1 = some (ty0 k)) (hcl : Cond.classLink own idx C ∈ GT) (hins : Cond.instantiable C N ∈ GT) (hini : Cond.initialized C ∈ GT) (hfs : ∀ j, j < N → defaultValue (ty0 j) = vp_V fs j) (h1 : Nat.ble (k + 1) mc = true) (h2 : Nat.ble (n + N) ms = true) (hd : decode cc pc = .ok (.new idx, 3)) (hp : pc + 3 = pc') (kk : ∀ q, Y w A g Q pc' ls (.ref q :: st) (k + 1) (n + N) (ws ++ [(q, .inr (ci, fs))])) : Y w A g Q pc ls st k n ws := by
  obtain ⟨p, l, e, R, s, m, args, below, meth, c⟩ := g
  obtain ⟨hx, hb, hml, hown, hts, hR, hK, hlk, hA, hsr⟩ := hg
  intro H locs lsA hP hD hS hlv
  subst hp
  have h1 := Nat.le_of_ble_eq_true h1
  have h2 := Nat.le_of_ble_eq_true h2
  exact va_new (D := dG w) (cl := vwCl) (tys := tys w) (ws := ws) (ci := ci) hx hb hts hin ty0 hty hown (hts _ hcl) (hts _ hins) (hts _ hini) hK hP hD hS hA hc hfs (Nat.le_trans h1 hR.2.2.1) (Nat.le_trans h2 hR.2.2.2) hd (fun q H1 hP1 hD1 hS1 => kk q H1 locs lsA hP1 hD1 hS1 hlv)
theorem y_newi (hg : OY w A g d mc ms cc own nL) {z : Int32} {N : Nat} (hac : Cond.arrayClass .int ∈ GT) (hz : ¬ z < 0) (hN : z.toNatClampNeg = N) (hs : Nat.ble (N * 4) 536870912 = true) (h1 : Nat.ble (k + 1) mc = true) (h2 : Nat.ble (n + N) ms = true) (hd : decode cc pc = .ok (.newarray .int, 2)) (hp : pc + 2 = pc') (kk : ∀ q, Y w A g Q pc' ls (.ref q :: st) (k + 1) (n + N) (ws ++ [(q, eI w N)])) : Y w A g Q pc ls (.int z :: st) k n ws := by
  obtain ⟨p, l, e, R, s, m, args, below, meth, c⟩ := g
  obtain ⟨hx, hb, hml, hown, hts, hR, hK, hlk, hA, hsr⟩ := hg
  intro H locs lsA hP hD hS hlv
  subst hp
  have h1 := Nat.le_of_ble_eq_true h1
  have h2 := Nat.le_of_ble_eq_true h2
  refine va_newa (D := dG w) (cl := vwCl) (tys := tys w) (ws := ws) (atype := .int) (ty := .int) (a0 := (N, .inl (fun _ => 0))) hx hb (hts _ hac) rfl hK hP hD hS hA (fun cA => by rw [vp_cell_i]; rfl) hz hN (Nat.le_of_ble_eq_true hs) (Nat.le_trans h1 hR.2.2.1) (Nat.le_trans h2 hR.2.2.2) hd (fun q cA2 H1 hK1 hP1 hD1 hS1 => ?_)
  have e1 := (hK.2 0 _ rfl).2
  have e2 := (hK1.2 4 _ rfl).2
  have e3 : cA w 0 = cA2 := Option.some.inj (e1.symm.trans e2)
  subst e3
  exact kk q H1 locs lsA hP1 hD1 hS1 hlv
theorem y_newq (hg : OY w A g d mc ms cc own nL) {idx t : Nat} {C : String} {z : Int32} {N : Nat} (ht : (tys w)[t]? = some (cA w t, .object C)) (hcl : Cond.classLink own idx C ∈ GT) (hao : ∀ s, SR w s → va_AO C s) (hz : ¬ z < 0) (hN : z.toNatClampNeg = N) (hs : Nat.ble (N * 4) 536870912 = true) (h1 : Nat.ble (k + 1) mc = true) (h2 : Nat.ble (n + N) ms = true) (hd : decode cc pc = .ok (.anewarray idx, 3)) (hp : pc + 3 = pc') (kk : ∀ q, Y w A g Q pc' ls (.ref q :: st) (k + 1) (n + N) (ws ++ [(q, eQ w t N (fun _ => none))])) : Y w A g Q pc ls (.int z :: st) k n ws := by
  obtain ⟨p, l, e, R, s, m, args, below, meth, c⟩ := g
  obtain ⟨hx, hb, hml, hown, hts, hR, hK, hlk, hA, hsr⟩ := hg
  intro H locs lsA hP hD hS hlv
  subst hp
  have h1 := Nat.le_of_ble_eq_true h1
  have h2 := Nat.le_of_ble_eq_true h2
  refine va_newq (D := dG w) (cl := vwCl) (tys := tys w) (ws := ws) hx hb hown (hts _ hcl) (hao _ hsr) hK hP hD hS hA hz hN (Nat.le_of_ble_eq_true hs) (Nat.le_trans h1 hR.2.2.1) (Nat.le_trans h2 hR.2.2.2) hd (fun q cA2 H1 hK1 hP1 hD1 hS1 => ?_)
  obtain ⟨kA, comp, -, -, -, e1⟩ := (hK.2 t _ ht).2
  obtain ⟨kA2, comp2, -, -, -, e2⟩ := (hK1.2 4 _ rfl).2
  have e3 : cA w t = cA2 := Option.some.inj (e1.symm.trans e2)
  subst e3
  exact kk q H1 locs lsA hP1 hD1 hS1 hlv
theorem y_obj (hg : OY w A g d mc ms cc own nL) {idx a : Nat} (hl : Cond.methodLink own idx objectInit ∈ GT) (hd0 : Nat.ble 1 d = true) (hd : decode cc pc = .ok (.invokespecial idx, 3)) (hp : pc + 3 = pc') (kk : Y w A g Q pc' ls [] k n ws) : Y w A g Q pc ls [.ref a] k n ws := by
  obtain ⟨p, l, e, R, s, m, args, below, meth, c⟩ := g
  obtain ⟨hx, hb, hml, hown, hts, hR, hK, hlk, hA, hsr⟩ := hg
  intro H locs lsA hP hD hS hlv
  subst hp
  have h1 := Nat.le_of_ble_eq_true hd0
  exact W.objInit hx hb hown (hts _ hl) (hts _ im_objectInit) (hts _ cd_objInit) rfl hlv.1 rfl hd (Nat.le_trans h1 hR.1) (by show 0 + 12 ≤ _; omega) (kk H locs lsA hP hD hS hlv)
theorem y_mmax (hg : OY w A g d mc ms cc own nL) {idx : Nat} {x y : Int32} (hl : Cond.methodLink own idx yJ9_max_7cf53 ∈ GT) (hd0 : Nat.ble 1 d = true) (hsum : Nat.ble (st.map fun v => v.category).sum 8 = true) (h1 : Nat.ble k mc = true) (h2 : Nat.ble n ms = true) (hd : decode cc pc = .ok (.invokestatic idx, 3)) (hp : pc + 3 = pc') (kk : Y w A g Q pc' ls (.int (if x < y then y else x) :: st) k n ws) : Y w A g Q pc ls (.int y :: .int x :: st) k n ws := by
  obtain ⟨p, l, e, R, s, m, args, below, meth, c⟩ := g
  obtain ⟨hx, hb, hml, hown, hts, hR, hK, hlk, hA, hsr⟩ := hg
  intro H locs lsA hP hD hS hlv
  subst hp
  have h3 := Nat.le_of_ble_eq_true hd0
  have h4 := Nat.le_of_ble_eq_true hsum
  exact va_mmax hx hb hlv.1.symm hown (hts _ hl) (hts _ sm_J9_max_7cf53) (hts _ ini_J9) (hts _ cd_J9_max_7cf53) (Nat.le_trans h3 hR.1) (by omega) (Nat.le_trans (Nat.le_of_ble_eq_true h1) hR.2.2.1) (Nat.le_trans (Nat.le_of_ble_eq_true h2) hR.2.2.2) hd (kk H locs lsA hP hD hS hlv)
theorem y_vret {h0 : Nat} {G : (Nat → Nat) → va_W} (hg : OY w A g d mc ms cc own nL) (hi : YI g) (hd : decode cc pc = .ok (.return_, 1)) (a : Nat → Nat) (ha : a 0 = h0) (hG : va_P (dG w) vwCl ws = va_P (dG w) vwCl (G a) ∧ (va_D A ws → va_D A (G a))) : Y w A g (QY w A g k n h0 G) pc ls [] k n ws := by
  obtain ⟨p, l, e, R, s, m, args, below, meth, c⟩ := g
  obtain ⟨hx, hb, hml, hown, hts, hR, hK, hlk, hA, hsr⟩ := hg
  intro H locs lsA hP hD hS hlv
  exact W.vret hx hb hi.2 (fun t ht hW => ⟨⟨a, rfl, ha, by rw [ht, ← hG.1]; exact hP, hG.2 hD⟩, hS.F ht⟩) hS.2.2 hd hlk
theorem lt_app_l {ws w2 : va_W} {H : Heap} (h : va_P (dG w) vwCl (ws ++ w2) H) : va_P (dG w) vwCl ws H := fun k q hk => h k q (by rw [List.getElem?_append_left (List.getElem?_eq_some_iff.mp hk).1]; exact hk)
theorem y_init (hg : OY w A g d mc ms cc own nL) {d2 mc2 ms2 idx maxL q na : Nat} {bytes : ByteArray} {y : MethodName} {As stk : List Value} {e0 : va_E} {G : (Nat → Nat) → va_W} {C : String} (hM : CC w (gL g) d2 mc2 ms2 (.code y bytes maxL none) y As q e0 G) (hmi : MI y bytes maxL none na C) (hy1 : y.name = "<init>") (hinst : Cond.instanceMethod y ∈ GT) (hlk : Cond.methodLink own idx y ∈ GT) (hR1 : Nat.ble (d2 + 1) d = true) (hR2 : Nat.ble maxL 21 = true) (h1 : Nat.ble (k + mc2) mc = true) (h2 : Nat.ble (n + ms2) ms = true) (hn : As.length = na) (hstk : stk = As.reverse ++ .ref q :: st) (hsum : Nat.ble (st.map fun v => v.category).sum 8 = true) (hd : decode cc pc = .ok (.invokespecial idx, 3)) (hp : pc + 3 = pc')
    (kk : ∀ a : Nat → Nat, a 0 = q → Y w A g Q pc' ls st (k + mc2) (n + ms2) (ws ++ G a)) : Y w A g Q pc ls stk k n (ws ++ [(q, e0)]) := by
  obtain ⟨p, l, e, R, s, m, args, below, meth, c⟩ := g
  obtain ⟨hx, hb, hml, hown, hts, hR, hK, hlk2, hA, hsr⟩ := hg
  intro H locs lsA hP hD hS hlv
  subst hp; subst hstk
  obtain ⟨hcode, hini, hC, hdd⟩ := hmi
  subst hC
  have g1 := Nat.le_of_ble_eq_true hR1
  have g2 := Nat.le_of_ble_eq_true hR2
  have hq : (ws ++ [(q, e0)])[ws.length]? = some (q, e0) := by simp
  have hPq : va_P (dG w) vwCl [(q, e0)] H := by
    intro j x hj
    have : x = (q, e0) := by
      have := List.mem_of_getElem? hj
      simpa using this
    subst this
    exact hP _ _ hq
  have hAq : A q := hD.2 _ _ hq
  have hsub : ∀ x, va_A [(q, e0)] H.size x → A x := by
    intro x hx2
    rcases hx2 with ⟨j, e2, hj⟩ | hx2
    · have := List.mem_of_getElem? hj
      simp at this
      rw [this.1]
      exact hAq
    · exact hA x (Nat.le_trans hS.1 hx2)
  have cb : CallB R s args own idx y bytes maxL none (.code y bytes maxL none :: GT) (rmc d2 mc2 ms2) mc2 ms2 na := callB_of (Ts := GT) na hts (GT_good hcode) rfl rfl rfl (hts _ hini) (hts _ hlk) hdd ⟨Nat.le_trans g1 hR.1, by
    show 8 + (maxL + 11) + 40 * d2 ≤ R.locals
    have := hR.2.1
    omega⟩
  refine va_callv (A0 := A) (va_runI (As := As) (rest := st) ⟨hx, hb, hml, hown, hts⟩ (hM H.size) ⟨cb, hy1, hts _ hinst⟩ ⟨fun a U g mk z => by
    obtain ⟨z0, z1, zP, zK, zS⟩ := z
    exact ⟨z0, z1, zP, va_K.moved (u := U) (U := U.calling g mk a) (Vm.Alike.refl U.vm) zK, SR.same rfl zS⟩, fun U hU hW => ⟨rfl, by rw [hU], by rw [hU]; exact hPq, va_K.moved hW.alike hK, hsr.warm hW⟩⟩ rfl hn (hlv.1.trans hml) rfl (lv_room (Nat.le_of_ble_eq_true hsum)) hd ⟨Nat.le_trans (Nat.le_of_ble_eq_true h1) hR.2.2.1, Nat.le_trans (Nat.le_of_ble_eq_true h2) hR.2.2.2⟩) hS (fun x _ h => hsub x h) hsub (fun a t H1 locs1 ht hvm hw hB hz hk1 hS1 => ?_)
  obtain ⟨hP1, hD1⟩ := hB
  rw [ht] at hP1
  have hapart : ∀ (j : Nat) (x : Nat × va_E), ws[j]? = some x → x.1 < H.size ∧ ¬ va_A [(q, e0)] H.size x.1 := by
    intro j x hj
    have hj2 : (ws ++ [(q, e0)])[j]? = some x := by
      rw [List.getElem?_append_left (List.getElem?_eq_some_iff.mp hj).1]
      exact hj
    have hl := (hP j x hj2).lt
    refine ⟨hl, fun h => ?_⟩
    rcases h with ⟨i, e2, hi⟩ | h
    · have h9 := List.mem_of_getElem? hi
      simp at h9
      have := hD.1 j ws.length x (q, e0) hj2 hq h9.1
      have := (List.getElem?_eq_some_iff.mp hj).1
      omega
    · omega
  refine kk a hw H1 locs1 lsA (va_P.app (fun j x hj => ?_) hP1) (va_D.app ?_ (hD1.weaken (fun _ x _ h => hsub x.1 h)) ?_) hS1 hlv
  · exact (lt_app_l hP j x hj).kept (hk1 x.1 (hapart j x hj).1 (hapart j x hj).2)
  · refine ⟨fun i j x z hi hj hxz => hD.1 i j x z ?_ ?_ hxz, fun j x hj => hD.2 j x ?_⟩ <;> (rw [List.getElem?_append_left (List.getElem?_eq_some_iff.mp (by assumption)).1]; assumption)
  · intro i j x z hi hj hxz
    exact (hapart i x hi).2 (by rw [hxz]; exact hD1.2 j z hj)
end YR
