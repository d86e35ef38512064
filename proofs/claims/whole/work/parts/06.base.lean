-- THE STATE IS ONE MATRIX OF INTS: cell k, place j. References that never change are read off the shape.
abbrev Sg : Type := Nat → Nat → Int32
def u2 (σ : Sg) (k j : Nat) (v : Int32) : Sg := fun a b => if a = k ∧ b = j then v else σ a b
def c2 (σ : Sg) (k0 sp k1 dp n : Nat) : Sg := fun a b => if a = k1 then va_cpy (σ k0) (σ k1) sp dp n b else σ a b
abbrev ix (i : Int32) : Nat := i.toNatClampNeg
-- a cell of the shape: its kind (1 + the class's number, 20 ints, 21.. references), its length, the first target, the step between targets
abbrev Shp : Type := List (Nat × Nat × Nat × Nat)
def kd (S : Shp) (k : Nat) : Nat := (S.getD k (0, 0, 0, 0)).1
def ln (S : Shp) (k : Nat) : Nat := (S.getD k (0, 0, 0, 0)).2.1
def bs (S : Shp) (k : Nat) : Nat := (S.getD k (0, 0, 0, 0)).2.2.1
def sd (S : Shp) (k : Nat) : Nat := (S.getD k (0, 0, 0, 0)).2.2.2
-- of a class: what each place is: 0 an int, 1 a reference to the cell so many on, 2 null at 0, else a reference to that cell, 3 a text
def slt (c : Nat) : List (Nat × Nat) := match c with
  | 1 => [(1, 1), (0, 0), (1, 2), (0, 0), (0, 0), (0, 0), (0, 0), (1, 4), (1, 6), (1, 7), (1, 9)]
  | 2 => [(1, 1), (0, 0)]
  | 3 => [(0, 0), (1, 1)]
  | 4 => [(1, 1), (1, 3), (1, 5), (2, 5), (3, 0), (0, 0)]
  | 5 => [(0, 0), (0, 0), (0, 0), (0, 0)]
  | 6 => [(1, 1), (1, 3), (1, 5), (1, 7), (1, 8)]
  | 7 => [(1, 1), (0, 0), (0, 0), (0, 0), (0, 0)]
  | 8 => [(1, 1), (1, 32), (0, 0), (1, 63), (1, 64), (1, 67), (1, 76)]
  | 9 => [(1, 1), (1, 2), (1, 3), (0, 0), (1, 4), (1, 5), (1, 6), (1, 7), (1, 8), (1, 9), (1, 10), (1, 11), (0, 0), (0, 0), (0, 0), (0, 0), (0, 0), (1, 12), (0, 0), (1, 13), (1, 14), (0, 0), (0, 0)]
  | _ => []
-- what of the world is fixed: class numbers and slots, the cells' addresses, the texts' cells and bytes, the array classes, the tables' cells
abbrev Wc : Type := va_G × (Nat → Nat) × (Nat → Nat) × (Nat → Nat) × (Nat → ClassId) × (Nat → Nat)
abbrev dG (w : Wc) : va_G := w.1
abbrev ad (w : Wc) (k : Nat) : Nat := w.2.1 k
abbrev sK (w : Wc) (k : Nat) : Nat := w.2.2.1 k
abbrev sV (w : Wc) (k : Nat) : Nat := w.2.2.2.1 k
abbrev cA (w : Wc) (k : Nat) : ClassId := w.2.2.2.2.1 k
abbrev ka (w : Wc) (k : Nat) : Nat := w.2.2.2.2.2 k
abbrev sa (w : Wc) (x : Int32) : Nat := sK w (ix x)
def slV (w : Wc) (k : Nat) (q : Nat × Nat) (x : Int32) : Value := match q.1 with
  | 0 => .int x
  | 1 => .ref (ad w (k + q.2))
  | 2 => if x = 0 then .null else .ref (ad w q.2)
  | _ => .ref (sa w x)
def fsL (w : Wc) (σ : Sg) (k c : Nat) : List Value := (List.range (slt c).length).map (fun j => slV w k ((slt c).getD j (0, 0)) (σ k j))
def ent (S : Shp) (w : Wc) (σ : Sg) (k : Nat) : va_E :=
  if kd S k < 20 then .inr (kd S k - 1, fsL w σ k (kd S k))
  else if kd S k = 20 then .inl (cA w 0, ln S k, .inl (σ k))
  else .inl (cA w (kd S k - 20), ln S k, .inr (.inr (.inr (.inr (fun j => some (ad w (bs S k + sd S k * j)))))))
def wsL (S : Shp) (w : Wc) (σ : Sg) : va_W := (List.range S.length).map (fun k => (ad w k, ent S w σ k))
abbrev tys (w : Wc) : List (ClassId × FieldType) := [(cA w 0, .int), (cA w 1, .object "BagBottom$Thing"), (cA w 2, .object "BagBottom$Text"), (cA w 3, .object "BagBottom$Sheet")]
def FA (S : Shp) (w : Wc) : Nat → Prop := fun q => ∃ k, k < S.length ∧ q = ad w k
-- the two tables of the class, and its texts
def kaL : List Int32 := [-1, 0, 0, 0, 1, 2, 0]
def bdL : List Int32 := [10, 11, 12, 13, 20, 0, 0, 21, 0, 30, 0, 0, 0, 0, 40, 0, 50, 0, 51, 0, 0, 60, 0, 0, 70, 71, 0, 0]
abbrev kaF (j : Nat) : Int32 := kaL.getD j 0
abbrev bdF (j : Nat) : Int32 := bdL.getD j 0
def txL : List String := ["", "fdk", "nkm", "0123456789", "!(", "|", "&", "<=>", "+-", "*/%"]
def txB : List (List Int32) := [[], [102, 100, 107], [110, 107, 109], [48, 49, 50, 51, 52, 53, 54, 55, 56, 57], [33, 40], [124], [38], [60, 61, 62], [43, 45], [42, 47, 37]]
def txN : List Nat := [0, 3, 3, 10, 2, 1, 1, 3, 2, 3]
def St (A : Nat → Prop) (w : Wc) (U : State) (H : Heap) : Prop :=
  (va_Z "BagBottom" "KIND_ABOVE" "[I" (.ref (ka w 0)) A U H ∧ va_T .int (ka w 0) 7 (fun j => .int (kaF j)) A U H) ∧
  (va_Z "BagBottom$Voices" "BODIES" "[I" (.ref (ka w 1)) A U H ∧ va_T .int (ka w 1) 28 (fun j => .int (bdF j)) A U H) ∧
  va_Z "java/lang/String" "COMPACT_STRINGS" "Z" (.int 1) A U H ∧ vk_S 10 txN txB (sK w) (sV w) A U H
def txR : List (String × Nat × String) := [("BagBottom$Text", 27, ""), ("BagBottom", 144, "fdk"), ("BagBottom", 146, "nkm"), ("BagBottom$Text", 70, "0123456789"), ("BagBottom$Text", 81, "!("), ("BagBottom$Text", 83, "|"), ("BagBottom$Text", 85, "&"), ("BagBottom$Text", 87, "<=>"), ("BagBottom$Text", 89, "+-"), ("BagBottom$Text", 91, "*/%")]
abbrev nK4 : Cond := .fieldLinkNest "BagBottom$Thing" 30 "BagBottom" "KIND_ABOVE" "[I" "BagBottom"
abbrev nK6 : Cond := .fieldLinkNest "BagBottom$Voices" 49 "BagBottom" "KIND_ABOVE" "[I" "BagBottom"
abbrev nM0 : Cond := .methodLinkNest "BagBottom$Bag" 82 yX7_isWeight "BagBottom"
def SR (w : Wc) (U : State) : Prop := (∀ (i : Nat) (q : String × Nat × String), txR[i]? = some q → vk_R q.1 q.2.1 q.2.2 (sK w i) U) ∧ va_Nw nK4 U ∧ va_Nw nK6 U ∧ va_Nw nM0 U ∧ va_AO "BagBottom$Thing" U ∧ va_AO "BagBottom$Text" U ∧ va_AO "BagBottom$Sheet" U
theorem al_eq {u U : State} (hv : U.vm = u.vm) : u.vm.Alike U.vm := by
  rw [hv]
  exact Vm.Alike.refl _
theorem SR.warm {w : Wc} {s U : State} (h : SR w s) (hW : s.WarmedH U.vm) : SR w U := ⟨fun i q hq => vk_R.warm hW (h.1 i q hq), va_Nw.warmF hW h.2.1, va_Nw.warmF hW h.2.2.1, va_Nw.warmM hW h.2.2.2.1, va_AO.moved hW.alike h.2.2.2.2.1, va_AO.moved hW.alike h.2.2.2.2.2.1, va_AO.moved hW.alike h.2.2.2.2.2.2⟩
theorem SR.same {w : Wc} {u U : State} (hv : U.vm = u.vm) (h : SR w u) : SR w U := ⟨fun i q hq => vk_R.same hv (h.1 i q hq), va_Nw.same rfl hv.symm h.2.1, va_Nw.same rfl hv.symm h.2.2.1, va_Nw.same rfl hv.symm h.2.2.2.1, va_AO.moved (al_eq hv) h.2.2.2.2.1, va_AO.moved (al_eq hv) h.2.2.2.2.2.1, va_AO.moved (al_eq hv) h.2.2.2.2.2.2⟩
def rm (d : Nat) : Room := { frames := d, cells := 0, slots := 0, locals := 40 * d }
def Inj (S : Shp) (w : Wc) : Prop := ∀ i j : Nat, i < S.length → j < S.length → ad w i = ad w j → i = j
def WP (S : Shp) (w : Wc) (σ : Sg) (U : State) : Prop := va_P (dG w) vwCl (wsL S w σ) U.heap ∧ va_K (dG w) vwCl (tys w) U ∧ St (FA S w) w U U.heap ∧ Inj S w ∧ SR w U
abbrev Gx : Type := Program × Launch × Env × Room × State × MethodId × Array Value × List Frame × Method × Code
abbrev gL (g : Gx) : Launch := g.2.1
def OK (S : Shp) (w : Wc) (g : Gx) (d : Nat) (cc : ByteArray) (own : String) (nL : Nat) (ret : Option FieldType) : Prop := match g with
  | (p, _, _, R, s, m, args, _, meth, c) => p.tables.exec = Jvm.exec ∧ c.code = cc ∧ c.maxLocals = nL ∧ s.vm.findClass own = some m.cls ∧ (∀ x ∈ GT, x.before args s = true) ∧ R = rm d ∧ va_K (dG w) vwCl (tys w) s ∧ meth.sig.returnType = ret ∧ meth.locks = false ∧ Inj S w ∧ St (FA S w) w s s.heap ∧ SR w s
def toL : Nat → List (Option Value) → List (Nat × Value)
  | _, [] => []
  | i, none :: t => toL (i + 1) t
  | i, some v :: t => (i, v) :: toL (i + 1) t
def X (S : Shp) (w : Wc) (g : Gx) (Q : State → Prop) (pc : Nat) (ls : List (Option Value)) (st : List Value) (σ : Sg) : Prop := match g with
  | (p, l, e, R, s, m, args, below, meth, c) => ∀ (H : Heap) (locs : List Loc) (lsA : Array Slot), va_P (dG w) vwCl (wsL S w σ) H → va_S (FA S w) s.heap H locs → lv_has lsA c.maxLocals (toL 0 ls) → W p l e R s m args below meth c H locs 0 0 Q (F0 m pc lsA st)
def QI (S : Shp) (w : Wc) (g : Gx) (P : Int32 → Sg → Prop) : State → Prop := match g with
  | (_, _, _, _, s, _, args, below, _, _) => MQ below (va_Qi P (fun σ t => WP S w σ t) (FA S w)) args s 0 0 (FA S w)
def QV (S : Shp) (w : Wc) (g : Gx) (P : Sg → Prop) : State → Prop := match g with
  | (_, _, _, _, s, _, args, below, _, _) => MQ below (va_Qv P (fun σ t => WP S w σ t) (FA S w)) args s 0 0 (FA S w)
def QR (S : Shp) (w : Wc) (g : Gx) (P : Int32 → Sg → Prop) : State → Prop := match g with
  | (_, _, _, _, s, _, args, below, _, _) => MQ below (va_Qr (fun u : Int32 × Sg => P u.1 u.2) (fun u a t => a = sa w u.1 ∧ WP S w u.2 t) (FA S w)) args s 0 0 (FA S w)
-- a method's contract over the matrix: it ends, with an answer and a matrix of which P holds
def CI (S : Shp) (w : Wc) (l : Launch) (d : Nat) (cd : Cond) (y : MethodName) (as : List Value) (σ : Sg) (P : Int32 → Sg → Prop) : Prop := Met l y (cd :: GT) (rm d) (va_Pc as (WP S w σ)) (va_Qi P (fun σ t => WP S w σ t) (FA S w)) 0 0 (FA S w)
def CV (S : Shp) (w : Wc) (l : Launch) (d : Nat) (cd : Cond) (y : MethodName) (as : List Value) (σ : Sg) (P : Sg → Prop) : Prop := Met l y (cd :: GT) (rm d) (va_Pc as (WP S w σ)) (va_Qv P (fun σ t => WP S w σ t) (FA S w)) 0 0 (FA S w)
def CR (S : Shp) (w : Wc) (l : Launch) (d : Nat) (cd : Cond) (y : MethodName) (as : List Value) (σ : Sg) (P : Int32 → Sg → Prop) : Prop := Met l y (cd :: GT) (rm d) (va_Pc as (WP S w σ)) (va_Qr (fun u : Int32 × Sg => P u.1 u.2) (fun u a t => a = sa w u.1 ∧ WP S w u.2 t) (FA S w)) 0 0 (FA S w)

theorem u2_same {σ : Sg} {k j : Nat} {v : Int32} : u2 σ k j v k j = v := by simp [u2]
theorem u2_ne {σ : Sg} {k j a b : Nat} {v : Int32} (h : ¬ (a = k ∧ b = j)) : u2 σ k j v a b = σ a b := by simp [u2, h]
theorem u2_row {σ : Sg} {k j : Nat} {v : Int32} : u2 σ k j v k = upd (σ k) j v := by
  funext b
  by_cases h : b = j <;> simp [u2, upd, h]
theorem u2_other {σ : Sg} {k j a : Nat} {v : Int32} (h : a ≠ k) : u2 σ k j v a = σ a := by
  funext b
  simp [u2, h]
theorem c2_row {σ : Sg} {k0 sp k1 dp n : Nat} : c2 σ k0 sp k1 dp n k1 = va_cpy (σ k0) (σ k1) sp dp n := by
  funext b; simp [c2]
theorem c2_other {σ : Sg} {k0 sp k1 dp n a : Nat} (h : a ≠ k1) : c2 σ k0 sp k1 dp n a = σ a := by
  funext b; simp [c2, h]
theorem kd_lt {S : Shp} {k c : Nat} (h : kd S k = c) (hc : 0 < c) : k < S.length := by
  rcases Nat.lt_or_ge k S.length with q | q
  · exact q
  · rw [kd, List.getD_eq_getElem?_getD, List.getElem?_eq_none q] at h
    simp at h
    omega
theorem wsL_at {S : Shp} {w : Wc} {σ : Sg} {k : Nat} (h : k < S.length) : (wsL S w σ)[k]? = some (ad w k, ent S w σ k) := by
  simp [wsL, h]
theorem wsL_of {S : Shp} {w : Wc} {σ : Sg} {k : Nat} {q : Nat × va_E} (h : (wsL S w σ)[k]? = some q) : k < S.length ∧ q = (ad w k, ent S w σ k) := by
  have hl : k < S.length := by
    have := (List.getElem?_eq_some_iff.mp h).1
    simpa [wsL] using this
  rw [wsL_at hl] at h
  exact ⟨hl, (Option.some.inj h).symm⟩
theorem ent_eq {S : Shp} {w : Wc} {σ τ : Sg} {k : Nat} (h : τ k = σ k) : ent S w τ k = ent S w σ k := by
  simp [ent, fsL, h]
theorem wsL_set {S : Shp} {w : Wc} {σ τ : Sg} {k : Nat} (h : ∀ a, a ≠ k → τ a = σ a) : (wsL S w σ).set k (ad w k, ent S w τ k) = wsL S w τ := by
  apply List.ext_getElem?
  intro i
  rw [List.getElem?_set]
  by_cases hi : k = i
  · subst hi
    by_cases hl : k < S.length
    · simp [wsL, hl]
    · simp [wsL, hl]
  · simp only [hi, if_false]
    by_cases hl : i < S.length
    · rw [wsL_at hl, wsL_at hl, ent_eq (h i (Ne.symm hi))]
    · simp [wsL, hl]
theorem wsL_D {S : Shp} {w : Wc} {σ : Sg} (h : Inj S w) : va_D (FA S w) (wsL S w σ) := by
  refine ⟨fun i j p q hi hj e => ?_, fun k q hk => ?_⟩
  · obtain ⟨h1, rfl⟩ := wsL_of hi
    obtain ⟨h2, rfl⟩ := wsL_of hj
    exact h i j h1 h2 e
  · obtain ⟨h1, rfl⟩ := wsL_of hk
    exact ⟨k, h1, rfl⟩
theorem ent_obj {S : Shp} {w : Wc} {σ : Sg} {k ci : Nat} (h : kd S k = ci + 1) (hc : ci < 19) : ent S w σ k = .inr (ci, fsL w σ k (ci + 1)) := by
  simp [ent, h, show ci + 1 < 20 by omega]
theorem ent_arr {S : Shp} {w : Wc} {σ : Sg} {k : Nat} (h : kd S k = 20) : ent S w σ k = .inl (cA w 0, ln S k, .inl (σ k)) := by
  simp [ent, h]
theorem ent_ref {S : Shp} {w : Wc} {σ : Sg} {k t : Nat} (h : kd S k = 20 + t) (ht : 0 < t) : ent S w σ k = .inl (cA w t, ln S k, .inr (.inr (.inr (.inr (fun j => some (ad w (bs S k + sd S k * j))))))) := by
  have h1 : ¬ kd S k < 20 := by omega
  have h2 : ¬ kd S k = 20 := by omega
  have h3 : kd S k - 20 = t := by omega
  simp only [ent, h1, h2, if_false, h3]
theorem St.moved {A : Nat → Prop} {w : Wc} {u U : State} {H : Heap} (hv : u.vm.Alike U.vm) (h : St A w u H) : St A w U H :=
  ⟨⟨h.1.1.moved hv, h.1.2.moved hv⟩, ⟨h.2.1.1.moved hv, h.2.1.2.moved hv⟩, h.2.2.1.moved hv, h.2.2.2.moved hv⟩
theorem St.kept {A : Nat → Prop} {w : Wc} {U : State} {H H1 : Heap} (h : St A w U H) (hq : ∀ a : Nat, a < H.size → ¬ A a → H1[a]? = H[a]?) : St A w U H1 :=
  ⟨⟨h.1.1.kept hq, h.1.2.kept hq⟩, ⟨h.2.1.1.kept hq, h.2.1.2.kept hq⟩, h.2.2.1.kept hq, h.2.2.2.kept hq⟩
theorem FA_D {S : Shp} {w : Wc} {q : Nat} {σ : Sg} {A : Nat → Prop} (h : FA S w q) (hD : va_D A (wsL S w σ)) : A q := by
  obtain ⟨k, hk, rfl⟩ := h
  exact hD.2 k _ (wsL_at hk)
theorem toL_mem {q : Nat × Value} : ∀ (ls : List (Option Value)) (i : Nat), q ∈ toL i ls ↔ ∃ j, ls[j]? = some (some q.2) ∧ q.1 = i + j := by
  intro ls
  induction ls with
  | nil => intro i; simp [toL]
  | cons a t ih =>
    intro i
    cases a with
    | none =>
      rw [toL, ih]
      constructor
      · rintro ⟨j, h1, h2⟩; exact ⟨j + 1, by simpa using h1, by omega⟩
      · rintro ⟨j, h1, h2⟩
        cases j with
        | zero => simp at h1
        | succ j => exact ⟨j, by simpa using h1, by omega⟩
    | some v =>
      rw [toL, List.mem_cons, ih]
      constructor
      · rintro (rfl | ⟨j, h1, h2⟩)
        · exact ⟨0, by simp, by simp⟩
        · exact ⟨j + 1, by simpa using h1, by omega⟩
      · rintro ⟨j, h1, h2⟩
        cases j with
        | zero =>
          left
          simp at h1
          obtain ⟨q1, q2⟩ := q
          simp at h1 h2
          rw [h1, h2]
        | succ j => exact Or.inr ⟨j, by simpa using h1, by omega⟩
theorem lv_l {lsA : Array Slot} {n k : Nat} {v : Value} {ls : List (Option Value)} (h : lv_has lsA n (toL 0 ls)) (hk : ls[k]? = some (some v)) : lsA[k]? = some (.val v) :=
  h.2.2 (k, v) ((toL_mem ls 0).mpr ⟨k, hk, by simp⟩)
def nl (v : Option Value) : Bool := match v with
  | some (.long _) => false
  | some (.double _) => false
  | _ => true
theorem nl_cat {v : Value} (h : nl (some v) = true) : v.category = 1 := by
  cases v <;> simp_all [nl, Value.category]
theorem lv_stL {lsA : Array Slot} {n k : Nat} {v : Value} {ls : List (Option Value)} (h : lv_has lsA n ((k, v) :: (toL 0 ls).filter (fun q => !(q.1 == k) && !(q.1 + 1 == k && q.2.category == 2)))) (hk : k < ls.length) (hp : ∀ j, j + 1 = k → ∀ a, ls[j]? = some a → nl a = true) : lv_has lsA n (toL 0 (ls.set k (some v))) := by
  refine ⟨h.1, h.2.1, fun q hq => h.2.2 q ?_⟩
  obtain ⟨j, h1, h2⟩ := (toL_mem _ 0).mp hq
  rw [List.getElem?_set] at h1
  by_cases hj : k = j
  · subst hj
    simp [hk] at h1
    obtain ⟨q1, q2⟩ := q
    simp at h1 h2
    rw [← h1, h2]
    exact List.mem_cons_self
  · rw [if_neg hj] at h1
    refine List.mem_cons_of_mem _ (List.mem_filter.mpr ⟨(toL_mem _ 0).mpr ⟨j, h1, h2⟩, ?_⟩)
    have e1 : q.1 = j := by omega
    rw [e1]
    by_cases e2 : j + 1 = k
    · have := nl_cat (hp j e2 _ h1)
      simp [this, Ne.symm hj]
    · simp [e2, Ne.symm hj]
