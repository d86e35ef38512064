/-! THE CLAIM OUT OF ONE WALK OF THE LAW'S BODY. Your part is whole_start (and what it stands on); all else here is the same for every law, but numbers. -/
def R_law : String := "BagBottomLaw"
def lw_P (b : Addr) (xs : List Int32) (args : Array Value) (s : State) : Prop := args = #[.ref b] ∧ s.IntsAt b xs ∧ xs.length ≤ 3072 ∧ (Jvm.Cond.and given_1 narrow_1).before args s = true
def lw_Q (_ : Array Value) (s : State) (o : Outcome) (t : State) : Prop := o = .returned (some (.int 1)) ∧ Framed s o t [] 600000 7302250
def lw_Z (below : List Frame) (a : Array Value) (s : State) : State → Prop := fun t => ∃ o, t.status = .running ∧ Ended t below o ∧ lw_Q a s o t
/-- the law's own end, with 1 on the stack, nothing written that was there before, its room as the claim has it -/
theorem lw_ret {p : Program} {l : Launch} {e : Env} {s : State} {m : MethodId} {below : List Frame} {meth : Method} {c : Code} {b : Nat} (hx : p.tables.exec = Jvm.exec) (hb : c.code = code) (hr : meth.sig.returnType = ret) (hlocks : meth.locks = false) {pc : Nat} {H : Heap} {ls : Array Slot} (hdg : decode code pc = .ok (.ireturn, 1)) : W p l e room_1 s m #[Value.ref b] below meth c H [] 600000 7302250 (lw_Z below #[Value.ref b] s) (F0 m pc ls [.int 1]) := by
  intro T hT X
  obtain ⟨fs, hret, hrun, hended, hW, hframe⟩ := X.leave (v := some (.int 1)) (hlocks := hlocks) (fun h => by rw [hr] at h; cases h)
  have hmeth' : T.vm.method? m = some meth := X.method'
  refine ⟨T.setFrames fs, ?_, .returned (some (.int 1)), hrun, hended, rfl, ⟨_, rfl⟩, hW, hframe⟩
  jvm_step X.here [X.here.top, hx, hb, hdg, hmeth', hr, ret, narrow_b1]
  (try refine ⟨rfl, ?_⟩); (try refine ⟨rfl, ?_⟩)
  first | (intro acts; rw [hret _ acts rfl rfl rfl]) | rw [hret _ _ rfl rfl rfl]
  exact Steps.refl _
/-- what holds at the law's entry: the machine, the code, the tables' words (any of lw_tbl by 'hts w (by decide +kernel)'), the script of L ints xs at the cell b, what the Statement gives of the start (any of its parts by flat_of_before) -/
def lw_At (p : Program) (s : State) (m : MethodId) (meth : Method) (c : Code) (b L : Nat) (xs : Nat → Int32) : Prop :=
  p.tables.exec = Jvm.exec ∧ c.code = code ∧ meth.sig.returnType = ret ∧ c.maxLocals = 4 ∧ s.vm.findClass R_law = some m.cls ∧ (∀ w ∈ lw_tbl, w.before #[Value.ref b] s = true) ∧ va_X b L xs s s.heap ∧ b < s.heap.size ∧ meth.locks = false ∧ (Jvm.Cond.and given_1 narrow_1).before #[Value.ref b] s = true
def tmS (i : Nat) : Term := Term.string (txR.getD i ("", 0, "")).1 (txR.getD i ("", 0, "")).2.1
abbrev nrm : List Cond := flatC (Jvm.Cond.and given_1 narrow_1)
theorem ns_ex : ∀ i, i < 10 → Cond.exactly (tmS i) "java/lang/String" ∈ nrm := by decide +kernel
theorem ns_co : ∀ i, i < 10 → Cond.eq (.field (tmS i) "java/lang/String" "coder" "B") (.int 0) ∈ nrm := by decide +kernel
theorem ns_ar : ∀ i, i < 10 → Cond.arrayOf (.field (tmS i) "java/lang/String" "value" "[B") .byte ∈ nrm := by decide +kernel
theorem ns_le : ∀ i, i < 10 → Cond.eq (.length (.field (tmS i) "java/lang/String" "value" "[B")) (.int (Int32.ofNat (txN.getD i 0))) ∈ nrm := by decide +kernel
theorem ns_el : ∀ i, i < 10 → ∀ j, j < txN.getD i 0 → Cond.eq (.elem (.field (tmS i) "java/lang/String" "value" "[B") (.int (Int32.ofNat j))) (.int ((txB.getD i []).getD j 0)) ∈ nrm := by decide +kernel
theorem ns_ne : ∀ i, i < 10 → ∀ j, j < 10 → i ≠ j → Cond.not (Cond.eq (tmS i) (tmS j)) ∈ nrm ∨ Cond.not (Cond.eq (tmS j) (tmS i)) ∈ nrm := by decide +kernel
theorem ns_K : ∀ j, j < 7 → Cond.eq (.elem (.static "BagBottom" "KIND_ABOVE" "[I") (.int (Int32.ofNat j))) (.int (kaF j)) ∈ nrm := by decide +kernel
theorem ns_B : ∀ j, j < 28 → Cond.eq (.elem (.static "BagBottom$Voices" "BODIES" "[I") (.int (Int32.ofNat j))) (.int (bdF j)) ∈ nrm := by decide +kernel
theorem ns_KB : Cond.arrayOf (.static "BagBottom" "KIND_ABOVE" "[I") .int ∈ nrm ∧ Cond.eq (.length (.static "BagBottom" "KIND_ABOVE" "[I")) (.int (Int32.ofNat 7)) ∈ nrm ∧ Cond.arrayOf (.static "BagBottom$Voices" "BODIES" "[I") .int ∈ nrm ∧ Cond.eq (.length (.static "BagBottom$Voices" "BODIES" "[I")) (.int (Int32.ofNat 28)) ∈ nrm ∧ Cond.eq (.static "java/lang/String" "COMPACT_STRINGS" "Z") (.int 1) ∈ nrm := by decide +kernel
theorem sr_in : ∀ i, i < 10 → Cond.stringRef (txR.getD i ("", 0, "")).1 (txR.getD i ("", 0, "")).2.1 (txR.getD i ("", 0, "")).2.2 ∈ lw_tbl := by decide +kernel
theorem lay_in : Cond.laysStatic "BagBottom" "KIND_ABOVE" "[I" ∈ lw_tbl ∧ Cond.laysStatic "BagBottom$Voices" "BODIES" "[I" ∈ lw_tbl ∧ Cond.laysStatic "java/lang/String" "COMPACT_STRINGS" "Z" ∈ lw_tbl ∧ Cond.initialized "BagBottom" ∈ lw_tbl ∧ Cond.initialized "BagBottom$Voices" ∈ lw_tbl ∧ Cond.initialized "java/lang/String" ∈ lw_tbl ∧ nK4 ∈ lw_tbl ∧ nK6 ∈ lw_tbl ∧ nM0 ∈ lw_tbl ∧ Cond.arrayOver (.object "BagBottom$Thing") ∈ lw_tbl ∧ Cond.arrayOver (.object "BagBottom$Text") ∈ lw_tbl ∧ Cond.arrayOver (.object "BagBottom$Sheet") ∈ lw_tbl := by decide +kernel
set_option maxRecDepth 100000 in
set_option maxHeartbeats 8000000 in
theorem gB_eq (D : va_G) (a0 a sK sV : Nat → Nat) (cA : Nat → ClassId) (ka : Nat → Nat) : gB (D, a0, sK, sV, cA, ka) a = wsL shC (D, a, sK, sV, cA, ka) sC0 := rfl
set_option maxRecDepth 100000 in
set_option maxHeartbeats 8000000 in
theorem gM_eq (D : va_G) (a0 a sK sV : Nat → Nat) (cA : Nat → ClassId) (ka : Nat → Nat) : gM (D, a0, sK, sV, cA, ka) a = wsL shM (D, a, sK, sV, cA, ka) sM0 := rfl
theorem cA_obj {args : Array Value} {s : State} {C : String} (h : (Cond.arrayOver (.object C)).before args s = true) : ∃ c : ClassId, ArrOfT s c (.object C) ∧ va_RA s c (.object C) := by
  obtain ⟨comp, c, k, h1, h2, h3, h4, h5⟩ := Cond.arrayOver_spec h
  exact ⟨c, fun N z => ⟨(fun k h => by cases h), k, h3, comp, h4⟩, k, comp, h3, h4, h1, h5⟩
theorem cA_int {args : Array Value} {s : State} (h : (Cond.arrayClass .int).before args s = true) : ∃ c : ClassId, ArrOfT s c .int ∧ va_RA s c .int := by
  obtain ⟨c, k, comp, h1, h2, h3⟩ := Cond.arrayClass_spec h
  exact ⟨c, fun N z => ⟨(fun k h => by cases h), k, h2, comp, h3⟩, h1⟩
set_option maxRecDepth 100000 in
set_option maxHeartbeats 8000000 in
theorem whole_start {p : Program} {e : Env} {s : State} {m : MethodId} {below : List Frame} {meth : Method} {c : Code} (l : Launch) (hflags : l.flags = flags0) {b L : Nat} {xs : Nat → Int32} (hL : L ≤ 3072) (C0 : lw_At p s m meth c b L xs) : W p l e room_1 s m #[Value.ref b] below meth c s.heap [] 0 0 (lw_Z below #[Value.ref b] s) (entryFrame m ([Value.ref b] : List Value).toArray 4) := by
  obtain ⟨hx, hb, hr, hml, hown, hts, hX, hbl, hlocks, hgv⟩ := id C0
  have hs := flat_of_before _ hgv
  have htsG : ∀ x ∈ GT, x.before #[Value.ref b] s = true := fun x hx9 => hts x (List.mem_filter.mp hx9).1
  have hA : ∀ q : Nat, s.heap.size ≤ q → (fun q : Nat => s.heap.size ≤ q) q := fun _ h => h
  have hnA : ∀ a : Nat, a < s.heap.size → ¬ (fun q : Nat => s.heap.size ≤ q) a := fun a h => Nat.not_le.mpr h
  obtain ⟨l1, l2, l3, i1, i2, i3, n1, n2, n3, o1, o2, o3⟩ := lay_in
  obtain ⟨e1, e2, e3, e4, e5⟩ := ns_KB
  obtain ⟨c0, iS0, hKn0⟩ := u_known (C := RX0) (T := TX0) (N := 11) (n := 11) htsG in_X0 (htsG _ new_X0)
  obtain ⟨c1, iS1, hKn1⟩ := u_known (C := RX1) (T := TX1) (N := 2) (n := 2) htsG in_X1 (htsG _ new_X1)
  obtain ⟨c2, iS2, hKn2⟩ := u_known (C := RX2) (T := TX2) (N := 2) (n := 2) htsG in_X2 (htsG _ new_X2)
  obtain ⟨c3, iS3, hKn3⟩ := u_known (C := RX3) (T := TX3) (N := 6) (n := 6) htsG in_X3 (htsG _ new_X3)
  obtain ⟨c4, iS4, hKn4⟩ := u_known (C := RX4) (T := TX4) (N := 4) (n := 4) htsG in_X4 (htsG _ new_X4)
  obtain ⟨c5, iS5, hKn5⟩ := u_known (C := RX5) (T := TX5) (N := 5) (n := 5) htsG in_X5 (htsG _ new_X5)
  obtain ⟨c6, iS6, hKn6⟩ := u_known (C := RX6) (T := TX6) (N := 5) (n := 5) htsG in_X6 (htsG _ new_X6)
  obtain ⟨c7, iS7, hKn7⟩ := u_known (C := RX7) (T := TX7) (N := 7) (n := 7) htsG in_X7 (htsG _ new_X7)
  obtain ⟨c8, iS8, hKn8⟩ := u_known (C := RX8) (T := TX8) (N := 23) (n := 23) htsG in_X8 (htsG _ new_X8)
  obtain ⟨cI, aI1, aI2⟩ := cA_int (htsG _ ac_int)
  obtain ⟨cT, aT1, aT2⟩ := cA_obj (hts _ o1)
  obtain ⟨cX, aX1, aX2⟩ := cA_obj (hts _ o2)
  obtain ⟨cS, aS1, aS2⟩ := cA_obj (hts _ o3)
  obtain ⟨tK, hK1, hK2⟩ := va_Tof (f := fun j => .int (kaF j)) (A := fun q : Nat => s.heap.size ≤ q) (N := 7) (by omega) (hs _ e1) (va_eqt (hs _ e2)) (fun j hj => va_eqt (hs _ (ns_K j hj))) hnA
  obtain ⟨tB, hB1, hB2⟩ := va_Tof (f := fun j => .int (bdF j)) (A := fun q : Nat => s.heap.size ≤ q) (N := 28) (by omega) (hs _ e3) (va_eqt (hs _ e4)) (fun j hj => va_eqt (hs _ (ns_B j hj))) hnA
  have zK := va_Zof (hts _ l1) (hts _ i1) hK1 hnA
  have zB := va_Zof (hts _ l2) (hts _ i2) hB1 hnA
  have zC := va_Zof (hts _ l3) (hts _ i3) (va_eqt (hs _ e5)) hnA
  obtain ⟨sk, sv, hSt, hSe⟩ := vk_Sof (N := 10) (tm := tmS) (len := txN) (byt := txB) (A := fun q : Nat => s.heap.size ≤ q) (by decide) (fun i hi => hs _ (ns_ex i hi)) (fun i hi => hs _ (ns_co i hi)) (fun i hi => hs _ (ns_ar i hi)) (fun i hi => hs _ (ns_le i hi)) (fun i hi j hj => hs _ (ns_el i hi j hj)) (fun i j hi hj hij => (ns_ne i hi j hj hij).imp (fun z => hs _ z) (fun z => hs _ z)) hnA
  obtain ⟨D, hD⟩ : ∃ D : va_G, ∀ (k : Nat) (q : vw_C), vwCl[k]? = some q → u_Kn s q.1 q.2.1 q.2.2 (D.1 k) (D.2 k) := by
    refine ⟨(fun k => [c0, c1, c2, c3, c4, c5, c6, c7, c8].getD k 0, fun k => [iS0, iS1, iS2, iS3, iS4, iS5, iS6, iS7, iS8].getD k (fun _ => 0)), ?_⟩
    intro k q hq
    match k, hq with
    | 0, hq => cases hq; exact hKn0
    | 1, hq => cases hq; exact hKn1
    | 2, hq => cases hq; exact hKn2
    | 3, hq => cases hq; exact hKn3
    | 4, hq => cases hq; exact hKn4
    | 5, hq => cases hq; exact hKn5
    | 6, hq => cases hq; exact hKn6
    | 7, hq => cases hq; exact hKn7
    | 8, hq => cases hq; exact hKn8
    | k + 9, hq => simp [vwCl] at hq
  generalize hw0 : ((D, (fun _ => 0), sk, sv, (fun k => [cI, cT, cX, cS].getD k 0), (fun k => [tK, tB].getD k 0)) : Wc) = w0
  have hKw : va_K (dG w0) vwCl (tys w0) s := by
    subst hw0
    refine ⟨hD, fun k q hk => ?_⟩
    match k, hk with
    | 0, hk => cases hk; exact ⟨aI1, aI2⟩
    | 1, hk => cases hk; exact ⟨aT1, aT2⟩
    | 2, hk => cases hk; exact ⟨aX1, aX2⟩
    | 3, hk => cases hk; exact ⟨aS1, aS2⟩
    | k + 4, hk => simp at hk
  have hSR : SR w0 s := by
    subst hw0
    refine ⟨fun i q hq => ?_, va_Nw.of rfl (hts _ n1), va_Nw.of rfl (hts _ n2), va_Nw.of rfl (hts _ n3), va_AO.of (A := #[Value.ref b]) (hts _ o1), va_AO.of (A := #[Value.ref b]) (hts _ o2), va_AO.of (A := #[Value.ref b]) (hts _ o3)⟩
    have hi : i < 10 := by
      have := (List.getElem?_eq_some_iff.mp hq).1
      simpa [txR] using this
    have hg : txR.getD i ("", 0, "") = q := by rw [List.getD_eq_getElem?_getD, hq]; rfl
    have h1 := hts _ (sr_in i hi)
    have h2 := hSe i hi
    rw [tmS, hg] at h2
    rw [hg] at h1
    exact vk_R.of (A := #[Value.ref b]) h1 h2
  have hSt0 : St (fun q : Nat => s.heap.size ≤ q) w0 s s.heap := by
    subst hw0
    exact ⟨⟨zK, hK2⟩, ⟨zB, hB2⟩, zC, hSt⟩
  generalize hgx : ((p, l, e, room_1, s, m, #[Value.ref b], below, meth, c) : Gx) = g
  have hOY : OY w0 (fun q : Nat => s.heap.size ≤ q) g 2000 600000 7302250 cL_law "BagBottomLaw" 4 := by
    subst hgx
    exact ⟨hx, hb, hml, hown, htsG, ⟨Nat.le_of_ble_eq_true rfl, Nat.le_of_ble_eq_true rfl, Nat.le_of_ble_eq_true rfl, Nat.le_of_ble_eq_true rfl⟩, hKw, hlocks, fun _ h => h, hSR⟩
  have hYX : YX (fun q : Nat => s.heap.size ≤ q) g b L xs := by
    subst hgx
    exact ⟨hX, hbl, Nat.not_le.mpr hbl⟩
  have hYS : YS (fun q : Nat => s.heap.size ≤ q) w0 g := by
    subst hgx
    exact hSt0
  have hend : ∀ (ls : List (Option Value)) (ws : va_W), Y w0 (fun q : Nat => s.heap.size ≤ q) g (lw_Z below #[Value.ref b] s) 1350 ls [] 104 2973 ws := by
    subst hgx
    intro ls ws H locs lsA hP hD hS hl
    refine lv_iconst (v := 1) hx hb dL_law_1350 (by decide) ?_
    refine va_forget (fun q hq => hS.2.2 q hq) ?_
    refine W.widen (k := 600000) (n := 7302250) (Nat.le_of_ble_eq_true rfl) (Nat.le_of_ble_eq_true rfl) ?_
    exact lw_ret hx hb hr hlocks dL_law_1351
  have main : Y w0 (fun q : Nat => s.heap.size ≤ q) g (lw_Z below #[Value.ref b] s) 0 [some (.ref b), none, none, none] [] 0 0 [] := by
    refine y_new hOY (ci := 7) (C := RX7) (T := TX7) (N := 7) (fs := [.null, .null, .int 0, .null, .null, .null, .null]) rfl in_X7 tyX7_ok cl_L_7 new_X7 ini_X7 (fun j hj => df_X7 j hj) rfl rfl dL_law_0 rfl (fun q1 => ?_)
    refine y_dup hOY dL_law_3 rfl rfl ?_
    refine y_init hOY (mc2 := 88) (ms2 := 1470) (As := []) (iB (w := w0) (gL g) q1) mi_X7_init rfl im_X7_init ml_L_9 rfl rfl rfl rfl rfl rfl rfl dL_law_4 rfl (fun a ha => ?_)
    subst ha
    refine y_astore1 hOY dL_law_7 rfl rfl rfl ?_
    refine y_cast (ws2 := gB w0 a) rfl ?_
    refine y_new hOY (ci := 8) (C := RX8) (T := TX8) (N := 23) (fs := [.null, .null, .null, .int 0, .null, .null, .null, .null, .null, .null, .null, .null, .int 0, .int 0, .int 0, .int 0, .int 0, .null, .int 0, .null, .null, .int 0, .int 0]) rfl in_X8 tyX8_ok cl_L_10 new_X8 ini_X8 (fun j hj => df_X8 j hj) rfl rfl dL_law_8 rfl (fun q2 => ?_)
    refine y_dup hOY dL_law_11 rfl rfl ?_
    refine y_init hOY (mc2 := 14) (ms2 := 1473) (As := []) (iM (w := w0) (gL g) q2) mi_X8_init rfl im_X8_init ml_L_12 rfl rfl rfl rfl rfl rfl rfl dL_law_12 rfl (fun am ham => ?_)
    subst ham
    refine y_astore2 hOY dL_law_15 rfl rfl rfl ?_
    refine y_ic hOY dL_law_16 ic_0 rfl ?_
    refine y_istore3 hOY dL_law_17 rfl rfl rfl ?_
    subst hw0
    refine y_cast (ws2 := wsL shC (D, a, sk, sv, (fun k => [cI, cT, cX, cS].getD k 0), (fun k => [tK, tB].getD k 0)) sC0 ++ wsL shM (D, am, sk, sv, (fun k => [cI, cT, cX, cS].getD k 0), (fun k => [tK, tB].getD k 0)) sM0) (by rw [gB_eq, gM_eq]) ?_
    exact law_loop (w := (D, a, sk, sv, (fun k => [cI, cT, cX, cS].getD k 0), (fun k => [tK, tB].getD k 0))) (wm := (D, am, sk, sv, (fun k => [cI, cT, cX, cS].getD k 0), (fun k => [tK, tB].getD k 0))) hOY hYS hYS rfl rfl (fun _ h => h) hYX rfl rfl hL hend (L + 7) 0 (by omega) (by omega) 0 rfl sC0 sM0 Rel0
  have hP0 : va_P (dG w0) vwCl [] s.heap := fun k q h => by simp at h
  have hD0 : va_D (fun q : Nat => s.heap.size ≤ q) [] := ⟨fun i j p q h => by simp at h, fun k q h => by simp at h⟩
  have hl := lv_entry ([.ref b]) (n := 4) (Nat.le_of_ble_eq_true rfl)
  rw [lg_entry_eq]
  subst hgx
  exact main s.heap [] _ hP0 hD0 va_S.rf (by rw [hml]; exact hl)
set_option maxHeartbeats 4000000 in
theorem lw_walk (l : Launch) (hflags : l.flags = flags0) (b : Addr) (xs : List Int32) : MetFree l x (headSpec (Jvm.Cond.code x code maxLocals ret :: tables_1) room_1) (lw_P b xs) (fun _ _ _ _ _ => True) lw_Q := by
  refine MetFree.of_bodyS (code := code) (maxLocals := maxLocals) (ret := ret) (by decide) ?_ ?_
  · intro args s m h hn
    obtain ⟨meth, c, h1, h2, h3, h4, h5, h6, -, -⟩ := Cond.code_spec hn (atoms_spec (ws := Jvm.Cond.code x code maxLocals ret :: tables_1) h _ List.mem_cons_self)
    exact ⟨meth, c, h1, h2, h3, h4, h5, h6⟩
  · intro p e s m args below meth c s₁ B hml0 hP _
    obtain ⟨rfl, hx, hbd, hgv⟩ := hP
    obtain ⟨scr, harrAt, hlist, hof, hsmall⟩ := hx
    obtain ⟨hcb, hkn, -, -⟩ := State.arrayAt?_spec harrAt
    have hown : s.vm.findClass R_law = some m.cls := findClass_of_methodNamed B.named
    have hts0 : ∀ c ∈ (Jvm.Cond.code x code maxLocals ret :: tables_1), c.before #[Value.ref b] s = true := atoms_spec (ws := Jvm.Cond.code x code maxLocals ret :: tables_1) B.pre
    have hts : ∀ w ∈ lw_tbl, w.before #[Value.ref b] s = true := k2_hts_sels lw_privs (fun w hw => hts0 w (List.mem_cons_of_mem _ hw)) lw_privs_ok
    have hml : c.maxLocals = 4 := B.maxLocals_eq (hts0 _ List.mem_cons_self)
    have X₀ : Stand p l e room_1 s m #[Value.ref b] below meth c s₁ [] 0 0 := Stand.of_body B
    have hh0 : s₁.heap = s.heap := by rw [B.state]; rfl
    have hsz : scr.slots.size = xs.length := by rw [← Array.length_toList, hlist, List.length_map]
    have hval : ∀ j : Nat, j < xs.length → scr.slots[j]? = some (.int (xs.getD j 0)) := fun j hj => by
      rw [← Array.getElem?_toList, hlist]
      simp [hj]
    have hbl : b < s.heap.size := (Array.getElem?_eq_some_iff.mp hcb).1
    have hX : va_X b xs.length (fun j => xs.getD j 0) s s.heap := ⟨scr, hcb, hof, hkn, hsz, hval⟩
    have K : W p l e room_1 s m #[Value.ref b] below meth c s₁.heap [] 0 0 (lw_Z below #[Value.ref b] s) (entryFrame m ([Value.ref b] : List Value).toArray 4) := by
      rw [hh0]
      exact whole_start l hflags hbd ⟨B.exec, B.bytes, B.returns, hml, hown, hts, hX, hbl, B.notSynchronized, hgv⟩
    obtain ⟨t, a1, o, b1, b2, b3⟩ := K s₁ rfl X₀
    exact ⟨t, o, a1, b1, b2, b3⟩
theorem lw_pre_spec {args : Array Value} {s : State} (h : (Jvm.Cond.and given_1 narrow_1).before args s = true) (hr : rest_1_c.before args s = true) : ∃ (b : Addr) (xs : List Int32), lw_P b xs args s := by
  have hs := flat_of_before _ h
  have hq := flat_of_before _ hr
  have hc : (Cond.count 1).before args s = true := hs _ (by decide +kernel)
  have harr : (Cond.arrayOf (.arg 0) .int).before args s = true := hs _ (by decide +kernel)
  have hle : (Cond.le (.length (.arg 0)) (.int 3072)).before args s = true := hs _ (by decide +kernel)
  have hlen : (Cond.isInt (.length (.arg 0))).before args s = true := hq _ (by decide +kernel)
  have hall : (Cond.all (.arg 0) (.isInt (.elem (.arg 0) (.index 0)))).before args s = true := hq _ (by decide +kernel)
  obtain ⟨b, xs, hb, hx⟩ := State.ints_of_pre rfl harr hlen hall
  have hsm : xs.length < 2 ^ 31 := hx.choose_spec.2.2.2
  have hev : (Term.length (.arg 0)).eval args s none [] s = some (.int xs.length.toInt32) := hx.length_eval hb
  have hv := Cond.le_ints hev (show (Term.int 3072).eval args s none [] s = some (.int 3072) from rfl)
  have hd : xs.length.toInt32 ≤ 3072 := by
    simpa [Cond.before, Cond.holds, hv] using hle
  have hN : xs.length ≤ 3072 := (Int32.ofNat_le_ofNat hsm (by decide)).mp (show Int32.ofNat xs.length ≤ Int32.ofNat 3072 from hd)
  exact ⟨b, xs, Cond.one_arg hc (show args[0]? = some (.ref b) from hb), hx, hN, h⟩
theorem lw_comes (l : Launch) (hflags : l.flags = flags0) : Comes l x (Jvm.Cond.code x code maxLocals ret :: tables_1) room_1 (fun tb e args s => Calls_1 tb e args s ∧ rest_1 tb e args s ∧ Pre_1 tb e args s)
    (fun _ _ args s o t => lw_Q args s o t) := by
  intro p e ha hc hk s m args below hf hfit hheap happ hpre
  obtain ⟨b, xs, hP⟩ := lw_pre_spec hpre.2.2 hpre.2.1
  obtain ⟨k, o, h1, h2, h3, hQ⟩ := lw_walk l hflags b xs p e ha hc hk s m args below hf ((Spec.applies_iff_loose hf).mp happ).1 hP trivial
  exact ⟨k, o, h1, h2, h3, hQ⟩
theorem lw_frame {s t : State} {o : Outcome} {args : Array Value} (h : Framed s o t [] 600000 7302250) :
    Framed s o t (fieldLocs frame_1_writes args s ++ arrayLocs frame_1_arrays args s ++ staticLocs frame_1_statics s) 600000 7302250 := h
theorem lw_limb (L : Cond) (hL : ∀ (args : Array Value) (s t : State), L.after args s (.returned (some (.int 1))) t = true) :
    ArmFor flags0 classFile x code maxLocals ret World_1 tables_1 room_1 Calls_1 rest_1 Pre_1
      (fun tb e a s o t => postC L tb e a s o t ∧ Framed s o t (fieldLocs frame_1_writes a s ++ arrayLocs frame_1_arrays a s ++ staticLocs frame_1_statics s) 600000 7302250) := by
  intro l hflags _ _ p e ha hc hk s m args below hf hfit hheap happ hpre
  obtain ⟨k, o, h1, h2, h3, rfl, hF⟩ := lw_comes l hflags p e ha hc hk s m args below hf hfit hheap happ hpre
  exact ⟨k, _, h1, h2, h3, hL args s _, lw_frame hF⟩
theorem i_vc : Claimed_1_1 ∧ Claimed_1_2 := ⟨lw_limb limb_1_1 (fun args s t => by simp [limb_1_1, Cond.after, Cond.holds, Cond.value]), lw_limb limb_1_2 (fun args s t => Cond.after_iff.mpr (by
  first | (rw [show limb_1_2 = Cond.eq .result (.int 1) from rfl, Cond.eq_ints (x := 1) (y := 1) rfl rfl]; simp; done) | (simp [limb_1_2, Cond.value, Term.eval]; done)))⟩
