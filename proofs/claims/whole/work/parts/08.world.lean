theorem fsL_at {w : Wc} {σ : Sg} {k c j : Nat} (h : j < (slt c).length) : (fsL w σ k c)[j]? = some (slV w k ((slt c).getD j (0, 0)) (σ k j)) := by
  simp [fsL, h]
theorem fsL_set {w : Wc} {σ : Sg} {k c j : Nat} {x : Int32} : fsL w (u2 σ k j x) k c = (fsL w σ k c).set j (slV w k ((slt c).getD j (0, 0)) x) := by
  apply List.ext_getElem?
  intro i
  rw [List.getElem?_set]
  by_cases hi : j = i
  · subst hi
    by_cases hl : j < (slt c).length
    · rw [fsL_at hl, u2_same]; simp [fsL, hl]
    · simp [fsL, hl]
  · simp only [hi, if_false]
    by_cases hl : i < (slt c).length
    · rw [fsL_at hl, fsL_at hl, u2_ne (fun q => hi q.2.symm)]
    · simp [fsL, hl]
theorem obj_at {S : Shp} {w : Wc} {σ : Sg} {k ci : Nat} (hk : kd S k = ci + 1) (hc : ci < 19) : (wsL S w σ)[k]? = some (ad w k, .inr (ci, fsL w σ k (ci + 1))) := by
  rw [wsL_at (kd_lt hk (Nat.succ_pos _)), ent_obj hk hc]
theorem arr_at {S : Shp} {w : Wc} {σ : Sg} {k : Nat} (hk : kd S k = 20) : (wsL S w σ)[k]? = some (ad w k, .inl (cA w 0, ln S k, .inl (σ k))) := by
  rw [wsL_at (kd_lt hk (by omega)), ent_arr hk]
theorem refs_at {S : Shp} {w : Wc} {σ : Sg} {k t : Nat} (hk : kd S k = 20 + t) (ht : 0 < t) : (wsL S w σ)[k]? = some (ad w k, .inl (cA w t, ln S k, .inr (.inr (.inr (.inr (fun j => some (ad w (bs S k + sd S k * j)))))))) := by
  rw [wsL_at (kd_lt hk (by omega)), ent_ref hk ht]
theorem obj_set {S : Shp} {w : Wc} {σ : Sg} {k ci j : Nat} {x : Int32} (hk : kd S k = ci + 1) (hc : ci < 19) : (wsL S w σ).set k (ad w k, .inr (ci, (fsL w σ k (ci + 1)).set j (slV w k ((slt (ci + 1)).getD j (0, 0)) x))) = wsL S w (u2 σ k j x) := by
  rw [← fsL_set, ← ent_obj (S := S) hk hc]
  exact wsL_set (fun a ha => u2_other ha)
theorem xarr_set {S : Shp} {w : Wc} {σ : Sg} {k j : Nat} {x : Int32} (hk : kd S k = 20) : (wsL S w σ).set k (ad w k, .inl (cA w 0, ln S k, .inl (upd (σ k) j x))) = wsL S w (u2 σ k j x) := by
  rw [← u2_row, ← ent_arr (S := S) (σ := u2 σ k j x) hk]
  exact wsL_set (fun a ha => u2_other ha)
theorem arr_setc {S : Shp} {w : Wc} {σ : Sg} {k k0 sp dp n : Nat} (hk : kd S k = 20) : (wsL S w σ).set k (ad w k, .inl (cA w 0, ln S k, .inl (va_cpy (σ k0) (σ k) sp dp n))) = wsL S w (c2 σ k0 sp k dp n) := by
  rw [← c2_row, ← ent_arr (S := S) (σ := c2 σ k0 sp k dp n) hk]
  exact wsL_set (fun a ha => c2_other ha)
section WORLD
variable {S : Shp} {w : Wc} {g : Gx} {Q : State → Prop} {d : Nat} {cc : ByteArray} {own : String} {nL : Nat} {ret : Option FieldType} {pc pc' : Nat} {ls : List (Option Value)} {st : List Value} {σ : Sg}
theorem x_getG (hg : OK S w g d cc own nL ret) {k j idx ci N : Nat} {C : String} {T : u_T} {q : Nat × Nat} (hk : kd S k = ci + 1) (h19 : ci < 19) (hc : vwCl[ci]? = some (C, T, N)) (hin : ∀ x ∈ u_ws C T N, x ∈ GT) (hj : j < N) (hjl : j < (slt (ci + 1)).length) (hq : (slt (ci + 1)).getD j (0, 0) = q) (hl : Cond.fieldLink own idx (T j).1 (T j).2.1 (T j).2.2.1 ∈ GT) (hd : decode cc pc = .ok (.getfield idx, 3)) (hp : pc + 3 = pc')
    (kk : X S w g Q pc' ls (slV w k q (σ k j) :: st) σ) : X S w g Q pc ls (.ref (ad w k) :: st) σ := by
  obtain ⟨p, l, e, R, s, m, args, below, meth, c⟩ := g
  obtain ⟨hx, hb, hml, hown, hts, hR, hK, hr, hlk, hinj, hst, hsr⟩ := hg
  intro H locs lsA hP hS hlv
  subst hp; subst hq
  exact va_get (D := dG w) (cl := vwCl) (tys := tys w) (ws := wsL S w σ) (ci := ci) hx hb hts hin hown hK hP k (obj_at hk h19) hc j hj (hts _ hl) (fun _ h => h) (fsL_at hjl) hd (kk H locs lsA hP hS hlv)
theorem x_putG (hg : OK S w g d cc own nL ret) {k j idx ci N : Nat} {C : String} {T : u_T} {ty0 : Nat → FieldType} {q : Nat × Nat} {v : Value} {x : Int32} {B : Sg → Prop} (hk : kd S k = ci + 1) (h19 : ci < 19) (hc : vwCl[ci]? = some (C, T, N)) (hin : ∀ x ∈ u_ws C T N, x ∈ GT) (hty : ∀ k, k < N → parseFieldDescriptor (T k).2.2.1 = some (ty0 k)) (hnm : ∀ a, a < N → ∀ b, b < N → a ≠ b → (T a).2.1 ≠ (T b).2.1) (hj : j < N) (hjl : j < (slt (ci + 1)).length) (hfin : (T j).2.2.2 = false) (hq : (slt (ci + 1)).getD j (0, 0) = q) (hv : slV w k q x = v) (hn : narrow (ty0 j) v = v) (hfit : fits (ty0 j) v = true) (hl : Cond.fieldLink own idx (T j).1 (T j).2.1 (T j).2.2.1 ∈ GT) (hd : decode cc pc = .ok (.putfield idx, 3)) (hp : pc + 3 = pc')
    (hw : ∀ s1, s1 = u2 σ k j x → B s1) (kk : ∀ s1, B s1 → X S w g Q pc' ls st s1) : X S w g Q pc ls (v :: .ref (ad w k) :: st) σ := by
  have k9 := kk _ (hw _ rfl)
  obtain ⟨p, l, e, R, s, m, args, below, meth, c⟩ := g
  obtain ⟨hx, hb, hml, hown, hts, hR, hK, hr, hlk, hinj, hst, hsr⟩ := hg
  intro H locs lsA hP hS hlv
  subst hp; subst hq; subst hv
  refine va_put (D := dG w) (cl := vwCl) (tys := tys w) (ws := wsL S w σ) (ci := ci) (ty := ty0 j) hx hb hts hin ty0 hty hnm hown hK hP (wsL_D hinj) hS k (obj_at hk h19) hc j hj (hts _ hl) (fun _ h => h) hfin (hty j hj) hn hfit (by simpa [fsL] using hjl) hd (fun H1 locs1 hP1 hD1 hS1 => ?_)
  rw [obj_set hk h19] at hP1
  exact k9 H1 locs1 lsA hP1 hS1 hlv
theorem x_iald (hg : OK S w g d cc own nL ret) {k n : Nat} {i : Int32} {B : Prop} (hk : kd S k = 20) (hn : ln S k = n) (hd : decode cc pc = .ok (.iaload, 1)) (hp : pc + 1 = pc') (hw : vp_in i n ∧ B)
    (kk : B → X S w g Q pc' ls (.int (σ k (ix i)) :: st) σ) : X S w g Q pc ls (.int i :: .ref (ad w k) :: st) σ := by
  have k9 := kk hw.2
  obtain ⟨p, l, e, R, s, m, args, below, meth, c⟩ := g
  obtain ⟨hx, hb, hml, hown, hts, hR, hK, hr, hlk, hinj, hst, hsr⟩ := hg
  intro H locs lsA hP hS hlv
  subst hp; subst hn
  exact va_iald (D := dG w) (cl := vwCl) (tys := tys w) (ws := wsL S w σ) hx hb hK hP k 0 (arr_at hk) rfl hw.1 hd (k9 H locs lsA hP hS hlv)
theorem x_ialdc (hg : OK S w g d cc own nL ret) {k n j : Nat} {i : Int32} (hk : kd S k = 20) (hn : ln S k = n) (hi : vp_in i n) (hj : ix i = j) (hd : decode cc pc = .ok (.iaload, 1)) (hp : pc + 1 = pc')
    (kk : X S w g Q pc' ls (.int (σ k j) :: st) σ) : X S w g Q pc ls (.int i :: .ref (ad w k) :: st) σ := by
  subst hj
  exact x_iald hg hk hn hd hp ⟨hi, trivial⟩ (fun _ => kk)
theorem x_iast (hg : OK S w g d cc own nL ret) {k n : Nat} {i x : Int32} {B : Sg → Prop} (hk : kd S k = 20) (hn : ln S k = n) (hd : decode cc pc = .ok (.iastore, 1)) (hp : pc + 1 = pc') (hw : vp_in i n ∧ ∀ s1, s1 = u2 σ k (ix i) x → B s1)
    (kk : ∀ s1, B s1 → X S w g Q pc' ls st s1) : X S w g Q pc ls (.int x :: .int i :: .ref (ad w k) :: st) σ := by
  have k9 := kk _ (hw.2 _ rfl)
  obtain ⟨p, l, e, R, s, m, args, below, meth, c⟩ := g
  obtain ⟨hx, hb, hml, hown, hts, hR, hK, hr, hlk, hinj, hst, hsr⟩ := hg
  intro H locs lsA hP hS hlv
  subst hp; subst hn
  refine va_iast (D := dG w) (cl := vwCl) (tys := tys w) (ws := wsL S w σ) hx hb hK hP (wsL_D hinj) hS k 0 (arr_at hk) rfl hw.1 hd (fun H1 locs1 hP1 hD1 hS1 => ?_)
  rw [xarr_set hk] at hP1
  exact k9 H1 locs1 lsA hP1 hS1 hlv
theorem x_iastc (hg : OK S w g d cc own nL ret) {k n j : Nat} {i x : Int32} {B : Sg → Prop} (hk : kd S k = 20) (hn : ln S k = n) (hi : vp_in i n) (hj : ix i = j) (hd : decode cc pc = .ok (.iastore, 1)) (hp : pc + 1 = pc') (hw : ∀ s1, s1 = u2 σ k j x → B s1)
    (kk : ∀ s1, B s1 → X S w g Q pc' ls st s1) : X S w g Q pc ls (.int x :: .int i :: .ref (ad w k) :: st) σ := by
  subst hj
  exact x_iast hg hk hn hd hp ⟨hi, hw⟩ kk
theorem x_aald (hg : OK S w g d cc own nL ret) {k n t b z : Nat} {C : String} {i : Int32} {B : Prop} (hk : kd S k = 20 + t) (ht : 0 < t) (hty : (tys w)[t]? = some (cA w t, .object C)) (hn : ln S k = n) (hb1 : bs S k = b) (hs1 : sd S k = z) (hd : decode cc pc = .ok (.aaload, 1)) (hp : pc + 1 = pc') (hw : vp_in i n ∧ B)
    (kk : vp_in i n → B → X S w g Q pc' ls (.ref (ad w (b + z * ix i)) :: st) σ) : X S w g Q pc ls (.int i :: .ref (ad w k) :: st) σ := by
  have k9 := kk hw.1 hw.2
  obtain ⟨p, l, e, R, s, m, args, below, meth, c⟩ := g
  obtain ⟨hx, hb, hml, hown, hts, hR, hK, hr, hlk, hinj, hst, hsr⟩ := hg
  intro H locs lsA hP hS hlv
  subst hp; subst hn; subst hb1; subst hs1
  exact va_aldq (D := dG w) (cl := vwCl) (tys := tys w) (ws := wsL S w σ) hx hb hK hP k t (refs_at hk ht) hty hw.1 hd (k9 H locs lsA hP hS hlv)
theorem x_alen (hg : OK S w g d cc own nL ret) {k n : Nat} {v : Int32} (hk : kd S k = 20) (hn : ln S k = n) (hv : Int32.ofNat n = v) (hd : decode cc pc = .ok (.arraylength, 1)) (hp : pc + 1 = pc')
    (kk : X S w g Q pc' ls (.int v :: st) σ) : X S w g Q pc ls (.ref (ad w k) :: st) σ := by
  obtain ⟨p, l, e, R, s, m, args, below, meth, c⟩ := g
  obtain ⟨hx, hb, hml, hown, hts, hR, hK, hr, hlk, hinj, hst, hsr⟩ := hg
  intro H locs lsA hP hS hlv
  subst hp; subst hn
  exact va_alen (D := dG w) (cl := vwCl) (tys := tys w) (ws := wsL S w σ) hx hb hK hP k 0 (arr_at hk) rfl hv hd (kk H locs lsA hP hS hlv)
def acp (k0 k1 : Nat) (S : Shp) (sp dp n : Int32) : Prop := ¬ sp < 0 ∧ ¬ dp < 0 ∧ ¬ n < 0 ∧ ix sp + ix n ≤ ln S k0 ∧ ix dp + ix n ≤ ln S k1
theorem x_copy (hg : OK S w g d cc own nL ret) {k0 k1 idx : Nat} {sp dp n : Int32} {B : Sg → Prop} (hk0 : kd S k0 = 20) (hk1 : kd S k1 = 20) (hd0 : Nat.ble 1 d = true) (hrest : Nat.ble (st.map fun v => v.category).sum 8 = true) (h1 : Cond.methodLink own idx arraycopyName ∈ GT) (h2 : Cond.native arraycopyName ∈ GT) (h3 : Cond.static arraycopyName ∈ GT) (h4 : Cond.initialized "java/lang/System" ∈ GT) (hd : decode cc pc = .ok (.invokestatic idx, 3)) (hp : pc + 3 = pc') (hw : acp k0 k1 S sp dp n ∧ ∀ s1, s1 = c2 σ k0 (ix sp) k1 (ix dp) (ix n) → B s1)
    (kk : ∀ s1, B s1 → X S w g Q pc' ls st s1) : X S w g Q pc ls (.int n :: .int dp :: .ref (ad w k1) :: .int sp :: .ref (ad w k0) :: st) σ := by
  have k9 := kk _ (hw.2 _ rfl)
  obtain ⟨⟨a1, a2, a3, a4, a5⟩, -⟩ := hw
  obtain ⟨p, l, e, R, s, m, args, below, meth, c⟩ := g
  obtain ⟨hx, hb, hml, hown, hts, hR, hK, hr, hlk, hinj, hst, hsr⟩ := hg
  intro H locs lsA hP hS hlv
  subst hp
  have hd1 : 1 ≤ d := Nat.le_of_ble_eq_true hd0
  have hrs : (st.map fun v => v.category).sum ≤ 8 := Nat.le_of_ble_eq_true hrest
  have hfr : 1 ≤ R.frames := by rw [hR]; exact hd1
  have hnf : nativeFrameWords "java/lang/System" "arraycopy" 5 + 11 ≤ 30 := by decide +kernel
  have hlo : (st.map fun v => v.category).sum + (nativeFrameWords "java/lang/System" "arraycopy" 5 + 11) ≤ R.locals := by
    rw [hR]
    show _ ≤ 40 * d
    omega
  refine va_copyi (D := dG w) (cl := vwCl) (tys := tys w) (ws := wsL S w σ) (ty := .int) hx hb hlv.1.symm hown (hts _ h1) (hts _ h2) (hts _ h3) (hts _ h4) hK hP (wsL_D hinj) hS k0 k1 0 0 (arr_at hk0) (arr_at hk1) rfl rfl rfl a1 a2 a3 a4 a5 (fun _ _ => rfl) hfr hlo hd (fun H1 locs1 hP1 hD1 hS1 => ?_)
  rw [arr_setc hk1] at hP1
  exact k9 H1 locs1 lsA hP1 hS1 hlv
theorem nest_X4 (args : Array Value) (s : State) (h : SR w s) : nK4.before args s = true := va_Nw.use rfl h.2.1
theorem nest_X6 (args : Array Value) (s : State) (h : SR w s) : nK6.before args s = true := va_Nw.use rfl h.2.2.1
theorem nest_X0 (args : Array Value) (s : State) (h : SR w s) : nM0.before args s = true := va_Nw.use rfl h.2.2.2.1
theorem x_getsK (hg : OK S w g d cc own nL ret) {idx : Nat} (hl : ∀ (args : Array Value) (s : State), SR w s → (Cond.fieldLinkNest own idx "BagBottom" "KIND_ABOVE" "[I" "BagBottom").before args s = true) (hd : decode cc pc = .ok (.getstatic idx, 3)) (hp : pc + 3 = pc')
    (kk : X S w g Q pc' ls (.ref (ka w 0) :: st) σ) : X S w g Q pc ls st σ := by
  obtain ⟨p, l, e, R, s, m, args, below, meth, c⟩ := g
  obtain ⟨hx, hb, hml, hown, hts, hR, hK, hr, hlk, hinj, hst, hsr⟩ := hg
  intro H locs lsA hP hS hlv
  subst hp
  exact va_getsN hx hb hst.1.1 hS hown (hl _ _ hsr) (fun _ h => h) hd (kk H locs lsA hP hS hlv)
theorem x_getsB (hg : OK S w g d cc own nL ret) {idx : Nat} (hl : Cond.fieldLink own idx "BagBottom$Voices" "BODIES" "[I" ∈ GT) (hd : decode cc pc = .ok (.getstatic idx, 3)) (hp : pc + 3 = pc')
    (kk : X S w g Q pc' ls (.ref (ka w 1) :: st) σ) : X S w g Q pc ls st σ := by
  obtain ⟨p, l, e, R, s, m, args, below, meth, c⟩ := g
  obtain ⟨hx, hb, hml, hown, hts, hR, hK, hr, hlk, hinj, hst, hsr⟩ := hg
  intro H locs lsA hP hS hlv
  subst hp
  exact va_gets hx hb hst.2.1.1 hS hown (hts _ hl) (fun _ h => h) hd (kk H locs lsA hP hS hlv)
theorem x_tldK (hg : OK S w g d cc own nL ret) {i : Int32} {B : Prop} (hd : decode cc pc = .ok (.iaload, 1)) (hp : pc + 1 = pc') (hw : vp_in i 7 ∧ B)
    (kk : B → X S w g Q pc' ls (.int (kaF (ix i)) :: st) σ) : X S w g Q pc ls (.int i :: .ref (ka w 0) :: st) σ := by
  have k9 := kk hw.2
  obtain ⟨p, l, e, R, s, m, args, below, meth, c⟩ := g
  obtain ⟨hx, hb, hml, hown, hts, hR, hK, hr, hlk, hinj, hst, hsr⟩ := hg
  intro H locs lsA hP hS hlv
  subst hp
  exact va_ti hx hb hst.1.2 hS hw.1 rfl hd (k9 H locs lsA hP hS hlv)
theorem x_tldB (hg : OK S w g d cc own nL ret) {i : Int32} {B : Prop} (hd : decode cc pc = .ok (.iaload, 1)) (hp : pc + 1 = pc') (hw : vp_in i 28 ∧ B)
    (kk : B → X S w g Q pc' ls (.int (bdF (ix i)) :: st) σ) : X S w g Q pc ls (.int i :: .ref (ka w 1) :: st) σ := by
  have k9 := kk hw.2
  obtain ⟨p, l, e, R, s, m, args, below, meth, c⟩ := g
  obtain ⟨hx, hb, hml, hown, hts, hR, hK, hr, hlk, hinj, hst, hsr⟩ := hg
  intro H locs lsA hP hS hlv
  subst hp
  exact va_ti hx hb hst.2.1.2 hS hw.1 rfl hd (k9 H locs lsA hP hS hlv)
theorem WP_end {s t : State} {A : Nat → Prop} {H : Heap} {locs : List Loc} (hP : va_P (dG w) vwCl (wsL S w σ) H) (hS : va_S (FA S w) s.heap H locs) (hK : va_K (dG w) vwCl (tys w) s) (hinj : Inj S w) (hst : St (FA S w) w s s.heap) (hsr : SR w s) (ht : t.heap = H) (hW : s.WarmedH t.vm) : WP S w σ t := by
  refine ⟨by rw [ht]; exact hP, va_K.moved hW.alike hK, ?_, hinj, hsr.warm hW⟩
  refine St.kept (St.moved hW.alike hst) (fun a h1 h2 => ?_)
  rw [ht]
  exact hS.2.1 a h1 h2
theorem x_ret {P : Int32 → Sg → Prop} (hg : OK S w g d cc own nL (some .int)) {v : Int32} (hd : decode cc pc = .ok (.ireturn, 1)) (hw : P v σ) : X S w g (QI S w g P) pc ls [.int v] σ := by
  obtain ⟨p, l, e, R, s, m, args, below, meth, c⟩ := g
  obtain ⟨hx, hb, hml, hown, hts, hR, hK, hr, hlk, hinj, hst, hsr⟩ := hg
  intro H locs lsA hP hS hlv
  exact W.iret hx hb hr (fun t ht hW => ⟨⟨v, σ, rfl, hw, WP_end (A := FA S w) hP hS hK hinj hst hsr ht hW⟩, hS.F ht⟩) hS.2.2 hd hlk
theorem nz_of {v : Int32} (h : v = 0 ∨ v = 1) : narrow .boolean (.int v) = .int v ∧ fits .boolean (.int v) = true := by
  rcases h with rfl | rfl <;> exact ⟨by decide +kernel, by decide +kernel⟩
theorem x_zret {P : Int32 → Sg → Prop} (hg : OK S w g d cc own nL (some .boolean)) {v : Int32} (hd : decode cc pc = .ok (.ireturn, 1)) (hv : v = 0 ∨ v = 1) (hw : P v σ) : X S w g (QI S w g P) pc ls [.int v] σ := by
  obtain ⟨p, l, e, R, s, m, args, below, meth, c⟩ := g
  obtain ⟨hx, hb, hml, hown, hts, hR, hK, hr, hlk, hinj, hst, hsr⟩ := hg
  intro H locs lsA hP hS hlv
  exact W.zret hx hb hr (nz_of hv).1 (fun t ht hW => ⟨⟨v, σ, rfl, hw, WP_end (A := FA S w) hP hS hK hinj hst hsr ht hW⟩, hS.F ht⟩) hS.2.2 hd hlk
theorem x_vret {P : Sg → Prop} (hg : OK S w g d cc own nL none) (hd : decode cc pc = .ok (.return_, 1)) (hw : P σ) : X S w g (QV S w g P) pc ls [] σ := by
  obtain ⟨p, l, e, R, s, m, args, below, meth, c⟩ := g
  obtain ⟨hx, hb, hml, hown, hts, hR, hK, hr, hlk, hinj, hst, hsr⟩ := hg
  intro H locs lsA hP hS hlv
  exact W.vret hx hb hr (fun t ht hW => ⟨⟨σ, rfl, hw, WP_end (A := FA S w) hP hS hK hinj hst hsr ht hW⟩, hS.F ht⟩) hS.2.2 hd hlk
theorem x_sret {P : Int32 → Sg → Prop} (hg : OK S w g d cc own nL (some (.object "java/lang/String"))) {x : Int32} (hd : decode cc pc = .ok (.areturn, 1)) (hw : P x σ) : X S w g (QR S w g P) pc ls [.ref (sa w x)] σ := by
  obtain ⟨p, l, e, R, s, m, args, below, meth, c⟩ := g
  obtain ⟨hx, hb, hml, hown, hts, hR, hK, hr, hlk, hinj, hst, hsr⟩ := hg
  intro H locs lsA hP hS hlv
  exact W.aret hx hb hr (Or.inl ⟨_, rfl⟩) (Or.inr ⟨_, rfl⟩) (fun t ht hW => ⟨⟨(x, σ), sa w x, rfl, hw, rfl, WP_end (A := FA S w) hP hS hK hinj hst hsr ht hW⟩, hS.F ht⟩) hS.2.2 hd hlk
end WORLD
