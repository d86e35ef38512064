theorem GT_good {cd : Cond} (h : cd ∈ GT) : GoodIn GT (cd :: GT) := by
  intro x hx
  have hx2 : x ∈ GT := by
    rcases List.mem_cons.mp hx with rfl | q
    · exact h
    · exact q
  exact ⟨hx2, good_of_word (List.mem_filter.mp hx2).2⟩
theorem WP_blind {S : Shp} {w : Wc} {σ : Sg} {as : List Value} : FrameBlind (va_Pc as (WP S w σ)) := by
  intro a U g mk h
  obtain ⟨h1, hP, hK, hSt, hinj, hsr⟩ := h
  exact ⟨h1, hP, va_K.moved (u := U) (U := U.calling g mk a) (Vm.Alike.refl U.vm) hK, St.moved (u := U) (U := U.calling g mk a) (Vm.Alike.refl U.vm) hSt, hinj, SR.same rfl hsr⟩
theorem lg_room {R : Room} {d d2 maxL : Nat} (hR : R = rm d) (h1 : Nat.ble (d2 + 1) d = true) (h2 : Nat.ble maxL 21 = true) : (rm d2).frames + 1 ≤ R.frames ∧ 8 + (maxL + 11) + (rm d2).locals ≤ R.locals := by
  subst hR
  have h1 := Nat.le_of_ble_eq_true h1
  have h2 := Nat.le_of_ble_eq_true h2
  refine ⟨h1, ?_⟩
  show 8 + (maxL + 11) + 40 * d2 ≤ 40 * d
  omega
section CALLS
variable {S : Shp} {w : Wc} {g : Gx} {Q : State → Prop} {d : Nat} {cc : ByteArray} {own : String} {nL : Nat} {ret : Option FieldType} {pc pc' : Nat} {ls : List (Option Value)} {st : List Value} {σ : Sg}
theorem ci_of_i {l : Launch} {y : MethodName} {maxL : Nat} {own : String} (ho : y.cls = own) {as : List Value} {ls0 : List (Option Value)} {P : Int32 → Sg → Prop} (hy : plainName y.cls = true) (hlen : Nat.ble (lg_sl as).length maxL = true) (hls : toL 0 ls0 = lv_args 0 as) (body : ∀ g, gL g = l → OK S w g d cc own maxL (some .int) → X S w g (QI S w g P) 0 ls0 [] σ) : CI S w l d (.code y cc maxL (some .int)) y as σ P := by
  refine Met.ofW (cc := cc) (maxL := maxL) (ret := (some .int)) hy rfl ?_
  intro p e s m args below meth c s₁ B hml hv
  obtain ⟨rfl, hP, hK, hSt, hinj, hsr⟩ := hv
  have hts := atoms_spec (ws := Cond.code y cc maxL (some .int) :: GT) B.pre
  have hown : s.vm.findClass own = some m.cls := by
    rw [← ho]
    exact findClass_of_methodNamed B.named
  have hl := lv_entry as (n := maxL) (Nat.le_of_ble_eq_true hlen)
  rw [lg_entry_eq]
  exact body (p, l, e, rm d, s, m, as.toArray, below, meth, c) rfl ⟨B.exec, B.bytes, hml, hown, fun x hx => hts x (List.mem_cons_of_mem _ hx), rfl, hK, B.returns, B.notSynchronized, hinj, hSt, hsr⟩ s.heap [] _ hP va_S.rf (by rw [hls, hml]; exact hl)
theorem ci_of_z {l : Launch} {y : MethodName} {maxL : Nat} {own : String} (ho : y.cls = own) {as : List Value} {ls0 : List (Option Value)} {P : Int32 → Sg → Prop} (hy : plainName y.cls = true) (hlen : Nat.ble (lg_sl as).length maxL = true) (hls : toL 0 ls0 = lv_args 0 as) (body : ∀ g, gL g = l → OK S w g d cc own maxL (some .boolean) → X S w g (QI S w g P) 0 ls0 [] σ) : CI S w l d (.code y cc maxL (some .boolean)) y as σ P := by
  refine Met.ofW (cc := cc) (maxL := maxL) (ret := (some .boolean)) hy rfl ?_
  intro p e s m args below meth c s₁ B hml hv
  obtain ⟨rfl, hP, hK, hSt, hinj, hsr⟩ := hv
  have hts := atoms_spec (ws := Cond.code y cc maxL (some .boolean) :: GT) B.pre
  have hown : s.vm.findClass own = some m.cls := by
    rw [← ho]
    exact findClass_of_methodNamed B.named
  have hl := lv_entry as (n := maxL) (Nat.le_of_ble_eq_true hlen)
  rw [lg_entry_eq]
  exact body (p, l, e, rm d, s, m, as.toArray, below, meth, c) rfl ⟨B.exec, B.bytes, hml, hown, fun x hx => hts x (List.mem_cons_of_mem _ hx), rfl, hK, B.returns, B.notSynchronized, hinj, hSt, hsr⟩ s.heap [] _ hP va_S.rf (by rw [hls, hml]; exact hl)
theorem ci_of_b {l : Launch} {y : MethodName} {maxL : Nat} {own : String} (ho : y.cls = own) {as : List Value} {ls0 : List (Option Value)} {P : Int32 → Sg → Prop} (hy : plainName y.cls = true) (hlen : Nat.ble (lg_sl as).length maxL = true) (hls : toL 0 ls0 = lv_args 0 as) (body : ∀ g, gL g = l → OK S w g d cc own maxL (some .byte) → X S w g (QI S w g P) 0 ls0 [] σ) : CI S w l d (.code y cc maxL (some .byte)) y as σ P := by
  refine Met.ofW (cc := cc) (maxL := maxL) (ret := (some .byte)) hy rfl ?_
  intro p e s m args below meth c s₁ B hml hv
  obtain ⟨rfl, hP, hK, hSt, hinj, hsr⟩ := hv
  have hts := atoms_spec (ws := Cond.code y cc maxL (some .byte) :: GT) B.pre
  have hown : s.vm.findClass own = some m.cls := by
    rw [← ho]
    exact findClass_of_methodNamed B.named
  have hl := lv_entry as (n := maxL) (Nat.le_of_ble_eq_true hlen)
  rw [lg_entry_eq]
  exact body (p, l, e, rm d, s, m, as.toArray, below, meth, c) rfl ⟨B.exec, B.bytes, hml, hown, fun x hx => hts x (List.mem_cons_of_mem _ hx), rfl, hK, B.returns, B.notSynchronized, hinj, hSt, hsr⟩ s.heap [] _ hP va_S.rf (by rw [hls, hml]; exact hl)
theorem ci_of_v {l : Launch} {y : MethodName} {maxL : Nat} {own : String} (ho : y.cls = own) {as : List Value} {ls0 : List (Option Value)} {P : Sg → Prop} (hy : plainName y.cls = true) (hlen : Nat.ble (lg_sl as).length maxL = true) (hls : toL 0 ls0 = lv_args 0 as) (body : ∀ g, gL g = l → OK S w g d cc own maxL none → X S w g (QV S w g P) 0 ls0 [] σ) : CV S w l d (.code y cc maxL none) y as σ P := by
  refine Met.ofW (cc := cc) (maxL := maxL) (ret := none) hy rfl ?_
  intro p e s m args below meth c s₁ B hml hv
  obtain ⟨rfl, hP, hK, hSt, hinj, hsr⟩ := hv
  have hts := atoms_spec (ws := Cond.code y cc maxL none :: GT) B.pre
  have hown : s.vm.findClass own = some m.cls := by
    rw [← ho]
    exact findClass_of_methodNamed B.named
  have hl := lv_entry as (n := maxL) (Nat.le_of_ble_eq_true hlen)
  rw [lg_entry_eq]
  exact body (p, l, e, rm d, s, m, as.toArray, below, meth, c) rfl ⟨B.exec, B.bytes, hml, hown, fun x hx => hts x (List.mem_cons_of_mem _ hx), rfl, hK, B.returns, B.notSynchronized, hinj, hSt, hsr⟩ s.heap [] _ hP va_S.rf (by rw [hls, hml]; exact hl)
theorem ci_of_s {l : Launch} {y : MethodName} {maxL : Nat} {own : String} (ho : y.cls = own) {as : List Value} {ls0 : List (Option Value)} {P : Int32 → Sg → Prop} (hy : plainName y.cls = true) (hlen : Nat.ble (lg_sl as).length maxL = true) (hls : toL 0 ls0 = lv_args 0 as) (body : ∀ g, gL g = l → OK S w g d cc own maxL (some (.object "java/lang/String")) → X S w g (QR S w g P) 0 ls0 [] σ) : CR S w l d (.code y cc maxL (some (.object "java/lang/String"))) y as σ P := by
  refine Met.ofW (cc := cc) (maxL := maxL) (ret := (some (.object "java/lang/String"))) hy rfl ?_
  intro p e s m args below meth c s₁ B hml hv
  obtain ⟨rfl, hP, hK, hSt, hinj, hsr⟩ := hv
  have hts := atoms_spec (ws := Cond.code y cc maxL (some (.object "java/lang/String")) :: GT) B.pre
  have hown : s.vm.findClass own = some m.cls := by
    rw [← ho]
    exact findClass_of_methodNamed B.named
  have hl := lv_entry as (n := maxL) (Nat.le_of_ble_eq_true hlen)
  rw [lg_entry_eq]
  exact body (p, l, e, rm d, s, m, as.toArray, below, meth, c) rfl ⟨B.exec, B.bytes, hml, hown, fun x hx => hts x (List.mem_cons_of_mem _ hx), rfl, hK, B.returns, B.notSynchronized, hinj, hSt, hsr⟩ s.heap [] _ hP va_S.rf (by rw [hls, hml]; exact hl)
theorem x_callVI (hg : OK S w g d cc own nL ret) {k ci N : Nat} {T : u_T} {d2 idx n maxL : Nat} {bytes : ByteArray} {rt : Option FieldType} {y : MethodName} {C : String} {As stk : List Value} {P : Int32 → Sg → Prop} (hM : CI S w (gL g) d2 (.code y bytes maxL rt) y (.ref (ad w k) :: As) σ P) (hk : kd S k = ci + 1) (h19 : ci < 19) (hc : vwCl[ci]? = some (C, T, N)) (hinst : Cond.instanceMethod y ∈ GT) (hsel : Cond.selects C y y ∈ GT) (hmi : MI y bytes maxL rt n C) (hlk : Cond.methodLink own idx y ∈ GT) (hR1 : Nat.ble (d2 + 1) d = true) (hR2 : Nat.ble maxL 21 = true) (hn : As.length = n) (hstk : stk = As.reverse ++ .ref (ad w k) :: st) (hsum : Nat.ble (st.map fun v => v.category).sum 8 = true) (hd : decode cc pc = .ok (.invokevirtual idx, 3)) (hp : pc + 3 = pc')
    (kk : ∀ r s1, P r s1 → X S w g Q pc' ls (.int r :: st) s1) : X S w g Q pc ls stk σ := by
  obtain ⟨p, l, e, R, s, m, args, below, meth, c⟩ := g
  obtain ⟨hx, hb, hml, hown, hts, hR, hK, hr, hlk2, hinj, hst, hsr⟩ := hg
  intro H locs lsA hP hS hlv
  subst hp; subst hstk
  obtain ⟨hcode, hini, hC, hdd⟩ := hmi
  subst hC
  have cb : CallB R s args own idx y bytes maxL rt (.code y bytes maxL rt :: GT) (rm d2) 0 0 n := callB_of (Ts := GT) n hts (GT_good hcode) rfl rfl rfl (hts _ hini) (hts _ hlk) hdd (lg_room hR hR1 hR2)
  refine va_calli (A0 := FA S w) (va_runV (As := As) (rest := st) ⟨hx, hb, hml, hown, hts⟩ hM ⟨cb, hts _ hinst, hts _ hsel⟩ ⟨WP_blind, va_recv (D := dG w) (cl := vwCl) (tys := tys w) (ws := wsL S w σ) hK hP hc (obj_at hk h19), fun U hU hW => ⟨rfl, WP_end (A := FA S w) hP hS hK hinj hst hsr hU hW⟩⟩ rfl hn (hlv.1.trans hml) rfl (lv_room (Nat.le_of_ble_eq_true hsum)) hd ⟨Nat.zero_le _, Nat.zero_le _⟩) hS (fun q _ h => h) (fun q h => h) (fun r u t H1 locs1 ht hvm hw hB hz hk1 hS1 => ?_)
  have hP1 := hB.1
  rw [ht] at hP1
  exact kk r u hw H1 locs1 lsA hP1 hS1 hlv
theorem x_callVV (hg : OK S w g d cc own nL ret) {k ci N : Nat} {T : u_T} {d2 idx n maxL : Nat} {bytes : ByteArray} {rt : Option FieldType} {y : MethodName} {C : String} {As stk : List Value} {P : Sg → Prop} (hM : CV S w (gL g) d2 (.code y bytes maxL rt) y (.ref (ad w k) :: As) σ P) (hk : kd S k = ci + 1) (h19 : ci < 19) (hc : vwCl[ci]? = some (C, T, N)) (hinst : Cond.instanceMethod y ∈ GT) (hsel : Cond.selects C y y ∈ GT) (hmi : MI y bytes maxL rt n C) (hlk : Cond.methodLink own idx y ∈ GT) (hR1 : Nat.ble (d2 + 1) d = true) (hR2 : Nat.ble maxL 21 = true) (hn : As.length = n) (hstk : stk = As.reverse ++ .ref (ad w k) :: st) (hsum : Nat.ble (st.map fun v => v.category).sum 8 = true) (hd : decode cc pc = .ok (.invokevirtual idx, 3)) (hp : pc + 3 = pc')
    (kk : ∀ s1, P s1 → X S w g Q pc' ls st s1) : X S w g Q pc ls stk σ := by
  obtain ⟨p, l, e, R, s, m, args, below, meth, c⟩ := g
  obtain ⟨hx, hb, hml, hown, hts, hR, hK, hr, hlk2, hinj, hst, hsr⟩ := hg
  intro H locs lsA hP hS hlv
  subst hp; subst hstk
  obtain ⟨hcode, hini, hC, hdd⟩ := hmi
  subst hC
  have cb : CallB R s args own idx y bytes maxL rt (.code y bytes maxL rt :: GT) (rm d2) 0 0 n := callB_of (Ts := GT) n hts (GT_good hcode) rfl rfl rfl (hts _ hini) (hts _ hlk) hdd (lg_room hR hR1 hR2)
  refine va_callv (A0 := FA S w) (va_runV (As := As) (rest := st) ⟨hx, hb, hml, hown, hts⟩ hM ⟨cb, hts _ hinst, hts _ hsel⟩ ⟨WP_blind, va_recv (D := dG w) (cl := vwCl) (tys := tys w) (ws := wsL S w σ) hK hP hc (obj_at hk h19), fun U hU hW => ⟨rfl, WP_end (A := FA S w) hP hS hK hinj hst hsr hU hW⟩⟩ rfl hn (hlv.1.trans hml) rfl (lv_room (Nat.le_of_ble_eq_true hsum)) hd ⟨Nat.zero_le _, Nat.zero_le _⟩) hS (fun q _ h => h) (fun q h => h) (fun u t H1 locs1 ht hvm hw hB hz hk1 hS1 => ?_)
  have hP1 := hB.1
  rw [ht] at hP1
  exact kk u hw H1 locs1 lsA hP1 hS1 hlv
theorem x_callSI (hg : OK S w g d cc own nL ret) {d2 idx n maxL : Nat} {bytes : ByteArray} {rt : Option FieldType} {y : MethodName} {C : String} {As stk : List Value} {P : Int32 → Sg → Prop} (hM : CI S w (gL g) d2 (.code y bytes maxL rt) y As σ P) (hstat : Cond.static y ∈ GT) (hmi : MI y bytes maxL rt n C) (hlk : Cond.methodLink own idx y ∈ GT) (hR1 : Nat.ble (d2 + 1) d = true) (hR2 : Nat.ble maxL 21 = true) (hn : As.length = n) (hstk : stk = As.reverse ++ st) (hsum : Nat.ble (st.map fun v => v.category).sum 8 = true) (hd : decode cc pc = .ok (.invokestatic idx, 3)) (hp : pc + 3 = pc')
    (kk : ∀ r s1, P r s1 → X S w g Q pc' ls (.int r :: st) s1) : X S w g Q pc ls stk σ := by
  obtain ⟨p, l, e, R, s, m, args, below, meth, c⟩ := g
  obtain ⟨hx, hb, hml, hown, hts, hR, hK, hr, hlk2, hinj, hst, hsr⟩ := hg
  intro H locs lsA hP hS hlv
  subst hp; subst hstk
  obtain ⟨hcode, hini, hC, hdd⟩ := hmi
  subst hC
  have cb : CallB R s args own idx y bytes maxL rt (.code y bytes maxL rt :: GT) (rm d2) 0 0 n := callB_of (Ts := GT) n hts (GT_good hcode) rfl rfl rfl (hts _ hini) (hts _ hlk) hdd (lg_room hR hR1 hR2)
  refine va_calli (A0 := FA S w) (va_runS (As := As) (rest := st) ⟨hx, hb, hml, hown, hts⟩ hM ⟨cb, hts _ hstat⟩ ⟨WP_blind, fun U hU hW => ⟨rfl, WP_end (A := FA S w) hP hS hK hinj hst hsr hU hW⟩⟩ rfl hn (hlv.1.trans hml) rfl (lv_room (Nat.le_of_ble_eq_true hsum)) hd ⟨Nat.zero_le _, Nat.zero_le _⟩) hS (fun q _ h => h) (fun q h => h) (fun r u t H1 locs1 ht hvm hw hB hz hk1 hS1 => ?_)
  have hP1 := hB.1
  rw [ht] at hP1
  exact kk r u hw H1 locs1 lsA hP1 hS1 hlv
theorem x_callSV (hg : OK S w g d cc own nL ret) {d2 idx n maxL : Nat} {bytes : ByteArray} {rt : Option FieldType} {y : MethodName} {C : String} {As stk : List Value} {P : Sg → Prop} (hM : CV S w (gL g) d2 (.code y bytes maxL rt) y As σ P) (hstat : Cond.static y ∈ GT) (hmi : MI y bytes maxL rt n C) (hlk : Cond.methodLink own idx y ∈ GT) (hR1 : Nat.ble (d2 + 1) d = true) (hR2 : Nat.ble maxL 21 = true) (hn : As.length = n) (hstk : stk = As.reverse ++ st) (hsum : Nat.ble (st.map fun v => v.category).sum 8 = true) (hd : decode cc pc = .ok (.invokestatic idx, 3)) (hp : pc + 3 = pc')
    (kk : ∀ s1, P s1 → X S w g Q pc' ls st s1) : X S w g Q pc ls stk σ := by
  obtain ⟨p, l, e, R, s, m, args, below, meth, c⟩ := g
  obtain ⟨hx, hb, hml, hown, hts, hR, hK, hr, hlk2, hinj, hst, hsr⟩ := hg
  intro H locs lsA hP hS hlv
  subst hp; subst hstk
  obtain ⟨hcode, hini, hC, hdd⟩ := hmi
  subst hC
  have cb : CallB R s args own idx y bytes maxL rt (.code y bytes maxL rt :: GT) (rm d2) 0 0 n := callB_of (Ts := GT) n hts (GT_good hcode) rfl rfl rfl (hts _ hini) (hts _ hlk) hdd (lg_room hR hR1 hR2)
  refine va_callv (A0 := FA S w) (va_runS (As := As) (rest := st) ⟨hx, hb, hml, hown, hts⟩ hM ⟨cb, hts _ hstat⟩ ⟨WP_blind, fun U hU hW => ⟨rfl, WP_end (A := FA S w) hP hS hK hinj hst hsr hU hW⟩⟩ rfl hn (hlv.1.trans hml) rfl (lv_room (Nat.le_of_ble_eq_true hsum)) hd ⟨Nat.zero_le _, Nat.zero_le _⟩) hS (fun q _ h => h) (fun q h => h) (fun u t H1 locs1 ht hvm hw hB hz hk1 hS1 => ?_)
  have hP1 := hB.1
  rw [ht] at hP1
  exact kk u hw H1 locs1 lsA hP1 hS1 hlv
theorem x_callSR (hg : OK S w g d cc own nL ret) {d2 idx n maxL : Nat} {bytes : ByteArray} {rt : Option FieldType} {y : MethodName} {C : String} {As stk : List Value} {P : Int32 → Sg → Prop} (hM : CR S w (gL g) d2 (.code y bytes maxL rt) y As σ P) (hstat : Cond.static y ∈ GT) (hmi : MI y bytes maxL rt n C) (hlk : Cond.methodLink own idx y ∈ GT) (hR1 : Nat.ble (d2 + 1) d = true) (hR2 : Nat.ble maxL 21 = true) (hn : As.length = n) (hstk : stk = As.reverse ++ st) (hsum : Nat.ble (st.map fun v => v.category).sum 8 = true) (hd : decode cc pc = .ok (.invokestatic idx, 3)) (hp : pc + 3 = pc')
    (kk : ∀ x s1, P x s1 → X S w g Q pc' ls (.ref (sa w x) :: st) s1) : X S w g Q pc ls stk σ := by
  obtain ⟨p, l, e, R, s, m, args, below, meth, c⟩ := g
  obtain ⟨hx, hb, hml, hown, hts, hR, hK, hr, hlk2, hinj, hst, hsr⟩ := hg
  intro H locs lsA hP hS hlv
  subst hp; subst hstk
  obtain ⟨hcode, hini, hC, hdd⟩ := hmi
  subst hC
  have cb : CallB R s args own idx y bytes maxL rt (.code y bytes maxL rt :: GT) (rm d2) 0 0 n := callB_of (Ts := GT) n hts (GT_good hcode) rfl rfl rfl (hts _ hini) (hts _ hlk) hdd (lg_room hR hR1 hR2)
  refine va_callr (A0 := FA S w) (va_runS (As := As) (rest := st) ⟨hx, hb, hml, hown, hts⟩ hM ⟨cb, hts _ hstat⟩ ⟨WP_blind, fun U hU hW => ⟨rfl, WP_end (A := FA S w) hP hS hK hinj hst hsr hU hW⟩⟩ rfl hn (hlv.1.trans hml) rfl (lv_room (Nat.le_of_ble_eq_true hsum)) hd ⟨Nat.zero_le _, Nat.zero_le _⟩) hS (fun q _ h => h) (fun q h => h) (fun u a t H1 locs1 ht hvm hw hB hz hk1 hS1 => ?_)
  obtain ⟨rfl, hB⟩ := hB
  have hP1 := hB.1
  rw [ht] at hP1
  exact kk u.1 u.2 hw H1 locs1 lsA hP1 hS1 hlv
theorem x_callNI (hg : OK S w g d cc own nL ret) {host : String} {d2 idx n maxL : Nat} {bytes : ByteArray} {rt : Option FieldType} {y : MethodName} {C : String} {As stk : List Value} {P : Int32 → Sg → Prop} (hM : CI S w (gL g) d2 (.code y bytes maxL rt) y As σ P) (hstat : Cond.static y ∈ GT) (hmi : MI y bytes maxL rt n C) (hlk : ∀ (args : Array Value) (s : State), SR w s → (Cond.methodLinkNest own idx y host).before args s = true) (hR1 : Nat.ble (d2 + 1) d = true) (hR2 : Nat.ble maxL 21 = true) (hn : As.length = n) (hstk : stk = As.reverse ++ st) (hsum : Nat.ble (st.map fun v => v.category).sum 8 = true) (hd : decode cc pc = .ok (.invokestatic idx, 3)) (hp : pc + 3 = pc')
    (kk : ∀ r s1, P r s1 → X S w g Q pc' ls (.int r :: st) s1) : X S w g Q pc ls stk σ := by
  obtain ⟨p, l, e, R, s, m, args, below, meth, c⟩ := g
  obtain ⟨hx, hb, hml, hown, hts, hR, hK, hr, hlk2, hinj, hst, hsr⟩ := hg
  intro H locs lsA hP hS hlv
  subst hp; subst hstk
  obtain ⟨hcode, hini, hC, hdd⟩ := hmi
  subst hC
  have cw : va_CN R s args own idx y host bytes maxL rt (.code y bytes maxL rt :: GT) (rm d2) 0 0 n := va_cnB (Ts := GT) n hts (GT_good hcode) rfl rfl rfl (va_Nw.of (A := args) rfl (hlk args s hsr)) (hts _ hini) hdd (lg_room hR hR1 hR2)
  refine va_calli (A0 := FA S w) (va_runSN (As := As) (rest := st) ⟨hx, hb, hml, hown, hts⟩ hM ⟨cw, hts _ hstat, trivial⟩ ⟨WP_blind, fun U hU hW => ⟨rfl, WP_end (A := FA S w) hP hS hK hinj hst hsr hU hW⟩⟩ rfl hn (hlv.1.trans hml) rfl (lv_room (Nat.le_of_ble_eq_true hsum)) hd ⟨Nat.zero_le _, Nat.zero_le _⟩) hS (fun q _ h => h) (fun q h => h) (fun r u t H1 locs1 ht hvm hw hB hz hk1 hS1 => ?_)
  have hP1 := hB.1
  rw [ht] at hP1
  exact kk r u hw H1 locs1 lsA hP1 hS1 hlv
theorem x_callTI (hg : OK S w g d cc own nL ret) {d2 idx n maxL : Nat} {bytes : ByteArray} {rt : Option FieldType} {y : MethodName} {q : Int32} {As stk : List Value} {P : Int32 → Sg → Prop} (hM : CI S w (gL g) d2 (.code y bytes maxL rt) y (.ref (sa w q) :: As) σ P) (hq : vp_in q 10) (hinst : Cond.instanceMethod y ∈ GT) (hsel : Cond.selects "java/lang/String" y y ∈ GT) (hmi : MI y bytes maxL rt n "java/lang/String") (hlk : Cond.methodLink own idx y ∈ GT) (hR1 : Nat.ble (d2 + 1) d = true) (hR2 : Nat.ble maxL 21 = true) (hn : As.length = n) (hstk : stk = As.reverse ++ .ref (sa w q) :: st) (hsum : Nat.ble (st.map fun v => v.category).sum 8 = true) (hd : decode cc pc = .ok (.invokevirtual idx, 3)) (hp : pc + 3 = pc')
    (kk : ∀ r s1, P r s1 → X S w g Q pc' ls (.int r :: st) s1) : X S w g Q pc ls stk σ := by
  obtain ⟨p, l, e, R, s, m, args, below, meth, c⟩ := g
  obtain ⟨hx, hb, hml, hown, hts, hR, hK, hr, hlk2, hinj, hst, hsr⟩ := hg
  intro H locs lsA hP hS hlv
  subst hp; subst hstk
  obtain ⟨hcode, hini, hC, hdd⟩ := hmi
  rw [← hC] at hini
  have hlt : ix q < 10 := Nat.not_le.mp fun z => hq (Or.inr z)
  have cb : CallB R s args own idx y bytes maxL rt (.code y bytes maxL rt :: GT) (rm d2) 0 0 n := callB_of (Ts := GT) n hts (GT_good hcode) rfl rfl rfl (hts _ hini) (hts _ hlk) hdd (lg_room hR hR1 hR2)
  refine va_calli (A0 := FA S w) (va_runV (As := As) (rest := st) ⟨hx, hb, hml, hown, hts⟩ hM ⟨cb, hts _ hinst, hts _ hsel⟩ ⟨WP_blind, vk_recv hst.2.2.2 hlt hS, fun U hU hW => ⟨rfl, WP_end (A := FA S w) hP hS hK hinj hst hsr hU hW⟩⟩ rfl hn (hlv.1.trans hml) rfl (lv_room (Nat.le_of_ble_eq_true hsum)) hd ⟨Nat.zero_le _, Nat.zero_le _⟩) hS (fun q _ h => h) (fun q h => h) (fun r u t H1 locs1 ht hvm hw hB hz hk1 hS1 => ?_)
  have hP1 := hB.1
  rw [ht] at hP1
  exact kk r u hw H1 locs1 lsA hP1 hS1 hlv
theorem x_sval (hg : OK S w g d cc own nL ret) {idx : Nat} {q : Int32} (hq : vp_in q 10) (hl : Cond.fieldLink own idx "java/lang/String" "value" "[B" ∈ GT) (hd : decode cc pc = .ok (.getfield idx, 3)) (hp : pc + 3 = pc') (kk : X S w g Q pc' ls (.ref (sV w (ix q)) :: st) σ) : X S w g Q pc ls (.ref (sa w q) :: st) σ := by
  obtain ⟨p, l, e, R, s, m, args, below, meth, c⟩ := g
  obtain ⟨hx, hb, hml, hown, hts, hR, hK, hr, hlk2, hinj, hst, hsr⟩ := hg
  intro H locs lsA hP hS hlv
  subst hp
  have hlt : ix q < 10 := Nat.not_le.mp fun z => hq (Or.inr z)
  exact vk_getf hx hb (hst.2.2.2.1 _ hlt).2.2.1 hS hown (hts _ hl) (fun _ h => h) hd (kk H locs lsA hP hS hlv)
theorem x_scod (hg : OK S w g d cc own nL ret) {idx : Nat} {q : Int32} (hq : vp_in q 10) (hl : Cond.fieldLink own idx "java/lang/String" "coder" "B" ∈ GT) (hd : decode cc pc = .ok (.getfield idx, 3)) (hp : pc + 3 = pc') (kk : X S w g Q pc' ls (.int 0 :: st) σ) : X S w g Q pc ls (.ref (sa w q) :: st) σ := by
  obtain ⟨p, l, e, R, s, m, args, below, meth, c⟩ := g
  obtain ⟨hx, hb, hml, hown, hts, hR, hK, hr, hlk2, hinj, hst, hsr⟩ := hg
  intro H locs lsA hP hS hlv
  subst hp
  have hlt : ix q < 10 := Nat.not_le.mp fun z => hq (Or.inr z)
  exact vk_getf hx hb (hst.2.2.2.1 _ hlt).2.1 hS hown (hts _ hl) (fun _ h => h) hd (kk H locs lsA hP hS hlv)
theorem x_getsC (hg : OK S w g d cc own nL ret) {idx : Nat} (hl : Cond.fieldLink own idx "java/lang/String" "COMPACT_STRINGS" "Z" ∈ GT) (hd : decode cc pc = .ok (.getstatic idx, 3)) (hp : pc + 3 = pc') (kk : X S w g Q pc' ls (.int 1 :: st) σ) : X S w g Q pc ls st σ := by
  obtain ⟨p, l, e, R, s, m, args, below, meth, c⟩ := g
  obtain ⟨hx, hb, hml, hown, hts, hR, hK, hr, hlk2, hinj, hst, hsr⟩ := hg
  intro H locs lsA hP hS hlv
  subst hp
  exact va_gets hx hb hst.2.2.1 hS hown (hts _ hl) (fun _ h => h) hd (kk H locs lsA hP hS hlv)
theorem x_blen (hg : OK S w g d cc own nL ret) {q : Int32} (hq : vp_in q 10) (hd : decode cc pc = .ok (.arraylength, 1)) (hp : pc + 1 = pc') (kk : X S w g Q pc' ls (.int (nI (txN.getD (ix q) 0)) :: st) σ) : X S w g Q pc ls (.ref (sV w (ix q)) :: st) σ := by
  obtain ⟨p, l, e, R, s, m, args, below, meth, c⟩ := g
  obtain ⟨hx, hb, hml, hown, hts, hR, hK, hr, hlk2, hinj, hst, hsr⟩ := hg
  intro H locs lsA hP hS hlv
  subst hp
  have hlt : ix q < 10 := Nat.not_le.mp fun z => hq (Or.inr z)
  exact va_tlen hx hb (hst.2.2.2.1 _ hlt).2.2.2 hS rfl hd (kk H locs lsA hP hS hlv)
theorem x_bald (hg : OK S w g d cc own nL ret) {q i : Int32} {B : Prop} (hq : vp_in q 10) (hd : decode cc pc = .ok (.baload, 1)) (hp : pc + 1 = pc') (hw : vp_in i (txN.getD (ix q) 0) ∧ B) (kk : B → X S w g Q pc' ls (.int ((txB.getD (ix q) []).getD (ix i) 0) :: st) σ) : X S w g Q pc ls (.int i :: .ref (sV w (ix q)) :: st) σ := by
  have k9 := kk hw.2
  obtain ⟨p, l, e, R, s, m, args, below, meth, c⟩ := g
  obtain ⟨hx, hb, hml, hown, hts, hR, hK, hr, hlk2, hinj, hst, hsr⟩ := hg
  intro H locs lsA hP hS hlv
  subst hp
  have hlt : ix q < 10 := Nat.not_le.mp fun z => hq (Or.inr z)
  exact va_tb hx hb (hst.2.2.2.1 _ hlt).2.2.2 hS hw.1 rfl hd (k9 H locs lsA hP hS hlv)
theorem x_bret {P : Int32 → Sg → Prop} (hg : OK S w g d cc own nL (some .byte)) {v : Int32} (hd : decode cc pc = .ok (.ireturn, 1)) (hn : narrow .byte (.int v) = .int v) (hw : P v σ) : X S w g (QI S w g P) pc ls [.int v] σ := by
  obtain ⟨p, l, e, R, s, m, args, below, meth, c⟩ := g
  obtain ⟨hx, hb, hml, hown, hts, hR, hK, hr, hlk, hinj, hst, hsr⟩ := hg
  intro H locs lsA hP hS hlv
  exact W.zret hx hb hr hn (fun t ht hW => ⟨⟨v, σ, rfl, hw, WP_end (A := FA S w) hP hS hK hinj hst hsr ht hW⟩, hS.F ht⟩) hS.2.2 hd hlk
end CALLS
