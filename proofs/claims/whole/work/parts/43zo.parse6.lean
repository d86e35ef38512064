-- PURE: text, the reference reads on
section MS
variable {u : Nat} {tp : List Nat} {i op : Nat} {W : List Int32} {s : Sg} {P : Int32 → Sg → Prop}
theorem nm_dg {x : Nat} (h : dgt x) : nmN u x = none := by
  unfold nmN
  split
  · rw [if_neg (by omega), if_neg (by omega), if_neg (by omega)]
  · rw [if_neg (by omega), if_neg (by omega), if_neg (by omega)]
theorem m_atm {rc : Nat → List Int32 → Sg → (Int32 → Sg → Prop) → Prop} {e : PR} (hu : u < 2) (ht : tp.length ≤ 60) (hb : ∀ x ∈ tp, x ≤ 255) (c : TM s u tp i W op) (hi : i ≤ tp.length) (hW : W.length ≤ i) (h1 : ∀ cs, (atm u tp i e).2 = some cs → ∀ t, TM t u tp (atm u tp i e).1 (W ++ cs) op → tmF s t → P 0 t) (h0 : (atm u tp i e).2 = none → ∀ t, TX t u tp (atm u tp i e).1 op → tmF s t → P 0 t)
    (hE : (∀ cs, e.2 = some cs → ∀ t, TM t u tp e.1 (W ++ cs) op → tmF s t → P 0 t) → (e.2 = none → ∀ t, TX t u tp e.1 op → tmF s t → P 0 t) → ((bz tp i = 33 ∨ bz tp i = 40) → rc 6 [nI (bz tp i)] s (fun _ s3 => P 0 s3)) ∧ (¬ (bz tp i = 33 ∨ bz tp i = 40) → ∀ t, TX t u tp i op → tmF s t → P 0 t)) : wM_one rc s P := by
  unfold wM_one
  unfold atm at h1 h0
  refine m_look ht hb c.1 hi (m_nameOf hu (bz_cs hb i) c.1.2.2.2.1 ?_)
  by_cases q : dgt (bz tp i)
  · rw [if_pos q] at h1
    unfold nmV
    rw [nm_dg q]
    exact iT (by decide) (iF (sgF (c := 33) hb (by omega) (by omega)) (jF (sgF (c := 40) hb (by omega) (by omega)) (m_number ht hb c hi hW (fun _ t ct ft => h1 _ rfl t ct ft) (fun z => absurd q z))))
  · rw [if_neg q] at h1 h0
    unfold nmV
    cases en : nmN u (bz tp i) with
    | some j =>
      simp only [en] at h1
      obtain ⟨hj3, hx⟩ := nm_lt en
      obtain ⟨-, o1, o2⟩ := nm_ok j hj3
      have hlt : i < tp.length := bz_in (by omega)
      refine iF (nI_pos (by omega)) (fun s3 e3 => ?_)
      rw [c.1.1, nI_1] at e3
      subst e3
      exact m_stepM o1 o2 (TM_13 c rfl) (by omega) (fun t ct ft => h1 _ rfl t ct ((tmF_put (by omega)).trans ft))
    | none =>
      simp only [en] at h1 h0
      obtain ⟨k1, k2⟩ := hE h1 h0
      refine iT (by decide) ?_
      by_cases q3 : bz tp i = 33
      · have := k1 (Or.inl q3)
        refine iT (sgT (c := 33) hb (by omega) q3) ?_
        rw [bI_n (by omega)]
        exact this
      · refine iF (sgF (c := 33) hb (by omega) q3) ?_
        by_cases q4 : bz tp i = 40
        · have := k1 (Or.inr q4)
          refine jT (sgT (c := 40) hb (by omega) q4) ?_
          rw [bI_n (by omega)]
          exact this
        · exact jF (sgF (c := 40) hb (by omega) q4) (m_number ht hb c hi hW (fun z => absurd z q) (fun _ => k2 (by omega)))
theorem TX_13 (c : TX s u tp i op) {j : Nat} {v : Int32} (e : v = nI j) : TX (u2 s 0 13 v) u tp j op := ⟨TH_13 c.1 e, TN_put c.2 (by omega)⟩
theorem TX_14 (c : TX s u tp i op) {j : Nat} {v : Int32} (e : v = nI j) : TX (u2 s 0 14 v) u tp i j := ⟨TH_14 c.1 e, TN_put c.2 (by omega)⟩
theorem TM_14 (c : TM s u tp i W op) {j : Nat} {v : Int32} (e : v = nI j) : TM (u2 s 0 14 v) u tp i W j := ⟨TH_14 c.1 e, TW_put c.2 (by omega)⟩
theorem m_sg (hu : u < 2) (ht : tp.length ≤ 60) (hb : ∀ x ∈ tp, x ≤ 255) : ∀ o, o ≤ 5 → ∀ N : Nat, mSp u tp (5 - o) (fun s P => wGParse (N + 7 * o + 2) 5 [] s P) (sg u tp o) := by
  intro o
  induction o with
  | zero =>
    intro _ N s i W P c hi hW h1 h0
    show wM_one (wGParse (N + 7 * 0 + 1)) s P
    refine m_atm (e := (i, none)) hu ht hb c hi hW h1 h0 (fun _ g0 => ⟨fun _ => ?_, fun _ t ct ft => g0 rfl t ct ft⟩)
    show wM_opens (wGParse (N + 7 * 0)) (nI (bz tp i)) s (fun _ s3 => P 0 s3)
    unfold wM_opens
    rw [c.1.2.1]
    refine jT (by decide) (fun s1 e1 => ?_)
    subst e1
    exact g0 rfl _ ⟨TH_15 c.1, TN_put (TW_N c.2 (by omega)) (by omega)⟩ (tmF_put (by omega))
  | succ o ih =>
    intro ho N s i W P c hi hW h1 h0
    show wM_one (wGParse (N + 7 * (o + 1) + 1)) s P
    refine m_atm hu ht hb c hi hW h1 h0 (fun g1 g0 => ⟨fun q => ?_, fun q t ct ft => ?_⟩)
    · have hlt : i < tp.length := bz_in (by omega)
      show wM_opens (wGParse (N + 7 * (o + 1))) (nI (bz tp i)) s (fun _ s3 => P 0 s3)
      unfold wM_opens
      rw [c.1.2.1]
      refine jF (fun z => by have := nI_inj (a := 5 - (o + 1)) (b := 5) (by omega) (by omega) z; omega) (fun s1 e1 s2 e2 => ?_)
      have ea : nI (5 - (o + 1)) + 1 = nI (5 - o) := by rw [nI_1]; congr 1; omega
      have eb : nI (5 - o) - 1 = nI (5 - (o + 1)) := by rw [show (1 : Int32) = nI 1 from rfl, pk_sub (by omega)]; congr 1
      rw [ea] at e1
      have c1 : TM s1 u tp i W (5 - o) := by subst e1; exact TM_14 c rfl
      have f1 : tmF s s1 := by subst e1; exact tmF_put (by omega)
      rw [c1.1.1, nI_1] at e2
      have c2 : TM s2 u tp (i + 1) W (5 - o) := by subst e2; exact TM_13 c1 rfl
      have f2 : tmF s s2 := by subst e2; exact f1.trans (tmF_put (by omega))
      rcases q with q | q
      · rw [if_pos q] at g1 g0
        refine jT (by rw [q]; rfl) ?_
        obtain ⟨p1, p2, p3⟩ := sg_ok (u := u) (tp := tp) o (i + 1) hlt
        have hr := ih (by omega) (N + 5)
        rw [show N + 5 + 7 * o + 2 = N + 7 * (o + 1) by omega] at hr
        refine hr _ (i + 1) W _ c2 hlt (by omega) (fun cs e t ct ft => ?_) (fun e t ct ft => ?_)
        · obtain ⟨k1, -, -⟩ := p3 cs e
          have en : ngt (sg u tp o (i + 1)) = ((sg u tp o (i + 1)).1, some (cs ++ [-33])) := by unfold ngt; simp only [e]
          rw [en] at g1
          refine m_stepM (c := -33) (by decide +kernel) (by decide +kernel) ct (by simp; omega) (fun t2 ct2 ft2 s5 e5 => ?_)
          rw [ct2.1.2.1, eb] at e5
          subst e5
          exact g1 _ rfl _ (TM_14 (TM_as ct2) rfl) (((f2.trans ft).trans ft2).trans (tmF_put (by omega)))
        · have en : ngt (sg u tp o (i + 1)) = ((sg u tp o (i + 1)).1, none) := by unfold ngt; simp only [e]
          rw [en] at g0
          refine m_stepX ct (fun t2 ct2 ft2 s5 e5 => ?_)
          rw [ct2.1.2.1, eb] at e5
          subst e5
          exact g0 rfl _ (TX_14 ct2 rfl) (((f2.trans ft).trans ft2).trans (tmF_put (by omega)))
      · rw [if_neg (by omega), if_pos q] at g1 g0
        refine jF (by rw [q]; decide) ?_
        obtain ⟨p1, p2, p3⟩ := lev_ok (sg_ok (u := u) (tp := tp) o) 5 (i + 1) hlt
        have hr := m_lev ht hb (ih (by omega) N) (sg_ok o)
        rw [show N + 7 * o + 2 + 5 = N + 7 * (o + 1) by omega] at hr
        refine hr _ (i + 1) W _ c2 hlt (by omega) (fun cs e t ct ft => jT (bad0 ct) (m_look ht hb ct.1 p2 ?_)) (fun e t ct ft => jF (bad1 ct) (fun s4 e4 => ?_))
        · obtain ⟨k1, -, -⟩ := p3 cs e
          have hx := bz_cs hb (lev (sg u tp o) tp 5 (i + 1)).1
          refine ⟨fun z s5 e5 => ?_, fun z s5 e5 => ?_⟩
          · have z2 := (bI_eq (c := 41) hx (by omega)).mp z
            have en : brk tp (lev (sg u tp o) tp 5 (i + 1)) = ((lev (sg u tp o) tp 5 (i + 1)).1 + 1, some cs) := by unfold brk; simp only [e]; rw [if_pos z2]
            rw [en] at g1
            have c5 : TM s5 u tp (lev (sg u tp o) tp 5 (i + 1)).1 (W ++ cs) (5 - o) := by subst e5; exact ⟨TH_15 ct.1, TW_put ct.2 (by omega)⟩
            have f5 : tmF s s5 := by subst e5; exact (f2.trans ft).trans (tmF_put (by omega))
            refine iT (bad0 c5) (fun s6 e6 s7 e7 => ?_)
            rw [c5.1.1, nI_1] at e6
            have c6 : TM s6 u tp ((lev (sg u tp o) tp 5 (i + 1)).1 + 1) (W ++ cs) (5 - o) := by subst e6; exact TM_13 c5 rfl
            have f6 : tmF s s6 := by subst e6; exact f5.trans (tmF_put (by omega))
            rw [c6.1.2.1, eb] at e7
            subst e7
            exact g1 _ rfl _ (TM_14 c6 rfl) (f6.trans (tmF_put (by omega)))
          · have z2 : ¬ bz tp (lev (sg u tp o) tp 5 (i + 1)).1 = 41 := fun y => z ((bI_eq (c := 41) hx (by omega)).mpr y)
            have en : brk tp (lev (sg u tp o) tp 5 (i + 1)) = ((lev (sg u tp o) tp 5 (i + 1)).1, none) := by unfold brk; simp only [e]; rw [if_neg z2]
            rw [en] at g0
            have c5 : TX s5 u tp (lev (sg u tp o) tp 5 (i + 1)).1 (5 - o) := by subst e5; exact ⟨TH_15 ct.1, TN_put (TW_N ct.2 (by simp; omega)) (by omega)⟩
            have f5 : tmF s s5 := by subst e5; exact (f2.trans ft).trans (tmF_put (by omega))
            refine iF (bad1 c5) (fun s6 e6 s7 e7 => ?_)
            rw [c5.1.1, Int32.add_zero] at e6
            have c6 : TX s6 u tp (lev (sg u tp o) tp 5 (i + 1)).1 (5 - o) := by subst e6; exact TX_13 c5 rfl
            have f6 : tmF s s6 := by subst e6; exact f5.trans (tmF_put (by omega))
            rw [c6.1.2.1, eb] at e7
            subst e7
            exact g0 rfl _ (TX_14 c6 rfl) (f6.trans (tmF_put (by omega)))
        · have en : brk tp (lev (sg u tp o) tp 5 (i + 1)) = ((lev (sg u tp o) tp 5 (i + 1)).1, none) := by unfold brk; simp only [e]
          rw [en] at g0
          have c5 : TX s4 u tp (lev (sg u tp o) tp 5 (i + 1)).1 (5 - o) := by subst e4; exact ⟨TH_15 ct.1, TN_put ct.2 (by omega)⟩
          have f5 : tmF s s4 := by subst e4; exact (f2.trans ft).trans (tmF_put (by omega))
          refine iF (bad1 c5) (fun s6 e6 s7 e7 => ?_)
          rw [c5.1.1, Int32.add_zero] at e6
          have c6 : TX s6 u tp (lev (sg u tp o) tp 5 (i + 1)).1 (5 - o) := by subst e6; exact TX_13 c5 rfl
          have f6 : tmF s s6 := by subst e6; exact f5.trans (tmF_put (by omega))
          rw [c6.1.2.1, eb] at e7
          subst e7
          exact g0 rfl _ (TX_14 c6 rfl) (f6.trans (tmF_put (by omega)))
    · rw [if_neg (by omega), if_neg (by omega)] at g0
      exact g0 rfl t ct ft
theorem m_read (hu : u < 2) (ht : tp.length ≤ 60) (hb : ∀ x ∈ tp, x ≤ 255) (c : TM s u tp 0 [] 0) (h1 : ∀ cs, (rdT u tp).2 = some cs → ∀ t, TM t u tp (rdT u tp).1 cs 0 → tmF s t → P 0 t) (h0 : (rdT u tp).2 = none → ∀ t, TX t u tp (rdT u tp).1 0 → tmF s t → P 0 t) : wGParse 50 0 [] s P := by
  have hr := m_lev ht hb (m_sg hu ht hb 5 (by omega) 8) (sg_ok 5)
  exact hr s 0 [] P c (by omega) (by simp) (fun cs e t ct ft => h1 cs e t ct ft) h0
end MS
