-- PURE: the plain calls, on
theorem rng (a : Int32) (lo hi : Nat) (hh : hi < 2 ^ 31) : (∃ n : Nat, lo ≤ n ∧ n ≤ hi ∧ a = nI n) ∨ ¬ ((lo : Int) ≤ a.toInt ∧ a.toInt ≤ hi) := by
  by_cases h : (lo : Int) ≤ a.toInt ∧ a.toInt ≤ hi
  · refine Or.inl ⟨a.toInt.toNat, by omega, by omega, ?_⟩
    apply Int32.toInt_inj.mp
    rw [nI_toInt (by omega)]
    omega
  · exact Or.inr h
theorem m_inT {n lo hi : Nat} {s : Sg} {P : Int32 → Sg → Prop} (h1 : lo ≤ n) (h2 : n ≤ hi) (hh : hi < 2 ^ 31) (h : P 1 s) : wM_in (nI n) (nI lo) (nI hi) s P := by
  refine m_in (fun _ _ => h) (fun z => absurd ?_ z)
  rw [nI_toInt (by omega), nI_toInt (by omega), nI_toInt (by omega)]
  omega
theorem m_inF {a : Int32} {lo hi : Nat} {s : Sg} {P : Int32 → Sg → Prop} (hl : lo < 2 ^ 31) (hh : hi < 2 ^ 31) (hn : ¬ ((lo : Int) ≤ a.toInt ∧ a.toInt ≤ hi)) (h : P 0 s) : wM_in a (nI lo) (nI hi) s P := by
  refine m_in (fun z1 z2 => absurd ?_ hn) (fun _ => h)
  rw [nI_toInt (by omega)] at z1 z2
  omega
/-- below a length -/
theorem m_has {n : Nat} {a : Int32} {s : Sg} {P : Int32 → Sg → Prop} (hN : n < 2 ^ 30) (h1 : ∀ i, i < n → a = nI i → P 1 s) (h0 : (∀ i, i < n → a ≠ nI i) → P 0 s) : wM_in a 0 (nI n - 1) s P := by
  have e : (nI n - 1).toInt = (n : Int) - 1 := pk_sub_toInt (a := n) (b := 1) hN (by omega)
  refine m_in (fun z1 z2 => ?_) (fun z => h0 (fun i hi e2 => z ?_))
  · rw [e] at z2
    simp at z1
    refine h1 a.toInt.toNat (by omega) ?_
    apply Int32.toInt_inj.mp
    rw [nI_toInt (by omega)]
    omega
  · rw [e, e2, nI_toInt (by omega)]
    simp
    omega
theorem p_kmT {n : Nat} {s : Sg} {P : Int32 → Sg → Prop} (h : n ≤ 69) (k : P 1 s) : wB_isKindAndM (nI n) s P :=
  iF (nI_pos (by omega)) (iF (nI_ge (a := n) (b := 70) (by omega) (by omega)) k)
theorem p_kmF {a : Int32} {s : Sg} {P : Int32 → Sg → Prop} (h : ¬ (((0 : Nat) : Int) ≤ a.toInt ∧ a.toInt ≤ ((69 : Nat) : Int))) (k : P 0 s) : wB_isKindAndM a s P := by
  unfold wB_isKindAndM
  simp only [Int32.lt_iff_toInt_lt, Int32.le_iff_toInt_le, show (0 : Int32).toInt = 0 by decide, show (70 : Int32).toInt = 70 by decide]
  exact ⟨fun _ => k, fun z => ⟨fun _ => k, fun z2 => absurd ⟨by omega, by omega⟩ h⟩⟩
theorem m_kmT {n : Nat} {s : Sg} {P : Int32 → Sg → Prop} (h : n ≤ 69) (k : P 1 s) : wM_isKm (nI n) s P := m_inT (lo := 0) (hi := 69) (by omega) h (by omega) ⟨z11, k⟩
theorem m_kmF {a : Int32} {s : Sg} {P : Int32 → Sg → Prop} (h : ¬ (((0 : Nat) : Int) ≤ a.toInt ∧ a.toInt ≤ ((69 : Nat) : Int))) (k : P 0 s) : wM_isKm a s P := m_inF (lo := 0) (hi := 69) (by omega) (by omega) h ⟨z01, k⟩
theorem p_wtT {n : Nat} {s : Sg} {P : Int32 → Sg → Prop} (h : n ≤ 99) (k : P 1 s) : wB_isWeight (nI n) s P :=
  iF (nI_pos (by omega)) (iF (nI_nlt (a := 99) (b := n) (by omega) (by omega)) k)
theorem p_wtF {a : Int32} {s : Sg} {P : Int32 → Sg → Prop} (h : ¬ (((0 : Nat) : Int) ≤ a.toInt ∧ a.toInt ≤ ((99 : Nat) : Int))) (k : P 0 s) : wB_isWeight a s P := by
  unfold wB_isWeight
  simp only [Int32.lt_iff_toInt_lt, show (0 : Int32).toInt = 0 by decide, show (99 : Int32).toInt = 99 by decide]
  exact ⟨fun _ => k, fun z => ⟨fun _ => k, fun z2 => absurd ⟨by omega, by omega⟩ h⟩⟩
theorem m17 (x j : Nat) : (17 : Int32) + 4 * nI x + nI j = nI (17 + 4 * x + j) := by
  rw [show (17 : Int32) = nI 17 from rfl, show (4 : Int32) = nI 4 from rfl, pk_mul, nI_add, nI_add]
theorem t11 {x : Nat} (h : x < 2 ^ 31) : 11 + 1 * ix (nI x) = 1 + 10 + x := by rw [ixn h]; omega
theorem m_becomes {i : Nat} {v : Int32} {s : Sg} {P : Int32 → Sg → Prop} (hi : i < 379) (h : ∀ t, t = u2 s 1 i v → P (s 1 i) t) : wM_becomes (nI i) v s P := by
  unfold wM_becomes
  rw [ixn (by omega)]
  exact ⟨vp_in_nI hi (by omega), vp_in_nI hi (by omega), h⟩
theorem m_of {kn x j : Nat} {th : Nat → Nat → Nat} {L : List Nat} {pk : Option Nat} {st se : Nat} {z : Int32} {tp : List Nat} {wt : List Int32} {cd : Nat → List Int32} {s : Sg} {P : Int32 → Sg → Prop} (m : MB (s 1) kn th L pk st se z tp wt cd) (hk : kn ≤ 9) (hx : x < kn) (hj : j < 4) (h : P (nI (th x j)) s) : wM_of (nI x) (nI j) s P := by
  unfold wM_of
  rw [m17, ixn (by omega), m.2.2.2.2.1 x hx j hj]
  exact ⟨vp_in_nI (by omega) (by omega), h⟩
theorem eq_at {a1 : Int32} {s t : Sg} (h : Rel s t) : wB_at a1 s (fun r s => wM_at a1 t (fun r2 t => r = r2 ∧ Rel s t)) := by
  obtain ⟨kn, th, L, pk, st, se, z, tp, wt, cd, v, c, m⟩ := id h.1
  have hlen := VB_len v
  have hk := v.1
  unfold wB_at
  refine p_has c.2.1.1 (by simp; omega) (fun i hi e => les1 ?_) (fun hn => les0 (eq_err h cc1 (by omega) (by omega) (fun P hP => ?_)))
  · subst e
    simp at hi
    unfold wM_at
    rw [m.2.1.1]
    refine ⟨vp_in_nI (by omega) (by omega), ?_⟩
    refine m_has (by simp; omega) (fun j hj e2 => sel1 ?_) (fun hn => absurd rfl (hn i (by simpa using hi)))
    rw [m8, ixn (by omega), ixn (by omega)]
    refine ⟨vp_in_nI (by omega) (by omega), ?_, h⟩
    rw [show s 4 = s (1 + 3) from rfl, IL_at c.2.1 (by simpa using hi)]
    exact (IL_at m.2.1 (by simpa using hi)).symm
  · unfold wM_at
    rw [m.2.1.1]
    exact m_has (by simp; omega) (fun j hj e2 => absurd e2 (hn j hj)) (fun _ => sel0 (m_error cc1 (by omega) (by omega) hP))
theorem eq_stow {a1 : Int32} {s t : Sg} (h : Rel s t) : wB_stow a1 s (fun r s => wM_stow a1 t (fun r2 t => r = r2 ∧ Rel s t)) := by
  obtain ⟨kn, th, L, pk, st, se, z, tp, wt, cd, v, c, m⟩ := id h.1
  have hlen := VB_len v
  have hk := v.1
  unfold wB_stow
  rcases nthing (a := a1) hk with ⟨x, hx, rfl⟩ | hn
  · refine p_knowsT c.1.1 (by omega) hx (les1 ?_)
    have bad : ∀ r : Int32, r ≠ -2 → (x ∈ L ∨ pk = some x) → (r = (-2) → (wRow_addOnTop 3 (nI x) s (fun (s3 : Sg) => wM_stow (nI x) t (fun r2 t => s3 3 1 = r2 ∧ Rel s3 t)))) ∧ (¬ r = (-2) → (wB_failed ((-1000000003)) s (fun (r3 : Int32) (s3 : Sg) => wM_stow (nI x) t (fun r2 t => r3 = r2 ∧ Rel s3 t)))) := by
      intro r hr q
      refine iF hr (eq_err h cc3 (by omega) (by omega) (fun P hP => ?_))
      unfold wM_stow
      refine m_isThingT m.1.1 (by omega) hx (les1 ?_)
      refine m_where m v (by omega) (fun i hi => iF (nn2 (by have := (List.getElem?_eq_some_iff.mp hi).1; omega)) (m_error cc3 (by omega) (by omega) hP)) (fun _ _ => iF (by decide) (m_error cc3 (by omega) (by omega) hP)) (fun q1 q2 => ?_)
      rcases q with q | q
      · exact absurd q q1
      · exact absurd q q2
    refine c_where c v (by omega) (fun i hi => bad _ (nn2 (by have := (List.getElem?_eq_some_iff.mp hi).1; omega)) (Or.inl (List.mem_of_getElem? hi))) (fun _ q => bad _ (by decide) (Or.inr q)) (fun q1 q2 => ?_)
    have hlt : L.length < 9 := by
      have := List.Nodup.length_le_of_subset (l₁ := x :: L) (l₂ := List.range kn) (List.nodup_cons.mpr ⟨q1, v.2.1.1⟩) (fun y hy => by
        rcases List.mem_cons.mp hy with rfl | hy
        · exact List.mem_range.mpr hx
        · exact List.mem_range.mpr (v.2.1.2 y hy))
      simp at this
      omega
    refine iT rfl (p_addOnTop (l := L.map nI) c.2.1 (by rw [cp3]; simpa using hlt) cap9 (fun s1 hs1 hf1 => ?_))
    unfold wM_stow
    refine m_isThingT m.1.1 (by omega) hx (les1 ?_)
    refine m_where m v (by omega) (fun i hi => absurd (List.mem_of_getElem? hi) q1) (fun _ e => absurd e q2) (fun _ _ => iT rfl ?_)
    refine m_goesOnTop (l := L.map nI) m.2.1 (by simpa using hlt) (fun t1 ht1 hg1 => ⟨hs1.1.trans ht1.1.symm, ?_⟩)
    refine Rel_of h (fun a h1 h2 => hf1 a (by omega) (by omega)) (frO_M hg1) ⟨kn, th, x :: L, pk, st, se, z, tp, wt, cd, ?_, CB_order c hk (fun a _ _ h3 h4 => hf1 a (by omega) (by omega)) hs1, MB_order m hk hg1.2 ht1⟩
    obtain ⟨v1, ⟨v2, v3⟩, v4, v5⟩ := v
    refine ⟨v1, ⟨List.nodup_cons.mpr ⟨q1, v2⟩, fun y hy => ?_⟩, fun y hy => ⟨(v4 y hy).1, fun z => ?_⟩, v5⟩
    · rcases List.mem_cons.mp hy with rfl | hy
      · exact hx
      · exact v3 y hy
    · rcases List.mem_cons.mp z with rfl | z
      · exact q2 hy
      · exact (v4 y hy).2 z
  · refine p_knowsF c.1.1 (by omega) hn (les0 (eq_err h cc1 (by omega) (by omega) (fun P hP => ?_)))
    unfold wM_stow
    exact m_isThingF m.1.1 (by omega) hn (les0 (m_error cc1 (by omega) (by omega) hP))
theorem VB_th {kn : Nat} {th : Nat → Nat → Nat} {L : List Nat} {pk : Option Nat} {st se : Nat} {tp : List Nat} {wt : List Int32} {cd : Nat → List Int32} {x j n : Nat} (v : VB kn th L pk st se tp wt cd) (hj : (j = 0 ∧ n ≤ 6) ∨ (j = 1 ∧ n ≤ 9) ∨ (j = 2 ∧ n ≤ 99)) : VB kn (thU th x j n) L pk st se tp wt cd := by
  obtain ⟨v1, v2, v3, v4, v5, v6, v7, v8, v9⟩ := v
  refine ⟨v1, v2, v3, v4, v5, v6, v7, fun y hy => ?_, v9⟩
  have := v8 y hy
  unfold thU
  rcases hj with ⟨rfl, hn⟩ | ⟨rfl, hn⟩ | ⟨rfl, hn⟩ <;> by_cases q : y = x <;> simp [q] <;> subst_vars <;> omega
theorem eq_weigh {a1 a2 : Int32} {s t : Sg} (h : Rel s t) : wB_weigh a1 a2 s (fun r s => wM_weigh a1 a2 t (fun r2 t => r = r2 ∧ Rel s t)) := by
  obtain ⟨kn, th, L, pk, st, se, z, tp, wt, cd, v, c, m⟩ := id h.1
  have hlen := VB_len v
  have hk := v.1
  unfold wB_weigh
  rcases nthing (a := a1) hk with ⟨x, hx, rfl⟩ | hn
  · refine p_knowsT c.1.1 (by omega) hx (sel1 ?_)
    rcases rng a2 0 99 (by omega) with ⟨n, -, hn, rfl⟩ | hn
    · refine p_wtT hn (les1 ⟨vp_in_nI (by omega) (by omega), vp_in_nI (by omega) (by omega), fun s1 e1 => ?_⟩)
      unfold wM_weigh
      refine m_isThingT m.1.1 (by omega) hx (sel1 ?_)
      refine m_inT (lo := 0) (hi := 99) (by omega) hn (by omega) (sel1 ?_)
      rw [show ((17 : Int32) + 4 * nI x + 2) = nI (17 + 4 * x + 2) from m17 x 2]
      refine m_becomes (by omega) (fun t1 e2 => ⟨?_, ?_⟩)
      · rw [t11 (by omega), c.2.2.2.2.1 x hx 2 (by omega), m.2.2.2.2.1 x hx 2 (by omega)]
      · rw [t11 (by omega)] at e1
        subst e1; subst e2
        exact Rel_of h (fun a h1 h2 => u2_other (by omega)) (frM1 (fun a ha => u2_other ha)) ⟨kn, thU th x 2 n, L, pk, st, se, z, tp, wt, cd, VB_th v (Or.inr (Or.inr ⟨rfl, hn⟩)), CB_th c hk (by omega) (by omega), MB_th m hk (by omega) (by omega) (by omega)⟩
    · refine p_wtF hn (les0 (eq_err h cc1 (by omega) (by omega) (fun P hP => ?_)))
      unfold wM_weigh
      refine m_isThingT m.1.1 (by omega) hx (sel1 ?_)
      exact m_inF (lo := 0) (hi := 99) (by omega) (by omega) hn (sel0 (m_error cc1 (by omega) (by omega) hP))
  · refine p_knowsF c.1.1 (by omega) hn (sel0 (eq_err h cc1 (by omega) (by omega) (fun P hP => ?_)))
    unfold wM_weigh
    exact m_isThingF m.1.1 (by omega) hn (sel0 (m_error cc1 (by omega) (by omega) hP))
theorem d10 {n : Nat} (h : n < 2 ^ 31) : nI n / 10 = nI (n / 10) := pk_div (d := 10) h (by omega) (by omega)
theorem r10 {n : Nat} (h : n < 2 ^ 31) : nI n - nI n / 10 * 10 = nI (n % 10) := pk_rem (d := 10) h (by omega) (by omega)
theorem eq_become {a1 a2 : Int32} {s t : Sg} (h : Rel s t) : wB_become a1 a2 s (fun r s => wM_become a1 a2 t (fun r2 t => r = r2 ∧ Rel s t)) := by
  obtain ⟨kn, th, L, pk, st, se, z, tp, wt, cd, v, c, m⟩ := id h.1
  have hlen := VB_len v
  have hk := v.1
  unfold wB_become
  rcases nthing (a := a1) hk with ⟨x, hx, rfl⟩ | hn
  · refine p_knowsT c.1.1 (by omega) hx (sel1 ?_)
    rcases rng a2 0 69 (by omega) with ⟨n, -, hn, rfl⟩ | hn
    · refine p_kmT hn (les1 ⟨vp_in_nI (by omega) (by omega), fun s1 e1 s2 e2 => ?_⟩)
      unfold wM_become
      refine m_isThingT m.1.1 (by omega) hx (sel1 ?_)
      refine m_kmT hn (les1 ?_)
      rw [show ((17 : Int32) + 4 * nI x + 1) = nI (17 + 4 * x + 1) from m17 x 1, show ((17 : Int32) + 4 * nI x) = nI (17 + 4 * x + 0) by rw [show (17 : Int32) = nI 17 from rfl, show (4 : Int32) = nI 4 from rfl, pk_mul, nI_add]; rfl]
      refine ⟨vp_in_nI (by omega) (by omega), fun t1 f1 => m_becomes (by omega) (fun t2 f2 => ?_)⟩
      rw [ixn (by omega), r10 (by omega)] at f1
      rw [d10 (by omega)] at f2
      rw [t11 (by omega), d10 (by omega)] at e1
      rw [t11 (by omega), r10 (by omega)] at e2
      refine ⟨?_, ?_⟩
      · rw [t11 (by omega), c.2.2.2.2.1 x hx 0 (by omega)]
        subst f1
        rw [u2_ne (by omega), m.2.2.2.2.1 x hx 0 (by omega)]
      · subst e1; subst e2; subst f1; subst f2
        have c1 := CB_th (v := n / 10) (x := x) (j := 0) c hk (by omega) (by omega)
        have c2 := CB_th (v := n % 10) (x := x) (j := 1) c1 hk (by omega) (by omega)
        have m1 := MB_th (v := n % 10) (x := x) (j := 1) m hk (by omega) (by omega) (by omega)
        have m2 := MB_th (v := n / 10) (x := x) (j := 0) m1 hk (by omega) (by omega) (by omega)
        have ee : thU (thU th x 0 (n / 10)) x 1 (n % 10) = thU (thU th x 1 (n % 10)) x 0 (n / 10) := by
          funext a b
          unfold thU
          by_cases q1 : a = x ∧ b = 1
          · have : ¬ (a = x ∧ b = 0) := by omega
            rw [if_pos q1, if_neg this, if_pos q1]
          · rw [if_neg q1]
            by_cases q2 : a = x ∧ b = 0
            · rw [if_pos q2, if_pos q2]
            · rw [if_neg q2, if_neg q2, if_neg q1]
        rw [ee] at c2
        refine Rel_of h (fun a h1 h2 => (u2_other (by omega)).trans (u2_other (by omega))) (frM1 (fun a ha => (u2_other ha).trans (u2_other ha))) ⟨kn, _, L, pk, st, se, z, tp, wt, cd, VB_th (VB_th v (Or.inr (Or.inl ⟨rfl, by omega⟩))) (Or.inl ⟨rfl, by omega⟩), c2, m2⟩
    · refine p_kmF hn (les0 (eq_err h cc1 (by omega) (by omega) (fun P hP => ?_)))
      unfold wM_become
      refine m_isThingT m.1.1 (by omega) hx (sel1 ?_)
      exact m_kmF hn (les0 (m_error cc1 (by omega) (by omega) hP))
  · refine p_knowsF c.1.1 (by omega) hn (sel0 (eq_err h cc1 (by omega) (by omega) (fun P hP => ?_)))
    unfold wM_become
    exact m_isThingF m.1.1 (by omega) hn (sel0 (m_error cc1 (by omega) (by omega) hP))
theorem eq_seed {a1 : Int32} {s t : Sg} (h : Rel s t) : wB_seed a1 s (fun r s => wM_seed a1 t (fun r2 t => r = r2 ∧ Rel s t)) := by
  obtain ⟨kn, th, L, pk, st, se, z, tp, wt, cd, v, c, m⟩ := id h.1
  have hk := v.1
  intro s1 e1
  refine m_becomes (i := 7) (by omega) (fun t1 e2 => ⟨?_, ?_⟩)
  · rw [c.1.2.2.2.2, m.1.2.2.2.2]
  · subst e1; subst e2
    exact Rel_of h (fun a h1 h2 => u2_other (by omega)) (frM1 (fun a ha => u2_other ha)) ⟨kn, th, L, pk, st, se, a1, tp, wt, cd, v, CB_z c hk, MB_z m hk⟩
theorem eq_count {a1 : Int32} {s t : Sg} (h : Rel s t) : wB_count a1 s (fun r s => wM_count a1 t (fun r2 t => r = r2 ∧ Rel s t)) := by
  obtain ⟨kn, th, L, pk, st, se, z, tp, wt, cd, v, c, m⟩ := id h.1
  obtain ⟨-, -, -, -, tr⟩ := id h
  have go : ∀ {a : Int32} {A B A2 B2 : Prop}, (a1 = a → A2 → A) → (¬ a1 = a → B2 → B) → ((a1 = a → A2) ∧ (¬ a1 = a → B2)) → ((a1 = a → A) ∧ (¬ a1 = a → B)) := fun h1 h2 h3 => ⟨fun e => h1 e (h3.1 e), fun e => h2 e (h3.2 e)⟩
  unfold wB_count
  have e0 := c.1.1.trans m.1.1.symm
  have e1 := c.2.1.1.trans m.2.1.1.symm
  have e2 := c.1.2.2.1.trans m.1.2.2.1.symm
  have e3 := c.1.2.2.2.1.trans m.1.2.2.2.1.symm
  have e4 := c.1.2.1.trans m.1.2.1.symm
  have e5 := c.2.2.1.1.trans m.2.2.1.1.symm
  have e6 := c.2.2.2.1.1.trans m.2.2.2.1.1.symm
  have e7 := tr.1
  have e8 := c.1.2.2.2.2.trans m.1.2.2.2.2.symm
  refine ⟨fun q => ?_, fun q0 => ⟨fun q => ?_, fun q1 => ⟨fun q => ?_, fun q2 => ⟨fun q => ?_, fun q3 => ⟨fun q => ?_, fun q4 => ⟨fun q => ?_, fun q5 => ⟨fun q => ?_, fun q6 => ⟨fun q => ?_, fun q7 => ⟨fun q => ?_, fun q8 => ?_⟩⟩⟩⟩⟩⟩⟩⟩⟩
  · subst q; exact iT rfl ⟨e0, h⟩
  · subst q; exact iF q0 (iT rfl ⟨e1, h⟩)
  · subst q; exact iF q0 (iF q1 (iT rfl ⟨e2, h⟩))
  · subst q; exact iF q0 (iF q1 (iF q2 (iT rfl ⟨e3, h⟩)))
  · subst q; exact iF q0 (iF q1 (iF q2 (iF q3 (iT rfl ⟨e4, h⟩))))
  · subst q; exact iF q0 (iF q1 (iF q2 (iF q3 (iF q4 (iT rfl ⟨e5, h⟩)))))
  · subst q; exact iF q0 (iF q1 (iF q2 (iF q3 (iF q4 (iF q5 (iT rfl ⟨e6, h⟩))))))
  · subst q; exact iF q0 (iF q1 (iF q2 (iF q3 (iF q4 (iF q5 (iF q6 (iT rfl ⟨e7, h⟩)))))))
  · subst q; exact iF q0 (iF q1 (iF q2 (iF q3 (iF q4 (iF q5 (iF q6 (iF q7 (iT rfl ⟨e8, h⟩))))))))
  · exact eq_err h cc1 (by omega) (by omega) (fun P hP => iF q0 (iF q1 (iF q2 (iF q3 (iF q4 (iF q5 (iF q6 (iF q7 (iF q8 (m_error cc1 (by omega) (by omega) hP))))))))))
theorem eq_told {a1 : Int32} {s t : Sg} (h : Rel s t) : wB_told a1 s (fun r s => wM_told a1 t (fun r2 t => r = r2 ∧ Rel s t)) := by
  rcases rng a1 1 6 (by omega) with ⟨n, h1, h6, rfl⟩ | hn
  · refine iF (nI_nlt (a := n) (b := 1) h1 (by omega)) (iT (nI_le (b := 6) h6 (by omega)) ⟨vp_in_nI (by omega) (by omega), ?_⟩)
    unfold wM_told
    refine m_inT (lo := 1) (hi := 6) h1 h6 (by omega) (sel1 ⟨vp_in_nI (by omega) (by omega), ?_, h⟩)
    rw [ixn (by omega)]
    exact h.2.2.1 n h1 h6
  · have bad : wB_failed (-1000000001) s (fun r s => wM_told a1 t (fun r2 t => r = r2 ∧ Rel s t)) := eq_err h cc1 (by omega) (by omega) (fun P hP => m_inF (lo := 1) (hi := 6) (by omega) (by omega) hn (sel0 (m_error cc1 (by omega) (by omega) hP)))
    unfold wB_told
    simp only [Int32.lt_iff_toInt_lt, Int32.le_iff_toInt_le, show (1 : Int32).toInt = 1 by decide, show (6 : Int32).toInt = 6 by decide]
    exact ⟨fun _ => bad, fun z1 => ⟨fun z2 => absurd ⟨by omega, by omega⟩ hn, fun _ => bad⟩⟩
theorem eq_body {a1 : Int32} {s t : Sg} (h : Rel s t) : wB_body a1 s (fun r s => wM_body a1 t (fun r2 t => r = r2 ∧ Rel s t)) := by
  obtain ⟨-, -, -, -, tr⟩ := id h
  obtain ⟨e1, n, hn, e2, hv⟩ := tr
  unfold wB_body
  refine p_has (e1.trans e2) (by omega) (fun i hi e => les1 ⟨e ▸ vp_in_nI (by omega) (by omega), ?_⟩) (fun hz => les0 (eq_err h cc2 (by omega) (by omega) (fun P hP => ?_)))
  · unfold wM_body
    rw [e2]
    refine m_has (by omega) (fun j hj e3 => sel1 ⟨e ▸ vp_in_nI (by omega) (by omega), ?_, h⟩) (fun hz => absurd e (hz i hi))
    rw [e, ixn (by omega)]
    exact hv i hi
  · unfold wM_body
    rw [e2]
    exact m_has (by omega) (fun j hj e3 => absurd e3 (hz j hj)) (fun _ => sel0 (m_error cc2 (by omega) (by omega) hP))
