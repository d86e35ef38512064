-- PURE: the plain calls
theorem cc1 : (-1000000000 : Int32) - (-1000000001) = nI 1 := by decide +kernel
theorem cc2 : (-1000000000 : Int32) - (-1000000002) = nI 2 := by decide +kernel
theorem cc3 : (-1000000000 : Int32) - (-1000000003) = nI 3 := by decide +kernel
theorem cc4 : (-1000000000 : Int32) - (-1000000004) = nI 4 := by decide +kernel
theorem cc5 : (-1000000000 : Int32) - (-1000000005) = nI 5 := by decide +kernel
theorem cc6 : (-1000000000 : Int32) - (-1000000006) = nI 6 := by decide +kernel
theorem nthing {a : Int32} {kn : Nat} (hk : kn ≤ 9) : (∃ t, t < kn ∧ a = nI t) ∨ ∀ t, t < kn → a ≠ nI t := by
  rcases i_in a (n := kn) (by omega) with h | ⟨-, h⟩
  · exact Or.inl h
  · exact Or.inr h
theorem eq_leave {a1 : Int32} {s t : Sg} (h : Rel s t) : wB_leave a1 s (fun r s => wM_leave a1 t (fun r2 t => r = r2 ∧ Rel s t)) := by
  obtain ⟨kn, th, L, pk, st, se, z, tp, wt, cd, v, c, m⟩ := id h.1
  have hk := v.1
  have hlen := VB_len v
  unfold wB_leave
  rcases nthing (a := a1) hk with ⟨x, hx, rfl⟩ | hn
  · refine p_knowsT c.1.1 (by omega) hx (les1 ?_)
    have bad : x ∉ L → pk ≠ some x → (¬ (-2 : Int32) = -2 → wBag_bringOut (nI x) s fun s3 => wM_leave (nI x) t fun r2 t => s3 3 1 = r2 ∧ Rel s3 t) ∧ ((-2 : Int32) = -2 → wB_failed (-1000000003) s fun r3 s3 => wM_leave (nI x) t fun r2 t => r3 = r2 ∧ Rel s3 t) := by
      intro q1 q2
      refine jT rfl (eq_err h cc3 (by omega) (by omega) (fun P hP => ?_))
      unfold wM_leave
      refine m_isThingT m.1.1 (by omega) hx (les1 ?_)
      exact m_where m v (by omega) (fun i hi => absurd (List.mem_of_getElem? hi) q1) (fun _ e => absurd e q2) (fun _ _ => jT rfl (m_error cc3 (by omega) (by omega) hP))
    refine c_where c v (by omega) (fun i hi => ?_) (fun q1 q2 => ?_) bad
    · -- it lies in the order
      have hil := (List.getElem?_eq_some_iff.mp hi).1
      have hxL : x ∈ L := List.mem_of_getElem? hi
      have hpx : pk ≠ some x := fun e => (v.2.2.1 x e).2 hxL
      refine jF (fun e => ?_) ?_
      · exact nn2 (by omega) e
      · unfold wBag_bringOut
        refine jF (fun e => hpx ((pkv_eq (by omega) (fun y hy => by have := (v.2.2.1 y hy).1; omega)).mp (c.1.2.1.symm.trans e))) ?_
        refine p_placeOf (l := L.map nI) c.2.1 (by rw [cp3]; simp; omega) cap9 (fun j hj _ => ?_) (fun hn => absurd ((mapmem v.2.1.2 hk (by omega)).mpr hxL) hn)
        have hj2 := (mapget v.2.1.2 hk (by omega)).mp hj
        have hij : j = i := nd_idx L v.2.1.1 _ _ _ hj2 hi
        subst hij
        refine p_removeAt c.2.1 (by rw [cp3]; simp; omega) cap9 (by simpa using hil) (fun s1 hs1 hf1 => ?_)
        unfold wM_leave
        refine m_isThingT m.1.1 (by omega) hx (les1 ?_)
        refine m_where m v (by omega) (fun i2 hi2 => ?_) (fun q _ => absurd hxL q) (fun q _ => absurd hxL q)
        have hij : i2 = j := nd_idx L v.2.1.1 _ _ _ hi2 hi
        subst hij
        refine jF (nn2 (by omega)) (jF (nn1 (by omega)) (m_goesFrom (l := L.map nI) m.2.1 (by simp; omega) (by simpa using hil) (fun t1 ht1 hg1 => ⟨hs1.1.trans ht1.1.symm, ?_⟩)))
        have em := er_map L i2
        rw [em] at hs1 ht1
        refine Rel_of h (fun a h1 h2 => hf1 a (by omega) (by omega)) (frO_M hg1) ⟨kn, th, L.eraseIdx i2, pk, st, se, z, tp, wt, cd, ?_, CB_order c hk (fun a _ _ h3 h4 => hf1 a (by omega) (by omega)) hs1, MB_order m hk hg1.2 ht1⟩
        obtain ⟨v1, ⟨v2, v3⟩, v4, v5⟩ := v
        exact ⟨v1, ⟨v2.sublist (List.eraseIdx_sublist L i2), fun y hy => v3 y ((List.eraseIdx_sublist L i2).mem hy)⟩, fun y hy => ⟨(v4 y hy).1, fun z => (v4 y hy).2 ((List.eraseIdx_sublist L i2).mem z)⟩, v5⟩
    · -- it is in the pocket
      refine jF (by decide) ?_
      unfold wBag_bringOut
      have e0 : s 1 3 = nI x := by rw [c.1.2.1, q2]; rfl
      refine jT e0 (fun s1 e1 => ?_)
      have hf1 : ∀ a, a ≠ 1 → s1 a = s a := fun a ha => by subst e1; exact u2_other ha
      have c1 : CB s1 1 kn th L none st se z tp wt cd := by subst e1; exact CB_pk (pk2 := none) c hk
      refine p_placeOf (l := L.map nI) c1.2.1 (by rw [cp3]; simp; omega) cap9 (fun j hj _ => absurd (List.mem_of_getElem? ((mapget v.2.1.2 hk (by omega)).mp hj)) q1) (fun _ => ?_)
      refine p_removeNo (l := L.map nI) c1.2.1 (by rw [cp3]; simp; omega) cap9 (fun i hi e => nn1 (by simp at hi; omega) e.symm) ?_
      unfold wM_leave
      refine m_isThingT m.1.1 (by omega) hx (les1 ?_)
      refine m_where m v (by omega) (fun i hi => absurd (List.mem_of_getElem? hi) q1) (fun _ _ => ?_) (fun _ e => absurd q2 e)
      refine jF (by decide) (jT rfl (fun t1 e2 => ⟨?_, ?_⟩))
      · rw [hf1 3 (by omega)]
        subst e2
        rw [u2_ne (by omega), c.2.1.1, m.2.1.1]
      · have m1 : MB (t1 1) kn th L none st se z tp wt cd := by subst e2; exact MB_pk (pk2 := none) m hk
        refine Rel_of h (fun a h1 h2 => hf1 a (by omega)) (frM1 (fun a ha => by subst e2; exact u2_other ha)) ⟨kn, th, L, none, st, se, z, tp, wt, cd, ?_, c1, m1⟩
        obtain ⟨v1, v2, v4, v5⟩ := v
        exact ⟨v1, v2, fun y hy => (by cases hy), v5⟩
  · refine p_knowsF c.1.1 (by omega) hn (les0 (eq_err h cc1 (by omega) (by omega) (fun P hP => ?_)))
    unfold wM_leave
    exact m_isThingF m.1.1 (by omega) hn (les0 (m_error cc1 (by omega) (by omega) hP))
