-- PURE: things, tell, check, zip, untell
section TH
variable {s t : Sg} {b kn : Nat} {th : Nat → Nat → Nat} {L : List Nat} {pk : Option Nat} {st se : Nat} {z : Int32} {tp : List Nat} {wt : List Int32} {cd : Nat → List Int32} {f g : Nat → Int32}
def snkI (k m w z st : Int32) : Int32 := if k = 1 then w + m else if k = 2 then w / 2 else if k = 3 then w + 9 - z else if k = 4 then (if st - st / 2 * 2 = 0 then w + m else 0) else if k = 5 then w / 2 + (st - st / 3 * 3) else w
def flsI (k m z : Int32) : Int32 := if k = 1 then z / 2 else if k = 2 then z + m else if k = 4 then (if 4 ≤ z then z / 2 - 1 else 0) else if k = 5 then 2 * (z + m) else if k = 6 then m else z
abbrev snk (th : Nat → Nat → Nat) (x : Nat) (st : Int32) : Int32 := snkI (nI (th x 0)) (nI (th x 1)) (nI (th x 2)) (nI (th x 3)) st
abbrev fls (th : Nat → Nat → Nat) (x : Nat) : Int32 := flsI (nI (th x 0)) (nI (th x 1)) (nI (th x 3))
theorem p_sinks {x : Nat} {a : Int32} {P : Int32 → Sg → Prop} (c : CB s b kn th L pk st se z tp wt cd) (hx : x < kn) (h : P (snk th x a) s) : wThing_sinks (b + 10 + x) a s P := by
  unfold wThing_sinks
  rw [c.2.2.2.2.1 x hx 0 (by omega), c.2.2.2.2.1 x hx 1 (by omega), c.2.2.2.2.1 x hx 2 (by omega), c.2.2.2.2.1 x hx 3 (by omega)]
  unfold snk snkI at h
  generalize nI (th x 0) = k at *
  refine ⟨fun q => ?_, fun q1 => ⟨fun q => ?_, fun q2 => ⟨fun q => ?_, fun q3 => ⟨fun q => ⟨fun w => ?_, fun w => ?_⟩, fun q4 => ⟨fun q => ?_, fun q5 => ?_⟩⟩⟩⟩⟩
  · rw [if_pos q] at h; exact h
  · rw [if_neg q1, if_pos q] at h; exact h
  · rw [if_neg q1, if_neg q2, if_pos q] at h; exact h
  · rw [if_neg q1, if_neg q2, if_neg q3, if_pos q, if_neg w] at h; exact h
  · rw [if_neg q1, if_neg q2, if_neg q3, if_pos q, if_pos w] at h; exact h
  · rw [if_neg q1, if_neg q2, if_neg q3, if_neg q4, if_pos q] at h; exact h
  · rw [if_neg q1, if_neg q2, if_neg q3, if_neg q4, if_neg q5] at h; exact h
theorem m_sinks {x : Nat} {P : Int32 → Sg → Prop} (m : MB (s 1) kn th L pk st se z tp wt cd) (hk : kn ≤ 9) (hx : x < kn) (h : P (snk th x (nI st)) s) : wM_sinksOf (nI x) s P := by
  unfold wM_sinksOf
  refine m_of (j := 2) m hk hx (by omega) (m_of (j := 0) m hk hx (by omega) ?_)
  have e0 : s 1 0 = nI st := m.1.2.2.1
  rw [e0]
  unfold snk snkI at h
  have g1 : ∀ {P : Int32 → Sg → Prop}, P (nI (th x 1)) s → wM_of (nI x) 1 s P := fun z => m_of (j := 1) m hk hx (by omega) z
  have g3 : ∀ {P : Int32 → Sg → Prop}, P (nI (th x 3)) s → wM_of (nI x) 3 s P := fun z => m_of (j := 3) m hk hx (by omega) z
  generalize nI (th x 0) = k at *
  refine ⟨fun q => g1 ?_, fun q1 => ⟨fun q => ?_, fun q2 => ⟨fun q => g3 ?_, fun q3 => ⟨fun q => ⟨fun w => ?_, fun w => g1 ?_⟩, fun q4 => ⟨fun q => ?_, fun q5 => ?_⟩⟩⟩⟩⟩
  · rw [if_pos q] at h; exact h
  · rw [if_neg q1, if_pos q] at h; exact h
  · rw [if_neg q1, if_neg q2, if_pos q] at h; exact h
  · rw [if_neg q1, if_neg q2, if_neg q3, if_pos q, if_neg w] at h; exact h
  · rw [if_neg q1, if_neg q2, if_neg q3, if_pos q, if_pos w] at h; exact h
  · rw [if_neg q1, if_neg q2, if_neg q3, if_neg q4, if_pos q] at h; exact h
  · rw [if_neg q1, if_neg q2, if_neg q3, if_neg q4, if_neg q5] at h; exact h
theorem fl4 : ∀ n : Nat, n < 10 → (if 0 < (nI n / 2 - 1) then (nI n / 2 - 1) else 0) = (if 4 ≤ nI n then nI n / 2 - 1 else 0) := by decide +kernel
theorem p_feels {x : Nat} {P : Int32 → Sg → Prop} (c : CB s b kn th L pk st se z tp wt cd) (hx : x < kn) (h3 : th x 3 ≤ 9) (h : P (fls th x) s) : wThing_feels (b + 10 + x) s P := by
  unfold wThing_feels
  rw [c.2.2.2.2.1 x hx 0 (by omega), c.2.2.2.2.1 x hx 1 (by omega), c.2.2.2.2.1 x hx 3 (by omega)]
  unfold fls flsI at h
  rw [fl4 _ (by omega)]
  generalize nI (th x 0) = k at *
  refine ⟨fun q => ?_, fun q1 => ⟨fun q => ?_, fun q2 => ⟨fun q => ?_, fun q3 => ⟨fun q => ?_, fun q4 => ⟨fun q => ?_, fun q5 => ?_⟩⟩⟩⟩⟩
  · rw [if_pos q] at h; exact h
  · rw [if_neg q1, if_pos q] at h; exact h
  · rw [if_neg q1, if_neg q2, if_pos q] at h; exact h
  · rw [if_neg q1, if_neg q2, if_neg q3, if_pos q] at h; exact h
  · rw [if_neg q1, if_neg q2, if_neg q3, if_neg q4, if_pos q] at h; exact h
  · rw [if_neg q1, if_neg q2, if_neg q3, if_neg q4, if_neg q5] at h; exact h
theorem m_feels {x : Nat} {P : Int32 → Sg → Prop} (m : MB (s 1) kn th L pk st se z tp wt cd) (hk : kn ≤ 9) (hx : x < kn) (h : P (fls th x) s) : wM_feelsOf (nI x) s P := by
  unfold wM_feelsOf
  refine m_of (j := 3) m hk hx (by omega) (m_of (j := 1) m hk hx (by omega) (m_of (j := 0) m hk hx (by omega) ?_))
  unfold fls flsI at h
  generalize nI (th x 0) = k at *
  refine ⟨fun q => ?_, fun q1 => ⟨fun q => ?_, fun q2 => ⟨fun q => ⟨fun w => ?_, fun w => ?_⟩, fun q3 => ⟨fun q => ?_, fun q4 => ⟨fun q => ?_, fun q5 => ?_⟩⟩⟩⟩⟩
  · rw [if_pos q] at h; exact h
  · rw [if_neg q1, if_pos q] at h; exact h
  · rw [if_neg q1, if_neg q2, if_pos q, if_pos w] at h; exact h
  · rw [if_neg q1, if_neg q2, if_pos q, if_neg w] at h; exact h
  · rw [if_neg q1, if_neg q2, if_neg q3, if_pos q] at h; exact h
  · rw [if_neg q1, if_neg q2, if_neg q3, if_neg q4, if_pos q] at h; exact h
  · rw [if_neg q1, if_neg q2, if_neg q3, if_neg q4, if_neg q5] at h; exact h
end TH
theorem eq_thingIs {a1 a2 : Int32} {s t : Sg} (h : Rel s t) : wB_thingIs a1 a2 s (fun r s => wM_thingIs a1 a2 t (fun r2 t => r = r2 ∧ Rel s t)) := by
  obtain ⟨kn, th, L, pk, st, se, z, tp, wt, cd, v, c, m⟩ := id h.1
  have hlen := VB_len v
  have hk := v.1
  unfold wB_thingIs
  rcases nthing (a := a1) hk with ⟨x, hx, rfl⟩ | hn
  · have h8 := v.2.2.2.2.2.2.2.1 x hx
    refine p_knowsT c.1.1 (by omega) hx (les1 ⟨vp_in_nI (by omega) (by omega), ?_⟩)
    have mm : ∀ {n : Nat} {P : Int32 → Sg → Prop}, n ≤ 6 → (((4 ≤ nI n → ((¬ nI n = 4 → ((¬ nI n = 5 → (wM_feelsOf (nI x) t P)) ∧ (nI n = 5 → (wM_sinksOf (nI x) t P)))) ∧ (nI n = 4 → (wM_whereIs (nI x) t P)))) ∧ (¬ 4 ≤ nI n → (wM_of (nI x) (nI n) t P)))) → wM_thingIs (nI x) (nI n) t P := by
      intro n P hn q
      unfold wM_thingIs
      exact m_isThingT m.1.1 (by omega) hx (sel1 (m_inT (lo := 0) (hi := 6) (by omega) hn (by omega) (les1 q)))
    have pl : ∀ n : Nat, n < 4 → wM_thingIs (nI x) (nI n) t (fun r2 t => s ((11 + 1 * ix (nI x))) n = r2 ∧ Rel s t) := fun n hn => mm (by omega) (iF (nI_ge (b := 4) hn (by omega)) (m_of m hk hx hn ⟨by rw [t11 (by omega)]; exact c.2.2.2.2.1 x hx n hn, h⟩))
    rcases rng a2 0 6 (by omega) with ⟨n, -, hn, rfl⟩ | hn
    · rcases (show n = 0 ∨ n = 1 ∨ n = 2 ∨ n = 3 ∨ n = 4 ∨ n = 5 ∨ n = 6 by omega) with rfl | rfl | rfl | rfl | rfl | rfl | rfl
      · exact iT rfl (pl 0 (by omega))
      · exact iF (by decide) (iT rfl (pl 1 (by omega)))
      · exact iF (by decide) (iF (by decide) (iT rfl (pl 2 (by omega))))
      · exact iF (by decide) (iF (by decide) (iF (by decide) (iT rfl (pl 3 (by omega)))))
      · refine iF (by decide) (iF (by decide) (iF (by decide) (iF (by decide) (iT rfl ?_))))
        refine c_where c v (by omega) (fun i hi => mm (by omega) (iT (by decide) (jT rfl (m_where m v (by omega) (fun i2 hi2 => ⟨by rw [nd_idx L v.2.1.1 _ _ _ hi hi2], h⟩) (fun q _ => absurd (List.mem_of_getElem? hi) q) (fun q _ => absurd (List.mem_of_getElem? hi) q))))) (fun q1 q2 => mm (by omega) (iT (by decide) (jT rfl (m_where m v (by omega) (fun i2 hi2 => absurd (List.mem_of_getElem? hi2) q1) (fun _ _ => ⟨rfl, h⟩) (fun _ q => absurd q2 q))))) (fun q1 q2 => mm (by omega) (iT (by decide) (jT rfl (m_where m v (by omega) (fun i2 hi2 => absurd (List.mem_of_getElem? hi2) q1) (fun _ q => absurd q q2) (fun _ _ => ⟨rfl, h⟩)))))
      · refine iF (by decide) (iF (by decide) (iF (by decide) (iF (by decide) (iF (by decide) (iT rfl ?_)))))
        rw [t11 (by omega), c.1.2.2.1]
        exact p_sinks c hx (mm (by omega) (iT (by decide) (jF (by decide) (jT rfl (m_sinks m hk hx ⟨rfl, h⟩)))))
      · refine iF (by decide) (iF (by decide) (iF (by decide) (iF (by decide) (iF (by decide) (iF (by decide) (iT rfl ?_))))))
        rw [t11 (by omega)]
        exact p_feels c hx (by omega) (mm (by omega) (iT (by decide) (jF (by decide) (jF (by decide) (m_feels m hk hx ⟨rfl, h⟩)))))
    · have no : ∀ n : Nat, n ≤ 6 → ¬ a2 = nI n := fun n h6 e => hn (by subst e; rw [nI_toInt (by omega)]; omega)
      refine iF (no 0 (by omega)) (iF (no 1 (by omega)) (iF (no 2 (by omega)) (iF (no 3 (by omega)) (iF (no 4 (by omega)) (iF (no 5 (by omega)) (iF (no 6 (by omega)) (eq_err h cc1 (by omega) (by omega) (fun P hP => ?_))))))))
      unfold wM_thingIs
      exact m_isThingT m.1.1 (by omega) hx (sel1 (m_inF (lo := 0) (hi := 6) (by omega) (by omega) hn (les0 (m_error cc1 (by omega) (by omega) hP))))
  · refine p_knowsF c.1.1 (by omega) hn (les0 (eq_err h cc1 (by omega) (by omega) (fun P hP => ?_)))
    unfold wM_thingIs
    exact m_isThingF m.1.1 (by omega) hn (sel0 (m_error cc1 (by omega) (by omega) hP))
-- is a kind another?
def isK (k a : Nat) : Bool := a == 0 || a == k || (k == 4 && a == 1) || (k == 5 && a == 2)
theorem isOf_step {k i c a n : Nat} {s : Sg} {P : Int32 → Sg → Prop} {K : Sg → Prop} (hc : c < 7) (hi : i < 7) (ha : a < 7) (h1 : i = a → P 1 s) (h0 : i ≠ a → wThing_isOf_7 k (nI a) P K n (kaF i) (nI (c + 1)) s) : wThing_isOf_7 k (nI a) P K (n + 1) (nI i) (nI c) s := by
  rw [wThing_isOf_7]
  refine iF (nI_ge (b := 7) hc (by omega)) (iF (nI_pos (by omega)) ⟨fun q => ⟨vp_in_nI hi (by omega), ?_⟩, fun q => h1 (nI_inj (by omega) (by omega) q)⟩)
  rw [ixn (by omega), nI_1]
  exact h0 (fun e => q (by rw [e]))
theorem isOf_end {k c a n : Nat} {s : Sg} {P : Int32 → Sg → Prop} {K : Sg → Prop} (h : K s) : wThing_isOf_7 k (nI a) P K (n + 1) (-1) (nI c) s := by
  rw [wThing_isOf_7]
  exact ⟨fun _ => h, fun _ => iT (by decide) h⟩
theorem p_isOf {K k a : Nat} {s : Sg} {P : Int32 → Sg → Prop} (h0 : s K 0 = nI k) (hk : k ≤ 6) (ha : a ≤ 6) (h : P (if isK k a then 1 else 0) s) : wThing_isOf K (nI a) s P := by
  unfold wThing_isOf
  rw [h0]
  refine ⟨4, ?_⟩
  rcases (show k = 0 ∨ k = 1 ∨ k = 2 ∨ k = 3 ∨ k = 4 ∨ k = 5 ∨ k = 6 by omega) with rfl | rfl | rfl | rfl | rfl | rfl | rfl
  · refine isOf_step (c := 0) (by omega) (by omega) (by omega) (fun e => ?_) (fun e => isOf_end ?_)
    · subst e; exact h
    · rw [if_neg (by simp [isK]; omega)] at h; exact h
  · refine isOf_step (c := 0) (by omega) (by omega) (by omega) (fun e => ?_) (fun e => isOf_step (i := 0) (c := 1) (by omega) (by omega) (by omega) (fun e2 => ?_) (fun e2 => isOf_end ?_))
    · subst e; exact h
    · subst e2; exact h
    · rw [if_neg (by simp [isK]; omega)] at h; exact h
  · refine isOf_step (c := 0) (by omega) (by omega) (by omega) (fun e => ?_) (fun e => isOf_step (i := 0) (c := 1) (by omega) (by omega) (by omega) (fun e2 => ?_) (fun e2 => isOf_end ?_))
    · subst e; exact h
    · subst e2; exact h
    · rw [if_neg (by simp [isK]; omega)] at h; exact h
  · refine isOf_step (c := 0) (by omega) (by omega) (by omega) (fun e => ?_) (fun e => isOf_step (i := 0) (c := 1) (by omega) (by omega) (by omega) (fun e2 => ?_) (fun e2 => isOf_end ?_))
    · subst e; exact h
    · subst e2; exact h
    · rw [if_neg (by simp [isK]; omega)] at h; exact h
  · refine isOf_step (c := 0) (by omega) (by omega) (by omega) (fun e => ?_) (fun e => isOf_step (i := 1) (c := 1) (by omega) (by omega) (by omega) (fun e2 => ?_) (fun e2 => isOf_step (i := 0) (c := 2) (by omega) (by omega) (by omega) (fun e3 => ?_) (fun e3 => isOf_end ?_)))
    · subst e; exact h
    · subst e2; exact h
    · subst e3; exact h
    · rw [if_neg (by simp [isK]; omega)] at h; exact h
  · refine isOf_step (c := 0) (by omega) (by omega) (by omega) (fun e => ?_) (fun e => isOf_step (i := 2) (c := 1) (by omega) (by omega) (by omega) (fun e2 => ?_) (fun e2 => isOf_step (i := 0) (c := 2) (by omega) (by omega) (by omega) (fun e3 => ?_) (fun e3 => isOf_end ?_)))
    · subst e; exact h
    · subst e2; exact h
    · subst e3; exact h
    · rw [if_neg (by simp [isK]; omega)] at h; exact h
  · refine isOf_step (c := 0) (by omega) (by omega) (by omega) (fun e => ?_) (fun e => isOf_step (i := 0) (c := 1) (by omega) (by omega) (by omega) (fun e2 => ?_) (fun e2 => isOf_end ?_))
    · subst e; exact h
    · subst e2; exact h
    · rw [if_neg (by simp [isK]; omega)] at h; exact h
theorem eq_as {a1 a2 : Int32} {s t : Sg} (h : Rel s t) : wB_as a1 a2 s (fun r s => wM_as a1 a2 t (fun r2 t => r = r2 ∧ Rel s t)) := by
  obtain ⟨kn, th, L, pk, st, se, z, tp, wt, cd, v, c, m⟩ := id h.1
  have hlen := VB_len v
  have hk := v.1
  unfold wB_as
  rcases nthing (a := a1) hk with ⟨x, hx, rfl⟩ | hn
  · have h8 := v.2.2.2.2.2.2.2.1 x hx
    refine p_knowsT c.1.1 (by omega) hx (sel1 ?_)
    rcases rng a2 0 6 (by omega) with ⟨n, -, hn, rfl⟩ | hn
    · refine iF (nI_pos (by omega)) (iT (nI_lt (b := 7) (by omega) (by omega)) ⟨vp_in_nI (by omega) (by omega), ?_⟩)
      rw [t11 (by omega)]
      refine p_isOf (c.2.2.2.2.1 x hx 0 (by omega)) (by omega) hn ?_
      have ni : ∀ {i j : Nat}, i ≤ 6 → j ≤ 6 → i ≠ j → ¬ nI i = nI j := fun h1 h2 h3 e => h3 (nI_inj (by omega) (by omega) e)
      have ij : ∀ {i j : Nat}, i ≤ 6 → j ≤ 6 → nI i = nI j → i = j := fun h1 h2 e => nI_inj (by omega) (by omega) e
      by_cases q : isK (th x 0) n = true
      · rw [if_pos q]
        refine les1 ⟨vp_in_nI (by omega) (by omega), ?_⟩
        rw [c.2.2.2.2.1 x hx 1 (by omega)]
        unfold wM_as
        refine m_isThingT m.1.1 (by omega) hx (sel1 (m_inT (lo := 0) (hi := 6) (by omega) hn (by omega) (les1 (m_of (j := 0) m hk hx (by omega) ?_))))
        have g1 : wM_of (nI x) 1 t fun r4 s4 => nI (th x 1) = r4 ∧ Rel s s4 := m_of (j := 1) m hk hx (by omega) ⟨rfl, h⟩
        simp only [isK, Bool.or_eq_true, Bool.and_eq_true, beq_iff_eq] at q
        refine ⟨fun _ => g1, fun z0 => ⟨fun _ => g1, fun z1 => ⟨fun z2 => ⟨fun z3 => ?_, fun z3 => ⟨fun z4 => ?_, fun _ => g1⟩⟩, fun z2 => ⟨fun _ => g1, fun z3 => ?_⟩⟩⟩⟩
        · exfalso
          rcases q with ((rfl | rfl) | ⟨-, rfl⟩) | ⟨-, rfl⟩
          · exact z0 rfl
          · exact z1 rfl
          · exact z2 rfl
          · exact z3 rfl
        · exfalso
          rcases q with ((rfl | rfl) | ⟨-, rfl⟩) | ⟨e5, rfl⟩
          · exact z0 rfl
          · exact z1 rfl
          · exact z2 rfl
          · rw [e5] at z4; exact z4 rfl
        · exfalso
          rcases q with ((rfl | rfl) | ⟨e4, rfl⟩) | ⟨e5, rfl⟩
          · exact z0 rfl
          · exact z1 rfl
          · rw [e4] at z3; exact z3 rfl
          · exact absurd z2 (by decide)
      · rw [if_neg q]
        refine les0 (eq_err h cc5 (by omega) (by omega) (fun P hP => ?_))
        unfold wM_as
        refine m_isThingT m.1.1 (by omega) hx (sel1 (m_inT (lo := 0) (hi := 6) (by omega) hn (by omega) (les1 (m_of (j := 0) m hk hx (by omega) ?_))))
        have ee := m_error cc5 (s := t) (P := P) (by omega) (by omega) hP
        simp only [isK, Bool.or_eq_true, Bool.and_eq_true, beq_iff_eq, not_or, not_and] at q
        obtain ⟨⟨⟨q0, q1⟩, q2⟩, q3⟩ := q
        refine iF (ni (j := 0) hn (by omega) q0) (iF (ni hn (by omega) q1) ⟨fun z2 => ⟨fun _ => ee, fun z3 => ⟨fun _ => ee, fun z4 => ?_⟩⟩, fun z2 => ⟨fun z3 => ?_, fun z3 => ⟨fun _ => ee, fun z4 => ?_⟩⟩⟩)
        · exact absurd (ij (j := 2) hn (by omega) z3) (q3 (ij (j := 5) (by omega) (by omega) z4))
        · exact absurd (ij (j := 1) hn (by omega) z2) (q2 (ij (j := 4) (by omega) (by omega) z3))
        · exact absurd (z2.symm.trans z4) (by decide)
    · have bad : wB_failed (-1000000001) s (fun r s => wM_as (nI x) a2 t (fun r2 t => r = r2 ∧ Rel s t)) := eq_err h cc1 (by omega) (by omega) (fun P hP => m_isThingT m.1.1 (by omega) hx (sel1 (m_inF (lo := 0) (hi := 6) (by omega) (by omega) hn (les0 (m_error cc1 (by omega) (by omega) hP)))))
      simp only [Int32.lt_iff_toInt_lt, show (0 : Int32).toInt = 0 by decide, show (7 : Int32).toInt = 7 by decide]
      exact ⟨fun _ => bad, fun z1 => ⟨fun z2 => absurd ⟨by omega, by omega⟩ hn, fun _ => bad⟩⟩
  · refine p_knowsF c.1.1 (by omega) hn (sel0 (eq_err h cc1 (by omega) (by omega) (fun P hP => ?_)))
    unfold wM_as
    exact m_isThingF m.1.1 (by omega) hn (sel0 (m_error cc1 (by omega) (by omega) hP))
