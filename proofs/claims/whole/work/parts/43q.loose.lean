-- PURE: loose
def zn (z : Int32) : Int32 := z * 1103515245 + 12345
def drI (z : Int32) : Int32 := (z.toUInt32 >>> ((8 : Int32).toUInt32 &&& Int32.toUInt32 31)).toInt32
def drN (z : Int32) : Nat := z.toBitVec.toNat / 2 ^ 8
theorem nI_self (x : Int32) : x = nI x.toBitVec.toNat := by
  apply Int32.toBitVec_inj.mp
  apply BitVec.eq_of_toNat_eq
  simp [nI]
theorem drI_eq (z : Int32) : drI z = nI (drN z) := by
  unfold drI drN
  have h : z.toBitVec.toNat < 2 ^ 32 := z.toBitVec.isLt
  have := pk_ushrN (n := z.toBitVec.toNat) h (8 : Int32) 8 (by decide)
  rw [← nI_self z] at this
  exact this
theorem drN_lt (z : Int32) : drN z < 2 ^ 24 := by
  have h : z.toBitVec.toNat < 2 ^ 32 := z.toBitVec.isLt
  unfold drN
  omega
abbrev Par : Type := List Nat × Nat × Nat × Int32
/-- one doing by draws -/
def drw (kn : Nat) (th : Nat → Nat → Nat) (cd : Nat → List Int32) (pk : Option Nat) (p : Par) : Par :=
  if kn = 0 then (wlk th (drN (zn p.2.2.2) % 3 + 1) p.2.1 p.1, p.2.1 + (drN (zn p.2.2.2) % 3 + 1), p.2.2.1, zn p.2.2.2)
  else if drN (zn p.2.2.2) % kn ∈ p.1 ∨ pk = some (drN (zn p.2.2.2) % kn) then
    (wlk th (drN (zn (zn p.2.2.2)) % 3 + 1) p.2.1 (tkf p.1 (drN (zn p.2.2.2) % kn) (bsf th cd p.1 (drN (zn p.2.2.2) % kn))), p.2.1 + (drN (zn (zn p.2.2.2)) % 3 + 1), sef th cd p.1 (drN (zn p.2.2.2) % kn) (bsf th cd p.1 (drN (zn p.2.2.2) % kn)) p.2.2.1, zn (zn p.2.2.2))
  else (wlk th (drN (zn (zn p.2.2.2)) % 3 + 1) p.2.1 p.1, p.2.1 + (drN (zn (zn p.2.2.2)) % 3 + 1), p.2.2.1, zn (zn p.2.2.2))
def drs (kn : Nat) (th : Nat → Nat → Nat) (cd : Nat → List Int32) (pk : Option Nat) : Nat → Par → Par
  | 0, p => p
  | n + 1, p => drs kn th cd pk n (drw kn th cd pk p)
section LOO
variable {s t : Sg} {kn : Nat} {th : Nat → Nat → Nat} {L : List Nat} {pk : Option Nat} {st se : Nat} {z : Int32} {tp : List Nat} {wt : List Int32} {cd : Nat → List Int32}
theorem c_draw {P : Int32 → Sg → Prop} (hk : kn ≤ 9) (c : CB s 1 kn th L pk st se z tp wt cd) (h : ∀ t, CB t 1 kn th L pk st se (zn z) tp wt cd → frC s t → P (nI (drN (zn z))) t) : wBag_draw s P := by
  intro s1 e1
  rw [c.1.2.2.2.2] at e1
  have e6 : s1 1 6 = zn z := by subst e1; exact u2_same
  rw [e6]
  have := h s1 (by subst e1; exact CB_z c hk) (fun a h1 h2 => by subst e1; exact u2_other (by omega))
  rw [← drI_eq] at this
  exact this
theorem m_draw {P : Int32 → Sg → Prop} (hk : kn ≤ 9) (m : MB (s 1) kn th L pk st se z tp wt cd) (h : ∀ t, MB (t 1) kn th L pk st se (zn z) tp wt cd → frM s t → P (nI (drN (zn z))) t) : wM_draw s P := by
  intro s1 e1
  have e7 : s 1 7 = z := m.1.2.2.2.2
  rw [e7] at e1
  have e6 : s1 1 7 = zn z := by subst e1; exact u2_same
  rw [e6]
  have := h s1 (by subst e1; exact MB_z m hk) (frM1 (fun a ha => by subst e1; exact u2_other ha))
  rw [← drI_eq] at this
  exact this
theorem dr3 (z : Int32) : nI (drN z) - nI (drN z) / 3 * 3 + 1 = nI (drN z % 3 + 1) ∧ 1 + (nI (drN z) - nI (drN z) / 3 * 3) = nI (drN z % 3 + 1) := by
  have h := drN_lt z
  rw [show nI (drN z) - nI (drN z) / 3 * 3 = nI (drN z % 3) from pk_rem (d := 3) (by omega) (by omega) (by omega), nI_1, show (1 : Int32) = nI 1 from rfl, nI_add, Nat.add_comm 1]
  exact ⟨rfl, rfl⟩
theorem chere2 {x : Nat} {A B : Sg → Prop} (v : VB kn th L pk st se tp wt cd) (c : CB s 1 kn th L pk st se z tp wt cd) (hx : x < kn) (h1 : (x ∈ L ∨ pk = some x) → A s) (h0 : x ∉ L → pk ≠ some x → B s) : wBag_whereIs (nI x) s (fun r3 s3 => (r3 = -2 → B s3) ∧ (¬ r3 = -2 → A s3)) := by
  have hk := v.1
  have hlen := VB_len v
  exact c_where c v (by omega) (fun i hi => iF (nn2 (by have := (List.getElem?_eq_some_iff.mp hi).1; omega)) (h1 (Or.inl (List.mem_of_getElem? hi)))) (fun _ q => iF (by decide) (h1 (Or.inr q))) (fun q1 q2 => iT rfl (h0 q1 q2))
theorem mhere2 {x : Nat} {A B : Sg → Prop} (v : VB kn th L pk st se tp wt cd) (m : MB (t 1) kn th L pk st se z tp wt cd) (hx : x < kn) (h1 : (x ∈ L ∨ pk = some x) → A t) (h0 : x ∉ L → pk ≠ some x → B t) : wM_whereIs (nI x) t (fun r3 s3 => (r3 = -2 → B s3) ∧ (¬ r3 = -2 → A s3)) := by
  have hk := v.1
  have hlen := VB_len v
  exact m_where m v (by omega) (fun i hi => iF (nn2 (by have := (List.getElem?_eq_some_iff.mp hi).1; omega)) (h1 (Or.inl (List.mem_of_getElem? hi)))) (fun _ q => iF (by decide) (h1 (Or.inr q))) (fun q1 q2 => iT rfl (h0 q1 q2))
theorem VB_drw (v : VB kn th L pk st se tp wt cd) (hst : st + 3 ≤ 9999) : VB kn th (drw kn th cd pk (L, st, se, z)).1 pk (drw kn th cd pk (L, st, se, z)).2.1 (drw kn th cd pk (L, st, se, z)).2.2.1 tp wt cd ∧ (drw kn th cd pk (L, st, se, z)).2.1 ≤ st + 3 := by
  unfold drw
  by_cases q0 : kn = 0
  · simp only [if_pos q0]
    exact ⟨VB_perm v (wlk_perm _ _ _) (by omega), by omega⟩
  · simp only [if_neg q0]
    by_cases q1 : drN (zn z) % kn ∈ L ∨ pk = some (drN (zn z) % kn)
    · simp only [if_pos q1]
      exact ⟨VB_perm (VB_se v sef_le) ((wlk_perm _ _ _).trans tkf_perm) (by omega), by omega⟩
    · simp only [if_neg q1]
      exact ⟨VB_perm v (wlk_perm _ _ _) (by omega), by omega⟩
theorem c_drw {K : Sg → Prop} (v : VB kn th L pk st se tp wt cd) (hst : st + 3 ≤ 9999) (c : CB s 1 kn th L pk st se z tp wt cd) (h : ∀ t, CB t 1 kn th (drw kn th cd pk (L, st, se, z)).1 pk (drw kn th cd pk (L, st, se, z)).2.1 (drw kn th cd pk (L, st, se, z)).2.2.1 (drw kn th cd pk (L, st, se, z)).2.2.2 tp wt cd → frC s t → K t) : wBag_goByDraws s K := by
  have hk := v.1
  unfold wBag_goByDraws
  rw [c.1.1]
  unfold drw at h
  by_cases q0 : kn = 0
  · simp only [if_pos q0] at h
    refine iT (by rw [q0]; decide) (c_draw hk c (fun s1 c1 f1 => ?_))
    rw [(dr3 (zn z)).1]
    exact c_walk v c1 (by omega) (fun s2 c2 f2 => h s2 c2 (f1.trans f2))
  · simp only [if_neg q0] at h
    refine iF (nI_nle (by omega) (by omega)) (c_draw hk c (fun s1 c1 f1 => ?_))
    have hr := drN_lt (zn z)
    rw [c1.1.1, show nI (drN (zn z)) - nI (drN (zn z)) / nI kn * nI kn = nI (drN (zn z) % kn) from pk_rem (by omega) (by omega) (by omega)]
    have hx : drN (zn z) % kn < kn := Nat.mod_lt _ (by omega)
    generalize drN (zn z) % kn = x at *
    refine ⟨nI_ne0 (by omega) (by omega), ?_⟩
    refine chere2 v c1 hx (fun hxp => ?_) (fun n1 n2 => ?_)
    · simp only [if_pos hxp] at h
      refine c_best v c1 hx (fun s2 k2 => ?_)
      have c2 := scr_CB hk c1 k2
      refine c_take v c2 hx hxp (fun s3 c3 f3 => c_draw hk c3 (fun s4 c4 f4 => ?_))
      rw [(dr3 _).1]
      exact c_walk (VB_perm (VB_se v sef_le) tkf_perm v.2.2.2.1) c4 (by omega) (fun s5 c5 f5 => h s5 c5 (((f1.trans (scr_frC k2)).trans (f3.trans f4)).trans f5))
    · simp only [if_neg (show ¬ (x ∈ L ∨ pk = some x) from fun e => by rcases e with e | e; exact n1 e; exact n2 e)] at h
      refine c_draw hk c1 (fun s2 c2 f2 => ?_)
      rw [(dr3 _).1]
      exact c_walk v c2 (by omega) (fun s3 c3 f3 => h s3 c3 ((f1.trans f2).trans f3))
theorem m_drw {K : Sg → Prop} (v : VB kn th L pk st se tp wt cd) (hst : st + 3 ≤ 9999) (m : MB (s 1) kn th L pk st se z tp wt cd) (h : ∀ t, MB (t 1) kn th (drw kn th cd pk (L, st, se, z)).1 pk (drw kn th cd pk (L, st, se, z)).2.1 (drw kn th cd pk (L, st, se, z)).2.2.1 (drw kn th cd pk (L, st, se, z)).2.2.2 tp wt cd → frM s t → K t) : wM_drawn s K := by
  have hk := v.1
  have hlen := VB_len v
  unfold wM_drawn
  rw [m.1.1]
  unfold drw at h
  by_cases q0 : kn = 0
  · simp only [if_pos q0] at h
    refine iT (by rw [q0]; decide) (m_draw hk m (fun s1 m1 f1 => ?_))
    rw [(dr3 (zn z)).2]
    exact m_steps hk (by omega) v.2.1.2 m1 (by omega) (fun s2 m2 f2 => h s2 m2 (f1.trans (frM1 f2)))
  · simp only [if_neg q0] at h
    refine iF (nI_nle (by omega) (by omega)) (m_draw hk m (fun s1 m1 f1 => ?_))
    have hr := drN_lt (zn z)
    have e2 : s1 1 2 = nI kn := m1.1.1
    rw [e2, show nI (drN (zn z)) - nI (drN (zn z)) / nI kn * nI kn = nI (drN (zn z) % kn) from pk_rem (by omega) (by omega) (by omega)]
    have hx : drN (zn z) % kn < kn := Nat.mod_lt _ (by omega)
    generalize drN (zn z) % kn = x at *
    refine ⟨nI_ne0 (by omega) (by omega), iF (nI_pos (by omega)) ?_⟩
    refine mhere2 v m1 hx (fun hxp => ?_) (fun n1 n2 => ?_)
    · simp only [if_pos hxp] at h
      refine m_best v m1 hx hxp (fun s2 k2 => ?_)
      have m2 : MB (s2 1) kn th L pk st se (zn z) tp wt cd := by rw [k2.1]; exact m1
      refine m_taken v m2 hx hxp (bsw_in _) (fun s3 m3 f3 => m_draw hk m3 (fun s4 m4 f4 => ?_))
      rw [(dr3 _).2]
      exact m_steps hk (by rw [tkf_perm.length_eq]; omega) (fun y hy => v.2.1.2 y (tkf_perm.mem_iff.mp hy)) m4 (by omega) (fun s5 m5 f5 => h s5 m5 (((f1.trans k2.2).trans (f3.trans f4)).trans (frM1 f5)))
    · simp only [if_neg (show ¬ (x ∈ L ∨ pk = some x) from fun e => by rcases e with e | e; exact n1 e; exact n2 e)] at h
      refine m_draw hk m1 (fun s2 m2 f2 => ?_)
      rw [(dr3 _).2]
      exact m_steps hk (by omega) v.2.1.2 m2 (by omega) (fun s3 m3 f3 => h s3 m3 ((f1.trans f2).trans (frM1 f3)))
theorem c_looL {K : Sg → Prop} {N : Nat} (hN : N ≤ 20) (R : Par) (s0 : Sg) (h : ∀ t, CB t 1 kn th R.1 pk R.2.1 R.2.2.1 R.2.2.2 tp wt cd → frC s0 t → K t) : ∀ (m i : Nat) (L : List Nat) (st se : Nat) (z : Int32) (s : Sg), i + m = N → st + 3 * m ≤ 9999 → VB kn th L pk st se tp wt cd → CB s 1 kn th L pk st se z tp wt cd → frC s0 s → drs kn th cd pk m (L, st, se, z) = R → wB_loose_44 (nI N) K (m + 1) (nI i) s := by
  intro m
  induction m with
  | zero =>
    intro i L st se z s hi hs v c f e
    rw [wB_loose_44]
    rw [drs] at e
    subst e
    exact iT (nI_le (by omega) (by omega)) (h s c f)
  | succ m ih =>
    intro i L st se z s hi hs v c f e
    rw [wB_loose_44]
    have hv := VB_drw (z := z) v (by omega)
    refine iF (nI_ge (by omega) (by omega)) (c_drw v (by omega) c (fun t1 c1 f1 => ?_))
    rw [nI_1]
    rw [drs] at e
    exact ih (i + 1) _ _ _ _ t1 (by omega) (by have := hv.2; omega) hv.1 c1 (f.trans f1) e
theorem m_looL {K : Sg → Prop} {N : Nat} (hN : N ≤ 20) (R : Par) (s0 : Sg) (h : ∀ t, MB (t 1) kn th R.1 pk R.2.1 R.2.2.1 R.2.2.2 tp wt cd → frM s0 t → K t) : ∀ (m i : Nat) (L : List Nat) (st se : Nat) (z : Int32) (s : Sg), i + m = N → st + 3 * m ≤ 9999 → VB kn th L pk st se tp wt cd → MB (s 1) kn th L pk st se z tp wt cd → frM s0 s → drs kn th cd pk m (L, st, se, z) = R → wM_loose_42 (nI N) K (m + 1) (nI i) s := by
  intro m
  induction m with
  | zero =>
    intro i L st se z s hi hs v c f e
    rw [wM_loose_42]
    rw [drs] at e
    subst e
    exact iT (nI_le (by omega) (by omega)) (h s c f)
  | succ m ih =>
    intro i L st se z s hi hs v c f e
    rw [wM_loose_42]
    have hv := VB_drw (z := z) v (by omega)
    refine iF (nI_ge (by omega) (by omega)) (m_drw v (by omega) c (fun t1 c1 f1 => ?_))
    rw [nI_1]
    rw [drs] at e
    exact ih (i + 1) _ _ _ _ t1 (by omega) (by have := hv.2; omega) hv.1 c1 (f.trans f1) e
theorem VB_drs : ∀ (m : Nat) (L : List Nat) (st se : Nat) (z : Int32), st + 3 * m ≤ 9999 → VB kn th L pk st se tp wt cd → VB kn th (drs kn th cd pk m (L, st, se, z)).1 pk (drs kn th cd pk m (L, st, se, z)).2.1 (drs kn th cd pk m (L, st, se, z)).2.2.1 tp wt cd := by
  intro m
  induction m with
  | zero => intro L st se z _ v; exact v
  | succ m ih =>
    intro L st se z hs v
    have hv := VB_drw (z := z) v (by omega)
    exact ih (drw kn th cd pk (L, st, se, z)).1 (drw kn th cd pk (L, st, se, z)).2.1 (drw kn th cd pk (L, st, se, z)).2.2.1 (drw kn th cd pk (L, st, se, z)).2.2.2 (by have := hv.2; omega) hv.1
end LOO
theorem eq_loose {a1 : Int32} {s t : Sg} (h : Rel s t) : wB_loose a1 s (fun r s => wM_loose a1 t (fun r2 t => r = r2 ∧ Rel s t)) := by
  obtain ⟨kn, th, L, pk, st, se, z, tp, wt, cd, v, c, m⟩ := id h.1
  have hk := v.1
  have hst := v.2.2.2.1
  rcases rng a1 1 20 (by omega) with ⟨n, h1, h2, rfl⟩ | hn
  · have e3 : nI st + 3 * nI n = nI (st + 3 * n) := by rw [show (3 : Int32) = nI 3 from rfl, pk_mul, nI_add]
    unfold wB_loose
    rw [c.1.2.2.1, e3]
    refine iF (nI_nlt (a := n) (b := 1) h1 (by omega)) (iT (nI_le (b := 20) h2 (by omega)) ?_)
    have mm : ∀ {P : Int32 → Sg → Prop}, ((nI (st + 3 * n) ≤ 9999 → (∃ N1 : Nat, wM_loose_42 (nI n) (fun (s2 : Sg) => P ((s2 1 1)) s2) N1 0 t)) ∧ (¬ nI (st + 3 * n) ≤ 9999 → (wM_error ((-1000000003)) t (fun (r2 : Int32) (s2 : Sg) => P r2 s2)))) → wM_loose (nI n) t P := by
      intro P q
      unfold wM_loose
      refine m_inT (lo := 1) (hi := 20) h1 h2 (by omega) (les1 ?_)
      rw [m.1.2.2.1, e3]
      exact q
    refine ⟨fun q => ⟨n + 1, ?_⟩, fun q => eq_err h cc3 (by omega) (by omega) (fun P hP => mm (iF q (m_error cc3 (by omega) (by omega) hP)))⟩
    have hq : st + 3 * n ≤ 9999 := (nI_leI (b := 9999) (by omega) (by omega)).mp q
    refine c_looL h2 (drs kn th cd pk n (L, st, se, z)) s (fun s1 c1 f1 => mm (iT q ⟨n + 1, ?_⟩)) n 0 L st se z s (by omega) hq v c frC.refl rfl
    refine m_looL h2 (drs kn th cd pk n (L, st, se, z)) t (fun t1 m1 g1 => ⟨c1.1.2.2.2.1.trans m1.1.2.2.2.1.symm, ?_⟩) n 0 L st se z t (by omega) hq v m frM.refl rfl
    exact Rel_of h f1 g1 ⟨kn, th, _, pk, _, _, _, tp, wt, cd, VB_drs n L st se z hq v, c1, m1⟩
  · have bad : wB_failed (-1000000001) s (fun r s => wM_loose a1 t (fun r2 t => r = r2 ∧ Rel s t)) := eq_err h cc1 (by omega) (by omega) (fun P hP => m_inF (lo := 1) (hi := 20) (by omega) (by omega) hn (les0 (m_error cc1 (by omega) (by omega) hP)))
    unfold wB_loose
    simp only [Int32.lt_iff_toInt_lt, show (1 : Int32).toInt = 1 by decide]
    refine ⟨fun _ => bad, fun z1 => ⟨fun z2 => absurd ?_ hn, fun _ => bad⟩⟩
    rw [Int32.le_iff_toInt_le] at z2
    exact ⟨by omega, z2⟩
