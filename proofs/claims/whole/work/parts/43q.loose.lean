-- PURE: loose
def zn (z : Int32) : Int32 := z * 1103515245 + 12345
def drI (z : Int32) : Int32 := (z.toUInt32 >>> ((8 : Int32).toUInt32 &&& Int32.toUInt32 31)).toInt32
def drN (z : Int32) : Nat := z.toBitVec.toNat / 2 ^ 8
theorem nI_self (x : Int32) : x = nI x.toBitVec.toNat := by
  apply Int32.toBitVec_inj.mp
  apply BitVec.eq_of_toNat_eq
  simp [nI]
theorem drI_eq (z : Int32) : drI z = nI (drN z) := by
  unfold drI drN
  have h : z.toBitVec.toNat < 2 ^ 32 := z.toBitVec.isLt
  have := pk_ushrN (n := z.toBitVec.toNat) h (8 : Int32) 8 (by decide)
  rw [← nI_self z] at this
  exact this
theorem drN_lt (z : Int32) : drN z < 2 ^ 24 := by
  have h : z.toBitVec.toNat < 2 ^ 32 := z.toBitVec.isLt
  unfold drN
  omega
abbrev Par : Type := List Nat × Nat × Nat × Int32
/-- one doing by draws -/
def drw (kn : Nat) (th : Nat → Nat → Nat) (cd : Nat → List Int32) (pk : Option Nat) (p : Par) : Par :=
  if kn = 0 then (wlk th (drN (zn p.2.2.2) % 3 + 1) p.2.1 p.1, p.2.1 + (drN (zn p.2.2.2) % 3 + 1), p.2.2.1, zn p.2.2.2)
  else if drN (zn p.2.2.2) % kn ∈ p.1 ∨ pk = some (drN (zn p.2.2.2) % kn) then
    (wlk th (drN (zn (zn p.2.2.2)) % 3 + 1) p.2.1 (tkf p.1 (drN (zn p.2.2.2) % kn) (bsf th cd p.1 (drN (zn p.2.2.2) % kn))), p.2.1 + (drN (zn (zn p.2.2.2)) % 3 + 1), sef th cd p.1 (drN (zn p.2.2.2) % kn) (bsf th cd p.1 (drN (zn p.2.2.2) % kn)) p.2.2.1, zn (zn p.2.2.2))
  else (wlk th (drN (zn (zn p.2.2.2)) % 3 + 1) p.2.1 p.1, p.2.1 + (drN (zn (zn p.2.2.2)) % 3 + 1), p.2.2.1, zn (zn p.2.2.2))
def drs (kn : Nat) (th : Nat → Nat → Nat) (cd : Nat → List Int32) (pk : Option Nat) : Nat → Par → Par
  | 0, p => p
  | n + 1, p => drs kn th cd pk n (drw kn th cd pk p)
section LOO
variable {s t : Sg} {kn : Nat} {th : Nat → Nat → Nat} {L : List Nat} {pk : Option Nat} {st se : Nat} {z : Int32} {tp : List Nat} {wt : List Int32} {cd : Nat → List Int32}
theorem c_draw {P : Int32 → Sg → Prop} (hk : kn ≤ 9) (c : CB s 1 kn th L pk st se z tp wt cd) (h : ∀ t, CB t 1 kn th L pk st se (zn z) tp wt cd → frC s t → P (nI (drN (zn z))) t) : wBag_draw s P := by
  intro s1 e1
  rw [c.1.2.2.2.2] at e1
  have e6 : s1 1 6 = zn z := by subst e1; exact u2_same
  rw [e6]
  have := h s1 (by subst e1; exact CB_z c hk) (fun a h1 h2 => by subst e1; exact u2_other (by omega))
  rw [← drI_eq] at this
  exact this
theorem m_draw {P : Int32 → Sg → Prop} (hk : kn ≤ 9) (m : MB (s 1) kn th L pk st se z tp wt cd) (h : ∀ t, MB (t 1) kn th L pk st se (zn z) tp wt cd → frM s t → P (nI (drN (zn z))) t) : wM_draw s P := by
  intro s1 e1
  have e7 : s 1 7 = z := m.1.2.2.2.2
  rw [e7] at e1
  have e6 : s1 1 7 = zn z := by subst e1; exact u2_same
  rw [e6]
  have := h s1 (by subst e1; exact MB_z m hk) (frM1 (fun a ha => by subst e1; exact u2_other ha))
  rw [← drI_eq] at this
  exact this
theorem dr3 (z : Int32) : nI (drN z) - nI (drN z) / 3 * 3 + 1 = nI (drN z % 3 + 1) ∧ 1 + (nI (drN z) - nI (drN z) / 3 * 3) = nI (drN z % 3 + 1) := by
  have h := drN_lt z
  rw [show nI (drN z) - nI (drN z) / 3 * 3 = nI (drN z % 3) from pk_rem (d := 3) (by omega) (by omega) (by omega), nI_1, show (1 : Int32) = nI 1 from rfl, nI_add, Nat.add_comm 1]
  exact ⟨rfl, rfl⟩
theorem VB_drw (v : VB kn th L pk st se tp wt cd) (hst : st + 3 ≤ 9999) : VB kn th (drw kn th cd pk (L, st, se, z)).1 pk (drw kn th cd pk (L, st, se, z)).2.1 (drw kn th cd pk (L, st, se, z)).2.2.1 tp wt cd ∧ (drw kn th cd pk (L, st, se, z)).2.1 ≤ st + 3 := by
  unfold drw
  by_cases q0 : kn = 0
  · simp only [if_pos q0]
    exact ⟨VB_perm v (wlk_perm _ _ _) (by omega), by omega⟩
  · simp only [if_neg q0]
    by_cases q1 : drN (zn z) % kn ∈ L ∨ pk = some (drN (zn z) % kn)
    · simp only [if_pos q1]
      exact ⟨VB_perm (VB_se v sef_le) ((wlk_perm _ _ _).trans tkf_perm) (by omega), by omega⟩
    · simp only [if_neg q1]
      exact ⟨VB_perm v (wlk_perm _ _ _) (by omega), by omega⟩
theorem c_drw {K : Sg → Prop} (v : VB kn th L pk st se tp wt cd) (hst : st + 3 ≤ 9999) (c : CB s 1 kn th L pk st se z tp wt cd) (h : ∀ t, CB t 1 kn th (drw kn th cd pk (L, st, se, z)).1 pk (drw kn th cd pk (L, st, se, z)).2.1 (drw kn th cd pk (L, st, se, z)).2.2.1 (drw kn th cd pk (L, st, se, z)).2.2.2 tp wt cd → frC s t → K t) : wBag_goByDraws s K := by
  have hk := v.1
  unfold wBag_goByDraws
  rw [c.1.1]
  unfold drw at h
  by_cases q0 : kn = 0
  · simp only [if_pos q0] at h
    refine iT (by rw [q0]; decide) (c_draw hk c (fun s1 c1 f1 => ?_))
    rw [(dr3 (zn z)).1]
    exact c_walk v c1 (by omega) (fun s2 c2 f2 => h s2 c2 (f1.trans f2))
  · simp only [if_neg q0] at h
    refine iF (nI_nle (by omega) (by omega)) (c_draw hk c (fun s1 c1 f1 => ?_))
    have hr := drN_lt (zn z)
    rw [c1.1.1, show nI (drN (zn z)) - nI (drN (zn z)) / nI kn * nI kn = nI (drN (zn z) % kn) from pk_rem (by omega) (by omega) (by omega)]
    have hx : drN (zn z) % kn < kn := Nat.mod_lt _ (by omega)
    generalize drN (zn z) % kn = x at *
    refine ⟨nI_ne0 (by omega) (by omega), ?_⟩
    have hc := chere (A := fun s2 => wBag_bestWay (nI x) s2 (fun r3 s3 => wBag_take (nI x) r3 s3 (fun r4 s4 => wBag_draw s4 (fun r5 s5 => wBag_walk (r5 - r5 / 3 * 3 + 1) s5 (fun s6 => K s6))))) (B := fun s2 => wBag_draw s2 (fun r3 s3 => wBag_walk (r3 - r3 / 3 * 3 + 1) s3 (fun s4 => K s4))) v c1 hx (fun hxp => ?_) (fun n1 n2 => ?_)
    · unfold wBag_whereIs at hc ⊢
      refine p_mono_place hc
    · simp only [if_pos hxp] at h
      refine c_best v c1 hx (fun s2 k2 => ?_)
      have c2 := scr_CB hk c1 k2
      refine c_take v c2 hx hxp (fun s3 c3 f3 => c_draw hk c3 (fun s4 c4 f4 => ?_))
      rw [(dr3 _).1]
      exact c_walk (VB_perm (VB_se v sef_le) tkf_perm v.2.2.2.1) c4 (by omega) (fun s5 c5 f5 => h s5 c5 (((f1.trans (scr_frC k2)).trans (f3.trans f4)).trans f5))
    · simp only [if_neg (show ¬ (x ∈ L ∨ pk = some x) from fun e => by rcases e with e | e; exact n1 e; exact n2 e)] at h
      refine c_draw hk c1 (fun s2 c2 f2 => ?_)
      rw [(dr3 _).1]
      exact c_walk v c2 (by omega) (fun s3 c3 f3 => h s3 c3 ((f1.trans f2).trans f3))
end LOO
