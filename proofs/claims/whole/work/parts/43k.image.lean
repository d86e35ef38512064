-- PURE: the reference's copies; image, restore, then, settles
theorem m_copyL {k0 k1 : Nat} {K : Sg → Prop} (hne : k0 ≠ k1) (s0 : Sg) (h : ∀ t, (∀ i, i < 379 → t k1 i = s0 k0 i) → (∀ a, a ≠ k1 → t a = s0 a) → K t) : ∀ (m i : Nat) (s : Sg), i + m = 379 → (∀ j, j < i → s k1 j = s0 k0 j) → (∀ a, a ≠ k1 → s a = s0 a) → wM_copyAll_2 k0 k1 K (m + 1) (nI i) s := by
  intro m
  induction m with
  | zero =>
    intro i s hi hv hf
    rw [wM_copyAll_2]
    exact iT (nI_le (a := 379) (by omega) (by omega)) (h s (fun j hj => hv j (by omega)) hf)
  | succ m ih =>
    intro i s hi hv hf
    rw [wM_copyAll_2]
    refine iF (nI_ge (b := 379) (by omega) (by omega)) ⟨vp_in_nI (by omega) (by omega), vp_in_nI (by omega) (by omega), fun s1 e1 => ?_⟩
    rw [ixn (by omega), hf k0 hne] at e1
    subst e1
    rw [nI_1]
    refine ih (i + 1) _ (by omega) (fun j hj => ?_) (fun a ha => (u2_other ha).trans (hf a ha))
    by_cases q : j = i
    · subst q; exact u2_same
    · rw [u2_ne (by omega)]; exact hv j (by omega)
theorem m_copyAll {k0 k1 : Nat} {s : Sg} {P : Sg → Prop} (hne : k0 ≠ k1) (h : ∀ t, (∀ i, i < 379 → t k1 i = s k0 i) → (∀ a, a ≠ k1 → t a = s a) → P t) : wM_copyAll k0 k1 s P :=
  ⟨380, m_copyL hne s h 379 0 s (by omega) (fun j hj => absurd hj (Nat.not_lt_zero j)) (fun _ _ => rfl)⟩
section IMG
variable {s t : Sg} {b kn : Nat} {th : Nat → Nat → Nat} {L : List Nat} {pk : Option Nat} {st se : Nat} {z : Int32} {tp : List Nat} {wt : List Int32} {cd : Nat → List Int32} {f g : Nat → Int32}
theorem MB_cut (v : VB kn th L pk st se tp wt cd) (m : MB f kn th L pk st se z tp wt cd) (h : ∀ i, i < 379 → g i = f i) : MB g kn th L pk st se z tp wt cd := by
  have hlen := VB_len v
  have hk := v.1
  have htp := v.2.2.2.2.2.1.1
  have hwt := v.2.2.2.2.2.2.1
  have hcd := v.2.2.2.2.2.2.2.2
  obtain ⟨⟨a1, a2, a3, a4, a5⟩, o, tpe, w, thg, tx⟩ := m
  refine ⟨?_, ?_, ?_, ?_, fun x hx j hj => ?_, fun y hy => ?_⟩
  · rw [h 2 (by omega), h 4 (by omega), h 0 (by omega), h 1 (by omega), h 7 (by omega)]; exact ⟨a1, a2, a3, a4, a5⟩
  · exact IL_congr o (h 3 (by omega)) (fun i hi => h (8 + i) (by simp at hi; omega))
  · exact IL_congr tpe (h 5 (by omega)) (fun i hi => h (53 + i) (by simp at hi; omega))
  · exact IL_congr w (h 6 (by omega)) (fun i hi => h (113 + i) (by omega))
  · rw [h _ (by omega)]; exact thg x hx j hj
  · refine ⟨by rw [h (137 + 121 * y) (by omega)]; exact (tx y hy).1, fun i c hc => ?_⟩
    have hi := (List.getElem?_eq_some_iff.mp hc).1
    have := (hcd y hy).1
    rw [h (138 + 121 * y + i) (by omega), h (198 + 121 * y + i) (by omega)]
    exact (tx y hy).2 i c hc
end IMG
theorem eq_image {s t : Sg} (h : Rel s t) : wB_image s (fun r s => wM_image t (fun r2 t => r = r2 ∧ Rel s t)) := by
  obtain ⟨hb, hi, he, hs, htr⟩ := id h
  obtain ⟨kn, th, L, pk, st, se, z, tp, wt, cd, v, c, m⟩ := hb
  unfold wB_image
  refine c_copyK v c (fun s1 c1 f1 s2 e2 => ?_)
  unfold wM_image
  refine m_copyAll (by omega) (fun t1 g1 h1 t2 e3 => ?_)
  have e0 : s1 0 2 = t1 0 3 := by rw [f1 0 (by omega), h1 0 (by omega)]; exact hi.1
  have fs : ∀ a, ¬ (32 ≤ a ∧ a < 63) → a ≠ 0 → s2 a = s a := fun a ha h0 => by subst e2; rw [u2_other h0]; exact f1 a ha
  have ft : ∀ a, a ≠ 0 → a ≠ 2 → t2 a = t a := fun a h0 h2 => by subst e3; rw [u2_other h0]; exact h1 a h2
  have x0 : s2 0 2 = t2 0 3 := by subst e2; subst e3; rw [u2_same, u2_same, e0]
  refine ⟨x0, ⟨kn, th, L, pk, st, se, z, tp, wt, cd, v, ?_, ?_⟩, ⟨x0, fun _ => ⟨kn, th, L, pk, st, se, z, tp, wt, cd, v, ?_, ?_⟩⟩, fun k q1 q2 => ?_, fun x hx => ?_, ?_⟩
  · exact CB_congr c v.1 (fun a q1 q2 => fs a (by omega) (by omega))
  · rw [ft 1 (by omega) (by omega)]; exact m
  · exact CB_congr c1 v.1 (fun a q1 q2 => by subst e2; exact u2_other (by omega))
  · refine MB_cut v m (fun i hi => ?_)
    subst e3
    rw [u2_ne (by omega)]
    exact g1 i hi
  · rw [fs 76 (by omega) (by omega), ft 4 (by omega) (by omega)]; exact he k q1 q2
  · rw [fs (77 + 3 * x) (by omega) (by omega), fs (78 + 3 * x) (by omega) (by omega), fs (79 + 3 * x) (by omega) (by omega), ft 5 (by omega) (by omega), ft 6 (by omega) (by omega), ft 7 (by omega) (by omega)]
    exact hs x hx
  · have e21 : t2 0 21 = t 0 21 := by subst e3; rw [u2_ne (by omega), h1 0 (by omega)]
    unfold TRR
    rw [fs 65 (by omega) (by omega), fs 66 (by omega) (by omega), e21, ft 14 (by omega) (by omega)]
    exact htr
theorem eq_restore {s t : Sg} (h : Rel s t) : wB_restore s (fun r s => wM_restore t (fun r2 t => r = r2 ∧ Rel s t)) := by
  obtain ⟨hb, hi, he, hs, htr⟩ := id h
  unfold wB_restore
  rw [hi.1]
  refine ⟨fun q => ?_, fun q => eq_err h cc2 (by omega) (by omega) (fun P hP => jT q (m_error cc2 (by omega) (by omega) hP))⟩
  obtain ⟨kn, th, L, pk, st, se, z, tp, wt, cd, v, c, m⟩ := hi.2 q
  refine c_copyB v c (fun s1 c1 f1 => ?_)
  unfold wM_restore
  refine jF q (m_copyAll (by omega) (fun t1 g1 h1 => ?_))
  have m1 : MB (t1 1) kn th L pk st se z tp wt cd := MB_cut v m g1
  exact ⟨c1.1.2.2.1.trans m1.1.2.2.1.symm, Rel_of h (fun a q1 q2 => f1 a (by omega)) (frM1 h1) ⟨kn, th, L, pk, st, se, z, tp, wt, cd, v, c1, m1⟩⟩
-- thought
theorem cp72 : cap 72 = 9 := by decide +kernel
section THO
variable {s t : Sg} {kn : Nat} {th : Nat → Nat → Nat} {L : List Nat} {pk : Option Nat} {st se : Nat} {z : Int32} {tp : List Nat} {wt : List Int32} {cd : Nat → List Int32}
/-- the bag is as it was but for the table of steps; all else outside the thought too -/
def thk (s t : Sg) : Prop := ∀ a, a ≠ 10 → ¬ (67 ≤ a ∧ a ≤ 75) → t a = s a
theorem thk_frC (h : thk s t) : frC s t := fun a h1 h2 => h a (by omega) h2
theorem thk_CB (hk : kn ≤ 9) (c : CB s 1 kn th L pk st se z tp wt cd) (h : thk s t) : CB t 1 kn th L pk st se z tp wt cd := by
  obtain ⟨⟨a1, a2, a3, a4, a5⟩, o, tpe, w, thg, tx⟩ := c
  refine ⟨?_, ?_, ?_, ?_, fun x hx j hj => ?_, fun u hu => ?_⟩
  · rw [h 1 (by omega) (by omega)]; exact ⟨a1, a2, a3, a4, a5⟩
  · rw [h (1 + 2) (by omega) (by omega), h (1 + 3) (by omega) (by omega)]; exact o
  · rw [h (1 + 4) (by omega) (by omega), h (1 + 5) (by omega) (by omega)]; exact tpe
  · rw [h (1 + 7) (by omega) (by omega), h (1 + 8) (by omega) (by omega)]; exact w
  · rw [h (1 + 10 + x) (by omega) (by omega)]; exact thg x hx j hj
  · rw [h (1 + 20 + 6 * u) (by omega) (by omega), h (1 + 21 + 6 * u) (by omega) (by omega)]; exact tx u hu
theorem thk_Rel (h : Rel s t) {s2 : Sg} (hf : thk s s2) : Rel s2 t := by
  obtain ⟨kn, th, L, pk, st, se, z, tp, wt, cd, v, c, m⟩ := id h.1
  exact Rel_of h (thk_frC hf) frM.refl ⟨kn, th, L, pk, st, se, z, tp, wt, cd, v, thk_CB v.1 c hf, m⟩
/-- thought steps -/
theorem c_thenL {x : Int32} {K : Sg → Prop} (v : VB kn th L pk st se tp wt cd) {N : Nat} (hN : N ≤ 100) (Lf : List Nat) (s0 : Sg) (c0 : CB s0 1 kn th L pk st se z tp wt cd) (h : ∀ t, RW t 72 (Lf.map nI) → thk s0 t → K t) : ∀ (m i : Nat) (l : List Nat) (s : Sg), i + m = N → l.length ≤ 9 → (∀ x ∈ l, x < kn) → LSn s kn th → thk s0 s → RW s 72 (l.map nI) → wlk th m (st + i) l = Lf → wThought_whereThen_18 x (nI N) K (m + 1) (nI i) s := by
  have hk := v.1
  have hst := v.2.2.2.1
  intro m
  induction m with
  | zero =>
    intro i l s hi hl hm hls hf hr e
    rw [wThought_whereThen_18]
    rw [wlk] at e
    subst e
    exact iT (nI_le (by omega) (by omega)) (h s hr hf)
  | succ m ih =>
    intro i l s hi hl hm hls hf hr e
    rw [wThought_whereThen_18]
    have c := thk_CB hk c0 hf
    refine iF (nI_ge (by omega) (by omega)) ?_
    rw [c.1.2.2.1, nI_add, nI_1]
    refine p_shake (k := 72) (l := l) (by rw [cp72]; omega) (by rw [cp72]; omega) hk ⟨by omega, by omega⟩ (by omega) hl hls hm hr (fun t1 ht1 hf1 => ?_)
    exact ih (i + 1) _ t1 (by omega) (by rw [stp_perm.length_eq]; exact hl) (fun x hx => hm x (stp_perm.mem_iff.mp hx)) (LS_congr hls (hf1 10 (by omega) (by omega))) (fun a h1 h2 => (hf1 a (by omega) (by omega)).trans (hf a h1 h2)) ht1 e
theorem c_then {x : Nat} {P : Int32 → Sg → Prop} (v : VB kn th L pk st se tp wt cd) (c : CB s 1 kn th L pk st se z tp wt cd) (hx : x < kn) {n : Nat} (hn : n ≤ 100) (h1 : ∀ i t, (wlk th n st L)[i]? = some x → thk s t → P (nI i) t) (h2 : ∀ t, x ∉ L → pk = some x → thk s t → P (-1) t) (h3 : ∀ t, x ∉ L → pk ≠ some x → thk s t → P (-2) t) : wThought_whereThen (nI x) (nI n) s P := by
  have hk := v.1
  have hlen := VB_len v
  unfold wThought_whereThen
  refine p_learn hk c (fun t1 hf1 hls => ?_)
  have c1 := CB_10 c hk hf1
  refine p_copy (k := 72) (k1 := 3) (l := L.map nI) c1.2.1 (by rw [cp72]; simp; omega) (by rw [cp3]; simp; omega) (by rw [cp72]; omega) (by omega) (fun t2 ht2 hf2 => ⟨n + 1, ?_⟩)
  have k2 : thk s t2 := fun a q1 q2 => (hf2 a (by omega) (by omega)).trans (hf1 a q1)
  refine c_thenL v hn (wlk th n st L) s c (fun t3 ht3 k3 => ?_) n 0 L t2 (by omega) (by omega) v.2.1.2 (LS_congr hls (hf2 10 (by omega) (by omega))) k2 ht2 rfl
  have hwm : ∀ y ∈ wlk th n st L, y < kn := fun y hy => v.2.1.2 y ((wlk_perm n st L).mem_iff.mp hy)
  have hwl : (wlk th n st L).length ≤ 9 := by rw [(wlk_perm n st L).length_eq]; omega
  refine p_placeOf (l := (wlk th n st L).map nI) ht3 (by rw [cp72]; simpa using hwl) (by rw [cp72]; omega) (fun i hi _ => ?_) (fun hno => ?_)
  · have hi2 := (mapget hwm hk (by omega)).mp hi
    have := (List.getElem?_eq_some_iff.mp hi2).1
    exact iF (nI_pos (by omega)) (h1 i t3 hi2 k3)
  · have hnL : x ∉ L := fun q => hno ((mapmem hwm hk (by omega)).mpr ((wlk_perm n st L).mem_iff.mpr q))
    refine iT (by decide) ?_
    exact c_where (thk_CB hk c k3) v (by omega) (fun i hi => absurd (List.mem_of_getElem? hi) hnL) (fun q1 q2 => h2 t3 q1 q2 k3) (fun q1 q2 => h3 t3 q1 q2 k3)
/-- the reference walks, looks and puts back -/
theorem m_thinks {P : Sg → Prop} (h : ∀ t, (∀ i, i < 379 → t 3 i = s 1 i) → (∀ a, a ≠ 3 → t a = s a) → P t) : wM_thinks s P := m_copyAll (by omega) h
theorem m_puts {P : Sg → Prop} {s0 : Sg} (h3 : ∀ i, i < 379 → s 3 i = s0 1 i) (hf : ∀ a, a ≠ 1 → a ≠ 3 → s a = s0 a) (h : ∀ t, (∀ i, i < 379 → t 1 i = s0 1 i) → (∀ a, a ≠ 1 → a ≠ 3 → t a = s0 a) → P t) : wM_putsBack s P :=
  m_copyAll (by omega) (fun t g1 g2 => h t (fun i hi => (g1 i hi).trans (h3 i hi)) (fun a h1 h2 => (g2 a h1).trans (hf a h1 h2)))
theorem put_Rel (h : Rel s t) {t2 : Sg} (h1 : ∀ i, i < 379 → t2 1 i = t 1 i) (hf : ∀ a, a ≠ 1 → a ≠ 3 → t2 a = t a) : Rel s t2 := by
  obtain ⟨kn, th, L, pk, st, se, z, tp, wt, cd, v, c, m⟩ := id h.1
  exact Rel_of h frC.refl ⟨⟨by rw [hf 0 (by omega) (by omega)], by rw [hf 0 (by omega) (by omega)]⟩, fun a ha => hf a (by intro e; subst e; simp at ha) (by intro e; subst e; simp at ha)⟩ ⟨kn, th, L, pk, st, se, z, tp, wt, cd, v, c, MB_cut v m h1⟩
end THO
theorem eq_then {a1 a2 : Int32} {s t : Sg} (h : Rel s t) : wB_then a1 a2 s (fun r s => wM_then a1 a2 t (fun r2 t => r = r2 ∧ Rel s t)) := by
  obtain ⟨kn, th, L, pk, st, se, z, tp, wt, cd, v, c, m⟩ := id h.1
  have hlen := VB_len v
  have hk := v.1
  have hst := v.2.2.2.1
  unfold wB_then
  rcases nthing (a := a1) hk with ⟨x, hx, rfl⟩ | hn
  · refine p_knowsT c.1.1 (by omega) hx (sel1 ?_)
    rcases rng a2 0 100 (by omega) with ⟨n, -, hn, rfl⟩ | hn
    · refine iF (nI_pos (by omega)) (iT (nI_le (b := 100) hn (by omega)) ?_)
      have mm : ∀ {P : Int32 → Sg → Prop}, (∀ i t1, (wlk th n st L)[i]? = some x → (∀ i, i < 379 → t1 1 i = t 1 i) → (∀ a, a ≠ 1 → a ≠ 3 → t1 a = t a) → P (nI i) t1) → (∀ t1, x ∉ L → pk = some x → (∀ i, i < 379 → t1 1 i = t 1 i) → (∀ a, a ≠ 1 → a ≠ 3 → t1 a = t a) → P (-1) t1) → (∀ t1, x ∉ L → pk ≠ some x → (∀ i, i < 379 → t1 1 i = t 1 i) → (∀ a, a ≠ 1 → a ≠ 3 → t1 a = t a) → P (-2) t1) → wM_then (nI x) (nI n) t P := by
        intro P q1 q2 q3
        unfold wM_then
        refine m_isThingT m.1.1 (by omega) hx (sel1 (m_inT (lo := 0) (hi := 100) (by omega) hn (by omega) (les1 ?_)))
        refine m_thinks (fun t1 g1 h1 => ?_)
        have mt1 : MB (t1 1) kn th L pk st se z tp wt cd := by rw [h1 1 (by omega)]; exact m
        refine m_steps hk (by omega) v.2.1.2 mt1 hn (fun t2 m2 h2 => ?_)
        have e3 : ∀ i, i < 379 → t2 3 i = t 1 i := fun i hi => by rw [h2 3 (by omega)]; exact g1 i hi
        have ef : ∀ a, a ≠ 1 → a ≠ 3 → t2 a = t a := fun a h1' h3 => (h2 a h1').trans (h1 a h3)
        have hp := wlk_perm (th := th) n st L
        have hwm : ∀ y ∈ wlk th n st L, y < kn := fun y hy => v.2.1.2 y (hp.mem_iff.mp hy)
        unfold wM_whereIs
        refine ⟨_, m_whereL (l := (wlk th n st L).map nI) (K := fun s1 => (¬ s1 1 4 = nI x → wM_putsBack s1 (fun s6 => P (-2) s6)) ∧ (s1 1 4 = nI x → wM_putsBack s1 (fun s6 => P (-1) s6))) m2.2.1 (by simp; rw [hp.length_eq]; omega) (fun i hi _ => m_puts e3 ef (fun t3 g3 f3 => q1 i t3 ((mapget hwm hk (by omega)).mp hi) g3 f3)) (fun hno => ?_) ((wlk th n st L).map nI).length 0 (by omega) (fun j hj => absurd hj (Nat.not_lt_zero j))⟩
        have hn2 : x ∉ L := fun q => hno ((mapmem hwm hk (by omega)).mpr (hp.mem_iff.mpr q))
        rw [m2.1.2.1]
        by_cases q : pk = some x
        · exact jT ((pkv_eq (by omega) (pkb v)).mpr q) (m_puts e3 ef (fun t3 g3 f3 => q2 t3 hn2 q g3 f3))
        · exact jF (fun e => q ((pkv_eq (by omega) (pkb v)).mp e)) (m_puts e3 ef (fun t3 g3 f3 => q3 t3 hn2 q g3 f3))
      have hnd : (wlk th n st L).Nodup := (wlk_perm n st L).nodup_iff.mpr v.2.1.1
      have hin : ∀ i, (wlk th n st L)[i]? = some x → x ∈ L := fun i hi => (wlk_perm n st L).mem_iff.mp (List.mem_of_getElem? hi)
      refine c_then v c hx hn (fun i s1 hi k1 => mm (fun j t1 hj g f => ⟨by rw [nd_idx _ hnd _ _ _ hi hj], put_Rel (thk_Rel h k1) g f⟩) (fun _ q _ _ _ => absurd (hin i hi) q) (fun _ q _ _ _ => absurd (hin i hi) q)) (fun s1 q1 q2 k1 => mm (fun j t1 hj g f => absurd (hin j hj) q1) (fun t1 _ _ g f => ⟨rfl, put_Rel (thk_Rel h k1) g f⟩) (fun _ _ q _ _ => absurd q2 q)) (fun s1 q1 q2 k1 => mm (fun j t1 hj g f => absurd (hin j hj) q1) (fun _ _ q _ _ => absurd q q2) (fun t1 _ _ g f => ⟨rfl, put_Rel (thk_Rel h k1) g f⟩))
    · have bad : wB_failed (-1000000001) s (fun r s => wM_then (nI x) a2 t (fun r2 t => r = r2 ∧ Rel s t)) := eq_err h cc1 (by omega) (by omega) (fun P hP => m_isThingT m.1.1 (by omega) hx (sel1 (m_inF (lo := 0) (hi := 100) (by omega) (by omega) hn (les0 (m_error cc1 (by omega) (by omega) hP)))))
      simp only [Int32.lt_iff_toInt_lt, Int32.le_iff_toInt_le, show (0 : Int32).toInt = 0 by decide, show (100 : Int32).toInt = 100 by decide]
      exact ⟨fun _ => bad, fun z1 => ⟨fun z2 => absurd ⟨by omega, by omega⟩ hn, fun _ => bad⟩⟩
  · refine p_knowsF c.1.1 (by omega) hn (sel0 (eq_err h cc1 (by omega) (by omega) (fun P hP => ?_)))
    unfold wM_then
    exact m_isThingF m.1.1 (by omega) hn (sel0 (m_error cc1 (by omega) (by omega) hP))
