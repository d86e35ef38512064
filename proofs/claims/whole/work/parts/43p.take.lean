-- PURE: takes
def rv (L : List Nat) (w : Int32) : List Nat := if w = 2 then L.reverse else L
theorem rv_perm {L : List Nat} {w : Int32} : (rv L w).Perm L := by
  unfold rv
  split
  · exact List.reverse_perm L
  · exact List.Perm.refl _
def tkf (L : List Nat) (x : Nat) (w : Int32) : List Nat := if x ∈ L then x :: (rv L w).eraseIdx (pos x (rv L w)) else L
theorem tkf_perm {L : List Nat} {x : Nat} {w : Int32} : (tkf L x w).Perm L := by
  unfold tkf
  split
  · rename_i h
    exact (pos_perm _ (rv_perm.mem_iff.mpr h)).trans rv_perm
  · exact List.Perm.refl _
def sef (th : Nat → Nat → Nat) (cd : Nat → List Int32) (L : List Nat) (x : Nat) (w : Int32) (se : Nat) : Nat := if se + (tmf th cd L x w).toInt.toNat < 99999 then se + (tmf th cd L x w).toInt.toNat else 99999
theorem sef_le {th : Nat → Nat → Nat} {cd : Nat → List Int32} {L : List Nat} {x : Nat} {w : Int32} {se : Nat} : sef th cd L x w se ≤ 99999 := by
  unfold sef
  split <;> omega
section TAK
variable {s t : Sg} {kn : Nat} {th : Nat → Nat → Nat} {L : List Nat} {pk : Option Nat} {st se : Nat} {z : Int32} {tp : List Nat} {wt : List Int32} {cd : Nat → List Int32}
theorem VB_se {se2 : Nat} (v : VB kn th L pk st se tp wt cd) (h : se2 ≤ 99999) : VB kn th L pk st se2 tp wt cd := by
  obtain ⟨v1, v2, v4, v5, v6, v7⟩ := v
  exact ⟨v1, v2, v4, v5, h, v7⟩
/-- to the top -/
theorem c_up {x : Nat} {l : List Nat} {K : Sg → Prop} (hk : kn ≤ 9) (hl : l.length ≤ 9) (hnd : l.Nodup) (hm : ∀ y ∈ l, y < kn) (hx : x ∈ l) (c : CB s 1 kn th l pk st se z tp wt cd) (h : ∀ t, CB t 1 kn th (x :: l.eraseIdx (pos x l)) pk st se z tp wt cd → fr2 s t 3 → K t) : wRow_placeOf 3 (nI x) s (fun r2 s3 => wRow_removeAt 3 r2 s3 (fun s4 => wRow_addOnTop 3 (nI x) s4 K)) := by
  have hxk := hm x hx
  refine p_placeOf (l := l.map nI) c.2.1 (by rw [cp3]; simpa using hl) cap9 (fun j hj _ => ?_) (fun hn => absurd ((mapmem hm hk (by omega)).mpr hx) hn)
  have hj2 := (mapget hm hk (by omega)).mp hj
  have hjl := (List.getElem?_eq_some_iff.mp hj2).1
  have hp : pos x l = j := nd_idx l hnd _ _ _ (pos_at l hx) hj2
  subst hp
  refine p_removeAt (l := l.map nI) c.2.1 (by rw [cp3]; simpa using hl) cap9 (by simpa using hjl) (fun s1 h1 f1 => ?_)
  rw [er_map] at h1
  refine p_addOnTop (l := (l.eraseIdx (pos x l)).map nI) h1 (by rw [cp3, List.length_map, List.length_eraseIdx, if_pos hjl]; omega) cap9 (fun s2 h2 f2 => h s2 ?_ (f1.trans f2))
  exact CB_order c hk (fun a _ _ h3 h4 => (f2 a (by omega) (by omega)).trans (f1 a (by omega) (by omega))) h2
theorem c_take {x : Nat} {w : Int32} {P : Int32 → Sg → Prop} (v : VB kn th L pk st se tp wt cd) (c : CB s 1 kn th L pk st se z tp wt cd) (hx : x < kn) (hxp : x ∈ L ∨ pk = some x) (h : ∀ t, CB t 1 kn th (tkf L x w) pk st (sef th cd L x w se) z tp wt cd → frC s t → P (tmf th cd L x w) t) : wBag_take (nI x) w s P := by
  have hk := v.1
  have hlen := VB_len v
  have hse := v.2.2.2.2.1
  obtain ⟨T, hT, eT⟩ := tmf_nat (th := th) (cd := cd) (L := L) (x := x) (w := w) (by omega)
  unfold wBag_take
  refine c_time v c hx (fun s1 k1 s2 e2 => ?_)
  have c1 := scr_CB hk c k1
  have es : sef th cd L x w se = if se + T < 99999 then se + T else 99999 := by unfold sef; rw [eT, nI_toInt (by omega)]; rfl
  have e5 : (if s1 1 5 + tmf th cd L x w < 99999 then s1 1 5 + tmf th cd L x w else 99999) = nI (sef th cd L x w se) := by
    rw [c1.1.2.2.2.1, eT, nI_add, es]
    by_cases q : se + T < 99999
    · rw [if_pos q, if_pos (show nI (se + T) < (99999 : Int32) from nI_lt (b := 99999) q (by omega))]
    · rw [if_neg q, if_neg (show ¬ nI (se + T) < (99999 : Int32) from nI_nlt (a := se + T) (b := 99999) (by omega) (by omega))]; rfl
  rw [e5] at e2
  have c2 : CB s2 1 kn th L pk st (sef th cd L x w se) z tp wt cd := by subst e2; exact CB_se c1 hk
  have f2 : frC s s2 := (scr_frC k1).trans (fun a h1 h2 => by subst e2; exact u2_other (by omega))
  rw [c2.1.2.1]
  refine ⟨fun q => ?_, fun q => ?_⟩
  · have hxL : x ∈ L := by
      rcases hxp with e | e
      · exact e
      · exact absurd ((pkv_eq (by omega) (pkb v)).mpr e) q
    have hfin : tkf L x w = x :: (rv L w).eraseIdx (pos x (rv L w)) := by unfold tkf; rw [if_pos hxL]
    rw [hfin] at h
    refine ⟨fun q2 => ?_, fun q2 => ?_⟩
    · have er : rv L w = L := by unfold rv; rw [if_neg q2]
      rw [er] at h
      exact c_up hk (by omega) v.2.1.1 v.2.1.2 hxL c2 (fun t ht hf => h t ht (f2.trans (fun a h1 h2 => hf a (by omega) (by omega))))
    · have er : rv L w = L.reverse := by unfold rv; rw [if_pos q2]
      rw [er] at h
      refine p_turn (a := 0) (l := L.map nI) c2.2.1 (by rw [cp3]; simp; omega) cap9 (by omega) (fun s3 h3 f3 => ?_)
      have e3 : tov (L.map nI) 0 = L.reverse.map nI := by simp [tov]
      rw [e3] at h3
      have c3 := CB_order c2 hk (fun a _ _ h3 h4 => f3 a (by omega) (by omega)) h3
      exact c_up hk (by simp; omega) ((List.reverse_perm L).nodup_iff.mpr v.2.1.1) (fun y hy => v.2.1.2 y (List.mem_reverse.mp hy)) (List.mem_reverse.mpr hxL) c3 (fun t ht hf => h t ht (f2.trans (fun a h1 h2 => (hf a (by omega) (by omega)).trans (f3 a (by omega) (by omega)))))
  · have hp := (pkv_eq (by omega) (pkb v)).mp q
    have hn : x ∉ L := (v.2.2.1 x hp).2
    have hfin : tkf L x w = L := by unfold tkf; rw [if_neg hn]
    rw [hfin] at h
    exact h s2 c2 f2
theorem m_turnL {n : Nat} {l : List Int32} {K : Sg → Prop} (hn : l.length = n) (h9 : n ≤ 9) (s0 : Sg) (h : ∀ t, t 1 3 = nI n → (∀ i, i < n → t 1 (8 + i) = l.getD (n - 1 - i) 0) → frO s0 t → K t) : ∀ (m k : Nat) (s : Sg), k + m = n / 2 → s 1 3 = nI n → (∀ i, i < n → s 1 (8 + i) = if i < k ∨ n - 1 - i < k then l.getD (n - 1 - i) 0 else l.getD i 0) → frO s0 s → wM_turnsOver_9 (nI n) K (m + 1) (nI k) s := by
  intro m
  induction m with
  | zero =>
    intro k s hk h3 hv hf
    rw [wM_turnsOver_9, show nI n / 2 = nI (n / 2) from pk_div (d := 2) (by omega) (by omega) (by omega)]
    refine iT (nI_le (by omega) (by omega)) (h s h3 (fun i hi => ?_) hf)
    rw [hv i hi]
    by_cases q : i < k ∨ n - 1 - i < k
    · rw [if_pos q]
    · rw [if_neg q, show n - 1 - i = i by omega]
  | succ m ih =>
    intro k s hk h3 hv hf
    have e8 : (8 : Int32) + nI n - 1 - nI k = nI (8 + (n - 1 - k)) := by
      rw [show (8 : Int32) = nI 8 from rfl, nI_add, show (1 : Int32) = nI 1 from rfl, pk_sub (by omega), pk_sub (by omega), show 8 + n - 1 - k = 8 + (n - 1 - k) by omega]
    rw [wM_turnsOver_9, show nI n / 2 = nI (n / 2) from pk_div (d := 2) (by omega) (by omega) (by omega), e8, m8, ixn (by omega), ixn (by omega), nI_1]
    refine iF (nI_ge (by omega) (by omega)) ⟨vp_in_nI (by omega) (by omega), vp_in_nI (by omega) (by omega), vp_in_nI (by omega) (by omega), fun s1 e1 => ⟨vp_in_nI (by omega) (by omega), fun s2 e2 => ?_⟩⟩
    have ha := hv k (by omega)
    have hb := hv (n - 1 - k) (by omega)
    rw [if_neg (by omega)] at ha hb
    refine ih (k + 1) s2 (by omega) (by subst e2; rw [u2_ne (by omega)]; subst e1; rw [u2_ne (by omega)]; exact h3) (fun i hi => ?_) (hf.trans ⟨fun a ha => by subst e2; rw [u2_other ha]; subst e1; rw [u2_other ha], fun i h1 h2 => by subst e2; rw [u2_ne (by omega)]; subst e1; rw [u2_ne (by omega)]⟩)
    by_cases q1 : i = n - 1 - k
    · subst q1
      subst e2
      rw [u2_same, ha, if_pos (by omega), show n - 1 - (n - 1 - k) = k by omega]
    · by_cases q2 : i = k
      · subst q2
        subst e2
        rw [u2_ne (by omega)]
        subst e1
        rw [u2_same, hb, if_pos (by omega)]
      · subst e2
        rw [u2_ne (by omega)]
        subst e1
        rw [u2_ne (by omega), hv i hi]
        by_cases q3 : i < k ∨ n - 1 - i < k
        · rw [if_pos q3, if_pos (by omega)]
        · rw [if_neg q3, if_neg (by omega)]
theorem m_turns {l : List Int32} {P : Sg → Prop} (hl : MO s l) (hc : l.length ≤ 9) (h : ∀ t, MO t l.reverse → frO s t → P t) : wM_turnsOver s P := by
  unfold wM_turnsOver
  rw [hl.1]
  refine ⟨l.length / 2 + 1, m_turnL (l := l) rfl hc s (fun t h3 hv hf => h t (IL_of (by rw [h3]; simp) (fun i hi => ?_)) hf) (l.length / 2) 0 s (by omega) hl.1 (fun i hi => ?_) frO.refl⟩
  · have hi2 : i < l.length := by simpa using hi
    rw [hv i hi2, List.getElem_reverse, List.getD_eq_getElem?_getD, List.getElem?_eq_getElem (show l.length - 1 - i < l.length by omega)]
    rfl
  · rw [if_neg (by omega), List.getD_eq_getElem?_getD, List.getElem?_eq_getElem hi]
    exact IL_at hl hi
theorem m_up {x : Nat} {l : List Nat} {K : Sg → Prop} (hk : kn ≤ 9) (hl : l.length ≤ 9) (hnd : l.Nodup) (hm : ∀ y ∈ l, y < kn) (hx : x ∈ l) (m : MB (s 1) kn th l pk st se z tp wt cd) (h : ∀ t, MB (t 1) kn th (x :: l.eraseIdx (pos x l)) pk st se z tp wt cd → (∀ a, a ≠ 1 → t a = s a) → K t) : wM_whereIs (nI x) s (fun r4 s5 => wM_goesFrom r4 s5 (fun s6 => wM_goesOnTop (nI x) s6 K)) := by
  have hxk := hm x hx
  unfold wM_whereIs
  refine ⟨_, m_whereL (l := l.map nI) (K := fun s1 => (¬ s1 1 4 = nI x → wM_goesFrom (-2) s1 (fun s6 => wM_goesOnTop (nI x) s6 K)) ∧ (s1 1 4 = nI x → wM_goesFrom (-1) s1 (fun s6 => wM_goesOnTop (nI x) s6 K))) m.2.1 (by simpa using hl) (fun j hj _ => ?_) (fun hno => absurd ((mapmem hm hk (by omega)).mpr hx) hno) (l.map nI).length 0 (by omega) (fun j hj => absurd hj (Nat.not_lt_zero j))⟩
  have hj2 := (mapget hm hk (by omega)).mp hj
  have hjl := (List.getElem?_eq_some_iff.mp hj2).1
  have hp : pos x l = j := nd_idx l hnd _ _ _ (pos_at l hx) hj2
  subst hp
  refine m_goesFrom (l := l.map nI) m.2.1 (by simpa using hl) (by simpa using hjl) (fun t1 ht1 hg1 => ?_)
  rw [er_map] at ht1
  refine m_goesOnTop (l := (l.eraseIdx (pos x l)).map nI) ht1 (by rw [List.length_map, List.length_eraseIdx, if_pos hjl]; omega) (fun t2 ht2 hg2 => h t2 (MB_order m hk (fun i h1 h2 => (hg2.2 i h1 h2).trans (hg1.2 i h1 h2)) ht2) (fun a ha => (hg2.1 a ha).trans (hg1.1 a ha)))
theorem m_taken {x : Nat} {w : Int32} {P : Int32 → Sg → Prop} (v : VB kn th L pk st se tp wt cd) (m : MB (s 1) kn th L pk st se z tp wt cd) (hx : x < kn) (hxp : x ∈ L ∨ pk = some x) (hw : w = 0 ∨ w = 1 ∨ w = 2) (h : ∀ t, MB (t 1) kn th (tkf L x w) pk st (sef th cd L x w se) z tp wt cd → frM s t → P (tmf th cd L x w) t) : wM_taken (nI x) w s P := by
  have hk := v.1
  have hlen := VB_len v
  have hse := v.2.2.2.2.1
  obtain ⟨T, hT, eT⟩ := tmf_nat (th := th) (cd := cd) (L := L) (x := x) (w := w) (by omega)
  unfold wM_taken
  refine m_time v m hx hxp hw (fun s1 k1 => ?_)
  have m1 : MB (s1 1) kn th L pk st se z tp wt cd := by rw [k1.1]; exact m
  have es : sef th cd L x w se = if se + T < 99999 then se + T else 99999 := by unfold sef; rw [eT, nI_toInt (by omega)]; rfl
  have hheld : ∀ {Q : Int32 → Sg → Prop}, Q (nI (sef th cd L x w se)) s1 → wM_held (s1 1 1 + tmf th cd L x w) 0 99999 s1 Q := by
    intro Q hQ
    rw [m1.1.2.2.2.1, eT, nI_add]
    refine iT (nI_pos' (by omega)) ⟨fun q => ?_, fun q => ?_⟩
    · have q2 : se + T ≤ 99999 := (nI_leI (b := 99999) (by omega) (by omega)).mp q
      have : sef th cd L x w se = se + T := by rw [es]; split <;> omega
      rw [this] at hQ; exact hQ
    · have q2 : ¬ se + T ≤ 99999 := fun e => q (nI_le (b := 99999) e (by omega))
      have : sef th cd L x w se = 99999 := by rw [es]; split <;> omega
      rw [this] at hQ; exact hQ
  refine hheld (fun s3 e3 => ?_)
  have m3 : MB (s3 1) kn th L pk st (sef th cd L x w se) z tp wt cd := by subst e3; exact MB_se m1 hk
  have v3 := VB_se (se2 := sef th cd L x w se) v sef_le
  have f3 : frM s s3 := k1.2.trans (frM1 (fun a ha => by subst e3; exact u2_other ha))
  refine m_where m3 v3 (by omega) (fun i hi => ?_) (fun q1 q2 => ?_) (fun q1 q2 => ?_)
  · have hil := (List.getElem?_eq_some_iff.mp hi).1
    have hxL : x ∈ L := List.mem_of_getElem? hi
    have hfin : tkf L x w = x :: (rv L w).eraseIdx (pos x (rv L w)) := by unfold tkf; rw [if_pos hxL]
    rw [hfin] at h
    refine iF (nI_pos (by omega)) ⟨fun q2 => ?_, fun q2 => ?_⟩
    · have er : rv L w = L := by unfold rv; rw [if_neg q2]
      rw [er] at h
      exact m_up hk (by omega) v.2.1.1 v.2.1.2 hxL m3 (fun t ht hf => h t ht (f3.trans (frM1 hf)))
    · have er : rv L w = L.reverse := by unfold rv; rw [if_pos q2]
      rw [er] at h
      refine m_turns (l := L.map nI) m3.2.1 (by simp; omega) (fun s4 h4 f4 => ?_)
      rw [← List.map_reverse] at h4
      have m4 := MB_order m3 hk f4.2 h4
      exact m_up hk (by simp; omega) ((List.reverse_perm L).nodup_iff.mpr v.2.1.1) (fun y hy => v.2.1.2 y (List.mem_reverse.mp hy)) (List.mem_reverse.mpr hxL) m4 (fun t ht hf => h t ht (f3.trans (frM1 (fun a ha => (hf a ha).trans (f4.1 a ha)))))
  · have hfin : tkf L x w = L := by unfold tkf; rw [if_neg q1]
    rw [hfin] at h
    exact iT (by decide) (h s3 m3 f3)
  · rcases hxp with q | q
    · exact absurd q q1
    · exact absurd q q2
end TAK
theorem eq_takes {a1 a2 : Int32} {s t : Sg} (h : Rel s t) : wB_takes a1 a2 s (fun r s => wM_takes a1 a2 t (fun r2 t => r = r2 ∧ Rel s t)) := by
  obtain ⟨kn, th, L, pk, st, se, z, tp, wt, cd, v, c, m⟩ := id h.1
  have hk := v.1
  unfold wB_takes
  rcases nthing (a := a1) hk with ⟨x, hx, rfl⟩ | hn
  · refine p_knowsT c.1.1 (by omega) hx (sel1 ?_)
    rcases rng a2 0 2 (by omega) with ⟨w, -, hw, rfl⟩ | hw
    · refine p_wayT (by omega) (les1 (chere v c hx (fun hxp => c_take v c hx hxp (fun s1 c1 f1 => ?_)) (fun q1 q2 => eq_err h cc3 (by omega) (by omega) (fun P hP => ?_))))
      · exact m_isThingT m.1.1 (by omega) hx (sel1 (m_inT (lo := 0) (hi := 2) (by omega) hw (by omega) (les1 (mhere v m hx (fun _ => m_taken v m hx hxp (way3 hw) (fun t1 m1 g1 => ⟨rfl, Rel_of h f1 g1 ⟨kn, th, _, pk, st, _, z, tp, wt, cd, VB_perm (VB_se v sef_le) tkf_perm v.2.2.2.1, c1, m1⟩⟩)) (fun q1 q2 => by rcases hxp with q | q; exact absurd q q1; exact absurd q q2)))))
      · exact m_isThingT m.1.1 (by omega) hx (sel1 (m_inT (lo := 0) (hi := 2) (by omega) hw (by omega) (les1 (mhere v m hx (fun hxp => by rcases hxp with q | q; exact absurd q q1; exact absurd q q2) (fun _ _ => m_error cc3 (by omega) (by omega) hP)))))
    · exact p_wayF hw (les0 (eq_err h cc1 (by omega) (by omega) (fun P hP => m_isThingT m.1.1 (by omega) hx (sel1 (m_inF (lo := 0) (hi := 2) (by omega) (by omega) hw (les0 (m_error cc1 (by omega) (by omega) hP)))))))
  · exact p_knowsF c.1.1 (by omega) hn (sel0 (eq_err h cc1 (by omega) (by omega) (fun P hP => m_isThingF m.1.1 (by omega) hn (sel0 (m_error cc1 (by omega) (by omega) hP)))))
