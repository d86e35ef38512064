-- PURE: check, zip, untell
theorem m_checkL {P : Int32 → Sg → Prop} {K : Sg → Prop} {s : Sg} {F N : Nat} (hF : F ≤ 24) (hN : N ≤ 9) (hl : s 1 3 = nI N) : ∀ (w l : List Int32) (a : Nat), a + w.length = F → a + l.length = N → (∀ (j : Nat) (hj : j < w.length), s 1 (113 + (a + j)) = w[j]) → (∀ (j : Nat) (hj : j < l.length), s 1 (8 + (a + j)) = l[j]) → (agr w l = w.length → K s) → (agr w l ≠ w.length → P (1 + nI (a + agr w l)) s) → wM_check_18 (nI F) P K (w.length + 1) (nI a) s := by
  intro w
  induction w with
  | nil =>
    intro l a h1 h2 hw hv hK hP
    rw [wM_check_18]
    simp at h1
    subst h1
    exact iT (Int32.le_refl _) (hK rfl)
  | cons x w ih =>
    intro l a h1 h2 hw hv hK hP
    simp at h1
    rw [wM_check_18, hl]
    refine iF (nI_ge (by omega) (by omega)) ?_
    cases l with
    | nil =>
      simp at h2
      subst h2
      refine iT (Int32.le_refl _) ?_
      have := hP (by simp [agr])
      simpa [agr] using this
    | cons y l =>
      simp at h2
      refine iF (nI_ge (by omega) (by omega)) ?_
      rw [show (113 : Int32) + nI a = nI (113 + a) from nI_add 113 a, m8, ixn (by omega), ixn (by omega)]
      have ex := hw 0 (by simp)
      have ey := hv 0 (by simp)
      simp at ex ey
      refine ⟨vp_in_nI (by omega) (by omega), vp_in_nI (by omega) (by omega), ?_⟩
      rw [ex, ey]
      by_cases q : x = y
      · refine iT q ?_
        rw [nI_1]
        refine ih l (a + 1) (by omega) (by omega) (fun j hj => ?_) (fun j hj => ?_) (fun e => hK ?_) (fun e => ?_)
        · have := hw (j + 1) (by simpa using hj)
          rw [show a + 1 + j = a + (j + 1) by omega]
          simpa using this
        · have := hv (j + 1) (by simpa using hj)
          rw [show a + 1 + j = a + (j + 1) by omega]
          simpa using this
        · simp [agr, q, e]
        · have := hP (by simp [agr, q]; exact e)
          rw [show a + 1 + agr w l = a + agr (x :: w) (y :: l) by simp [agr, q]; omega]
          exact this
      · refine iF q ?_
        have := hP (by simp [agr, q])
        simpa [agr, q] using this
theorem eq_check {s t : Sg} (h : Rel s t) : wB_check s (fun r s => wM_check t (fun r2 t => r = r2 ∧ Rel s t)) := by
  obtain ⟨kn, th, L, pk, st, se, z, tp, wt, cd, v, c, m⟩ := id h.1
  have hlen := VB_len v
  have hk := v.1
  have hwt := v.2.2.2.2.2.2.1
  have htp := v.2.2.2.2.2.1.1
  unfold wB_check
  have e8 : s 8 1 = nI wt.length := c.2.2.2.1.1
  have ha : agr wt (L.map nI) ≤ wt.length := by
    have : ∀ (l r : List Int32), agr l r ≤ l.length := by
      intro l
      induction l with
      | nil => intro r; simp [agr]
      | cons a l ih =>
        intro r
        cases r with
        | nil => simp [agr]
        | cons b r =>
          rw [agr]
          split
          · have := ih r; simp; omega
          · simp
    exact this _ _
  have fin : ∀ (s2 t1 : Sg), s2 = u2 s 8 1 0 → t1 = u2 t 1 6 0 → Rel s2 t1 := fun s2 t1 e1 e2 => by
    subst e1; subst e2
    refine Rel_of h (fun a h1 h2 => u2_other (by omega)) (frM1 (fun a ha => u2_other ha)) ⟨kn, th, L, pk, st, se, z, tp, [], cd, ?_, CB_wt c hk (fun a _ _ h3 h4 => u2_other (by omega)) (IL_nil u2_same), MB_wt m hk (by omega) htp (fun i h1 h2 => u2_ne (by omega)) (IL_nil u2_same)⟩
    obtain ⟨v1, v2, v4, v5, v6, v7, v8, v9⟩ := v
    exact ⟨v1, v2, v4, v5, v6, v7, by simp, v9⟩
  have mm : ∀ {P : Int32 → Sg → Prop} , (∀ t1, t1 = u2 t 1 6 0 → (agr wt (L.map nI) = wt.length → P 0 t1) ∧ (agr wt (L.map nI) ≠ wt.length → P (1 + nI (agr wt (L.map nI))) t1)) → wM_check t P := by
    intro P q t1 f1
    obtain ⟨q1, q2⟩ := q t1 f1
    rw [m.2.2.2.1.1]
    refine ⟨wt.length + 1, m_checkL (N := L.length) (l := L.map nI) hwt (by omega) ?_ wt 0 (by omega) (by simp) (fun j hj => ?_) (fun j hj => ?_) q1 (fun e => ?_)⟩
    · subst f1; rw [u2_ne (by omega), m.2.1.1]; simp
    · subst f1; rw [u2_ne (by omega), Nat.zero_add]; exact IL_at m.2.2.2.1 hj
    · subst f1; rw [u2_ne (by simp at hj; omega), Nat.zero_add]; exact IL_at m.2.1 hj
    · rw [Nat.zero_add]; exact q2 e
  refine p_alike (l := wt) (r := L.map nI) c.2.2.2.1 c.2.1 (by rw [cp8]; omega) (by rw [cp3]; simp; omega) (by rw [cp8]; omega) cap9 ?_
  rw [e8]
  refine ⟨fun q s2 e2 => mm (fun t1 f1 => ⟨fun e => absurd (by rw [e]) q, fun _ => ⟨rfl, fin s2 t1 e2 f1⟩⟩), fun q s2 e2 => mm (fun t1 f1 => ⟨fun _ => ⟨rfl, fin s2 t1 e2 f1⟩, fun e => absurd (nI_inj (by omega) (by omega) q) e⟩)⟩
-- the pocket
def top (pk : Option Nat) (L : List Nat) : List Nat := match pk with
  | none => L
  | some y => y :: L
theorem VB_top {kn : Nat} {th : Nat → Nat → Nat} {L : List Nat} {pk : Option Nat} {st se : Nat} {tp : List Nat} {wt : List Int32} {cd : Nat → List Int32} (v : VB kn th L pk st se tp wt cd) : VB kn th (top pk L) none st se tp wt cd := by
  obtain ⟨v1, ⟨v2, v3⟩, v4, v5⟩ := v
  cases pk with
  | none => exact ⟨v1, ⟨v2, v3⟩, fun y hy => (by cases hy), v5⟩
  | some y =>
    refine ⟨v1, ⟨List.nodup_cons.mpr ⟨(v4 y rfl).2, v2⟩, fun w hw => ?_⟩, fun y hy => (by cases hy), v5⟩
    rcases List.mem_cons.mp hw with rfl | hw
    · exact (v4 _ rfl).1
    · exact v3 w hw
theorem VB_swap {kn : Nat} {th : Nat → Nat → Nat} {L : List Nat} {pk : Option Nat} {st se : Nat} {tp : List Nat} {wt : List Int32} {cd : Nat → List Int32} {i x : Nat} (v : VB kn th L pk st se tp wt cd) (hi : L[i]? = some x) : VB kn th (top pk (L.eraseIdx i)) (some x) st se tp wt cd := by
  have hx : x < kn := v.2.1.2 x (List.mem_of_getElem? hi)
  have hne : ∀ y, pk = some y → y ≠ x := fun y hy e => (v.2.2.1 y hy).2 (e ▸ List.mem_of_getElem? hi)
  have hxe : x ∉ L.eraseIdx i := fun hm => by
    obtain ⟨j, hj⟩ := List.getElem?_of_mem hm
    have hnd := v.2.1.1
    rw [List.getElem?_eraseIdx] at hj
    split at hj
    · have := nd_idx L hnd _ _ _ hj hi; omega
    · have := nd_idx L hnd _ _ _ hj hi; omega
  have ve : VB kn th (L.eraseIdx i) pk st se tp wt cd := by
    obtain ⟨v1, ⟨v2, v3⟩, v4, v5⟩ := v
    exact ⟨v1, ⟨v2.sublist (List.eraseIdx_sublist L i), fun y hy => v3 y ((List.eraseIdx_sublist L i).mem hy)⟩, fun y hy => ⟨(v4 y hy).1, fun z => (v4 y hy).2 ((List.eraseIdx_sublist L i).mem z)⟩, v5⟩
  obtain ⟨u1, u2, u3, u4⟩ := VB_top ve
  refine ⟨u1, u2, fun y hy => ?_, u4⟩
  cases hy
  refine ⟨hx, fun hm => ?_⟩
  cases pk with
  | none => exact hxe hm
  | some y =>
    rcases List.mem_cons.mp hm with e | hm
    · exact hne y rfl e.symm
    · exact hxe hm
section ZIP
variable {s t : Sg} {kn : Nat} {th : Nat → Nat → Nat} {L : List Nat} {pk pk2 : Option Nat} {st se : Nat} {z : Int32} {tp : List Nat} {wt : List Int32} {cd : Nat → List Int32} {P : Int32 → Sg → Prop}
theorem pkb (v : VB kn th L pk st se tp wt cd) : ∀ y, pk = some y → y < 2 ^ 31 := fun y hy => by have := (v.2.2.1 y hy).1; have := v.1; omega
/-- the class puts what the pocket held on top -/
theorem c_top {K : Sg → Prop} {W : Prop} (v : VB kn th L pk st se tp wt cd) (c : CB s 1 kn th L pk st se z tp wt cd) (h0 : pk = none → W) (h : ∀ y, pk = some y → ∀ s1, CB s1 1 kn th (top pk L) pk st se z tp wt cd → fr2 s s1 3 → K s1) : (s 1 3 = -1 → W) ∧ (¬ s 1 3 = -1 → wRow_addOnTop 3 (s 1 3) s K) := by
  have hk := v.1
  rw [c.1.2.1]
  refine ⟨fun e => h0 ((pkv_m1 (pkb v)).mp e), fun e => ?_⟩
  cases hp : pk with
  | none => exact absurd ((pkv_m1 (pkb v)).mpr hp) e
  | some y =>
    subst hp
    have hl := VB_len (VB_top v)
    simp [top] at hl
    exact p_addOnTop (l := L.map nI) c.2.1 (by rw [cp3]; simp; omega) cap9 (fun s1 hs1 hf1 => h y rfl s1 (CB_order c hk (fun a _ _ h3 h4 => hf1 a (by omega) (by omega)) hs1) hf1)
theorem c_zip0 (v : VB kn th L pk st se tp wt cd) (c : CB s 1 kn th L pk st se z tp wt cd) (h : ∀ s1, CB s1 1 kn th (top pk L) none st se z tp wt cd → frC s s1 → P (pkv pk) s1) : wBag_changePocket (-1) s P := by
  have hk := v.1
  have hno : ∀ l : List Nat, (∀ y ∈ l, y < kn) → (-1 : Int32) ∉ l.map nI := fun l hl hm => by
    obtain ⟨y, hy, e⟩ := List.mem_map.mp hm
    exact nn1 (by have := hl y hy; omega) e
  have tail : ∀ (l : List Nat) (s0 : Sg), CB s0 1 kn th l pk st se z tp wt cd → l.length ≤ kn → (∀ y ∈ l, y < kn) → frC s s0 → l = top pk L → wRow_placeOf 3 (-1) s0 (fun r1 s1 => wRow_removeAt 3 r1 s1 (fun s2 => ∀ s3, s3 = u2 s2 1 3 (-1) → P (s 1 3) s3)) := by
    intro l s0 c0 h1 h2 h3 h4
    refine p_placeOf (l := l.map nI) c0.2.1 (by rw [cp3]; simp; omega) cap9 (fun i hi _ => absurd (List.mem_of_getElem? hi) (hno l h2)) (fun _ => ?_)
    refine p_removeNo (l := l.map nI) c0.2.1 (by rw [cp3]; simp; omega) cap9 (fun i hi e => nn1 (by simp at hi; omega) e.symm) (fun s3 e3 => ?_)
    rw [c.1.2.1]
    subst e3; subst h4
    exact h _ (CB_pk (pk2 := none) c0 hk) (fun a h1 h2 => (u2_other (by omega)).trans (h3 a h1 h2))
  unfold wBag_changePocket
  refine c_top v c (fun e => ?_) (fun y e s1 c1 f1 => ?_)
  · subst e
    exact tail L s c (VB_len v) v.2.1.2 frC.refl rfl
  · exact tail _ s1 c1 (VB_len (VB_top v)) (VB_top v).2.1.2 (fun a h1 h2 => f1 a (by omega) (by omega)) rfl
theorem c_zip {x i : Nat} (v : VB kn th L pk st se tp wt cd) (c : CB s 1 kn th L pk st se z tp wt cd) (hi : L[i]? = some x) (h : ∀ s1, CB s1 1 kn th (top pk (L.eraseIdx i)) (some x) st se z tp wt cd → frC s s1 → P (pkv pk) s1) : wBag_changePocket (nI x) s P := by
  have hk := v.1
  have hil := (List.getElem?_eq_some_iff.mp hi).1
  have hx : x < kn := v.2.1.2 x (List.mem_of_getElem? hi)
  have tail : ∀ (l : List Nat) (s0 : Sg) (i0 : Nat), CB s0 1 kn th l pk st se z tp wt cd → l.length ≤ kn → l.Nodup → (∀ y ∈ l, y < kn) → l[i0]? = some x → frC s s0 → l.eraseIdx i0 = top pk (L.eraseIdx i) → wRow_placeOf 3 (nI x) s0 (fun r1 s1 => wRow_removeAt 3 r1 s1 (fun s2 => ∀ s3, s3 = u2 s2 1 3 (nI x) → P (s 1 3) s3)) := by
    intro l s0 i0 c0 h1 h1b h2 h2b h3 h4
    have hil0 := (List.getElem?_eq_some_iff.mp h2b).1
    refine p_placeOf (l := l.map nI) c0.2.1 (by rw [cp3]; simp; omega) cap9 (fun j hj _ => ?_) (fun hn => absurd ((mapmem h2 hk (by omega)).mpr (List.mem_of_getElem? h2b)) hn)
    have hij : j = i0 := nd_idx l h1b _ _ _ ((mapget h2 hk (by omega)).mp hj) h2b
    subst hij
    refine p_removeAt (l := l.map nI) c0.2.1 (by rw [cp3]; simp; omega) cap9 (by simpa using hil0) (fun s2 hs2 hf2 s3 e3 => ?_)
    rw [c.1.2.1]
    rw [er_map, h4] at hs2
    have c2 := CB_order c0 hk (fun a _ _ h3 h4 => hf2 a (by omega) (by omega)) hs2
    subst e3
    exact h _ (CB_pk (pk2 := some x) c2 hk) (fun a q1 q2 => (u2_other (by omega)).trans ((hf2 a (by omega) (by omega)).trans (h3 a q1 q2)))
  unfold wBag_changePocket
  refine c_top v c (fun e => ?_) (fun y e s1 c1 f1 => ?_)
  · subst e
    exact tail L s i c (VB_len v) v.2.1.1 v.2.1.2 hi frC.refl rfl
  · refine tail _ s1 (i + 1) c1 (VB_len (VB_top v)) (VB_top v).2.1.1 (VB_top v).2.1.2 ?_ (fun a h1 h2 => f1 a (by omega) (by omega)) ?_
    · subst e; simpa [top] using hi
    · subst e; simp [top]
def mZ (a1 : Int32) (s0 : Sg) (P : Int32 → Sg → Prop) : Prop := ∀ s2 : Sg, s2 = u2 s0 1 4 (-1) → ((a1 = -1 → ((s0 1 4 = -1 → (∀ s3 : Sg, s3 = u2 s2 1 4 a1 → P (s0 1 4) s3)) ∧ (¬ s0 1 4 = -1 → wM_goesOnTop (s0 1 4) s2 (fun s3 => ∀ s4 : Sg, s4 = u2 s3 1 4 a1 → P (s0 1 4) s4)))) ∧ (¬ a1 = -1 → wM_whereIs a1 s2 (fun r2 s3 => wM_goesFrom r2 s3 (fun s4 => ((s0 1 4 = -1 → (∀ s5 : Sg, s5 = u2 s4 1 4 a1 → P (s0 1 4) s5)) ∧ (¬ s0 1 4 = -1 → wM_goesOnTop (s0 1 4) s4 (fun s5 => ∀ s6 : Sg, s6 = u2 s5 1 4 a1 → P (s0 1 4) s6)))))))
theorem mZ_end {o a1 : Int32} {L1 : List Nat} (ho : o = pkv pk) (ha : a1 = pkv pk2) (hk : kn ≤ 9) (hb : ∀ y, pk = some y → y < 2 ^ 31) (hl : (top pk L1).length ≤ 9) (m : MB (s 1) kn th L1 none st se z tp wt cd) (h : ∀ t1, MB (t1 1) kn th (top pk L1) pk2 st se z tp wt cd → (∀ a, a ≠ 1 → t1 a = s a) → P o t1) : (o = -1 → (∀ s5 : Sg, s5 = u2 s 1 4 a1 → P o s5)) ∧ (¬ o = -1 → wM_goesOnTop o s (fun s5 => ∀ s6 : Sg, s6 = u2 s5 1 4 a1 → P o s6)) := by
  subst ho; subst ha
  refine ⟨fun e s5 e5 => ?_, fun e => ?_⟩
  · have hp := (pkv_m1 hb).mp e
    subst hp; subst e5
    exact h _ (MB_pk m hk) (fun a ha => u2_other ha)
  · cases pk with
    | none => exact absurd rfl e
    | some y =>
      simp [top] at hl
      refine m_goesOnTop (l := L1.map nI) m.2.1 (by simp; omega) (fun t1 ht1 hg1 s6 e6 => ?_)
      subst e6
      exact h _ (MB_pk (MB_order m hk hg1.2 ht1) hk) (fun a ha => (u2_other ha).trans (hg1.1 a ha))
theorem m_zip0 (v : VB kn th L pk st se tp wt cd) (m : MB (s 1) kn th L pk st se z tp wt cd) (h : ∀ t1, MB (t1 1) kn th (top pk L) none st se z tp wt cd → (∀ a, a ≠ 1 → t1 a = s a) → P (pkv pk) t1) : mZ (-1) s P := by
  intro s2 e2
  have hk := v.1
  have ho : s 1 4 = pkv pk := m.1.2.1
  rw [ho]
  refine iT rfl (mZ_end (pk2 := none) rfl rfl hk (pkb v) (by have := VB_len (VB_top v); omega) (L1 := L) ?_ (fun t1 m1 f1 => h t1 m1 (fun a ha => (f1 a ha).trans (by subst e2; exact u2_other ha))))
  subst e2
  exact MB_pk (pk2 := none) m hk
theorem m_zip {x i : Nat} (v : VB kn th L pk st se tp wt cd) (m : MB (s 1) kn th L pk st se z tp wt cd) (hi : L[i]? = some x) (h : ∀ t1, MB (t1 1) kn th (top pk (L.eraseIdx i)) (some x) st se z tp wt cd → (∀ a, a ≠ 1 → t1 a = s a) → P (pkv pk) t1) : mZ (nI x) s P := by
  intro s2 e2
  have hk := v.1
  have hil := (List.getElem?_eq_some_iff.mp hi).1
  have hlen := VB_len v
  have hx : x < kn := v.2.1.2 x (List.mem_of_getElem? hi)
  have ho : s 1 4 = pkv pk := m.1.2.1
  rw [ho]
  have m2 : MB (s2 1) kn th L none st se z tp wt cd := by subst e2; exact MB_pk (pk2 := none) m hk
  have v2 : VB kn th L none st se tp wt cd := by
    obtain ⟨v1, v2, v4, v5⟩ := v
    exact ⟨v1, v2, fun y hy => (by cases hy), v5⟩
  refine iF (nn1 (by omega)) (m_where m2 v2 (by omega) (fun j hj => ?_) (fun q _ => absurd (List.mem_of_getElem? hi) q) (fun q _ => absurd (List.mem_of_getElem? hi) q))
  have hij : j = i := nd_idx L v.2.1.1 _ _ _ hj hi
  subst hij
  refine m_goesFrom (l := L.map nI) m2.2.1 (by simp; omega) (by simpa using hil) (fun t1 ht1 hg1 => ?_)
  rw [er_map] at ht1
  refine mZ_end (pk2 := some x) (L1 := L.eraseIdx j) rfl rfl hk (pkb v) ?_ (MB_order m2 hk hg1.2 ht1) (fun t2 m2 f2 => h t2 m2 (fun a ha => (f2 a ha).trans ((hg1.1 a ha).trans (by subst e2; exact u2_other ha))))
  have := VB_len (VB_swap v hi)
  omega
end ZIP
theorem eq_zip {a1 : Int32} {s t : Sg} (h : Rel s t) : wB_zip a1 s (fun r s => wM_zip a1 t (fun r2 t => r = r2 ∧ Rel s t)) := by
  obtain ⟨kn, th, L, pk, st, se, z, tp, wt, cd, v, c, m⟩ := id h.1
  have hlen := VB_len v
  have hk := v.1
  unfold wB_zip
  by_cases q : a1 = -1
  · subst q
    refine iT rfl (iT rfl (c_zip0 v c (fun s1 c1 f1 => iT rfl (iT rfl (show mZ (-1) t (fun r2 t => pkv pk = r2 ∧ Rel s1 t) from m_zip0 v m (fun t1 m1 g1 => ⟨rfl, ?_⟩))))))
    exact Rel_of h f1 (frM1 g1) ⟨kn, th, _, none, st, se, z, tp, wt, cd, VB_top v, c1, m1⟩
  · refine iF q ?_
    rcases nthing (a := a1) hk with ⟨x, hx, rfl⟩ | hn
    · refine p_knowsT c.1.1 (by omega) hx (les1 (iF q ?_))
      have bad : ∀ r : Int32, r < 0 → x ∉ L → (0 ≤ r → wBag_changePocket (nI x) s (fun r s => wM_zip (nI x) t (fun r2 t => r = r2 ∧ Rel s t))) ∧ (¬ 0 ≤ r → wB_failed (-1000000003) s (fun r s => wM_zip (nI x) t (fun r2 t => r = r2 ∧ Rel s t))) := by
        intro r hr hxL
        refine iF (fun e => by rw [Int32.le_iff_toInt_le] at e; rw [Int32.lt_iff_toInt_lt] at hr; omega) (eq_err h cc3 (by omega) (by omega) (fun P hP => ?_))
        unfold wM_zip
        refine iF q (m_isThingT m.1.1 (by omega) hx (les1 (iF q ?_)))
        exact m_where m v (by omega) (fun i hi => absurd (List.mem_of_getElem? hi) hxL) (fun _ _ => iF (by decide) (m_error cc3 (by omega) (by omega) hP)) (fun _ _ => iF (by decide) (m_error cc3 (by omega) (by omega) hP))
      refine c_where c v (by omega) (fun i hi => iT (nI_pos' (by have := (List.getElem?_eq_some_iff.mp hi).1; omega)) ?_) (fun q1 q2 => bad _ (by decide) q1) (fun q1 q2 => bad _ (by decide) q1)
      refine c_zip v c hi (fun s1 c1 f1 => ?_)
      unfold wM_zip
      refine iF q (m_isThingT m.1.1 (by omega) hx (les1 (iF q ?_)))
      refine m_where m v (by omega) (fun j hj => iT (nI_pos' (by have := (List.getElem?_eq_some_iff.mp hj).1; omega)) ?_) (fun q _ => absurd (List.mem_of_getElem? hi) q) (fun q _ => absurd (List.mem_of_getElem? hi) q)
      refine (show mZ (nI x) t (fun r2 t => pkv pk = r2 ∧ Rel s1 t) from m_zip v m hi (fun t1 m1 g1 => ⟨rfl, ?_⟩))
      exact Rel_of h f1 (frM1 g1) ⟨kn, th, _, some x, st, se, z, tp, wt, cd, VB_swap v hi, c1, m1⟩
    · refine p_knowsF c.1.1 (by omega) hn (les0 (eq_err h cc1 (by omega) (by omega) (fun P hP => ?_)))
      unfold wM_zip
      exact iF q (m_isThingF m.1.1 (by omega) hn (les0 (m_error cc1 (by omega) (by omega) hP)))
-- a text, taken away
theorem p_useT {n : Nat} {s : Sg} {P : Int32 → Sg → Prop} (h : n < 2) (k : P 1 s) : wB_isUse (nI n) s P :=
  iF (nI_pos (by omega)) (iF (nI_ge (a := n) (b := 2) h (by omega)) k)
theorem p_useF {a : Int32} {s : Sg} {P : Int32 → Sg → Prop} (h : ¬ (((0 : Nat) : Int) ≤ a.toInt ∧ a.toInt ≤ ((1 : Nat) : Int))) (k : P 0 s) : wB_isUse a s P := by
  unfold wB_isUse
  simp only [Int32.lt_iff_toInt_lt, Int32.le_iff_toInt_le, show (0 : Int32).toInt = 0 by decide, show (2 : Int32).toInt = 2 by decide]
  exact ⟨fun _ => k, fun z => ⟨fun _ => k, fun z2 => absurd ⟨by omega, by omega⟩ h⟩⟩
section CD
variable {s t : Sg} {b kn : Nat} {th : Nat → Nat → Nat} {L : List Nat} {pk : Option Nat} {st se : Nat} {z : Int32} {tp : List Nat} {wt : List Int32} {cd : Nat → List Int32} {f g : Nat → Int32}
def cdU (cd : Nat → List Int32) (u : Nat) (l : List Int32) : Nat → List Int32 := fun x => if x = u then l else cd x
theorem CB_cd {u : Nat} {l : List Int32} (h : CB s b kn th L pk st se z tp wt cd) (hk : kn ≤ 9) (hu : u < 2) (hf : ∀ a, b ≤ a → a < b + 31 → a ≠ b + 20 + 6 * u → a ≠ b + 21 + 6 * u → (b + 19 ≤ a → a = b + 20 + 6 * (1 - u) ∨ a = b + 21 + 6 * (1 - u)) → t a = s a) (ho : IL (t (b + 20 + 6 * u) 1) (t (b + 21 + 6 * u)) l) : CB t b kn th L pk st se z tp wt (cdU cd u l) := by
  obtain ⟨⟨a1, a2, a3, a4, a5⟩, o, tpe, w, thg, tx⟩ := h
  refine ⟨?_, ?_, ?_, ?_, fun x hx j hj => ?_, fun y hy => ?_⟩
  · rw [hf b (by omega) (by omega) (by omega) (by omega) (by omega)]; exact ⟨a1, a2, a3, a4, a5⟩
  · rw [hf (b + 2) (by omega) (by omega) (by omega) (by omega) (by omega), hf (b + 3) (by omega) (by omega) (by omega) (by omega) (by omega)]; exact o
  · rw [hf (b + 4) (by omega) (by omega) (by omega) (by omega) (by omega), hf (b + 5) (by omega) (by omega) (by omega) (by omega) (by omega)]; exact tpe
  · rw [hf (b + 7) (by omega) (by omega) (by omega) (by omega) (by omega), hf (b + 8) (by omega) (by omega) (by omega) (by omega) (by omega)]; exact w
  · rw [hf (b + 10 + x) (by omega) (by omega) (by omega) (by omega) (by omega)]; exact thg x hx j hj
  · unfold cdU
    by_cases e : y = u
    · subst e; rw [if_pos rfl]; exact ho
    · rw [if_neg e, hf (b + 20 + 6 * y) (by omega) (by omega) (by omega) (by omega) (by omega), hf (b + 21 + 6 * y) (by omega) (by omega) (by omega) (by omega) (by omega)]; exact tx y hy
theorem MB_cd {u : Nat} {l : List Int32} (h : MB f kn th L pk st se z tp wt cd) (hk : kn ≤ 9) (hl : L.length ≤ 9) (htp : tp.length ≤ 60) (hwt : wt.length ≤ 24) (hcd : ∀ u, u < 2 → (cd u).length ≤ 60) (hu : u < 2) (hf : ∀ i, ¬ (137 + 121 * u ≤ i ∧ i < 258 + 121 * u) → g i = f i) (h0 : g (137 + 121 * u) = nI l.length) (ho : ∀ (i : Nat) (c : Int32), l[i]? = some c → g (138 + 121 * u + i) = acO c ∧ g (198 + 121 * u + i) = wiO c) : MB g kn th L pk st se z tp wt (cdU cd u l) := by
  obtain ⟨⟨a1, a2, a3, a4, a5⟩, o, tpe, w, thg, tx⟩ := h
  refine ⟨?_, ?_, ?_, ?_, fun x hx j hj => ?_, fun y hy => ?_⟩
  · rw [hf 2 (by omega), hf 4 (by omega), hf 0 (by omega), hf 1 (by omega), hf 7 (by omega)]; exact ⟨a1, a2, a3, a4, a5⟩
  · exact IL_congr o (hf 3 (by omega)) (fun i hi => hf (8 + i) (by simp at hi; omega))
  · exact IL_congr tpe (hf 5 (by omega)) (fun i hi => hf (53 + i) (by simp at hi; omega))
  · exact IL_congr w (hf 6 (by omega)) (fun i hi => hf (113 + i) (by omega))
  · rw [hf _ (by omega)]; exact thg x hx j hj
  · unfold cdU
    by_cases e : y = u
    · subst e; rw [if_pos rfl]; exact ⟨h0, ho⟩
    · rw [if_neg e]
      refine ⟨by rw [hf (137 + 121 * y) (by omega)]; exact (tx y hy).1, fun i c hc => ?_⟩
      have hi := (List.getElem?_eq_some_iff.mp hc).1
      have := hcd y hy
      rw [hf (138 + 121 * y + i) (by omega), hf (198 + 121 * y + i) (by omega)]
      exact (tx y hy).2 i c hc
end CD
theorem t20 {u : Nat} (h : u < 2 ^ 31) : 20 + 6 * ix (nI u) = 1 + 19 + 6 * u := by rw [ixn h]
theorem eq_untell {a1 : Int32} {s t : Sg} (h : Rel s t) : wB_untell a1 s (fun r s => wM_untell a1 t (fun r2 t => r = r2 ∧ Rel s t)) := by
  obtain ⟨kn, th, L, pk, st, se, z, tp, wt, cd, v, c, m⟩ := id h.1
  have hlen := VB_len v
  have hk := v.1
  have hcd := v.2.2.2.2.2.2.2.2
  unfold wB_untell
  rcases rng a1 0 1 (by omega) with ⟨u, -, hu, rfl⟩ | hn
  · refine p_useT (by omega) (les1 ⟨vp_in_nI (by omega) (by omega), ?_⟩)
    rw [t20 (by omega), show 1 + 19 + 6 * u + 1 = 1 + 20 + 6 * u by omega]
    have e1 : s (1 + 20 + 6 * u) 1 = nI (cd u).length := (c.2.2.2.2.2 u (by omega)).1
    have e2 : t 1 (137 + 121 * u) = nI (cd u).length := (m.2.2.2.2.2 u (by omega)).1
    have mm : ∀ {P : Int32 → Sg → Prop}, (∀ t1, t1 = u2 t 1 (137 + 121 * u) 0 → ((nI (cd u).length ≤ 0 → P 0 t1) ∧ (¬ nI (cd u).length ≤ 0 → P 1 t1))) → wM_untell (nI u) t P := by
      intro P q
      unfold wM_untell
      refine m_inT (lo := 0) (hi := 1) (by omega) hu (by omega) (les1 ?_)
      rw [show (137 : Int32) + 121 * nI u = nI (137 + 121 * u) by rw [show (137 : Int32) = nI 137 from rfl, show (121 : Int32) = nI 121 from rfl, pk_mul, nI_add]]
      refine m_becomes (by omega) (fun t1 f1 => ?_)
      rw [e2]
      exact q t1 f1
    have fin : ∀ (s2 t1 : Sg), s2 = u2 s (1 + 20 + 6 * u) 1 0 → t1 = u2 t 1 (137 + 121 * u) 0 → Rel s2 t1 := fun s2 t1 f1 f2 => by
      subst f1; subst f2
      refine Rel_of h (fun a h1 h2 => u2_other (by omega)) (frM1 (fun a ha => u2_other ha)) ⟨kn, th, L, pk, st, se, z, tp, wt, cdU cd u [], ?_, CB_cd c hk (by omega) (fun a _ _ h3 h4 _ => u2_other h3) (IL_nil u2_same), MB_cd m hk (by omega) v.2.2.2.2.2.1.1 v.2.2.2.2.2.2.1 (fun y hy => (hcd y hy).1) (by omega) (fun i hi => u2_ne (by omega)) u2_same (fun i x hx => by simp at hx)⟩
      obtain ⟨v1, v2, v4, v5, v6, v7, v8, v9, v10⟩ := v
      refine ⟨v1, v2, v4, v5, v6, v7, v8, v9, fun y hy => ?_⟩
      unfold cdU
      by_cases e : y = u
      · rw [if_pos e]; exact ⟨by simp, Or.inl rfl, fun x hx => by simp at hx⟩
      · rw [if_neg e]; exact v10 y hy
    unfold wText_isThere
    rw [show 1 + 19 + 6 * u + 1 = 1 + 20 + 6 * u by omega, e1]
    refine ⟨fun q => sel0 ⟨vp_in_nI (by omega) (by omega), fun s1 f1 => mm (fun t1 f2 => iT q ⟨rfl, fin s1 t1 f1 f2⟩)⟩, fun q => sel1 ⟨vp_in_nI (by omega) (by omega), fun s1 f1 => mm (fun t1 f2 => iF q ⟨rfl, fin s1 t1 f1 f2⟩)⟩⟩
  · exact p_useF hn (les0 (eq_err h cc1 (by omega) (by omega) (fun P hP => m_inF (lo := 0) (hi := 1) (by omega) (by omega) hn (les0 (m_error cc1 (by omega) (by omega) hP)))))
