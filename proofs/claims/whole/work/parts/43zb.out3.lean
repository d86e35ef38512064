-- PURE: out, the reference's side: what a law leaves untouched
def m10 (s t : Sg) : Prop := ∀ a, a ≠ 10 → a ≠ 11 → t a = s a
theorem m10.refl {s : Sg} : m10 s s := fun _ _ _ => rfl
theorem m10.trans {s t u : Sg} (h1 : m10 s t) (h2 : m10 t u) : m10 s u := fun a x y => (h2 a x y).trans (h1 a x y)
section M10
variable {s t : Sg} {kn : Nat} {th : Nat → Nat → Nat} {L : List Nat} {pk : Option Nat} {st st2 se : Nat} {z : Int32} {tp : List Nat} {wt : List Int32} {cd : Nat → List Int32}
theorem m_gives1 {u : Nat} {p0 p1 p2 : Int32} {P : Int32 → Sg → Prop} (v : VB kn th L pk st se tp wt cd) (m : MB (s 1) kn th L pk st2 se z tp wt cd) (hu : u < 2) (h : ∀ t, m10 s t → P (gvw cd u p0 p1 p2) t) : wM_gives (nI u) p0 p1 p2 s P := by
  obtain ⟨hl, hh, hok⟩ := v.2.2.2.2.2.2.2.2 u hu
  have hc := m.2.2.2.2.2 u hu
  intro s1 e1 s2 e2 s3 e3
  have hf : ∀ a, a ≠ 10 → s3 a = s a := fun a ha => by subst e3; rw [u2_other ha]; subst e2; rw [u2_other ha]; subst e1; rw [u2_other ha]
  have x0 : s3 10 0 = p0 := by subst e3; rw [u2_ne (by omega)]; subst e2; rw [u2_ne (by omega)]; subst e1; rw [u2_same]
  have x1 : s3 10 1 = p1 := by subst e3; rw [u2_ne (by omega)]; subst e2; rw [u2_same]
  have x2 : s3 10 2 = p2 := by subst e3; rw [u2_same]
  rw [show (137 : Int32) + 121 * nI u = nI (137 + 121 * u) by rw [show (137 : Int32) = nI 137 from rfl, show (121 : Int32) = nI 121 from rfl, pk_mul, nI_add], ixn (by omega), hf 1 (by omega), hc.1]
  refine ⟨vp_in_nI (by omega) (by omega), ?_⟩
  by_cases h0 : (cd u).length = 0
  · have := h s3 (fun a h1 _ => hf a h1)
    unfold gvw at this
    rw [if_pos h0] at this
    rw [h0]
    refine iT (by decide) ?_
    by_cases hu0 : u = 0
    · subst hu0
      rw [if_pos rfl] at this
      exact jT rfl (m_held9 this)
    · rw [if_neg hu0] at this
      exact jF (fun e => hu0 (nI_inj (b := 0) (by omega) (by omega) e)) (m_held9 this)
  · refine iF (nI_nle (by omega) (by omega)) ?_
    have hh1 : hgt (cd u) 0 = some 1 := by
      rcases hh with e | e
      · rw [e] at h0; simp at h0
      · exact e
    unfold wM_works
    refine ⟨(cd u).length + 1, m_worksL hu hl s3 (by rw [hf 1 (by omega)]; exact hc.1) (fun i c hi => by rw [hf 1 (by omega)]; exact hc.2 i c hi) x0 x1 x2 (fun t a hf2 e he => ?_) (cd u) 0 [] s3 (by simp) (fun j hj => by rw [Nat.zero_add]; exact List.getElem?_eq_getElem hj) hok hh1 (by simp) (fun _ _ => rfl) trivial rfl⟩
    rw [e]
    have := h t (fun a h1 h2 => (hf2 a h2).trans (hf a h1))
    unfold gvw at this
    rw [if_neg h0, he] at this
    exact m_held9 this
theorem m_feelL1 {K : Int32 → Sg → Prop} (v : VB kn th L pk st se tp wt cd) (s0 : Sg) (m0 : MB (s0 1) kn th L pk st2 se z tp wt cd) {i0 : Nat} (h0 : i0 < L.length) (R : Int32) (h : ∀ t, m10 s0 t → K R t) : ∀ (m i : Nat) (acc : Int32) (s : Sg), i + m = i0 + 1 → m10 s0 s → sm th cd L m i acc = R → wM_feelingTo_4 (nI i0) K (m + 1) acc (nI i) s := by
  have hk := v.1
  have hlen := VB_len v
  intro m
  induction m with
  | zero =>
    intro i acc s hi hf e
    rw [wM_feelingTo_4]
    rw [sm] at e
    subst e
    exact iT (nI_lt (by omega) (by omega)) (h s hf)
  | succ m ih =>
    intro i acc s hi hf e
    rw [wM_feelingTo_4]
    have c : MB (s 1) kn th L pk st2 se z tp wt cd := by rw [hf 1 (by omega) (by omega)]; exact m0
    have hil : i < L.length := by omega
    have hx : L.getD i 0 < kn := v.2.1.2 _ (getD_mem hil)
    have e4 : s 1 (8 + i) = nI (L.getD i 0) := by
      rw [← getD_map hil]
      exact IL_at c.2.1 (by simpa using hil)
    rw [m8, ixn (by omega), e4]
    refine iF (nI_nlt (b := i) (a := i0) (by omega) (by omega)) ⟨vp_in_nI (by omega) (by omega), ?_⟩
    refine m_feels c hk hx (m_of (j := 0) c hk hx (by omega) ?_)
    refine m_gives1 (u := 0) v c (by omega) (fun s1 k1 => ?_)
    rw [nI_1]
    exact ih (i + 1) _ s1 (by omega) (hf.trans k1) e
theorem m_time1 {x : Nat} {w : Int32} {P : Int32 → Sg → Prop} (v : VB kn th L pk st se tp wt cd) (m : MB (s 1) kn th L pk st se z tp wt cd) (hx : x < kn) (hxp : x ∈ L ∨ pk = some x) (hw : w = 0 ∨ w = 1 ∨ w = 2) (h : ∀ t, m10 s t → P (tmf th cd L x w) t) : wM_timeOf (nI x) w s P := by
  have hk := v.1
  have hlen := VB_len v
  unfold wM_timeOf
  refine m_where m v (by omega) (fun i hi => ?_) (fun q1 q2 => ?_) (fun q1 q2 => ?_)
  · have hil := (List.getElem?_eq_some_iff.mp hi).1
    have hxL : x ∈ L := List.mem_of_getElem? hi
    have hp : pos x L = i := nd_idx L v.2.1.1 _ _ _ (pos_at L hxL) hi
    refine jF (nn1 (by omega)) ?_
    unfold tmf tmi at h
    rw [hp] at h
    simp only [if_pos hxL] at h
    rcases hw with rfl | rfl | rfl
    · refine jT rfl ⟨i + 2, ?_⟩
      exact m_feelL1 v s m hil (sm th cd L (i + 1) 0 0) (fun t ht => h t ht) (i + 1) 0 0 s (by omega) m10.refl rfl
    · exact jF (by decide) (jT rfl (h s m10.refl))
    · refine jF (by decide) (jF (by decide) ?_)
      rw [show s 1 3 = nI L.length by rw [m.2.1.1]; simp]
      exact h s m10.refl
  · have := h s m10.refl
    unfold tmf at this
    rw [if_neg q1] at this
    exact jT rfl this
  · rcases hxp with q | q
    · exact absurd q q1
    · exact absurd q q2
theorem m_used1 {x : Nat} {P : Int32 → Sg → Prop} (v : VB kn th L pk st se tp wt cd) (m : MB (s 1) kn th L pk st2 se z tp wt cd) (hx : x < kn) (h : ∀ t, m10 s t → P (gvw cd 1 (nI x) (nI (th x 0)) (nI (th x 1))) t) : wM_usedOf (nI x) s P := by
  have hk := v.1
  exact m_of (j := 0) m hk hx (by omega) (m_of (j := 1) m hk hx (by omega) (m_gives1 (u := 1) v m (by omega) h))
end M10
