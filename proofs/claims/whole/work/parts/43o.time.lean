-- PURE: seconds, best, takes
def pos (x : Nat) : List Nat → Nat
  | [] => 0
  | y :: l => if y = x then 0 else pos x l + 1
theorem pos_at {x : Nat} : ∀ (l : List Nat), x ∈ l → l[pos x l]? = some x := by
  intro l
  induction l with
  | nil => intro h; simp at h
  | cons y l ih =>
    intro h
    by_cases q : y = x
    · simp [pos, q]
    · rcases List.mem_cons.mp h with e | h
      · exact absurd e.symm q
      · simp [pos, q, ih h]
theorem pos_perm {x : Nat} : ∀ (l : List Nat), x ∈ l → (x :: l.eraseIdx (pos x l)).Perm l := by
  intro l
  induction l with
  | nil => intro h; simp at h
  | cons y l ih =>
    intro h
    by_cases q : y = x
    · simp [pos, q]
    · rcases List.mem_cons.mp h with e | h
      · exact absurd e.symm q
      · simp only [pos, if_neg q, List.eraseIdx_cons_succ]
        exact (List.Perm.swap y x _).trans ((ih h).cons y)
def sm (th : Nat → Nat → Nat) (cd : Nat → List Int32) (L : List Nat) : Nat → Nat → Int32 → Int32
  | 0, _, acc => acc
  | m + 1, i, acc => sm th cd L m (i + 1) (acc + gvw cd 0 (fls th (L.getD i 0)) (nI i) (nI (th (L.getD i 0) 0)))
theorem sm_nat {th : Nat → Nat → Nat} {cd : Nat → List Int32} {L : List Nat} : ∀ (m i a : Nat), ∃ n, n ≤ a + 99 * m ∧ sm th cd L m i (nI a) = nI n := by
  intro m
  induction m with
  | zero => intro i a; exact ⟨a, by omega, rfl⟩
  | succ m ih =>
    intro i a
    obtain ⟨g, hg, e⟩ := gvw_nat cd 0 (fls th (L.getD i 0)) (nI i) (nI (th (L.getD i 0) 0))
    obtain ⟨n, hn, e2⟩ := ih (i + 1) (a + g)
    refine ⟨n, by omega, ?_⟩
    rw [sm, e, nI_add]
    exact e2
def tmi (th : Nat → Nat → Nat) (cd : Nat → List Int32) (L : List Nat) (i : Nat) (w : Int32) : Int32 := if w = 1 then 3 + 2 * nI i else if w = 2 then 9 + 2 * nI L.length else sm th cd L (i + 1) 0 0
def tmf (th : Nat → Nat → Nat) (cd : Nat → List Int32) (L : List Nat) (x : Nat) (w : Int32) : Int32 := if x ∈ L then tmi th cd L (pos x L) w else 4
theorem tmf_nat {th : Nat → Nat → Nat} {cd : Nat → List Int32} {L : List Nat} {x : Nat} {w : Int32} (hl : L.length ≤ 9) : ∃ n, n ≤ 9999 ∧ tmf th cd L x w = nI n := by
  unfold tmf
  by_cases q : x ∈ L
  · rw [if_pos q]
    have hp := (List.getElem?_eq_some_iff.mp (pos_at L q)).1
    unfold tmi
    by_cases w1 : w = 1
    · rw [if_pos w1]
      exact ⟨3 + 2 * pos x L, by omega, by rw [show (3 : Int32) = nI 3 from rfl, show (2 : Int32) = nI 2 from rfl, pk_mul, nI_add]⟩
    · rw [if_neg w1]
      by_cases w2 : w = 2
      · rw [if_pos w2]
        exact ⟨9 + 2 * L.length, by omega, by rw [show (9 : Int32) = nI 9 from rfl, show (2 : Int32) = nI 2 from rfl, pk_mul, nI_add]⟩
      · rw [if_neg w2]
        obtain ⟨n, hn, e⟩ := sm_nat (th := th) (cd := cd) (L := L) (pos x L + 1) 0 0
        exact ⟨n, by omega, e⟩
  · rw [if_neg q]; exact ⟨4, by omega, rfl⟩
section TIM
variable {s t : Sg} {kn : Nat} {th : Nat → Nat → Nat} {L : List Nat} {pk : Option Nat} {st se : Nat} {z : Int32} {tp : List Nat} {wt : List Int32} {cd : Nat → List Int32}
theorem getD_mem {l : List Nat} {i : Nat} (h : i < l.length) : l.getD i 0 ∈ l := by
  rw [List.getD_eq_getElem?_getD, List.getElem?_eq_getElem h]; exact List.getElem_mem _
theorem c_timeL {K : Int32 → Sg → Prop} (v : VB kn th L pk st se tp wt cd) (s0 : Sg) (c0 : CB s0 1 kn th L pk st se z tp wt cd) {i0 : Nat} (h0 : i0 < L.length) (R : Int32) (h : ∀ t, scr s0 t → K R t) : ∀ (m i : Nat) (acc : Int32) (s : Sg), i + m = i0 + 1 → scr s0 s → sm th cd L m i acc = R → wBag_time_50 (nI i0) K (m + 1) acc (nI i) s := by
  have hk := v.1
  have hlen := VB_len v
  intro m
  induction m with
  | zero =>
    intro i acc s hi hf e
    rw [wBag_time_50]
    rw [sm] at e
    subst e
    exact iT (nI_lt (by omega) (by omega)) (h s hf)
  | succ m ih =>
    intro i acc s hi hf e
    rw [wBag_time_50]
    have c := scr_CB hk c0 hf
    have hil : i < L.length := by omega
    have hx : L.getD i 0 < kn := v.2.1.2 _ (getD_mem hil)
    have e4 : s 4 (ix (nI i)) = nI (L.getD i 0) := by
      rw [ixn (by omega), ← getD_map hil]
      exact IL_at c.2.1 (by simpa using hil)
    rw [e4]
    refine iF (nI_nlt (b := i) (a := i0) (by omega) (by omega)) ⟨vp_in_nI (by omega) (by omega), vp_in_nI (by omega) (by omega), ?_⟩
    rw [t11 (by omega)]
    have h8 := v.2.2.2.2.2.2.2.1 _ hx
    refine p_feels c hx (by omega) ?_
    rw [c.2.2.2.2.1 _ hx 0 (by omega)]
    refine c_gives (u := 0) v c (by omega) (fun s1 k1 => ?_)
    rw [nI_1]
    exact ih (i + 1) _ s1 (by omega) (hf.trans k1) e
theorem c_time {x : Nat} {w : Int32} {P : Int32 → Sg → Prop} (v : VB kn th L pk st se tp wt cd) (c : CB s 1 kn th L pk st se z tp wt cd) (hx : x < kn) (h : ∀ t, scr s t → P (tmf th cd L x w) t) : wBag_time (nI x) w s P := by
  have hk := v.1
  have hlen := VB_len v
  unfold wBag_time
  refine p_placeOf (l := L.map nI) c.2.1 (by rw [cp3]; simp; omega) cap9 (fun i hi _ => ?_) (fun hn => ?_)
  · have hi2 := (mapget v.2.1.2 hk (by omega)).mp hi
    have hil := (List.getElem?_eq_some_iff.mp hi2).1
    have hxL : x ∈ L := List.mem_of_getElem? hi2
    have hp : pos x L = i := nd_idx L v.2.1.1 _ _ _ (pos_at L hxL) hi2
    refine iT (nI_pos' (by omega)) ?_
    unfold tmf tmi at h
    rw [hp] at h
    simp only [if_pos hxL] at h
    refine ⟨fun q1 => ⟨fun q2 => ⟨i + 2, ?_⟩, fun q2 => ?_⟩, fun q1 => ?_⟩
    · simp only [if_neg q1, if_neg q2] at h
      exact c_timeL v s c hil (sm th cd L (i + 1) 0 0) (fun t ht => h t ht) (i + 1) 0 0 s (by omega) scr.refl rfl
    · have := h s scr.refl
      rw [if_neg q1, if_pos q2] at this
      rw [show s 3 1 = nI L.length by rw [c.2.1.1]; simp]
      exact this
    · have := h s scr.refl
      rw [if_pos q1] at this
      exact this
  · have hnL : x ∉ L := fun q => hn ((mapmem v.2.1.2 hk (by omega)).mpr q)
    have := h s scr.refl
    unfold tmf at this
    rw [if_neg hnL] at this
    exact iF (by decide) this
theorem m_feelL {K : Int32 → Sg → Prop} (v : VB kn th L pk st se tp wt cd) (s0 : Sg) (m0 : MB (s0 1) kn th L pk st se z tp wt cd) {i0 : Nat} (h0 : i0 < L.length) (R : Int32) (h : ∀ t, mq s0 t → K R t) : ∀ (m i : Nat) (acc : Int32) (s : Sg), i + m = i0 + 1 → mq s0 s → sm th cd L m i acc = R → wM_feelingTo_4 (nI i0) K (m + 1) acc (nI i) s := by
  have hk := v.1
  have hlen := VB_len v
  intro m
  induction m with
  | zero =>
    intro i acc s hi hf e
    rw [wM_feelingTo_4]
    rw [sm] at e
    subst e
    exact iT (nI_lt (by omega) (by omega)) (h s hf)
  | succ m ih =>
    intro i acc s hi hf e
    rw [wM_feelingTo_4]
    have c : MB (s 1) kn th L pk st se z tp wt cd := by rw [hf.1]; exact m0
    have hil : i < L.length := by omega
    have hx : L.getD i 0 < kn := v.2.1.2 _ (getD_mem hil)
    have e4 : s 1 (8 + i) = nI (L.getD i 0) := by
      rw [← getD_map hil]
      exact IL_at c.2.1 (by simpa using hil)
    rw [m8, ixn (by omega), e4]
    refine iF (nI_nlt (b := i) (a := i0) (by omega) (by omega)) ⟨vp_in_nI (by omega) (by omega), ?_⟩
    refine m_feels c hk hx (m_of (j := 0) c hk hx (by omega) ?_)
    refine m_gives (u := 0) v c (by omega) (fun s1 k1 => ?_)
    rw [nI_1]
    exact ih (i + 1) _ s1 (by omega) (hf.trans k1) e
theorem m_time {x : Nat} {w : Int32} {P : Int32 → Sg → Prop} (v : VB kn th L pk st se tp wt cd) (m : MB (s 1) kn th L pk st se z tp wt cd) (hx : x < kn) (hxp : x ∈ L ∨ pk = some x) (hw : w = 0 ∨ w = 1 ∨ w = 2) (h : ∀ t, mq s t → P (tmf th cd L x w) t) : wM_timeOf (nI x) w s P := by
  have hk := v.1
  have hlen := VB_len v
  unfold wM_timeOf
  refine m_where m v (by omega) (fun i hi => ?_) (fun q1 q2 => ?_) (fun q1 q2 => ?_)
  · have hil := (List.getElem?_eq_some_iff.mp hi).1
    have hxL : x ∈ L := List.mem_of_getElem? hi
    have hp : pos x L = i := nd_idx L v.2.1.1 _ _ _ (pos_at L hxL) hi
    refine jF (nn1 (by omega)) ?_
    unfold tmf tmi at h
    rw [hp] at h
    simp only [if_pos hxL] at h
    rcases hw with rfl | rfl | rfl
    · refine jT rfl ⟨i + 2, ?_⟩
      exact m_feelL v s m hil (sm th cd L (i + 1) 0 0) (fun t ht => h t ht) (i + 1) 0 0 s (by omega) mq.refl rfl
    · exact jF (by decide) (jT rfl (h s mq.refl))
    · refine jF (by decide) (jF (by decide) ?_)
      rw [show s 1 3 = nI L.length by rw [m.2.1.1]; simp]
      exact h s mq.refl
  · have := h s mq.refl
    unfold tmf at this
    rw [if_neg q1] at this
    exact jT rfl this
  · rcases hxp with q | q
    · exact absurd q q1
    · exact absurd q q2
def bsw (T : Int32 → Int32) : Int32 := if (if T 0 ≤ T 1 then T 0 else T 1) ≤ T 2 then (if T 0 ≤ T 1 then 0 else 1) else 2
theorem bsw_in (T : Int32 → Int32) : bsw T = 0 ∨ bsw T = 1 ∨ bsw T = 2 := by
  unfold bsw
  by_cases q1 : T 0 ≤ T 1
  · rw [if_pos q1, if_pos q1]
    by_cases q2 : T 0 ≤ T 2
    · rw [if_pos q2]; exact Or.inl rfl
    · rw [if_neg q2]; exact Or.inr (Or.inr rfl)
  · rw [if_neg q1, if_neg q1]
    by_cases q2 : T 1 ≤ T 2
    · rw [if_pos q2]; exact Or.inr (Or.inl rfl)
    · rw [if_neg q2]; exact Or.inr (Or.inr rfl)
abbrev bsf (th : Nat → Nat → Nat) (cd : Nat → List Int32) (L : List Nat) (x : Nat) : Int32 := bsw (tmf th cd L x)
theorem c_best {x : Nat} {P : Int32 → Sg → Prop} (v : VB kn th L pk st se tp wt cd) (c : CB s 1 kn th L pk st se z tp wt cd) (hx : x < kn) (h : ∀ t, scr s t → P (bsf th cd L x) t) : wBag_bestWay (nI x) s P := by
  have hk := v.1
  unfold wBag_bestWay
  refine c_time v c hx (fun s1 k1 => ⟨3, ?_⟩)
  have c1 := scr_CB hk c k1
  rw [wBag_bestWay_12]
  refine iF (by decide) (c_time v c1 hx (fun s2 k2 => ?_))
  have c2 := scr_CB hk c1 k2
  unfold bsf bsw at h
  refine ⟨fun q => ?_, fun q => ?_⟩
  · simp only [if_pos q] at h
    rw [wBag_bestWay_12, show (1 : Int32) + 1 = 2 by decide]
    refine iF (by decide) (c_time v c2 hx (fun s3 k3 => ?_))
    refine ⟨fun q2 => ?_, fun q2 => ?_⟩
    · rw [wBag_bestWay_12]
      have := h s3 ((k1.trans k2).trans k3)
      rw [if_pos q2] at this
      exact iT (by decide) this
    · rw [wBag_bestWay_12]
      have := h s3 ((k1.trans k2).trans k3)
      rw [if_neg q2] at this
      exact iT (by decide) this
  · simp only [if_neg q] at h
    rw [wBag_bestWay_12, show (1 : Int32) + 1 = 2 by decide]
    refine iF (by decide) (c_time v c2 hx (fun s3 k3 => ?_))
    refine ⟨fun q2 => ?_, fun q2 => ?_⟩
    · rw [wBag_bestWay_12]
      have := h s3 ((k1.trans k2).trans k3)
      rw [if_pos q2] at this
      exact iT (by decide) this
    · rw [wBag_bestWay_12]
      have := h s3 ((k1.trans k2).trans k3)
      rw [if_neg q2] at this
      exact iT (by decide) this
theorem m_best {x : Nat} {P : Int32 → Sg → Prop} (v : VB kn th L pk st se tp wt cd) (m : MB (s 1) kn th L pk st se z tp wt cd) (hx : x < kn) (hxp : x ∈ L ∨ pk = some x) (h : ∀ t, mq s t → P (bsf th cd L x) t) : wM_bestWay (nI x) s P := by
  have mm : ∀ {s1 : Sg}, mq s s1 → MB (s1 1) kn th L pk st se z tp wt cd := fun k => by rw [k.1]; exact m
  unfold wM_bestWay
  refine ⟨3, ?_⟩
  rw [wM_bestWay_4]
  refine iF (by decide) (m_time v m hx hxp (Or.inr (Or.inl rfl)) (fun s1 k1 => m_time v (mm k1) hx hxp (Or.inl rfl) (fun s2 k2 => ?_)))
  have k12 := k1.trans k2
  unfold bsf bsw at h
  refine ⟨fun q => ?_, fun q => ?_⟩
  · simp only [if_pos q] at h
    rw [wM_bestWay_4, show (1 : Int32) + 1 = 2 by decide]
    refine iF (by decide) (m_time v (mm k12) hx hxp (Or.inr (Or.inr rfl)) (fun s3 k3 => m_time v (mm (k12.trans k3)) hx hxp (Or.inl rfl) (fun s4 k4 => ?_)))
    refine ⟨fun q2 => ?_, fun q2 => ?_⟩
    · rw [wM_bestWay_4]
      have := h s4 ((k12.trans k3).trans k4)
      rw [if_pos q2] at this
      exact iT (by decide) this
    · rw [wM_bestWay_4]
      have := h s4 ((k12.trans k3).trans k4)
      rw [if_neg q2] at this
      exact iT (by decide) this
  · simp only [if_neg q] at h
    rw [wM_bestWay_4, show (1 : Int32) + 1 = 2 by decide]
    refine iF (by decide) (m_time v (mm k12) hx hxp (Or.inr (Or.inr rfl)) (fun s3 k3 => m_time v (mm (k12.trans k3)) hx hxp (Or.inr (Or.inl rfl)) (fun s4 k4 => ?_)))
    refine ⟨fun q2 => ?_, fun q2 => ?_⟩
    · rw [wM_bestWay_4]
      have := h s4 ((k12.trans k3).trans k4)
      rw [if_pos q2] at this
      exact iT (by decide) this
    · rw [wM_bestWay_4]
      have := h s4 ((k12.trans k3).trans k4)
      rw [if_neg q2] at this
      exact iT (by decide) this
end TIM
theorem p_wayT {w : Nat} {s : Sg} {P : Int32 → Sg → Prop} (h : w < 3) (k : P 1 s) : wB_isWay (nI w) s P :=
  iF (nI_pos (by omega)) (iF (nI_ge (a := w) (b := 3) h (by omega)) k)
theorem p_wayF {a : Int32} {s : Sg} {P : Int32 → Sg → Prop} (h : ¬ (((0 : Nat) : Int) ≤ a.toInt ∧ a.toInt ≤ ((2 : Nat) : Int))) (k : P 0 s) : wB_isWay a s P := by
  unfold wB_isWay
  simp only [Int32.lt_iff_toInt_lt, Int32.le_iff_toInt_le, show (0 : Int32).toInt = 0 by decide, show (3 : Int32).toInt = 3 by decide]
  exact ⟨fun _ => k, fun z => ⟨fun _ => k, fun z2 => absurd ⟨by omega, by omega⟩ h⟩⟩
theorem way3 {w : Nat} (h : w ≤ 2) : nI w = 0 ∨ nI w = 1 ∨ nI w = 2 := by
  rcases (show w = 0 ∨ w = 1 ∨ w = 2 by omega) with rfl | rfl | rfl
  · exact Or.inl rfl
  · exact Or.inr (Or.inl rfl)
  · exact Or.inr (Or.inr rfl)
/-- where a thing is, both sides the same -/
theorem here2 {s t : Sg} {kn : Nat} {th : Nat → Nat → Nat} {L : List Nat} {pk : Option Nat} {st se : Nat} {z : Int32} {tp : List Nat} {wt : List Int32} {cd : Nat → List Int32} {x : Nat} {A B C D : (Int32 → Sg → Prop) → Sg → Prop} {Q : Int32 → Sg → Prop} (v : VB kn th L pk st se tp wt cd) (c : CB s 1 kn th L pk st se z tp wt cd) (hx : x < kn) (h1 : (x ∈ L ∨ pk = some x) → A Q s) (h0 : x ∉ L → pk ≠ some x → B Q s) : wBag_whereIs (nI x) s (fun r3 s3 => (¬ r3 = -2 → A Q s3) ∧ (r3 = -2 → B Q s3)) := by
  have hk := v.1
  have hlen := VB_len v
  exact c_where c v (by omega) (fun i hi => jF (nn2 (by have := (List.getElem?_eq_some_iff.mp hi).1; omega)) (h1 (Or.inl (List.mem_of_getElem? hi)))) (fun _ q => jF (by decide) (h1 (Or.inr q))) (fun q1 q2 => jT rfl (h0 q1 q2))
theorem mhere {t : Sg} {kn : Nat} {th : Nat → Nat → Nat} {L : List Nat} {pk : Option Nat} {st se : Nat} {z : Int32} {tp : List Nat} {wt : List Int32} {cd : Nat → List Int32} {x : Nat} {A B : Sg → Prop} (v : VB kn th L pk st se tp wt cd) (m : MB (t 1) kn th L pk st se z tp wt cd) (hx : x < kn) (h1 : (x ∈ L ∨ pk = some x) → A t) (h0 : x ∉ L → pk ≠ some x → B t) : wM_whereIs (nI x) t (fun r3 s3 => (¬ r3 = -2 → A s3) ∧ (r3 = -2 → B s3)) := by
  have hk := v.1
  have hlen := VB_len v
  exact m_where m v (by omega) (fun i hi => jF (nn2 (by have := (List.getElem?_eq_some_iff.mp hi).1; omega)) (h1 (Or.inl (List.mem_of_getElem? hi)))) (fun _ q => jF (by decide) (h1 (Or.inr q))) (fun q1 q2 => jT rfl (h0 q1 q2))
theorem chere {s : Sg} {kn : Nat} {th : Nat → Nat → Nat} {L : List Nat} {pk : Option Nat} {st se : Nat} {z : Int32} {tp : List Nat} {wt : List Int32} {cd : Nat → List Int32} {x : Nat} {A B : Sg → Prop} (v : VB kn th L pk st se tp wt cd) (c : CB s 1 kn th L pk st se z tp wt cd) (hx : x < kn) (h1 : (x ∈ L ∨ pk = some x) → A s) (h0 : x ∉ L → pk ≠ some x → B s) : wBag_whereIs (nI x) s (fun r3 s3 => (¬ r3 = -2 → A s3) ∧ (r3 = -2 → B s3)) := by
  have hk := v.1
  have hlen := VB_len v
  exact c_where c v (by omega) (fun i hi => jF (nn2 (by have := (List.getElem?_eq_some_iff.mp hi).1; omega)) (h1 (Or.inl (List.mem_of_getElem? hi)))) (fun _ q => jF (by decide) (h1 (Or.inr q))) (fun q1 q2 => jT rfl (h0 q1 q2))
theorem eq_seconds {a1 a2 : Int32} {s t : Sg} (h : Rel s t) : wB_seconds a1 a2 s (fun r s => wM_seconds a1 a2 t (fun r2 t => r = r2 ∧ Rel s t)) := by
  obtain ⟨kn, th, L, pk, st, se, z, tp, wt, cd, v, c, m⟩ := id h.1
  have hk := v.1
  unfold wB_seconds
  rcases nthing (a := a1) hk with ⟨x, hx, rfl⟩ | hn
  · refine p_knowsT c.1.1 (by omega) hx (sel1 ?_)
    rcases rng a2 0 2 (by omega) with ⟨w, -, hw, rfl⟩ | hw
    · refine p_wayT (by omega) (les1 (chere v c hx (fun hxp => c_time v c hx (fun s1 k1 => ?_)) (fun q1 q2 => eq_err h cc3 (by omega) (by omega) (fun P hP => ?_))))
      · exact m_isThingT m.1.1 (by omega) hx (sel1 (m_inT (lo := 0) (hi := 2) (by omega) hw (by omega) (les1 (mhere v m hx (fun _ => m_time v m hx hxp (way3 hw) (fun t1 g1 => ⟨rfl, scr_Rel h k1 g1⟩)) (fun q1 q2 => by rcases hxp with q | q; exact absurd q q1; exact absurd q q2)))))
      · exact m_isThingT m.1.1 (by omega) hx (sel1 (m_inT (lo := 0) (hi := 2) (by omega) hw (by omega) (les1 (mhere v m hx (fun hxp => by rcases hxp with q | q; exact absurd q q1; exact absurd q q2) (fun _ _ => m_error cc3 (by omega) (by omega) hP)))))
    · exact p_wayF hw (les0 (eq_err h cc1 (by omega) (by omega) (fun P hP => m_isThingT m.1.1 (by omega) hx (sel1 (m_inF (lo := 0) (hi := 2) (by omega) (by omega) hw (les0 (m_error cc1 (by omega) (by omega) hP)))))))
  · exact p_knowsF c.1.1 (by omega) hn (sel0 (eq_err h cc1 (by omega) (by omega) (fun P hP => m_isThingF m.1.1 (by omega) hn (sel0 (m_error cc1 (by omega) (by omega) hP)))))
theorem eq_best {a1 a2 : Int32} {s t : Sg} (h : Rel s t) : wB_best a1 a2 s (fun r s => wM_best a1 a2 t (fun r2 t => r = r2 ∧ Rel s t)) := by
  obtain ⟨kn, th, L, pk, st, se, z, tp, wt, cd, v, c, m⟩ := id h.1
  have hk := v.1
  unfold wB_best
  rcases nthing (a := a1) hk with ⟨x, hx, rfl⟩ | hn
  · refine p_knowsT c.1.1 (by omega) hx (sel1 ?_)
    rcases rng a2 0 1 (by omega) with ⟨w, -, hw, rfl⟩ | hw
    · refine iF (nI_pos (by omega)) (iT (nI_le (b := 1) hw (by omega)) (chere v c hx (fun hxp => c_best v c hx (fun s1 k1 => ?_)) (fun q1 q2 => eq_err h cc3 (by omega) (by omega) (fun P hP => ?_))))
      · have c1 := scr_CB hk c k1
        have mm : ∀ {P : Int32 → Sg → Prop}, (∀ t1, mq t t1 → ((¬ nI w = 0 → (wM_timeOf (nI x) (bsf th cd L x) t1 P)) ∧ (nI w = 0 → P (bsf th cd L x) t1))) → wM_best (nI x) (nI w) t P := fun q => m_isThingT m.1.1 (by omega) hx (sel1 (m_inT (lo := 0) (hi := 1) (by omega) hw (by omega) (les1 (mhere v m hx (fun _ => m_best v m hx hxp q) (fun q1 q2 => by rcases hxp with q | q; exact absurd q q1; exact absurd q q2)))))
        refine ⟨fun q => c_time v c1 hx (fun s2 k2 => mm (fun t1 g1 => jF q (m_time v (by rw [g1.1]; exact m) hx hxp (bsw_in _) (fun t2 g2 => ⟨rfl, scr_Rel h (k1.trans k2) (g1.trans g2)⟩)))), fun q => mm (fun t1 g1 => jT q ⟨rfl, scr_Rel h k1 g1⟩)⟩
      · exact m_isThingT m.1.1 (by omega) hx (sel1 (m_inT (lo := 0) (hi := 1) (by omega) hw (by omega) (les1 (mhere v m hx (fun hxp => by rcases hxp with q | q; exact absurd q q1; exact absurd q q2) (fun _ _ => m_error cc3 (by omega) (by omega) hP)))))
    · have bad : wB_failed (-1000000001) s (fun r s => wM_best (nI x) a2 t (fun r2 t => r = r2 ∧ Rel s t)) := eq_err h cc1 (by omega) (by omega) (fun P hP => m_isThingT m.1.1 (by omega) hx (sel1 (m_inF (lo := 0) (hi := 1) (by omega) (by omega) hw (les0 (m_error cc1 (by omega) (by omega) hP)))))
      simp only [Int32.lt_iff_toInt_lt, Int32.le_iff_toInt_le, show (0 : Int32).toInt = 0 by decide, show (1 : Int32).toInt = 1 by decide]
      exact ⟨fun _ => bad, fun z1 => ⟨fun z2 => absurd ⟨by omega, by omega⟩ hw, fun _ => bad⟩⟩
  · exact p_knowsF c.1.1 (by omega) hn (sel0 (eq_err h cc1 (by omega) (by omega) (fun P hP => m_isThingF m.1.1 (by omega) hn (sel0 (m_error cc1 (by omega) (by omega) hP)))))
