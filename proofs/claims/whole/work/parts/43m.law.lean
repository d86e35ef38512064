-- PURE: the law
def opc (n a b : Int32) : Int32 := if n = 37 then (if b = 0 then 0 else a - a / b * b) else if n = 38 then (if a = 0 then 0 else if b = 0 then 0 else 1) else if n = 42 then a * b else if n = 43 then a + b else if n = 45 then a - b else if n = 47 then (if b = 0 then 0 else a / b) else if n = 60 then (if b ≤ a then 0 else 1) else if n = 61 then (if a = b then 1 else 0) else if n = 62 then (if a ≤ b then 0 else 1) else (if a = 0 then (if b = 0 then 0 else 1) else 1)
theorem m_twoOf {n a b : Int32} {s : Sg} {P : Int32 → Sg → Prop} (h : P (opc n a b) s) : wM_twoOf n a b s P := by
  unfold wM_twoOf
  unfold opc at h
  refine ⟨fun q => ⟨fun w => ⟨w, ?_⟩, fun w => ?_⟩, fun q1 => ⟨fun q => ⟨fun w => ?_, fun w => ⟨fun x => ?_, fun x => ?_⟩⟩, fun q2 => ⟨fun q => ?_, fun q3 => ⟨fun q => ?_, fun q4 => ⟨fun q => ?_, fun q5 => ⟨fun q => ⟨fun w => ⟨w, ?_⟩, fun w => ?_⟩, fun q6 => ⟨fun q => ⟨fun w => ?_, fun w => ?_⟩, fun q7 => ⟨fun q => ⟨fun w => ?_, fun w => ?_⟩, fun q8 => ⟨fun q => ⟨fun w => ?_, fun w => ?_⟩, fun q9 => ⟨fun w => ?_, fun w => ⟨fun x => ?_, fun x => ?_⟩⟩⟩⟩⟩⟩⟩⟩⟩⟩⟩
  · rw [if_pos q, if_neg w] at h; exact h
  · rw [if_pos q, if_pos w] at h; exact h
  · rw [if_neg q1, if_pos q, if_pos w] at h; exact h
  · rw [if_neg q1, if_pos q, if_neg w, if_pos x] at h; exact h
  · rw [if_neg q1, if_pos q, if_neg w, if_neg x] at h; exact h
  · rw [if_neg q1, if_neg q2, if_pos q] at h; exact h
  · rw [if_neg q1, if_neg q2, if_neg q3, if_pos q] at h; exact h
  · rw [if_neg q1, if_neg q2, if_neg q3, if_neg q4, if_pos q] at h; exact h
  · rw [if_neg q1, if_neg q2, if_neg q3, if_neg q4, if_neg q5, if_pos q, if_neg w] at h; exact h
  · rw [if_neg q1, if_neg q2, if_neg q3, if_neg q4, if_neg q5, if_pos q, if_pos w] at h; exact h
  · rw [if_neg q1, if_neg q2, if_neg q3, if_neg q4, if_neg q5, if_neg q6, if_pos q, if_pos w] at h; exact h
  · rw [if_neg q1, if_neg q2, if_neg q3, if_neg q4, if_neg q5, if_neg q6, if_pos q, if_neg w] at h; exact h
  · rw [if_neg q1, if_neg q2, if_neg q3, if_neg q4, if_neg q5, if_neg q6, if_neg q7, if_pos q, if_neg w] at h; exact h
  · rw [if_neg q1, if_neg q2, if_neg q3, if_neg q4, if_neg q5, if_neg q6, if_neg q7, if_pos q, if_pos w] at h; exact h
  · rw [if_neg q1, if_neg q2, if_neg q3, if_neg q4, if_neg q5, if_neg q6, if_neg q7, if_neg q8, if_pos q, if_pos w] at h; exact h
  · rw [if_neg q1, if_neg q2, if_neg q3, if_neg q4, if_neg q5, if_neg q6, if_neg q7, if_neg q8, if_pos q, if_neg w] at h; exact h
  · rw [if_neg q1, if_neg q2, if_neg q3, if_neg q4, if_neg q5, if_neg q6, if_neg q7, if_neg q8, if_neg q9, if_neg w] at h; exact h
  · rw [if_neg q1, if_neg q2, if_neg q3, if_neg q4, if_neg q5, if_neg q6, if_neg q7, if_neg q8, if_neg q9, if_pos w, if_pos x] at h; exact h
  · rw [if_neg q1, if_neg q2, if_neg q3, if_neg q4, if_neg q5, if_neg q6, if_neg q7, if_neg q8, if_neg q9, if_pos w, if_neg x] at h; exact h
theorem p_joined {n a b : Int32} {s : Sg} {P : Int32 → Sg → Prop} (hn : n ∈ [(124 : Int32), 38, 60, 61, 62, 43, 45, 42, 47, 37]) (h : P (opc n a b) s) : wText_joined n a b s P := by
  unfold wText_joined
  unfold opc at h
  refine ⟨fun q => ?_, fun q2 => ⟨fun q => ?_, fun q3 => ⟨fun q => ?_, fun q4 => ⟨fun q => ?_, fun q5 => ⟨fun q => ?_, fun q6 => ⟨fun q => ?_, fun q7 => ⟨fun q => ?_, fun q8 => ⟨fun q => ?_, fun q9 => ⟨fun q => ?_, fun q10 => ?_⟩⟩⟩⟩⟩⟩⟩⟩⟩
  · have q1 : ¬ n = 37 := by rw [q]; decide
    rw [if_neg q1, if_pos q] at h
    refine ⟨fun w => ?_, fun w => ⟨fun x => ?_, fun x => ?_⟩⟩
    · rw [if_pos w] at h; exact h
    · rw [if_neg w, if_pos x] at h; exact h
    · rw [if_neg w, if_neg x] at h; exact h
  · have q1 : ¬ n = 37 := by rw [q]; decide
    rw [if_neg q1, if_neg q2, if_pos q] at h; exact h
  · have q1 : ¬ n = 37 := by rw [q]; decide
    rw [if_neg q1, if_neg q2, if_neg q3, if_pos q] at h; exact h
  · have q1 : ¬ n = 37 := by rw [q]; decide
    rw [if_neg q1, if_neg q2, if_neg q3, if_neg q4, if_pos q] at h; exact h
  · have q1 : ¬ n = 37 := by rw [q]; decide
    rw [if_neg q1, if_neg q2, if_neg q3, if_neg q4, if_neg q5, if_pos q] at h
    refine ⟨fun w => ⟨w, ?_⟩, fun w => ?_⟩
    · rw [if_neg w] at h; exact h
    · rw [if_pos w] at h; exact h
  · have q1 : ¬ n = 37 := by rw [q]; decide
    rw [if_neg q1, if_neg q2, if_neg q3, if_neg q4, if_neg q5, if_neg q6, if_pos q] at h
    refine ⟨fun w => ?_, fun w => ?_⟩
    · rw [if_pos w] at h; exact h
    · rw [if_neg w] at h; exact h
  · have q1 : ¬ n = 37 := by rw [q]; decide
    rw [if_neg q1, if_neg q2, if_neg q3, if_neg q4, if_neg q5, if_neg q6, if_neg q7, if_pos q] at h
    refine ⟨fun w => ?_, fun w => ?_⟩
    · rw [if_neg w] at h; exact h
    · rw [if_pos w] at h; exact h
  · have q1 : ¬ n = 37 := by rw [q]; decide
    rw [if_neg q1, if_neg q2, if_neg q3, if_neg q4, if_neg q5, if_neg q6, if_neg q7, if_neg q8, if_pos q] at h
    refine ⟨fun w => ?_, fun w => ?_⟩
    · rw [if_pos w] at h; exact h
    · rw [if_neg w] at h; exact h
  · have q1 : ¬ n = 37 := by rw [q]; decide
    rw [if_neg q1, if_neg q2, if_neg q3, if_neg q4, if_neg q5, if_neg q6, if_neg q7, if_neg q8, if_neg q9] at h
    refine ⟨fun w => ?_, fun w => ⟨fun x => ?_, fun x => ?_⟩⟩
    · rw [if_neg w] at h; exact h
    · rw [if_pos w, if_pos x] at h; exact h
    · rw [if_pos w, if_neg x] at h; exact h
  · have q1 : n = 37 := by
      simp only [List.mem_cons, List.not_mem_nil, or_false] at hn
      rcases hn with e | e | e | e | e | e | e | e | e | e
      · exact absurd e q10
      · exact absurd e q2
      · exact absurd e q7
      · exact absurd e q8
      · exact absurd e q9
      · exact absurd e q4
      · exact absurd e q5
      · exact absurd e q3
      · exact absurd e q6
      · exact e
    rw [if_pos q1] at h
    refine ⟨fun w => ⟨w, ?_⟩, fun w => ?_⟩
    · rw [if_neg w] at h; exact h
    · rw [if_pos w] at h; exact h
def vlf (p0 p1 p2 c : Int32) : Int32 := if 0 ≤ c.toInt then c else if c = -1 then p0 else if c = -2 then p1 else p2
/-- a text, worked out; the pile's top comes first -/
def ev (p0 p1 p2 : Int32) : List Int32 → List Int32 → List Int32
  | [], st => st
  | c :: r, st => if -3 ≤ c.toInt then ev p0 p1 p2 r (vlf p0 p1 p2 c :: st) else if c = -33 then (match st with
    | a :: st => ev p0 p1 p2 r ((if a = 0 then 1 else 0) :: st)
    | [] => []) else (match st with
    | b :: a :: st => ev p0 p1 p2 r (opc (-c) a b :: st)
    | _ => [])
theorem ev_p {p0 p1 p2 c : Int32} {r st : List Int32} (h : -3 ≤ c.toInt) : ev p0 p1 p2 (c :: r) st = ev p0 p1 p2 r (vlf p0 p1 p2 c :: st) := by
  rw [ev.eq_def]
  simp [h]
theorem ev_n {p0 p1 p2 c a : Int32} {r st : List Int32} (h : ¬ -3 ≤ c.toInt) (h2 : c = -33) : ev p0 p1 p2 (c :: r) (a :: st) = ev p0 p1 p2 r ((if a = 0 then 1 else 0) :: st) := by
  rw [ev.eq_def]
  simp only [if_neg h, if_pos h2]
theorem ev_o {p0 p1 p2 c a b : Int32} {r st : List Int32} (h : ¬ -3 ≤ c.toInt) (h2 : ¬ c = -33) : ev p0 p1 p2 (c :: r) (b :: a :: st) = ev p0 p1 p2 r (opc (-c) a b :: st) := by
  rw [ev.eq_def]
  simp only [if_neg h, if_neg h2]
def PSt (f : Nat → Int32) : List Int32 → Prop
  | [] => True
  | a :: st => f st.length = a ∧ PSt f st
theorem PSt_congr {f g : Nat → Int32} : ∀ (st : List Int32), (∀ i, i < st.length → g i = f i) → PSt f st → PSt g st := by
  intro st
  induction st with
  | nil => intro _ _; trivial
  | cons a st ih =>
    intro h1 h2
    exact ⟨(h1 _ (by simp)).trans h2.1, ih (fun i hi => h1 i (by simp; omega)) h2.2⟩
theorem lo3 {c : Int32} : c < (-3) ↔ ¬ -3 ≤ c.toInt := by
  rw [Int32.lt_iff_toInt_lt, show (-3 : Int32).toInt = -3 by decide]
  omega
theorem lo0 {c : Int32} : c < 0 ↔ ¬ 0 ≤ c.toInt := by
  rw [Int32.lt_iff_toInt_lt, show (0 : Int32).toInt = 0 by decide]
  omega
theorem ngc {c : Int32} (h : cOk c) (h3 : ¬ -3 ≤ c.toInt) (h33 : c ≠ -33) : -c ∈ [(124 : Int32), 38, 60, 61, 62, 43, 45, 42, 47, 37] := by
  rcases h with h | h
  · exact absurd h h3
  · simp only [List.mem_cons, List.not_mem_nil, or_false] at h
    rcases h with e | e | e | e | e | e | e | e | e | e | e
    · exact absurd e h33
    all_goals (subst e; decide)
theorem c_valL {k : Nat} {p0 p1 p2 : Int32} {P : Int32 → Sg → Prop} {K : Int32 → Sg → Prop} {cs : List Int32} (hk : cap (k + 1) = 60) (hN : cs.length ≤ 60) (s0 : Sg) (hc : RW s0 (k + 1) cs) (hR : ∀ t a, (∀ x, x ≠ k + 5 → t x = s0 x) → PSt (t (k + 5)) [a] → (ev p0 p1 p2 cs []) = [a] → K (nI 1) t) : ∀ (r : List Int32) (i : Nat) (st : List Int32) (s : Sg), i + r.length = cs.length → (∀ (j : Nat) (hj : j < r.length), cs[i + j]? = some r[j]) → (∀ c ∈ r, cOk c) → hgt r st.length = some 1 → st.length ≤ i → (∀ x, x ≠ k + 5 → s x = s0 x) → PSt (s (k + 5)) st → ev p0 p1 p2 r st = ev p0 p1 p2 cs [] → wText_value_6 k p0 p1 p2 P K (r.length + 1) (nI st.length) (nI i) s := by
  intro r
  induction r with
  | nil =>
    intro i st s hi hcs hok hh hst hf hp he
    rw [wText_value_6, hf (k + 1) (by omega), hc.1]
    rw [hgt] at hh
    have h1 : st.length = 1 := Option.some.inj hh
    refine iT (nI_le (by simp at hi; omega) (by simp at hi; omega)) ?_
    rw [h1]
    obtain ⟨a, rfl⟩ := List.length_eq_one_iff.mp h1
    exact hR s a hf hp he.symm
  | cons c r ih =>
    intro i st s hi hcs hok hh hst hf hp he
    simp at hi
    rw [wText_value_6, hf (k + 1) (by omega), hc.1]
    refine iF (nI_ge (by omega) (by omega)) ⟨?_, ?_⟩
    · exact vpc (by omega) (by omega)
    have hcc := hcs 0 (by simp)
    simp at hcc
    have hg : s (k + 1 + 1) (ix (nI i)) = c := by
      rw [hf _ (by omega), ixn (by omega)]
      exact hc.2 i c hcc
    rw [hg]
    have hcs2 : ∀ (j : Nat) (hj : j < r.length), cs[i + 1 + j]? = some r[j] := fun j hj => by
      have := hcs (j + 1) (by simpa using hj)
      rw [show i + 1 + j = i + (j + 1) by omega]
      simpa using this
    have hok2 : ∀ c ∈ r, cOk c := fun x hx => hok x (List.mem_cons_of_mem _ hx)
    rw [hgt] at hh
    have push : ∀ v : Int32, vlf p0 p1 p2 c = v → -3 ≤ c.toInt → vp_in (nI st.length) 60 ∧ ∀ s1 : Sg, s1 = u2 s (k + 5) (ix (nI st.length)) v → wText_value_6 k p0 p1 p2 P K (r.length + 1) (nI st.length + 1) (nI i + 1) s1 := by
      intro v hv h3
      refine ⟨vp_in_nI (by omega) (by omega), fun s1 e1 => ?_⟩
      rw [ixn (by omega)] at e1
      rw [if_pos h3] at hh
      rw [ev_p h3, hv] at he
      rw [nI_1, nI_1]
      subst e1
      refine ih (i + 1) (v :: st) _ (by omega) hcs2 hok2 (by simpa using hh) (by simp; omega) (fun x hx => (u2_other hx).trans (hf x hx)) ⟨u2_same, PSt_congr st (fun j hj => u2_ne (by omega)) hp⟩ he
    by_cases h3 : -3 ≤ c.toInt
    · refine iF (fun e => lo3.mp e h3) (iT (nI_lt (b := 60) (by omega) (by omega)) ⟨fun q => ⟨fun q1 => ⟨fun q2 => push p2 ?_ h3, fun q2 => push p1 ?_ h3⟩, fun q1 => push p0 ?_ h3⟩, fun q => push c ?_ h3⟩)
      · unfold vlf; rw [if_neg (lo0.mp q), if_neg q1, if_neg q2]
      · unfold vlf; rw [if_neg (lo0.mp q), if_neg q1, if_pos q2]
      · unfold vlf; rw [if_neg (lo0.mp q), if_pos q1]
      · unfold vlf; rw [if_pos (by rw [lo0] at q; omega)]
    · refine iT (lo3.mpr h3) ?_
      rw [if_neg h3] at hh
      by_cases h33 : c = -33
      · refine jT h33 ?_
        rw [if_pos h33] at hh
        cases st with
        | nil => simp at hh
        | cons a st =>
          simp only [List.length_cons] at hh hst
          rw [ev_n h3 h33] at he
          have hh2 : hgt r (st.length + 1) = some 1 := by rw [if_neg (by omega)] at hh; exact hh
          refine iT (nI_le (a := 1) (b := st.length + 1) (by omega) (by omega)) ?_
          rw [List.length_cons, nI_pred, ixn (by omega), nI_1]
          rw [hp.1]
          refine ⟨vp_in_nI (by omega) (by omega), fun q => ⟨vp_in_nI (by omega) (by omega), fun s1 e1 => ?_⟩, fun q => ⟨vp_in_nI (by omega) (by omega), fun s1 e1 => ?_⟩⟩
          · subst e1
            have he2 : ev p0 p1 p2 r (0 :: st) = ev p0 p1 p2 cs [] := by simpa [q] using he
            exact ih (i + 1) (0 :: st) _ (by omega) hcs2 hok2 (by simpa using hh2) (by simp; omega) (fun x hx => (u2_other hx).trans (hf x hx)) ⟨u2_same, PSt_congr st (fun j hj => u2_ne (by omega)) hp.2⟩ he2
          · subst e1
            have he2 : ev p0 p1 p2 r (1 :: st) = ev p0 p1 p2 cs [] := by simpa [q] using he
            exact ih (i + 1) (1 :: st) _ (by omega) hcs2 hok2 (by simpa using hh2) (by simp; omega) (fun x hx => (u2_other hx).trans (hf x hx)) ⟨u2_same, PSt_congr st (fun j hj => u2_ne (by omega)) hp.2⟩ he2
      · refine jF h33 ?_
        rw [if_neg h33] at hh
        cases st with
        | nil => simp at hh
        | cons b st =>
          cases st with
          | nil => simp at hh
          | cons a st =>
            simp only [List.length_cons] at hh hst
            rw [ev_o h3 h33] at he
            have hh2 : hgt r (st.length + 1) = some 1 := by rw [if_neg (by omega)] at hh; exact hh
            refine iT (nI_le (a := 2) (b := st.length + 2) (by omega) (by omega)) ?_
            rw [List.length_cons, List.length_cons, pk_m1, nI_pred, ixn (by omega), ixn (by omega), nI_1]
            have e1 : s (k + 5) (st.length + 1) = b := hp.1
            have e2 : s (k + 5) st.length = a := hp.2.1
            rw [e1, e2]
            refine ⟨vp_in_nI (by omega) (by omega), vp_in_nI (by omega) (by omega), p_joined (ngc (hok c List.mem_cons_self) h3 h33) ⟨vp_in_nI (by omega) (by omega), fun s1 e3 => ?_⟩⟩
            subst e3
            exact ih (i + 1) (opc (-c) a b :: st) _ (by omega) hcs2 hok2 (by simpa using hh2) (by simp; omega) (fun x hx => (u2_other hx).trans (hf x hx)) ⟨u2_same, PSt_congr st (fun j hj => u2_ne (by omega)) hp.2.2⟩ he
theorem c_value {k : Nat} {p0 p1 p2 : Int32} {P : Int32 → Sg → Prop} {cs : List Int32} {s : Sg} (hk : cap (k + 1) = 60) (hN : cs.length ≤ 60) (hc : RW s (k + 1) cs) (hok : ∀ c ∈ cs, cOk c) (hh : hgt cs 0 = some 1) (h : ∀ t, (∀ x, x ≠ k + 5 → t x = s x) → P ((ev p0 p1 p2 cs []).headD 0) t) : wText_value k p0 p1 p2 s P := by
  unfold wText_value
  refine ⟨cs.length + 1, c_valL hk hN s hc (fun t a hf hp he => ?_) cs 0 [] s (by simp) (fun j hj => by rw [Nat.zero_add]; exact List.getElem?_eq_getElem hj) hok hh (by simp) (fun _ _ => rfl) trivial rfl⟩
  have := h t hf
  rw [he] at this
  refine iF (by decide) ?_
  have e : t (k + 5) 0 = a := hp.1
  rw [e]
  exact this
