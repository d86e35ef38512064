-- PURE: what stays, errors, the order on the reference's side
def er (s : Sg) (j : Nat) : Sg := u2 s 76 j (s 76 j + 1)
def em (s : Sg) (j : Nat) : Sg := u2 s 4 j (s 4 j + 1)
theorem p_failed {c : Int32} {j : Nat} {s : Sg} {P : Int32 → Sg → Prop} (hc : (-1000000000 : Int32) - c = nI j) (h1 : 1 ≤ j) (h6 : j ≤ 6) (h : P c (er s j)) : wB_failed c s P := by
  unfold wB_failed
  rw [hc, ixn (by omega)]
  refine iF (nI_nlt (b := 1) h1 (by omega)) (iF (nI_nlt (a := 6) h6 (by omega)) ⟨vp_in_nI (by omega) (by omega), vp_in_nI (by omega) (by omega), fun s1 e1 => ?_⟩)
  subst e1
  exact h
theorem m_error {c : Int32} {j : Nat} {s : Sg} {P : Int32 → Sg → Prop} (hc : (-1000000000 : Int32) - c = nI j) (h1 : 1 ≤ j) (h6 : j ≤ 6) (h : P c (em s j)) : wM_error c s P := by
  unfold wM_error
  rw [hc, ixn (by omega)]
  refine ⟨vp_in_nI (by omega) (by omega), vp_in_nI (by omega) (by omega), fun s1 e1 => ?_⟩
  subst e1
  exact h
theorem CB_congr {s t : Sg} {b kn : Nat} {th : Nat → Nat → Nat} {L : List Nat} {pk : Option Nat} {st se : Nat} {z : Int32} {tp : List Nat} {wt : List Int32} {cd : Nat → List Int32} (h : CB s b kn th L pk st se z tp wt cd) (hk : kn ≤ 9) (hf : ∀ a, b ≤ a → a < b + 31 → t a = s a) : CB t b kn th L pk st se z tp wt cd := by
  obtain ⟨⟨a1, a2, a3, a4, a5⟩, o, tpe, w, thg, tx⟩ := h
  refine ⟨?_, ?_, ?_, ?_, fun x hx j hj => ?_, fun u hu => ?_⟩
  · rw [hf b (by omega) (by omega)]; exact ⟨a1, a2, a3, a4, a5⟩
  · rw [hf (b + 2) (by omega) (by omega), hf (b + 3) (by omega) (by omega)]; exact o
  · rw [hf (b + 4) (by omega) (by omega), hf (b + 5) (by omega) (by omega)]; exact tpe
  · rw [hf (b + 7) (by omega) (by omega), hf (b + 8) (by omega) (by omega)]; exact w
  · rw [hf (b + 10 + x) (by omega) (by omega)]; exact thg x hx j hj
  · rw [hf (b + 20 + 6 * u) (by omega) (by omega), hf (b + 21 + 6 * u) (by omega) (by omega)]; exact tx u hu
def frC (s t : Sg) : Prop := ∀ a, ¬ (1 ≤ a ∧ a ≤ 31) → ¬ (67 ≤ a ∧ a ≤ 75) → t a = s a
def frM (s t : Sg) : Prop := (t 0 3 = s 0 3 ∧ t 0 21 = s 0 21) ∧ ∀ a, a ∈ [2, 4, 5, 6, 7, 14] → t a = s a
theorem frC.refl {s : Sg} : frC s s := fun _ _ _ => rfl
theorem frC.trans {s t u : Sg} (h1 : frC s t) (h2 : frC t u) : frC s u := fun a x y => (h2 a x y).trans (h1 a x y)
theorem frM.refl {s : Sg} : frM s s := ⟨⟨rfl, rfl⟩, fun _ _ => rfl⟩
theorem frM.trans {s t u : Sg} (h1 : frM s t) (h2 : frM t u) : frM s u := ⟨⟨h2.1.1.trans h1.1.1, h2.1.2.trans h1.1.2⟩, fun a x => (h2.2 a x).trans (h1.2 a x)⟩
theorem frM1 {s t : Sg} (h : ∀ a, a ≠ 1 → t a = s a) : frM s t := ⟨⟨by rw [h 0 (by omega)], by rw [h 0 (by omega)]⟩, fun a x => h a (by intro e; subst e; simp at x)⟩
theorem Rel_of {s t s2 t2 : Sg} (h : Rel s t) (hs : frC s s2) (ht : frM t t2) (hb : BR s2 1 (t2 1)) : Rel s2 t2 := by
  obtain ⟨-, ⟨i1, i2⟩, e, sh, tr⟩ := h
  obtain ⟨⟨m1, m2⟩, m3⟩ := ht
  refine ⟨hb, ⟨?_, fun hz => ?_⟩, fun k h1 h2 => ?_, fun x hx => ?_, ?_⟩
  · rw [hs 0 (by omega) (by omega), m1]; exact i1
  · rw [m1] at hz
    rw [m3 2 (by simp)]
    obtain ⟨kn, th, L, pk, st, se, z, tp, wt, cd, v, c, m⟩ := i2 hz
    exact ⟨kn, th, L, pk, st, se, z, tp, wt, cd, v, CB_congr c v.1 (fun a h1 h2 => hs a (by omega) (by omega)), m⟩
  · rw [hs 76 (by omega) (by omega), m3 4 (by simp)]; exact e k h1 h2
  · rw [hs (77 + 3 * x) (by omega) (by omega), hs (78 + 3 * x) (by omega) (by omega), hs (79 + 3 * x) (by omega) (by omega), m3 5 (by simp), m3 6 (by simp), m3 7 (by simp)]
    exact sh x hx
  · unfold TRR
    rw [hs 65 (by omega) (by omega), hs 66 (by omega) (by omega), m2, m3 14 (by simp)]
    exact tr
theorem BR_congr {s t : Sg} {b : Nat} {f : Nat → Int32} (h : BR s b f) (hf : ∀ a, b ≤ a → a < b + 31 → t a = s a) : BR t b f := by
  obtain ⟨kn, th, L, pk, st, se, z, tp, wt, cd, v, c, m⟩ := h
  exact ⟨kn, th, L, pk, st, se, z, tp, wt, cd, v, CB_congr c v.1 hf, m⟩
theorem Rel_err {s t : Sg} {j : Nat} (h : Rel s t) : Rel (er s j) (em t j) := by
  obtain ⟨b, ⟨i1, i2⟩, e, sh, tr⟩ := h
  have hs : ∀ a, a ≠ 76 → er s j a = s a := fun a ha => u2_other ha
  have ht : ∀ a, a ≠ 4 → em t j a = t a := fun a ha => u2_other ha
  refine ⟨?_, ⟨?_, fun hz => ?_⟩, fun k h1 h2 => ?_, fun x hx => ?_, ?_⟩
  · rw [ht 1 (by omega)]; exact BR_congr b (fun a h1 h2 => hs a (by omega))
  · rw [hs 0 (by omega), ht 0 (by omega)]; exact i1
  · rw [ht 0 (by omega)] at hz
    rw [ht 2 (by omega)]
    exact BR_congr (i2 hz) (fun a h1 h2 => hs a (by omega))
  · unfold er em
    by_cases q : k = j
    · subst q
      rw [u2_same, u2_same, e k h1 h2]
    · rw [u2_ne (by omega), u2_ne (by omega), e k h1 h2]
  · rw [hs (77 + 3 * x) (by omega), hs (78 + 3 * x) (by omega), hs (79 + 3 * x) (by omega), ht 5 (by omega), ht 6 (by omega), ht 7 (by omega)]
    exact sh x hx
  · unfold TRR
    rw [hs 65 (by omega), hs 66 (by omega), ht 0 (by omega), ht 14 (by omega)]
    exact tr
/-- both refuse -/
theorem eq_err {c : Int32} {j : Nat} {s t : Sg} (h : Rel s t) (hc : (-1000000000 : Int32) - c = nI j) (h1 : 1 ≤ j) (h6 : j ≤ 6) {W : (Int32 → Sg → Prop) → Prop} (hW : ∀ P : Int32 → Sg → Prop, P c (em t j) → W P) : wB_failed c s (fun r s => W (fun r2 t => r = r2 ∧ Rel s t)) :=
  p_failed hc h1 h6 (hW _ ⟨rfl, Rel_err h⟩)
theorem m_in {a l h : Int32} {s : Sg} {P : Int32 → Sg → Prop} (h1 : l.toInt ≤ a.toInt → a.toInt ≤ h.toInt → P 1 s) (h0 : ¬ (l.toInt ≤ a.toInt ∧ a.toInt ≤ h.toInt) → P 0 s) : wM_in a l h s P := by
  unfold wM_in
  simp only [Int32.lt_iff_toInt_lt]
  exact ⟨fun z => h0 (by omega), fun z => ⟨fun z2 => h0 (by omega), fun z2 => h1 (by omega) (by omega)⟩⟩
theorem m_isThingT {t kn : Nat} {s : Sg} {P : Int32 → Sg → Prop} (hk : s 1 2 = nI kn) (hN : kn < 2 ^ 30) (ht : t < kn) (h : P 1 s) : wM_isThing (nI t) s P := by
  unfold wM_isThing
  have e : nI kn - 1 = nI (kn - 1) := by rw [show (1 : Int32) = nI 1 from rfl, pk_sub (by omega)]
  rw [hk, e]
  refine m_in (fun _ _ => ⟨z11, h⟩) (fun z => absurd ⟨?_, ?_⟩ z)
  · rw [nI_toInt (by omega)]; simp
  · rw [nI_toInt (by omega), nI_toInt (by omega)]; omega
theorem m_isThingF {a : Int32} {kn : Nat} {s : Sg} {P : Int32 → Sg → Prop} (hk : s 1 2 = nI kn) (hN : kn < 2 ^ 30) (ha : ∀ t, t < kn → a ≠ nI t) (h : P 0 s) : wM_isThing a s P := by
  unfold wM_isThing
  rw [hk]
  refine m_in (fun z1 z2 => ?_) (fun _ => ⟨z01, h⟩)
  exfalso
  have e : (nI kn - 1).toInt = (kn : Int) - 1 := pk_sub_toInt (a := kn) (b := 1) hN (by omega)
  rw [e] at z2
  simp at z1
  refine ha a.toInt.toNat (by omega) ?_
  apply Int32.toInt_inj.mp
  rw [nI_toInt (by omega)]
  omega
theorem p_knowsT {t kn : Nat} {s : Sg} {P : Int32 → Sg → Prop} (hk : s 1 1 = nI kn) (hN : kn < 2 ^ 30) (ht : t < kn) (h : P 1 s) : wBag_knows (nI t) s P := by
  unfold wBag_knows
  rw [hk]
  exact iF (nI_pos (by omega)) (iF (nI_ge ht (by omega)) h)
theorem p_knowsF {a : Int32} {kn : Nat} {s : Sg} {P : Int32 → Sg → Prop} (hk : s 1 1 = nI kn) (hN : kn < 2 ^ 30) (ha : ∀ t, t < kn → a ≠ nI t) (h : P 0 s) : wBag_knows a s P := by
  unfold wBag_knows
  rw [hk]
  rcases i_in a (n := kn) (by omega) with ⟨i, hi, e⟩ | ⟨q | q, -⟩
  · exact absurd e (ha i hi)
  · exact iT q h
  · exact ⟨fun _ => h, fun _ => iT q h⟩
-- the order on the reference's side
abbrev MO (s : Sg) (l : List Int32) : Prop := IL (s 1 3) (fun i => s 1 (8 + i)) l
def frO (s t : Sg) : Prop := (∀ a, a ≠ 1 → t a = s a) ∧ ∀ i, i ≠ 3 → (i < 8 ∨ 17 ≤ i) → t 1 i = s 1 i
theorem frO.refl {s : Sg} : frO s s := ⟨fun _ _ => rfl, fun _ _ _ => rfl⟩
theorem frO.trans {s t u : Sg} (h1 : frO s t) (h2 : frO t u) : frO s u := ⟨fun a x => (h2.1 a x).trans (h1.1 a x), fun i x y => (h2.2 i x y).trans (h1.2 i x y)⟩
theorem frO_M {s t : Sg} (h : frO s t) : frM s t := frM1 h.1
theorem m8 (i : Nat) : (8 : Int32) + nI i = nI (8 + i) := nI_add 8 i
theorem m_whereL {x : Int32} {l : List Int32} {s : Sg} {P : Int32 → Sg → Prop} {K : Sg → Prop} (hl : MO s l) (hc : l.length ≤ 9) (h1 : ∀ i, l[i]? = some x → (∀ j, j < i → l[j]? ≠ some x) → P (nI i) s) (h0 : x ∉ l → K s) : ∀ (m i : Nat), i + m = l.length → (∀ j, j < i → l[j]? ≠ some x) → wM_whereIs_2 x P K (m + 1) (nI i) s := by
  intro m
  induction m with
  | zero =>
    intro i hi hj
    rw [wM_whereIs_2, hl.1]
    refine iT (nI_le (by omega) (by omega)) (h0 (fun hx => ?_))
    obtain ⟨j, hj2⟩ := List.getElem?_of_mem hx
    exact hj j (by have := (List.getElem?_eq_some_iff.mp hj2).1; omega) hj2
  | succ m ih =>
    intro i hi hj
    have hil : i < l.length := by omega
    rw [wM_whereIs_2, hl.1, m8, ixn (by omega)]
    refine iF (nI_ge hil (by omega)) ⟨vp_in_nI (by omega) (by omega), ?_⟩
    rw [show s 1 (8 + i) = l[i] from IL_at hl hil]
    by_cases he : l[i] = x
    · exact jT he (h1 i (by rw [List.getElem?_eq_getElem hil, he]) hj)
    · refine jF he ?_
      rw [nI_1]
      refine ih (i + 1) (by omega) (fun j hj2 => ?_)
      rcases Nat.lt_or_ge j i with q | q
      · exact hj j q
      · have : j = i := by omega
        subst this
        rw [List.getElem?_eq_getElem hil]
        simpa using he
theorem m_goesFromL {l : List Int32} {K : Sg → Prop} {i0 : Nat} (hi0 : i0 < l.length) (hc : l.length ≤ 9) (s0 : Sg) (h : ∀ t, MO t (l.eraseIdx i0) → frO s0 t → K t) : ∀ (m i : Nat) (s : Sg), i + m + 1 = l.length → i0 ≤ i → s 1 3 = nI (l.length - 1) → (∀ j (hj : j < l.length), (i ≤ j ∧ i0 ≤ j) → s 1 (8 + j) = if j = i ∨ i < j ∨ j < i0 then l[j] else s 1 (8 + j)) → (∀ j (hj : j + 1 < l.length), j < i → s 1 (8 + j) = if j < i0 then l[j] else l[j + 1]) → frO s0 s → wM_goesFrom_12 K (m + 1) (nI i) s := by
  intro m
  induction m with
  | zero =>
    intro i s hm hii hn hA hB hf
    rw [wM_goesFrom_12, hn]
    refine iT (nI_le (by omega) (by omega)) (h s (IL_of ?_ (fun j hj => ?_)) hf)
    · rw [hn, List.length_eraseIdx, if_pos hi0]
    · rw [List.length_eraseIdx, if_pos hi0] at hj
      rw [hB j (by omega) (by omega), List.getElem_eraseIdx]
      by_cases q : j < i0
      · rw [if_pos q, dif_pos q]
      · rw [if_neg q, dif_neg q]
  | succ m ih =>
    intro i s hm hii hn hA hB hf
    rw [wM_goesFrom_12, hn, m8, nI_1]
    refine iF (nI_ge (by omega) (by omega)) ⟨vp_in_nI (by omega) (by omega), vp_in_nI (by omega) (by omega), fun s1 e1 => ?_⟩
    rw [ixn (by omega), ixn (by omega), show 8 + i + 1 = 8 + (i + 1) by omega, hA (i + 1) (by omega) (by omega), if_pos (by omega)] at e1
    rw [nI_1]
    refine ih (i + 1) s1 (by omega) (by omega) ?_ (fun j hj hj2 => ?_) (fun j hj hj2 => ?_) (hf.trans ⟨fun a ha => ?_, fun a ha hb => ?_⟩)
    · subst e1; rw [u2_ne (by omega)]; exact hn
    · rw [if_pos (by omega)]
      subst e1
      rw [u2_ne (by omega), hA j hj (by omega), if_pos (by omega)]
    · subst e1
      by_cases q : j = i
      · subst q
        rw [u2_same, if_neg (by omega)]
      · rw [u2_ne (by omega)]
        exact hB j hj (by omega)
    · subst e1; exact u2_other ha
    · subst e1; exact u2_ne (by omega)
theorem m_goesFrom {l : List Int32} {i : Nat} {s : Sg} {P : Sg → Prop} (hl : MO s l) (hc : l.length ≤ 9) (hi : i < l.length) (h : ∀ t, MO t (l.eraseIdx i) → frO s t → P t) : wM_goesFrom (nI i) s P := by
  unfold wM_goesFrom
  intro s1 e1
  have e2 : s 1 3 - 1 = nI (l.length - 1) := by rw [hl.1, show (1 : Int32) = nI 1 from rfl, pk_sub (by omega)]
  rw [e2] at e1
  have hf : frO s s1 := ⟨fun a ha => by subst e1; exact u2_other ha, fun a ha hb => by subst e1; exact u2_ne (by omega)⟩
  have hg : ∀ j, s1 1 (8 + j) = s 1 (8 + j) := fun j => by subst e1; exact u2_ne (by omega)
  refine ⟨_, m_goesFromL hi hc s h (l.length - 1 - i) i s1 (by omega) (Nat.le_refl _) (by subst e1; exact u2_same) (fun j hj hj2 => ?_) (fun j hj hj2 => ?_) hf⟩
  · rw [if_pos (by omega), hg]; exact IL_at hl hj
  · rw [if_pos hj2, hg]; exact IL_at hl (by omega)
theorem m_goesOnTopL {l : List Int32} {x : Int32} {K : Sg → Prop} (hc : l.length < 9) (s0 : Sg) (h : ∀ t, t 1 3 = nI l.length → (∀ j (hj : j < l.length), t 1 (8 + (j + 1)) = l[j]) → frO s0 t → K t) : ∀ (i : Nat) (s : Sg), i ≤ l.length → s 1 3 = nI l.length → (∀ j (hj : j < l.length), j < i → s 1 (8 + j) = l[j]) → (∀ j (hj : j < l.length), i ≤ j → s 1 (8 + (j + 1)) = l[j]) → frO s0 s → wM_goesOnTop_7 x K (i + 1) (nI i) s := by
  intro i
  induction i with
  | zero =>
    intro s hi hn hA hB hf
    rw [wM_goesOnTop_7]
    exact iT (by decide) (h s hn (fun j hj => hB j hj (Nat.zero_le _)) hf)
  | succ i ih =>
    intro s hi hn hA hB hf
    rw [wM_goesOnTop_7, m8]
    have e2 : nI (8 + (i + 1)) - 1 = nI (8 + i) := by rw [show (1 : Int32) = nI 1 from rfl, pk_sub (by omega)]; rfl
    rw [e2, pk_m1]
    refine iF (nI_nle (by omega) (by omega)) ⟨vp_in_nI (by omega) (by omega), vp_in_nI (by omega) (by omega), fun s1 e1 => ?_⟩
    rw [ixn (by omega), ixn (by omega), hA i (by omega) (by omega)] at e1
    refine ih s1 (by omega) ?_ (fun j hj hj2 => ?_) (fun j hj hj2 => ?_) (hf.trans ⟨fun a ha => ?_, fun a ha hb => ?_⟩)
    · subst e1; rw [u2_ne (by omega)]; exact hn
    · subst e1; rw [u2_ne (by omega)]; exact hA j hj (by omega)
    · subst e1
      by_cases q : j = i
      · subst q; exact u2_same
      · rw [u2_ne (by omega)]; exact hB j hj (by omega)
    · subst e1; exact u2_other ha
    · subst e1; exact u2_ne (by omega)
theorem m_goesOnTop {l : List Int32} {x : Int32} {s : Sg} {P : Sg → Prop} (hl : MO s l) (hc : l.length < 9) (h : ∀ t, MO t (x :: l) → frO s t → P t) : wM_goesOnTop x s P := by
  unfold wM_goesOnTop
  rw [hl.1]
  refine ⟨_, m_goesOnTopL (K := fun s1 => ∀ s2 : Sg, s2 = u2 s1 1 8 x → ∀ s3 : Sg, s3 = u2 s2 1 3 (s2 1 3 + 1) → P s3) hc s (fun t hn hB hf s2 e2 s3 e3 => ?_) l.length s (Nat.le_refl _) hl.1 (fun j hj _ => IL_at hl hj) (fun j hj hj2 => absurd hj2 (by omega)) frO.refl⟩
  refine h s3 (IL_of ?_ (fun j hj => ?_)) (hf.trans ⟨fun a ha => ?_, fun a ha hb => ?_⟩)
  · subst e3
    rw [u2_same]
    subst e2
    rw [u2_ne (by omega), hn, nI_1]
    simp
  · subst e3; subst e2
    rw [u2_ne (by omega)]
    cases j with
    | zero => rw [u2_same]; rfl
    | succ j =>
      rw [u2_ne (by omega), hB j (by simp at hj; omega)]
      rfl
  · subst e3; subst e2
    rw [u2_other ha, u2_other ha]
  · subst e3; subst e2
    rw [u2_ne (by omega), u2_ne (by omega)]
