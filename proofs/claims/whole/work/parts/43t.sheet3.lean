-- PURE: sheet, feed
theorem c_begL {x n : Nat} {K : Sg → Prop} (hx : x ≤ 3) (hn : n ≤ 24) (s0 : Sg) (h : ∀ t, RW t (78 + 3 * x) (List.replicate n 0) → fr2 s0 t (78 + 3 * x) → K t) : ∀ (m i : Nat) (s : Sg), i + m = n → RW s (78 + 3 * x) (List.replicate i 0) → fr2 s0 s (78 + 3 * x) → wSheet_begin_15 (77 + 3 * x) (nI n) K (m + 1) (nI i) s := by
  intro m
  induction m with
  | zero =>
    intro i s hi hr hf
    rw [wSheet_begin_15]
    have : i = n := by omega
    subst this
    exact iT (Int32.le_refl _) (h s hr hf)
  | succ m ih =>
    intro i s hi hr hf
    rw [wSheet_begin_15, show 77 + 3 * x + 1 = 78 + 3 * x by omega]
    refine iF (nI_ge (by omega) (by omega)) (p_add (l := List.replicate i 0) hr (by rw [List.length_replicate, shcap hx]; omega) (by rw [shcap hx]; omega) (fun t1 h1 f1 => ?_))
    rw [nI_1]
    refine ih (i + 1) t1 (by omega) ?_ (hf.trans f1)
    rw [List.replicate_succ']
    exact h1
theorem c_begin {x n : Nat} {b : Int32} {s : Sg} {K : Sg → Prop} (hx : x ≤ 3) (hn : n ≤ 24) (h : ∀ t, t (77 + 3 * x) 0 = b → t (78 + 3 * x) 1 = nI n → (∀ k, k < n → t (79 + 3 * x) k = 0) → (∀ a, ¬ (77 + 3 * x ≤ a ∧ a ≤ 79 + 3 * x) → t a = s a) → K t) : wSheet_begin (77 + 3 * x) b (nI n) s K := by
  intro s1 e1 s2 e2
  rw [show 77 + 3 * x + 1 = 78 + 3 * x by omega] at e2
  refine ⟨n + 1, c_begL hx hn s2 (fun t h1 f1 => h t ?_ (by rw [h1.1, List.length_replicate]) (fun k hk => ?_) (fun a ha => ?_)) n 0 s2 (by omega) (IL_nil (by subst e2; exact u2_same)) fr2.refl⟩
  · rw [f1 _ (by omega) (by omega)]; subst e2; rw [u2_ne (by omega)]; subst e1; exact u2_same
  · have := IL_at h1 (i := k) (by simpa using hk)
    rw [show 78 + 3 * x + 1 = 79 + 3 * x by omega] at this
    rw [this]; simp
  · rw [f1 a (by omega) (by omega)]; subst e2; rw [u2_other (by omega)]; subst e1; rw [u2_other (by omega)]
theorem m_zerL {x : Nat} {K : Sg → Prop} (hx : x ≤ 3) (s0 : Sg) (h : ∀ t, (∀ k, k < 24 → t 7 (24 * x + k) = 0) → (∀ a, a ≠ 7 → t a = s0 a) → (∀ j, ¬ (24 * x ≤ j ∧ j < 24 * x + 24) → t 7 j = s0 7 j) → K t) : ∀ (m i : Nat) (s : Sg), i + m = 24 → (∀ k, k < i → s 7 (24 * x + k) = 0) → (∀ a, a ≠ 7 → s a = s0 a) → (∀ j, ¬ (24 * x ≤ j ∧ j < 24 * x + 24) → s 7 j = s0 7 j) → wM_sheet_93 (nI x) K (m + 1) (nI i) s := by
  intro m
  induction m with
  | zero =>
    intro i s hi h1 h2 h3
    rw [wM_sheet_93]
    exact iT (nI_le (a := 24) (by omega) (by omega)) (h s (fun k hk => h1 k (by omega)) h2 h3)
  | succ m ih =>
    intro i s hi h1 h2 h3
    rw [wM_sheet_93, show (24 : Int32) * nI x + nI i = nI (24 * x + i) by rw [show (24 : Int32) = nI 24 from rfl, pk_mul, nI_add], ixn (by omega)]
    refine iF (nI_ge (b := 24) (by omega) (by omega)) ⟨vp_in_nI (by omega) (by omega), fun s1 e1 => ?_⟩
    rw [nI_1]
    subst e1
    refine ih (i + 1) _ (by omega) (fun k hk => ?_) (fun a ha => (u2_other ha).trans (h2 a ha)) (fun j hj => (u2_ne (by omega)).trans (h3 j hj))
    by_cases q : k = i
    · subst q; exact u2_same
    · rw [u2_ne (by omega)]; exact h1 k (by omega)
theorem shr00 {b : Int32} (h : b = 8 ∨ b = 16 ∨ b = 32) : shr b 0 0 := by
  rcases h with rfl | rfl | rfl
  · exact Or.inl ⟨rfl, by decide +kernel, by decide, by decide⟩
  · exact Or.inr (Or.inl ⟨rfl, by decide +kernel, by decide, by decide⟩)
  · exact Or.inr (Or.inr ⟨rfl, rfl⟩)
theorem sheet_Rel {s t s2 t2 : Sg} {x n : Nat} {b : Int32} (h : Rel s t) (hx : x ≤ 3) (hn : n ≤ 24) (hb : b = 0 ∧ n = 0 ∨ b = 8 ∨ b = 16 ∨ b = 32) (c0 : s2 (77 + 3 * x) 0 = b) (c1 : s2 (78 + 3 * x) 1 = nI n) (c2 : ∀ k, k < n → s2 (79 + 3 * x) k = 0) (cf : ∀ a, ¬ (77 + 3 * x ≤ a ∧ a ≤ 79 + 3 * x) → s2 a = s a) (m5 : t2 5 x = b) (m6 : t2 6 x = nI n) (m7 : ∀ k, k < 24 → t2 7 (24 * x + k) = 0) (f5 : ∀ j, j ≠ x → t2 5 j = t 5 j) (f6 : ∀ j, j ≠ x → t2 6 j = t 6 j) (f7 : ∀ j, ¬ (24 * x ≤ j ∧ j < 24 * x + 24) → t2 7 j = t 7 j) (mf : ∀ a, ¬ (5 ≤ a ∧ a ≤ 7) → t2 a = t a) : Rel s2 t2 := by
  refine Rel_sh h (fun a ha => cf a (by omega)) mf (fun y hy => ?_)
  by_cases q : y = x
  · subst q
    rw [c0, c1, m5, m6]
    refine ⟨rfl, ?_, rfl, n, hn, rfl, fun e => ?_, fun k hk => ?_⟩
    · rcases hb with ⟨e, -⟩ | e
      · exact Or.inl e
      · exact Or.inr e
    · rcases hb with ⟨-, e2⟩ | e2 | e2 | e2
      · exact e2
      all_goals (rw [e2] at e; exact absurd e (by decide))
    · rw [c2 k hk, m7 k (by omega)]
      rcases hb with ⟨-, e2⟩ | e2
      · omega
      · exact shr00 e2
  · obtain ⟨e0, eb, e1, n2, hn2, e6, ez, hs⟩ := h.2.2.2.1 y hy
    rw [cf _ (by omega), cf _ (by omega), cf _ (by omega), f5 y q, f6 y q]
    exact ⟨e0, eb, e1, n2, hn2, e6, ez, fun k hk => by rw [f7 _ (by omega)]; exact hs k hk⟩
theorem m_begin {x n : Nat} {b nn : Int32} {s : Sg} {P : Sg → Prop} (hx : x ≤ 3) (hnn : nn = nI n) (h : ∀ t2, t2 5 x = b → t2 6 x = nI n → (∀ k, k < 24 → t2 7 (24 * x + k) = 0) → (∀ j, j ≠ x → t2 5 j = s 5 j) → (∀ j, j ≠ x → t2 6 j = s 6 j) → (∀ j, ¬ (24 * x ≤ j ∧ j < 24 * x + 24) → t2 7 j = s 7 j) → (∀ a, ¬ (5 ≤ a ∧ a ≤ 7) → t2 a = s a) → P t2) : ∀ s1 : Sg, s1 = u2 s 5 (ix (nI x)) b → (vp_in (nI x) 4 ∧ ∀ s2 : Sg, s2 = u2 s1 6 (ix (nI x)) nn → (∃ N1 : Nat, wM_sheet_93 (nI x) P N1 0 s2)) := by
  intro s1 e1
  refine ⟨vp_in_nI (by omega) (by omega), fun s2 e2 => ⟨25, ?_⟩⟩
  rw [ixn (by omega)] at e1 e2
  have g : ∀ a, a ≠ 5 → a ≠ 6 → s2 a = s a := fun a h5 h6 => by subst e2; rw [u2_other h6]; subst e1; rw [u2_other h5]
  refine m_zerL hx s2 (fun t h7 hf hj => h t ?_ ?_ h7 (fun j hj2 => ?_) (fun j hj2 => ?_) (fun j hj2 => ?_) (fun a ha => ?_)) 24 0 s2 (by omega) (fun k hk => absurd hk (Nat.not_lt_zero k)) (fun _ _ => rfl) (fun _ _ => rfl)
  · rw [hf 5 (by omega)]; subst e2; rw [u2_ne (by omega)]; subst e1; exact u2_same
  · rw [hf 6 (by omega)]; subst e2; rw [u2_same, hnn]
  · rw [hf 5 (by omega)]; subst e2; rw [u2_ne (by omega)]; subst e1; rw [u2_ne (by omega)]
  · rw [hf 6 (by omega)]; subst e2; rw [u2_ne (by omega)]; subst e1; rw [u2_ne (by omega)]
  · rw [hj j hj2, g 7 (by omega) (by omega)]
  · rw [hf a (by omega), g a (by omega) (by omega)]
theorem eq_sheet {a1 a2 a3 : Int32} {s t : Sg} (h : Rel s t) : wB_sheet a1 a2 a3 s (fun r s => wM_sheet a1 a2 a3 t (fun r2 t => r = r2 ∧ Rel s t)) := by
  unfold wB_sheet
  rcases rng a1 0 3 (by omega) with ⟨x, -, hx, rfl⟩ | hn
  · rw [t77 (by omega)]
    refine p_shT (by omega) (sel1 ?_)
    have e1 := fun (b : Int32) (hM : ∀ P : Int32 → Sg → Prop, P (-1000000001) (em t 1) → wM_sheet (nI x) b a3 t P) => eq_err h cc1 (by omega) (by omega) hM
    have e3 := fun (b : Int32) (hM : ∀ P : Int32 → Sg → Prop, P (-1000000003) (em t 3) → wM_sheet (nI x) b a3 t P) => eq_err h cc3 (by omega) (by omega) hM
    have vx : vp_in (nI x) 4 := vp_in_nI (by omega) (by omega)
    refine ⟨fun q0 => ?_, fun q0 => ⟨fun q8 => ?_, fun q8 => ⟨fun q16 => ?_, fun q16 => ⟨fun q32 => ?_, fun q32 => ?_⟩⟩⟩⟩
    · subst q0
      refine iT rfl (iT rfl ⟨vx, jT rfl (c_begin (n := 0) hx (by omega) (fun s1 c0 c1 c2 cf => ?_))⟩)
      unfold wM_sheet
      refine m_shT hx (sel1 (iT rfl (iT (by decide) (iT (by decide) ⟨vx, fun t1 f1 => jT rfl (m_begin (n := 0) hx rfl (fun t2 m5 m6 m7 f5 f6 f7 mf => ⟨rfl, sheet_Rel h hx (by omega) (Or.inl ⟨rfl, rfl⟩) c0 c1 c2 cf m5 m6 m7 f5 f6 f7 mf⟩) t1 f1)⟩))))
    · subst q8
      refine iF (by decide) ⟨fun p0 => iF (by decide) ⟨fun p24 => ⟨vx, jF (by decide) ?_⟩, fun p24 => e1 _ (fun P hP => ?_)⟩, fun p0 => e3 _ (fun P hP => ?_)⟩
      · obtain ⟨n, hn, rfl⟩ := nI_of2 (x := a3) (M := 24) (n := 24) (by decide) (by rw [Int32.lt_iff_toInt_lt]; rw [Int32.le_iff_toInt_le] at p0; omega) p24
        refine c_begin hx hn (fun s1 c0 c1 c2 cf => ?_)
        unfold wM_sheet
        exact m_shT hx (sel1 (iF (by decide) (iT rfl (iF (by decide) (iT p0 (iF (by decide) (iT p24 ⟨vx, fun t1 f1 => jF (by decide) (m_begin hx rfl (fun t2 m5 m6 m7 f5 f6 f7 mf => ⟨rfl, sheet_Rel h hx hn (Or.inr (Or.inl rfl)) c0 c1 c2 cf m5 m6 m7 f5 f6 f7 mf⟩) t1 f1)⟩)))))))
      · unfold wM_sheet
        exact m_shT hx (sel1 (iF (by decide) (iT rfl (iF (by decide) (iT p0 (iF (by decide) (iF p24 (m_error cc1 (by omega) (by omega) hP))))))))
      · unfold wM_sheet
        exact m_shT hx (sel1 (iF (by decide) (iT rfl (iF (by decide) (iF p0 (m_error cc3 (by omega) (by omega) hP))))))
    · subst q16
      refine iF (by decide) ⟨fun p0 => iF (by decide) ⟨fun p24 => ⟨vx, jF (by decide) ?_⟩, fun p24 => e1 _ (fun P hP => ?_)⟩, fun p0 => e3 _ (fun P hP => ?_)⟩
      · obtain ⟨n, hn, rfl⟩ := nI_of2 (x := a3) (M := 24) (n := 24) (by decide) (by rw [Int32.lt_iff_toInt_lt]; rw [Int32.le_iff_toInt_le] at p0; omega) p24
        refine c_begin hx hn (fun s1 c0 c1 c2 cf => ?_)
        unfold wM_sheet
        exact m_shT hx (sel1 (iF (by decide) (iF (by decide) (iT rfl (iF (by decide) (iT p0 (iF (by decide) (iT p24 ⟨vx, fun t1 f1 => jF (by decide) (m_begin hx rfl (fun t2 m5 m6 m7 f5 f6 f7 mf => ⟨rfl, sheet_Rel h hx hn (Or.inr (Or.inr (Or.inl rfl))) c0 c1 c2 cf m5 m6 m7 f5 f6 f7 mf⟩) t1 f1)⟩))))))))
      · unfold wM_sheet
        exact m_shT hx (sel1 (iF (by decide) (iF (by decide) (iT rfl (iF (by decide) (iT p0 (iF (by decide) (iF p24 (m_error cc1 (by omega) (by omega) hP)))))))))
      · unfold wM_sheet
        exact m_shT hx (sel1 (iF (by decide) (iF (by decide) (iT rfl (iF (by decide) (iF p0 (m_error cc3 (by omega) (by omega) hP)))))))
    · subst q32
      refine iF (by decide) ⟨fun p0 => iF (by decide) ⟨fun p24 => ⟨vx, jF (by decide) ?_⟩, fun p24 => e1 _ (fun P hP => ?_)⟩, fun p0 => e3 _ (fun P hP => ?_)⟩
      · obtain ⟨n, hn, rfl⟩ := nI_of2 (x := a3) (M := 24) (n := 24) (by decide) (by rw [Int32.lt_iff_toInt_lt]; rw [Int32.le_iff_toInt_le] at p0; omega) p24
        refine c_begin hx hn (fun s1 c0 c1 c2 cf => ?_)
        unfold wM_sheet
        exact m_shT hx (sel1 (iF (by decide) (iF (by decide) (iF (by decide) (iT rfl (iF (by decide) (iT p0 (iF (by decide) (iT p24 ⟨vx, fun t1 f1 => jF (by decide) (m_begin hx rfl (fun t2 m5 m6 m7 f5 f6 f7 mf => ⟨rfl, sheet_Rel h hx hn (Or.inr (Or.inr (Or.inr rfl))) c0 c1 c2 cf m5 m6 m7 f5 f6 f7 mf⟩) t1 f1)⟩)))))))))
      · unfold wM_sheet
        exact m_shT hx (sel1 (iF (by decide) (iF (by decide) (iF (by decide) (iT rfl (iF (by decide) (iT p0 (iF (by decide) (iF p24 (m_error cc1 (by omega) (by omega) hP))))))))))
      · unfold wM_sheet
        exact m_shT hx (sel1 (iF (by decide) (iF (by decide) (iF (by decide) (iT rfl (iF (by decide) (iF p0 (m_error cc3 (by omega) (by omega) hP))))))))
    · refine e1 _ (fun P hP => ?_)
      unfold wM_sheet
      exact m_shT hx (sel1 (iF q0 (iF q8 (iF q16 (iF q32 (m_error cc1 (by omega) (by omega) hP))))))
  · refine p_shF hn (sel0 (eq_err h cc1 (by omega) (by omega) (fun P hP => ?_)))
    unfold wM_sheet
    exact m_shF hn (sel0 (m_error cc1 (by omega) (by omega) hP))
