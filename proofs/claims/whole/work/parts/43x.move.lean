-- PURE: move
theorem m_moveF {x y a2 a4 n : Nat} {K : Sg → Prop} (hS : 24 * x + a2 + n ≤ 96) (hD : 24 * y + a4 + n ≤ 96) (hle : a4 ≤ a2) (hsafe : 24 * y + a4 ≤ 24 * x + a2 ∨ 24 * x + a2 + n ≤ 24 * y + a4) (s0 : Sg) (h : ∀ t, (∀ a, a ≠ 7 → t a = s0 a) → (∀ j, t 7 j = if 24 * y + a4 ≤ j ∧ j < 24 * y + a4 + n then s0 7 (24 * x + a2 + (j - (24 * y + a4))) else s0 7 j) → K t) : ∀ (m k : Nat) (s : Sg), k + m = n → (∀ a, a ≠ 7 → s a = s0 a) → (∀ j, s 7 j = if 24 * y + a4 ≤ j ∧ j < 24 * y + a4 + k then s0 7 (24 * x + a2 + (j - (24 * y + a4))) else s0 7 j) → wM_move_28 (nI x) (nI a2) (nI y) (nI a4) (nI n) K (m + 1) (nI k) s := by
  intro m
  induction m with
  | zero =>
    intro k s hk hf hv
    rw [wM_move_28]
    have : k = n := by omega
    subst this
    exact iT (Int32.le_refl _) (h s hf hv)
  | succ m ih =>
    intro k s hk hf hv
    have e1 : (24 : Int32) * nI x + nI a2 + nI k = nI (24 * x + a2 + k) := by rw [show (24 : Int32) = nI 24 from rfl, pk_mul, nI_add, nI_add]
    have e2 : (24 : Int32) * nI y + nI a4 + nI k = nI (24 * y + a4 + k) := by rw [show (24 : Int32) = nI 24 from rfl, pk_mul, nI_add, nI_add]
    rw [wM_move_28, e1, e2, ixn (by omega), ixn (by omega), nI_1]
    refine iF (nI_ge (by omega) (by omega)) (iT (nI_le hle (by omega)) ⟨vp_in_nI (by omega) (by omega), vp_in_nI (by omega) (by omega), fun s1 f1 => ?_⟩)
    have hr := hv (24 * x + a2 + k)
    rw [if_neg (by omega)] at hr
    subst f1
    refine ih (k + 1) _ (by omega) (fun a ha => (u2_other ha).trans (hf a ha)) (fun j => ?_)
    by_cases q : j = 24 * y + a4 + k
    · subst q
      rw [u2_same, hr, if_pos (by omega), show 24 * y + a4 + k - (24 * y + a4) = k by omega]
    · rw [u2_ne (by omega), hv j]
      by_cases q2 : 24 * y + a4 ≤ j ∧ j < 24 * y + a4 + k
      · rw [if_pos q2, if_pos (by omega)]
      · rw [if_neg q2, if_neg (by omega)]
theorem m_moveB {x y a2 a4 n : Nat} {K : Sg → Prop} (hS : 24 * x + a2 + n ≤ 96) (hD : 24 * y + a4 + n ≤ 96) (hle : a2 < a4) (hsafe : 24 * x + a2 ≤ 24 * y + a4 ∨ 24 * y + a4 + n ≤ 24 * x + a2) (s0 : Sg) (h : ∀ t, (∀ a, a ≠ 7 → t a = s0 a) → (∀ j, t 7 j = if 24 * y + a4 ≤ j ∧ j < 24 * y + a4 + n then s0 7 (24 * x + a2 + (j - (24 * y + a4))) else s0 7 j) → K t) : ∀ (m k : Nat) (s : Sg), k + m = n → (∀ a, a ≠ 7 → s a = s0 a) → (∀ j, s 7 j = if 24 * y + a4 + (n - k) ≤ j ∧ j < 24 * y + a4 + n then s0 7 (24 * x + a2 + (j - (24 * y + a4))) else s0 7 j) → wM_move_28 (nI x) (nI a2) (nI y) (nI a4) (nI n) K (m + 1) (nI k) s := by
  intro m
  induction m with
  | zero =>
    intro k s hk hf hv
    rw [wM_move_28]
    have : k = n := by omega
    subst this
    refine iT (Int32.le_refl _) (h s hf (fun j => ?_))
    rw [hv j, Nat.sub_self, Nat.add_zero]
  | succ m ih =>
    intro k s hk hf hv
    have e0 : nI n - 1 - nI k = nI (n - 1 - k) := by rw [show (1 : Int32) = nI 1 from rfl, pk_sub (by omega), pk_sub (by omega)]
    have e1 : (24 : Int32) * nI x + nI a2 + nI (n - 1 - k) = nI (24 * x + a2 + (n - 1 - k)) := by rw [show (24 : Int32) = nI 24 from rfl, pk_mul, nI_add, nI_add]
    have e2 : (24 : Int32) * nI y + nI a4 + nI (n - 1 - k) = nI (24 * y + a4 + (n - 1 - k)) := by rw [show (24 : Int32) = nI 24 from rfl, pk_mul, nI_add, nI_add]
    rw [wM_move_28, e0, e1, e2, ixn (show 24 * x + a2 + (n - 1 - k) < 2 ^ 31 by omega), ixn (show 24 * y + a4 + (n - 1 - k) < 2 ^ 31 by omega), nI_1]
    refine iF (nI_ge (by omega) (by omega)) (iF (nI_ge hle (by omega)) ⟨vp_in_nI (by omega) (by omega), vp_in_nI (by omega) (by omega), fun s1 f1 => ?_⟩)
    have hr := hv (24 * x + a2 + (n - 1 - k))
    rw [if_neg (by omega)] at hr
    subst f1
    refine ih (k + 1) _ (by omega) (fun a ha => (u2_other ha).trans (hf a ha)) (fun j => ?_)
    by_cases q : j = 24 * y + a4 + (n - 1 - k)
    · subst q
      rw [u2_same, hr, if_pos (by omega), show 24 * y + a4 + (n - 1 - k) - (24 * y + a4) = n - 1 - k by omega]
    · rw [u2_ne (by omega), hv j]
      by_cases q2 : 24 * y + a4 + (n - k) ≤ j ∧ j < 24 * y + a4 + n
      · rw [if_pos q2, if_pos (by omega)]
      · rw [if_neg q2, if_neg (by omega)]
theorem move_Rel {s t s2 t2 : Sg} {x y a2 a4 n nx ny : Nat} (h : Rel s t) (hx : x ≤ 3) (hy : y ≤ 3) (hnx : nx ≤ 24) (hny : ny ≤ 24) (ex : t 6 x = nI nx) (ey : t 6 y = nI ny) (hb : t 5 x = t 5 y) (h1 : a2 + n ≤ nx) (h2 : a4 + n ≤ ny) (hc : s2 = c2 s (79 + 3 * x) a2 (79 + 3 * y) a4 n) (hf : ∀ a, a ≠ 7 → t2 a = t a) (hm : ∀ j, t2 7 j = if 24 * y + a4 ≤ j ∧ j < 24 * y + a4 + n then t 7 (24 * x + a2 + (j - (24 * y + a4))) else t 7 j) : Rel s2 t2 := by
  refine Rel_sh h (fun a ha => by subst hc; exact c2_other (by omega)) (fun a ha => hf a (by omega)) (fun u hu => ?_)
  obtain ⟨e0, eb, e1, m, hm9, e6, ez, hs⟩ := h.2.2.2.1 u hu
  rw [hf 5 (by omega), hf 6 (by omega)]
  have c0 : s2 (77 + 3 * u) = s (77 + 3 * u) := by subst hc; exact c2_other (by omega)
  have c1 : s2 (78 + 3 * u) = s (78 + 3 * u) := by subst hc; exact c2_other (by omega)
  rw [c0, c1]
  refine ⟨e0, eb, e1, m, hm9, e6, ez, fun k hk => ?_⟩
  rw [hm]
  by_cases q : u = y
  · subst q
    have hmn : m = ny := nI_inj (by omega) (by omega) (e6.symm.trans ey)
    subst hc
    rw [c2_row]
    by_cases q2 : a4 ≤ k ∧ k < a4 + n
    · rw [pk_cpy_in q2.1 q2.2, if_pos (by omega), show 24 * u + k - (24 * u + a4) = k - a4 by omega]
      obtain ⟨-, -, -, m2, hm2, e62, -, hs2⟩ := h.2.2.2.1 x (by omega)
      have hmx : m2 = nx := nI_inj (by omega) (by omega) (e62.symm.trans ex)
      have := hs2 (a2 + (k - a4)) (by omega)
      rw [hb] at this
      rw [show 24 * x + a2 + (k - a4) = 24 * x + (a2 + (k - a4)) by omega]
      exact this
    · rw [pk_cpy_out (by omega), if_neg (by omega)]
      exact hs k hk
  · have c3 : s2 (79 + 3 * u) = s (79 + 3 * u) := by subst hc; exact c2_other (by omega)
    rw [c3, if_neg (by omega)]
    exact hs k hk
theorem m_nm {x y : Nat} {a2 a4 a5 : Int32} {nx ny : Nat} {t : Sg} {P : Int32 → Sg → Prop} (hx : x ≤ 3) (hy : y ≤ 3) (ex : t 6 x = nI nx) (ey : t 6 y = nI ny) (h2 : (t 5 x = 0 ∨ t 5 y = 0) → P (-1000000002) t) (h5 : t 5 x ≠ 0 → t 5 y ≠ 0 → t 5 x ≠ t 5 y → P (-1000000005) t) (h1 : t 5 x ≠ 0 → t 5 y ≠ 0 → t 5 x = t 5 y → ((a5 < 0 → P (-1000000001) t) ∧ (¬ a5 < 0 → ((a2 < 0 → P (-1000000001) t) ∧ (¬ a2 < 0 → ((a4 < 0 → P (-1000000001) t) ∧ (¬ a4 < 0 → (((nI nx - a2 < a5 → P (-1000000001) t) ∧ (¬ nI nx - a2 < a5 → ((nI ny - a4 < a5 → P (-1000000001) t) ∧ (¬ nI ny - a4 < a5 → P 0 t)))))))))))) : wM_notMoved (nI x) a2 (nI y) a4 a5 t P := by
  have vx : vp_in (nI x) 4 := vp_in_nI (by omega) (by omega)
  have vy : vp_in (nI y) 4 := vp_in_nI (by omega) (by omega)
  unfold wM_notMoved
  refine m_shT hx (sel1 (m_shT hy (les1 ⟨vx, ?_⟩)))
  rw [ixn (show x < 2 ^ 31 by omega), ixn (show y < 2 ^ 31 by omega), ex, ey]
  refine ⟨fun q => h2 (Or.inl q), fun qx => ⟨vy, fun qy => ⟨vx, vy, fun qb => ?_, fun qb => h5 qx qy qb⟩, fun q => h2 (Or.inr q)⟩⟩
  have := h1 qx qy qb
  exact ⟨this.1, fun z => ⟨(this.2 z).1, fun z2 => ⟨((this.2 z).2 z2).1, fun z3 => ⟨vx, (((this.2 z).2 z2).2 z3).1, fun z4 => ⟨vy, (((this.2 z).2 z2).2 z3).2 z4⟩⟩⟩⟩⟩
theorem sub24 {nx : Nat} {a : Int32} (h : nx ≤ 24) (ha : ¬ a < 0) : (nI nx - a).toInt = (nx : Int) - a.toInt := by
  rw [Int32.lt_iff_toInt_lt, show (0 : Int32).toInt = 0 by decide] at ha
  have hb := Int32.toInt_lt a
  rw [Int32.toInt_sub, nI_toInt (by omega), Int.bmod_def]
  split <;> omega
theorem eq_move {a1 a2 a3 a4 a5 : Int32} {s t : Sg} (h : Rel s t) : wB_move a1 a2 a3 a4 a5 s (fun r s => wM_move a1 a2 a3 a4 a5 t (fun r2 t => r = r2 ∧ Rel s t)) := by
  unfold wB_move
  rcases rng a1 0 3 (by omega) with ⟨x, -, hx, rfl⟩ | hn
  · refine p_shT (by omega) (sel1 ?_)
    rcases rng a3 0 3 (by omega) with ⟨y, -, hy, rfl⟩ | hn
    · obtain ⟨ex0, -, ex1, nx, hnx, ex6, -, -⟩ := h.2.2.2.1 x (by omega)
      obtain ⟨ey0, -, ey1, ny, hny, ey6, -, -⟩ := h.2.2.2.1 y (by omega)
      have vx : vp_in (nI x) 4 := vp_in_nI (by omega) (by omega)
      have vy : vp_in (nI y) 4 := vp_in_nI (by omega) (by omega)
      rw [t77 (x := x) (by omega), t77 (x := y) (by omega)]
      refine p_shT (by omega) (les1 ⟨vx, vy, ?_⟩)
      unfold wSheet_isMissing
      have er2 : (t 5 x = 0 ∨ t 5 y = 0) → wB_failed (-1000000002) s (fun r s => wM_move (nI x) a2 (nI y) a4 a5 t (fun r2 t => r = r2 ∧ Rel s t)) := fun q => eq_err h cc2 (by omega) (by omega) (fun P hP => m_nm hx hy ex6 ey6 (fun _ => jE2 (m_error cc2 (by omega) (by omega) hP)) (fun z1 z2 _ => by rcases q with q | q; exact absurd q z1; exact absurd q z2) (fun z1 z2 _ => by rcases q with q | q; exact absurd q z1; exact absurd q z2))
      refine ⟨fun qx => jT rfl (⟨fun qy => sel0 ⟨fun qb => ?_, fun qb => ?_⟩, fun qy => sel1 (er2 (Or.inr (ey0.symm.trans qy)))⟩), fun qx => jF (by decide) (er2 (Or.inl (ex0.symm.trans qx)))⟩
      · rw [ex0] at qx qb
        rw [ey0] at qy qb
        have run1 : ¬ (0 ≤ a2.toInt ∧ 0 ≤ a5.toInt ∧ a2.toInt + a5.toInt ≤ nx) ∨ ¬ (0 ≤ a4.toInt ∧ 0 ≤ a5.toInt ∧ a4.toInt + a5.toInt ≤ ny) → wB_failed (-1000000001) s (fun r s => wM_move (nI x) a2 (nI y) a4 a5 t (fun r2 t => r = r2 ∧ Rel s t)) := fun bad => eq_err h cc1 (by omega) (by omega) (fun P hP => m_nm hx hy ex6 ey6 (fun q => by rcases q with q | q; exact absurd q qx; exact absurd q qy) (fun _ _ q => absurd qb q) (fun _ _ _ => by
          have er := jE1 (A := ∃ N1, wM_move_28 (nI x) a2 (nI y) a4 a5 (fun s2 => P a5 s2) N1 0 t) (m_error cc1 (s := t) (P := P) (by omega) (by omega) hP)
          refine ⟨fun _ => er, fun z5 => ⟨fun _ => er, fun z2 => ⟨fun _ => er, fun z4 => ⟨fun _ => er, fun w1 => ⟨fun _ => er, fun w2 => ?_⟩⟩⟩⟩⟩
          exfalso
          rw [Int32.lt_iff_toInt_lt, sub24 hnx z2] at w1
          rw [Int32.lt_iff_toInt_lt, sub24 hny z4] at w2
          rw [Int32.lt_iff_toInt_lt, show (0 : Int32).toInt = 0 by decide] at z2 z4 z5
          omega))
        rw [show 77 + 3 * x + 1 = 78 + 3 * x by omega, show 77 + 3 * y + 1 = 78 + 3 * y by omega]
        refine p_hasRun (ex1.trans ex6) (by omega) (fun i n hin e2 e5 => sel1 ?_) (fun hno => sel0 (run1 (Or.inl hno)))
        refine p_hasRun (ey1.trans ey6) (by omega) (fun j n2 hjn e4 e52 => les1 ?_) (fun hno => les0 (run1 (Or.inr hno)))
        subst e2; subst e5; subst e4
        have en : n2 = n := nI_inj (by omega) (by omega) e52.symm
        subst en
        rw [show 78 + 3 * x + 1 = 79 + 3 * x by omega, show 78 + 3 * y + 1 = 79 + 3 * y by omega, ixn (by omega), ixn (by omega), ixn (by omega)]
        refine ⟨⟨nI_pos (by omega), nI_pos (by omega), nI_pos (by omega), ?_, ?_⟩, fun s2 e9 => ?_⟩
        · rw [ixn (by omega), ixn (by omega), shcap2 hx]; omega
        · rw [ixn (by omega), ixn (by omega), shcap2 hy]; omega
        · unfold wM_move
          refine m_nm hx hy ex6 ey6 (fun q => by rcases q with q | q; exact absurd q qx; exact absurd q qy) (fun _ _ q => absurd qb q) (fun _ _ _ => ?_)
          refine iF (nI_pos (by omega)) (iF (nI_pos (by omega)) (iF (nI_pos (by omega)) ?_))
          rw [pk_sub (by omega), pk_sub (by omega)]
          refine iF (nI_nlt (by omega) (by omega)) (iF (nI_nlt (by omega) (by omega)) ⟨fun _ => ⟨n2 + 1, ?_⟩, fun e => absurd rfl e⟩)
          have fin : ∀ t1 : Sg, (∀ a, a ≠ 7 → t1 a = t a) → (∀ k, t1 7 k = if 24 * y + j ≤ k ∧ k < 24 * y + j + n2 then t 7 (24 * x + i + (k - (24 * y + j))) else t 7 k) → nI n2 = nI n2 ∧ Rel s2 t1 := fun t1 f m => ⟨rfl, move_Rel h hx hy hnx hny ex6 ey6 qb hin hjn e9 f m⟩
          by_cases hle : j ≤ i
          · exact m_moveF (by omega) (by omega) hle (by omega) t fin n2 0 t (by omega) (fun _ _ => rfl) (fun k => by rw [if_neg (by omega)])
          · exact m_moveB (by omega) (by omega) (by omega) (by omega) t fin n2 0 t (by omega) (fun _ _ => rfl) (fun k => by rw [if_neg (by omega)])
      · rw [ex0] at qx qb
        rw [ey0] at qy qb
        exact eq_err h cc5 (by omega) (by omega) (fun P hP => m_nm hx hy ex6 ey6 (fun q => by rcases q with q | q; exact absurd q qx; exact absurd q qy) (fun _ _ _ => ⟨fun e => absurd e (by decide), fun _ => m_error cc5 (by omega) (by omega) hP⟩) (fun _ _ q => absurd q qb))
    · refine p_shF hn (les0 (eq_err h cc1 (by omega) (by omega) (fun P hP => ?_)))
      unfold wM_move wM_notMoved
      exact m_shT hx (sel1 (m_shF hn (les0 (jE1 (m_error cc1 (by omega) (by omega) hP)))))
  · refine p_shF hn (sel0 (eq_err h cc1 (by omega) (by omega) (fun P hP => ?_)))
    unfold wM_move wM_notMoved
    exact m_shF hn (sel0 (jE1 (m_error cc1 (by omega) (by omega) hP)))
