-- PURE: fits
def ftl (A : List Nat → Nat) (th : Nat → Nat → Nat) (st : Nat) : Nat → Nat → List Nat → Nat
  | 0, i, _ => i
  | m + 1, i, l => if A l = l.length then i else ftl A th st m (i + 1) (stp (snks th (st + i)) l).1
theorem ftl_le {A : List Nat → Nat} {th : Nat → Nat → Nat} {st : Nat} : ∀ (m i : Nat) (l : List Nat), ftl A th st m i l ≤ i + m := by
  intro m
  induction m with
  | zero => intro i l; rw [ftl]; omega
  | succ m ih =>
    intro i l
    rw [ftl]
    split
    · omega
    · have := ih (i + 1) (stp (snks th (st + i)) l).1; omega
theorem agr_le2 : ∀ (w l : List Int32), agr w l ≤ l.length := by
  intro w
  induction w with
  | nil => intro l; simp [agr]
  | cons a w ih =>
    intro l
    cases l with
    | nil => simp [agr]
    | cons b l =>
      rw [agr]
      split
      · have := ih l; simp; omega
      · simp
section FIT
variable {s t : Sg} {kn : Nat} {th : Nat → Nat → Nat} {L : List Nat} {pk : Option Nat} {st se : Nat} {z : Int32} {tp : List Nat} {wt : List Int32} {cd : Nat → List Int32}
theorem c_fitL {x n : Nat} {P : Int32 → Sg → Prop} {K : Sg → Prop} {w : List Int32} (hx : x ≤ 3) (hn : w.length = n) (hn9 : n ≤ 9) (v : VB kn th L pk st se tp wt cd) (s0 : Sg) (c0 : CB s0 1 kn th L pk st se z tp wt cd) (hw : RW s0 (78 + 3 * x) w) (N : Nat) (h1 : ∀ t, N ≤ 99 → thk s0 t → P (nI N) t) (h0 : ∀ t, N = 100 → thk s0 t → K t) : ∀ (m i : Nat) (l : List Nat) (s : Sg), i + m = 100 → l.length = n → (∀ x ∈ l, x < kn) → LSn s kn th → thk s0 s → RW s 72 (l.map nI) → ftl (fun l => agr w (l.map nI)) th st m i l = N → wThought_stepsToBe_33 (78 + 3 * x) P K (m + 1) (nI i) s := by
  have hk := v.1
  have hst := v.2.2.2.1
  intro m
  induction m with
  | zero =>
    intro i l s hi hl hm hls hf hr e
    rw [wThought_stepsToBe_33]
    rw [ftl] at e
    exact iT (nI_lt (a := 99) (by omega) (by omega)) (h0 s (by omega) hf)
  | succ m ih =>
    intro i l s hi hl hm hls hf hr e
    rw [wThought_stepsToBe_33]
    have c := thk_CB hk c0 hf
    refine iF (nI_nlt (b := i) (a := 99) (by omega) (by omega)) ?_
    have hw2 : RW s (78 + 3 * x) w := by
      show IL (s (78 + 3 * x) 1) (s (78 + 3 * x + 1)) w
      rw [hf (78 + 3 * x) (by omega) (by omega), hf (78 + 3 * x + 1) (by omega) (by omega)]
      exact hw
    refine p_alike (l := w) (r := l.map nI) hw2 hr (by rw [shcap hx]; omega) (by rw [cp72]; simp; omega) (by rw [shcap hx]; omega) (by rw [cp72]; omega) ?_
    rw [hr.1, List.length_map, c.1.2.2.1, nI_add, nI_1]
    have hle := agr_le2 w (l.map nI)
    rw [List.length_map] at hle
    rw [ftl] at e
    by_cases q : agr w (l.map nI) = l.length
    · rw [if_pos q] at e
      subst e
      exact jT (by rw [q]) (h1 s (by omega) hf)
    · rw [if_neg q] at e
      refine jF (fun e2 => q (nI_inj (by omega) (by omega) e2)) ?_
      refine p_shake (k := 72) (l := l) (by rw [cp72]; omega) (by rw [cp72]; omega) hk ⟨by omega, by omega⟩ (by omega) (by omega) hls hm hr (fun t1 ht1 hf1 => ?_)
      exact ih (i + 1) _ t1 (by omega) (by rw [stp_perm.length_eq]; exact hl) (fun x hx => hm x (stp_perm.mem_iff.mp hx)) (LS_congr hls (hf1 10 (by omega) (by omega))) (fun a h1 h2 => (hf1 a (by omega) (by omega)).trans (hf a h1 h2)) ht1 e
theorem m_fitL {x n : Nat} {K : Int32 → Sg → Prop} {w : List Int32} {A : List Nat → Nat} (hk : kn ≤ 9) (hx : x ≤ 3) (hn : w.length = n) (hn9 : n ≤ 9) (N : Nat) (s0 : Sg) (h6 : s0 6 x = nI n) (h7 : ∀ (j : Nat) (hj : j < w.length), s0 7 (24 * x + j) = w[j]) (hA : ∀ l : List Nat, (∀ y ∈ l, y < kn) → A l = agr w (l.map nI)) (h : ∀ t, (∀ a, a ≠ 1 → t a = s0 a) → K (nI N) t) : ∀ (m i : Nat) (l : List Nat) (s : Sg), i + m = 100 → l.length = n → (∀ x ∈ l, x < kn) → MB (s 1) kn th l pk (st + i) se z tp wt cd → (∀ a, a ≠ 1 → s a = s0 a) → ftl A th st m i l = N → wM_fits_44 (nI x) K (m + 1) (nI i) s := by
  intro m
  induction m with
  | zero =>
    intro i l s hi hl hm hb hf e
    rw [wM_fits_44]
    rw [ftl] at e
    subst e
    exact iT (nI_lt (a := 99) (by omega) (by omega)) (h s hf)
  | succ m ih =>
    intro i l s hi hl hm hb hf e
    rw [wM_fits_44]
    refine iF (nI_nlt (b := i) (a := 99) (by omega) (by omega)) ?_
    unfold wM_rightOf
    refine ⟨w.length + 1, ?_⟩
    refine m_rightL (N := n) (M := n) hx (by omega) hn9 (by rw [hf 6 (by omega)]; exact h6) (by rw [hb.2.1.1]; simp [hl]) w (l.map nI) 0 (by omega) (by simp [hl]) (fun j hj => by rw [hf 7 (by omega), Nat.zero_add]; exact h7 j hj) (fun j hj => by rw [Nat.zero_add]; exact IL_at hb.2.1 hj) ?_
    show vp_in (nI x) 4 ∧ ((s 6 (ix (nI x)) ≤ nI (0 + agr w (l.map nI)) → K (nI i) s) ∧ (¬ s 6 (ix (nI x)) ≤ nI (0 + agr w (l.map nI)) → wM_steps 1 s (fun s2 => wM_fits_44 (nI x) K (m + 1) (nI i + 1) s2)))
    rw [Nat.zero_add, ixn (by omega), hf 6 (by omega), h6]
    refine ⟨vp_in_nI (by omega) (by omega), ?_⟩
    have hle := agr_le2 w (l.map nI)
    rw [List.length_map] at hle
    rw [ftl, hA l hm] at e
    by_cases q : agr w (l.map nI) = l.length
    · rw [if_pos q] at e
      subst e
      exact iT (nI_le (by omega) (by omega)) (h s hf)
    · rw [if_neg q] at e
      refine iF (nI_ge (by omega) (by omega)) ?_
      refine m_steps (n := 1) hk (by omega) hm hb (by omega) (fun t1 m1 f1 => ?_)
      rw [nI_1]
      exact ih (i + 1) _ t1 (by omega) (by rw [stp_perm.length_eq]; exact hl) (fun x hx => hm x (stp_perm.mem_iff.mp hx)) m1 (fun a ha => (f1 a ha).trans (hf a ha)) e
end FIT
theorem eq_fits {a1 : Int32} {s t : Sg} (h : Rel s t) : wB_fits a1 s (fun r s => wM_fits a1 t (fun r2 t => r = r2 ∧ Rel s t)) := by
  obtain ⟨kn, th, L, pk, st, se, z, tp, wt, cd, v, c, m⟩ := id h.1
  have hk := v.1
  have hlen := VB_len v
  have hst := v.2.2.2.1
  unfold wB_fits
  rcases rng a1 0 3 (by omega) with ⟨x, -, hx, rfl⟩ | hn
  · obtain ⟨e0, -, e1, n, hn, e6, -, hs⟩ := h.2.2.2.1 x (by omega)
    rw [t77 (by omega)]
    refine p_shT (by omega) (les1 ⟨vp_in_nI (by omega) (by omega), ?_⟩)
    unfold wSheet_isMissing
    rw [e0]
    refine ⟨fun q => sel0 ⟨vp_in_nI (by omega) (by omega), ?_⟩, fun q => sel1 (eq_err h cc2 (by omega) (by omega) (fun P hP => m_there hx (fun e => absurd q e) (fun _ => jE2 (m_error cc2 (by omega) (by omega) hP))))⟩
    rw [show 77 + 3 * x + 1 = 78 + 3 * x by omega]
    unfold wThought_stepsToBe
    have c3 : s 3 1 = nI L.length := by rw [show s 3 1 = s (1 + 2) 1 from rfl, c.2.1.1]; simp
    have m3 : t 1 3 = nI L.length := by rw [m.2.1.1]; simp
    rw [e1, e6, c3]
    by_cases qn : n = L.length
    · subst qn
      have hle := ftl_le (A := fun l => agr (shL (s (79 + 3 * x)) L.length) (l.map nI)) (th := th) (st := st) 100 0 L
      have mm : ∀ {P : Int32 → Sg → Prop}, (∀ t1, (∀ i, i < 379 → t1 1 i = t 1 i) → (∀ a, a ≠ 1 → a ≠ 3 → t1 a = t a) → (ftl (fun l => agr (shL (s (79 + 3 * x)) L.length) (l.map nI)) th st 100 0 L ≤ 99 → P (nI (ftl (fun l => agr (shL (s (79 + 3 * x)) L.length) (l.map nI)) th st 100 0 L)) t1) ∧ (ftl (fun l => agr (shL (s (79 + 3 * x)) L.length) (l.map nI)) th st 100 0 L = 100 → wM_error (-1000000002) t1 P)) → wM_fits (nI x) t P := by
        intro P p
        unfold wM_fits
        refine m_there hx (fun _ => ⟨fun _ => ⟨vp_in_nI (by omega) (by omega), ?_⟩, fun e => absurd rfl e⟩) (fun e => absurd e q)
        rw [ixn (by omega), e6, m3]
        refine iT rfl (m_thinks (fun t1 g1 h1 => ⟨101, ?_⟩))
        have mt1 : MB (t1 1) kn th L pk (st + 0) se z tp wt cd := by rw [h1 1 (by omega)]; exact m
        refine m_fitL (w := shL (fun k => t 7 (24 * x + k)) L.length) (A := fun l => agr (shL (s (79 + 3 * x)) L.length) (l.map nI)) hk hx shL_len (by omega) _ t1 (by rw [h1 6 (by omega)]; exact e6) (fun j hj => by rw [h1 7 (by omega), shL_at (by simpa [shL] using hj)]) (fun l hl => sh_alike hs (fun y hy => by have := hl y hy; omega)) (fun t2 h2 => ?_) 100 0 L t1 (by omega) rfl v.2.1.2 mt1 (fun _ _ => rfl) rfl
        have e3 : ∀ i, i < 379 → t2 3 i = t 1 i := fun i hi => by rw [h2 3 (by omega)]; exact g1 i hi
        have ef : ∀ a, a ≠ 1 → a ≠ 3 → t2 a = t a := fun a h1' h3 => (h2 a h1').trans (h1 a h3)
        refine m_puts e3 ef (fun t3 g3 f3 => ?_)
        obtain ⟨q1, q2⟩ := p t3 g3 f3
        refine ⟨fun z => q1 ((nI_leI (b := 99) (by omega) (by omega)).mp z), fun z => q2 ?_⟩
        have : ¬ ftl (fun l => agr (shL (s (79 + 3 * x)) L.length) (l.map nI)) th st 100 0 L ≤ 99 := fun w => z (nI_le (b := 99) w (by omega))
        omega
      refine iT rfl (p_learn hk c (fun t1 hf1 hls => ?_))
      have c1 := CB_10 c hk hf1
      refine p_copy (k := 72) (k1 := 3) (l := L.map nI) c1.2.1 (by rw [cp72]; simp; omega) (by rw [cp3]; simp; omega) (by rw [cp72]; omega) (by omega) (fun t2 ht2 hf2 => ⟨101, ?_⟩)
      have k2 : thk s t2 := fun a q1 q2 => (hf2 a (by omega) (by omega)).trans (hf1 a q1)
      refine c_fitL (w := shL (s (79 + 3 * x)) L.length) hx shL_len (by omega) v s c (IL_of (by rw [e1, e6, shL_len]) (fun i hi => by rw [shL_at (by simpa [shL] using hi), show 78 + 3 * x + 1 = 79 + 3 * x by omega])) (ftl (fun l => agr (shL (s (79 + 3 * x)) L.length) (l.map nI)) th st 100 0 L) (fun t3 hN k3 => ?_) (fun t3 hN k3 => ?_) 100 0 L t2 (by omega) rfl v.2.1.2 (LS_congr hls (hf2 10 (by omega) (by omega))) k2 ht2 rfl
      · exact jF (nn1 (by omega)) (mm (fun t4 g f => ⟨fun _ => ⟨rfl, put_Rel (thk_Rel h k3) g f⟩, fun e => absurd e (by omega)⟩))
      · refine jT rfl (p_failed cc2 (by omega) (by omega) (mm (fun t4 g f => ⟨fun e => absurd e (by omega), fun _ => m_error cc2 (by omega) (by omega) ⟨rfl, Rel_err (put_Rel (thk_Rel h k3) g f)⟩⟩)))
    · refine iF (fun e => qn (nI_inj (by omega) (by omega) e)) (jT rfl (eq_err h cc2 (by omega) (by omega) (fun P hP => ?_)))
      unfold wM_fits
      refine m_there hx (fun _ => ⟨fun _ => ⟨vp_in_nI (by omega) (by omega), ?_⟩, fun e => absurd rfl e⟩) (fun e => absurd e q)
      rw [ixn (by omega), e6, m3]
      exact iF (fun e => qn (nI_inj (by omega) (by omega) e)) (m_error cc2 (by omega) (by omega) hP)
  · exact p_shF hn (les0 (eq_err h cc1 (by omega) (by omega) (fun P hP => m_thereF hn (jE1 (m_error cc1 (by omega) (by omega) hP)))))
