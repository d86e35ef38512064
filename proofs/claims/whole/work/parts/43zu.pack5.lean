-- PURE: pack, the reference: what a row comes to
theorem sm_snoc {th : Nat → Nat → Nat} {cd : Nat → List Int32} {L : List Nat} : ∀ (m i : Nat) (acc : Int32), sm th cd L (m + 1) i acc = sm th cd L m i acc + gus th cd (L.getD (i + m) 0) (i + m) := by
  intro m
  induction m with
  | zero => intro i acc; rfl
  | succ m ih =>
    intro i acc
    rw [sm, ih (i + 1), sm, show i + 1 + m = i + (m + 1) by omega]
section PKM
variable {s t : Sg} {kn : Nat} {th : Nat → Nat → Nat} {L : List Nat} {pk : Option Nat} {st se : Nat} {z : Int32} {tp : List Nat} {wt : List Int32} {cd : Nat → List Int32}
theorem VB_sub {p : List Nat} (v : VB kn th L pk st se tp wt cd) (hn : p.Nodup) (hs : ∀ x ∈ p, x ∈ L) : VB kn th p pk st se tp wt cd := by
  obtain ⟨h1, ⟨h2, h3⟩, h4, h5⟩ := v
  exact ⟨h1, ⟨hn, fun x hx => h3 x (hs x hx)⟩, fun x hx => ⟨(h4 x hx).1, fun q => (h4 x hx).2 (hs x q)⟩, h5⟩
theorem m_pkA {n : Nat} {f1 f2 : Int32} {p : List Nat} {K : Sg → Prop} (hp : p.length = n) (hn : n ≤ 6) (s0 : Sg) (e3 : s0 1 3 = nI n) (tk : ∀ k, k < n → s0 13 k = nI (p.getD k 0)) (h : ∀ t, MO t (p.map nI) → frO s0 t → K t) : ∀ (m i : Nat) (s : Sg), i + m = n → frO s0 s → s 1 3 = nI n → (∀ k, k < i → s 1 (8 + k) = nI (p.getD k 0)) → wM_packing_9 f1 f2 K (m + 1) (nI i) s := by
  intro m
  induction m with
  | zero =>
    intro i s hi hf h3 hv
    rw [wM_packing_9, h3]
    refine iT (nI_le (by omega) (by omega)) (h s (IL_of (by rw [h3]; simp [hp]) (fun k hk => ?_)) hf)
    have hk2 : k < p.length := by simpa using hk
    rw [getD_map hk2]
    exact hv k (by omega)
  | succ m ih =>
    intro i s hi hf h3 hv
    rw [wM_packing_9, h3, m8, ixn (by omega), ixn (by omega), hf.1 13 (by omega), tk i (by omega), nI_1]
    refine iF (nI_ge (by omega) (by omega)) ⟨vp_in_nI (by omega) (by omega), vp_in_nI (by omega) (by omega), fun s1 e1 => ?_⟩
    refine ih (i + 1) s1 (by omega) ⟨fun a ha => by subst e1; rw [u2_other ha]; exact hf.1 a ha, fun j h1 h2 => by subst e1; rw [u2_ne (by omega)]; exact hf.2 j h1 h2⟩ (by subst e1; rw [u2_ne (by omega)]; exact h3) (fun k hk => ?_)
    subst e1
    by_cases q : k = i
    · subst q; exact u2_same
    · rw [u2_ne (by omega)]; exact hv k (by omega)
theorem m_pkB {f2 : Int32} {st2 : Nat} {Lf : List Nat} {K : Int32 → Sg → Prop} (v : VB kn th Lf pk st se tp wt cd) (s0 : Sg) (m0 : MB (s0 1) kn th Lf pk st2 se z tp wt cd) (R : Int32) (h : ∀ t, m10 s0 t → K R t) : ∀ (r : List Nat) (i : Nat) (c : Int32) (s : Sg), i + r.length = Lf.length → (∀ (j : Nat) (hj : j < r.length), Lf[i + j]? = some r[j]) → m10 s0 s → pcl th cd r i (sm th cd Lf i 0 0) c = R → wM_packing_50 f2 K (r.length + 1) c (nI i) s := by
  have hk := v.1
  have hlen := VB_len v
  intro r
  induction r with
  | nil =>
    intro i c s hi hr hf e
    rw [wM_packing_50, hf 1 (by omega) (by omega), m0.2.1.1, List.length_map]
    rw [pcl] at e
    subst e
    exact iT (nI_le (by simp at hi; omega) (by omega)) (h s hf)
  | cons y r ih =>
    intro i c s hi hr hf e
    simp at hi
    have m : MB (s 1) kn th Lf pk st2 se z tp wt cd := by rw [hf 1 (by omega) (by omega)]; exact m0
    have h0' := hr 0 (by simp)
    simp at h0'
    have hy : y < kn := v.2.1.2 y (List.mem_of_getElem? h0')
    have e8 : s 1 (8 + i) = nI y := m.2.1.2 i (nI y) (by simp [h0'])
    have eg : Lf.getD i 0 = y := by rw [List.getD_eq_getElem?_getD, h0']; rfl
    have hr3 : ∀ (j : Nat) (hj : j < r.length), Lf[i + 1 + j]? = some r[j] := fun j hj => by
      have := hr (j + 1) (by simpa using hj)
      rw [show i + 1 + j = i + (j + 1) by omega]
      simpa using this
    rw [wM_packing_50, m.2.1.1, List.length_map, m8, ixn (by omega), e8, nI_1]
    rw [pcl] at e
    refine iF (nI_ge (by omega) (by omega)) ⟨vp_in_nI (by omega) (by omega), m_used1 v m hy (fun s1 k1 => ⟨i + 2, ?_⟩)⟩
    have m1 : MB (s1 1) kn th Lf pk st2 se z tp wt cd := by rw [k1 1 (by omega) (by omega)]; exact m
    refine m_feelL1 v s1 m1 (i0 := i) (by omega) (sm th cd Lf (i + 1) 0 0) (fun s2 k2 => ?_) (i + 1) 0 0 s1 (by omega) m10.refl rfl
    have es : sm th cd Lf (i + 1) 0 0 = sm th cd Lf i 0 0 + gus th cd y i := by
      rw [sm_snoc, Nat.zero_add, eg]
    refine ih (i + 1) _ s2 (by omega) hr3 ((hf.trans k1).trans k2) ?_
    rw [es]
    exact e
theorem m_packing {N n : Nat} {p L2 : List Nat} {P : Int32 → Sg → Prop} (v : VB kn th p pk st se tp wt cd) (m : MB (s 1) kn th L2 pk st se z tp wt cd) (hl : L2.length = n) (hp : p.length = n) (hn : n ≤ 6) (hN : N ≤ 20) (tk : ∀ k, k < n → s 13 k = nI (p.getD k 0)) (h : ∀ t, MB (t 1) kn th (wlk th N st p) pk st se z tp wt cd → (∀ a, a ≠ 1 → a ≠ 10 → a ≠ 11 → t a = s a) → P (cso th cd st N p) t) : wM_packing (nI N) s P := by
  have hk := v.1
  have hst : st ≤ 9999 := v.2.2.2.1
  have e3 : s 1 3 = nI n := by rw [m.2.1.1]; simp [hl]
  have e0 : s 1 0 = nI st := m.1.2.2.1
  have hw := wlk_perm (th := th) N st p
  unfold wM_packing
  rw [e0]
  refine ⟨n + 1, m_pkA hp hn s e3 tk (fun s1 o1 f1 => ?_) n 0 s (by omega) frO.refl e3 (fun k hk => absurd hk (Nat.not_lt_zero k))⟩
  have m1 : MB (s1 1) kn th p pk st se z tp wt cd := MB_order m hk f1.2 o1
  refine m_steps hk (by omega) v.2.1.2 m1 (by omega) (fun s2 m2 f2 => ⟨(wlk th N st p).length + 1, ?_⟩)
  refine m_pkB (VB_perm v hw hst) s2 m2 (cso th cd st N p) (fun s3 k3 s4 e4 => ?_) (wlk th N st p) 0 0 s2 (by omega) (fun j hj => by rw [Nat.zero_add]; exact List.getElem?_eq_getElem hj) m10.refl rfl
  subst e4
  have m3 : MB (s3 1) kn th (wlk th N st p) pk (st + N) se z tp wt cd := by rw [k3 1 (by omega) (by omega)]; exact m2
  refine h _ (MB_st m3 hk) (fun a h1 h10 h11 => ?_)
  rw [u2_other h1, k3 a h10 h11, f2 a h1, f1.1 a h1]
-- all rows
def bM (s : Sg) : Option (Int32 × List Nat) → Prop
  | none => s 0 18 = -1
  | some (c, q) => s 0 18 = c ∧ (∃ k, k ≤ 594000 ∧ c = nI k) ∧ ∀ i, i < q.length → s 12 i = nI (q.getD i 0)
def fP (s t : Sg) : Prop := (∀ a, a ≠ 0 → a ≠ 1 → a ≠ 10 → a ≠ 11 → a ≠ 12 → a ≠ 13 → t a = s a) ∧ ∀ j, j ≠ 18 → t 0 j = s 0 j
theorem fP.refl {s : Sg} : fP s s := ⟨fun _ _ _ _ _ _ _ => rfl, fun _ _ => rfl⟩
theorem fP.trans {s t u : Sg} (h1 : fP s t) (h2 : fP t u) : fP s u := ⟨fun a x1 x2 x3 x4 x5 x6 => (h2.1 a x1 x2 x3 x4 x5 x6).trans (h1.1 a x1 x2 x3 x4 x5 x6), fun j x => (h2.2 j x).trans (h1.2 j x)⟩
theorem bM_cg {b : Option (Int32 × List Nat)} (h : bM s b) (e : t 0 18 = s 0 18) (e2 : t 12 = s 12) : bM t b := by
  cases b with
  | none => exact e.trans h
  | some p =>
    obtain ⟨c, q⟩ := p
    refine ⟨e.trans h.1, h.2.1, fun i hi => ?_⟩
    rw [e2]
    exact h.2.2 i hi
theorem m_pk42 {rc : Nat → List Int32 → Sg → (Int32 → Sg → Prop) → Prop} {n : Nat} {p : List Nat} {K : Sg → Prop} (hn : n ≤ 6) (s0 : Sg) (tk : ∀ k, k < n → s0 13 k = nI (p.getD k 0)) (h : ∀ t, (∀ a, a ≠ 12 → t a = s0 a) → (∀ i, i < n → t 12 i = nI (p.getD i 0)) → K t) : ∀ (m i : Nat) (s : Sg), i + m = n → (∀ a, a ≠ 12 → s a = s0 a) → (∀ k, k < i → s 12 k = nI (p.getD k 0)) → wM_packs_42 rc (nI n) K (m + 1) (nI i) s := by
  intro m
  induction m with
  | zero =>
    intro i s hi hf hv
    rw [wM_packs_42]
    exact iT (nI_le (by omega) (by omega)) (h s hf (fun k hk => hv k (by omega)))
  | succ m ih =>
    intro i s hi hf hv
    rw [wM_packs_42, ixn (by omega), hf 13 (by omega), tk i (by omega), nI_1]
    refine iF (nI_ge (by omega) (by omega)) ⟨vp_in_nI (by omega) (by omega), vp_in_nI (by omega) (by omega), fun s1 e1 => ?_⟩
    refine ih (i + 1) s1 (by omega) (fun a ha => by subst e1; rw [u2_other ha]; exact hf a ha) (fun k hk => ?_)
    subst e1
    by_cases q : k = i
    · subst q; exact u2_same
    · rw [u2_ne (by omega)]; exact hv k (by omega)
/-- the reference's cells amid the search -/
def PS (s : Sg) (kn : Nat) (th : Nat → Nat → Nat) (n : Nat) (pk : Option Nat) (st se : Nat) (z : Int32) (tp : List Nat) (wt : List Int32) (cd : Nat → List Int32) (pre : List Nat) (b : Option (Int32 × List Nat)) : Prop := (∃ L2 : List Nat, L2.length = n ∧ MB (s 1) kn th L2 pk st se z tp wt cd) ∧ (∀ k, k < pre.length → s 13 k = nI (pre.getD k 0)) ∧ bM s b
theorem m_leaf {F N n : Nat} {M : Int32} {pre : List Nat} {b : Option (Int32 × List Nat)} {P : Int32 → Sg → Prop} (v : VB kn th L pk st se tp wt cd) (hL : L.length = n) (hn : n ≤ 6) (hN : N ≤ 20) (hpl : pre.length = n) (hnd : pre.Nodup) (hsub : ∀ x ∈ pre, x ∈ L) (ps : PS s kn th n pk st se z tp wt cd pre b) (h : ∀ t, PS t kn th n pk st se z tp wt cd pre (upB (cso th cd st N) b pre) → fP s t → P 0 t) : wGPacks (F + 1) 0 [nI pre.length, M, nI N] s P := by
  have hk := v.1
  obtain ⟨⟨L2, hl2, m⟩, tk, hb⟩ := ps
  have e3 : s 1 3 = nI n := by rw [m.2.1.1]; simp [hl2]
  show wM_packs (wGPacks F) (nI pre.length) M (nI N) s P
  unfold wM_packs
  rw [e3, hpl]
  rw [hpl] at tk
  refine jT rfl (m_packing (VB_sub v hnd hsub) m hl2 hpl hn hN tk (fun t1 m1 f1 => ?_))
  obtain ⟨k, hkk, ek⟩ := cso_nat (th := th) (cd := cd) (st := st) (N := N) (p := pre) (by omega)
  have e18 : t1 0 18 = s 0 18 := by rw [f1 0 (by omega) (by omega) (by omega)]
  have hw := wlk_perm (th := th) N st pre
  have fp1 : fP s t1 := ⟨fun a _ h1 h10 h11 _ _ => f1 a h1 h10 h11, fun j _ => by rw [f1 0 (by omega) (by omega) (by omega)]⟩
  have tk1 : ∀ k, k < n → t1 13 k = nI (pre.getD k 0) := fun k hk => by rw [f1 13 (by omega) (by omega) (by omega)]; exact tk k hk
  have take : upB (cso th cd st N) b pre = some (cso th cd st N pre, pre) → ∀ s2 : Sg, s2 = u2 t1 0 18 (cso th cd st N pre) → (∃ N1 : Nat, wM_packs_42 (wGPacks F) (nI n) (fun (s3 : Sg) => P 0 s3) N1 0 s2) := by
    intro eb s2 e2
    refine ⟨n + 1, m_pk42 hn s2 (fun k hk => by subst e2; rw [u2_other (by omega)]; exact tk1 k hk) (fun t2 f2 v2 => h t2 ?_ ?_) n 0 s2 (by omega) (fun _ _ => rfl) (fun k hk => absurd hk (Nat.not_lt_zero k))⟩
    · rw [eb]
      refine ⟨⟨wlk th N st pre, by rw [hw.length_eq]; exact hpl, ?_⟩, fun k hk => ?_, ?_, ⟨k, hkk, ek⟩, fun i hi => v2 i (by omega)⟩
      · rw [f2 1 (by omega)]; subst e2; rw [u2_other (by omega)]; exact m1
      · rw [f2 13 (by omega)]; subst e2; rw [u2_other (by omega)]; exact tk1 k (by omega)
      · rw [f2 0 (by omega)]; subst e2; exact u2_same
    · refine fp1.trans ⟨fun a h0 _ _ _ h12 _ => ?_, fun j hj => ?_⟩
      · rw [f2 a h12]; subst e2; exact u2_other h0
      · rw [f2 0 (by omega)]; subst e2; exact u2_ne (by omega)
  have keep : upB (cso th cd st N) b pre = b → P 0 t1 := by
    intro eb
    refine h t1 ?_ fp1
    rw [eb]
    exact ⟨⟨wlk th N st pre, by rw [hw.length_eq]; exact hpl, m1⟩, fun k hk => tk1 k (by omega), bM_cg hb e18 (f1 12 (by omega) (by omega) (by omega))⟩
  rw [e18]
  cases b with
  | none =>
    have e : s 0 18 = -1 := hb
    rw [e]
    exact iT (by decide) (take rfl)
  | some cq =>
    obtain ⟨c, q⟩ := cq
    obtain ⟨e, ⟨k2, hk2, ek2⟩, -⟩ := id hb
    rw [e]
    refine iF (by rw [ek2]; exact nI_pos (by omega)) ⟨fun hq => keep ?_, fun hq => take ?_⟩
    · unfold upB
      simp only
      rw [if_pos hq]
    · unfold upB
      simp only
      rw [if_neg hq]
end PKM
