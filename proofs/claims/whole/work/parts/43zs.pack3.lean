-- PURE: pack, the class on
abbrev usq (th : Nat → Nat → Nat) (cd : Nat → List Int32) (x : Nat) : Int32 := gvw cd 1 (nI x) (nI (th x 0)) (nI (th x 1))
/-- what a row comes to, from a place on -/
def pcl (th : Nat → Nat → Nat) (cd : Nat → List Int32) : List Nat → Nat → Int32 → Int32 → Int32
  | [], _, _, c => c
  | x :: l, a, tm, c => pcl th cd l (a + 1) (tm + gus th cd x a) (c + usq th cd x * (tm + gus th cd x a))
theorem pcl_nat {th : Nat → Nat → Nat} {cd : Nat → List Int32} : ∀ (l : List Nat) (a T C : Nat), T + 99 * l.length ≤ 1000 → ∃ k, k ≤ C + 99000 * l.length ∧ pcl th cd l a (nI T) (nI C) = nI k := by
  intro l
  induction l with
  | nil => intro a T C _; exact ⟨C, by omega, rfl⟩
  | cons x l ih =>
    intro a T C h
    obtain ⟨g, hg, eg⟩ := gvw_nat cd 0 (fls th x) (nI a) (nI (th x 0))
    obtain ⟨u, hu, eu⟩ := gvw_nat cd 1 (nI x) (nI (th x 0)) (nI (th x 1))
    simp at h
    have h1 : u * (T + g) ≤ 99 * 1000 := Nat.mul_le_mul hu (by omega)
    obtain ⟨k, hk, ek⟩ := ih (a + 1) (T + g) (C + u * (T + g)) (by omega)
    refine ⟨k, by simp; omega, ?_⟩
    rw [pcl]
    rw [show gus th cd x a = nI g from eg, show usq th cd x = nI u from eu, nI_add, pk_mul, nI_add]
    exact ek
def cso (th : Nat → Nat → Nat) (cd : Nat → List Int32) (st N : Nat) (p : List Nat) : Int32 := pcl th cd (wlk th N st p) 0 0 0
theorem cso_nat {th : Nat → Nat → Nat} {cd : Nat → List Int32} {st N : Nat} {p : List Nat} (h : p.length ≤ 6) : ∃ k, k ≤ 594000 ∧ cso th cd st N p = nI k := by
  have hl := (wlk_perm (th := th) N st p).length_eq
  obtain ⟨k, hk, e⟩ := pcl_nat (th := th) (cd := cd) (wlk th N st p) 0 0 0 (by omega)
  exact ⟨k, by omega, e⟩
/-- the better one of two -/
def upB (f : List Nat → Int32) (b : Option (Int32 × List Nat)) (p : List Nat) : Option (Int32 × List Nat) := match b with
  | none => some (f p, p)
  | some (c, q) => if c ≤ f p then some (c, q) else some (f p, p)
def bLe : Option (Int32 × List Nat) → Int32
  | none => 2147483647
  | some (c, _) => c
section PK3
variable {s t : Sg} {kn : Nat} {th : Nat → Nat → Nat} {L : List Nat} {pk : Option Nat} {st se : Nat} {z : Int32} {tp : List Nat} {wt : List Int32} {cd : Nat → List Int32}
theorem c_cosA {N n : Nat} {K : Sg → Prop} (hk : kn ≤ 9) (hst : st ≤ 9999) (hN : N ≤ 20) (hn : n ≤ 9) (Lf : List Nat) (s0 : Sg) (e4 : s0 1 4 = nI st) (l0 : LSn s0 kn th) (h : ∀ t, RW t 72 (Lf.map nI) → fr2 s0 t 72 → K t) : ∀ (m i : Nat) (l : List Nat) (s : Sg), i + m = N → l.length = n → (∀ x ∈ l, x < kn) → fr2 s0 s 72 → RW s 72 (l.map nI) → wlk th m (st + i) l = Lf → wThought_costOfStart_13 (nI N) K (m + 1) (nI i) s := by
  intro m
  induction m with
  | zero =>
    intro i l s hi hl hm hf hr e
    rw [wThought_costOfStart_13]
    rw [wlk] at e
    subst e
    exact iT (nI_le (by omega) (by omega)) (h s hr hf)
  | succ m ih =>
    intro i l s hi hl hm hf hr e
    rw [wThought_costOfStart_13, hf 1 (by omega) (by omega), e4, nI_add, nI_1]
    rw [wlk] at e
    refine iF (nI_ge (by omega) (by omega)) (p_shake (k := 72) (by rw [cp72]; omega) (by rw [cp72]; omega) hk (by omega) (by omega) (by omega) (LS_congr l0 (hf 10 (by omega) (by omega))) hm hr (fun t1 r1 f1 => ?_))
    have hp := stp_perm (f := snks th (st + i)) (l := l)
    exact ih (i + 1) _ t1 (by omega) (by rw [hp.length_eq]; exact hl) (fun x hx => hm x (hp.mem_iff.mp hx)) (hf.trans f1) r1 e
theorem c_cosB {n : Nat} {K : Int32 → Sg → Prop} (hk : kn ≤ 9) {Lf : List Nat} (hn : Lf.length = n) (hn9 : n ≤ 9) (hm : ∀ x ∈ Lf, x < kn) (hr : RW s 72 (Lf.map nI)) (u : UT s kn n th cd) (w : UV s kn th cd) (R : Int32) (h : K R s) : ∀ (r : List Nat) (i : Nat) (tm c : Int32), i + r.length = n → (∀ (j : Nat) (hj : j < r.length), Lf[i + j]? = some r[j]) → pcl th cd r i tm c = R → wThought_costOfStart_47 K (r.length + 1) tm c (nI i) s := by
  have e1 : s 72 1 = nI n := by rw [hr.1]; simp [hn]
  intro r
  induction r with
  | nil =>
    intro i tm c hi hr2 e
    rw [wThought_costOfStart_47, e1]
    rw [pcl] at e
    subst e
    exact iT (nI_le (by simp at hi; omega) (by omega)) h
  | cons y r ih =>
    intro i tm c hi hr2 e
    simp at hi
    have h0' := hr2 0 (by simp)
    simp at h0'
    have hy : y < kn := hm y (List.mem_of_getElem? h0')
    have e4 : s 73 (ix (nI i)) = nI y := by
      rw [ixn (by omega)]
      exact hr.2 i (nI y) (by simp [h0'])
    have hr3 : ∀ (j : Nat) (hj : j < r.length), Lf[i + 1 + j]? = some r[j] := fun j hj => by
      have := hr2 (j + 1) (by simpa using hj)
      rw [show i + 1 + j = i + (j + 1) by omega]
      simpa using this
    rw [wThought_costOfStart_47, e1, e4, show nI y * 9 + nI i = nI (y * 9 + i) by rw [show (9 : Int32) = nI 9 from rfl, pk_mul, nI_add], ixn (by omega), ixn (by omega), u y hy i (by omega), w y hy, nI_1]
    rw [pcl] at e
    refine iF (nI_ge (by omega) (by omega)) ⟨vp_in_nI (by omega) (by omega), vp_in_nI (by omega) (by omega), fun x1 ex => ⟨vp_in_nI (by omega) (by omega), ?_⟩⟩
    subst ex
    exact ih (i + 1) _ _ (by omega) hr3 e
theorem c_cost {N n : Nat} {p : List Nat} {P : Int32 → Sg → Prop} (hk : kn ≤ 9) (hst : st ≤ 9999) (hN : N ≤ 20) (hn : n ≤ 9) (hp : p.length = n) (hm : ∀ x ∈ p, x < kn) (e4 : s 1 4 = nI st) (l0 : LSn s kn th) (u : UT s kn n th cd) (w : UV s kn th cd) (hr : RW s 70 (p.map nI)) (h : ∀ t, fr2 s t 72 → P (cso th cd st N p) t) : wThought_costOfStart (nI N) s P := by
  unfold wThought_costOfStart
  refine p_copy (k := 72) (k1 := 70) hr (by rw [cp72, List.length_map]; omega) (by rw [cp70, List.length_map]; omega) (by rw [cp72]; omega) (by omega) (fun s1 r1 f1 => ⟨N + 1, ?_⟩)
  have hp2 := wlk_perm (th := th) N st p
  refine c_cosA hk hst hN hn (wlk th N st p) s1 (by rw [f1 1 (by omega) (by omega)]; exact e4) (LS_congr l0 (f1 10 (by omega) (by omega))) (fun s2 r2 f2 => ⟨(wlk th N st p).length + 1, ?_⟩) N 0 p s1 (by omega) hp hm fr2.refl r1 rfl
  have f3 := f1.trans f2
  refine c_cosB hk (n := n) (by rw [hp2.length_eq]; exact hp) hn (fun x hx => hm x (hp2.mem_iff.mp hx)) r2 (fun x hx a ha => by rw [f3 74 (by omega) (by omega)]; exact u x hx a ha) (fun x hx => by rw [f3 75 (by omega) (by omega)]; exact w x hx) (cso th cd st N p) (h s2 f3) (wlk th N st p) 0 0 0 (by rw [hp2.length_eq]; omega) (fun j hj => by rw [Nat.zero_add]; exact List.getElem?_eq_getElem hj) rfl
/-- the best row so far, in its cells -/
def bOK (s : Sg) : Option (Int32 × List Nat) → Prop
  | none => True
  | some (c, q) => RW s 68 (q.map nI) ∧ ∃ k, k ≤ 594000 ∧ c = nI k
def fK (s t : Sg) : Prop := ∀ a, ¬ (68 ≤ a ∧ a ≤ 73) → t a = s a
theorem fK.refl {s : Sg} : fK s s := fun _ _ => rfl
theorem fK.trans {s t u : Sg} (h1 : fK s t) (h2 : fK t u) : fK s u := fun a x => (h2 a x).trans (h1 a x)
theorem bOK_cg {b : Option (Int32 × List Nat)} (h : bOK s b) (e : t 68 = s 68) (e2 : t 69 = s 69) : bOK t b := by
  cases b with
  | none => trivial
  | some p =>
    obtain ⟨c, q⟩ := p
    refine ⟨?_, h.2⟩
    show IL (t 68 1) (t (68 + 1)) (q.map nI)
    rw [e, e2]
    exact h.1
theorem c_pkL {N n : Nat} {g : Nat → Nat} {K : Int32 → Sg → Prop} (hk : kn ≤ 9) (hst : st ≤ 9999) (hN : N ≤ 20) (hg : gOK g n) (hgk : ∀ x, x < n → g x < kn) (s0 : Sg) (e4 : s0 1 4 = nI st) (l0 : LSn s0 kn th) (u : UT s0 kn n th cd) (w : UV s0 kn th cd) (R : Option (Int32 × List Nat)) (h : ∀ t, fK s0 t → bOK t R → K (bLe R) t) : ∀ (ps : List (List Nat)) (p : List Nat) (a : Nat) (b : Option (Int32 × List Nat)) (s : Sg), chk (p :: ps) = true → a + (ps.length + 1) ≤ 720 → (∀ q ∈ p :: ps, pOK q n) → RW s 70 (rI g p) → fK s0 s → bOK s b → ((p :: ps).map (List.map g)).foldl (upB (cso th cd st N)) b = R → wThought_packFor_58 (nI N) K (ps.length + 1) (bLe b) (nI a) s := by
  obtain ⟨hn6, -, -⟩ := id hg
  intro ps
  induction ps with
  | nil =>
    intro p a b s hc ha hp hr hf hb e
    have hnx : nxt p = none := by simpa [chk] using hc
    have pp := hp p List.mem_cons_self
    rw [wThought_packFor_58]
    simp only [List.map_cons, List.map_nil, List.foldl_cons, List.foldl_nil] at e
    refine iF (nI_ge (a := a) (b := 720) (by simp at ha; omega) (by omega)) (c_cost (n := n) (p := p.map g) hk hst hN (by omega) (by rw [List.length_map]; exact pp.1) (fun x hx => ?_) (by rw [hf 1 (by omega)]; exact e4) (LS_congr l0 (hf 10 (by omega))) (fun x hx a ha => by rw [hf 74 (by omega)]; exact u x hx a ha) (fun x hx => by rw [hf 75 (by omega)]; exact w x hx) hr (fun s1 f1 => ?_))
    · obtain ⟨y, hy, rfl⟩ := List.mem_map.mp hx
      exact hgk y (pp.2 y hy)
    have r1 : RW s1 70 (rI g p) := by
      show IL (s1 70 1) (s1 (70 + 1)) (rI g p)
      rw [f1 70 (by omega) (by omega), f1 (70 + 1) (by omega) (by omega)]; exact hr
    have hf1 : fK s0 s1 := fun a ha => (f1 a (by omega) (by omega)).trans (hf a ha)
    have hb1 := bOK_cg hb (f1 68 (by omega) (by omega)) (f1 69 (by omega) (by omega))
    obtain ⟨k, hkk, ek⟩ := cso_nat (th := th) (cd := cd) (st := st) (N := N) (p := p.map g) (by rw [List.length_map, pp.1]; exact hn6)
    have take : ¬ bLe b ≤ cso th cd st N (p.map g) → some (cso th cd st N (p.map g), p.map g) = R → wRow_copy 68 70 s1 (fun (s2 : Sg) => (wRow_goToNext 70 s2 (fun (r2 : Int32) (s3 : Sg) => ((¬ r2 = 0 → wThought_packFor_58 (nI N) K 0 (cso th cd st N (p.map g)) ((nI a + 1)) s3) ∧ (r2 = 0 → K (cso th cd st N (p.map g)) s3))))) := by
      intro _ eR
      refine p_copy (k := 68) (k1 := 70) r1 (by rw [cp68, rI_len, pp.1]; omega) (by rw [cp70, rI_len, pp.1]; omega) (by rw [cp68]; omega) (by omega) (fun s2 r2 f2 => ?_)
      have r3 : RW s2 70 (rI g p) := by
        show IL (s2 70 1) (s2 (70 + 1)) (rI g p)
        rw [f2 70 (by omega) (by omega), f2 (70 + 1) (by omega) (by omega)]; exact r1
      refine c_next hg pp r3 (fun _ => jT rfl ?_) (fun p2 e2 => by rw [hnx] at e2; cases e2)
      have := h s2 (fun a ha => (f2 a (by omega) (by omega)).trans (hf1 a ha)) (by rw [← eR]; exact ⟨r2, k, hkk, ek⟩)
      rw [← eR] at this
      exact this
    have keep : ∀ c q, b = some (c, q) → some (c, q) = R → wRow_goToNext 70 s1 (fun (r2 : Int32) (s2 : Sg) => ((¬ r2 = 0 → wThought_packFor_58 (nI N) K 0 (bLe b) ((nI a + 1)) s2) ∧ (r2 = 0 → K (bLe b) s2))) := by
      intro c q eb eR
      refine c_next hg pp r1 (fun _ => jT rfl ?_) (fun p2 e2 => by rw [hnx] at e2; cases e2)
      have := h s1 hf1 (by rw [← eR, ← eb]; exact hb1)
      rw [← eR, ← eb] at this
      exact this
    cases b with
    | none =>
      have hq : ¬ bLe none ≤ cso th cd st N (p.map g) := by rw [ek]; exact nI_ge (a := k) (b := 2147483647) (by omega) (by omega)
      exact iF hq (take hq e)
    | some cq =>
      obtain ⟨c, q⟩ := cq
      unfold upB at e
      simp only at e
      refine ⟨fun hq => ?_, fun hq => ?_⟩
      · rw [if_pos (show c ≤ cso th cd st N (p.map g) from hq)] at e
        exact keep c q rfl e
      · rw [if_neg (show ¬ c ≤ cso th cd st N (p.map g) from hq)] at e
        exact take hq e
  | cons p2 ps ih =>
    intro p a b s hc ha hp hr hf hb e
    have hc2 : nxt p = some p2 ∧ chk (p2 :: ps) = true := by simpa [chk] using hc
    obtain ⟨hnx, hc3⟩ := hc2
    have pp := hp p List.mem_cons_self
    rw [wThought_packFor_58]
    rw [List.map_cons, List.foldl_cons] at e
    refine iF (nI_ge (a := a) (b := 720) (by simp at ha; omega) (by omega)) (c_cost (n := n) (p := p.map g) hk hst hN (by omega) (by rw [List.length_map]; exact pp.1) (fun x hx => ?_) (by rw [hf 1 (by omega)]; exact e4) (LS_congr l0 (hf 10 (by omega))) (fun x hx a ha => by rw [hf 74 (by omega)]; exact u x hx a ha) (fun x hx => by rw [hf 75 (by omega)]; exact w x hx) hr (fun s1 f1 => ?_))
    · obtain ⟨y, hy, rfl⟩ := List.mem_map.mp hx
      exact hgk y (pp.2 y hy)
    have r1 : RW s1 70 (rI g p) := by
      show IL (s1 70 1) (s1 (70 + 1)) (rI g p)
      rw [f1 70 (by omega) (by omega), f1 (70 + 1) (by omega) (by omega)]; exact hr
    have hf1 : fK s0 s1 := fun a ha => (f1 a (by omega) (by omega)).trans (hf a ha)
    have hb1 := bOK_cg hb (f1 68 (by omega) (by omega)) (f1 69 (by omega) (by omega))
    obtain ⟨k, hkk, ek⟩ := cso_nat (th := th) (cd := cd) (st := st) (N := N) (p := p.map g) (by rw [List.length_map, pp.1]; exact hn6)
    have on : ∀ (b2 : Option (Int32 × List Nat)) (s2 : Sg), RW s2 70 (rI g p) → fK s0 s2 → bOK s2 b2 → ((p2 :: ps).map (List.map g)).foldl (upB (cso th cd st N)) b2 = R → wRow_goToNext 70 s2 (fun (r2 : Int32) (s3 : Sg) => ((¬ r2 = 0 → wThought_packFor_58 (nI N) K (ps.length + 1) (bLe b2) ((nI a + 1)) s3) ∧ (r2 = 0 → K (bLe b2) s3))) := by
      intro b2 s2 r2 f2 hb2 e2
      refine c_next hg pp r2 (fun e3 => by rw [hnx] at e3; cases e3) (fun p3 e3 s3 r3 f3 => ?_)
      rw [hnx] at e3
      cases e3
      refine jF (by decide) ?_
      rw [nI_1]
      exact ih p2 (a + 1) b2 s3 hc3 (by simp at ha; omega) (fun q hq => hp q (List.mem_cons_of_mem _ hq)) r3 (fun a ha => (f3 a (by omega) (by omega)).trans (f2 a ha)) (bOK_cg hb2 (f3 68 (by omega) (by omega)) (f3 69 (by omega) (by omega))) e2
    have take : ((p2 :: ps).map (List.map g)).foldl (upB (cso th cd st N)) (some (cso th cd st N (p.map g), p.map g)) = R → wRow_copy 68 70 s1 (fun (s2 : Sg) => (wRow_goToNext 70 s2 (fun (r2 : Int32) (s3 : Sg) => ((¬ r2 = 0 → wThought_packFor_58 (nI N) K (ps.length + 1) (cso th cd st N (p.map g)) ((nI a + 1)) s3) ∧ (r2 = 0 → K (cso th cd st N (p.map g)) s3))))) := by
      intro eR
      refine p_copy (k := 68) (k1 := 70) r1 (by rw [cp68, rI_len, pp.1]; omega) (by rw [cp70, rI_len, pp.1]; omega) (by rw [cp68]; omega) (by omega) (fun s2 r2 f2 => ?_)
      have r3 : RW s2 70 (rI g p) := by
        show IL (s2 70 1) (s2 (70 + 1)) (rI g p)
        rw [f2 70 (by omega) (by omega), f2 (70 + 1) (by omega) (by omega)]; exact r1
      exact on (some (cso th cd st N (p.map g), p.map g)) s2 r3 (fun a ha => (f2 a (by omega) (by omega)).trans (hf1 a ha)) ⟨r2, k, hkk, ek⟩ eR
    cases b with
    | none =>
      have hq : ¬ bLe none ≤ cso th cd st N (p.map g) := by rw [ek]; exact nI_ge (a := k) (b := 2147483647) (by omega) (by omega)
      exact iF hq (take e)
    | some cq =>
      obtain ⟨c, q⟩ := cq
      unfold upB at e
      simp only at e
      refine ⟨fun hq => ?_, fun hq => ?_⟩
      · rw [if_pos (show c ≤ cso th cd st N (p.map g) from hq)] at e
        exact on (some (c, q)) s1 r1 hf1 hb1 e
      · rw [if_neg (show ¬ c ≤ cso th cd st N (p.map g) from hq)] at e
        exact take e
end PK3
