-- PURE: steps of a walk, thought and done
def swp (l : List Nat) (i : Nat) : List Nat := (l.set i (l.getD (i + 1) 0)).set (i + 1) (l.getD i 0)
/-- one step: from place i on, so many pairs; whether one changed -/
def bub (f : Nat → Int32) : Nat → Nat → List Nat → Bool → List Nat × Bool
  | 0, _, l, c => (l, c)
  | m + 1, i, l, c => if f (l.getD i 0) ≤ f (l.getD (i + 1) 0) then bub f m (i + 1) l c else bub f m (i + 1) (swp l i) true
theorem swp_perm {l : List Nat} {i : Nat} (h : i + 1 < l.length) : (swp l i).Perm l := by
  unfold swp
  have e1 : l.getD (i + 1) 0 = l[i + 1] := by simp [List.getD_eq_getElem?_getD, h]
  have e2 : l.getD i 0 = l[i] := by simp [List.getD_eq_getElem?_getD, show i < l.length by omega]
  rw [e1, e2]
  exact List.set_set_perm (by omega) h
theorem swp_len {l : List Nat} {i : Nat} : (swp l i).length = l.length := by simp [swp]
theorem bub_perm {f : Nat → Int32} : ∀ (m i : Nat) (l : List Nat) (c : Bool), i + m < l.length ∨ m = 0 → ((bub f m i l c).1).Perm l := by
  intro m
  induction m with
  | zero => intro i l c _; exact List.Perm.refl _
  | succ m ih =>
    intro i l c h
    have h2 : i + m + 1 < l.length := by omega
    rw [bub]
    split
    · exact ih (i + 1) l c (Or.inl (by omega))
    · exact (ih (i + 1) _ true (Or.inl (by rw [swp_len]; omega))).trans (swp_perm (by omega))
def stp (f : Nat → Int32) (l : List Nat) : List Nat × Bool := bub f (l.length - 1) 0 l false
theorem stp_perm {f : Nat → Int32} {l : List Nat} : ((stp f l).1).Perm l := bub_perm _ _ _ _ (by omega)
theorem getD_map {l : List Nat} {i : Nat} (h : i < l.length) : (l.map nI)[i]'(by simpa using h) = nI (l.getD i 0) := by
  simp [List.getD_eq_getElem?_getD, h]
theorem swp_map {l : List Nat} {i : Nat} (h : i + 1 < l.length) : (((l.map nI).set i ((l.map nI)[i + 1]'(by simpa using h))).set (i + 1) ((l.map nI)[i]'(by simp; omega))) = (swp l i).map nI := by
  rw [getD_map h, getD_map (show i < l.length by omega)]
  unfold swp
  rw [List.map_set, List.map_set]
theorem snk_mod {th : Nat → Nat → Nat} {x st : Nat} (h : st < 2 ^ 31) : snk th x (nI (st % 6)) = snk th x (nI st) := by
  unfold snk snkI
  have e2 : ∀ n : Nat, n < 2 ^ 31 → nI n - nI n / 2 * 2 = nI (n % 2) := fun n hn => pk_rem (d := 2) hn (by omega) (by omega)
  have e3 : ∀ n : Nat, n < 2 ^ 31 → nI n - nI n / 3 * 3 = nI (n % 3) := fun n hn => pk_rem (d := 3) hn (by omega) (by omega)
  rw [e2 _ h, e2 _ (by omega), e3 _ h, e3 _ (by omega), show st % 6 % 2 = st % 2 by omega, show st % 6 % 3 = st % 3 by omega]
abbrev snks (th : Nat → Nat → Nat) (st : Nat) : Nat → Int32 := fun x => snk th x (nI st)
/-- the class's table of a step -/
def LSn (s : Sg) (kn : Nat) (th : Nat → Nat → Nat) : Prop := ∀ r, r < 6 → ∀ x, x < kn → s 10 (r * 9 + x) = snk th x (nI r)
theorem p_shakeL {k kn st : Nat} {th : Nat → Nat → Nat} {K : Int32 → Sg → Prop} (hN : cap k < 2 ^ 31) (h9 : 9 ≤ cap k) (hk : kn ≤ 9) (k10 : 10 ≠ k ∧ 10 ≠ k + 1) (hst : st < 2 ^ 31) (n : Nat) (hn : n ≤ 9) (s0 : Sg) (h0 : LSn s0 kn th) (R : List Nat × Bool) (h : ∀ t, RW t k (R.1.map nI) → fr2 s0 t k → K (if R.2 then 1 else 0) t) : ∀ (m i : Nat) (l : List Nat) (c : Bool) (s : Sg), l.length = n → i + m + 1 = n ∨ (m = 0 ∧ i = 0 ∧ n ≤ 1) → (∀ x ∈ l, x < kn) → RW s k (l.map nI) → fr2 s0 s k → bub (snks th st) m i l c = R → wBag_shake_14 k (nI (st % 6) * 9) K (m + 1) (if c then 1 else 0) (nI i) s := by
  intro m
  induction m with
  | zero =>
    intro i l c s hl hi hm hs hf e
    rw [wBag_shake_14, hs.1, nI_1]
    refine iT (nI_le (by simp; omega) (by omega)) ?_
    rw [bub] at e
    subst e
    exact h s hs hf
  | succ m ih =>
    intro i l c s hl hi hm hs hf e
    have h1 : i + 1 < l.length := by omega
    rw [wBag_shake_14, hs.1, nI_1]
    refine iF (nI_ge (by simpa using h1) (by simp; omega)) ⟨vpc (by omega) hN, ?_⟩
    rw [ixn (by omega), ixn (by omega), IL_at hs (i := i) (by simp; omega), IL_at hs (i := i + 1) (by simpa using h1), getD_map h1, getD_map (show i < l.length by omega)]
    have q1 : l.getD i 0 < kn := hm _ (by rw [List.getD_eq_getElem?_getD, List.getElem?_eq_getElem (show i < l.length by omega)]; exact List.getElem_mem _)
    have q2 : l.getD (i + 1) 0 < kn := hm _ (by rw [List.getD_eq_getElem?_getD, List.getElem?_eq_getElem h1]; exact List.getElem_mem _)
    have e9 : nI (st % 6) * 9 = nI (st % 6 * 9) := pk_mul _ 9
    have hx : ∀ x, x < kn → nI (st % 6) * 9 + nI x = nI (st % 6 * 9 + x) := fun x _ => by rw [e9, nI_add]
    have hv : ∀ x, x < kn → s 10 (st % 6 * 9 + x) = snks th st x := fun x hx => by rw [hf 10 k10.1 k10.2, h0 (st % 6) (by omega) x hx, snk_mod hst]
    rw [hx _ q1, hx _ q2, ixn (by omega), ixn (by omega), hv _ q1, hv _ q2]
    refine ⟨vp_in_nI (by omega) (by omega), vpc (by omega) hN, vp_in_nI (by omega) (by omega), ?_⟩
    rw [bub] at e
    refine ⟨fun q => ?_, fun q => ?_⟩
    · rw [if_pos q] at e
      exact ih (i + 1) l c s hl (by omega) hm hs hf e
    · rw [if_neg q] at e
      refine p_exchange (l := l.map nI) hs (by simp; omega) hN (by simp; omega) (by simpa using h1) (fun s1 hs1 hf1 => ?_)
      rw [swp_map h1] at hs1
      exact ih (i + 1) (swp l i) true s1 (by rw [swp_len]; exact hl) (by omega) (fun x hx => hm x ((swp_perm h1).mem_iff.mp hx)) hs1 (hf.trans hf1) e
theorem p_shake {k kn st : Nat} {th : Nat → Nat → Nat} {l : List Nat} {s : Sg} {P : Int32 → Sg → Prop} (hN : cap k < 2 ^ 31) (h9 : 9 ≤ cap k) (hk : kn ≤ 9) (k10 : 10 ≠ k ∧ 10 ≠ k + 1) (hst : st < 2 ^ 31) (hn : l.length ≤ 9) (h0 : LSn s kn th) (hm : ∀ x ∈ l, x < kn) (hs : RW s k (l.map nI)) (h : ∀ t, RW t k ((stp (snks th st) l).1.map nI) → fr2 s t k → P (if (stp (snks th st) l).2 then 1 else 0) t) : wBag_shake k (nI st) s P := by
  unfold wBag_shake
  rw [show nI st - nI st / 6 * 6 = nI (st % 6) from pk_rem (d := 6) hst (by omega) (by omega)]
  refine ⟨l.length - 1 + 1, p_shakeL hN h9 hk k10 hst l.length hn s h0 (stp (snks th st) l) (fun t ht hf => ⟨?_, h t ht hf⟩) (l.length - 1) 0 l false s rfl (by omega) hm hs (fr2.refl) rfl⟩
  split
  · exact z11
  · exact z01
-- the table is learnt
section LRN
variable {s t : Sg} {kn : Nat} {th : Nat → Nat → Nat} {L : List Nat} {pk : Option Nat} {st se : Nat} {z : Int32} {tp : List Nat} {wt : List Int32} {cd : Nat → List Int32}
theorem CB_10 (c : CB s 1 kn th L pk st se z tp wt cd) (hk : kn ≤ 9) (hf : ∀ a, a ≠ 10 → t a = s a) : CB t 1 kn th L pk st se z tp wt cd := by
  obtain ⟨⟨a1, a2, a3, a4, a5⟩, o, tpe, w, thg, tx⟩ := c
  refine ⟨?_, ?_, ?_, ?_, fun x hx j hj => ?_, fun u hu => ?_⟩
  · rw [hf 1 (by omega)]; exact ⟨a1, a2, a3, a4, a5⟩
  · rw [hf (1 + 2) (by omega), hf (1 + 3) (by omega)]; exact o
  · rw [hf (1 + 4) (by omega), hf (1 + 5) (by omega)]; exact tpe
  · rw [hf (1 + 7) (by omega), hf (1 + 8) (by omega)]; exact w
  · rw [hf (1 + 10 + x) (by omega)]; exact thg x hx j hj
  · rw [hf (1 + 20 + 6 * u) (by omega), hf (1 + 21 + 6 * u) (by omega)]; exact tx u hu
theorem p_learn10 {K : Sg → Prop} (hk : kn ≤ 9) {r : Nat} (hr : r < 6) (s0 : Sg) (c0 : CB s0 1 kn th L pk st se z tp wt cd) (h : ∀ t, (∀ a, a ≠ 10 → t a = s0 a) → (∀ j, ¬ (r * 9 ≤ j ∧ j < r * 9 + 9) → t 10 j = s0 10 j) → (∀ x, x < kn → t 10 (r * 9 + x) = snk th x (nI r)) → K t) : ∀ (m x : Nat) (s : Sg), x + m = kn → (∀ a, a ≠ 10 → s a = s0 a) → (∀ j, ¬ (r * 9 ≤ j ∧ j < r * 9 + 9) → s 10 j = s0 10 j) → (∀ y, y < x → s 10 (r * 9 + y) = snk th y (nI r)) → wBag_learnSinks_10 (nI r) K (m + 1) (nI x) s := by
  intro m
  induction m with
  | zero =>
    intro x s hx hf hg hv
    have c := CB_10 c0 hk hf
    rw [wBag_learnSinks_10, c.1.1]
    exact iT (nI_le (by omega) (by omega)) (h s hf hg (fun y hy => hv y (by omega)))
  | succ m ih =>
    intro x s hx hf hg hv
    have c := CB_10 c0 hk hf
    rw [wBag_learnSinks_10, c.1.1]
    refine iF (nI_ge (by omega) (by omega)) ⟨vp_in_nI (by omega) (by omega), ?_⟩
    rw [t11 (by omega)]
    refine p_sinks c (by omega) ?_
    rw [show nI r * 9 + nI x = nI (r * 9 + x) by rw [show (9 : Int32) = nI 9 from rfl, pk_mul, nI_add], ixn (by omega), nI_1]
    refine ⟨vp_in_nI (by omega) (by omega), fun s1 e1 => ?_⟩
    subst e1
    refine ih (x + 1) _ (by omega) (fun a ha => (u2_other ha).trans (hf a ha)) (fun j hj => (u2_ne (by omega)).trans (hg j hj)) (fun y hy => ?_)
    by_cases e : y = x
    · subst e; exact u2_same
    · rw [u2_ne (by omega)]; exact hv y (by omega)
theorem p_learn2 {K : Sg → Prop} (hk : kn ≤ 9) (s0 : Sg) (c0 : CB s0 1 kn th L pk st se z tp wt cd) (h : ∀ t, (∀ a, a ≠ 10 → t a = s0 a) → LSn t kn th → K t) : ∀ (m r : Nat) (s : Sg), r + m = 6 → (∀ a, a ≠ 10 → s a = s0 a) → (∀ q, q < r → ∀ x, x < kn → s 10 (q * 9 + x) = snk th x (nI q)) → wBag_learnSinks_2 K (m + 1) (nI r) s := by
  intro m
  induction m with
  | zero =>
    intro r s hr hf hv
    rw [wBag_learnSinks_2]
    exact iT (nI_le (a := 6) (b := r) (by omega) (by omega)) (h s hf (fun q hq x hx => hv q (by omega) x hx))
  | succ m ih =>
    intro r s hr hf hv
    rw [wBag_learnSinks_2]
    refine iF (nI_ge (a := r) (b := 6) (by omega) (by omega)) ⟨kn + 1, ?_⟩
    refine p_learn10 hk (show r < 6 by omega) s (CB_10 c0 hk hf) (fun t1 hf1 hg1 hv1 => ?_) kn 0 s (by omega) (fun _ _ => rfl) (fun _ _ => rfl) (fun y hy => absurd hy (Nat.not_lt_zero y))
    rw [nI_1]
    refine ih (r + 1) t1 (by omega) (fun a ha => (hf1 a ha).trans (hf a ha)) (fun q hq x hx => ?_)
    by_cases e : q = r
    · subst e; exact hv1 x hx
    · rw [hg1 _ (by omega)]; exact hv q (by omega) x hx
theorem p_learn {P : Sg → Prop} (hk : kn ≤ 9) (c : CB s 1 kn th L pk st se z tp wt cd) (h : ∀ t, (∀ a, a ≠ 10 → t a = s a) → LSn t kn th → P t) : wBag_learnSinks s P :=
  ⟨7, p_learn2 hk s c h 6 0 s (by omega) (fun _ _ => rfl) (fun q hq => absurd hq (Nat.not_lt_zero q))⟩
/-- so many steps -/
def wlk (th : Nat → Nat → Nat) : Nat → Nat → List Nat → List Nat
  | 0, _, l => l
  | n + 1, st, l => wlk th n (st + 1) (stp (snks th st) l).1
theorem wlk_perm : ∀ (n st : Nat) (l : List Nat), (wlk th n st l).Perm l := by
  intro n
  induction n with
  | zero => intro st l; exact List.Perm.refl _
  | succ n ih => intro st l; exact (ih _ _).trans stp_perm
theorem VB_perm {L2 : List Nat} {st2 : Nat} (v : VB kn th L pk st se tp wt cd) (hp : L2.Perm L) (hs : st2 ≤ 9999) : VB kn th L2 pk st2 se tp wt cd := by
  obtain ⟨v1, ⟨v2, v3⟩, v4, v5, v6⟩ := v
  exact ⟨v1, ⟨hp.nodup_iff.mpr v2, fun x hx => v3 x (hp.mem_iff.mp hx)⟩, fun y hy => ⟨(v4 y hy).1, fun z => (v4 y hy).2 (hp.mem_iff.mp z)⟩, hs, v6⟩
theorem LS_congr (h : LSn s kn th) (e : t 10 = s 10) : LSn t kn th := fun r hr x hx => by rw [e]; exact h r hr x hx
theorem c_walkL {K : Sg → Prop} (hk : kn ≤ 9) {N : Nat} (hN : N ≤ 100) (Lf : List Nat) (stf : Nat) (s0 : Sg) (h : ∀ t, CB t 1 kn th Lf pk stf se z tp wt cd → frC s0 t → K t) : ∀ (m i st : Nat) (l : List Nat) (s : Sg), i + m = N → st + m = stf → stf < 2 ^ 20 → l.length ≤ 9 → (∀ x ∈ l, x < kn) → LSn s kn th → CB s 1 kn th l pk st se z tp wt cd → frC s0 s → wlk th m st l = Lf → wBag_walk_6 (nI N) K (m + 1) (nI i) s := by
  intro m
  induction m with
  | zero =>
    intro i st l s hi hs hb hl hm hls c hf e
    rw [wBag_walk_6]
    rw [wlk] at e
    subst e
    have : st = stf := by omega
    subst this
    exact iT (nI_le (by omega) (by omega)) (h s c hf)
  | succ m ih =>
    intro i st l s hi hs hb hl hm hls c hf e
    rw [wBag_walk_6]
    refine iF (nI_ge (by omega) (by omega)) ?_
    rw [c.1.2.2.1]
    refine p_shake (k := 3) (l := l) cap9 (by rw [cp3]; omega) hk ⟨by omega, by omega⟩ (by omega) hl hls hm c.2.1 (fun t1 ht1 hf1 t2 e2 => ?_)
    have c1 := CB_order c hk (fun a _ _ h3 h4 => hf1 a (by omega) (by omega)) ht1
    rw [c1.1.2.2.1, nI_1] at e2
    rw [nI_1]
    subst e2
    exact ih (i + 1) (st + 1) _ _ (by omega) (by omega) hb (by rw [stp_perm.length_eq]; exact hl) (fun x hx => hm x (stp_perm.mem_iff.mp hx)) (LS_congr hls ((u2_other (by omega)).trans (hf1 10 (by omega) (by omega)))) (CB_st c1 hk) (fun a h1 h2 => (u2_other (by omega)).trans ((hf1 a (by omega) (by omega)).trans (hf a h1 h2))) e
theorem c_walk {P : Sg → Prop} (v : VB kn th L pk st se tp wt cd) (c : CB s 1 kn th L pk st se z tp wt cd) {n : Nat} (hn : n ≤ 100) (h : ∀ t, CB t 1 kn th (wlk th n st L) pk (st + n) se z tp wt cd → frC s t → P t) : wBag_walk (nI n) s P := by
  have hk := v.1
  have hl := VB_len v
  unfold wBag_walk
  refine p_learn hk c (fun t1 hf1 hls => ⟨n + 1, ?_⟩)
  exact c_walkL hk hn (wlk th n st L) (st + n) s h n 0 st L t1 (by omega) (by omega) (by have := v.2.2.2.1; omega) (by omega) v.2.1.2 hls (CB_10 c hk hf1) (fun a h1 h2 => hf1 a (by omega)) rfl
theorem m_stepL {K : Int32 → Sg → Prop} (hk : kn ≤ 9) {n : Nat} (hn : n ≤ 9) (s0 : Sg) (R : List Nat × Bool) (h : ∀ t, MB (t 1) kn th R.1 pk st se z tp wt cd → (∀ a, a ≠ 1 → t a = s0 a) → K (if R.2 then 1 else 0) t) : ∀ (m i : Nat) (l : List Nat) (c : Bool) (s : Sg), l.length = n → i + m + 1 = n ∨ (m = 0 ∧ i = 0 ∧ n ≤ 1) → (∀ x ∈ l, x < kn) → MB (s 1) kn th l pk st se z tp wt cd → (∀ a, a ≠ 1 → s a = s0 a) → bub (snks th st) m i l c = R → wM_aStep_4 K (m + 1) (if c then 1 else 0) (nI i) s := by
  intro m
  induction m with
  | zero =>
    intro i l c s hl hi hm hs hf e
    have e3 : s 1 3 = nI l.length := by rw [hs.2.1.1]; simp
    rw [wM_aStep_4, e3]
    have : nI l.length - 1 ≤ nI i := by
      rw [Int32.le_iff_toInt_le, nI_toInt (by omega), show (1 : Int32) = nI 1 from rfl, pk_sub_toInt (by omega) (by omega)]
      omega
    refine iT this ?_
    rw [bub] at e
    subst e
    exact h s hs hf
  | succ m ih =>
    intro i l c s hl hi hm hs hf e
    have h1 : i + 1 < l.length := by omega
    have e3 : s 1 3 = nI l.length := by rw [hs.2.1.1]; simp
    rw [wM_aStep_4, e3, show nI l.length - 1 = nI (l.length - 1) by rw [show (1 : Int32) = nI 1 from rfl, pk_sub (by omega)]]
    have q1 : l.getD i 0 < kn := hm _ (by rw [List.getD_eq_getElem?_getD, List.getElem?_eq_getElem (show i < l.length by omega)]; exact List.getElem_mem _)
    have q2 : l.getD (i + 1) 0 < kn := hm _ (by rw [List.getD_eq_getElem?_getD, List.getElem?_eq_getElem h1]; exact List.getElem_mem _)
    have g1 : s 1 (8 + i) = nI (l.getD i 0) := by rw [← getD_map (show i < l.length by omega)]; exact IL_at hs.2.1 (by simp; omega)
    have g2 : s 1 (8 + (i + 1)) = nI (l.getD (i + 1) 0) := by rw [← getD_map h1]; exact IL_at hs.2.1 (by simpa using h1)
    rw [m8, nI_1, show 8 + i + 1 = 8 + (i + 1) by omega, ixn (by omega), ixn (by omega), g1, g2]
    refine iF (nI_ge (by omega) (by omega)) ⟨vp_in_nI (by omega) (by omega), vp_in_nI (by omega) (by omega), m_sinks hs hk q1 (m_sinks hs hk q2 ?_)⟩
    rw [bub] at e
    rw [nI_1]
    refine ⟨fun q => ?_, fun q => ⟨vp_in_nI (by omega) (by omega), fun t1 f1 => ⟨vp_in_nI (by omega) (by omega), fun t2 f2 => ?_⟩⟩⟩
    · rw [if_pos q] at e
      exact ih (i + 1) l c s hl (by omega) hm hs hf e
    · rw [if_neg q] at e
      have m2 : MB (t2 1) kn th (swp l i) pk st se z tp wt cd := by
        refine MB_order hs hk (fun j h1 h2 => ?_) (IL_of ?_ (fun j hj => ?_))
        · subst f2; rw [u2_ne (by omega)]; subst f1; rw [u2_ne (by omega)]
        · subst f2; rw [u2_ne (by omega)]; subst f1; rw [u2_ne (by omega), e3]; simp [swp_len]
        · rw [List.length_map, swp_len] at hj
          rw [getD_map (by rw [swp_len]; exact hj)]
          unfold swp
          subst f2
          by_cases x2 : j = i + 1
          · subst x2
            rw [u2_same]
            simp [List.getD_eq_getElem?_getD, h1]
          · rw [u2_ne (by omega)]
            subst f1
            by_cases x1 : j = i
            · subst x1
              rw [u2_same]
              simp [List.getD_eq_getElem?_getD, List.getElem?_set, h1, show j < l.length by omega]
            · rw [u2_ne (by omega), IL_at hs.2.1 (by simpa using hj), getD_map hj]
              simp [List.getD_eq_getElem?_getD, List.getElem?_set, Ne.symm x1, Ne.symm x2]
      exact ih (i + 1) (swp l i) true t2 (by rw [swp_len]; exact hl) (by omega) (fun x hx => hm x ((swp_perm h1).mem_iff.mp hx)) m2 (fun a ha => by subst f2; rw [u2_other ha]; subst f1; rw [u2_other ha]; exact hf a ha) e
theorem m_step {P : Int32 → Sg → Prop} (hk : kn ≤ 9) (hl : L.length ≤ 9) (hm : ∀ x ∈ L, x < kn) (m : MB (s 1) kn th L pk st se z tp wt cd) (h : ∀ t, MB (t 1) kn th (stp (snks th st) L).1 pk (st + 1) se z tp wt cd → (∀ a, a ≠ 1 → t a = s a) → P (if (stp (snks th st) L).2 then 1 else 0) t) : wM_aStep s P := by
  unfold wM_aStep
  refine ⟨L.length - 1 + 1, m_stepL hk hl s (stp (snks th st) L) (fun t m1 hf t2 e2 => ⟨?_, ?_⟩) (L.length - 1) 0 L false s rfl (by omega) hm m (fun _ _ => rfl) rfl⟩
  · split
    · exact z11
    · exact z01
  · have e0 : t 1 0 = nI st := m1.1.2.2.1
    rw [e0, nI_1] at e2
    subst e2
    exact h _ (MB_st m1 hk) (fun a ha => (u2_other ha).trans (hf a ha))
theorem m_stepsL {K : Sg → Prop} (hk : kn ≤ 9) {N : Nat} (hN : N ≤ 100) (Lf : List Nat) (stf : Nat) (s0 : Sg) (h : ∀ t, MB (t 1) kn th Lf pk stf se z tp wt cd → (∀ a, a ≠ 1 → t a = s0 a) → K t) : ∀ (m i st : Nat) (l : List Nat) (s : Sg), i + m = N → st + m = stf → l.length ≤ 9 → (∀ x ∈ l, x < kn) → MB (s 1) kn th l pk st se z tp wt cd → (∀ a, a ≠ 1 → s a = s0 a) → wlk th m st l = Lf → wM_steps_2 (nI N) K (m + 1) (nI i) s := by
  intro m
  induction m with
  | zero =>
    intro i st l s hi hs hl hm c hf e
    rw [wM_steps_2]
    rw [wlk] at e
    subst e
    have : st = stf := by omega
    subst this
    exact iT (nI_le (by omega) (by omega)) (h s c hf)
  | succ m ih =>
    intro i st l s hi hs hl hm c hf e
    rw [wM_steps_2]
    refine iF (nI_ge (by omega) (by omega)) (m_step hk hl hm c (fun t1 m1 f1 => ?_))
    rw [nI_1]
    exact ih (i + 1) (st + 1) _ _ (by omega) (by omega) (by rw [stp_perm.length_eq]; exact hl) (fun x hx => hm x (stp_perm.mem_iff.mp hx)) m1 (fun a ha => (f1 a ha).trans (hf a ha)) e
theorem m_steps {P : Sg → Prop} (hk : kn ≤ 9) (hl : L.length ≤ 9) (hm : ∀ x ∈ L, x < kn) (m : MB (s 1) kn th L pk st se z tp wt cd) {n : Nat} (hn : n ≤ 100) (h : ∀ t, MB (t 1) kn th (wlk th n st L) pk (st + n) se z tp wt cd → (∀ a, a ≠ 1 → t a = s a) → P t) : wM_steps (nI n) s P :=
  ⟨n + 1, m_stepsL hk hn (wlk th n st L) (st + n) s h n 0 st L s (by omega) (by omega) hl hm m (fun _ _ => rfl) rfl⟩
end LRN
theorem eq_walks {a1 : Int32} {s t : Sg} (h : Rel s t) : wB_walks a1 s (fun r s => wM_walks a1 t (fun r2 t => r = r2 ∧ Rel s t)) := by
  obtain ⟨kn, th, L, pk, st, se, z, tp, wt, cd, v, c, m⟩ := id h.1
  have hlen := VB_len v
  have hk := v.1
  have hst := v.2.2.2.1
  rcases rng a1 1 100 (by omega) with ⟨n, h1, h2, rfl⟩ | hn
  · unfold wB_walks
    rw [c.1.2.2.1, nI_add]
    refine iF (nI_nlt (a := n) (b := 1) h1 (by omega)) (iT (nI_le (b := 100) h2 (by omega)) ?_)
    have mm : ∀ {P : Int32 → Sg → Prop}, ((nI (st + n) ≤ 9999 → (wM_steps (nI n) t (fun (s2 : Sg) => P ((s2 1 0)) s2))) ∧ (¬ nI (st + n) ≤ 9999 → (wM_error ((-1000000003)) t (fun (r2 : Int32) (s2 : Sg) => P r2 s2)))) → wM_walks (nI n) t P := by
      intro P q
      unfold wM_walks
      refine m_inT (lo := 1) (hi := 100) h1 h2 (by omega) (les1 ?_)
      rw [m.1.2.2.1, nI_add]
      exact q
    refine ⟨fun q => ?_, fun q => eq_err h cc3 (by omega) (by omega) (fun P hP => mm (iF q (m_error cc3 (by omega) (by omega) hP)))⟩
    have hq : st + n ≤ 9999 := (nI_leI (b := 9999) (by omega) (by omega)).mp q
    refine c_walk v c h2 (fun s1 c1 f1 => mm (iT q (m_steps hk (by omega) v.2.1.2 m h2 (fun t1 m1 g1 => ⟨c1.1.2.2.1.trans m1.1.2.2.1.symm, ?_⟩))))
    exact Rel_of h f1 (frM1 g1) ⟨kn, th, _, pk, st + n, se, z, tp, wt, cd, VB_perm v (wlk_perm _ _ _) hq, c1, m1⟩
  · have bad : wB_failed (-1000000001) s (fun r s => wM_walks a1 t (fun r2 t => r = r2 ∧ Rel s t)) := eq_err h cc1 (by omega) (by omega) (fun P hP => m_inF (lo := 1) (hi := 100) (by omega) (by omega) hn (les0 (m_error cc1 (by omega) (by omega) hP)))
    unfold wB_walks
    simp only [Int32.lt_iff_toInt_lt, show (1 : Int32).toInt = 1 by decide]
    refine ⟨fun _ => bad, fun z1 => ⟨fun z2 => absurd ?_ hn, fun _ => bad⟩⟩
    rw [Int32.le_iff_toInt_le] at z2
    exact ⟨by omega, z2⟩
