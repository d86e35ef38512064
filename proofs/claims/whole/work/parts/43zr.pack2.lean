-- PURE: pack, the class
/-- nothing but the two piles and the tables of uses -/
def scx (s t : Sg) : Prop := ∀ a, a ≠ 25 → a ≠ 31 → ¬ (74 ≤ a ∧ a ≤ 75) → t a = s a
theorem scx.refl {s : Sg} : scx s s := fun _ _ _ _ => rfl
theorem scx.trans {s t u : Sg} (h1 : scx s t) (h2 : scx t u) : scx s u := fun a x y z => (h2 a x y z).trans (h1 a x y z)
theorem scx_scr {s t : Sg} (h : scx s t) : scr s t := fun a _ h2 h3 h4 => h a h2 h3 (by omega)
section PKC
variable {s t : Sg} {kn : Nat} {th : Nat → Nat → Nat} {L : List Nat} {pk : Option Nat} {st se : Nat} {z : Int32} {tp : List Nat} {wt : List Int32} {cd : Nat → List Int32}
theorem c_use31x {x : Nat} {K : Sg → Prop} (v : VB kn th L pk st se tp wt cd) (hx : x < kn) (s0 : Sg) (c0 : CB s0 1 kn th L pk st se z tp wt cd) (h : ∀ t, scx s0 t → t 75 = s0 75 → (∀ j, ¬ (x * 9 ≤ j ∧ j < x * 9 + 9) → t 74 j = s0 74 j) → (∀ a, a < L.length → t 74 (x * 9 + a) = gus th cd x a) → K t) : ∀ (m a : Nat) (s : Sg), a + m = L.length → scx s0 s → s 75 = s0 75 → (∀ j, ¬ (x * 9 ≤ j ∧ j < x * 9 + 9) → s 74 j = s0 74 j) → (∀ b, b < a → s 74 (x * 9 + b) = gus th cd x b) → wThought_learnUses_31 (nI x) (1 + 10 + x) K (m + 1) (nI a) s := by
  have hk := v.1
  have hlen := VB_len v
  intro m
  induction m with
  | zero =>
    intro a s ha hf h75 hj hv
    have c := scr_CB hk c0 (scx_scr hf)
    rw [wThought_learnUses_31, show s 3 1 = nI L.length by rw [show s 3 1 = s (1 + 2) 1 from rfl, c.2.1.1]; simp]
    exact iT (nI_le (by omega) (by omega)) (h s hf h75 hj (fun b hb => hv b (by omega)))
  | succ m ih =>
    intro a s ha hf h75 hj hv
    have c := scr_CB hk c0 (scx_scr hf)
    have h8 := v.2.2.2.2.2.2.2.1 x hx
    rw [wThought_learnUses_31, show s 3 1 = nI L.length by rw [show s 3 1 = s (1 + 2) 1 from rfl, c.2.1.1]; simp]
    refine iF (nI_ge (by omega) (by omega)) (p_feels c hx (by omega) ?_)
    rw [c.2.2.2.2.1 x hx 0 (by omega)]
    refine c_gives0 (u := 0) v c (by omega) (fun s1 k1 => ?_)
    rw [show nI x * 9 + nI a = nI (x * 9 + a) by rw [show (9 : Int32) = nI 9 from rfl, pk_mul, nI_add], ixn (by omega), nI_1]
    refine ⟨vp_in_nI (by omega) (by omega), fun s2 e2 => ?_⟩
    subst e2
    refine ih (a + 1) _ (by omega) (fun b h2 h3 h4 => (u2_other (by omega)).trans ((k1 b h2 h3).trans (hf b h2 h3 h4))) ?_ (fun j hj2 => ?_) (fun b hb => ?_)
    · rw [u2_other (by omega), k1 75 (by omega) (by omega), h75]
    · rw [u2_ne (by omega), k1 74 (by omega) (by omega)]; exact hj j hj2
    · by_cases q : b = a
      · subst q; rw [u2_same]
      · rw [u2_ne (by omega), k1 74 (by omega) (by omega)]; exact hv b (by omega)
theorem c_use2x {K : Sg → Prop} (v : VB kn th L pk st se tp wt cd) (s0 : Sg) (c0 : CB s0 1 kn th L pk st se z tp wt cd) (h : ∀ t, scx s0 t → UT t kn L.length th cd → UV t kn th cd → K t) : ∀ (m x : Nat) (s : Sg), x + m = kn → scx s0 s → UT s x L.length th cd → UV s x th cd → wThought_learnUses_2 K (m + 1) (nI x) s := by
  have hk := v.1
  have hlen := VB_len v
  intro m
  induction m with
  | zero =>
    intro x s hx hf hu hw
    have c := scr_CB hk c0 (scx_scr hf)
    rw [wThought_learnUses_2, c.1.1]
    have : x = kn := by omega
    subst this
    exact iT (Int32.le_refl _) (h s hf hu hw)
  | succ m ih =>
    intro x s hx hf hu hw
    have c := scr_CB hk c0 (scx_scr hf)
    rw [wThought_learnUses_2, c.1.1, nI_1]
    refine iF (nI_ge (by omega) (by omega)) ⟨vp_in_nI (by omega) (by omega), ?_⟩
    unfold wBag_usedOf
    rw [t11 (by omega), c.2.2.2.2.1 x (by omega) 0 (by omega), c.2.2.2.2.1 x (by omega) 1 (by omega)]
    refine ⟨vp_in_nI (by omega) (by omega), vp_in_nI (by omega) (by omega), c_gives0 (u := 1) v c (by omega) (fun s1 k1 => ⟨vp_in_nI (by omega) (by omega), fun s2 e2 => ⟨L.length + 1, ?_⟩⟩)⟩
    rw [ixn (by omega)] at e2
    have k2 : scx s0 s2 := fun b h2 h3 h4 => by subst e2; rw [u2_other (by omega), k1 b h2 h3]; exact hf b h2 h3 h4
    refine c_use31x v (by omega) s2 (scr_CB hk c0 (scx_scr k2)) (fun s3 k3 h75 hj hv => ih (x + 1) s3 (by omega) (k2.trans k3) (fun y hy a ha => ?_) (fun y hy => ?_)) L.length 0 s2 (by omega) scx.refl rfl (fun _ _ => rfl) (fun b hb => absurd hb (Nat.not_lt_zero b))
    · by_cases q : y = x
      · subst q; exact hv a ha
      · rw [hj _ (by omega)]
        subst e2
        rw [u2_other (by omega), k1 74 (by omega) (by omega)]
        exact hu y (by omega) a ha
    · rw [h75]
      subst e2
      by_cases q : y = x
      · subst q; rw [u2_same]
      · rw [u2_ne (by omega), k1 75 (by omega) (by omega)]
        exact hw y (by omega)
theorem c_usesx {K : Sg → Prop} (v : VB kn th L pk st se tp wt cd) (c : CB s 1 kn th L pk st se z tp wt cd) (h : ∀ t, scx s t → UT t kn L.length th cd → UV t kn th cd → K t) : wThought_learnUses s K :=
  ⟨kn + 1, c_use2x v s c h kn 0 s (by omega) scx.refl (fun x hx => absurd hx (Nat.not_lt_zero x)) (fun x hx => absurd hx (Nat.not_lt_zero x))⟩
end PKC
-- the next row
theorem tn_some {l : List Nat} : ∀ (m t : Nat), tn l m = some t → t < m ∧ l.getD t 0 < l.getD (t + 1) 0 := by
  intro m
  induction m with
  | zero => intro t h; cases h
  | succ m ih =>
    intro t h
    rw [tn] at h
    split at h
    · rename_i q
      cases h
      exact ⟨by omega, q⟩
    · have := ih t h
      exact ⟨by omega, this.2⟩
theorem hi_in {l : List Nat} {t : Nat} (ht : l.getD t 0 < l.getD (t + 1) 0) : ∀ m : Nat, t + 1 ≤ m → t + 1 ≤ hi l t m ∧ hi l t m ≤ m := by
  intro m
  induction m with
  | zero => intro h; omega
  | succ m ih =>
    intro h
    rw [hi]
    split
    · omega
    · rename_i q
      have : t ≠ m := fun e => q (by rw [← e]; exact ht)
      have := ih (by omega)
      omega
abbrev rI (g : Nat → Nat) (p : List Nat) : List Int32 := (p.map g).map nI
theorem rI_len (g : Nat → Nat) (p : List Nat) : (rI g p).length = p.length := by simp
theorem rI_at {g : Nat → Nat} {p : List Nat} {i : Nat} (h : i < p.length) : (rI g p)[i]'(by simpa using h) = nI (g (p.getD i 0)) := by
  rw [List.getElem_map, List.getElem_map, List.getD_eq_getElem?_getD, List.getElem?_eq_getElem h]
  rfl
section NX
variable {g : Nat → Nat} {p : List Nat} {n : Nat} {s : Sg} {P : Int32 → Sg → Prop}
theorem cp70 : cap 70 = 9 := by decide +kernel
theorem cp68 : cap 68 = 9 := by decide +kernel
/-- rows of places, shown by rising numbers -/
def gOK (g : Nat → Nat) (n : Nat) : Prop := n ≤ 6 ∧ (∀ x y, x < n → y < n → (g x < g y ↔ x < y)) ∧ ∀ x, x < n → g x < 9
def pOK (p : List Nat) (n : Nat) : Prop := p.length = n ∧ ∀ x ∈ p, x < n
theorem p_lt (hp : pOK p n) {i : Nat} (h : i < n) : p.getD i 0 < n := hp.2 _ (getD_mem (by rw [hp.1]; exact h))
theorem row_at (hr : RW s 70 (rI g p)) (hp : pOK p n) {i : Nat} (h : i < n) : s 71 i = nI (g (p.getD i 0)) := by
  have h2 : i < p.length := by rw [hp.1]; exact h
  rw [← rI_at h2]
  exact IL_at hr (by simpa using h2)
theorem c_tnL {K : Int32 → Sg → Prop} (hg : gOK g n) (hp : pOK p n) (hr : RW s 70 (rI g p)) : ∀ m : Nat, m < n → (tn p m = none → K (-1) s) → (∀ t, tn p m = some t → K (nI t) s) → wRow_goToNext_7 70 K (m + 1) (nI m - 1) s := by
  obtain ⟨hn6, g1, g2⟩ := hg
  intro m
  induction m with
  | zero =>
    intro _ h0 _
    rw [wRow_goToNext_7]
    exact iT (by decide) (h0 rfl)
  | succ m ih =>
    intro hm h0 h1
    have a1 := p_lt hp (i := m) (by omega)
    have a2 := p_lt hp (i := m + 1) hm
    have b1 := g2 _ a1
    have b2 := g2 _ a2
    rw [nI_pred, wRow_goToNext_7, nI_1, ixn (by omega), ixn (by omega), show s (70 + 1) m = nI (g (p.getD m 0)) from row_at hr hp (by omega), show s (70 + 1) (m + 1) = nI (g (p.getD (m + 1) 0)) from row_at hr hp hm]
    rw [tn] at h0 h1
    refine iF (nI_pos (by omega)) ⟨by rw [show ln shC (70 + 1) = 9 from cp70]; exact vp_in_nI (by omega) (by omega), by rw [show ln shC (70 + 1) = 9 from cp70]; exact vp_in_nI (by omega) (by omega), ?_⟩
    by_cases q : p.getD m 0 < p.getD (m + 1) 0
    · rw [if_pos q] at h1
      exact iT (nI_lt ((g1 _ _ a1 a2).mpr q) (by omega)) (h1 m rfl)
    · rw [if_neg q] at h0 h1
      refine iF (fun z => q ((g1 _ _ a1 a2).mp ((nI_ltI (by omega) (by omega)).mp z))) ?_
      rw [show nI m + (-1) = nI m - 1 by rw [Int32.sub_eq_add_neg]]
      exact ih (by omega) h0 h1
theorem c_hiL {K : Int32 → Sg → Prop} {t : Nat} (hg : gOK g n) (hp : pOK p n) (hr : RW s 70 (rI g p)) (ht : p.getD t 0 < p.getD (t + 1) 0) (h : ∀ m2, m2 < n → K (nI m2) s ∨ True) : ∀ m : Nat, m < n → t + 1 ≤ m → K (nI (hi p t m)) s → wRow_goToNext_47 70 (nI t) K (m + 1) (nI m) s := by
  obtain ⟨hn6, g1, g2⟩ := hg
  intro m
  induction m with
  | zero => intro _ h; omega
  | succ m ih =>
    intro hm htm hK
    have a1 := p_lt hp (i := t) (by omega)
    have a2 := p_lt hp (i := m + 1) hm
    have b1 := g2 _ a1
    have b2 := g2 _ a2
    rw [wRow_goToNext_47, ixn (by omega), ixn (by omega), show s (70 + 1) t = nI (g (p.getD t 0)) from row_at hr hp (by omega), show s (70 + 1) (m + 1) = nI (g (p.getD (m + 1) 0)) from row_at hr hp hm]
    rw [hi] at hK
    refine iF (nI_ge (by omega) (by omega)) ⟨by rw [show ln shC (70 + 1) = 9 from cp70]; exact vp_in_nI (by omega) (by omega), by rw [show ln shC (70 + 1) = 9 from cp70]; exact vp_in_nI (by omega) (by omega), ?_⟩
    by_cases q : p.getD t 0 < p.getD (m + 1) 0
    · rw [if_pos q] at hK
      exact iT (nI_lt ((g1 _ _ a1 a2).mpr q) (by omega)) hK
    · rw [if_neg q] at hK
      refine iF (fun z => q ((g1 _ _ a1 a2).mp ((nI_ltI (by omega) (by omega)).mp z))) ?_
      rw [pk_m1]
      have : t ≠ m := fun e => q (by rw [← e]; exact ht)
      exact ih (by omega) (by omega) hK
theorem sw_rI {i j : Nat} (hi : i < p.length) (hj : j < p.length) : ((rI g p).set i ((rI g p)[j]'(by simpa using hj))).set j ((rI g p)[i]'(by simpa using hi)) = rI g (swN p i j) := by
  rw [rI_at hi, rI_at hj]
  unfold swN rI
  rw [List.map_set, List.map_set, List.map_set, List.map_set]
theorem tv_rI {a : Nat} : tov (rI g p) a = rI g (tvN p a) := by
  unfold tov tvN rI
  simp [List.map_take, List.map_drop, List.map_reverse]
theorem c_next (hg : gOK g n) (hp : pOK p n) (hr : RW s 70 (rI g p)) (h0 : nxt p = none → P 0 s) (h1 : ∀ p2, nxt p = some p2 → ∀ t, RW t 70 (rI g p2) → fr2 s t 70 → P 1 t) : wRow_goToNext 70 s P := by
  obtain ⟨hn6, -, -⟩ := id hg
  have el : s 70 1 = nI n := by rw [hr.1, rI_len, hp.1]
  unfold wRow_goToNext
  rw [el]
  unfold nxt at h0 h1
  rw [hp.1] at h0 h1
  rcases Nat.eq_zero_or_pos n with q | q
  · subst q
    refine ⟨1, ?_⟩
    rw [wRow_goToNext_7]
    exact iT (by decide) (iF (by decide) (h0 rfl))
  · rw [show nI n - 2 = nI (n - 1) - 1 by
      rw [show n = (n - 1) + 1 by omega, nI_succ, Nat.add_sub_cancel, Int32.sub_eq_add_neg, Int32.sub_eq_add_neg, Int32.add_assoc]
      rfl]
    refine ⟨n - 1 + 1, c_tnL hg hp hr (n - 1) (by omega) (fun e => ?_) (fun t e => ?_)⟩
    · simp only [e] at h0
      exact iF (by decide) (h0 trivial)
    · obtain ⟨t1, t2⟩ := tn_some _ _ e
      have hh := hi_in t2 (n - 1) (by omega)
      simp only [e] at h1
      refine iT (nI_pos' (by omega)) ⟨n - 1 + 1, ?_⟩
      rw [show s 70 1 - 1 = nI (n - 1) by rw [el, show (1 : Int32) = nI 1 from rfl, pk_sub (by omega)]]
      refine c_hiL hg hp hr t2 (fun _ _ => Or.inr trivial) (n - 1) (by omega) (by omega) ?_
      have lp : p.length = n := hp.1
      refine p_exchange (k := 70) (l := rI g p) hr (by rw [cp70, rI_len]; omega) (by rw [cp70]; omega) (by rw [rI_len]; omega) (by rw [rI_len]; omega) (fun s1 r1 f1 => ?_)
      rw [sw_rI (by omega) (by omega)] at r1
      have ls : (swN p t (hi p t (n - 1))).length = n := by unfold swN; simp [lp]
      rw [nI_1]
      refine p_turn (k := 70) (a := t + 1) r1 (by rw [cp70, rI_len]; omega) (by rw [cp70]; omega) (by rw [rI_len]; omega) (fun s2 r2 f2 => ?_)
      rw [tv_rI] at r2
      exact h1 _ rfl s2 r2 (f1.trans f2)
end NX
