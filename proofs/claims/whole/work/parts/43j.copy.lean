-- PURE: image, restore, then, settles
theorem c_copyB1 {K : Sg → Prop} (s0 : Sg) (h : ∀ t, (∀ a, ¬ (1 + 10 ≤ a ∧ a < 1 + 19) → t a = s0 a) → (∀ y, y < 9 → ∀ j, j < 4 → t (1 + 10 + y) j = s0 (32 + 10 + y) j) → K t) : ∀ (m x : Nat) (s : Sg), x + m = 9 → (∀ a, ¬ (1 + 10 ≤ a ∧ a < 1 + 19) → s a = s0 a) → (∀ y, y < x → ∀ j, j < 4 → s (1 + 10 + y) j = s0 (32 + 10 + y) j) → wBag_copyB_2 K (m + 1) (nI x) s := by
  intro m
  induction m with
  | zero =>
    intro x s hx hf hv
    rw [wBag_copyB_2]
    exact iT (nI_le (a := 9) (by omega) (by omega)) (h s hf (fun y hy => hv y (by omega)))
  | succ m ih =>
    intro x s hx hf hv
    rw [wBag_copyB_2]
    refine iF (nI_ge (b := 9) (by omega) (by omega)) ⟨vp_in_nI (by omega) (by omega), vp_in_nI (by omega) (by omega), fun s1 e1 s2 e2 s3 e3 s4 e4 => ?_⟩
    rw [ixn (by omega)] at e1 e2 e3 e4
    have g0 : ∀ a, a ≠ 11 + 1 * x → s4 a = s a := fun a ha => by
      subst e4; rw [u2_other ha]; subst e3; rw [u2_other ha]; subst e2; rw [u2_other ha]; subst e1; rw [u2_other ha]
    have gk : ∀ t2 : Sg, (∀ a, a ≠ 11 + 1 * x → t2 a = s a) → t2 (42 + 1 * x) = s0 (32 + 10 + x) := fun t2 q => by
      rw [q _ (by omega), hf _ (by omega)]
      congr 1
      omega
    rw [nI_1]
    refine ih (x + 1) s4 (by omega) (fun a ha => (g0 a (by omega)).trans (hf a ha)) (fun y hy j hj => ?_)
    by_cases q : y = x
    · subst q
      rw [show 1 + 10 + y = 11 + 1 * y by omega]
      rcases (show j = 0 ∨ j = 1 ∨ j = 2 ∨ j = 3 by omega) with rfl | rfl | rfl | rfl
      · subst e4; rw [u2_ne (by omega)]; subst e3; rw [u2_ne (by omega)]; subst e2; rw [u2_ne (by omega)]; subst e1; rw [u2_same]
        rw [gk s (fun _ _ => rfl)]
      · subst e4; rw [u2_ne (by omega)]; subst e3; rw [u2_ne (by omega)]; subst e2; rw [u2_same]
        rw [gk s1 (fun a ha => by subst e1; rw [u2_other ha])]
      · subst e4; rw [u2_ne (by omega)]; subst e3; rw [u2_same]
        rw [gk s2 (fun a ha => by subst e2; rw [u2_other ha]; subst e1; rw [u2_other ha])]
      · subst e4; rw [u2_same]
        rw [gk s3 (fun a ha => by subst e3; rw [u2_other ha]; subst e2; rw [u2_other ha]; subst e1; rw [u2_other ha])]
    · rw [g0 _ (by omega)]
      exact hv y (by omega) j hj
theorem c_copyB2 {K : Sg → Prop} {cd : Nat → List Int32} (s0 : Sg) (hl : ∀ u, u < 2 → (cd u).length ≤ 60) (hc : ∀ u, u < 2 → IL (s0 (32 + 20 + 6 * u) 1) (s0 (32 + 21 + 6 * u)) (cd u)) (h : ∀ t, (∀ a, ¬ (1 + 20 ≤ a ∧ a < 1 + 31) → t a = s0 a) → (∀ u, u < 2 → IL (t (1 + 20 + 6 * u) 1) (t (1 + 21 + 6 * u)) (cd u)) → K t) : ∀ (m x : Nat) (s : Sg), x + m = 2 → (∀ a, ¬ (1 + 20 ≤ a ∧ a < 1 + 31) → s a = s0 a) → (∀ u, u < x → IL (s (1 + 20 + 6 * u) 1) (s (1 + 21 + 6 * u)) (cd u)) → wBag_copyB_93 K (m + 1) (nI x) s := by
  intro m
  induction m with
  | zero =>
    intro x s hx hf hv
    rw [wBag_copyB_93]
    exact iT (nI_le (a := 2) (by omega) (by omega)) (h s hf (fun y hy => hv y (by omega)))
  | succ m ih =>
    intro x s hx hf hv
    rw [wBag_copyB_93]
    refine iF (nI_ge (b := 2) (by omega) (by omega)) ⟨vp_in_nI (by omega) (by omega), vp_in_nI (by omega) (by omega), ?_⟩
    unfold wText_copy
    rw [ixn (by omega), show 20 + 6 * x + 1 = 1 + 20 + 6 * x by omega, show 51 + 6 * x + 1 = 32 + 20 + 6 * x by omega]
    have hcap : cap (1 + 20 + 6 * x) = 60 ∧ cap (32 + 20 + 6 * x) = 60 := by
      rcases (show x = 0 ∨ x = 1 by omega) with rfl | rfl <;> decide +kernel
    have hx2 := hl x (by omega)
    refine p_copy (l := cd x) ?_ (by omega) (by omega) (by omega) (by omega) (fun t1 ht1 hf1 => ?_)
    · show IL (s (32 + 20 + 6 * x) 1) (s (32 + 20 + 6 * x + 1)) (cd x)
      rw [hf _ (by omega), hf _ (by omega), show 32 + 20 + 6 * x + 1 = 32 + 21 + 6 * x by omega]
      exact hc x (by omega)
    · rw [nI_1]
      refine ih (x + 1) t1 (by omega) (fun a ha => (hf1 a (by omega) (by omega)).trans (hf a ha)) (fun u hu => ?_)
      by_cases q : u = x
      · subst q
        rw [show 1 + 21 + 6 * u = 1 + 20 + 6 * u + 1 by omega]
        exact ht1
      · rw [hf1 _ (by omega) (by omega), hf1 _ (by omega) (by omega)]
        exact hv u (by omega)
theorem c_copyB {s : Sg} {kn : Nat} {th : Nat → Nat → Nat} {L : List Nat} {pk : Option Nat} {st se : Nat} {z : Int32} {tp : List Nat} {wt : List Int32} {cd : Nat → List Int32} {P : Sg → Prop} (v : VB kn th L pk st se tp wt cd) (c : CB s 32 kn th L pk st se z tp wt cd) (h : ∀ t, CB t 1 kn th L pk st se z tp wt cd → (∀ a, ¬ (1 ≤ a ∧ a < 1 + 31) → t a = s a) → P t) : wBag_copyB s P := by
  have hlen := VB_len v
  have hk := v.1
  have htp := v.2.2.2.2.2.1.1
  have hwt := v.2.2.2.2.2.2.1
  have hcd := v.2.2.2.2.2.2.2.2
  obtain ⟨⟨a1, a2, a3, a4, a5⟩, o, tpe, w, thg, tx⟩ := c
  have q3 : cap (1 + 2) = 9 ∧ cap (32 + 2) = 9 := by decide +kernel
  have q5 : cap (1 + 4) = 60 ∧ cap (32 + 4) = 60 := by decide +kernel
  have q8 : cap (1 + 7) = 24 ∧ cap (32 + 7) = 24 := by decide +kernel
  unfold wBag_copyB
  refine ⟨10, c_copyB1 s (fun s1 f1 v1 s2 e2 => ?_) 9 0 s (by omega) (fun _ _ => rfl) (fun y hy => absurd hy (Nat.not_lt_zero y))⟩
  have k2 : ∀ a, ¬ (1 ≤ a ∧ a < 1 + 31) → s2 a = s a := fun a ha => by subst e2; rw [u2_other (by omega)]; exact f1 a (by omega)
  refine p_copy (k := 1 + 2) (k1 := 32 + 2) (l := L.map nI) (by show IL (s2 (32 + 2) 1) (s2 (32 + 3)) _; rw [k2 _ (by omega), k2 _ (by omega)]; exact o) (by rw [List.length_map]; omega) (by rw [List.length_map]; omega) (by omega) (by omega) (fun s3 h3 f3 s4 e4 s5 e5 s6 e6 s7 e7 => ?_)
  have k3 : ∀ a, ¬ (1 ≤ a ∧ a < 1 + 31) → s3 a = s a := fun a ha => (f3 a (by omega) (by omega)).trans (k2 a ha)
  have k4 : ∀ a, ¬ (1 ≤ a ∧ a < 1 + 31) → s4 a = s a := fun a ha => by subst e4; rw [u2_other (by omega)]; exact k3 a ha
  have k5 : ∀ a, ¬ (1 ≤ a ∧ a < 1 + 31) → s5 a = s a := fun a ha => by subst e5; rw [u2_other (by omega)]; exact k4 a ha
  have k6 : ∀ a, ¬ (1 ≤ a ∧ a < 1 + 31) → s6 a = s a := fun a ha => by subst e6; rw [u2_other (by omega)]; exact k5 a ha
  have k7 : ∀ a, ¬ (1 ≤ a ∧ a < 1 + 31) → s7 a = s a := fun a ha => by subst e7; rw [u2_other (by omega)]; exact k6 a ha
  have g7 : ∀ a, a ≠ 1 → s7 a = s3 a := fun a ha => by
    subst e7; rw [u2_other ha]; subst e6; rw [u2_other ha]; subst e5; rw [u2_other ha]; subst e4; rw [u2_other ha]
  have g2 : ∀ a, a ≠ 1 → s2 a = s1 a := fun a ha => by subst e2; rw [u2_other ha]
  have b1 : s7 1 1 = nI kn := by
    subst e7; rw [u2_ne (by omega)]; subst e6; rw [u2_ne (by omega)]; subst e5; rw [u2_ne (by omega)]; subst e4; rw [u2_ne (by omega)]; rw [f3 1 (by omega) (by omega)]
    subst e2; rw [u2_same, f1 32 (by omega)]; exact a1
  have b3 : s7 1 3 = pkv pk := by
    subst e7; rw [u2_ne (by omega)]; subst e6; rw [u2_ne (by omega)]; subst e5; rw [u2_ne (by omega)]; subst e4; rw [u2_same, k3 32 (by omega)]; exact a2
  have b4 : s7 1 4 = nI st := by
    subst e7; rw [u2_ne (by omega)]; subst e6; rw [u2_ne (by omega)]; subst e5; rw [u2_same, k4 32 (by omega)]; exact a3
  have b5 : s7 1 5 = nI se := by
    subst e7; rw [u2_ne (by omega)]; subst e6; rw [u2_same, k5 32 (by omega)]; exact a4
  have b6 : s7 1 6 = z := by
    subst e7; rw [u2_same, k6 32 (by omega)]; exact a5
  refine p_copy (k := 1 + 4) (k1 := 32 + 4) (l := tp.map nI) (by show IL (s7 (32 + 4) 1) (s7 (32 + 5)) _; rw [k7 _ (by omega), k7 _ (by omega)]; exact tpe) (by rw [List.length_map]; omega) (by rw [List.length_map]; omega) (by omega) (by omega) (fun s8 h8 f8 => ?_)
  have k8 : ∀ a, ¬ (1 ≤ a ∧ a < 1 + 31) → s8 a = s a := fun a ha => (f8 a (by omega) (by omega)).trans (k7 a ha)
  refine ⟨3, c_copyB2 (cd := cd) s8 (fun u hu => (hcd u hu).1) (fun u hu => by rw [k8 _ (by omega), k8 _ (by omega)]; exact tx u hu) (fun s9 f9 h9 => ?_) 2 0 s8 (by omega) (fun _ _ => rfl) (fun y hy => absurd hy (Nat.not_lt_zero y))⟩
  have k9 : ∀ a, ¬ (1 ≤ a ∧ a < 1 + 31) → s9 a = s a := fun a ha => (f9 a (by omega)).trans (k8 a ha)
  refine p_copy (k := 1 + 7) (k1 := 32 + 7) (l := wt) (by show IL (s9 (32 + 7) 1) (s9 (32 + 8)) _; rw [k9 _ (by omega), k9 _ (by omega)]; exact w) (by omega) (by omega) (by omega) (by omega) (fun s10 h10 f10 => ?_)
  refine h s10 ⟨?_, ?_, ?_, h10, fun y hy j hj => ?_, fun u hu => ?_⟩ (fun a ha => (f10 a (by omega) (by omega)).trans (k9 a ha))
  · rw [f10 1 (by omega) (by omega), f9 1 (by omega), f8 1 (by omega) (by omega)]
    exact ⟨b1, b3, b4, b5, b6⟩
  · rw [f10 (1 + 2) (by omega) (by omega), f9 (1 + 2) (by omega), f8 (1 + 2) (by omega) (by omega), g7 (1 + 2) (by omega), f10 (1 + 3) (by omega) (by omega), f9 (1 + 3) (by omega), f8 (1 + 3) (by omega) (by omega), g7 (1 + 3) (by omega)]
    exact h3
  · rw [f10 (1 + 4) (by omega) (by omega), f9 (1 + 4) (by omega), f10 (1 + 5) (by omega) (by omega), f9 (1 + 5) (by omega)]
    exact h8
  · rw [f10 (1 + 10 + y) (by omega) (by omega), f9 (1 + 10 + y) (by omega), f8 (1 + 10 + y) (by omega) (by omega), g7 (1 + 10 + y) (by omega), f3 (1 + 10 + y) (by omega) (by omega), g2 (1 + 10 + y) (by omega), v1 y (by omega) j hj]
    exact thg y hy j hj
  · rw [f10 (1 + 20 + 6 * u) (by omega) (by omega), f10 (1 + 21 + 6 * u) (by omega) (by omega)]
    exact h9 u hu
theorem c_copyK1 {K : Sg → Prop} (s0 : Sg) (h : ∀ t, (∀ a, ¬ (32 + 10 ≤ a ∧ a < 32 + 19) → t a = s0 a) → (∀ y, y < 9 → ∀ j, j < 4 → t (32 + 10 + y) j = s0 (1 + 10 + y) j) → K t) : ∀ (m x : Nat) (s : Sg), x + m = 9 → (∀ a, ¬ (32 + 10 ≤ a ∧ a < 32 + 19) → s a = s0 a) → (∀ y, y < x → ∀ j, j < 4 → s (32 + 10 + y) j = s0 (1 + 10 + y) j) → wBag_copyK_2 K (m + 1) (nI x) s := by
  intro m
  induction m with
  | zero =>
    intro x s hx hf hv
    rw [wBag_copyK_2]
    exact iT (nI_le (a := 9) (by omega) (by omega)) (h s hf (fun y hy => hv y (by omega)))
  | succ m ih =>
    intro x s hx hf hv
    rw [wBag_copyK_2]
    refine iF (nI_ge (b := 9) (by omega) (by omega)) ⟨vp_in_nI (by omega) (by omega), vp_in_nI (by omega) (by omega), fun s1 e1 s2 e2 s3 e3 s4 e4 => ?_⟩
    rw [ixn (by omega)] at e1 e2 e3 e4
    have g0 : ∀ a, a ≠ 42 + 1 * x → s4 a = s a := fun a ha => by
      subst e4; rw [u2_other ha]; subst e3; rw [u2_other ha]; subst e2; rw [u2_other ha]; subst e1; rw [u2_other ha]
    have gk : ∀ t2 : Sg, (∀ a, a ≠ 42 + 1 * x → t2 a = s a) → t2 (11 + 1 * x) = s0 (1 + 10 + x) := fun t2 q => by
      rw [q _ (by omega), hf _ (by omega)]
      congr 1
      omega
    rw [nI_1]
    refine ih (x + 1) s4 (by omega) (fun a ha => (g0 a (by omega)).trans (hf a ha)) (fun y hy j hj => ?_)
    by_cases q : y = x
    · subst q
      rw [show 32 + 10 + y = 42 + 1 * y by omega]
      rcases (show j = 0 ∨ j = 1 ∨ j = 2 ∨ j = 3 by omega) with rfl | rfl | rfl | rfl
      · subst e4; rw [u2_ne (by omega)]; subst e3; rw [u2_ne (by omega)]; subst e2; rw [u2_ne (by omega)]; subst e1; rw [u2_same]
        rw [gk s (fun _ _ => rfl)]
      · subst e4; rw [u2_ne (by omega)]; subst e3; rw [u2_ne (by omega)]; subst e2; rw [u2_same]
        rw [gk s1 (fun a ha => by subst e1; rw [u2_other ha])]
      · subst e4; rw [u2_ne (by omega)]; subst e3; rw [u2_same]
        rw [gk s2 (fun a ha => by subst e2; rw [u2_other ha]; subst e1; rw [u2_other ha])]
      · subst e4; rw [u2_same]
        rw [gk s3 (fun a ha => by subst e3; rw [u2_other ha]; subst e2; rw [u2_other ha]; subst e1; rw [u2_other ha])]
    · rw [g0 _ (by omega)]
      exact hv y (by omega) j hj
theorem c_copyK2 {K : Sg → Prop} {cd : Nat → List Int32} (s0 : Sg) (hl : ∀ u, u < 2 → (cd u).length ≤ 60) (hc : ∀ u, u < 2 → IL (s0 (1 + 20 + 6 * u) 1) (s0 (1 + 21 + 6 * u)) (cd u)) (h : ∀ t, (∀ a, ¬ (32 + 20 ≤ a ∧ a < 32 + 31) → t a = s0 a) → (∀ u, u < 2 → IL (t (32 + 20 + 6 * u) 1) (t (32 + 21 + 6 * u)) (cd u)) → K t) : ∀ (m x : Nat) (s : Sg), x + m = 2 → (∀ a, ¬ (32 + 20 ≤ a ∧ a < 32 + 31) → s a = s0 a) → (∀ u, u < x → IL (s (32 + 20 + 6 * u) 1) (s (32 + 21 + 6 * u)) (cd u)) → wBag_copyK_93 K (m + 1) (nI x) s := by
  intro m
  induction m with
  | zero =>
    intro x s hx hf hv
    rw [wBag_copyK_93]
    exact iT (nI_le (a := 2) (by omega) (by omega)) (h s hf (fun y hy => hv y (by omega)))
  | succ m ih =>
    intro x s hx hf hv
    rw [wBag_copyK_93]
    refine iF (nI_ge (b := 2) (by omega) (by omega)) ⟨vp_in_nI (by omega) (by omega), vp_in_nI (by omega) (by omega), ?_⟩
    unfold wText_copy
    rw [ixn (by omega), show 51 + 6 * x + 1 = 32 + 20 + 6 * x by omega, show 20 + 6 * x + 1 = 1 + 20 + 6 * x by omega]
    have hcap : cap (32 + 20 + 6 * x) = 60 ∧ cap (1 + 20 + 6 * x) = 60 := by
      rcases (show x = 0 ∨ x = 1 by omega) with rfl | rfl <;> decide +kernel
    have hx2 := hl x (by omega)
    refine p_copy (l := cd x) ?_ (by omega) (by omega) (by omega) (by omega) (fun t1 ht1 hf1 => ?_)
    · show IL (s (1 + 20 + 6 * x) 1) (s (1 + 20 + 6 * x + 1)) (cd x)
      rw [hf _ (by omega), hf _ (by omega), show 1 + 20 + 6 * x + 1 = 1 + 21 + 6 * x by omega]
      exact hc x (by omega)
    · rw [nI_1]
      refine ih (x + 1) t1 (by omega) (fun a ha => (hf1 a (by omega) (by omega)).trans (hf a ha)) (fun u hu => ?_)
      by_cases q : u = x
      · subst q
        rw [show 32 + 21 + 6 * u = 32 + 20 + 6 * u + 1 by omega]
        exact ht1
      · rw [hf1 _ (by omega) (by omega), hf1 _ (by omega) (by omega)]
        exact hv u (by omega)
theorem c_copyK {s : Sg} {kn : Nat} {th : Nat → Nat → Nat} {L : List Nat} {pk : Option Nat} {st se : Nat} {z : Int32} {tp : List Nat} {wt : List Int32} {cd : Nat → List Int32} {P : Sg → Prop} (v : VB kn th L pk st se tp wt cd) (c : CB s 1 kn th L pk st se z tp wt cd) (h : ∀ t, CB t 32 kn th L pk st se z tp wt cd → (∀ a, ¬ (32 ≤ a ∧ a < 32 + 31) → t a = s a) → P t) : wBag_copyK s P := by
  have hlen := VB_len v
  have hk := v.1
  have htp := v.2.2.2.2.2.1.1
  have hwt := v.2.2.2.2.2.2.1
  have hcd := v.2.2.2.2.2.2.2.2
  obtain ⟨⟨a1, a2, a3, a4, a5⟩, o, tpe, w, thg, tx⟩ := c
  have q3 : cap (32 + 2) = 9 ∧ cap (1 + 2) = 9 := by decide +kernel
  have q5 : cap (32 + 4) = 60 ∧ cap (1 + 4) = 60 := by decide +kernel
  have q8 : cap (32 + 7) = 24 ∧ cap (1 + 7) = 24 := by decide +kernel
  unfold wBag_copyK
  refine ⟨10, c_copyK1 s (fun s1 f1 v1 s2 e2 => ?_) 9 0 s (by omega) (fun _ _ => rfl) (fun y hy => absurd hy (Nat.not_lt_zero y))⟩
  have k2 : ∀ a, ¬ (32 ≤ a ∧ a < 32 + 31) → s2 a = s a := fun a ha => by subst e2; rw [u2_other (by omega)]; exact f1 a (by omega)
  refine p_copy (k := 32 + 2) (k1 := 1 + 2) (l := L.map nI) (by show IL (s2 (1 + 2) 1) (s2 (1 + 3)) _; rw [k2 _ (by omega), k2 _ (by omega)]; exact o) (by rw [List.length_map]; omega) (by rw [List.length_map]; omega) (by omega) (by omega) (fun s3 h3 f3 s4 e4 s5 e5 s6 e6 s7 e7 => ?_)
  have k3 : ∀ a, ¬ (32 ≤ a ∧ a < 32 + 31) → s3 a = s a := fun a ha => (f3 a (by omega) (by omega)).trans (k2 a ha)
  have k4 : ∀ a, ¬ (32 ≤ a ∧ a < 32 + 31) → s4 a = s a := fun a ha => by subst e4; rw [u2_other (by omega)]; exact k3 a ha
  have k5 : ∀ a, ¬ (32 ≤ a ∧ a < 32 + 31) → s5 a = s a := fun a ha => by subst e5; rw [u2_other (by omega)]; exact k4 a ha
  have k6 : ∀ a, ¬ (32 ≤ a ∧ a < 32 + 31) → s6 a = s a := fun a ha => by subst e6; rw [u2_other (by omega)]; exact k5 a ha
  have k7 : ∀ a, ¬ (32 ≤ a ∧ a < 32 + 31) → s7 a = s a := fun a ha => by subst e7; rw [u2_other (by omega)]; exact k6 a ha
  have g7 : ∀ a, a ≠ 32 → s7 a = s3 a := fun a ha => by
    subst e7; rw [u2_other ha]; subst e6; rw [u2_other ha]; subst e5; rw [u2_other ha]; subst e4; rw [u2_other ha]
  have g2 : ∀ a, a ≠ 32 → s2 a = s1 a := fun a ha => by subst e2; rw [u2_other ha]
  have b1 : s7 32 1 = nI kn := by
    subst e7; rw [u2_ne (by omega)]; subst e6; rw [u2_ne (by omega)]; subst e5; rw [u2_ne (by omega)]; subst e4; rw [u2_ne (by omega)]; rw [f3 32 (by omega) (by omega)]
    subst e2; rw [u2_same, f1 1 (by omega)]; exact a1
  have b3 : s7 32 3 = pkv pk := by
    subst e7; rw [u2_ne (by omega)]; subst e6; rw [u2_ne (by omega)]; subst e5; rw [u2_ne (by omega)]; subst e4; rw [u2_same, k3 1 (by omega)]; exact a2
  have b4 : s7 32 4 = nI st := by
    subst e7; rw [u2_ne (by omega)]; subst e6; rw [u2_ne (by omega)]; subst e5; rw [u2_same, k4 1 (by omega)]; exact a3
  have b5 : s7 32 5 = nI se := by
    subst e7; rw [u2_ne (by omega)]; subst e6; rw [u2_same, k5 1 (by omega)]; exact a4
  have b6 : s7 32 6 = z := by
    subst e7; rw [u2_same, k6 1 (by omega)]; exact a5
  refine p_copy (k := 32 + 4) (k1 := 1 + 4) (l := tp.map nI) (by show IL (s7 (1 + 4) 1) (s7 (1 + 5)) _; rw [k7 _ (by omega), k7 _ (by omega)]; exact tpe) (by rw [List.length_map]; omega) (by rw [List.length_map]; omega) (by omega) (by omega) (fun s8 h8 f8 => ?_)
  have k8 : ∀ a, ¬ (32 ≤ a ∧ a < 32 + 31) → s8 a = s a := fun a ha => (f8 a (by omega) (by omega)).trans (k7 a ha)
  refine ⟨3, c_copyK2 (cd := cd) s8 (fun u hu => (hcd u hu).1) (fun u hu => by rw [k8 _ (by omega), k8 _ (by omega)]; exact tx u hu) (fun s9 f9 h9 => ?_) 2 0 s8 (by omega) (fun _ _ => rfl) (fun y hy => absurd hy (Nat.not_lt_zero y))⟩
  have k9 : ∀ a, ¬ (32 ≤ a ∧ a < 32 + 31) → s9 a = s a := fun a ha => (f9 a (by omega)).trans (k8 a ha)
  refine p_copy (k := 32 + 7) (k1 := 1 + 7) (l := wt) (by show IL (s9 (1 + 7) 1) (s9 (1 + 8)) _; rw [k9 _ (by omega), k9 _ (by omega)]; exact w) (by omega) (by omega) (by omega) (by omega) (fun s10 h10 f10 => ?_)
  refine h s10 ⟨?_, ?_, ?_, h10, fun y hy j hj => ?_, fun u hu => ?_⟩ (fun a ha => (f10 a (by omega) (by omega)).trans (k9 a ha))
  · rw [f10 32 (by omega) (by omega), f9 32 (by omega), f8 32 (by omega) (by omega)]
    exact ⟨b1, b3, b4, b5, b6⟩
  · rw [f10 (32 + 2) (by omega) (by omega), f9 (32 + 2) (by omega), f8 (32 + 2) (by omega) (by omega), g7 (32 + 2) (by omega), f10 (32 + 3) (by omega) (by omega), f9 (32 + 3) (by omega), f8 (32 + 3) (by omega) (by omega), g7 (32 + 3) (by omega)]
    exact h3
  · rw [f10 (32 + 4) (by omega) (by omega), f9 (32 + 4) (by omega), f10 (32 + 5) (by omega) (by omega), f9 (32 + 5) (by omega)]
    exact h8
  · rw [f10 (32 + 10 + y) (by omega) (by omega), f9 (32 + 10 + y) (by omega), f8 (32 + 10 + y) (by omega) (by omega), g7 (32 + 10 + y) (by omega), f3 (32 + 10 + y) (by omega) (by omega), g2 (32 + 10 + y) (by omega), v1 y (by omega) j hj]
    exact thg y hy j hj
  · rw [f10 (32 + 20 + 6 * u) (by omega) (by omega), f10 (32 + 21 + 6 * u) (by omega) (by omega)]
    exact h9 u hu
