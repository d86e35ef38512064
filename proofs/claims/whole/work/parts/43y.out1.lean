-- PURE: out, first half: the class's table of uses, the time without some things
abbrev gus (th : Nat → Nat → Nat) (cd : Nat → List Int32) (t a : Nat) : Int32 := gvw cd 0 (fls th t) (nI a) (nI (th t 0))
def out? (M t : Nat) : Bool := (M >>> t) &&& 1 != 0
def fil (M : Nat) (L : List Nat) : List Nat := L.filter (fun t => !out? M t)
/-- the time to x, these things left out -/
def twl (th : Nat → Nat → Nat) (cd : Nat → List Int32) (x M : Nat) : List Nat → Nat → Int32 → Int32
  | [], _, acc => acc
  | t :: l, a, acc => if out? M t then (if t = x then acc else twl th cd x M l a acc) else (if t = x then acc + gus th cd t a else twl th cd x M l (a + 1) (acc + gus th cd t a))
theorem twl_sm {th : Nat → Nat → Nat} {cd : Nat → List Int32} {x M : Nat} (hx : out? M x = false) : ∀ (l pre : List Nat) (acc : Int32), x ∈ l → twl th cd x M l pre.length acc = sm th cd (pre ++ fil M l) (pos x (fil M l) + 1) pre.length acc := by
  intro l
  induction l with
  | nil => intro pre acc h; simp at h
  | cons t l ih =>
    intro pre acc h
    rw [twl]
    by_cases q : out? M t = true
    · have hne : t ≠ x := fun e => by rw [e, hx] at q; cases q
      have hl : x ∈ l := by
        rcases List.mem_cons.mp h with e | e
        · exact absurd e.symm hne
        · exact e
      rw [if_pos q, if_neg hne, ih pre acc hl]
      simp [fil, q]
    · have q2 : out? M t = false := by simpa using q
      rw [if_neg q]
      have ef : fil M (t :: l) = t :: fil M l := by simp [fil, q2]
      rw [ef]
      have e0 : (pre ++ t :: fil M l).getD pre.length 0 = t := by simp [List.getD_eq_getElem?_getD]
      by_cases e : t = x
      · rw [if_pos e]
        simp only [pos, if_pos e]
        rw [sm, sm, e0]
      · have hl : x ∈ l := by
          rcases List.mem_cons.mp h with e2 | e2
          · exact absurd e2.symm e
          · exact e2
        rw [if_neg e]
        simp only [pos, if_neg e]
        rw [sm, e0]
        have := ih (pre ++ [t]) (acc + gus th cd t pre.length) hl
        simp only [List.length_append, List.length_singleton, List.append_assoc, List.singleton_append] at this
        exact this
section OUT
variable {s t : Sg} {kn : Nat} {th : Nat → Nat → Nat} {L : List Nat} {pk : Option Nat} {st se : Nat} {z : Int32} {tp : List Nat} {wt : List Int32} {cd : Nat → List Int32}
/-- the table is full, for the things before k -/
def UT (s : Sg) (k n : Nat) (th : Nat → Nat → Nat) (cd : Nat → List Int32) : Prop := ∀ x, x < k → ∀ a, a < n → s 74 (x * 9 + a) = gus th cd x a
def UV (s : Sg) (k : Nat) (th : Nat → Nat → Nat) (cd : Nat → List Int32) : Prop := ∀ x, x < k → s 75 x = gvw cd 1 (nI x) (nI (th x 0)) (nI (th x 1))
theorem c_use31 {x : Nat} {K : Sg → Prop} (v : VB kn th L pk st se tp wt cd) (hx : x < kn) (s0 : Sg) (c0 : CB s0 1 kn th L pk st se z tp wt cd) (h : ∀ t, scr s0 t → t 75 = s0 75 → (∀ j, ¬ (x * 9 ≤ j ∧ j < x * 9 + 9) → t 74 j = s0 74 j) → (∀ a, a < L.length → t 74 (x * 9 + a) = gus th cd x a) → K t) : ∀ (m a : Nat) (s : Sg), a + m = L.length → scr s0 s → s 75 = s0 75 → (∀ j, ¬ (x * 9 ≤ j ∧ j < x * 9 + 9) → s 74 j = s0 74 j) → (∀ b, b < a → s 74 (x * 9 + b) = gus th cd x b) → wThought_learnUses_31 (nI x) (1 + 10 + x) K (m + 1) (nI a) s := by
  have hk := v.1
  have hlen := VB_len v
  intro m
  induction m with
  | zero =>
    intro a s ha hf h75 hj hv
    have c := scr_CB hk c0 hf
    rw [wThought_learnUses_31, show s 3 1 = nI L.length by rw [show s 3 1 = s (1 + 2) 1 from rfl, c.2.1.1]; simp]
    exact iT (nI_le (by omega) (by omega)) (h s hf h75 hj (fun b hb => hv b (by omega)))
  | succ m ih =>
    intro a s ha hf h75 hj hv
    have c := scr_CB hk c0 hf
    have h8 := v.2.2.2.2.2.2.2.1 x hx
    rw [wThought_learnUses_31, show s 3 1 = nI L.length by rw [show s 3 1 = s (1 + 2) 1 from rfl, c.2.1.1]; simp]
    refine iF (nI_ge (by omega) (by omega)) (p_feels c hx (by omega) ?_)
    rw [c.2.2.2.2.1 x hx 0 (by omega)]
    refine c_gives0 (u := 0) v c (by omega) (fun s1 k1 => ?_)
    rw [show nI x * 9 + nI a = nI (x * 9 + a) by rw [show (9 : Int32) = nI 9 from rfl, pk_mul, nI_add], ixn (by omega), nI_1]
    refine ⟨vp_in_nI (by omega) (by omega), fun s2 e2 => ?_⟩
    subst e2
    refine ih (a + 1) _ (by omega) (fun b h1 h2 h3 h4 => (u2_other (by omega)).trans ((k1 b h2 h3).trans (hf b h1 h2 h3 h4))) ?_ (fun j hj2 => ?_) (fun b hb => ?_)
    · rw [u2_other (by omega), k1 75 (by omega) (by omega), h75]
    · rw [u2_ne (by omega), k1 74 (by omega) (by omega)]; exact hj j hj2
    · by_cases q : b = a
      · subst q; rw [u2_same]
      · rw [u2_ne (by omega), k1 74 (by omega) (by omega)]; exact hv b (by omega)
theorem c_use2 {K : Sg → Prop} (v : VB kn th L pk st se tp wt cd) (s0 : Sg) (c0 : CB s0 1 kn th L pk st se z tp wt cd) (h : ∀ t, scr s0 t → UT t kn L.length th cd → UV t kn th cd → K t) : ∀ (m x : Nat) (s : Sg), x + m = kn → scr s0 s → UT s x L.length th cd → UV s x th cd → wThought_learnUses_2 K (m + 1) (nI x) s := by
  have hk := v.1
  have hlen := VB_len v
  intro m
  induction m with
  | zero =>
    intro x s hx hf hu hw
    have c := scr_CB hk c0 hf
    rw [wThought_learnUses_2, c.1.1]
    have : x = kn := by omega
    subst this
    exact iT (Int32.le_refl _) (h s hf hu hw)
  | succ m ih =>
    intro x s hx hf hu hw
    have c := scr_CB hk c0 hf
    rw [wThought_learnUses_2, c.1.1, nI_1]
    refine iF (nI_ge (by omega) (by omega)) ⟨vp_in_nI (by omega) (by omega), ?_⟩
    unfold wBag_usedOf
    rw [t11 (by omega), c.2.2.2.2.1 x (by omega) 0 (by omega), c.2.2.2.2.1 x (by omega) 1 (by omega)]
    refine ⟨vp_in_nI (by omega) (by omega), vp_in_nI (by omega) (by omega), c_gives0 (u := 1) v c (by omega) (fun s1 k1 => ⟨vp_in_nI (by omega) (by omega), fun s2 e2 => ⟨L.length + 1, ?_⟩⟩)⟩
    rw [ixn (by omega)] at e2
    have k2 : scr s0 s2 := fun b h1 h2 h3 h4 => by subst e2; rw [u2_other (by omega), k1 b h2 h3]; exact hf b h1 h2 h3 h4
    refine c_use31 v (by omega) s2 (scr_CB hk c0 k2) (fun s3 k3 h75 hj hv => ih (x + 1) s3 (by omega) (k2.trans k3) (fun y hy a ha => ?_) (fun y hy => ?_)) L.length 0 s2 (by omega) scr.refl rfl (fun _ _ => rfl) (fun b hb => absurd hb (Nat.not_lt_zero b))
    · by_cases q : y = x
      · subst q; exact hv a ha
      · rw [hj _ (by omega)]
        subst e2
        rw [u2_other (by omega), k1 74 (by omega) (by omega)]
        exact hu y (by omega) a ha
    · rw [h75]
      subst e2
      by_cases q : y = x
      · subst q; rw [u2_same]
      · rw [u2_ne (by omega), k1 75 (by omega) (by omega)]
        exact hw y (by omega)
theorem c_uses {K : Sg → Prop} (v : VB kn th L pk st se tp wt cd) (c : CB s 1 kn th L pk st se z tp wt cd) (h : ∀ t, scr s t → UT t kn L.length th cd → UV t kn th cd → K t) : wThought_learnUses s K :=
  ⟨kn + 1, c_use2 v s c h kn 0 s (by omega) scr.refl (fun x hx => absurd hx (Nat.not_lt_zero x)) (fun x hx => absurd hx (Nat.not_lt_zero x))⟩
end OUT
