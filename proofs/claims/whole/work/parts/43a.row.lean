-- PURE: numbers, lists, the class's Row
theorem ixn {n : Nat} (h : n < 2 ^ 31) : ix (nI n) = n := nI_clamp h
theorem ix0 : ix (0 : Int32) = 0 := by decide +kernel
theorem ix1 : ix (1 : Int32) = 1 := by decide +kernel
theorem sel1 {A B : Prop} (h : B) : ((1 : Int32) = 0 → A) ∧ (¬ (1 : Int32) = 0 → B) := ⟨fun z => absurd z (by decide), fun _ => h⟩
theorem sel0 {A B : Prop} (h : A) : ((0 : Int32) = 0 → A) ∧ (¬ (0 : Int32) = 0 → B) := ⟨fun _ => h, fun z => absurd rfl z⟩
theorem les1 {A B : Prop} (h : B) : (¬ (1 : Int32) = 0 → B) ∧ ((1 : Int32) = 0 → A) := ⟨fun _ => h, fun z => absurd z (by decide)⟩
theorem les0 {A B : Prop} (h : A) : (¬ (0 : Int32) = 0 → B) ∧ ((0 : Int32) = 0 → A) := ⟨fun z => absurd rfl z, fun _ => h⟩
theorem iT {c A B : Prop} (h : c) (a : A) : (c → A) ∧ (¬ c → B) := ⟨fun _ => a, fun z => absurd h z⟩
theorem iF {c A B : Prop} (h : ¬ c) (b : B) : (c → A) ∧ (¬ c → B) := ⟨fun z => absurd z h, fun _ => b⟩
theorem jT {c A B : Prop} (h : c) (a : A) : (¬ c → B) ∧ (c → A) := ⟨fun z => absurd h z, fun _ => a⟩
theorem jF {c A B : Prop} (h : ¬ c) (b : B) : (¬ c → B) ∧ (c → A) := ⟨fun _ => b, fun z => absurd z h⟩
theorem z01 : (0 : Int32) = 0 ∨ (0 : Int32) = 1 := Or.inl rfl
theorem z11 : (1 : Int32) = 0 ∨ (1 : Int32) = 1 := Or.inr rfl
theorem nI_inj {a b : Nat} (ha : a < 2 ^ 31) (hb : b < 2 ^ 31) (h : nI a = nI b) : a = b := (nI_eq ha hb).mp h
/-- a number, held against a row's length -/
theorem i_in (a : Int32) {n : Nat} (hn : n < 2 ^ 31) : (∃ i, i < n ∧ a = nI i) ∨ ((a < 0 ∨ nI n ≤ a) ∧ ∀ i, i < n → a ≠ nI i) := by
  rcases pk_ix a hn with h | h | ⟨j, hj, e⟩
  · exact Or.inr ⟨Or.inl h, fun i hi e => nI_pos (n := i) (by omega) (e ▸ h)⟩
  · exact Or.inr ⟨Or.inr h, fun i hi e => nI_ge (a := i) (b := n) hi hn (e ▸ h)⟩
  · exact Or.inl ⟨j, hj, e⟩
theorem IL_at {n : Int32} {g : Nat → Int32} {l : List Int32} (h : IL n g l) {i : Nat} (hi : i < l.length) : g i = l[i] := h.2 i _ (List.getElem?_eq_getElem hi)
theorem IL_of {n : Int32} {g : Nat → Int32} {l : List Int32} (hn : n = nI l.length) (h : ∀ (i : Nat) (hi : i < l.length), g i = l[i]) : IL n g l := ⟨hn, fun i x hx => by
  obtain ⟨hi, e⟩ := List.getElem?_eq_some_iff.mp hx
  rw [h i hi, e]⟩
theorem IL_congr {n n2 : Int32} {g g2 : Nat → Int32} {l : List Int32} (h : IL n g l) (hn : n2 = n) (hg : ∀ i, i < l.length → g2 i = g i) : IL n2 g2 l := ⟨hn.trans h.1, fun i x hx => (hg i (List.getElem?_eq_some_iff.mp hx).1).trans (h.2 i x hx)⟩
theorem IL_nil {n : Int32} {g : Nat → Int32} (hn : n = 0) : IL n g [] := ⟨hn, fun i x h => by simp at h⟩
/-- nothing but these two cells -/
def fr2 (s t : Sg) (k : Nat) : Prop := ∀ a, a ≠ k → a ≠ k + 1 → t a = s a
theorem fr2.refl {s : Sg} {k : Nat} : fr2 s s k := fun _ _ _ => rfl
theorem fr2.trans {s t u : Sg} {k : Nat} (h1 : fr2 s t k) (h2 : fr2 t u k) : fr2 s u k := fun a x y => (h2 a x y).trans (h1 a x y)
abbrev cap (k : Nat) : Nat := ln shC (k + 1)
abbrev RW (s : Sg) (k : Nat) (l : List Int32) : Prop := IL (s k 1) (s (k + 1)) l
theorem vpc {k i : Nat} (h : i < cap k) (hN : cap k < 2 ^ 31) : vp_in (nI i) (ln shC (k + 1)) := vp_in_nI h hN
theorem p_has {k n : Nat} {a : Int32} {s : Sg} {P : Int32 → Sg → Prop} (hn : s k 1 = nI n) (hN : n < 2 ^ 31) (h1 : ∀ i, i < n → a = nI i → P 1 s) (h0 : (∀ i, i < n → a ≠ nI i) → P 0 s) : wRow_has k a s P := by
  unfold wRow_has
  rw [hn]
  rcases i_in a hN with ⟨i, hi, rfl⟩ | ⟨h | h, h2⟩
  · exact iF (nI_pos (by omega)) (iF (nI_ge hi hN) (h1 i hi rfl))
  · exact iT h (h0 h2)
  · exact ⟨fun _ => h0 h2, fun _ => iT h (h0 h2)⟩
theorem p_placeL {k : Nat} {x : Int32} {l : List Int32} {s : Sg} {P : Int32 → Sg → Prop} {K : Sg → Prop} (hl : RW s k l) (hc : l.length ≤ cap k) (hN : cap k < 2 ^ 31) (h1 : ∀ i, l[i]? = some x → (∀ j, j < i → l[j]? ≠ some x) → P (nI i) s) (h0 : x ∉ l → K s) : ∀ (m i : Nat), i + m = l.length → (∀ j, j < i → l[j]? ≠ some x) → wRow_placeOf_2 k x P K (m + 1) (nI i) s := by
  intro m
  induction m with
  | zero =>
    intro i hi hj
    rw [wRow_placeOf_2, hl.1]
    refine iT (nI_le (by omega) (by omega)) (h0 (fun hx => ?_))
    obtain ⟨j, hj2⟩ := List.getElem?_of_mem hx
    exact hj j (by have := (List.getElem?_eq_some_iff.mp hj2).1; omega) hj2
  | succ m ih =>
    intro i hi hj
    have hil : i < l.length := by omega
    rw [wRow_placeOf_2, hl.1]
    refine iF (nI_ge hil (by omega)) ⟨vpc (by omega) hN, ?_⟩
    rw [ixn (by omega), IL_at hl hil]
    by_cases he : l[i] = x
    · exact jT he (h1 i (by rw [List.getElem?_eq_getElem hil, he]) hj)
    · refine jF he ?_
      rw [nI_1]
      refine ih (i + 1) (by omega) (fun j hj2 => ?_)
      rcases Nat.lt_or_ge j i with q | q
      · exact hj j q
      · have : j = i := by omega
        subst this
        rw [List.getElem?_eq_getElem hil]
        simpa using he
theorem p_placeOf {k : Nat} {x : Int32} {l : List Int32} {s : Sg} {P : Int32 → Sg → Prop} (hl : RW s k l) (hc : l.length ≤ cap k) (hN : cap k < 2 ^ 31) (h1 : ∀ i, l[i]? = some x → (∀ j, j < i → l[j]? ≠ some x) → P (nI i) s) (h0 : x ∉ l → P (-1) s) : wRow_placeOf k x s P :=
  ⟨l.length + 1, p_placeL hl hc hN h1 h0 l.length 0 (by omega) (fun j hj => absurd hj (Nat.not_lt_zero j))⟩
theorem p_add {k : Nat} {x : Int32} {l : List Int32} {s : Sg} {P : Sg → Prop} (hl : RW s k l) (hc : l.length < cap k) (hN : cap k < 2 ^ 31) (h : ∀ t, RW t k (l ++ [x]) → fr2 s t k → P t) : wRow_add k x s P := by
  unfold wRow_add
  rw [hl.1]
  refine iF (nI_ge hc hN) ⟨vpc hc hN, fun s1 e1 s2 e2 => ?_⟩
  rw [ixn (by omega)] at e1
  refine h s2 (IL_of ?_ (fun i hi => ?_)) (fun a h1 h2 => ?_)
  · subst e2
    rw [u2_same]
    have : s1 k 1 = s k 1 := by subst e1; exact u2_ne (by omega)
    rw [this, hl.1, nI_1]
    simp
  · subst e2
    rw [u2_ne (by omega)]
    subst e1
    by_cases q : i = l.length
    · subst q
      rw [u2_same]
      simp
    · rw [u2_ne (by omega)]
      have : i < l.length := by simp at hi; omega
      rw [IL_at hl this, List.getElem_append_left this]
  · subst e2; subst e1
    rw [u2_other h1, u2_other h2]
theorem p_addFull {k : Nat} {x : Int32} {l : List Int32} {s : Sg} {P : Sg → Prop} (hl : RW s k l) (hc : l.length = cap k) (hN : cap k < 2 ^ 31) (h : P s) : wRow_add k x s P := by
  unfold wRow_add
  rw [hl.1, hc]
  exact iT (Int32.le_refl _) h
theorem p_addOnTop {k : Nat} {x : Int32} {l : List Int32} {s : Sg} {P : Sg → Prop} (hl : RW s k l) (hc : l.length < cap k) (hN : cap k < 2 ^ 31) (h : ∀ t, RW t k (x :: l) → fr2 s t k → P t) : wRow_addOnTop k x s P := by
  unfold wRow_addOnTop
  rw [hl.1]
  refine iF (nI_ge hc hN) ⟨⟨by decide, by decide, nI_pos (by omega), ?_, ?_⟩, fun s1 e1 => ⟨vpc (i := 0) (by omega) hN, fun s2 e2 s3 e3 => ?_⟩⟩
  · rw [ix0, ixn (by omega)]
    show 0 + l.length ≤ cap k
    omega
  · rw [ix1, ixn (by omega)]
    show 1 + l.length ≤ cap k
    omega
  rw [ix0, ix1, ixn (by omega)] at e1
  rw [ix0] at e2
  refine h s3 (IL_of ?_ (fun i hi => ?_)) (fun a h1 h2 => ?_)
  · subst e3
    rw [u2_same]
    have : s2 k 1 = s k 1 := by
      subst e2; subst e1
      rw [u2_ne (by omega)]
      exact congrFun (c2_other (by omega)) 1
    rw [this, hl.1, nI_1]
    simp
  · subst e3
    rw [u2_ne (by omega)]
    subst e2
    cases i with
    | zero => rw [u2_same]; rfl
    | succ i =>
      rw [u2_ne (by omega)]
      subst e1
      have hi2 : i < l.length := by simp at hi; omega
      rw [c2_row, pk_cpy_in (by omega) (by omega)]
      simp only [Nat.zero_add, Nat.add_sub_cancel]
      rw [IL_at hl hi2]
      rfl
  · subst e3; subst e2; subst e1
    rw [u2_other h1, u2_other h2, c2_other h2]
theorem p_removeAt {k i : Nat} {l : List Int32} {s : Sg} {P : Sg → Prop} (hl : RW s k l) (hc : l.length ≤ cap k) (hN : cap k < 2 ^ 31) (hi : i < l.length) (h : ∀ t, RW t k (l.eraseIdx i) → fr2 s t k → P t) : wRow_removeAt k (nI i) s P := by
  unfold wRow_removeAt
  refine p_has hl.1 (by omega) (fun j hj e => sel1 ?_) (fun hn => absurd rfl (hn i hi))
  have e1 : s k 1 - nI i - 1 = nI (l.length - i - 1) := by
    rw [hl.1, pk_sub (by omega), show (1 : Int32) = nI 1 from rfl, pk_sub (by omega)]
  rw [e1, nI_1]
  refine ⟨⟨nI_pos (by omega), nI_pos (by omega), nI_pos (by omega), ?_, ?_⟩, fun s2 e2 s3 e3 => ?_⟩
  · rw [ixn (by omega), ixn (by omega)]
    show i + 1 + (l.length - i - 1) ≤ cap k
    omega
  · rw [ixn (by omega), ixn (by omega)]
    show i + (l.length - i - 1) ≤ cap k
    omega
  rw [ixn (by omega), ixn (by omega), ixn (by omega)] at e2
  refine h s3 (IL_of ?_ (fun j hj2 => ?_)) (fun a h1 h2 => ?_)
  · subst e3
    rw [u2_same]
    have : s2 k 1 = s k 1 := by subst e2; exact congrFun (c2_other (by omega)) 1
    rw [this, hl.1, show (1 : Int32) = nI 1 from rfl, pk_sub (by omega), List.length_eraseIdx, if_pos hi]
  · subst e3
    rw [u2_ne (by omega)]
    subst e2
    rw [List.length_eraseIdx, if_pos hi] at hj2
    rw [c2_row, List.getElem_eraseIdx]
    by_cases q : j < i
    · rw [pk_cpy_out (by omega), dif_pos q, IL_at hl (by omega)]
    · rw [pk_cpy_in (by omega) (by omega), dif_neg q]
      have e9 : i + 1 + (j - i) = j + 1 := by omega
      rw [e9, IL_at hl (by omega)]
  · subst e3; subst e2
    rw [u2_other h1, c2_other h2]
theorem p_removeNo {k : Nat} {a : Int32} {l : List Int32} {s : Sg} {P : Sg → Prop} (hl : RW s k l) (hc : l.length ≤ cap k) (hN : cap k < 2 ^ 31) (ha : ∀ i, i < l.length → a ≠ nI i) (h : P s) : wRow_removeAt k a s P := by
  unfold wRow_removeAt
  exact p_has hl.1 (by omega) (fun j hj e => absurd e (ha j hj)) (fun _ => sel0 h)
theorem p_exchange {k i j : Nat} {l : List Int32} {s : Sg} {P : Sg → Prop} (hl : RW s k l) (hc : l.length ≤ cap k) (hN : cap k < 2 ^ 31) (hi : i < l.length) (hj : j < l.length) (h : ∀ t, RW t k ((l.set i l[j]).set j l[i]) → fr2 s t k → P t) : wRow_exchange k (nI i) (nI j) s P := by
  unfold wRow_exchange
  refine p_has hl.1 (by omega) (fun _ _ _ => sel1 ?_) (fun hn => absurd rfl (hn i hi))
  refine p_has hl.1 (by omega) (fun _ _ _ => sel1 ?_) (fun hn => absurd rfl (hn j hj))
  refine ⟨vpc (by omega) hN, vpc (by omega) hN, vpc (by omega) hN, fun s3 e3 => ⟨vpc (by omega) hN, fun s4 e4 => ?_⟩⟩
  rw [ixn (by omega), ixn (by omega), IL_at hl hj] at e3
  rw [ixn (by omega), ixn (by omega), IL_at hl hi] at e4
  refine h s4 (IL_of ?_ (fun m hm => ?_)) (fun a h1 h2 => ?_)
  · subst e4; subst e3
    rw [u2_ne (by omega), u2_ne (by omega), hl.1]
    simp
  · subst e4; subst e3
    simp only [List.length_set] at hm
    rw [List.getElem_set, List.getElem_set]
    by_cases q : m = j
    · subst q
      rw [u2_same, if_pos rfl]
    · rw [u2_ne (by omega), if_neg (Ne.symm q)]
      by_cases q2 : m = i
      · subst q2
        rw [u2_same, if_pos rfl]
      · rw [u2_ne (by omega), if_neg (Ne.symm q2), IL_at hl hm]
  · subst e4; subst e3
    rw [u2_other h2, u2_other h2]
/-- a row, the numbers from a on turned over -/
abbrev tov (l : List Int32) (a : Nat) : List Int32 := l.take a ++ (l.drop a).reverse
theorem tov_at {l : List Int32} {a m : Nat} (ha : a ≤ l.length) (hm : m < (tov l a).length) : (tov l a)[m] = if h : m < a then l[m]'(by omega) else l[a + l.length - 1 - m]'(by simp at hm; omega) := by
  have hm2 : m < l.length := by simp at hm; omega
  rw [List.getElem_append]
  split
  · rename_i h
    have : m < a := by simp at h; omega
    rw [dif_pos this, List.getElem_take]
  · rename_i h
    have : ¬ m < a := by simp at h; omega
    rw [dif_neg this, List.getElem_reverse, List.getElem_drop]
    congr 1
    simp
    omega
theorem p_turnL {k a : Nat} {l : List Int32} {K : Sg → Prop} (hc : l.length ≤ cap k) (hN : cap k < 2 ^ 31) (ha : a ≤ l.length) (s0 : Sg) (h : ∀ t, RW t k (tov l a) → fr2 s0 t k → K t) : ∀ (m t : Nat) (lt : List Int32) (s : Sg) (hlen : lt.length = l.length), RW s k lt → fr2 s0 s k → t < l.length → l.length - 1 - t ≤ a + t + m → (∀ (i : Nat) (hi : i < lt.length), lt[i] = if a + t ≤ i ∧ i ≤ l.length - 1 - t then l[i]'(by omega) else if h : i < a then l[i]'(by omega) else l[a + l.length - 1 - i]'(by omega)) → t ≤ l.length - a → wRow_turnOverFrom_9 k K (m + 1) (nI (a + t)) (nI (l.length - 1 - t)) s := by
  intro m
  induction m with
  | zero =>
    intro t lt s hlen hl hf ht hm hp hta
    rw [wRow_turnOverFrom_9]
    refine iT (nI_le (by omega) (by omega)) (h s ?_ hf)
    have e : lt = tov l a := by
      apply List.ext_getElem
      · simp [hlen]; omega
      · intro i h1 h2
        rw [hp i h1, tov_at ha h2]
        by_cases q : a + t ≤ i ∧ i ≤ l.length - 1 - t
        · rw [if_pos q, dif_neg (by omega)]
          congr 1
          omega
        · rw [if_neg q]
    rw [← e]
    exact hl
  | succ m ih =>
    intro t lt s hlen hl hf ht hm hp hta
    rw [wRow_turnOverFrom_9]
    by_cases hq : l.length - 1 - t ≤ a + t
    · refine iT (nI_le (by omega) (by omega)) (h s ?_ hf)
      have e : lt = tov l a := by
        apply List.ext_getElem
        · simp [hlen]; omega
        · intro i h1 h2
          rw [hp i h1, tov_at ha h2]
          by_cases q : a + t ≤ i ∧ i ≤ l.length - 1 - t
          · rw [if_pos q, dif_neg (by omega)]
            congr 1
            omega
          · rw [if_neg q]
      rw [← e]
      exact hl
    · refine iF (nI_ge (by omega) (by omega)) ?_
      refine p_exchange hl (by omega) hN (by omega) (by omega) (fun t2 hl2 hf2 => ?_)
      have e2 : nI (l.length - 1 - t) + (-1) = nI (l.length - 1 - (t + 1)) := by
        rw [show l.length - 1 - t = (l.length - 1 - (t + 1)) + 1 by omega, pk_m1]
      rw [nI_1, e2]
      refine ih (t + 1) _ t2 (by simp [hlen]) hl2 (hf.trans hf2) (by omega) (by omega) (fun i hi => ?_) (by omega)
      simp only [List.length_set] at hi
      rw [List.getElem_set, List.getElem_set]
      by_cases q1 : l.length - 1 - t = i
      · rw [if_pos q1]
        refine (hp (a + t) (by omega)).trans ?_
        rw [if_pos (by omega), if_neg (by omega), dif_neg (by omega)]
        congr 1
        omega
      · rw [if_neg q1]
        by_cases q2 : a + t = i
        · rw [if_pos q2]
          refine (hp (l.length - 1 - t) (by omega)).trans ?_
          rw [if_pos (by omega), if_neg (by omega), dif_neg (by omega)]
          congr 1
          omega
        · rw [if_neg q2, hp i hi]
          by_cases q3 : a + t ≤ i ∧ i ≤ l.length - 1 - t
          · rw [if_pos q3, if_pos (by omega)]
          · rw [if_neg q3, if_neg (by omega)]
theorem p_turn {k a : Nat} {l : List Int32} {s : Sg} {P : Sg → Prop} (hl : RW s k l) (hc : l.length ≤ cap k) (hN : cap k < 2 ^ 31) (ha : a ≤ l.length) (h : ∀ t, RW t k (tov l a) → fr2 s t k → P t) : wRow_turnOverFrom k (nI a) s P := by
  unfold wRow_turnOverFrom
  rw [hl.1]
  rcases Nat.eq_zero_or_pos l.length with q | q
  · have hl0 : l = [] := List.length_eq_zero_iff.mp q
    subst hl0
    have ha0 : a = 0 := by simpa using ha
    subst ha0
    refine ⟨1, ?_⟩
    rw [wRow_turnOverFrom_9]
    exact iT (by decide) (h s hl fr2.refl)
  · have e : nI l.length - 1 = nI (l.length - 1 - 0) := by
      rw [show (1 : Int32) = nI 1 from rfl, pk_sub (by omega)]
      rfl
    rw [e]
    exact ⟨_, p_turnL hc hN ha s h (l.length) 0 l s rfl hl fr2.refl (by omega) (by omega) (fun i hi => by
      by_cases z : a ≤ i
      · rw [if_pos (by omega)]
      · rw [if_neg (by omega), dif_pos (by omega)]) (by omega)⟩
/-- how many agree, from the first on -/
def agr : List Int32 → List Int32 → Nat
  | a :: l, b :: r => if a = b then agr l r + 1 else 0
  | _, _ => 0
theorem p_alikeL {k k1 : Nat} {l r : List Int32} {s : Sg} {K : Int32 → Sg → Prop} (hl : RW s k l) (hr : RW s k1 r) (hc : l.length ≤ cap k) (hc1 : r.length ≤ cap k1) (hN : cap k < 2 ^ 31) (hN1 : cap k1 < 2 ^ 31) (h : K (nI (agr l r)) s) : ∀ (m i : Nat), l.length ≤ i + m → i ≤ l.length → i ≤ r.length → agr l r = i + agr (l.drop i) (r.drop i) → wRow_alikeWith_2 k k1 K (m + 1) (nI i) s := by
  intro m
  induction m with
  | zero =>
    intro i hm hi hir ha
    rw [wRow_alikeWith_2, hl.1]
    refine iT (nI_le (by omega) (by omega)) ?_
    have e : l.drop i = [] := List.drop_eq_nil_iff.mpr (by omega)
    rw [e] at ha
    rw [show i = agr l r by rw [ha]; simp [agr]]
    exact h
  | succ m ih =>
    intro i hm hi hir ha
    rw [wRow_alikeWith_2, hl.1, hr.1]
    by_cases q : l.length ≤ i
    · refine iT (nI_le q (by omega)) ?_
      have e : l.drop i = [] := List.drop_eq_nil_iff.mpr (by omega)
      rw [e] at ha
      rw [show i = agr l r by rw [ha]; simp [agr]]
      exact h
    · refine iF (nI_ge (by omega) (by omega)) ?_
      by_cases q2 : r.length ≤ i
      · refine iT (nI_le q2 (by omega)) ?_
        have e : r.drop i = [] := List.drop_eq_nil_iff.mpr (by omega)
        rw [e] at ha
        rw [show i = agr l r by rw [ha]; cases l.drop i <;> simp [agr]]
        exact h
      · refine iF (nI_ge (by omega) (by omega)) ⟨vpc (by omega) hN, vpc (by omega) hN1, ?_⟩
        rw [ixn (by omega), IL_at hl (by omega), IL_at hr (by omega)]
        have el : l.drop i = l[i]'(by omega) :: l.drop (i + 1) := List.drop_eq_getElem_cons (by omega)
        have er : r.drop i = r[i]'(by omega) :: r.drop (i + 1) := List.drop_eq_getElem_cons (by omega)
        rw [el, er, agr] at ha
        by_cases q3 : l[i]'(by omega) = r[i]'(by omega)
        · refine jT q3 ?_
          rw [if_pos q3] at ha
          rw [nI_1]
          exact ih (i + 1) (by omega) (by omega) (by omega) (by omega)
        · refine jF q3 ?_
          rw [if_neg q3] at ha
          rw [show i = agr l r by omega]
          exact h
theorem p_alike {k k1 : Nat} {l r : List Int32} {s : Sg} {P : Int32 → Sg → Prop} (hl : RW s k l) (hr : RW s k1 r) (hc : l.length ≤ cap k) (hc1 : r.length ≤ cap k1) (hN : cap k < 2 ^ 31) (hN1 : cap k1 < 2 ^ 31) (h : P (nI (agr l r)) s) : wRow_alikeWith k k1 s P :=
  ⟨_, p_alikeL (K := fun v s => P v s) hl hr hc hc1 hN hN1 h l.length 0 (by omega) (by omega) (by omega) (by simp)⟩
theorem p_copy {k k1 : Nat} {l : List Int32} {s : Sg} {P : Sg → Prop} (hl : RW s k1 l) (hc : l.length ≤ cap k) (hc1 : l.length ≤ cap k1) (hN : cap k < 2 ^ 31) (hne : k ≠ k1 + 1) (h : ∀ t, RW t k l → fr2 s t k → P t) : wRow_copy k k1 s P := by
  unfold wRow_copy
  rw [hl.1]
  intro x1 e1
  have e2 : x1 = nI l.length := by
    rw [e1]
    split
    · rename_i z
      have := (nI_ltI (a := cap k) (b := l.length) (by omega) (by omega)).mp z
      omega
    · rfl
  subst e2
  refine ⟨⟨by decide, by decide, nI_pos (by omega), ?_, ?_⟩, fun s1 e3 s2 e4 => ?_⟩
  · rw [ix0, ixn (by omega)]
    show 0 + l.length ≤ cap k1
    omega
  · rw [ix0, ixn (by omega)]
    show 0 + l.length ≤ cap k
    omega
  rw [ix0, ixn (by omega)] at e3
  refine h s2 (IL_of ?_ (fun i hi => ?_)) (fun a h1 h2 => ?_)
  · subst e4
    rw [u2_same]
  · subst e4; subst e3
    rw [u2_ne (by omega), c2_row, pk_cpy_in (by omega) (by omega)]
    simp only [Nat.zero_add, Nat.sub_zero]
    exact IL_at hl hi
  · subst e4; subst e3
    rw [u2_other h1, c2_other h2]
theorem p_hasRun {k n : Nat} {a b : Int32} {s : Sg} {P : Int32 → Sg → Prop} (hn : s k 1 = nI n) (hN : n < 2 ^ 30) (h1 : ∀ i j, i + j ≤ n → a = nI i → b = nI j → P 1 s) (h0 : ¬ (0 ≤ a.toInt ∧ 0 ≤ b.toInt ∧ a.toInt + b.toInt ≤ n) → P 0 s) : wRow_hasRun k a b s P := by
  unfold wRow_hasRun
  rw [hn]
  rcases pk_ix a (n := n + 1) (by omega) with q | q | ⟨i, hi, rfl⟩
  · refine iT q (h0 (fun z => ?_))
    have := Int32.lt_iff_toInt_lt.mp q
    simp at this
    omega
  · have q2 := Int32.le_iff_toInt_le.mp q
    rw [nI_toInt (by omega)] at q2
    have a0 : ¬ a < 0 := by
      rw [Int32.lt_iff_toInt_lt]
      simp
      omega
    refine iF a0 ⟨fun _ => h0 (fun z => by omega), fun _ => iT ?_ (h0 (fun z => by omega))⟩
    rw [Int32.lt_iff_toInt_lt, nI_toInt (by omega)]
    omega
  · refine iF (nI_pos (by omega)) ?_
    rcases pk_ix b (n := n + 1) (by omega) with q | q | ⟨j, hj, rfl⟩
    · refine iT q (h0 (fun z => ?_))
      have := Int32.lt_iff_toInt_lt.mp q
      simp at this
      omega
    · have q2 := Int32.le_iff_toInt_le.mp q
      rw [nI_toInt (by omega)] at q2
      have b0 : ¬ b < 0 := by
        rw [Int32.lt_iff_toInt_lt]
        simp
        omega
      have bad : ¬ (0 ≤ (nI i).toInt ∧ 0 ≤ b.toInt ∧ (nI i).toInt + b.toInt ≤ n) := by
        rw [nI_toInt (by omega)]
        omega
      refine iF b0 (iF (nI_nlt (by omega) (by omega)) (iT ?_ (h0 bad)))
      rw [pk_sub (by omega), Int32.lt_iff_toInt_lt, nI_toInt (by omega)]
      omega
    · refine iF (nI_pos (by omega)) (iF (nI_nlt (by omega) (by omega)) ?_)
      rw [pk_sub (by omega)]
      by_cases z : n - i < j
      · refine iT (nI_lt z (by omega)) (h0 ?_)
        rw [nI_toInt (by omega), nI_toInt (by omega)]
        omega
      · exact iF (nI_nlt (by omega) (by omega)) (h1 i j (by omega) rfl rfl)
