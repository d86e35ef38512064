-- PURE: out, the class's time without some things
theorem bit1 {M t : Nat} (hM : M < 65536) (ht : t < 32) : (((nI M).toUInt32 >>> ((nI t).toUInt32 &&& Int32.toUInt32 31)).toInt32 &&& 1) = nI ((M >>> t) &&& 1) := by
  have hs : ∀ t : Nat, t < 32 → (((nI t).toUInt32 &&& Int32.toUInt32 31).toBitVec % 32).toNat = t := by decide +kernel
  have hlt : M / 2 ^ t ≤ M := Nat.div_le_self M (2 ^ t)
  rw [pk_ushrN (by omega) (nI t) t (hs t ht), pk_andN (by omega) 1 (by decide), Nat.shiftRight_eq_div_pow, Nat.and_one_is_mod]
theorem bit1_0 {M t : Nat} (hM : M < 65536) (ht : t < 32) : (((nI M).toUInt32 >>> ((nI t).toUInt32 &&& Int32.toUInt32 31)).toInt32 &&& 1) = 0 ↔ out? M t = false := by
  rw [bit1 hM ht]
  have hl : (M >>> t) &&& 1 < 2 := by rw [Nat.and_one_is_mod]; omega
  unfold out?
  constructor
  · intro h
    have := nI_inj (b := 0) (by omega) (by omega) h
    simp [this]
  · intro h
    have : (M >>> t) &&& 1 = 0 := by simpa using h
    rw [this]
    rfl
section OUT2
variable {s t : Sg} {kn : Nat} {th : Nat → Nat → Nat} {L : List Nat} {pk : Option Nat} {st se : Nat} {z : Int32} {tp : List Nat} {wt : List Int32} {cd : Nat → List Int32}
theorem p_withoutL {x M : Nat} {P : Int32 → Sg → Prop} {K : Int32 → Sg → Prop} (v : VB kn th L pk st se tp wt cd) (c : CB s 1 kn th L pk st se z tp wt cd) (u : UT s kn L.length th cd) (hM : M < 65536) (hx : x < kn) (R : Int32) (h1 : P R s) (h0 : K R s) : ∀ (r : List Nat) (i a : Nat) (acc : Int32), i + r.length = L.length → a ≤ i → (∀ (j : Nat) (hj : j < r.length), L[i + j]? = some r[j]) → twl th cd x M r a acc = R → wThought_timeWithout_9 3 (nI x) (nI M) P K (r.length + 1) (nI a) acc (nI i) s := by
  have hk := v.1
  have hlen := VB_len v
  have e3 : s 3 1 = nI L.length := by rw [show s 3 1 = s (1 + 2) 1 from rfl, c.2.1.1]; simp
  intro r
  induction r with
  | nil =>
    intro i a acc hi ha hr e
    rw [wThought_timeWithout_9, e3]
    rw [twl] at e
    subst e
    exact iT (nI_le (by simp at hi; omega) (by simp at hi; omega)) h0
  | cons y r ih =>
    intro i a acc hi ha hr e
    simp at hi
    have h0' := hr 0 (by simp)
    simp at h0'
    have hy : y < kn := v.2.1.2 y (List.mem_of_getElem? h0')
    have e4 : s (3 + 1) (ix (nI i)) = nI y := by
      rw [ixn (by omega)]
      exact c.2.1.2 i (nI y) (by simp [h0'])
    have hr2 : ∀ (j : Nat) (hj : j < r.length), L[i + 1 + j]? = some r[j] := fun j hj => by
      have := hr (j + 1) (by simpa using hj)
      rw [show i + 1 + j = i + (j + 1) by omega]
      simpa using this
    rw [wThought_timeWithout_9, e3, e4, show nI y * 9 + nI a = nI (y * 9 + a) by rw [show (9 : Int32) = nI 9 from rfl, pk_mul, nI_add], ixn (by omega), u y hy a (by omega), nI_1, nI_1]
    rw [twl] at e
    refine iF (nI_ge (by omega) (by omega)) ⟨by rw [show ln shC (3 + 1) = 9 from cp3]; exact vp_in_nI (by omega) (by omega), fun q => ?_, fun q => ?_⟩
    · have qo : out? M y = true := by
        cases hq : out? M y with
        | true => rfl
        | false => exact absurd ((bit1_0 hM (by omega)).mpr hq) q
      rw [if_pos qo] at e
      refine ⟨fun q2 => ?_, fun q2 => ?_⟩
      · rw [if_neg (fun e2 => q2 (by rw [e2]))] at e
        exact ih (i + 1) a acc (by omega) (by omega) hr2 e
      · rw [if_pos (nI_inj (by omega) (by omega) q2)] at e
        subst e
        exact h1
    · have qo : out? M y = false := (bit1_0 hM (by omega)).mp q
      rw [if_neg (by rw [qo]; decide)] at e
      refine ⟨vp_in_nI (by omega) (by omega), fun x1 ex => ⟨fun q2 => ?_, fun q2 => ?_⟩⟩
      · rw [if_neg (fun e2 => q2 (by rw [e2]))] at e
        subst ex
        exact ih (i + 1) (a + 1) _ (by omega) (by omega) hr2 e
      · rw [if_pos (nI_inj (by omega) (by omega) q2)] at e
        subst ex
        subst e
        exact h1
theorem p_without {x M : Nat} {P : Int32 → Sg → Prop} (v : VB kn th L pk st se tp wt cd) (c : CB s 1 kn th L pk st se z tp wt cd) (u : UT s kn L.length th cd) (hM : M < 65536) (hx : x < kn) (h : P (twl th cd x M L 0 0) s) : wThought_timeWithout 3 (nI x) (nI M) s P :=
  ⟨L.length + 1, p_withoutL v c u hM hx (twl th cd x M L 0 0) h h L 0 0 0 (by omega) (by omega) (fun j hj => by rw [Nat.zero_add]; exact List.getElem?_eq_getElem hj) rfl⟩
end OUT2
