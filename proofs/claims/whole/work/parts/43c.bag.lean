-- PURE: parts of the bag, changed one by one; where a thing is
theorem mapget {L : List Nat} {i x kn : Nat} (hL : ∀ y ∈ L, y < kn) (hk : kn ≤ 9) (hx : x < 2 ^ 31) : (L.map nI)[i]? = some (nI x) ↔ L[i]? = some x := by
  rw [List.getElem?_map]
  constructor
  · intro h
    cases hy : L[i]? with
    | none => rw [hy] at h; cases h
    | some y =>
      rw [hy] at h
      have h2 : nI y = nI x := Option.some.inj h
      have h3 := hL y (List.mem_of_getElem? hy)
      rw [nI_inj (by omega) hx h2]
  · intro h
    rw [h]
    rfl
theorem mapmem {L : List Nat} {x kn : Nat} (hL : ∀ y ∈ L, y < kn) (hk : kn ≤ 9) (hx : x < 2 ^ 31) : nI x ∈ L.map nI ↔ x ∈ L := by
  rw [List.mem_iff_getElem?, List.mem_iff_getElem?]
  constructor
  · rintro ⟨i, h⟩; exact ⟨i, (mapget hL hk hx).mp h⟩
  · rintro ⟨i, h⟩; exact ⟨i, (mapget hL hk hx).mpr h⟩
theorem pkv_eq {pk : Option Nat} {x : Nat} (hx : x < 2 ^ 31) (hp : ∀ y, pk = some y → y < 2 ^ 31) : pkv pk = nI x ↔ pk = some x := by
  cases pk with
  | none =>
    constructor
    · intro h
      have : (pkv none).toInt = -1 := by decide
      rw [h, nI_toInt hx] at this
      omega
    · intro h; cases h
  | some y =>
    constructor
    · intro h
      rw [nI_inj (hp y rfl) hx h]
    · intro h; cases h; rfl
theorem pkv_m1 {pk : Option Nat} (hp : ∀ y, pk = some y → y < 2 ^ 31) : pkv pk = -1 ↔ pk = none := by
  cases pk with
  | none => exact ⟨fun _ => rfl, fun _ => rfl⟩
  | some y =>
    constructor
    · intro h
      have : ((-1 : Int32)).toInt = -1 := by decide
      rw [← h, show pkv (some y) = nI y from rfl, nI_toInt (hp y rfl)] at this
      omega
    · intro h; cases h
theorem nd_idx {α : Type} : ∀ (L : List α), L.Nodup → ∀ (i j : Nat) (x : α), L[i]? = some x → L[j]? = some x → i = j := by
  intro L
  induction L with
  | nil => intro _ i j x h; simp at h
  | cons a L ih =>
    intro hn i j x h1 h2
    have hn2 := List.nodup_cons.mp hn
    cases i with
    | zero =>
      cases j with
      | zero => rfl
      | succ j =>
        simp at h1 h2
        subst h1
        exact absurd (List.mem_of_getElem? h2) hn2.1
    | succ i =>
      cases j with
      | zero =>
        simp at h1 h2
        subst h2
        exact absurd (List.mem_of_getElem? h1) hn2.1
      | succ j =>
        simp at h1 h2
        rw [ih hn2.2 i j x h1 h2]
theorem er_map : ∀ (L : List Nat) (i : Nat), (L.map nI).eraseIdx i = (L.eraseIdx i).map nI := by
  intro L
  induction L with
  | nil => intro i; rfl
  | cons a L ih =>
    intro i
    cases i with
    | zero => rfl
    | succ i => simp [ih]
theorem nn1 {i : Nat} (h : i < 2 ^ 31) : ¬ nI i = -1 := fun e => by
  have := congrArg Int32.toInt e
  rw [nI_toInt h] at this
  have e2 : (-1 : Int32).toInt = -1 := by decide
  omega
theorem nn2 {i : Nat} (h : i < 2 ^ 31) : ¬ nI i = -2 := fun e => by
  have := congrArg Int32.toInt e
  rw [nI_toInt h] at this
  have e2 : (-2 : Int32).toInt = -2 := by decide
  omega
section BAG
variable {s t : Sg} {b kn : Nat} {th : Nat → Nat → Nat} {L L2 : List Nat} {pk pk2 : Option Nat} {st se : Nat} {z : Int32} {tp : List Nat} {wt : List Int32} {cd : Nat → List Int32} {f g : Nat → Int32}
theorem VB_len (v : VB kn th L pk st se tp wt cd) : L.length ≤ kn := by
  obtain ⟨h1, ⟨h2, h3⟩, -⟩ := v
  have := List.Nodup.length_le_of_subset (l₁ := L) (l₂ := List.range kn) h2 (fun x hx => List.mem_range.mpr (h3 x hx))
  simpa using this
theorem CB_order (h : CB s b kn th L pk st se z tp wt cd) (hk : kn ≤ 9) (hf : ∀ a, b ≤ a → a < b + 31 → a ≠ b + 2 → a ≠ b + 3 → t a = s a) (ho : IL (t (b + 2) 1) (t (b + 3)) (L2.map nI)) : CB t b kn th L2 pk st se z tp wt cd := by
  obtain ⟨⟨a1, a2, a3, a4, a5⟩, o, tpe, w, thg, tx⟩ := h
  refine ⟨?_, ho, ?_, ?_, fun x hx j hj => ?_, fun u hu => ?_⟩
  · rw [hf b (by omega) (by omega) (by omega) (by omega)]; exact ⟨a1, a2, a3, a4, a5⟩
  · rw [hf (b + 4) (by omega) (by omega) (by omega) (by omega), hf (b + 5) (by omega) (by omega) (by omega) (by omega)]; exact tpe
  · rw [hf (b + 7) (by omega) (by omega) (by omega) (by omega), hf (b + 8) (by omega) (by omega) (by omega) (by omega)]; exact w
  · rw [hf (b + 10 + x) (by omega) (by omega) (by omega) (by omega)]; exact thg x hx j hj
  · rw [hf (b + 20 + 6 * u) (by omega) (by omega) (by omega) (by omega), hf (b + 21 + 6 * u) (by omega) (by omega) (by omega) (by omega)]; exact tx u hu
theorem MB_order (h : MB f kn th L pk st se z tp wt cd) (hk : kn ≤ 9) (hf : ∀ i, i ≠ 3 → (i < 8 ∨ 17 ≤ i) → g i = f i) (ho : IL (g 3) (fun i => g (8 + i)) (L2.map nI)) : MB g kn th L2 pk st se z tp wt cd := by
  obtain ⟨⟨a1, a2, a3, a4, a5⟩, o, tpe, w, thg, tx⟩ := h
  refine ⟨?_, ho, ?_, ?_, fun x hx j hj => ?_, fun u hu => ?_⟩
  · rw [hf 2 (by omega) (by omega), hf 4 (by omega) (by omega), hf 0 (by omega) (by omega), hf 1 (by omega) (by omega), hf 7 (by omega) (by omega)]; exact ⟨a1, a2, a3, a4, a5⟩
  · exact IL_congr tpe (hf 5 (by omega) (by omega)) (fun i hi => hf (53 + i) (by omega) (by omega))
  · exact IL_congr w (hf 6 (by omega) (by omega)) (fun i hi => hf (113 + i) (by omega) (by omega))
  · rw [hf (17 + 4 * x + j) (by omega) (by omega)]; exact thg x hx j hj
  · refine ⟨by rw [hf (137 + 121 * u) (by omega) (by omega)]; exact (tx u hu).1, fun i c hc => ?_⟩
    rw [hf (138 + 121 * u + i) (by omega) (by omega), hf (198 + 121 * u + i) (by omega) (by omega)]
    exact (tx u hu).2 i c hc
/-- the bag's own places -/
theorem CB_own {st2 se2 : Nat} {z2 : Int32} (h : CB s b kn th L pk st se z tp wt cd) (hk : kn ≤ 9) (hf : ∀ a, b ≤ a → a < b + 31 → a ≠ b → t a = s a) (h1 : t b 1 = nI kn) (h3 : t b 3 = pkv pk2) (h4 : t b 4 = nI st2) (h5 : t b 5 = nI se2) (h6 : t b 6 = z2) : CB t b kn th L pk2 st2 se2 z2 tp wt cd := by
  obtain ⟨-, o, tpe, w, thg, tx⟩ := h
  refine ⟨⟨h1, h3, h4, h5, h6⟩, ?_, ?_, ?_, fun x hx j hj => ?_, fun u hu => ?_⟩
  · rw [hf (b + 2) (by omega) (by omega) (by omega), hf (b + 3) (by omega) (by omega) (by omega)]; exact o
  · rw [hf (b + 4) (by omega) (by omega) (by omega), hf (b + 5) (by omega) (by omega) (by omega)]; exact tpe
  · rw [hf (b + 7) (by omega) (by omega) (by omega), hf (b + 8) (by omega) (by omega) (by omega)]; exact w
  · rw [hf (b + 10 + x) (by omega) (by omega) (by omega)]; exact thg x hx j hj
  · rw [hf (b + 20 + 6 * u) (by omega) (by omega) (by omega), hf (b + 21 + 6 * u) (by omega) (by omega) (by omega)]; exact tx u hu
theorem CB_pk (h : CB s b kn th L pk st se z tp wt cd) (hk : kn ≤ 9) : CB (u2 s b 3 (pkv pk2)) b kn th L pk2 st se z tp wt cd := by
  obtain ⟨a1, a2, a3, a4, a5⟩ := h.1
  exact CB_own h hk (fun a _ _ ha => u2_other ha) (by rw [u2_ne (by omega)]; exact a1) u2_same (by rw [u2_ne (by omega)]; exact a3) (by rw [u2_ne (by omega)]; exact a4) (by rw [u2_ne (by omega)]; exact a5)
theorem CB_st {st2 : Nat} (h : CB s b kn th L pk st se z tp wt cd) (hk : kn ≤ 9) : CB (u2 s b 4 (nI st2)) b kn th L pk st2 se z tp wt cd := by
  obtain ⟨a1, a2, a3, a4, a5⟩ := h.1
  exact CB_own h hk (fun a _ _ ha => u2_other ha) (by rw [u2_ne (by omega)]; exact a1) (by rw [u2_ne (by omega)]; exact a2) u2_same (by rw [u2_ne (by omega)]; exact a4) (by rw [u2_ne (by omega)]; exact a5)
theorem CB_se {se2 : Nat} (h : CB s b kn th L pk st se z tp wt cd) (hk : kn ≤ 9) : CB (u2 s b 5 (nI se2)) b kn th L pk st se2 z tp wt cd := by
  obtain ⟨a1, a2, a3, a4, a5⟩ := h.1
  exact CB_own h hk (fun a _ _ ha => u2_other ha) (by rw [u2_ne (by omega)]; exact a1) (by rw [u2_ne (by omega)]; exact a2) (by rw [u2_ne (by omega)]; exact a3) u2_same (by rw [u2_ne (by omega)]; exact a5)
theorem CB_z {z2 : Int32} (h : CB s b kn th L pk st se z tp wt cd) (hk : kn ≤ 9) : CB (u2 s b 6 z2) b kn th L pk st se z2 tp wt cd := by
  obtain ⟨a1, a2, a3, a4, a5⟩ := h.1
  exact CB_own h hk (fun a _ _ ha => u2_other ha) (by rw [u2_ne (by omega)]; exact a1) (by rw [u2_ne (by omega)]; exact a2) (by rw [u2_ne (by omega)]; exact a3) (by rw [u2_ne (by omega)]; exact a4) u2_same
theorem MB_own {st2 se2 : Nat} {z2 : Int32} (h : MB f kn th L pk st se z tp wt cd) (hk : kn ≤ 9) (hf : ∀ i, i ≠ 0 → i ≠ 1 → i ≠ 4 → i ≠ 7 → g i = f i) (h3 : g 4 = pkv pk2) (h4 : g 0 = nI st2) (h5 : g 1 = nI se2) (h6 : g 7 = z2) : MB g kn th L pk2 st2 se2 z2 tp wt cd := by
  obtain ⟨⟨a1, -⟩, o, tpe, w, thg, tx⟩ := h
  refine ⟨⟨by rw [hf 2 (by omega) (by omega) (by omega) (by omega)]; exact a1, h3, h4, h5, h6⟩, ?_, ?_, ?_, fun x hx j hj => ?_, fun u hu => ?_⟩
  · exact IL_congr o (hf 3 (by omega) (by omega) (by omega) (by omega)) (fun i hi => hf (8 + i) (by omega) (by omega) (by omega) (by omega))
  · exact IL_congr tpe (hf 5 (by omega) (by omega) (by omega) (by omega)) (fun i hi => hf (53 + i) (by omega) (by omega) (by omega) (by omega))
  · exact IL_congr w (hf 6 (by omega) (by omega) (by omega) (by omega)) (fun i hi => hf (113 + i) (by omega) (by omega) (by omega) (by omega))
  · rw [hf (17 + 4 * x + j) (by omega) (by omega) (by omega) (by omega)]; exact thg x hx j hj
  · refine ⟨by rw [hf (137 + 121 * u) (by omega) (by omega) (by omega) (by omega)]; exact (tx u hu).1, fun i c hc => ?_⟩
    rw [hf (138 + 121 * u + i) (by omega) (by omega) (by omega) (by omega), hf (198 + 121 * u + i) (by omega) (by omega) (by omega) (by omega)]
    exact (tx u hu).2 i c hc
theorem MB_pk (h : MB (s 1) kn th L pk st se z tp wt cd) (hk : kn ≤ 9) : MB (u2 s 1 4 (pkv pk2) 1) kn th L pk2 st se z tp wt cd := by
  obtain ⟨a1, a2, a3, a4, a5⟩ := h.1
  exact MB_own h hk (fun i _ _ h4 _ => u2_ne (by omega)) u2_same (by rw [u2_ne (by omega)]; exact a3) (by rw [u2_ne (by omega)]; exact a4) (by rw [u2_ne (by omega)]; exact a5)
theorem MB_st {st2 : Nat} (h : MB (s 1) kn th L pk st se z tp wt cd) (hk : kn ≤ 9) : MB (u2 s 1 0 (nI st2) 1) kn th L pk st2 se z tp wt cd := by
  obtain ⟨a1, a2, a3, a4, a5⟩ := h.1
  exact MB_own h hk (fun i h0 _ h4 _ => u2_ne (by omega)) (by rw [u2_ne (by omega)]; exact a2) u2_same (by rw [u2_ne (by omega)]; exact a4) (by rw [u2_ne (by omega)]; exact a5)
theorem MB_se {se2 : Nat} (h : MB (s 1) kn th L pk st se z tp wt cd) (hk : kn ≤ 9) : MB (u2 s 1 1 (nI se2) 1) kn th L pk st se2 z tp wt cd := by
  obtain ⟨a1, a2, a3, a4, a5⟩ := h.1
  exact MB_own h hk (fun i h0 h1 h4 _ => u2_ne (by omega)) (by rw [u2_ne (by omega)]; exact a2) (by rw [u2_ne (by omega)]; exact a3) u2_same (by rw [u2_ne (by omega)]; exact a5)
theorem MB_z {z2 : Int32} (h : MB (s 1) kn th L pk st se z tp wt cd) (hk : kn ≤ 9) : MB (u2 s 1 7 z2 1) kn th L pk st se z2 tp wt cd := by
  obtain ⟨a1, a2, a3, a4, a5⟩ := h.1
  exact MB_own h hk (fun i h0 h1 h4 h7 => u2_ne (by omega)) (by rw [u2_ne (by omega)]; exact a2) (by rw [u2_ne (by omega)]; exact a3) (by rw [u2_ne (by omega)]; exact a4) u2_same
def thU (th : Nat → Nat → Nat) (x j v : Nat) : Nat → Nat → Nat := fun a c => if a = x ∧ c = j then v else th a c
theorem CB_th {x j v : Nat} (h : CB s b kn th L pk st se z tp wt cd) (hk : kn ≤ 9) (hx : x < 9) (hj : j < 4) : CB (u2 s (b + 10 + x) j (nI v)) b kn (thU th x j v) L pk st se z tp wt cd := by
  obtain ⟨⟨a1, a2, a3, a4, a5⟩, o, tpe, w, thg, tx⟩ := h
  have hf : ∀ a, a ≠ b + 10 + x → u2 s (b + 10 + x) j (nI v) a = s a := fun a ha => u2_other ha
  refine ⟨?_, ?_, ?_, ?_, fun y hy i hi => ?_, fun u hu => ?_⟩
  · rw [hf b (by omega)]; exact ⟨a1, a2, a3, a4, a5⟩
  · rw [hf (b + 2) (by omega), hf (b + 3) (by omega)]; exact o
  · rw [hf (b + 4) (by omega), hf (b + 5) (by omega)]; exact tpe
  · rw [hf (b + 7) (by omega), hf (b + 8) (by omega)]; exact w
  · unfold thU
    by_cases q : y = x ∧ i = j
    · obtain ⟨rfl, rfl⟩ := q
      rw [u2_same, if_pos ⟨rfl, rfl⟩]
    · rw [u2_ne (by omega), if_neg q]; exact thg y hy i hi
  · rw [hf (b + 20 + 6 * u) (by omega), hf (b + 21 + 6 * u) (by omega)]; exact tx u hu
theorem MB_th {x j v : Nat} (h : MB (s 1) kn th L pk st se z tp wt cd) (hk : kn ≤ 9) (hx : x < 9) (hj : j < 4) (hl : L.length ≤ 9) : MB (u2 s 1 (17 + 4 * x + j) (nI v) 1) kn (thU th x j v) L pk st se z tp wt cd := by
  obtain ⟨⟨a1, a2, a3, a4, a5⟩, o, tpe, w, thg, tx⟩ := h
  have hf : ∀ i, i ≠ 17 + 4 * x + j → u2 s 1 (17 + 4 * x + j) (nI v) 1 i = s 1 i := fun i hi => u2_ne (by omega)
  refine ⟨?_, ?_, ?_, ?_, fun y hy i hi => ?_, fun u hu => ?_⟩
  · rw [hf 2 (by omega), hf 4 (by omega), hf 0 (by omega), hf 1 (by omega), hf 7 (by omega)]; exact ⟨a1, a2, a3, a4, a5⟩
  · exact IL_congr o (hf 3 (by omega)) (fun i hi => hf (8 + i) (by simp at hi; omega))
  · exact IL_congr tpe (hf 5 (by omega)) (fun i hi => hf (53 + i) (by omega))
  · exact IL_congr w (hf 6 (by omega)) (fun i hi => hf (113 + i) (by omega))
  · unfold thU
    by_cases q : y = x ∧ i = j
    · obtain ⟨rfl, rfl⟩ := q
      rw [u2_same, if_pos ⟨rfl, rfl⟩]
    · rw [hf _ (by omega), if_neg q]; exact thg y hy i hi
  · refine ⟨by rw [hf (137 + 121 * u) (by omega)]; exact (tx u hu).1, fun i c hc => ?_⟩
    rw [hf (138 + 121 * u + i) (by omega), hf (198 + 121 * u + i) (by omega)]
    exact (tx u hu).2 i c hc
-- where it is
theorem cp3 : cap 3 = 9 := by decide +kernel
theorem cap9 : cap 3 < 2 ^ 31 := by rw [cp3]; omega
theorem c_where {x : Nat} {P : Int32 → Sg → Prop} (h : CB s 1 kn th L pk st se z tp wt cd) (v : VB kn th L pk st se tp wt cd) (hx : x < 2 ^ 31) (h1 : ∀ i, L[i]? = some x → P (nI i) s) (h2 : x ∉ L → pk = some x → P (-1) s) (h3 : x ∉ L → pk ≠ some x → P (-2) s) : wBag_whereIs (nI x) s P := by
  unfold wBag_whereIs
  have hlen := VB_len v
  have hk := v.1
  refine p_placeOf (l := L.map nI) h.2.1 (by rw [cp3]; simp; omega) cap9 (fun i hi _ => ?_) (fun hn => ?_)
  · have hi2 := (mapget v.2.1.2 hk hx).mp hi
    have hil := (List.getElem?_eq_some_iff.mp hi2).1
    exact iF (nI_pos (by omega)) (h1 i hi2)
  · have hn2 : x ∉ L := fun q => hn ((mapmem v.2.1.2 hk hx).mpr q)
    refine iT (by decide) ?_
    rw [h.1.2.1]
    by_cases q : pk = some x
    · exact jT ((pkv_eq hx (fun y hy => by have := (v.2.2.1 y hy).1; omega)).mpr q) (h2 hn2 q)
    · exact jF (fun e => q ((pkv_eq hx (fun y hy => by have := (v.2.2.1 y hy).1; omega)).mp e)) (h3 hn2 q)
theorem m_where {x : Nat} {P : Int32 → Sg → Prop} (h : MB (s 1) kn th L pk st se z tp wt cd) (v : VB kn th L pk st se tp wt cd) (hx : x < 2 ^ 31) (h1 : ∀ i, L[i]? = some x → P (nI i) s) (h2 : x ∉ L → pk = some x → P (-1) s) (h3 : x ∉ L → pk ≠ some x → P (-2) s) : wM_whereIs (nI x) s P := by
  unfold wM_whereIs
  have hlen := VB_len v
  have hk := v.1
  refine ⟨_, m_whereL (l := L.map nI) (K := fun s1 => (¬ s1 1 4 = nI x → P (-2) s1) ∧ (s1 1 4 = nI x → P (-1) s1)) h.2.1 (by simp; omega) (fun i hi _ => h1 i ((mapget v.2.1.2 hk hx).mp hi)) (fun hn => ?_) (L.map nI).length 0 (by omega) (fun j hj => absurd hj (Nat.not_lt_zero j))⟩
  have hn2 : x ∉ L := fun q => hn ((mapmem v.2.1.2 hk hx).mpr q)
  rw [h.1.2.1]
  by_cases q : pk = some x
  · exact jT ((pkv_eq hx (fun y hy => by have := (v.2.2.1 y hy).1; omega)).mpr q) (h2 hn2 q)
  · exact jF (fun e => q ((pkv_eq hx (fun y hy => by have := (v.2.2.1 y hy).1; omega)).mp e)) (h3 hn2 q)
end BAG
