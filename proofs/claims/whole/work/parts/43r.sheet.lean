-- PURE: sheets; judge, weights, put
theorem p_shT {n : Nat} {s : Sg} {P : Int32 → Sg → Prop} (h : n < 4) (k : P 1 s) : wB_isSheet (nI n) s P :=
  iF (nI_pos (by omega)) (iF (nI_ge (a := n) (b := 4) h (by omega)) k)
theorem p_shF {a : Int32} {s : Sg} {P : Int32 → Sg → Prop} (h : ¬ (((0 : Nat) : Int) ≤ a.toInt ∧ a.toInt ≤ ((3 : Nat) : Int))) (k : P 0 s) : wB_isSheet a s P := by
  unfold wB_isSheet
  simp only [Int32.lt_iff_toInt_lt, Int32.le_iff_toInt_le, show (0 : Int32).toInt = 0 by decide, show (4 : Int32).toInt = 4 by decide]
  exact ⟨fun _ => k, fun z => ⟨fun _ => k, fun z2 => absurd ⟨by omega, by omega⟩ h⟩⟩
theorem m_shT {n : Nat} {s : Sg} {P : Int32 → Sg → Prop} (h : n ≤ 3) (k : P 1 s) : wM_isSheet (nI n) s P := m_inT (lo := 0) (hi := 3) (by omega) h (by omega) ⟨z11, k⟩
theorem m_shF {a : Int32} {s : Sg} {P : Int32 → Sg → Prop} (h : ¬ (((0 : Nat) : Int) ≤ a.toInt ∧ a.toInt ≤ ((3 : Nat) : Int))) (k : P 0 s) : wM_isSheet a s P := m_inF (lo := 0) (hi := 3) (by omega) (by omega) h ⟨z01, k⟩
theorem m_there {x : Nat} {s : Sg} {P : Int32 → Sg → Prop} (h : x ≤ 3) (h1 : s 5 x ≠ 0 → P 0 s) (h0 : s 5 x = 0 → P (-1000000002) s) : wM_notThere (nI x) s P := by
  unfold wM_notThere
  refine m_shT h (les1 ⟨vp_in_nI (by omega) (by omega), ?_⟩)
  rw [ixn (by omega)]
  exact ⟨h1, h0⟩
theorem m_thereF {a : Int32} {s : Sg} {P : Int32 → Sg → Prop} (h : ¬ (((0 : Nat) : Int) ≤ a.toInt ∧ a.toInt ≤ ((3 : Nat) : Int))) (k : P (-1000000001) s) : wM_notThere a s P := by
  unfold wM_notThere
  exact m_shF h (les0 k)
theorem jE1 {A B : Prop} (h : B) : ((-1000000001 : Int32) = 0 → A) ∧ (¬ (-1000000001 : Int32) = 0 → B) := ⟨fun z => absurd z (by decide), fun _ => h⟩
theorem jE2 {A B : Prop} (h : B) : ((-1000000002 : Int32) = 0 → A) ∧ (¬ (-1000000002 : Int32) = 0 → B) := ⟨fun z => absurd z (by decide), fun _ => h⟩
theorem t77 {x : Nat} (h : x < 2 ^ 31) : 77 + 3 * ix (nI x) = 77 + 3 * x := by rw [ixn h]
theorem shcap {x : Nat} (h : x ≤ 3) : cap (78 + 3 * x) = 24 := by
  rcases (show x = 0 ∨ x = 1 ∨ x = 2 ∨ x = 3 by omega) with rfl | rfl | rfl | rfl <;> decide +kernel
/-- a small number of a sheet -/
theorem and_lo {r : Int32} {n k : Nat} {m : Int32} (hm : m.toBitVec.toNat = 2 ^ k - 1) (hk : k = 8 ∨ k = 16) (h1 : -2 ^ (k - 1) ≤ r.toInt) (h2 : r.toInt ≤ 2 ^ (k - 1) - 1) (hn : n ≤ 99) : r &&& m = nI n ↔ r = nI n := by
  have e := pk_and r (m := m) k hm
  rw [e]
  have hb : r.toInt = if r.toBitVec.toNat < 2 ^ 31 then (r.toBitVec.toNat : Int) else (r.toBitVec.toNat : Int) - 2 ^ 32 := by
    rw [← Int32.toInt_toBitVec, BitVec.toInt_eq_toNat_cond]
    split <;> split <;> omega
  have hl := r.toBitVec.isLt
  have hr : r = nI n ↔ r.toInt = n := by
    constructor
    · intro h; rw [h, nI_toInt (by omega)]
    · intro h; exact Int32.toInt_inj.mp (by rw [h, nI_toInt (by omega)])
  rw [hr]
  rcases hk with rfl | rfl
  · rw [nI_eq (by omega) (by omega)]
    split at hb <;> omega
  · rw [nI_eq (by omega) (by omega)]
    split at hb <;> omega
theorem shr_eq {b c r : Int32} {n : Nat} (h : shr b c r) (hn : n ≤ 99) : c = nI n ↔ r = nI n := by
  rcases h with ⟨-, e, h1, h2⟩ | ⟨-, e, h1, h2⟩ | ⟨-, e⟩
  · rw [e]; exact and_lo (k := 8) (by decide) (Or.inl rfl) (by omega) (by omega) hn
  · rw [e]; exact and_lo (k := 16) (by decide) (Or.inr rfl) (by omega) (by omega) hn
  · rw [e]
theorem agr_congr : ∀ (l l2 r : List Int32), l.length = l2.length → (∀ (i : Nat) (x x2 y : Int32), l[i]? = some x → l2[i]? = some x2 → y ∈ r → (x = y ↔ x2 = y)) → agr l r = agr l2 r := by
  intro l
  induction l with
  | nil =>
    intro l2 r h _
    cases l2 with
    | nil => rfl
    | cons a l2 => simp at h
  | cons a l ih =>
    intro l2 r h hx
    cases l2 with
    | nil => simp at h
    | cons a2 l2 =>
      cases r with
      | nil => rfl
      | cons b r =>
        have h0 := hx 0 a a2 b (by simp) (by simp) List.mem_cons_self
        rw [agr, agr]
        by_cases q : a = b
        · rw [if_pos q, if_pos (h0.mp q)]
          rw [ih l2 r (by simpa using h) (fun i x x2 y h1 h2 hy => hx (i + 1) x x2 y (by simpa using h1) (by simpa using h2) (List.mem_cons_of_mem _ hy))]
        · rw [if_neg q, if_neg (fun e => q (h0.mpr e))]
theorem m_rightL {x N M : Nat} {K : Int32 → Sg → Prop} {s : Sg} (hx : x ≤ 3) (hN : N ≤ 24) (hM : M ≤ 9) (h6 : s 6 x = nI N) (h3 : s 1 3 = nI M) : ∀ (w l : List Int32) (a : Nat), a + w.length = N → a + l.length = M → (∀ (j : Nat) (hj : j < w.length), s 7 (24 * x + (a + j)) = w[j]) → (∀ (j : Nat) (hj : j < l.length), s 1 (8 + (a + j)) = l[j]) → K (nI (a + agr w l)) s → wM_rightOf_2 (nI x) K (w.length + 1) (nI a) s := by
  intro w
  induction w with
  | nil =>
    intro l a h1 h2 hw hv hK
    rw [wM_rightOf_2, ixn (by omega), h6]
    simp at h1
    subst h1
    refine ⟨vp_in_nI (by omega) (by omega), iT (Int32.le_refl _) ?_⟩
    simpa [agr] using hK
  | cons y w ih =>
    intro l a h1 h2 hw hv hK
    simp at h1
    rw [wM_rightOf_2, ixn (show x < 2 ^ 31 by omega), h6, h3]
    refine ⟨vp_in_nI (by omega) (by omega), iF (nI_ge (by omega) (by omega)) ?_⟩
    cases l with
    | nil =>
      simp at h2
      subst h2
      refine iT (Int32.le_refl _) ?_
      simpa [agr] using hK
    | cons b l =>
      simp at h2
      refine iF (nI_ge (by omega) (by omega)) ?_
      rw [show (24 : Int32) * nI x + nI a = nI (24 * x + a) by rw [show (24 : Int32) = nI 24 from rfl, pk_mul, nI_add], m8, ixn (by omega), ixn (by omega)]
      have ex := hw 0 (by simp)
      have ey := hv 0 (by simp)
      simp at ex ey
      refine ⟨vp_in_nI (by omega) (by omega), vp_in_nI (by omega) (by omega), ?_⟩
      rw [ex, ey]
      by_cases q : y = b
      · refine jT q ?_
        rw [nI_1]
        refine ih l (a + 1) (by omega) (by omega) (fun j hj => ?_) (fun j hj => ?_) ?_
        · have := hw (j + 1) (by simpa using hj)
          rw [show a + 1 + j = a + (j + 1) by omega]
          simpa using this
        · have := hv (j + 1) (by simpa using hj)
          rw [show a + 1 + j = a + (j + 1) by omega]
          simpa using this
        · rw [show a + 1 + agr w l = a + agr (y :: w) (b :: l) by simp [agr, q]; omega]
          exact hK
      · refine jF q ?_
        simpa [agr, q] using hK
/-- the numbers of a sheet, as the class and as the reference keeps them -/
def shL (g : Nat → Int32) (n : Nat) : List Int32 := (List.range n).map g
theorem shL_at {g : Nat → Int32} {n i : Nat} (h : i < n) : (shL g n)[i]'(by simpa [shL] using h) = g i := by simp [shL]
theorem shL_len {g : Nat → Int32} {n : Nat} : (shL g n).length = n := by simp [shL]
theorem shL_get {g : Nat → Int32} {n i : Nat} {x : Int32} (h : (shL g n)[i]? = some x) : i < n ∧ x = g i := by
  have hi := (List.getElem?_eq_some_iff.mp h)
  obtain ⟨h1, h2⟩ := hi
  have h3 : i < n := by simpa [shL] using h1
  exact ⟨h3, by rw [← h2, shL_at h3]⟩
theorem sh_alike {s t : Sg} {x n : Nat} {b : Int32} {L : List Nat} (hs : ∀ k, k < n → shr b (s (79 + 3 * x) k) (t 7 (24 * x + k))) (hL : ∀ y ∈ L, y ≤ 99) : agr (shL (s (79 + 3 * x)) n) (L.map nI) = agr (shL (fun k => t 7 (24 * x + k)) n) (L.map nI) := by
  refine agr_congr _ _ _ (by rw [shL_len, shL_len]) (fun i a a2 y h1 h2 hy => ?_)
  obtain ⟨i1, rfl⟩ := shL_get h1
  obtain ⟨-, rfl⟩ := shL_get h2
  obtain ⟨z, hz, rfl⟩ := List.mem_map.mp hy
  exact shr_eq (hs i i1) (hL z hz)
theorem eq_judge {a1 : Int32} {s t : Sg} (h : Rel s t) : wB_judge a1 s (fun r s => wM_judge a1 t (fun r2 t => r = r2 ∧ Rel s t)) := by
  obtain ⟨kn, th, L, pk, st, se, z, tp, wt, cd, v, c, m⟩ := id h.1
  have hk := v.1
  have hlen := VB_len v
  unfold wB_judge
  rcases rng a1 0 3 (by omega) with ⟨x, -, hx, rfl⟩ | hn
  · obtain ⟨e0, -, e1, n, hn, e6, -, hs⟩ := h.2.2.2.1 x (by omega)
    rw [t77 (by omega)]
    refine p_shT (by omega) (les1 ⟨vp_in_nI (by omega) (by omega), ?_⟩)
    unfold wSheet_isMissing
    rw [e0]
    refine ⟨fun q => sel0 ⟨vp_in_nI (by omega) (by omega), ?_⟩, fun q => sel1 (eq_err h cc2 (by omega) (by omega) (fun P hP => m_there hx (fun e => absurd q e) (fun _ => jE2 (m_error cc2 (by omega) (by omega) hP))))⟩
    rw [show 77 + 3 * x + 1 = 78 + 3 * x by omega]
    refine p_alike (l := shL (s (79 + 3 * x)) n) (r := L.map nI) (IL_of (by rw [e1, e6, shL_len]) (fun i hi => ?_)) c.2.1 (by rw [shL_len, shcap hx]; exact hn) (by rw [cp3]; simp; omega) (by rw [shcap hx]; omega) cap9 ?_
    · rw [shL_at (by simpa [shL] using hi), show 78 + 3 * x + 1 = 79 + 3 * x by omega]
    · unfold wM_judge
      refine m_there hx (fun _ => ⟨fun _ => ?_, fun e => absurd rfl e⟩) (fun e => absurd e q)
      unfold wM_rightOf
      refine ⟨n + 1, ?_⟩
      have := m_rightL (K := fun v1 s1 => (fun r2 t => nI (agr (shL (s (79 + 3 * x)) n) (L.map nI)) = r2 ∧ Rel s t) v1 s1) (N := n) (M := L.length) hx hn (by omega) e6 (by rw [m.2.1.1]; simp) (shL (fun k => t 7 (24 * x + k)) n) (L.map nI) 0 (by rw [shL_len]; omega) (by simp) (fun j hj => by rw [shL_at (by simpa [shL] using hj), Nat.zero_add]) (fun j hj => by rw [Nat.zero_add]; exact IL_at m.2.1 hj) ⟨by rw [Nat.zero_add, sh_alike hs (fun y hy => by have := v.2.1.2 y hy; omega)], h⟩
      rw [shL_len] at this
      exact this
  · exact p_shF hn (les0 (eq_err h cc1 (by omega) (by omega) (fun P hP => m_thereF hn (jE1 (m_error cc1 (by omega) (by omega) hP)))))
