-- PURE: weights, put
theorem shcap2 {x : Nat} (h : x ≤ 3) : ln shC (79 + 3 * x) = 24 := by
  rcases (show x = 0 ∨ x = 1 ∨ x = 2 ∨ x = 3 by omega) with rfl | rfl | rfl | rfl <;> decide +kernel
def wgf (g : Nat → Int32) : Nat → Nat → (Nat → Nat → Nat) → Nat × (Nat → Nat → Nat)
  | 0, i, th => (i, th)
  | m + 1, i, th => if 0 ≤ (g i).toInt ∧ (g i).toInt ≤ 99 then wgf g m (i + 1) (thU th i 2 (g i).toInt.toNat) else (i, th)
section WGT
variable {s t : Sg} {kn : Nat} {L : List Nat} {pk : Option Nat} {st se : Nat} {z : Int32} {tp : List Nat} {wt : List Int32} {cd : Nat → List Int32} {R : Nat × (Nat → Nat → Nat)}
theorem c_wgtL {x n : Nat} {g : Nat → Int32} {K : Int32 → Sg → Prop} (hx : x ≤ 3) (hn : n ≤ 24) (s0 : Sg) (hg : ∀ k, k < n → ∀ w, w ≤ 99 → (s0 (79 + 3 * x) k = nI w ↔ g k = nI w)) (e1 : s0 (78 + 3 * x) 1 = nI n) (h : ∀ t, VB kn R.2 L pk st se tp wt cd → CB t 1 kn R.2 L pk st se z tp wt cd → frC s0 t → K (nI R.1) t) : ∀ (m i : Nat) (th : Nat → Nat → Nat) (s : Sg), i + m = (min n kn) → VB kn th L pk st se tp wt cd → CB s 1 kn th L pk st se z tp wt cd → frC s0 s → wgf g m i th = R → wBag_takeWeights_2 (78 + 3 * x) K (m + 1) (nI i) s := by
  intro m
  induction m with
  | zero =>
    intro i th s hi v c f e
    have hk := v.1
    rw [wBag_takeWeights_2, f (78 + 3 * x) (by omega) (by omega), e1, c.1.1]
    rw [wgf] at e
    subst e
    refine ⟨fun _ => h s v c f, fun q => iT (nI_le ?_ (by omega)) (h s v c f)⟩
    have : ¬ n ≤ i := fun e => q (nI_le e (by omega))
    omega
  | succ m ih =>
    intro i th s hi v c f e
    have hk := v.1
    have hin : i < n := by omega
    have hik : i < kn := by omega
    rw [wBag_takeWeights_2, f (78 + 3 * x) (by omega) (by omega), e1, c.1.1, show 78 + 3 * x + 1 = 79 + 3 * x by omega, f (79 + 3 * x) (by omega) (by omega), ixn (by omega)]
    refine iF (nI_ge hin (by omega)) (iF (nI_ge hik (by omega)) ⟨by rw [shcap2 hx]; exact vp_in_nI (by omega) (by omega), ?_⟩)
    rw [wgf] at e
    rcases rng (g i) 0 99 (by omega) with ⟨w, -, hw, eg⟩ | hno
    · have ew := (hg i hin w hw).mpr eg
      rw [ew]
      have cnd : 0 ≤ (g i).toInt ∧ (g i).toInt ≤ 99 := by rw [eg, nI_toInt (by omega)]; omega
      rw [if_pos cnd, eg, nI_toInt (by omega)] at e
      refine p_wtT hw (sel1 ⟨vp_in_nI (by omega) (by omega), by rw [shcap2 hx]; exact vp_in_nI (by omega) (by omega), fun s1 e2 => ?_⟩)
      rw [f (79 + 3 * x) (by omega) (by omega), ew, Nat.one_mul, show 11 + i = 1 + 10 + i by omega] at e2
      rw [nI_1]
      subst e2
      exact ih (i + 1) (thU th i 2 w) _ (by omega) (VB_th v (Or.inr (Or.inr ⟨rfl, hw⟩))) (CB_th c hk (by omega) (by omega)) (fun a h1 h2 => (u2_other (by omega)).trans (f a h1 h2)) e
    · rw [if_neg (by simpa using hno)] at e
      subst e
      refine p_wtF (fun q => hno ?_) (sel0 (h s v c f))
      rcases rng (s0 (79 + 3 * x) i) 0 99 (by omega) with ⟨w, -, hw, eg⟩ | h2
      · rw [(hg i hin w hw).mp eg, nI_toInt (by omega)]
        omega
      · exact absurd q h2
theorem m_wgtL {x n : Nat} {g : Nat → Int32} {K : Int32 → Sg → Prop} (hx : x ≤ 3) (hn : n ≤ 24) (s0 : Sg) (hg : ∀ k, k < n → s0 7 (24 * x + k) = g k) (e1 : s0 6 x = nI n) (h : ∀ t, MB (t 1) kn R.2 L pk st se z tp wt cd → (∀ a, a ≠ 1 → t a = s0 a) → K (nI R.1) t) : ∀ (m i : Nat) (th : Nat → Nat → Nat) (s : Sg), i + m = (min n kn) → VB kn th L pk st se tp wt cd → MB (s 1) kn th L pk st se z tp wt cd → (∀ a, a ≠ 1 → s a = s0 a) → wgf g m i th = R → wM_weights_18 (nI x) K (m + 1) (nI i) s := by
  intro m
  induction m with
  | zero =>
    intro i th s hi v c f e
    have hk := v.1
    rw [wM_weights_18, f 6 (by omega), ixn (by omega), e1, c.1.1]
    rw [wgf] at e
    subst e
    refine ⟨vp_in_nI (by omega) (by omega), fun _ => h s c f, fun q => iT (nI_le ?_ (by omega)) (h s c f)⟩
    have : ¬ n ≤ i := fun e => q (nI_le e (by omega))
    omega
  | succ m ih =>
    intro i th s hi v c f e
    have hk := v.1
    have hlen := VB_len v
    have hin : i < n := by omega
    have hik : i < kn := by omega
    rw [wM_weights_18, f 6 (by omega), ixn (show x < 2 ^ 31 by omega), e1, c.1.1, show (24 : Int32) * nI x + nI i = nI (24 * x + i) by rw [show (24 : Int32) = nI 24 from rfl, pk_mul, nI_add], f 7 (by omega), ixn (by omega), hg i hin]
    refine ⟨vp_in_nI (by omega) (by omega), iF (nI_ge hin (by omega)) (iF (nI_ge hik (by omega)) ⟨vp_in_nI (by omega) (by omega), ?_⟩)⟩
    rw [wgf] at e
    rcases rng (g i) 0 99 (by omega) with ⟨w, -, hw, eg⟩ | hno
    · have cnd : 0 ≤ (g i).toInt ∧ (g i).toInt ≤ 99 := by rw [eg, nI_toInt (by omega)]; omega
      rw [if_pos cnd, eg, nI_toInt (by omega)] at e
      rw [eg]
      refine m_inT (lo := 0) (hi := 99) (by omega) hw (by omega) (sel1 ⟨vp_in_nI (by omega) (by omega), ?_⟩)
      rw [show ((17 : Int32) + 4 * nI i + 2) = nI (17 + 4 * i + 2) from m17 i 2, ixn (by omega), nI_1, f 7 (by omega), hg i hin, eg]
      refine ⟨vp_in_nI (by omega) (by omega), fun s1 e2 => ?_⟩
      subst e2
      exact ih (i + 1) (thU th i 2 w) _ (by omega) (VB_th v (Or.inr (Or.inr ⟨rfl, hw⟩))) (MB_th c hk (by omega) (by omega) (by omega)) (fun a ha => (u2_other ha).trans (f a ha)) e
    · rw [if_neg (by simpa using hno)] at e
      subst e
      exact m_inF (lo := 0) (hi := 99) (by omega) (by omega) hno (sel0 (h s c f))
end WGT
theorem eq_weights {a1 : Int32} {s t : Sg} (h : Rel s t) : wB_weights a1 s (fun r s => wM_weights a1 t (fun r2 t => r = r2 ∧ Rel s t)) := by
  obtain ⟨kn, th, L, pk, st, se, z, tp, wt, cd, v, c, m⟩ := id h.1
  have hk := v.1
  have hlen := VB_len v
  unfold wB_weights
  rcases rng a1 0 3 (by omega) with ⟨x, -, hx, rfl⟩ | hn
  · obtain ⟨e0, -, e1, n, hn, e6, -, hs⟩ := h.2.2.2.1 x (by omega)
    rw [t77 (by omega)]
    refine p_shT (by omega) (les1 ⟨vp_in_nI (by omega) (by omega), ?_⟩)
    unfold wSheet_isMissing
    rw [e0]
    refine ⟨fun q => sel0 ⟨vp_in_nI (by omega) (by omega), ?_⟩, fun q => sel1 (eq_err h cc2 (by omega) (by omega) (fun P hP => m_there hx (fun e => absurd q e) (fun _ => jE2 (m_error cc2 (by omega) (by omega) hP))))⟩
    rw [show 77 + 3 * x + 1 = 78 + 3 * x by omega]
    unfold wBag_takeWeights
    refine ⟨(min n kn) + 1, ?_⟩
    refine c_wgtL (R := wgf (fun k => t 7 (24 * x + k)) (min n kn) 0 th) (g := fun k => t 7 (24 * x + k)) hx hn s (fun k hk w hw => shr_eq (hs k hk) hw) (e1.trans e6) (fun s1 v1 c1 f1 => ?_) (min n kn) 0 th s (by omega) v c frC.refl rfl
    unfold wM_weights
    refine m_there hx (fun _ => ⟨fun _ => ⟨(min n kn) + 1, ?_⟩, fun e => absurd rfl e⟩) (fun e => absurd e q)
    exact m_wgtL (R := wgf (fun k => t 7 (24 * x + k)) (min n kn) 0 th) (g := fun k => t 7 (24 * x + k)) hx hn t (fun _ _ => rfl) e6 (fun t1 m1 g1 => ⟨rfl, Rel_of h f1 (frM1 g1) ⟨kn, _, L, pk, st, se, z, tp, wt, cd, v1, c1, m1⟩⟩) (min n kn) 0 th t (by omega) v m (fun _ _ => rfl) rfl
  · exact p_shF hn (les0 (eq_err h cc1 (by omega) (by omega) (fun P hP => m_thereF hn (jE1 (m_error cc1 (by omega) (by omega) hP)))))
-- a sheet changed
theorem Rel_sh {s t s2 t2 : Sg} (h : Rel s t) (hs : ∀ a, ¬ (77 ≤ a ∧ a ≤ 88) → s2 a = s a) (ht : ∀ a, ¬ (5 ≤ a ∧ a ≤ 7) → t2 a = t a) (hh : SHR s2 t2) : Rel s2 t2 := by
  obtain ⟨b, i, e, -, tr⟩ := h
  refine ⟨?_, ?_, fun k h1 h2 => ?_, hh, ?_⟩
  · rw [ht 1 (by omega)]; exact BR_congr b (fun a h1 h2 => hs a (by omega))
  · unfold IMR
    rw [hs 0 (by omega), ht 0 (by omega), ht 2 (by omega)]
    exact ⟨i.1, fun q => BR_congr (i.2 q) (fun a h1 h2 => hs a (by omega))⟩
  · rw [hs 76 (by omega), ht 4 (by omega)]; exact e k h1 h2
  · unfold TRR
    rw [hs 65 (by omega), hs 66 (by omega), ht 0 (by omega), ht 14 (by omega)]
    exact tr
theorem n8 (a : Int32) : a &&& 255 = (Int8.toInt32 (Int32.toInt8 a)) &&& 255 := by
  apply Int32.toBitVec_inj.mp
  simp only [Int32.toBitVec_and, Int8.toBitVec_toInt32, Int32.toBitVec_toInt8]
  apply BitVec.eq_of_getLsbD_eq
  intro i hi
  rw [BitVec.getLsbD_and, BitVec.getLsbD_and]
  by_cases q : i < 8
  · have e2 : (BitVec.signExtend 8 a.toBitVec).getLsbD i = a.toBitVec.getLsbD i := by rw [BitVec.getLsbD_signExtend]; simp [q, hi]
    rw [BitVec.getLsbD_signExtend, if_pos q, e2]
    simp [hi]
  · have : ((255 : Int32).toBitVec).getLsbD i = false := by
      have : ∀ j : Nat, j < 32 → ¬ j < 8 → ((255 : Int32).toBitVec).getLsbD j = false := by decide +kernel
      exact this i hi q
    rw [this, Bool.and_false, Bool.and_false]
theorem n16 (a : Int32) : a &&& 65535 = (Int16.toInt32 (Int32.toInt16 a)) &&& 65535 := by
  apply Int32.toBitVec_inj.mp
  simp only [Int32.toBitVec_and, Int16.toBitVec_toInt32, Int32.toBitVec_toInt16]
  apply BitVec.eq_of_getLsbD_eq
  intro i hi
  rw [BitVec.getLsbD_and, BitVec.getLsbD_and]
  by_cases q : i < 16
  · have e2 : (BitVec.signExtend 16 a.toBitVec).getLsbD i = a.toBitVec.getLsbD i := by rw [BitVec.getLsbD_signExtend]; simp [q, hi]
    rw [BitVec.getLsbD_signExtend, if_pos q, e2]
    simp [hi]
  · have : ((65535 : Int32).toBitVec).getLsbD i = false := by
      have : ∀ j : Nat, j < 32 → ¬ j < 16 → ((65535 : Int32).toBitVec).getLsbD j = false := by decide +kernel
      exact this i hi q
    rw [this, Bool.and_false, Bool.and_false]
theorem shr8 (a : Int32) : shr 8 (a &&& ((1 <<< ((8 : Int32) &&& 31)) - 1)) (Int8.toInt32 (Int32.toInt8 a)) := by
  refine Or.inl ⟨rfl, ?_, ?_, ?_⟩
  · rw [show ((1 : Int32) <<< ((8 : Int32) &&& 31)) - 1 = 255 by decide +kernel]; exact n8 a
  · rw [Int8.toInt_toInt32]; have := Int8.le_toInt (Int32.toInt8 a); omega
  · rw [Int8.toInt_toInt32]; have := Int8.toInt_lt (Int32.toInt8 a); omega
theorem shr16 (a : Int32) : shr 16 (a &&& ((1 <<< ((16 : Int32) &&& 31)) - 1)) (Int16.toInt32 (Int32.toInt16 a)) := by
  refine Or.inr (Or.inl ⟨rfl, ?_, ?_, ?_⟩)
  · rw [show ((1 : Int32) <<< ((16 : Int32) &&& 31)) - 1 = 65535 by decide +kernel]; exact n16 a
  · rw [Int16.toInt_toInt32]; have := Int16.le_toInt (Int32.toInt16 a); omega
  · rw [Int16.toInt_toInt32]; have := Int16.toInt_lt (Int32.toInt16 a); omega
theorem SHR_put {s t : Sg} {x i : Nat} {c r : Int32} (h : SHR s t) (hx : x ≤ 3) (hi : i < 24) (hc : shr (t 5 x) c r) : SHR (u2 s (79 + 3 * x) i c) (u2 t 7 (24 * x + i) r) := by
  intro y hy
  obtain ⟨e0, eb, e1, n, hn, e6, ez, hs⟩ := h y hy
  rw [u2_other (by omega), u2_other (by omega), u2_other (by omega), u2_other (by omega)]
  refine ⟨e0, eb, e1, n, hn, e6, ez, fun k hk => ?_⟩
  by_cases q : y = x
  · subst q
    by_cases q2 : k = i
    · subst q2; rw [u2_same, u2_same]; exact hc
    · rw [u2_ne (by omega), u2_ne (by omega)]; exact hs k hk
  · by_cases q3 : 24 * y + k = 24 * x + i
    · exact absurd q (by omega)
    · rw [u2_ne (by omega), u2_ne (by omega)]; exact hs k hk
theorem eq_put {a1 a2 a3 : Int32} {s t : Sg} (h : Rel s t) : wB_put a1 a2 a3 s (fun r s => wM_put a1 a2 a3 t (fun r2 t => r = r2 ∧ Rel s t)) := by
  unfold wB_put
  rcases rng a1 0 3 (by omega) with ⟨x, -, hx, rfl⟩ | hn
  · obtain ⟨e0, eb, e1, n, hn, e6, -, hs⟩ := h.2.2.2.1 x (by omega)
    rw [t77 (by omega)]
    refine p_shT (by omega) (les1 ⟨vp_in_nI (by omega) (by omega), ?_⟩)
    unfold wSheet_isMissing
    rw [e0]
    refine ⟨fun q => sel0 ⟨vp_in_nI (by omega) (by omega), ?_⟩, fun q => sel1 (eq_err h cc2 (by omega) (by omega) (fun P hP => m_there hx (fun e => absurd q e) (fun _ => jF (by decide) (iF (by decide) (m_error cc2 (by omega) (by omega) hP)))))⟩
    rw [show 77 + 3 * x + 1 = 78 + 3 * x by omega]
    have hR : s (78 + 3 * x) 1 = nI n := e1.trans e6
    refine p_has hR (by omega) (fun i hi e => les1 ⟨vp_in_nI (by omega) (by omega), ?_⟩) (fun hno => les0 (eq_err h cc1 (by omega) (by omega) (fun P hP => m_there hx (fun _ => jT rfl ?_) (fun e => absurd e q))))
    · subst e
      unfold wSheet_write
      rw [show 77 + 3 * x + 1 = 78 + 3 * x by omega, show 78 + 3 * x + 1 = 79 + 3 * x by omega, shcap2 hx]
      refine p_has hR (by omega) (fun _ _ _ => sel1 ?_) (fun hz => absurd rfl (hz i hi))
      rw [e0, ixn (by omega)]
      have mm : ∀ {P : Int32 → Sg → Prop}, ((¬ t 5 x = 8 → ((¬ t 5 x = 16 → (∀ s2 : Sg, s2 = u2 t 7 (24 * x + i) a3 → P 1 s2)) ∧ (t 5 x = 16 → (∀ s2 : Sg, s2 = u2 t 7 (24 * x + i) (Int16.toInt32 (Int32.toInt16 a3)) → P 1 s2)))) ∧ (t 5 x = 8 → (∀ s2 : Sg, s2 = u2 t 7 (24 * x + i) (Int8.toInt32 (Int32.toInt8 a3)) → P 1 s2))) → wM_put (nI x) (nI i) a3 t P := by
        intro P p
        unfold wM_put
        refine m_there hx (fun _ => jT rfl ⟨vp_in_nI (by omega) (by omega), ?_⟩) (fun e => absurd e q)
        rw [ixn (show x < 2 ^ 31 by omega), e6]
        refine m_has (by omega) (fun _ _ _ => les1 (iT rfl ⟨vp_in_nI (by omega) (by omega), ?_⟩)) (fun hz => absurd rfl (hz i hi))
        rw [show (24 : Int32) * nI x + nI i = nI (24 * x + i) by rw [show (24 : Int32) = nI 24 from rfl, pk_mul, nI_add], ixn (by omega)]
        exact ⟨fun q8 => ⟨vp_in_nI (by omega) (by omega), fun q16 => ⟨vp_in_nI (by omega) (by omega), fun s2 e2 => (p.1 q8).1 q16 s2 e2⟩, fun q16 => ⟨vp_in_nI (by omega) (by omega), fun s2 e2 => (p.1 q8).2 q16 s2 e2⟩⟩, fun q8 => ⟨vp_in_nI (by omega) (by omega), fun s2 e2 => p.2 q8 s2 e2⟩⟩
      have fin : ∀ {cv rv : Int32} {s2 t2 : Sg}, shr (t 5 x) cv rv → s2 = u2 s (79 + 3 * x) i cv → t2 = u2 t 7 (24 * x + i) rv → Rel s2 t2 := fun hsh f1 f2 => by
        subst f1; subst f2
        exact Rel_sh h (fun a ha => u2_other (by omega)) (fun a ha => u2_other (by omega)) (SHR_put h.2.2.2.1 hx (by omega) hsh)
      refine ⟨fun q32 => ⟨vp_in_nI (by omega) (by omega), fun s2 f1 => mm ?_⟩, fun q32 => ⟨vp_in_nI (by omega) (by omega), fun s2 f1 => mm ?_⟩⟩
      · refine ⟨fun q8 => ⟨fun q16 => ?_, fun q16 t2 f2 => ⟨rfl, fin (by rw [q16]; exact shr16 a3) (by rw [q16] at f1; exact f1) f2⟩⟩, fun q8 t2 f2 => ⟨rfl, fin (by rw [q8]; exact shr8 a3) (by rw [q8] at f1; exact f1) f2⟩⟩
        exfalso
        rcases eb with e | e | e | e
        · exact q e
        · exact q8 e
        · exact q16 e
        · exact q32 e
      · refine jF (by rw [q32]; decide) (jF (by rw [q32]; decide) (fun t2 f2 => ⟨rfl, fin (by rw [q32]; exact Or.inr (Or.inr ⟨rfl, rfl⟩)) f1 f2⟩))
    · refine ⟨vp_in_nI (by omega) (by omega), ?_⟩
      rw [ixn (by omega), e6]
      exact m_has (by omega) (fun j hj e => absurd e (hno j hj)) (fun _ => les0 (m_error cc1 (by omega) (by omega) hP))
  · exact p_shF hn (les0 (eq_err h cc1 (by omega) (by omega) (fun P hP => m_thereF hn (jF (by decide) (iF (by decide) (m_error cc1 (by omega) (by omega) hP))))))
