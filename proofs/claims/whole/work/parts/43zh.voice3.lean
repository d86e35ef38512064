-- PURE: voice, the reference; voice
def MV (s : Sg) (tr : List Int32) : Prop := IL (s 0 21) (s 14) tr
def bg (s t : Sg) : Prop := (∀ a, a ≠ 0 → a ≠ 14 → t a = s a) ∧ ∀ j, j ≠ 21 → t 0 j = s 0 j
theorem bg.trans {s t u : Sg} (h1 : bg s t) (h2 : bg t u) : bg s u := ⟨fun a x y => (h2.1 a x y).trans (h1.1 a x y), fun j x => (h2.2 j x).trans (h1.2 j x)⟩
theorem m_beg {b : Int32} {tr : List Int32} {s : Sg} {P : Sg → Prop} (c : MV s tr) (hl : tr.length < 30) (h : ∀ t, MV t (tr ++ [b]) → bg s t → P t) : wM_begins b s P := by
  unfold wM_begins
  rw [c.1, ixn (by omega)]
  refine iF (nI_ge (b := 30) hl (by omega)) ⟨vp_in_nI (by omega) (by omega), fun s1 e1 s2 e2 => ?_⟩
  refine h s2 (IL_of ?_ (fun i hi => ?_)) ⟨fun a ha hb => ?_, fun j hj => ?_⟩
  · subst e2
    rw [u2_same]
    have : s1 0 21 = s 0 21 := by subst e1; exact u2_ne (by omega)
    rw [this, c.1, nI_1]
    simp
  · subst e2
    rw [u2_other (by omega)]
    subst e1
    by_cases q : i = tr.length
    · subst q
      rw [u2_same]
      simp
    · rw [u2_ne (by omega)]
      have : i < tr.length := by simp at hi; omega
      rw [IL_at c this, List.getElem_append_left this]
  · subst e2; subst e1
    rw [u2_other ha, u2_other hb]
  · subst e2; subst e1
    rw [u2_ne (by omega), u2_other (by omega)]
theorem MV_ap {t : Sg} {tr l : List Int32} {a : Int32} (h : MV t (tr ++ [a] ++ l)) : MV t (tr ++ a :: l) := by
  rw [ap1] at h
  exact h
section VOM
variable {n k m : Nat} {x : Int32} {tr : List Int32} {s : Sg} {P : Int32 → Sg → Prop} {kn : Nat} {th : Nat → Nat → Nat} {L : List Nat} {pk : Option Nat} {st se : Nat} {z : Int32} {tp : List Nat} {wt : List Int32} {cd : Nat → List Int32}
theorem bg_MB {t : Sg} (mb : MB (s 1) kn th L pk st se z tp wt cd) (h : bg s t) : MB (t 1) kn th L pk st se z tp wt cd := by rw [h.1 1 (by omega) (by omega)]; exact mb
theorem m_prat (c : MV s tr) (hl : tr.length < 30) (h : ∀ t, MV t (tr ++ [10]) → bg s t → P (x + nI n) t) : wM_plainRattles (nI n) x s P := m_beg c hl h
theorem m_krat (c : MV s tr) (hl : tr.length < 29) (h : ∀ t, MV t (tr ++ [20, 10]) → bg s t → P (x + nI n - 4) t) : wM_keysRattles (nI n) x s P :=
  m_beg c (by omega) (fun t ht hft => m_prat ht (by simp; omega) (fun t2 ht2 hf2 => h t2 (MV_ap ht2) (hft.trans hf2)))
theorem m_rat (hk : kn ≤ 9) (hn : n < kn) (e0 : th n 0 = k) (hk6 : k ≤ 6) (mb : MB (s 1) kn th L pk st se z tp wt cd) (c : MV s tr) (hl : tr.length < 28) (h : ∀ t, MV t (tr ++ raB k) → bg s t → P (raV k n x) t) : wM_rattles (nI n) x s P := by
  unfold wM_rattles
  refine m_of (j := 0) mb hk hn (by omega) ?_
  rw [e0]
  rcases k7 hk6 with rfl | rfl | rfl | rfl | rfl | rfl | rfl
  · exact iF (by decide) (iF (by decide) (iF (by decide) (m_prat c (by omega) h)))
  · exact iT (by decide) (m_krat c (by omega) h)
  · exact iF (by decide) (iF (by decide) (iF (by decide) (m_prat c (by omega) h)))
  · exact iF (by decide) (iF (by decide) (iF (by decide) (m_prat c (by omega) h)))
  · exact iF (by decide) (iT (by decide) (m_beg c (by omega) (fun t ht hft => m_krat ht (by simp; omega) (fun t2 ht2 hf2 => h t2 (MV_ap ht2) (hft.trans hf2)))))
  · exact iF (by decide) (iF (by decide) (iF (by decide) (m_prat c (by omega) h)))
  · exact iF (by decide) (iF (by decide) (iT (by decide) (m_beg c (by omega) h)))
theorem m_prus (hk : kn ≤ 9) (hn : n < kn) (e0 : th n 0 = k) (hk6 : k ≤ 6) (mb : MB (s 1) kn th L pk st se z tp wt cd) (c : MV s tr) (hl : tr.length < 27) (h : ∀ t, MV t (tr ++ 11 :: raB k) → bg s t → P (raV k n x * 2) t) : wM_plainRustles (nI n) x s P :=
  m_beg c (by omega) (fun t ht hft => m_rat hk hn e0 hk6 (bg_MB mb hft) ht (by simp; omega) (fun t2 ht2 hf2 => h t2 (MV_ap ht2) (hft.trans hf2)))
theorem m_pap (hk : kn ≤ 9) (hn : n < kn) (e0 : th n 0 = k) (hk6 : k ≤ 6) (mb : MB (s 1) kn th L pk st se z tp wt cd) (c : MV s tr) (hl : tr.length < 26) (h : ∀ t, MV t (tr ++ 30 :: 11 :: raB k) → bg s t → P (0 - raV k n x * 2) t) : wM_paperRustles (nI n) x s P := by
  refine m_beg c (by omega) (fun t ht hft => m_prus hk hn e0 hk6 (bg_MB mb hft) ht (by simp; omega) (fun t2 ht2 hf2 => ?_))
  rw [← Int32.zero_sub]
  exact h t2 (MV_ap ht2) (hft.trans hf2)
theorem m_rus (hk : kn ≤ 9) (hn : n < kn) (e0 : th n 0 = k) (e1 : th n 1 = m) (hk6 : k ≤ 6) (mb : MB (s 1) kn th L pk st se z tp wt cd) (c : MV s tr) (hl : tr.length < 25) (h : ∀ t, MV t (tr ++ ruB k) → bg s t → P (ruV k n m x) t) : wM_rustles (nI n) x s P := by
  unfold wM_rustles
  refine m_of (j := 0) mb hk hn (by omega) ?_
  rw [e0]
  rcases k7 hk6 with rfl | rfl | rfl | rfl | rfl | rfl | rfl
  · exact iF (by decide) (iF (by decide) (iF (by decide) (m_prus hk hn e0 hk6 mb c (by omega) h)))
  · exact iF (by decide) (iF (by decide) (iF (by decide) (m_prus hk hn e0 hk6 mb c (by omega) h)))
  · exact iT (by decide) (m_pap hk hn e0 hk6 mb c (by omega) h)
  · exact iF (by decide) (iF (by decide) (iF (by decide) (m_prus hk hn e0 hk6 mb c (by omega) h)))
  · exact iF (by decide) (iF (by decide) (iF (by decide) (m_prus hk hn e0 hk6 mb c (by omega) h)))
  · exact iF (by decide) (iT (by decide) (m_beg c (by omega) (fun t ht hft => m_pap hk hn e0 hk6 (bg_MB mb hft) ht (by simp; omega) (fun t2 ht2 hf2 => h t2 (MV_ap ht2) (hft.trans hf2)))))
  · refine iF (by decide) (iF (by decide) (iT (by decide) (m_beg c (by omega) (fun t ht hft => m_prus hk hn e0 hk6 (bg_MB mb hft) ht (by simp; omega) (fun t2 ht2 hf2 => m_of (j := 1) (bg_MB (bg_MB mb hft) hf2) hk hn (by omega) ?_)))))
    rw [e1]
    exact h t2 (MV_ap ht2) (hft.trans hf2)
theorem m_prin (hk : kn ≤ 9) (hn : n < kn) (e0 : th n 0 = k) (e1 : th n 1 = m) (hk6 : k ≤ 6) (mb : MB (s 1) kn th L pk st se z tp wt cd) (c : MV s tr) (hl : tr.length < 24) (h : ∀ t, MV t (tr ++ 12 :: ruB k) → bg s t → P (ruV k n m x - nI m) t) : wM_plainRings (nI n) x s P := by
  refine m_beg c (by omega) (fun t ht hft => m_rus hk hn e0 e1 hk6 (bg_MB mb hft) ht (by simp; omega) (fun t2 ht2 hf2 => m_of (j := 1) (bg_MB (bg_MB mb hft) hf2) hk hn (by omega) ?_))
  rw [e1]
  exact h t2 (MV_ap ht2) (hft.trans hf2)
theorem m_rin (hk : kn ≤ 9) (hn : n < kn) (e0 : th n 0 = k) (e1 : th n 1 = m) (hk6 : k ≤ 6) (mb : MB (s 1) kn th L pk st se z tp wt cd) (c : MV s tr) (hl : tr.length < 23) (h : ∀ t, MV t (tr ++ riB k) → bg s t → P (riV k n m x) t) : wM_rings (nI n) x s P := by
  unfold wM_rings
  refine m_of (j := 0) mb hk hn (by omega) ?_
  rw [e0]
  rcases k7 hk6 with rfl | rfl | rfl | rfl | rfl | rfl | rfl
  · exact iF (by decide) (iF (by decide) (m_prin hk hn e0 e1 hk6 mb c (by omega) h))
  · exact iF (by decide) (iF (by decide) (m_prin hk hn e0 e1 hk6 mb c (by omega) h))
  · exact iF (by decide) (iF (by decide) (m_prin hk hn e0 e1 hk6 mb c (by omega) h))
  · exact iT (by decide) (m_beg c (by omega) (fun t ht hft => m_prin hk hn e0 e1 hk6 (bg_MB mb hft) ht (by simp; omega) (fun t2 ht2 hf2 => h t2 (MV_ap ht2) (hft.trans hf2))))
  · exact iF (by decide) (iT (by decide) (m_beg c (by omega) (fun t ht hft => m_prin hk hn e0 e1 hk6 (bg_MB mb hft) ht (by simp; omega) (fun t2 ht2 hf2 => h t2 (MV_ap ht2) (hft.trans hf2)))))
  · exact iF (by decide) (iF (by decide) (m_prin hk hn e0 e1 hk6 mb c (by omega) h))
  · exact iF (by decide) (iF (by decide) (m_prin hk hn e0 e1 hk6 mb c (by omega) h))
/-- the trace, and where the parting is told -/
def bq (s t : Sg) : Prop := (∀ a, a ≠ 0 → a ≠ 14 → t a = s a) ∧ t 0 3 = s 0 3
theorem bq_of {s t : Sg} (h : bg s t) : bq s t := ⟨h.1, h.2 3 (by omega)⟩
theorem bq.trans {s t u : Sg} (h1 : bq s t) (h2 : bq t u) : bq s u := ⟨fun a x y => (h2.1 a x y).trans (h1.1 a x y), h2.2.trans h1.2⟩
theorem m_ppar (hk : kn ≤ 9) (hn : n < kn) (e1 : th n 1 = m) (mb : MB (s 1) kn th L pk st se z tp wt cd) (c : MV s tr) (hl : tr.length < 30) (h1 : nI m - nI n = 0 → ∀ t, MV t (tr ++ [13]) → t 0 22 = 1 → bq s t → P 0 t) (h0 : ¬ nI m - nI n = 0 → ∀ t, MV t (tr ++ [13]) → t 0 22 = 0 → bq s t → P (x / (nI m - nI n)) t) : wM_plainParts (nI n) x s P := by
  refine m_beg c (by omega) (fun t ht hft => m_of (j := 1) (bg_MB mb hft) hk hn (by omega) ?_)
  rw [e1]
  have put : ∀ v : Int32, MV (u2 t 0 22 v) (tr ++ [13]) ∧ (u2 t 0 22 v) 0 22 = v ∧ bq s (u2 t 0 22 v) := by
    intro v
    refine ⟨?_, u2_same, ⟨fun a ha hb => ?_, ?_⟩⟩
    · unfold MV
      rw [u2_ne (by omega), u2_other (by omega)]
      exact ht
    · rw [u2_other ha]
      exact hft.1 a ha hb
    · rw [u2_ne (by omega)]
      exact hft.2 3 (by omega)
  refine ⟨fun q s3 e3 => ?_, fun q s3 e3 => ?_⟩
  · subst e3
    obtain ⟨g1, g2, g3⟩ := put 0
    exact iT g2 ⟨q, h0 q _ g1 g2 g3⟩
  · subst e3
    obtain ⟨g1, g2, g3⟩ := put 1
    exact iF (by rw [g2]; decide) (h1 q _ g1 g2 g3)
theorem m_par (hk : kn ≤ 9) (hn : n < kn) (e0 : th n 0 = k) (e1 : th n 1 = m) (hk6 : k ≤ 6) (mb : MB (s 1) kn th L pk st se z tp wt cd) (c : MV s tr) (hl : tr.length < 23) (h1 : nI m - nI n = 0 → ∀ t, MV t (tr ++ paB k n m) → t 0 22 = 1 → bq s t → P 0 t) (h0 : ¬ nI m - nI n = 0 → ∀ t, MV t (tr ++ paB k n m) → t 0 22 = 0 → bq s t → P (paV k n m x) t) : wM_parts (nI n) x s P := by
  have plain : ¬ (k = 1 ∨ k = 4) → wM_plainParts (nI n) x s P := by
    intro q
    have e1' : paB k n m = [13] := by unfold paB; rw [if_neg q]
    have e2' : paV k n m x = x / (nI m - nI n) := by unfold paV; rw [if_neg q]
    rw [e1'] at h1 h0
    rw [e2'] at h0
    exact m_ppar hk hn e1 mb c (by omega) h1 h0
  have two : (k = 1 ∨ k = 4) → wM_begins 21 s (fun (s2 : Sg) => (wM_plainParts (nI n) x s2 (fun (r2 : Int32) (s3 : Sg) => (((s3 0 22) = 0 → (wM_rustles (nI n) 1 s3 (fun (r3 : Int32) (s4 : Sg) => P ((r2 + r3)) s4))) ∧ (¬ (s3 0 22) = 0 → P 0 s3))))) := by
    intro q
    have e2' : paV k n m x = x / (nI m - nI n) + ruV k n m 1 := by unfold paV; rw [if_pos q]
    rw [e2'] at h0
    refine m_beg c (by omega) (fun t ht hft => m_ppar hk hn e1 (bg_MB mb hft) ht (by simp; omega) (fun q2 t2 ht2 a2 f2 => ?_) (fun q2 t2 ht2 a2 f2 => ?_))
    · have e1' : paB k n m = [21, 13] := by unfold paB; rw [if_pos q, if_pos q2]
      rw [e1'] at h1
      exact iF (by rw [a2]; decide) (h1 q2 t2 (MV_ap ht2) a2 ((bq_of hft).trans f2))
    · have e1' : paB k n m = 21 :: 13 :: ruB k := by unfold paB; rw [if_pos q, if_neg q2]
      rw [e1'] at h0
      have mb2 : MB (t2 1) kn th L pk st se z tp wt cd := by rw [f2.1 1 (by omega) (by omega)]; exact bg_MB mb hft
      exact iT a2 (m_rus hk hn e0 e1 hk6 mb2 ht2 (by simp; omega) (fun t3 ht3 hf3 => h0 q2 t3 (MV_ap (MV_ap ht3)) (by rw [hf3.2 22 (by omega)]; exact a2) (((bq_of hft).trans f2).trans (bq_of hf3))))
  unfold wM_parts
  refine m_of (j := 0) mb hk hn (by omega) ?_
  rw [e0]
  rcases k7 hk6 with rfl | rfl | rfl | rfl | rfl | rfl | rfl
  · refine iF (by decide) (m_of (j := 0) mb hk hn (by omega) ?_)
    rw [e0]
    exact jF (by decide) (plain (by omega))
  · exact iT (by decide) (two (by omega))
  · refine iF (by decide) (m_of (j := 0) mb hk hn (by omega) ?_)
    rw [e0]
    exact jF (by decide) (plain (by omega))
  · refine iF (by decide) (m_of (j := 0) mb hk hn (by omega) ?_)
    rw [e0]
    exact jF (by decide) (plain (by omega))
  · refine iF (by decide) (m_of (j := 0) mb hk hn (by omega) ?_)
    rw [e0]
    exact jT (by decide) (two (by omega))
  · refine iF (by decide) (m_of (j := 0) mb hk hn (by omega) ?_)
    rw [e0]
    exact jF (by decide) (plain (by omega))
  · refine iF (by decide) (m_of (j := 0) mb hk hn (by omega) ?_)
    rw [e0]
    exact jF (by decide) (plain (by omega))
end VOM
theorem vo_Rel {s t s2 t2 : Sg} {tr : List Int32} (h : Rel s t) (hl : tr.length ≤ 30) (hs : vF s s2) (hr : RW s2 65 tr) (ht : bq t t2) (hm : MV t2 tr) : Rel s2 t2 := by
  obtain ⟨b, i, e, sh, -⟩ := h
  refine ⟨?_, ?_, fun k h1 h2 => ?_, fun x hx => ?_, ?_⟩
  · rw [ht.1 1 (by omega) (by omega)]; exact BR_congr b (fun a h1 h2 => hs a (by omega) (by omega) (by omega))
  · unfold IMR
    rw [hs 0 (by omega) (by omega) (by omega), ht.2, ht.1 2 (by omega) (by omega)]
    exact ⟨i.1, fun q => BR_congr (i.2 q) (fun a h1 h2 => hs a (by omega) (by omega) (by omega))⟩
  · rw [hs 76 (by omega) (by omega) (by omega), ht.1 4 (by omega) (by omega)]; exact e k h1 h2
  · rw [hs (77 + 3 * x) (by omega) (by omega) (by omega), hs (78 + 3 * x) (by omega) (by omega) (by omega), hs (79 + 3 * x) (by omega) (by omega) (by omega), ht.1 5 (by omega) (by omega), ht.1 6 (by omega) (by omega), ht.1 7 (by omega) (by omega)]
    exact sh x hx
  · refine ⟨hr.1.trans hm.1.symm, tr.length, hl, hm.1, fun k hk => ?_⟩
    rw [IL_at hm hk]
    exact IL_at hr hk
theorem raB_len (k : Nat) : (raB k).length ≤ 3 := by
  unfold raB
  split
  · simp
  · split
    · simp
    · split <;> simp
theorem ruB_len (k : Nat) : (ruB k).length ≤ 6 := by
  have := raB_len k
  unfold ruB
  split
  · simp; omega
  · split
    · simp; omega
    · split <;> simp <;> omega
theorem riB_len (k : Nat) : (riB k).length ≤ 8 := by
  have := ruB_len k
  unfold riB
  split
  · simp; omega
  · split <;> simp <;> omega
theorem paB_len (k n m : Nat) : (paB k n m).length ≤ 8 := by
  have := ruB_len k
  unfold paB
  split
  · split
    · simp
    · simp; omega
  · simp
