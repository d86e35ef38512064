-- PURE: pack
theorem upB_mem {f : List Nat → Int32} : ∀ (ps : List (List Nat)) (b : Option (Int32 × List Nat)) (c : Int32) (q : List Nat), ps.foldl (upB f) b = some (c, q) → (∃ c2, b = some (c2, q)) ∨ q ∈ ps := by
  intro ps
  induction ps with
  | nil => intro b c q h; exact Or.inl ⟨c, h⟩
  | cons p ps ih =>
    intro b c q h
    rw [List.foldl_cons] at h
    rcases ih _ c q h with ⟨c2, e⟩ | h2
    · cases b with
      | none =>
        unfold upB at e
        cases e
        exact Or.inr List.mem_cons_self
      | some cq =>
        obtain ⟨c3, q3⟩ := cq
        unfold upB at e
        simp only at e
        split at e
        · cases e
          exact Or.inl ⟨_, rfl⟩
        · cases e
          exact Or.inr List.mem_cons_self
    · exact Or.inr (List.mem_cons_of_mem _ h2)
theorem upB_ne {f : List Nat → Int32} : ∀ (ps : List (List Nat)) (b : Option (Int32 × List Nat)), b ≠ none → ps.foldl (upB f) b ≠ none := by
  intro ps
  induction ps with
  | nil => intro b h; exact h
  | cons p ps ih =>
    intro b h
    rw [List.foldl_cons]
    refine ih _ ?_
    unfold upB
    split
    · simp
    · split <;> simp
theorem pack_some {kn : Nat} {L : List Nat} {f : List Nat → Int32} (hn : L.Nodup) (hm : ∀ x ∈ L, x < kn) (hl : L.length ≤ 6) : ∃ c q, (prm L.length (inA kn L)).foldl (upB f) none = some (c, q) ∧ q.length = L.length := by
  have hil := (inA_perm hn hm).length_eq
  have hA := prm_A (kn := kn) (L := L)
  rw [hil] at hA
  obtain ⟨-, k2, -⟩ := pi_ok L.length (by omega)
  cases e : (prm L.length (inA kn L)).foldl (upB f) none with
  | none =>
    cases eP : prm L.length (List.range L.length) with
    | nil => rw [eP] at k2; cases k2
    | cons p ps =>
      rw [hA, eP, List.map_cons, List.foldl_cons] at e
      exact absurd e (upB_ne _ _ (by simp [upB]))
  | some cq =>
    obtain ⟨c, q⟩ := cq
    refine ⟨c, q, rfl, ?_⟩
    rcases upB_mem _ _ c q e with ⟨c2, e2⟩ | h
    · cases e2
    · rw [(prm_perm _ _ q hil h).length_eq, hil]
theorem pack_Rel {s t s2 t2 : Sg} (h : Rel s t) (hs : scr s s2) (g1 : ∀ i, i < 379 → t2 1 i = t 1 i) (g2 : ∀ a, a ≠ 0 → a ≠ 1 → a ≠ 3 → a ≠ 10 → a ≠ 11 → a ≠ 12 → a ≠ 13 → t2 a = t a) (g3 : ∀ j, j ≠ 18 → t2 0 j = t 0 j) : Rel s2 t2 := by
  obtain ⟨kn, th, L, pk, st, se, z, tp, wt, cd, v, c, m⟩ := id h.1
  refine Rel_of h (scr_frC hs) ⟨⟨g3 3 (by omega), g3 21 (by omega)⟩, fun a ha => ?_⟩ ⟨kn, th, L, pk, st, se, z, tp, wt, cd, v, scr_CB v.1 c hs, MB_cut v m g1⟩
  exact g2 a (by intro e; subst e; simp at ha) (by intro e; subst e; simp at ha) (by intro e; subst e; simp at ha) (by intro e; subst e; simp at ha) (by intro e; subst e; simp at ha) (by intro e; subst e; simp at ha) (by intro e; subst e; simp at ha)
theorem eq_pack {a1 a2 : Int32} {s t : Sg} (h : Rel s t) : wB_pack a1 a2 s (fun r s => wM_pack a1 a2 t (fun r2 t => r = r2 ∧ Rel s t)) := by
  obtain ⟨kn, th, L, pk, st, se, z, tp, wt, cd, v, c, m⟩ := id h.1
  have hk := v.1
  have hlen := VB_len v
  unfold wB_pack
  have c3 : s 3 1 = nI L.length := by rw [show s 3 1 = s (1 + 2) 1 from rfl, c.2.1.1]; simp
  have m3 : t 1 3 = nI L.length := by rw [m.2.1.1]; simp
  have i1 : (-1 : Int32).toInt = -1 := by decide
  have i5 : (5 : Int32).toInt = 5 := by decide
  have i6 : (6 : Int32).toInt = 6 := by decide
  have i0 : (0 : Int32).toInt = 0 := by decide
  have i20 : (20 : Int32).toInt = 20 := by decide
  rw [c3]
  rcases rng a1 0 20 (by omega) with ⟨N, -, hN, rfl⟩ | hn
  · refine iF (nI_pos (by omega)) (iF (nI_nlt (a := 20) (b := N) (by omega) (by omega)) ?_)
    by_cases hw : -1 ≤ a2.toInt ∧ a2.toInt ≤ 5
    · refine iF (by rw [Int32.lt_iff_toInt_lt, i1]; omega) (iT (by rw [Int32.lt_iff_toInt_lt, i6]; omega) ?_)
      have err : ∀ {P : Int32 → Sg → Prop}, ((nI L.length ≤ 6 → (a2 < nI L.length → False) ∧ (¬ a2 < nI L.length → wM_error (-1000000002) t P)) ∧ (¬ nI L.length ≤ 6 → wM_error (-1000000003) t P)) → wM_pack (nI N) a2 t P := by
        intro P q
        unfold wM_pack
        refine m_inT (lo := 0) (hi := 20) (by omega) hN (by omega) (sel1 (m_in (fun _ _ => les1 ?_) (fun hz => absurd (by rw [i1, i5]; exact hw) hz)))
        rw [m3]
        exact ⟨fun q1 => ⟨fun q2 => absurd q2 (fun z => ((q.1 q1).1 z).elim), (q.1 q1).2⟩, q.2⟩
      by_cases h6 : L.length ≤ 6
      · refine iT (nI_le (b := 6) h6 (by omega)) ?_
        have hw2 : a2 = -1 ∨ ∃ i, i ≤ 5 ∧ a2 = nI i := by
          rcases rng a2 0 5 (by omega) with ⟨i, -, hi, e⟩ | hi
          · exact Or.inr ⟨i, hi, e⟩
          · exact Or.inl (Int32.toInt_inj.mp (by rw [i1]; omega))
        refine ⟨fun hq => ?_, fun hq => eq_err h cc2 (by omega) (by omega) (fun P hP => err (iT (nI_le (b := 6) h6 (by omega)) (iF hq (m_error cc2 (by omega) (by omega) hP))))⟩
        have hw3 : a2 = -1 ∨ ∃ i, i < L.length ∧ a2 = nI i := by
          rcases hw2 with e | ⟨i, hi, e⟩
          · exact Or.inl e
          · rw [e] at hq
            exact Or.inr ⟨i, (nI_ltI (by omega) (by omega)).mp hq, e⟩
        obtain ⟨cc, q, eR, hql⟩ := pack_some (f := cso th cd st N) v.2.1.1 v.2.1.2 h6
        refine c_pack v c h6 hN (fun s1 k1 b1 => ?_)
        rw [eR] at b1 ⊢
        have mm : ∀ {P : Int32 → Sg → Prop}, (∀ t1, (∀ {s2 : Sg}, scr s s2 → Rel s2 t1) → t1 0 18 = cc → (∀ i, i < q.length → t1 12 i = nI (q.getD i 0)) → ((0 ≤ a2 → (vp_in a2 6 ∧ P (t1 12 (ix a2)) t1)) ∧ (¬ 0 ≤ a2 → P (t1 0 18) t1))) → wM_pack (nI N) a2 t P := by
          intro P p
          refine m_pack v m rfl h6 hN hw3 (fun t1 g1 g2 g3 b2 => ?_)
          rw [eR] at b2
          exact p t1 (fun hs => pack_Rel h hs g1 g2 g3) b2.1 b2.2.2
        rcases hw3 with e | ⟨i, hi, e⟩
        · subst e
          refine jT rfl (mm (fun t1 hr e18 _ => iF (by decide) ⟨?_, hr k1⟩))
          rw [e18]
          rfl
        · subst e
          refine jF (nn1 (by omega)) ⟨vp_in_nI (by omega) (by omega), mm (fun t1 hr _ e12 => iT (nI_pos' (by omega)) ⟨vp_in_nI (by omega) (by omega), ?_, hr k1⟩)⟩
          rw [ixn (by omega), e12 i (by omega)]
          have := IL_at b1.1 (i := i) (by rw [List.length_map]; omega)
          rw [getD_map (by omega)] at this
          exact this
      · have h6' : ¬ nI L.length ≤ 6 := fun z => h6 ((nI_leI (b := 6) (by omega) (by omega)).mp z)
        exact iF h6' (eq_err h cc3 (by omega) (by omega) (fun P hP => err (iF h6' (m_error cc3 (by omega) (by omega) hP))))
    · have bad : wB_failed (-1000000001) s (fun r s => wM_pack (nI N) a2 t (fun r2 t => r = r2 ∧ Rel s t)) := eq_err h cc1 (by omega) (by omega) (fun P hP => by
        unfold wM_pack
        exact m_inT (lo := 0) (hi := 20) (by omega) hN (by omega) (sel1 (m_in (fun h1 h2 => absurd (by rw [i1] at h1; rw [i5] at h2; exact ⟨h1, h2⟩) hw) (fun _ => les0 (m_error cc1 (by omega) (by omega) hP)))))
      refine ⟨fun _ => bad, fun z1 => ⟨fun z2 => absurd ⟨?_, ?_⟩ hw, fun _ => bad⟩⟩
      · rw [Int32.lt_iff_toInt_lt, i1] at z1
        omega
      · rw [Int32.lt_iff_toInt_lt, i6] at z2
        omega
  · have bad : wB_failed (-1000000001) s (fun r s => wM_pack a1 a2 t (fun r2 t => r = r2 ∧ Rel s t)) := eq_err h cc1 (by omega) (by omega) (fun P hP => m_inF (lo := 0) (hi := 20) (by omega) (by omega) hn (sel0 (m_error cc1 (by omega) (by omega) hP)))
    refine ⟨fun _ => bad, fun z1 => ⟨fun _ => bad, fun z2 => absurd ⟨?_, ?_⟩ hn⟩⟩
    · rw [Int32.lt_iff_toInt_lt, i0] at z1
      omega
    · rw [Int32.lt_iff_toInt_lt, i20] at z2
      omega
