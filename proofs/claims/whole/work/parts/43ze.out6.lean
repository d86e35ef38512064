-- PURE: out
theorem eq_out {a1 a2 a3 : Int32} {s t : Sg} (h : Rel s t) : wB_out a1 a2 a3 s (fun r s => wM_out a1 a2 a3 t (fun r2 t => r = r2 ∧ Rel s t)) := by
  obtain ⟨kn, th, L, pk, st, se, z, tp, wt, cd, v, c, m⟩ := id h.1
  have hk := v.1
  have hlen := VB_len v
  unfold wB_out
  rcases nthing (a := a1) hk with ⟨x, hx, rfl⟩ | hn
  · refine p_knowsT c.1.1 (by omega) hx (sel1 ?_)
    rcases rng a2 0 999 (by omega) with ⟨q, -, hq, rfl⟩ | hn
    · refine p_askT hq (sel1 ?_)
      rcases rng a3 0 1 (by omega) with ⟨w, -, hw, rfl⟩ | hw
      · refine iF (nI_pos (by omega)) (iT (nI_le (b := 1) hw (by omega)) ?_)
        by_cases hxL : x ∈ L
        · obtain ⟨O, hO, eO⟩ := otI_nat (L := L) (x := x) (fun y hy => by have := v.2.1.2 y hy; omega)
          refine c_where c v (by omega) (fun i hi => iT (nI_pos' (by have := (List.getElem?_eq_some_iff.mp hi).1; omega)) (c_out v c hx hO eO (fun s1 k1 => ?_))) (fun q1 => absurd hxL q1) (fun q1 => absurd hxL q1)
          have hlt := lof_lt (th := th) (cd := cd) (x := x) (q := nI q) (L := L) (o := nI O) (O + 1) 0 none (by omega) (fun B e => by cases e)
          have mm : ∀ {P : Int32 → Sg → Prop}, (∀ t1, oI t t1 → ((0 ≤ bst (lof th cd x (nI q) L (nI O) (O + 1) 0 none) → ((¬ nI w = 0 → P (bst (lof th cd x (nI q) L (nI O) (O + 1) 0 none)) t1) ∧ (nI w = 0 → (wM_bits (bst (lof th cd x (nI q) L (nI O) (O + 1) 0 none)) t1 (fun (r6 : Int32) (s8 : Sg) => P r6 s8))))) ∧ (¬ 0 ≤ bst (lof th cd x (nI q) L (nI O) (O + 1) 0 none) → (wM_error ((-1000000002)) t1 (fun (r6 : Int32) (s8 : Sg) => P r6 s8))))) → wM_out (nI x) (nI q) (nI w) t P := by
            intro P p
            unfold wM_out
            refine m_isThingT m.1.1 (by omega) hx (sel1 (m_inT (lo := 0) (hi := 999) (by omega) hq (by omega) (sel1 (m_inT (lo := 0) (hi := 1) (by omega) hw (by omega) (les1 (m_where m v (by omega) (fun i hi => iT (nI_pos' (by have := (List.getElem?_eq_some_iff.mp hi).1; omega)) (m_inside v m (m_thinks (fun t1 h3 hf => ⟨O + 2, ?_⟩)))) (fun q1 => absurd hxL q1) (fun q1 => absurd hxL q1)))))))
            rw [show mkI L 0 &&& ((1 <<< (nI x &&& 31)) ^^^ (-1)) = nI O from eO]
            exact m_outL (m0 := mkI L 0) v t m hx hxL hO eO _ p (O + 1) 0 none t1 (by omega) ⟨h3, fun i hi => by rw [hf 1 (by omega)], fun a _ h3' _ _ => hf a h3'⟩ (fun B e => by cases e) rfl
          cases hR : lof th cd x (nI q) L (nI O) (O + 1) 0 none with
          | none =>
            rw [hR] at mm
            exact jT rfl (p_failed cc2 (by omega) (by omega) (mm (fun t1 g1 => iF (by decide) (m_error cc2 (by omega) (by omega) ⟨rfl, Rel_err (oI_Rel h k1 g1)⟩))))
          | some B =>
            rw [hR] at mm
            have hB := hlt B hR
            refine jF (show ¬ bst (some B) = -1 from nn1 (by omega)) ⟨fun qw => mm (fun t1 g1 => iT (show 0 ≤ bst (some B) from nI_pos' (by omega)) (jF qw ⟨rfl, oI_Rel h k1 g1⟩)), fun qw => p_bits hB (mm (fun t1 g1 => iT (show 0 ≤ bst (some B) from nI_pos' (by omega)) (jT qw (m_bits hB ⟨rfl, oI_Rel h k1 g1⟩))))⟩
        · have bad : wB_failed (-1000000003) s (fun r s => wM_out (nI x) (nI q) (nI w) t (fun r2 t => r = r2 ∧ Rel s t)) := eq_err h cc3 (by omega) (by omega) (fun P hP => m_isThingT m.1.1 (by omega) hx (sel1 (m_inT (lo := 0) (hi := 999) (by omega) hq (by omega) (sel1 (m_inT (lo := 0) (hi := 1) (by omega) hw (by omega) (les1 (m_where m v (by omega) (fun i hi => absurd (List.mem_of_getElem? hi) hxL) (fun _ _ => iF (by decide) (m_error cc3 (by omega) (by omega) hP)) (fun _ _ => iF (by decide) (m_error cc3 (by omega) (by omega) hP)))))))))
          exact c_where c v (by omega) (fun i hi => absurd (List.mem_of_getElem? hi) hxL) (fun _ _ => iF (by decide) bad) (fun _ _ => iF (by decide) bad)
      · have bad : wB_failed (-1000000001) s (fun r s => wM_out (nI x) (nI q) a3 t (fun r2 t => r = r2 ∧ Rel s t)) := eq_err h cc1 (by omega) (by omega) (fun P hP => m_isThingT m.1.1 (by omega) hx (sel1 (m_inT (lo := 0) (hi := 999) (by omega) hq (by omega) (sel1 (m_inF (lo := 0) (hi := 1) (by omega) (by omega) hw (les0 (m_error cc1 (by omega) (by omega) hP)))))))
        simp only [Int32.lt_iff_toInt_lt, Int32.le_iff_toInt_le, show (0 : Int32).toInt = 0 by decide, show (1 : Int32).toInt = 1 by decide]
        exact ⟨fun _ => bad, fun z1 => ⟨fun z2 => absurd ⟨by omega, by omega⟩ hw, fun _ => bad⟩⟩
    · exact p_askF hn (sel0 (eq_err h cc1 (by omega) (by omega) (fun P hP => m_isThingT m.1.1 (by omega) hx (sel1 (m_inF (lo := 0) (hi := 999) (by omega) (by omega) hn (sel0 (m_error cc1 (by omega) (by omega) hP)))))))
  · exact p_knowsF c.1.1 (by omega) hn (sel0 (eq_err h cc1 (by omega) (by omega) (fun P hP => m_isThingF m.1.1 (by omega) hn (sel0 (m_error cc1 (by omega) (by omega) hP)))))
