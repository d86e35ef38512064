-- PURE: a new thing, tell, check, zip, untell
section TN
variable {s t : Sg} {b kn : Nat} {th : Nat → Nat → Nat} {L L2 : List Nat} {pk : Option Nat} {st se : Nat} {z : Int32} {tp : List Nat} {wt wt2 : List Int32} {cd : Nat → List Int32} {f g : Nat → Int32}
def thN (th : Nat → Nat → Nat) (x : Nat) (q : Nat → Nat) : Nat → Nat → Nat := fun a c => if a = x then q c else th a c
theorem CB_new {q : Nat → Nat} (h : CB s b kn th L pk st se z tp wt cd) (hk : kn < 9) (hf : ∀ a, b ≤ a → a < b + 31 → a ≠ b → a ≠ b + 10 + kn → t a = s a) (h0 : ∀ j, j ≠ 1 → t b j = s b j) (h1 : t b 1 = nI (kn + 1)) (hq : ∀ j, j < 4 → t (b + 10 + kn) j = nI (q j)) : CB t b (kn + 1) (thN th kn q) L pk st se z tp wt cd := by
  obtain ⟨⟨a1, a2, a3, a4, a5⟩, o, tpe, w, thg, tx⟩ := h
  refine ⟨⟨h1, by rw [h0 3 (by omega)]; exact a2, by rw [h0 4 (by omega)]; exact a3, by rw [h0 5 (by omega)]; exact a4, by rw [h0 6 (by omega)]; exact a5⟩, ?_, ?_, ?_, fun x hx j hj => ?_, fun u hu => ?_⟩
  · rw [hf (b + 2) (by omega) (by omega) (by omega) (by omega), hf (b + 3) (by omega) (by omega) (by omega) (by omega)]; exact o
  · rw [hf (b + 4) (by omega) (by omega) (by omega) (by omega), hf (b + 5) (by omega) (by omega) (by omega) (by omega)]; exact tpe
  · rw [hf (b + 7) (by omega) (by omega) (by omega) (by omega), hf (b + 8) (by omega) (by omega) (by omega) (by omega)]; exact w
  · unfold thN
    by_cases e : x = kn
    · subst e; rw [if_pos rfl]; exact hq j hj
    · rw [if_neg e, hf (b + 10 + x) (by omega) (by omega) (by omega) (by omega)]; exact thg x (by omega) j hj
  · rw [hf (b + 20 + 6 * u) (by omega) (by omega) (by omega) (by omega), hf (b + 21 + 6 * u) (by omega) (by omega) (by omega) (by omega)]; exact tx u hu
theorem MB_new {q : Nat → Nat} (h : MB f kn th L pk st se z tp wt cd) (hk : kn < 9) (hl : L.length ≤ 9) (hf : ∀ i, i ≠ 2 → ¬ (17 + 4 * kn ≤ i ∧ i < 21 + 4 * kn) → g i = f i) (h1 : g 2 = nI (kn + 1)) (hq : ∀ j, j < 4 → g (17 + 4 * kn + j) = nI (q j)) : MB g (kn + 1) (thN th kn q) L pk st se z tp wt cd := by
  obtain ⟨⟨a1, a2, a3, a4, a5⟩, o, tpe, w, thg, tx⟩ := h
  refine ⟨⟨h1, by rw [hf 4 (by omega) (by omega)]; exact a2, by rw [hf 0 (by omega) (by omega)]; exact a3, by rw [hf 1 (by omega) (by omega)]; exact a4, by rw [hf 7 (by omega) (by omega)]; exact a5⟩, ?_, ?_, ?_, fun x hx j hj => ?_, fun u hu => ?_⟩
  · exact IL_congr o (hf 3 (by omega) (by omega)) (fun i hi => hf (8 + i) (by omega) (by simp at hi; omega))
  · exact IL_congr tpe (hf 5 (by omega) (by omega)) (fun i hi => hf (53 + i) (by omega) (by omega))
  · exact IL_congr w (hf 6 (by omega) (by omega)) (fun i hi => hf (113 + i) (by omega) (by omega))
  · unfold thN
    by_cases e : x = kn
    · subst e; rw [if_pos rfl]; exact hq j hj
    · rw [if_neg e, hf _ (by omega) (by omega)]; exact thg x (by omega) j hj
  · refine ⟨by rw [hf (137 + 121 * u) (by omega) (by omega)]; exact (tx u hu).1, fun i c hc => ?_⟩
    rw [hf (138 + 121 * u + i) (by omega) (by omega), hf (198 + 121 * u + i) (by omega) (by omega)]
    exact (tx u hu).2 i c hc
theorem CB_wt (h : CB s b kn th L pk st se z tp wt cd) (hk : kn ≤ 9) (hf : ∀ a, b ≤ a → a < b + 31 → a ≠ b + 7 → a ≠ b + 8 → t a = s a) (ho : IL (t (b + 7) 1) (t (b + 8)) wt2) : CB t b kn th L pk st se z tp wt2 cd := by
  obtain ⟨⟨a1, a2, a3, a4, a5⟩, o, tpe, w, thg, tx⟩ := h
  refine ⟨?_, ?_, ?_, ho, fun x hx j hj => ?_, fun u hu => ?_⟩
  · rw [hf b (by omega) (by omega) (by omega) (by omega)]; exact ⟨a1, a2, a3, a4, a5⟩
  · rw [hf (b + 2) (by omega) (by omega) (by omega) (by omega), hf (b + 3) (by omega) (by omega) (by omega) (by omega)]; exact o
  · rw [hf (b + 4) (by omega) (by omega) (by omega) (by omega), hf (b + 5) (by omega) (by omega) (by omega) (by omega)]; exact tpe
  · rw [hf (b + 10 + x) (by omega) (by omega) (by omega) (by omega)]; exact thg x hx j hj
  · rw [hf (b + 20 + 6 * u) (by omega) (by omega) (by omega) (by omega), hf (b + 21 + 6 * u) (by omega) (by omega) (by omega) (by omega)]; exact tx u hu
theorem MB_wt (h : MB f kn th L pk st se z tp wt cd) (hk : kn ≤ 9) (hl : L.length ≤ 9) (ht : tp.length ≤ 60) (hf : ∀ i, i ≠ 6 → ¬ (113 ≤ i ∧ i < 137) → g i = f i) (ho : IL (g 6) (fun i => g (113 + i)) wt2) : MB g kn th L pk st se z tp wt2 cd := by
  obtain ⟨⟨a1, a2, a3, a4, a5⟩, o, tpe, w, thg, tx⟩ := h
  refine ⟨?_, ?_, ?_, ho, fun x hx j hj => ?_, fun u hu => ?_⟩
  · rw [hf 2 (by omega) (by omega), hf 4 (by omega) (by omega), hf 0 (by omega) (by omega), hf 1 (by omega) (by omega), hf 7 (by omega) (by omega)]; exact ⟨a1, a2, a3, a4, a5⟩
  · exact IL_congr o (hf 3 (by omega) (by omega)) (fun i hi => hf (8 + i) (by omega) (by simp at hi; omega))
  · exact IL_congr tpe (hf 5 (by omega) (by omega)) (fun i hi => hf (53 + i) (by omega) (by simp at hi; omega))
  · rw [hf _ (by omega) (by omega)]; exact thg x hx j hj
  · refine ⟨by rw [hf (137 + 121 * u) (by omega) (by omega)]; exact (tx u hu).1, fun i c hc => ?_⟩
    rw [hf (138 + 121 * u + i) (by omega) (by omega), hf (198 + 121 * u + i) (by omega) (by omega)]
    exact (tx u hu).2 i c hc
end TN
theorem eq_thing {a1 a2 a3 : Int32} {s t : Sg} (h : Rel s t) : wB_thing a1 a2 a3 s (fun r s => wM_thing a1 a2 a3 t (fun r2 t => r = r2 ∧ Rel s t)) := by
  obtain ⟨kn, th, L, pk, st, se, z, tp, wt, cd, v, c, m⟩ := id h.1
  have hlen := VB_len v
  have hk := v.1
  unfold wB_thing
  rcases rng a1 0 69 (by omega) with ⟨n, -, hn, rfl⟩ | hn
  · refine p_kmT hn (sel1 ?_)
    rcases rng a2 0 99 (by omega) with ⟨w, -, hw, rfl⟩ | hw
    · refine p_wtT hw (sel1 ?_)
      rcases rng a3 1 9 (by omega) with ⟨q, hq1, hq9, rfl⟩ | hq
      · refine iF (nI_nlt (b := 1) hq1 (by omega)) (iT (nI_le (b := 9) hq9 (by omega)) ?_)
        have mm : ∀ {P : Int32 → Sg → Prop}, _ → wM_thing (nI n) (nI w) (nI q) t P := fun {P} x => m_kmT hn (sel1 (m_inT (lo := 0) (hi := 99) (by omega) hw (by omega) (sel1 (m_inT (lo := 1) (hi := 9) hq1 hq9 (by omega) (les1 x)))))
        rw [c.1.1]
        by_cases hk9 : kn = 9
        · refine iF (fun e => ?_) (eq_err h cc4 (by omega) (by omega) (fun P hP => mm ?_))
          · subst hk9; exact absurd e (by decide)
          · rw [m.1.1]
            subst hk9
            exact jT rfl (m_error cc4 (by omega) (by omega) hP)
        · have hk8 : kn < 9 := by omega
          refine iT (nI_lt (b := 9) hk8 (by omega)) ?_
          unfold wBag_addThing
          rw [c.1.1, t11 (by omega), r10 (by omega), d10 (by omega)]
          refine ⟨vp_in_nI hk8 (by omega), fun s1 e1 s2 e2 s3 e3 s4 e4 s5 e5 => ?_⟩
          have hc5 : CB s5 1 (kn + 1) (thN th kn (fun j => if j = 0 then n / 10 else if j = 1 then n % 10 else if j = 2 then w else q)) L pk st se z tp wt cd := by
            refine CB_new c hk8 (fun a h1 h2 h3 h4 => ?_) (fun j hj => ?_) ?_ (fun j hj => ?_)
            · subst e5; rw [u2_other h3]; subst e4; rw [u2_other h4]; subst e3; rw [u2_other h4]; subst e2; rw [u2_other h4]; subst e1; rw [u2_other h4]
            · subst e5; rw [u2_ne (by omega)]; subst e4; rw [u2_ne (by omega)]; subst e3; rw [u2_ne (by omega)]; subst e2; rw [u2_ne (by omega)]; subst e1; rw [u2_ne (by omega)]
            · subst e5; rw [u2_same]; subst e4; rw [u2_ne (by omega)]; subst e3; rw [u2_ne (by omega)]; subst e2; rw [u2_ne (by omega)]; subst e1; rw [u2_ne (by omega), c.1.1, nI_1]
            · subst e5; rw [u2_ne (by omega)]
              rcases (show j = 0 ∨ j = 1 ∨ j = 2 ∨ j = 3 by omega) with rfl | rfl | rfl | rfl
              · subst e4; rw [u2_ne (by omega)]; subst e3; rw [u2_ne (by omega)]; subst e2; rw [u2_ne (by omega)]; subst e1; rw [u2_same]; rfl
              · subst e4; rw [u2_ne (by omega)]; subst e3; rw [u2_ne (by omega)]; subst e2; rw [u2_same]; rfl
              · subst e4; rw [u2_ne (by omega)]; subst e3; rw [u2_same]; rfl
              · subst e4; rw [u2_same]; rfl
          have hf5 : ∀ a, ¬ (1 ≤ a ∧ a ≤ 31) → s5 a = s a := fun a ha => by
            subst e5; rw [u2_other (by omega)]; subst e4; rw [u2_other (by omega)]; subst e3; rw [u2_other (by omega)]; subst e2; rw [u2_other (by omega)]; subst e1; rw [u2_other (by omega)]
          refine p_addOnTop (l := L.map nI) hc5.2.1 (by rw [cp3]; simp; omega) cap9 (fun s6 hs6 hf6 => ?_)
          refine mm ?_
          rw [m.1.1]
          refine jF (fun e => hk9 (nI_inj (by omega) (by omega) e)) (fun t1 f1 => ?_)
          have i0 : (17 : Int32) + 4 * nI kn = nI (17 + 4 * kn + 0) := by rw [show (17 : Int32) = nI 17 from rfl, show (4 : Int32) = nI 4 from rfl, pk_mul, nI_add]; rfl
          rw [show ((17 : Int32) + 4 * nI kn + 1) = nI (17 + 4 * kn + 1) from m17 kn 1, show ((17 : Int32) + 4 * nI kn + 2) = nI (17 + 4 * kn + 2) from m17 kn 2, show ((17 : Int32) + 4 * nI kn + 3) = nI (17 + 4 * kn + 3) from m17 kn 3, i0, ixn (by omega), ixn (by omega), ixn (by omega), ixn (by omega), r10 (by omega), d10 (by omega)]
          refine ⟨vp_in_nI (by omega) (by omega), fun t2 f2 => ⟨vp_in_nI (by omega) (by omega), fun t3 f3 => ⟨vp_in_nI (by omega) (by omega), fun t4 f4 => ⟨vp_in_nI (by omega) (by omega), fun t5 f5 => ?_⟩⟩⟩⟩
          rw [nI_1] at f1
          have hm5 : MB (t5 1) (kn + 1) (thN th kn (fun j => if j = 0 then n / 10 else if j = 1 then n % 10 else if j = 2 then w else q)) L pk st se z tp wt cd := by
            refine MB_new m hk8 (by omega) (fun i h1 h2 => ?_) ?_ (fun j hj => ?_)
            · subst f5; rw [u2_ne (by omega)]; subst f4; rw [u2_ne (by omega)]; subst f3; rw [u2_ne (by omega)]; subst f2; rw [u2_ne (by omega)]; subst f1; rw [u2_ne (by omega)]
            · subst f5; rw [u2_ne (by omega)]; subst f4; rw [u2_ne (by omega)]; subst f3; rw [u2_ne (by omega)]; subst f2; rw [u2_ne (by omega)]; subst f1; rw [u2_same]
            · rcases (show j = 0 ∨ j = 1 ∨ j = 2 ∨ j = 3 by omega) with rfl | rfl | rfl | rfl
              · subst f5; rw [u2_ne (by omega)]; subst f4; rw [u2_ne (by omega)]; subst f3; rw [u2_ne (by omega)]; subst f2; rw [u2_same]; rfl
              · subst f5; rw [u2_ne (by omega)]; subst f4; rw [u2_ne (by omega)]; subst f3; rw [u2_same]; rfl
              · subst f5; rw [u2_ne (by omega)]; subst f4; rw [u2_same]; rfl
              · subst f5; rw [u2_same]; rfl
          have hg5 : ∀ a, a ≠ 1 → t5 a = t a := fun a ha => by
            subst f5; rw [u2_other ha]; subst f4; rw [u2_other ha]; subst f3; rw [u2_other ha]; subst f2; rw [u2_other ha]; subst f1; rw [u2_other ha]
          refine m_goesOnTop (l := L.map nI) hm5.2.1 (by simp; omega) (fun t6 ht6 hg6 => ⟨rfl, ?_⟩)
          have hk1 : kn + 1 ≤ 9 := by omega
          refine Rel_of h (fun a h1 h2 => (hf6 a (by omega) (by omega)).trans (hf5 a h1)) (frM1 (fun a ha => (hg6.1 a ha).trans (hg5 a ha))) ⟨kn + 1, _, kn :: L, pk, st, se, z, tp, wt, cd, ?_, CB_order hc5 hk1 (fun a _ _ h3 h4 => hf6 a (by omega) (by omega)) hs6, MB_order hm5 hk1 hg6.2 ht6⟩
          obtain ⟨v1, ⟨v2, v3⟩, v4, v5, v6, v7, v8, v9, v10⟩ := v
          refine ⟨hk1, ⟨List.nodup_cons.mpr ⟨fun hm => ?_, v2⟩, fun y hy => ?_⟩, fun y hy => ⟨by have := (v4 y hy).1; omega, fun hm => ?_⟩, v5, v6, v7, v8, fun y hy => ?_, v10⟩
          · have := v3 _ hm; omega
          · rcases List.mem_cons.mp hy with rfl | hy
            · omega
            · have := v3 y hy; omega
          · rcases List.mem_cons.mp hm with rfl | hm
            · have := (v4 _ hy).1; omega
            · exact (v4 y hy).2 hm
          · unfold thN
            by_cases e : y = kn
            · simp [e]; omega
            · simp [e]; exact v9 y (by omega)
      · have bad : wB_failed (-1000000001) s (fun r s => wM_thing (nI n) (nI w) a3 t (fun r2 t => r = r2 ∧ Rel s t)) := eq_err h cc1 (by omega) (by omega) (fun P hP => m_kmT hn (sel1 (m_inT (lo := 0) (hi := 99) (by omega) hw (by omega) (sel1 (m_inF (lo := 1) (hi := 9) (by omega) (by omega) hq (les0 (m_error cc1 (by omega) (by omega) hP)))))))
        simp only [Int32.lt_iff_toInt_lt, Int32.le_iff_toInt_le, show (1 : Int32).toInt = 1 by decide, show (9 : Int32).toInt = 9 by decide]
        exact ⟨fun _ => bad, fun z1 => ⟨fun z2 => absurd ⟨by omega, by omega⟩ hq, fun _ => bad⟩⟩
    · exact p_wtF hw (sel0 (eq_err h cc1 (by omega) (by omega) (fun P hP => m_kmT hn (sel1 (m_inF (lo := 0) (hi := 99) (by omega) (by omega) hw (sel0 (m_error cc1 (by omega) (by omega) hP)))))))
  · exact p_kmF hn (sel0 (eq_err h cc1 (by omega) (by omega) (fun P hP => m_kmF hn (sel0 (m_error cc1 (by omega) (by omega) hP)))))
-- the waiting answers
theorem cp8 : cap 8 = 24 := by decide +kernel
theorem eq_tell {a1 : Int32} {s t : Sg} (h : Rel s t) : wB_tell a1 s (fun r s => wM_tell a1 t (fun r2 t => r = r2 ∧ Rel s t)) := by
  obtain ⟨kn, th, L, pk, st, se, z, tp, wt, cd, v, c, m⟩ := id h.1
  have hlen := VB_len v
  have hk := v.1
  have hwt := v.2.2.2.2.2.2.1
  have htp := v.2.2.2.2.2.1.1
  unfold wB_tell
  have e8 : s 8 1 = nI wt.length := c.2.2.2.1.1
  rw [e8]
  by_cases q : wt.length = 24
  · refine iF (fun e => ?_) (eq_err h cc4 (by omega) (by omega) (fun P hP => ?_))
    · rw [q] at e; exact absurd e (by decide)
    · unfold wM_tell
      rw [m.2.2.2.1.1, q]
      exact jT rfl (m_error cc4 (by omega) (by omega) hP)
  · refine iT (nI_lt (b := 24) (by omega) (by omega)) (p_add (l := wt) c.2.2.2.1 (by rw [cp8]; omega) (by rw [cp8]; omega) (fun s1 hs1 hf1 => ?_))
    unfold wM_tell
    rw [m.2.2.2.1.1, show (113 : Int32) + nI wt.length = nI (113 + wt.length) from nI_add 113 _, ixn (by omega)]
    refine jF (fun e => q (nI_inj (by omega) (by omega) e)) ⟨vp_in_nI (by omega) (by omega), fun t1 f1 t2 f2 => ?_⟩
    have g6 : t2 1 6 = nI (wt ++ [a1]).length := by
      subst f2; rw [u2_same]; subst f1; rw [u2_ne (by omega), m.2.2.2.1.1, nI_1]; simp
    refine ⟨hs1.1.trans g6.symm, ?_⟩
    refine Rel_of h (fun a h1 h2 => hf1 a (by omega) (by omega)) (frM1 (fun a ha => by subst f2; rw [u2_other ha]; subst f1; rw [u2_other ha])) ⟨kn, th, L, pk, st, se, z, tp, wt ++ [a1], cd, ?_, CB_wt c hk (fun a _ _ h3 h4 => hf1 a (by omega) (by omega)) hs1, MB_wt m hk (by omega) htp (fun i h1 h2 => ?_) (IL_of g6 (fun i hi => ?_))⟩
    · obtain ⟨v1, v2, v4, v5, v6, v7, v8, v9⟩ := v
      exact ⟨v1, v2, v4, v5, v6, v7, by simp; omega, v9⟩
    · subst f2; rw [u2_ne (by omega)]; subst f1; rw [u2_ne (by omega)]
    · subst f2; rw [u2_ne (by omega)]; subst f1
      by_cases e : i = wt.length
      · subst e; rw [u2_same]; simp
      · rw [u2_ne (by omega)]
        have : i < wt.length := by simp at hi; omega
        rw [List.getElem_append_left this]
        exact IL_at m.2.2.2.1 this
