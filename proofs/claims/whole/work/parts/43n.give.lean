-- PURE: the law, on; both sides give
def mq (s t : Sg) : Prop := t 1 = s 1 ∧ frM s t
theorem mq.refl {s : Sg} : mq s s := ⟨rfl, frM.refl⟩
theorem mq.trans {s t u : Sg} (h1 : mq s t) (h2 : mq t u) : mq s u := ⟨h2.1.trans h1.1, h1.2.trans h2.2⟩
theorem mq10 {s t : Sg} (h : ∀ a, a ≠ 10 → a ≠ 11 → t a = s a) : mq s t :=
  ⟨h 1 (by omega) (by omega), ⟨by rw [h 0 (by omega) (by omega)], by rw [h 0 (by omega) (by omega)]⟩, fun a ha => h a (by intro e; subst e; simp at ha) (by intro e; subst e; simp at ha)⟩
theorem m_worksL {u : Nat} {p0 p1 p2 : Int32} {K : Sg → Prop} {cs : List Int32} (hu : u < 2) (hN : cs.length ≤ 60) (s0 : Sg) (hc0 : s0 1 (137 + 121 * u) = nI cs.length) (hc : ∀ (i : Nat) (c : Int32), cs[i]? = some c → s0 1 (138 + 121 * u + i) = acO c ∧ s0 1 (198 + 121 * u + i) = wiO c) (f0 : s0 10 0 = p0) (f1 : s0 10 1 = p1) (f2 : s0 10 2 = p2) (hR : ∀ t a, (∀ x, x ≠ 11 → t x = s0 x) → t 11 0 = a → (ev p0 p1 p2 cs []) = [a] → K t) : ∀ (r : List Int32) (i : Nat) (st : List Int32) (s : Sg), i + r.length = cs.length → (∀ (j : Nat) (hj : j < r.length), cs[i + j]? = some r[j]) → (∀ c ∈ r, cOk c) → hgt r st.length = some 1 → st.length ≤ i → (∀ x, x ≠ 11 → s x = s0 x) → PSt (s 11) st → ev p0 p1 p2 r st = ev p0 p1 p2 cs [] → wM_works_4 (nI (137 + 121 * u)) K (r.length + 1) (nI st.length) (nI i) s := by
  intro r
  induction r with
  | nil =>
    intro i st s hi hcs hok hh hst hf hp he
    rw [wM_works_4, ixn (by omega), hf 1 (by omega), hc0]
    refine ⟨vp_in_nI (by omega) (by omega), ?_⟩
    rw [hgt] at hh
    have h1 : st.length = 1 := Option.some.inj hh
    refine iT (nI_le (by simp at hi; omega) (by simp at hi; omega)) ?_
    obtain ⟨a, rfl⟩ := List.length_eq_one_iff.mp h1
    exact hR s a hf hp.1 he.symm
  | cons c r ih =>
    intro i st s hi hcs hok hh hst hf hp he
    simp at hi
    rw [wM_works_4, show nI (137 + 121 * u) + 1 + nI i = nI (138 + 121 * u + i) by rw [nI_1, nI_add, show 137 + 121 * u + 1 = 138 + 121 * u by omega], show nI (137 + 121 * u) + 61 + nI i = nI (198 + 121 * u + i) by rw [show (61 : Int32) = nI 61 from rfl, nI_add, nI_add, show 137 + 121 * u + 61 = 198 + 121 * u by omega], ixn (by omega), ixn (by omega), ixn (show 198 + 121 * u + i < 2 ^ 31 by omega), hf 1 (by omega), hf 10 (by omega), hc0]
    have hcc := hcs 0 (by simp)
    simp at hcc
    obtain ⟨g1, g2⟩ := hc i c hcc
    rw [g1, g2]
    refine ⟨vp_in_nI (by omega) (by omega), iF (nI_ge (by omega) (by omega)) ⟨vp_in_nI (by omega) (by omega), ?_⟩⟩
    have hcs2 : ∀ (j : Nat) (hj : j < r.length), cs[i + 1 + j]? = some r[j] := fun j hj => by
      have := hcs (j + 1) (by simpa using hj)
      rw [show i + 1 + j = i + (j + 1) by omega]
      simpa using this
    have hok2 : ∀ c ∈ r, cOk c := fun x hx => hok x (List.mem_cons_of_mem _ hx)
    rw [hgt] at hh
    have push : ∀ v : Int32, vlf p0 p1 p2 c = v → -3 ≤ c.toInt → vp_in (nI st.length) 60 ∧ ∀ s1 : Sg, s1 = u2 s 11 (ix (nI st.length)) v → wM_works_4 (nI (137 + 121 * u)) K (r.length + 1) (nI st.length + 1) (nI i + 1) s1 := by
      intro v hv h3
      refine ⟨vp_in_nI (by omega) (by omega), fun s1 e1 => ?_⟩
      rw [ixn (by omega)] at e1
      rw [if_pos h3] at hh
      rw [ev_p h3, hv] at he
      rw [nI_1, nI_1]
      subst e1
      refine ih (i + 1) (v :: st) _ (by omega) hcs2 hok2 (by simpa using hh) (by simp; omega) (fun x hx => (u2_other hx).trans (hf x hx)) ⟨u2_same, PSt_congr st (fun j hj => u2_ne (by omega)) hp⟩ he
    by_cases h0 : 0 ≤ c.toInt
    · have ea : acO c = 1 := by unfold acO; rw [if_pos h0]
      have ew : wiO c = c := by unfold wiO; rw [if_pos h0]
      rw [ea, ew]
      refine iT rfl (jT rfl ⟨vp_in_nI (by omega) (by omega), push c ?_ (by omega)⟩)
      unfold vlf; rw [if_pos h0]
    · by_cases h3 : -3 ≤ c.toInt
      · have ea : acO c = 2 := by unfold acO; rw [if_neg h0, if_pos h3]
        have ew : wiO c = -1 - c := by unfold wiO; rw [if_neg h0, if_pos h3]
        rw [ea, ew]
        refine iF (by decide) (jT rfl (jF (by decide) ⟨vp_in_nI (by omega) (by omega), ?_⟩))
        have hcv : c = -1 ∨ c = -2 ∨ c = -3 := by
          rcases (show c.toInt = -1 ∨ c.toInt = -2 ∨ c.toInt = -3 by omega) with e | e | e
          · exact Or.inl (Int32.toInt_inj.mp (by rw [e]; decide))
          · exact Or.inr (Or.inl (Int32.toInt_inj.mp (by rw [e]; decide)))
          · exact Or.inr (Or.inr (Int32.toInt_inj.mp (by rw [e]; decide)))
        rcases hcv with rfl | rfl | rfl
        · rw [show ((-1 : Int32) - (-1)) = nI 0 by decide +kernel, ixn (n := 0) (by omega), f0]
          refine ⟨vp_in_nI (by omega) (by omega), ?_⟩
          exact push p0 (by unfold vlf; rw [if_neg h0, if_pos rfl]) h3
        · rw [show ((-1 : Int32) - (-2)) = nI 1 by decide +kernel, ixn (n := 1) (by omega), f1]
          refine ⟨vp_in_nI (by omega) (by omega), ?_⟩
          exact push p1 (by unfold vlf; rw [if_neg h0, if_neg (by decide), if_pos rfl]) h3
        · rw [show ((-1 : Int32) - (-3)) = nI 2 by decide +kernel, ixn (n := 2) (by omega), f2]
          refine ⟨vp_in_nI (by omega) (by omega), ?_⟩
          exact push p2 (by unfold vlf; rw [if_neg h0, if_neg (by decide), if_neg (by decide)]) h3
      · rw [if_neg h3] at hh
        by_cases h33 : c = -33
        · have ea : acO c = 3 := by unfold acO; rw [if_neg h0, if_neg h3, if_pos h33]
          rw [ea]
          refine iF (by decide) (jF (by decide) (jT rfl ?_))
          rw [if_pos h33] at hh
          cases st with
          | nil => simp at hh
          | cons a st =>
            simp only [List.length_cons] at hh hst
            rw [ev_n h3 h33] at he
            have hh2 : hgt r (st.length + 1) = some 1 := by rw [if_neg (by omega)] at hh; exact hh
            rw [List.length_cons, nI_pred, ixn (by omega), nI_1]
            rw [hp.1]
            refine ⟨vp_in_nI (by omega) (by omega), fun q => ⟨vp_in_nI (by omega) (by omega), fun s1 e1 => ?_⟩, fun q => ⟨vp_in_nI (by omega) (by omega), fun s1 e1 => ?_⟩⟩
            · subst e1
              have he2 : ev p0 p1 p2 r (0 :: st) = ev p0 p1 p2 cs [] := by simpa [q] using he
              exact ih (i + 1) (0 :: st) _ (by omega) hcs2 hok2 (by simpa using hh2) (by simp; omega) (fun x hx => (u2_other hx).trans (hf x hx)) ⟨u2_same, PSt_congr st (fun j hj => u2_ne (by omega)) hp.2⟩ he2
            · subst e1
              have he2 : ev p0 p1 p2 r (1 :: st) = ev p0 p1 p2 cs [] := by simpa [q] using he
              exact ih (i + 1) (1 :: st) _ (by omega) hcs2 hok2 (by simpa using hh2) (by simp; omega) (fun x hx => (u2_other hx).trans (hf x hx)) ⟨u2_same, PSt_congr st (fun j hj => u2_ne (by omega)) hp.2⟩ he2
        · have ea : acO c = -c := by unfold acO; rw [if_neg h0, if_neg h3, if_neg h33]
          have hm := ngc (hok c List.mem_cons_self) h3 h33
          rw [ea]
          have hne : ∀ x : Int32, x ∈ [(1 : Int32), 2, 3] → -c ≠ x := fun x hx e => by
            rw [e] at hm
            simp only [List.mem_cons, List.not_mem_nil, or_false] at hx
            rcases hx with rfl | rfl | rfl <;> exact absurd hm (by decide)
          refine iF (hne 1 (by decide)) (jF (hne 2 (by decide)) (jF (hne 3 (by decide)) ?_))
          rw [if_neg h33] at hh
          cases st with
          | nil => simp at hh
          | cons b st =>
            cases st with
            | nil => simp at hh
            | cons a st =>
              simp only [List.length_cons] at hh hst
              rw [ev_o h3 h33] at he
              have hh2 : hgt r (st.length + 1) = some 1 := by rw [if_neg (by omega)] at hh; exact hh
              rw [List.length_cons, List.length_cons, pk_m1, nI_pred, ixn (by omega), ixn (by omega), nI_1]
              have e1 : s 11 (st.length + 1) = b := hp.1
              have e2 : s 11 st.length = a := hp.2.1
              rw [e1, e2]
              refine ⟨vp_in_nI (by omega) (by omega), vp_in_nI (by omega) (by omega), m_twoOf ⟨vp_in_nI (by omega) (by omega), fun s1 e3 => ?_⟩⟩
              subst e3
              exact ih (i + 1) (opc (-c) a b :: st) _ (by omega) hcs2 hok2 (by simpa using hh2) (by simp; omega) (fun x hx => (u2_other hx).trans (hf x hx)) ⟨u2_same, PSt_congr st (fun j hj => u2_ne (by omega)) hp.2.2⟩ he
def cl9 (r : Int32) : Int32 := if 0 < (if r < 99 then r else 99) then (if r < 99 then r else 99) else 0
theorem m_held9 {r : Int32} {s : Sg} {P : Int32 → Sg → Prop} (h : P (cl9 r) s) : wM_held r 0 99 s P := by
  unfold wM_held
  unfold cl9 at h
  simp only [Int32.lt_iff_toInt_lt, Int32.le_iff_toInt_le, show (0 : Int32).toInt = 0 by decide, show (99 : Int32).toInt = 99 by decide] at h ⊢
  refine ⟨fun z => ⟨fun z2 => ?_, fun z2 => ?_⟩, fun z => ?_⟩
  · by_cases q : r.toInt < 99
    · rw [if_pos q] at h
      by_cases q0 : 0 < r.toInt
      · rw [if_pos q0] at h; exact h
      · rw [if_neg q0] at h
        have : r = 0 := Int32.toInt_inj.mp (by rw [show (0 : Int32).toInt = 0 by decide]; omega)
        rw [this]; exact h
    · rw [if_neg q, if_pos (by decide)] at h
      have : r = 99 := Int32.toInt_inj.mp (by rw [show (99 : Int32).toInt = 99 by decide]; omega)
      rw [this]; exact h
  · rw [if_neg (show ¬ r.toInt < 99 by omega), if_pos (by decide)] at h; exact h
  · rw [if_pos (show r.toInt < 99 by omega), if_neg (show ¬ 0 < r.toInt by omega)] at h; exact h
theorem cl9_nat (r : Int32) : ∃ n, n ≤ 99 ∧ cl9 r = nI n := by
  unfold cl9
  by_cases q : r < 99
  · rw [if_pos q]
    by_cases q0 : 0 < r
    · rw [if_pos q0]
      rw [Int32.lt_iff_toInt_lt] at q q0
      rw [show (99 : Int32).toInt = 99 by decide] at q
      rw [show (0 : Int32).toInt = 0 by decide] at q0
      exact ⟨r.toInt.toNat, by omega, Int32.toInt_inj.mp (by rw [nI_toInt (by omega)]; omega)⟩
    · rw [if_neg q0]; exact ⟨0, by omega, rfl⟩
  · rw [if_neg q, if_pos (by decide)]; exact ⟨99, by omega, rfl⟩
/-- what a use gives -/
def gvw (cd : Nat → List Int32) (u : Nat) (p0 p1 p2 : Int32) : Int32 := cl9 (if (cd u).length = 0 then (if u = 0 then p0 + p1 else p2) else (ev p0 p1 p2 (cd u) []).headD 0)
theorem gvw_nat (cd : Nat → List Int32) (u : Nat) (p0 p1 p2 : Int32) : ∃ n, n ≤ 99 ∧ gvw cd u p0 p1 p2 = nI n := cl9_nat _
section GIV
variable {s t : Sg} {kn : Nat} {th : Nat → Nat → Nat} {L : List Nat} {pk : Option Nat} {st se : Nat} {z : Int32} {tp : List Nat} {wt : List Int32} {cd : Nat → List Int32}
/-- scratch of the class's -/
def scr (s t : Sg) : Prop := ∀ a, a ≠ 10 → a ≠ 25 → a ≠ 31 → ¬ (67 ≤ a ∧ a ≤ 75) → t a = s a
theorem scr.refl : scr s s := fun _ _ _ _ _ => rfl
theorem scr.trans {u : Sg} (h1 : scr s t) (h2 : scr t u) : scr s u := fun a x y z w => (h2 a x y z w).trans (h1 a x y z w)
theorem scr_frC (h : scr s t) : frC s t := fun a h1 h2 => h a (by omega) (by omega) (by omega) h2
theorem scr_of (h : thk s t) : scr s t := fun a h1 _ _ h2 => h a h1 h2
theorem scr_CB (hk : kn ≤ 9) (c : CB s 1 kn th L pk st se z tp wt cd) (h : scr s t) : CB t 1 kn th L pk st se z tp wt cd := by
  obtain ⟨⟨a1, a2, a3, a4, a5⟩, o, tpe, w, thg, tx⟩ := c
  refine ⟨?_, ?_, ?_, ?_, fun x hx j hj => ?_, fun u hu => ?_⟩
  · rw [h 1 (by omega) (by omega) (by omega) (by omega)]; exact ⟨a1, a2, a3, a4, a5⟩
  · rw [h (1 + 2) (by omega) (by omega) (by omega) (by omega), h (1 + 3) (by omega) (by omega) (by omega) (by omega)]; exact o
  · rw [h (1 + 4) (by omega) (by omega) (by omega) (by omega), h (1 + 5) (by omega) (by omega) (by omega) (by omega)]; exact tpe
  · rw [h (1 + 7) (by omega) (by omega) (by omega) (by omega), h (1 + 8) (by omega) (by omega) (by omega) (by omega)]; exact w
  · rw [h (1 + 10 + x) (by omega) (by omega) (by omega) (by omega)]; exact thg x hx j hj
  · rw [h (1 + 20 + 6 * u) (by omega) (by omega) (by omega) (by omega), h (1 + 21 + 6 * u) (by omega) (by omega) (by omega) (by omega)]; exact tx u hu
theorem scr_Rel (h : Rel s t) {s2 t2 : Sg} (hf : scr s s2) (hg : mq t t2) : Rel s2 t2 := by
  obtain ⟨kn, th, L, pk, st, se, z, tp, wt, cd, v, c, m⟩ := id h.1
  exact Rel_of h (scr_frC hf) hg.2 ⟨kn, th, L, pk, st, se, z, tp, wt, cd, v, scr_CB v.1 c hf, by rw [hg.1]; exact m⟩
/-- nothing but the two piles -/
def gq (s t : Sg) : Prop := ∀ a, a ≠ 25 → a ≠ 31 → t a = s a
theorem c_gives0 {u : Nat} {p0 p1 p2 : Int32} {P : Int32 → Sg → Prop} (v : VB kn th L pk st se tp wt cd) (c : CB s 1 kn th L pk st se z tp wt cd) (hu : u < 2) (h : ∀ t, gq s t → P (gvw cd u p0 p1 p2) t) : wBag_gives (nI u) p0 p1 p2 s P := by
  obtain ⟨hl, hh, hok⟩ := v.2.2.2.2.2.2.2.2 u hu
  have hc := c.2.2.2.2.2 u hu
  unfold wBag_gives
  rw [t20 (by omega)]
  refine ⟨vp_in_nI hu (by omega), ?_⟩
  have there : ∀ {A : Int32} {Q : Prop}, (Q → True) → (cd u).length = 0 → (wText_isThere (1 + 19 + 6 * u) s (fun r1 s1 => ((r1 = 0 → P A s1) ∧ (¬ r1 = 0 → wText_value (1 + 19 + 6 * u) p0 p1 p2 s1 (fun r2 s2 => P (cl9 r2) s2)))) ↔ P A s) := by
    intro A Q _ h0
    unfold wText_isThere
    rw [show 1 + 19 + 6 * u + 1 = 1 + 20 + 6 * u by omega, hc.1, h0]
    exact ⟨fun x => (x.1 (by decide)).1 rfl, fun x => iT (by decide) (sel0 x)⟩
  have val : ∀ {A : Int32}, (cd u).length ≠ 0 → wText_isThere (1 + 19 + 6 * u) s (fun r1 s1 => ((r1 = 0 → P A s1) ∧ (¬ r1 = 0 → wText_value (1 + 19 + 6 * u) p0 p1 p2 s1 (fun r2 s2 => P (cl9 r2) s2)))) := by
    intro A h0
    unfold wText_isThere
    rw [show 1 + 19 + 6 * u + 1 = 1 + 20 + 6 * u by omega, hc.1]
    refine iF (nI_nle (by omega) (by omega)) (sel1 ?_)
    have hh1 : hgt (cd u) 0 = some 1 := by
      rcases hh with e | e
      · rw [e] at h0; simp at h0
      · exact e
    have hcap : cap (1 + 19 + 6 * u + 1) = 60 := by
      rcases (show u = 0 ∨ u = 1 by omega) with rfl | rfl <;> decide +kernel
    refine c_value (cs := cd u) hcap hl (by show IL (s (1 + 19 + 6 * u + 1) 1) (s (1 + 19 + 6 * u + 1 + 1)) (cd u); rw [show 1 + 19 + 6 * u + 1 + 1 = 1 + 21 + 6 * u by omega, show 1 + 19 + 6 * u + 1 = 1 + 20 + 6 * u by omega]; exact hc) hok hh1 (fun t hf => ?_)
    have := h t (fun a h1 h2 => hf a (by omega))
    unfold gvw at this
    rw [if_neg h0] at this
    exact this
  by_cases h0 : (cd u).length = 0
  · have := h s (fun _ _ _ => rfl)
    unfold gvw at this
    rw [if_pos h0] at this
    by_cases hu0 : u = 0
    · subst hu0
      rw [if_pos rfl] at this
      exact jT rfl ((there (Q := True) (fun _ => trivial) h0).mpr this)
    · rw [if_neg hu0] at this
      exact jF (fun e => hu0 (nI_inj (b := 0) (by omega) (by omega) e)) ((there (Q := True) (fun _ => trivial) h0).mpr this)
  · exact ⟨fun _ => val h0, fun _ => val h0⟩
theorem c_gives {u : Nat} {p0 p1 p2 : Int32} {P : Int32 → Sg → Prop} (v : VB kn th L pk st se tp wt cd) (c : CB s 1 kn th L pk st se z tp wt cd) (hu : u < 2) (h : ∀ t, scr s t → P (gvw cd u p0 p1 p2) t) : wBag_gives (nI u) p0 p1 p2 s P := c_gives0 v c hu (fun t hf => h t (fun a _ h2 h3 _ => hf a h2 h3))
theorem m_gives {u : Nat} {p0 p1 p2 : Int32} {P : Int32 → Sg → Prop} (v : VB kn th L pk st se tp wt cd) (m : MB (s 1) kn th L pk st se z tp wt cd) (hu : u < 2) (h : ∀ t, mq s t → P (gvw cd u p0 p1 p2) t) : wM_gives (nI u) p0 p1 p2 s P := by
  obtain ⟨hl, hh, hok⟩ := v.2.2.2.2.2.2.2.2 u hu
  have hc := m.2.2.2.2.2 u hu
  intro s1 e1 s2 e2 s3 e3
  have hf : ∀ a, a ≠ 10 → s3 a = s a := fun a ha => by subst e3; rw [u2_other ha]; subst e2; rw [u2_other ha]; subst e1; rw [u2_other ha]
  have x0 : s3 10 0 = p0 := by subst e3; rw [u2_ne (by omega)]; subst e2; rw [u2_ne (by omega)]; subst e1; rw [u2_same]
  have x1 : s3 10 1 = p1 := by subst e3; rw [u2_ne (by omega)]; subst e2; rw [u2_same]
  have x2 : s3 10 2 = p2 := by subst e3; rw [u2_same]
  rw [show (137 : Int32) + 121 * nI u = nI (137 + 121 * u) by rw [show (137 : Int32) = nI 137 from rfl, show (121 : Int32) = nI 121 from rfl, pk_mul, nI_add], ixn (by omega), hf 1 (by omega), hc.1]
  refine ⟨vp_in_nI (by omega) (by omega), ?_⟩
  by_cases h0 : (cd u).length = 0
  · have := h s3 (mq10 (fun a h1 _ => hf a h1))
    unfold gvw at this
    rw [if_pos h0] at this
    rw [h0]
    refine iT (by decide) ?_
    by_cases hu0 : u = 0
    · subst hu0
      rw [if_pos rfl] at this
      exact jT rfl (m_held9 this)
    · rw [if_neg hu0] at this
      exact jF (fun e => hu0 (nI_inj (b := 0) (by omega) (by omega) e)) (m_held9 this)
  · refine iF (nI_nle (by omega) (by omega)) ?_
    have hh1 : hgt (cd u) 0 = some 1 := by
      rcases hh with e | e
      · rw [e] at h0; simp at h0
      · exact e
    unfold wM_works
    refine ⟨(cd u).length + 1, m_worksL hu hl s3 (by rw [hf 1 (by omega)]; exact hc.1) (fun i c hi => by rw [hf 1 (by omega)]; exact hc.2 i c hi) x0 x1 x2 (fun t a hf2 e he => ?_) (cd u) 0 [] s3 (by simp) (fun j hj => by rw [Nat.zero_add]; exact List.getElem?_eq_getElem hj) hok hh1 (by simp) (fun _ _ => rfl) trivial rfl⟩
    rw [e]
    have := h t (mq10 (fun a h1 h2 => (hf2 a h2).trans (hf a h1)))
    unfold gvw at this
    rw [if_neg h0, he] at this
    exact m_held9 this
end GIV
theorem eq_law {a1 a2 a3 a4 : Int32} {s t : Sg} (h : Rel s t) : wB_law a1 a2 a3 a4 s (fun r s => wM_law a1 a2 a3 a4 t (fun r2 t => r = r2 ∧ Rel s t)) := by
  obtain ⟨kn, th, L, pk, st, se, z, tp, wt, cd, v, c, m⟩ := id h.1
  unfold wB_law
  rcases rng a1 0 1 (by omega) with ⟨u, -, hu, rfl⟩ | hn
  · refine p_useT (by omega) (les1 (c_gives v c (by omega) (fun s1 k1 => ?_)))
    unfold wM_law
    exact m_inT (lo := 0) (hi := 1) (by omega) hu (by omega) (sel1 (m_gives v m (by omega) (fun t1 g1 => ⟨rfl, scr_Rel h k1 g1⟩)))
  · exact p_useF hn (les0 (eq_err h cc1 (by omega) (by omega) (fun P hP => m_inF (lo := 0) (hi := 1) (by omega) (by omega) hn (sel0 (m_error cc1 (by omega) (by omega) hP)))))
