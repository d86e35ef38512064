-- PURE: text
/-- the whole tape as a text: its steps, or none -/
def okT (u : Nat) (tp : List Nat) : Option (List Int32) := match (rdT u tp).2 with
  | some cs => if tp.length ≤ (rdT u tp).1 then some cs else none
  | none => none
theorem okT_some {u : Nat} {tp : List Nat} {cs : List Int32} (h : okT u tp = some cs) : (rdT u tp).2 = some cs ∧ tp.length ≤ (rdT u tp).1 := by
  unfold okT at h
  split at h
  · rename_i ds e
    split at h
    · rename_i q
      cases h
      exact ⟨e, q⟩
    · cases h
  · cases h
theorem okT_ok {u : Nat} {tp : List Nat} {cs : List Int32} (ht : tp.length ≤ 60) (h : okT u tp = some cs) : cs.length ≤ 60 ∧ hgt cs 0 = some 1 ∧ ∀ c ∈ cs, cOk c := by
  obtain ⟨e, -⟩ := okT_some h
  obtain ⟨g1, g2, g3⟩ := lev_ok (sg_ok (u := u) (tp := tp) 5) 5 0 (by omega)
  obtain ⟨k1, k2, k3⟩ := g3 cs e
  exact ⟨by omega, k2 0, k3⟩
section TXT
variable {s t : Sg} {kn : Nat} {th : Nat → Nat → Nat} {L : List Nat} {pk : Option Nat} {st se : Nat} {z : Int32} {tp : List Nat} {wt : List Int32} {cd : Nat → List Int32}
theorem CB_tx {u k : Nat} (c : CB s 1 kn th L pk st se z tp wt cd) (hk : kn ≤ 9) (hu : u < 2) (ek : k = 20 + 6 * u) (h : txF k s t) : CB t 1 kn th L pk st se z tp wt cd := by
  obtain ⟨⟨a1, a2, a3, a4, a5⟩, o, tpe, w, thg, tx⟩ := c
  refine ⟨?_, ?_, ?_, ?_, fun x hx j hj => ?_, fun y hy => ?_⟩
  · rw [h 1 (by omega) (by omega) (by omega)]; exact ⟨a1, a2, a3, a4, a5⟩
  · rw [h (1 + 2) (by omega) (by omega) (by omega), h (1 + 3) (by omega) (by omega) (by omega)]; exact o
  · rw [h (1 + 4) (by omega) (by omega) (by omega), h (1 + 5) (by omega) (by omega) (by omega)]; exact tpe
  · rw [h (1 + 7) (by omega) (by omega) (by omega), h (1 + 8) (by omega) (by omega) (by omega)]; exact w
  · rw [h (1 + 10 + x) (by omega) (by omega) (by omega)]; exact thg x hx j hj
  · rw [h (1 + 20 + 6 * y) (by omega) (by omega) (by omega), h (1 + 21 + 6 * y) (by omega) (by omega) (by omega)]; exact tx y hy
theorem c_text {u k : Nat} {nm : Int32} {P : Int32 → Sg → Prop} (v : VB kn th L pk st se tp wt cd) (c : CB s 1 kn th L pk st se z tp wt cd) (hu : u < 2) (ek : k = 20 + 6 * u) (en : nm = nI (u + 1)) (h1 : ∀ cs, okT u tp = some cs → ∀ t, CB t 1 kn th L pk st se z tp wt (cdU cd u cs) → frC s t → P (-1) t) (h0 : okT u tp = none → ∀ t, CB t 1 kn th L pk st se z tp wt cd → frC s t → P (nI (rdT u tp).1) t) : wText_read k nm s P := by
  have hk := v.1
  obtain ⟨htp, htb⟩ := v.2.2.2.2.2.1
  have kk : k = 20 ∨ k = 26 := by omega
  have hcap : cap (k + 1) = 60 := by rcases kk with rfl | rfl <;> decide +kernel
  intro s1 e1 s2 e2 s3 e3 s4 e4
  have f4 : txF k s s4 := fun a h1 h2 h3 => by
    subst e4; rw [u2_other h2]; subst e3; rw [u2_other h1]; subst e2; rw [u2_other h1]; subst e1; rw [u2_other h1]
  have t4 : TC s4 k u tp 0 [] := by
    refine ⟨?_, ?_, ?_, ?_, ?_⟩
    · subst e4; rw [u2_ne (by omega)]; subst e3; rw [u2_ne (by omega)]; subst e2; rw [u2_ne (by omega)]; subst e1; exact u2_same
    · subst e4; rw [u2_ne (by omega)]; subst e3; rw [u2_ne (by omega)]; subst e2; rw [u2_same, en]
    · subst e4; rw [u2_ne (by omega)]; subst e3; exact u2_same
    · have := (CB_tx c hk hu ek f4).2.2.1
      exact this
    · subst e4; exact IL_nil u2_same
  have fr : ∀ {t1 : Sg}, txF k s4 t1 → CB t1 1 kn th L pk st se z tp wt cd ∧ frC s t1 := fun {t1} hf => ⟨CB_tx c hk hu ek (f4.trans hf), fun a q1 q2 => (f4.trans hf) a (by omega) (by omega) (by omega)⟩
  obtain ⟨g1, g2, g3⟩ := lev_ok (sg_ok (u := u) (tp := tp) 5) 5 0 (by omega)
  have hR : (rdT u tp).1 ≤ 60 := by show (lev (sg u tp 5) tp 5 0).1 ≤ 60; omega
  refine c_read kk hu htp htb t4 (fun cs ec t1 ct ft => iF (by decide) ?_) (fun ec t1 ct ft => iT rfl ?_)
  · obtain ⟨k1, -, -⟩ := g3 cs ec
    obtain ⟨c1, fc⟩ := fr ft
    rw [show t1 5 1 = nI tp.length by rw [ct.2.2.2.1.1]; simp, ct.2.2.1]
    refine ⟨fun q => ?_, fun q => ?_⟩
    · have q2 : tp.length ≤ (rdT u tp).1 := (nI_leI (by omega) (by omega)).mp q
      have ok : okT u tp = some cs := by unfold okT; simp only [ec]; rw [if_pos q2]
      refine p_copy (k := k + 1) (k1 := k + 3) ct.2.2.2.2 (by rw [hcap]; omega) (by rw [cpk kk]; omega) (by rw [hcap]; omega) (by omega) (fun t2 ht2 hf2 => h1 cs ok t2 ?_ (fun a q1 q2 => (hf2 a (by omega) (by omega)).trans (fc a q1 q2)))
      refine CB_cd c1 hk hu (fun a _ _ h3 h4 _ => hf2 a (by omega) (by omega)) ?_
      have := ht2
      rw [ek] at this
      rw [show 1 + 20 + 6 * u = 20 + 6 * u + 1 by omega, show 1 + 21 + 6 * u = 20 + 6 * u + 1 + 1 by omega]
      exact this
    · have q2 : ¬ tp.length ≤ (rdT u tp).1 := fun z => q ((nI_leI (by omega) (by omega)).mpr z)
      have ok : okT u tp = none := by unfold okT; simp only [ec]; rw [if_neg q2]
      exact h0 ok t1 c1 fc
  · obtain ⟨W, -, c2⟩ := ct
    obtain ⟨c1, fc⟩ := fr ft
    have ok : okT u tp = none := by unfold okT; simp only [ec]
    rw [c2.2.2.1]
    exact h0 ok t1 c1 fc
theorem m_cpL {u : Nat} {cs : List Int32} {K : Sg → Prop} (hu : u < 2) (hl : cs.length ≤ 60) (s0 : Sg) (w0 : TW s0 cs) (h : ∀ t, (∀ x, x ≠ 1 → t x = s0 x) → (∀ j, ¬ (138 + 121 * u ≤ j ∧ j < 258 + 121 * u) → t 1 j = s0 1 j) → (∀ (i : Nat) (c : Int32), cs[i]? = some c → t 1 (138 + 121 * u + i) = acO c ∧ t 1 (198 + 121 * u + i) = wiO c) → K t) : ∀ (m a : Nat) (s : Sg), a + m = cs.length → (∀ x, x ≠ 1 → s x = s0 x) → (∀ j, ¬ (138 + 121 * u ≤ j ∧ j < 258 + 121 * u) → s 1 j = s0 1 j) → (∀ (i : Nat) (c : Int32), i < a → cs[i]? = some c → s 1 (138 + 121 * u + i) = acO c ∧ s 1 (198 + 121 * u + i) = wiO c) → wM_text_117 (nI (137 + 121 * u)) K (m + 1) (nI a) s := by
  intro m
  induction m with
  | zero =>
    intro a s ha hf h1 hv
    rw [wM_text_117, hf 0 (by omega), w0.1.1, List.length_map]
    exact iT (nI_le (by omega) (by omega)) (h s hf h1 (fun i c hc => hv i c (by have := (List.getElem?_eq_some_iff.mp hc).1; omega) hc))
  | succ m ih =>
    intro a s ha hf h1 hv
    have hal : a < cs.length := by omega
    have e8 : s0 8 a = acO cs[a] := w0.1.2 a _ (by rw [List.getElem?_map, List.getElem?_eq_getElem hal]; rfl)
    have e9 : s0 9 a = wiO cs[a] := w0.2.2 a _ (by rw [List.getElem?_map, List.getElem?_eq_getElem hal]; rfl)
    rw [wM_text_117, hf 0 (by omega), w0.1.1, List.length_map, show nI (137 + 121 * u) + 1 + nI a = nI (138 + 121 * u + a) by rw [nI_1, nI_add, show 137 + 121 * u + 1 = 138 + 121 * u by omega], show nI (137 + 121 * u) + 61 + nI a = nI (198 + 121 * u + a) by rw [show (61 : Int32) = nI 61 from rfl, nI_add, nI_add, show 137 + 121 * u + 61 = 198 + 121 * u by omega], ixn (by omega), ixn (by omega), ixn (show 198 + 121 * u + a < 2 ^ 31 by omega)]
    refine iF (nI_ge hal (by omega)) ⟨vp_in_nI (by omega) (by omega), vp_in_nI (by omega) (by omega), fun s1 x1 => ⟨vp_in_nI (by omega) (by omega), vp_in_nI (by omega) (by omega), fun s2 x2 => ?_⟩⟩
    rw [hf 8 (by omega), e8] at x1
    have g9 : s1 9 a = wiO cs[a] := by subst x1; rw [u2_other (by omega), hf 9 (by omega)]; exact e9
    rw [g9] at x2
    rw [nI_1]
    refine ih (a + 1) s2 (by omega) (fun x hx => by subst x2; rw [u2_other hx]; subst x1; rw [u2_other hx]; exact hf x hx) (fun j hj => by subst x2; rw [u2_ne (by omega)]; subst x1; rw [u2_ne (by omega)]; exact h1 j hj) (fun i c hi hc => ?_)
    have hil := (List.getElem?_eq_some_iff.mp hc).1
    by_cases q : i = a
    · subst q
      rw [List.getElem?_eq_getElem hal] at hc
      have hc2 := Option.some.inj hc
      subst hc2
      refine ⟨?_, by subst x2; exact u2_same⟩
      subst x2
      rw [u2_ne (by omega)]
      subst x1
      exact u2_same
    · obtain ⟨v1, v2⟩ := hv i c (by omega) hc
      refine ⟨?_, ?_⟩
      · subst x2; rw [u2_ne (by omega)]; subst x1; rw [u2_ne (by omega)]; exact v1
      · subst x2; rw [u2_ne (by omega)]; subst x1; rw [u2_ne (by omega)]; exact v2
theorem tm_frM {s t u : Sg} (h : tmF s t) (h2 : ∀ a, a ≠ 1 → a ≠ 0 → u a = t a) (h3 : ∀ j, j ≠ 15 → u 0 j = t 0 j) : frM s u :=
  ⟨⟨(h3 3 (by omega)).trans h.2.1, (h3 21 (by omega)).trans h.2.2⟩, fun a ha => (h2 a (by intro e; subst e; simp at ha) (by intro e; subst e; simp at ha)).trans (h.1 a (by intro e; subst e; simp at ha) (by intro e; subst e; simp at ha) (by intro e; subst e; simp at ha))⟩
theorem m_text {u : Nat} {P : Int32 → Sg → Prop} (v : VB kn th L pk st se tp wt cd) (m : MB (s 1) kn th L pk st se z tp wt cd) (hu : u < 2) (h1 : ∀ cs, okT u tp = some cs → ∀ t, MB (t 1) kn th L pk st se z [] wt (cdU cd u cs) → frM s t → P 1 t) (h0 : okT u tp = none → ∀ t, MB (t 1) kn th L pk st se z [] wt cd → frM s t → P (-10 - nI (rdT u tp).1) t) : wM_text (nI u) s P := by
  have hk := v.1
  have hlen := VB_len v
  obtain ⟨htp, htb⟩ := v.2.2.2.2.2.1
  have hwt := v.2.2.2.2.2.2.1
  have hcd := v.2.2.2.2.2.2.2.2
  unfold wM_text
  refine m_inT (lo := 0) (hi := 1) (by omega) (by omega) (by omega) (les1 (fun s2 e2 s3 e3 s4 e4 s5 e5 s6 e6 => ?_))
  have f6 : tmF s s6 := by
    subst e6; subst e5; subst e4; subst e3; subst e2
    exact ((((tmF_put (by omega)).trans (tmF_put (by omega))).trans (tmF_put (by omega))).trans (tmF_put (by omega))).trans (tmF_put (by omega))
  have t6 : TM s6 u tp 0 [] 0 := by
    refine ⟨⟨?_, ?_, ?_, ?_, ?_⟩, ?_, ?_⟩
    · subst e6; rw [u2_ne (by omega)]; subst e5; rw [u2_ne (by omega)]; subst e4; exact u2_same
    · subst e6; rw [u2_ne (by omega)]; subst e5; exact u2_same
    · subst e6; exact u2_same
    · subst e6; rw [u2_ne (by omega)]; subst e5; rw [u2_ne (by omega)]; subst e4; rw [u2_ne (by omega)]; subst e3; rw [u2_ne (by omega)]; subst e2; exact u2_same
    · rw [f6.1 1 (by omega) (by omega) (by omega)]; exact m.2.2.1
    · exact IL_nil (by subst e6; rw [u2_ne (by omega)]; subst e5; rw [u2_ne (by omega)]; subst e4; rw [u2_ne (by omega)]; subst e3; exact u2_same)
    · exact IL_nil (by subst e6; rw [u2_ne (by omega)]; subst e5; rw [u2_ne (by omega)]; subst e4; rw [u2_ne (by omega)]; subst e3; exact u2_same)
  obtain ⟨g1, g2, g3⟩ := lev_ok (sg_ok (u := u) (tp := tp) 5) 5 0 (by omega)
  have hR : (rdT u tp).1 ≤ 60 := by show (lev (sg u tp 5) tp 5 0).1 ≤ 60; omega
  -- the tape emptied
  have emp : ∀ {t1 : Sg} {b : Int32}, tmF s6 t1 → MB (u2 (u2 t1 0 15 b) 1 5 0 1) kn th L pk st se z [] wt cd := by
    intro t1 b hf
    refine MB_tp m hk (by omega) hwt (fun i hi _ => ?_) (IL_nil u2_same)
    rw [u2_ne (by omega), u2_other (by omega), (f6.trans hf).1 1 (by omega) (by omega) (by omega)]
  have frm : ∀ {t1 : Sg} {b : Int32}, tmF s6 t1 → frM s (u2 (u2 t1 0 15 b) 1 5 0) := fun hf => tm_frM (f6.trans hf) (fun a q1 q2 => by rw [u2_other q1, u2_other q2]) (fun j hj => by rw [u2_other (by omega), u2_ne (by omega)])
  refine m_read hu htp htb t6 (fun cs ec t1 ct ft => ?_) (fun ec t1 ct ft => ?_)
  · obtain ⟨k1, -, -⟩ := g3 cs ec
    have e5 : t1 1 5 = nI tp.length := by rw [ct.1.2.2.2.2.1]; simp
    refine jT (bad0 ct) ?_
    rw [e5, ct.1.1]
    refine ⟨fun q s8 x8 s9 x9 => ?_, fun q s8 x8 s9 x9 => ?_⟩
    · have q2 : tp.length ≤ (rdT u tp).1 := (nI_leI (by omega) (by omega)).mp q
      have ok : okT u tp = some cs := by unfold okT; simp only [ec]; rw [if_pos q2]
      have m9 : MB (s9 1) kn th L pk st se z [] wt cd := by subst x9; subst x8; exact emp ft
      have r9 : frM s s9 := by subst x9; subst x8; exact frm ft
      have w9 : TW s9 cs := by
        subst x9; subst x8
        unfold TW
        rw [u2_other (show (0 : Nat) ≠ 1 by omega), u2_other (show (8 : Nat) ≠ 1 by omega), u2_other (show (9 : Nat) ≠ 1 by omega)]
        exact TW_put ct.2 (by omega)
      have b9 : s9 0 15 = 0 := by subst x9; rw [u2_ne (by omega)]; subst x8; exact u2_same
      refine iT b9 ?_
      rw [show (137 : Int32) + 121 * nI u = nI (137 + 121 * u) by rw [show (137 : Int32) = nI 137 from rfl, show (121 : Int32) = nI 121 from rfl, pk_mul, nI_add], ixn (by omega)]
      refine ⟨vp_in_nI (by omega) (by omega), fun s10 x10 => ⟨cs.length + 1, ?_⟩⟩
      have w10 : TW s10 cs := by subst x10; unfold TW; rw [u2_other (by omega), u2_other (by omega), u2_other (by omega)]; exact w9
      refine m_cpL hu (by omega) s10 w10 (fun t2 hf hj hv => h1 cs ok t2 ?_ (r9.trans (frM1 (fun a ha => (hf a ha).trans (by subst x10; exact u2_other ha))))) cs.length 0 s10 (by omega) (fun _ _ => rfl) (fun _ _ => rfl) (fun i c hi => absurd hi (Nat.not_lt_zero i))
      refine MB_cd m9 hk (by omega) (by simp) hwt (fun y hy => (hcd y hy).1) hu (fun i hi => ?_) ?_ hv
      · rw [hj i (by omega)]
        subst x10
        exact u2_ne (by omega)
      · rw [hj _ (by omega)]
        subst x10
        rw [u2_same, w9.1.1, List.length_map]
    · have q2 : ¬ tp.length ≤ (rdT u tp).1 := fun z => q ((nI_leI (by omega) (by omega)).mpr z)
      have ok : okT u tp = none := by unfold okT; simp only [ec]; rw [if_neg q2]
      have m9 : MB (s9 1) kn th L pk st se z [] wt cd := by subst x9; subst x8; exact emp ft
      have r9 : frM s s9 := by subst x9; subst x8; exact frm ft
      have b9 : s9 0 15 = 1 := by subst x9; rw [u2_ne (by omega)]; subst x8; exact u2_same
      have p9 : s9 0 13 = nI (rdT u tp).1 := by subst x9; rw [u2_ne (by omega)]; subst x8; rw [u2_ne (by omega)]; exact ct.1.1
      refine iF (by rw [b9]; decide) ?_
      rw [p9]
      exact h0 ok s9 m9 r9
  · have ok : okT u tp = none := by unfold okT; simp only [ec]
    refine jF (bad1 ct) (fun s8 x8 s9 x9 => ?_)
    have m9 : MB (s9 1) kn th L pk st se z [] wt cd := by subst x9; subst x8; exact emp ft
    have r9 : frM s s9 := by subst x9; subst x8; exact frm ft
    have b9 : s9 0 15 = 1 := by subst x9; rw [u2_ne (by omega)]; subst x8; exact u2_same
    have p9 : s9 0 13 = nI (rdT u tp).1 := by subst x9; rw [u2_ne (by omega)]; subst x8; rw [u2_ne (by omega)]; exact ct.1.1
    refine iF (by rw [b9]; decide) ?_
    rw [p9]
    exact h0 ok s9 m9 r9
theorem VB_tp0 (v : VB kn th L pk st se tp wt cd) : VB kn th L pk st se [] wt cd := by
  obtain ⟨v1, v2, v4, v5, v6, v7, v8⟩ := v
  exact ⟨v1, v2, v4, v5, v6, ⟨by simp, fun x hx => by simp at hx⟩, v8⟩
theorem VB_cdU {u : Nat} {cs : List Int32} (v : VB kn th L pk st se tp wt cd) (h : cs.length ≤ 60 ∧ hgt cs 0 = some 1 ∧ ∀ c ∈ cs, cOk c) : VB kn th L pk st se tp wt (cdU cd u cs) := by
  obtain ⟨v1, v2, v4, v5, v6, v7, v8, v9, v10⟩ := v
  refine ⟨v1, v2, v4, v5, v6, v7, v8, v9, fun y hy => ?_⟩
  unfold cdU
  by_cases e : y = u
  · rw [if_pos e]; exact ⟨h.1, Or.inr h.2.1, h.2.2⟩
  · rw [if_neg e]; exact v10 y hy
end TXT
theorem eq_text {a1 : Int32} {s t : Sg} (h : Rel s t) : wB_text a1 s (fun r s => wM_text a1 t (fun r2 t => r = r2 ∧ Rel s t)) := by
  obtain ⟨kn, th, L, pk, st, se, z, tp, wt, cd, v, c, m⟩ := id h.1
  have hk := v.1
  obtain ⟨htp, htb⟩ := v.2.2.2.2.2.1
  unfold wB_text
  rcases rng a1 0 1 (by omega) with ⟨u, -, hu, rfl⟩ | hn
  · have hu2 : u < 2 := by omega
    obtain ⟨g1, g2, -⟩ := lev_ok (sg_ok (u := u) (tp := tp) 5) 5 0 (by omega)
    have g3 : (rdT u tp).1 ≤ 60 := by show (lev (sg u tp 5) tp 5 0).1 ≤ 60; omega
    have body : ∀ nm : Int32, nm = nI (u + 1) → wText_read (20 + 6 * ix (nI u)) nm s (fun (r2 : Int32) (s2 : Sg) => (∀ s3 : Sg, s3 = u2 s2 5 1 0 → ((0 ≤ r2 → wM_text (nI u) t (fun r2' t => -10 - r2 = r2' ∧ Rel s3 t)) ∧ (¬ 0 ≤ r2 → wM_text (nI u) t (fun r2' t => 1 = r2' ∧ Rel s3 t))))) := by
      intro nm e
      have emp : ∀ {s2 : Sg} {cd2 : Nat → List Int32}, CB s2 1 kn th L pk st se z tp wt cd2 → CB (u2 s2 5 1 0) 1 kn th L pk st se z [] wt cd2 := fun c2 => CB_tp c2 hk (fun a _ _ h4 _ => u2_other h4) (IL_nil u2_same)
      refine c_text v c hu2 (by rw [ixn (by omega)]) e (fun cs ok s2 c2 f2 s3 e3 => iF (by decide) ?_) (fun ok s2 c2 f2 s3 e3 => iT (nI_pos' (by omega)) ?_)
      · subst e3
        refine m_text v m hu2 (fun ds ok2 t2 m2 r2 => ⟨rfl, ?_⟩) (fun ok2 => by rw [ok] at ok2; cases ok2)
        rw [ok] at ok2
        cases ok2
        exact Rel_of h (f2.trans (fun a q1 _ => u2_other (by omega))) r2 ⟨kn, th, L, pk, st, se, z, [], wt, _, VB_cdU (VB_tp0 v) (okT_ok htp ok), emp c2, m2⟩
      · subst e3
        refine m_text v m hu2 (fun ds ok2 => by rw [ok] at ok2; cases ok2) (fun ok2 t2 m2 r2 => ⟨rfl, ?_⟩)
        exact Rel_of h (f2.trans (fun a q1 _ => u2_other (by omega))) r2 ⟨kn, th, L, pk, st, se, z, [], wt, cd, VB_tp0 v, emp c2, m2⟩
    refine p_useT hu2 (les1 ⟨vp_in_nI (by omega) (by omega), ?_⟩)
    rcases (show u = 0 ∨ u = 1 by omega) with rfl | rfl
    · exact jT rfl (body 1 (by decide))
    · exact jF (by decide) (body 2 (by decide))
  · exact p_useF hn (les0 (eq_err h cc1 (by omega) (by omega) (fun P hP => m_inF (lo := 0) (hi := 1) (by omega) (by omega) hn (les0 (m_error cc1 (by omega) (by omega) hP)))))
