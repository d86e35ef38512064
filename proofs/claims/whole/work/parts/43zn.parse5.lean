-- PURE: text, the reference's levels
/-- a method of the reference's reads what the function f tells -/
def mSp (u : Nat) (tp : List Nat) (op : Nat) (go : Sg → (Int32 → Sg → Prop) → Prop) (f : Nat → PR) : Prop := ∀ (s : Sg) (i : Nat) (W : List Int32) (P : Int32 → Sg → Prop), TM s u tp i W op → i ≤ tp.length → W.length ≤ i → (∀ cs, (f i).2 = some cs → ∀ t, TM t u tp (f i).1 (W ++ cs) op → tmF s t → P 0 t) → ((f i).2 = none → ∀ t, TX t u tp (f i).1 op → tmF s t → P 0 t) → go s P
section ML
variable {u : Nat} {tp : List Nat} {i op : Nat} {W : List Int32} {s : Sg} {P : Int32 → Sg → Prop}
theorem TM_as {A B : List Int32} (c : TM s u tp i (W ++ A ++ B) op) : TM s u tp i (W ++ (A ++ B)) op := by
  rw [List.append_assoc] at c
  exact c
theorem TM_13 (c : TM s u tp i W op) {j : Nat} {v : Int32} (e : v = nI j) : TM (u2 s 0 13 v) u tp j W op := ⟨TH_13 c.1 e, TW_put c.2 (by omega)⟩
theorem m_number (ht : tp.length ≤ 60) (hb : ∀ x ∈ tp, x ≤ 255) (c : TM s u tp i W op) (hi : i ≤ tp.length) (hW : W.length ≤ i) {K : Sg → Prop} (h1 : dgt (bz tp i) → ∀ t, TM t u tp (dg tp 4 i 0).1 (W ++ [nI (dg tp 4 i 0).2]) op → tmF s t → K t) (h0 : ¬ dgt (bz tp i) → ∀ t, TX t u tp i op → tmF s t → K t) : wM_number s K := by
  refine ⟨5, m_numL ht hb s (dg tp 4 i 0) i (fun t ct ft => ?_) 4 0 i 0 s (by omega) (by omega) hi c tmF.refl rfl⟩
  by_cases q : dgt (bz tp i)
  · have hlt : i < tp.length := bz_in (by omega)
    have h2 := dg1 q
    have h3 := dg_le (tp := tp) 4 i 0 hi
    obtain ⟨-, o1, o2⟩ := lit_ok (dg4 (tp := tp) (i := i))
    refine jF (nI_ne0 (by omega) (by omega)) (fun s2 e2 => ?_)
    subst e2
    exact m_stepM (c := nI (dg tp 4 i 0).2) o1 o2 ⟨TH_15 ct.1, TW_put ct.2 (by omega)⟩ (by omega) (fun t2 c2 f2 => h1 q t2 c2 ((ft.trans (tmF_put (by omega))).trans f2))
  · have e : dg tp 4 i 0 = (i, 0) := by rw [dg, if_neg q]
    rw [e] at ct ⊢
    refine jT (by show nI (i - i) = 0; rw [Nat.sub_self]; rfl) (fun s2 e2 => ?_)
    subst e2
    exact m_stepX ⟨TH_15 ct.1, TN_put (TW_N ct.2 (by omega)) (by omega)⟩ (fun t2 c2 f2 => h0 q t2 c2 ((ft.trans (tmF_put (by omega))).trans f2))
/-- a level whose loop behaves so reads as lvl tells -/
theorem m_loop {l : Nat} {S : Nat → PR} {rcS : Sg → (Int32 → Sg → Prop) → Prop} (ht : tp.length ≤ 60) (hb : ∀ x ∈ tp, x ≤ 255) (hl2 : l ≠ 2) (hS : mSp u tp op rcS S) (gS : gP tp S) (loop : (Sg → Prop) → Nat → Sg → Prop)
    (hA : ∀ (K : Sg → Prop) (n : Nat) (s : Sg) (i : Nat) (W : List Int32), TM s u tp i W op → i ≤ tp.length → bz tp i ∈ sgL l → rcS (u2 s 0 13 (nI (i + 1))) (fun _ s4 => wM_step (nI (bz tp i)) 0 s4 (fun s5 => loop K n s5)) → loop K (n + 1) s)
    (hB : ∀ (K : Sg → Prop) (n : Nat) (s : Sg) (i : Nat) (W : List Int32), TM s u tp i W op → i ≤ tp.length → bz tp i ∉ sgL l → K s → loop K (n + 1) s)
    (hC : ∀ (K : Sg → Prop) (n : Nat) (s : Sg) (i : Nat), TX s u tp i op → K s → loop K (n + 1) s) :
    mSp u tp op (fun s P => rcS s (fun _ s1 => ∃ N1 : Nat, loop (fun s2 => P 0 s2) N1 s1)) (lvl S tp l) := by
  intro s0 i W P c hi hW h1 h0
  have lo : ∀ (R : PR), (∀ cs, R.2 = some cs → ∀ t, TM t u tp R.1 (W ++ cs) op → tmF s0 t → P 0 t) → (R.2 = none → ∀ t, TX t u tp R.1 op → tmF s0 t → P 0 t) → ∀ (m j : Nat) (cs : List Int32) (s : Sg), 60 ≤ j + m → j ≤ tp.length → W.length + cs.length ≤ j → TM s u tp j (W ++ cs) op → tmF s0 s → lp S tp l m j cs = R → loop (fun s2 => P 0 s2) (m + 1) s := by
    intro R k1 k0 m
    induction m with
    | zero =>
      intro j cs s hm hj hWj cm hf e
      rw [lp] at e
      subst e
      refine hB _ 0 s j _ cm hj ?_ (k1 cs rfl s cm hf)
      rw [bz_out (by omega)]
      exact sg9 l
    | succ m ih =>
      intro j cs s hm hj hWj cm hf e
      rw [lp] at e
      by_cases q : bz tp j ∈ sgL l
      · rw [if_pos q] at e
        obtain ⟨-, o1, o2, o4⟩ := op_ok _ (sg_ops q)
        have hj1 : j < tp.length := bz_in (by omega)
        obtain ⟨g1, g2, g3⟩ := gS (j + 1) hj1
        refine hA _ (m + 1) s j _ cm hj q (hS _ (j + 1) (W ++ cs) _ (TM_13 cm rfl) hj1 (by simp; omega) (fun ds ed t ct ft => ?_) (fun ed t ct ft => ?_))
        · simp only [ed] at e
          obtain ⟨p1, -, -⟩ := g3 ds ed
          rw [if_neg hl2] at e
          refine m_stepM o1 o2 ct (by simp; omega) (fun t2 c2 f2 => ?_)
          have c3 : TM t2 u tp (S (j + 1)).1 (W ++ (cs ++ ds ++ [-(nI (bz tp j))])) op := by
            have := c2
            simp only [List.append_assoc] at this ⊢
            exact this
          exact ih _ _ t2 (by omega) g2 (by simp; omega) c3 (((hf.trans (tmF_put (by omega))).trans ft).trans f2) e
        · simp only [ed] at e
          subst e
          refine m_stepX ct (fun t2 c2 f2 => hC _ m t2 _ c2 (k0 rfl t2 c2 (((hf.trans (tmF_put (by omega))).trans ft).trans f2)))
      · rw [if_neg q] at e
        subst e
        exact hB _ (m + 1) s j _ cm hj q (k1 cs rfl s cm hf)
  obtain ⟨g1, g2, g3⟩ := gS i hi
  refine hS s0 i W _ c hi hW (fun cs e t ct ft => ⟨61, ?_⟩) (fun e t ct ft => ⟨1, ?_⟩)
  · obtain ⟨p1, -, -⟩ := g3 cs e
    have el : lvl S tp l i = lp S tp l 60 (S i).1 cs := by unfold lvl; simp only [e]
    rw [el] at h1 h0
    exact lo _ h1 h0 60 (S i).1 cs t (by omega) g2 (by omega) ct ft rfl
  · have el : lvl S tp l i = ((S i).1, none) := by unfold lvl; simp only [e]
    rw [el] at h0
    exact hC _ 0 t _ ct (h0 rfl t ct ft)
theorem bad0 (c : TM s u tp i W op) : s 0 15 = 0 := c.1.2.2.1
theorem bad1 (c : TX s u tp i op) : ¬ s 0 15 = 0 := by rw [c.1.2.2.1]; decide
/-- the sign at a place is this one, or not -/
theorem sgT {c : Nat} (hb : ∀ x ∈ tp, x ≤ 255) (hc : c < 256) (h : bz tp i = c) : bI (bz tp i) = nI c := (bI_eq (bz_cs hb i) hc).mpr h
theorem sgF {c : Nat} (hb : ∀ x ∈ tp, x ≤ 255) (hc : c < 256) (h : ¬ bz tp i = c) : ¬ bI (bz tp i) = nI c := fun z => h ((bI_eq (bz_cs hb i) hc).mp z)
theorem m_any {M : Nat} {S : Nat → PR} (ht : tp.length ≤ 60) (hb : ∀ x ∈ tp, x ≤ 255) (hS : mSp u tp op (fun s P => wGParse M 1 [] s P) S) (gS : gP tp S) : mSp u tp op (fun s P => wGParse (M + 1) 0 [] s P) (lvl S tp 0) := by
  refine m_loop ht hb (by omega) hS gS (fun K n s => wM_any_4 (wGParse M) K n s) (fun K n s i W c hi q h => ?_) (fun K n s i W c hi q h => ?_) (fun K n s i c h => ?_)
  · have q2 : bz tp i = 124 := List.mem_singleton.mp q
    refine jT (bad0 c) (m_look ht hb c.1 hi (jT (sgT (c := 124) hb (by omega) q2) (fun s2 e2 => ?_)))
    rw [c.1.1, nI_1] at e2
    subst e2
    rw [q2] at h
    exact h
  · have q2 : ¬ bz tp i = 124 := fun z => q (List.mem_singleton.mpr z)
    exact jT (bad0 c) (m_look ht hb c.1 hi (jF (sgF (c := 124) hb (by omega) q2) h))
  · exact jF (bad1 c) h
theorem m_all {M : Nat} {S : Nat → PR} (ht : tp.length ≤ 60) (hb : ∀ x ∈ tp, x ≤ 255) (hS : mSp u tp op (fun s P => wGParse M 2 [] s P) S) (gS : gP tp S) : mSp u tp op (fun s P => wGParse (M + 1) 1 [] s P) (lvl S tp 1) := by
  refine m_loop ht hb (by omega) hS gS (fun K n s => wM_all_4 (wGParse M) K n s) (fun K n s i W c hi q h => ?_) (fun K n s i W c hi q h => ?_) (fun K n s i c h => ?_)
  · have q2 : bz tp i = 38 := List.mem_singleton.mp q
    refine jT (bad0 c) (m_look ht hb c.1 hi (jT (sgT (c := 38) hb (by omega) q2) (fun s2 e2 => ?_)))
    rw [c.1.1, nI_1] at e2
    subst e2
    rw [q2] at h
    exact h
  · have q2 : ¬ bz tp i = 38 := fun z => q (List.mem_singleton.mpr z)
    exact jT (bad0 c) (m_look ht hb c.1 hi (jF (sgF (c := 38) hb (by omega) q2) h))
  · exact jF (bad1 c) h
theorem m_sum {M : Nat} {S : Nat → PR} (ht : tp.length ≤ 60) (hb : ∀ x ∈ tp, x ≤ 255) (hS : mSp u tp op (fun s P => wGParse M 4 [] s P) S) (gS : gP tp S) : mSp u tp op (fun s P => wGParse (M + 1) 3 [] s P) (lvl S tp 3) := by
  refine m_loop ht hb (by omega) hS gS (fun K n s => wM_sum_4 (wGParse M) K n s) (fun K n s i W c hi q h => ?_) (fun K n s i W c hi q h => ?_) (fun K n s i c h => ?_)
  · have q2 : bz tp i = 43 ∨ bz tp i = 45 := by simpa [sgL] using q
    have hx : bz tp i < 256 := by omega
    have fin : wM_look s (fun (r2 : Int32) (s2 : Sg) => (∀ s3 : Sg, s3 = u2 s2 0 13 (((s2 0 13) + 1)) → (wGParse M 4 [] s3 (fun (_z : Int32) (s4 : Sg) => (wM_step r2 0 s4 (fun (s5 : Sg) => wM_sum_4 (wGParse M) K n s5)))))) := by
      refine m_look ht hb c.1 hi (fun s2 e2 => ?_)
      rw [c.1.1, nI_1] at e2
      subst e2
      rw [bI_n hx]
      exact h
    refine jT (bad0 c) (m_look ht hb c.1 hi ?_)
    rcases q2 with q2 | q2
    · exact iT (sgT (c := 43) hb (by omega) q2) fin
    · exact iF (sgF (c := 43) hb (by omega) (by omega)) (m_look ht hb c.1 hi (jT (sgT (c := 45) hb (by omega) q2) fin))
  · have q2 : ¬ bz tp i = 43 ∧ ¬ bz tp i = 45 := by simpa [sgL] using q
    exact jT (bad0 c) (m_look ht hb c.1 hi (iF (sgF (c := 43) hb (by omega) q2.1) (m_look ht hb c.1 hi (jF (sgF (c := 45) hb (by omega) q2.2) h))))
  · exact jF (bad1 c) h
theorem m_times {M : Nat} {S : Nat → PR} (ht : tp.length ≤ 60) (hb : ∀ x ∈ tp, x ≤ 255) (hS : mSp u tp op (fun s P => wGParse M 5 [] s P) S) (gS : gP tp S) : mSp u tp op (fun s P => wGParse (M + 1) 4 [] s P) (lvl S tp 4) := by
  refine m_loop ht hb (by omega) hS gS (fun K n s => wM_times_4 (wGParse M) K n s) (fun K n s i W c hi q h => ?_) (fun K n s i W c hi q h => ?_) (fun K n s i c h => ?_)
  · have q2 : bz tp i = 42 ∨ bz tp i = 47 ∨ bz tp i = 37 := by simpa [sgL] using q
    have hx : bz tp i < 256 := by omega
    have fin : wM_look s (fun (r2 : Int32) (s2 : Sg) => (∀ s3 : Sg, s3 = u2 s2 0 13 (((s2 0 13) + 1)) → (wGParse M 5 [] s3 (fun (_z : Int32) (s4 : Sg) => (wM_step r2 0 s4 (fun (s5 : Sg) => wM_times_4 (wGParse M) K n s5)))))) := by
      refine m_look ht hb c.1 hi (fun s2 e2 => ?_)
      rw [c.1.1, nI_1] at e2
      subst e2
      rw [bI_n hx]
      exact h
    refine jT (bad0 c) (m_look ht hb c.1 hi ?_)
    rcases q2 with q2 | q2 | q2
    · exact iT (sgT (c := 42) hb (by omega) q2) fin
    · exact iF (sgF (c := 42) hb (by omega) (by omega)) (m_look ht hb c.1 hi (iT (sgT (c := 47) hb (by omega) q2) fin))
    · exact iF (sgF (c := 42) hb (by omega) (by omega)) (m_look ht hb c.1 hi (iF (sgF (c := 47) hb (by omega) (by omega)) (m_look ht hb c.1 hi (jT (sgT (c := 37) hb (by omega) q2) fin))))
  · have q2 : ¬ bz tp i = 42 ∧ ¬ bz tp i = 47 ∧ ¬ bz tp i = 37 := by simpa [sgL] using q
    exact jT (bad0 c) (m_look ht hb c.1 hi (iF (sgF (c := 42) hb (by omega) q2.1) (m_look ht hb c.1 hi (iF (sgF (c := 47) hb (by omega) q2.2.1) (m_look ht hb c.1 hi (jF (sgF (c := 37) hb (by omega) q2.2.2) h))))))
  · exact jF (bad1 c) h
theorem m_comp {M : Nat} {S : Nat → PR} (ht : tp.length ≤ 60) (hb : ∀ x ∈ tp, x ≤ 255) (hS : mSp u tp op (fun s P => wGParse M 3 [] s P) S) (gS : gP tp S) : mSp u tp op (fun s P => wGParse (M + 1) 2 [] s P) (lvl S tp 2) := by
  intro s i W P c hi hW h1 h0
  show wM_compares (wGParse M) s P
  unfold wM_compares
  obtain ⟨g1, g2, g3⟩ := gS i hi
  refine hS s i W _ c hi hW (fun cs e t ct ft => ?_) (fun e t ct ft => ?_)
  · obtain ⟨p1, -, -⟩ := g3 cs e
    have el : lvl S tp 2 i = lp S tp 2 60 (S i).1 cs := by unfold lvl; simp only [e]
    rw [el, lp] at h1 h0
    refine m_look ht hb ct.1 g2 (jT (bad0 ct) ?_)
    by_cases q : bz tp (S i).1 ∈ sgL 2
    · rw [if_pos q] at h1 h0
      obtain ⟨-, o1, o2, o4⟩ := op_ok _ (sg_ops q)
      have q2 : bz tp (S i).1 = 60 ∨ bz tp (S i).1 = 61 ∨ bz tp (S i).1 = 62 := by simpa [sgL] using q
      have hj1 : (S i).1 < tp.length := bz_in (by omega)
      obtain ⟨k1, k2, k3⟩ := gS ((S i).1 + 1) hj1
      have fin : ∀ s3 : Sg, s3 = u2 t 0 13 (t 0 13 + 1) → wGParse M 3 [] s3 (fun (_z : Int32) (s4 : Sg) => (wM_step (bI (bz tp (S i).1)) 0 s4 (fun (s5 : Sg) => P 0 s5))) := by
        intro s3 e3
        rw [ct.1.1, nI_1] at e3
        subst e3
        rw [bI_n o4]
        refine hS _ ((S i).1 + 1) (W ++ cs) _ (TM_13 ct rfl) hj1 (by simp; omega) (fun ds ed t2 ct2 ft2 => ?_) (fun ed t2 ct2 ft2 => ?_)
        · simp only [ed] at h1
          obtain ⟨r1, -, -⟩ := k3 ds ed
          refine m_stepM o1 o2 ct2 (by simp; omega) (fun t3 c3 f3 => h1 _ rfl t3 ?_ (((ft.trans (tmF_put (by omega))).trans ft2).trans f3))
          have := c3
          simp only [List.append_assoc] at this ⊢
          exact this
        · simp only [ed] at h0
          exact m_stepX ct2 (fun t3 c3 f3 => h0 trivial t3 c3 (((ft.trans (tmF_put (by omega))).trans ft2).trans f3))
      rcases q2 with q2 | q2 | q2
      · exact iT (sgT (c := 60) hb (by omega) q2) fin
      · exact iF (sgF (c := 60) hb (by omega) (by omega)) (iT (sgT (c := 61) hb (by omega) q2) fin)
      · exact iF (sgF (c := 60) hb (by omega) (by omega)) (iF (sgF (c := 61) hb (by omega) (by omega)) (jT (sgT (c := 62) hb (by omega) q2) fin))
    · rw [if_neg q] at h1
      have q2 : ¬ bz tp (S i).1 = 60 ∧ ¬ bz tp (S i).1 = 61 ∧ ¬ bz tp (S i).1 = 62 := by simpa [sgL] using q
      exact iF (sgF (c := 60) hb (by omega) q2.1) (iF (sgF (c := 61) hb (by omega) q2.2.1) (jF (sgF (c := 62) hb (by omega) q2.2.2) (h1 _ rfl t ct ft)))
  · have el : lvl S tp 2 i = ((S i).1, none) := by unfold lvl; simp only [e]
    rw [el] at h0
    exact m_look ht hb ct.1 g2 (jF (bad1 ct) (h0 rfl t ct ft))
theorem m_lev {M : Nat} {S : Nat → PR} (ht : tp.length ≤ 60) (hb : ∀ x ∈ tp, x ≤ 255) (hS : mSp u tp op (fun s P => wGParse M 5 [] s P) S) (gS : gP tp S) : mSp u tp op (fun s P => wGParse (M + 5) 0 [] s P) (lev S tp 5) :=
  m_any ht hb (m_all ht hb (m_comp ht hb (m_sum ht hb (m_times ht hb hS gS) (lev_ok gS 1)) (lev_ok gS 2)) (lev_ok gS 3)) (lev_ok gS 4)
end ML
