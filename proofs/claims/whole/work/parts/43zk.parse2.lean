-- PURE: text, the class reads
def cst (x : Nat) : Int32 := UInt32.toInt32 (Int32.toUInt32 (nI x) % 65536)
theorem in_dg : ∀ x : Nat, x < 256 → (¬ sIx 3 (cst x) < 0 ↔ dgt x) := by decide +kernel
theorem in_sg : ∀ l : Nat, l < 5 → ∀ x : Nat, x < 256 → (¬ sIx (nI (5 + l)) (cst x) < 0 ↔ x ∈ sgL l) := by decide +kernel
theorem in_nm : ∀ u : Nat, u < 2 → ∀ x : Nat, x < 256 → (¬ sIx (nI (u + 1)) (cst x) < 0 ↔ (nmN u x).isSome = true) := by decide +kernel
theorem in_nj : ∀ u : Nat, u < 2 → ∀ x : Nat, x < 256 → ∀ j : Nat, j < 3 → nmN u x = some j → sIx (nI (u + 1)) (cst x) = nI j := by decide +kernel
theorem in_op : ∀ x : Nat, x < 256 → (¬ sIx 4 (cst x) < 0 ↔ x = 33 ∨ x = 40) := by decide +kernel
theorem sg9 (l : Nat) : ¬ 999 ∈ sgL l := fun h => by
  have := sg_ops h
  unfold opsL at this
  simp at this
theorem bI_n {x : Nat} (h : x < 256) : bI x = nI x := if_neg (by omega)
theorem bz_cs {tp : List Nat} (hb : ∀ x ∈ tp, x ≤ 255) (i : Nat) : bz tp i < 256 ∨ bz tp i = 999 := by
  rcases Nat.lt_or_ge i tp.length with q | q
  · rw [bz_at q]
    have := hb _ (List.getElem_mem q)
    exact Or.inl (by omega)
  · exact Or.inr (bz_out q)
/-- the reading text's cells: names, where it stands, the tape, what is written -/
def TC (s : Sg) (k u : Nat) (tp : List Nat) (i : Nat) (W : List Int32) : Prop := s k 3 = 1 ∧ s k 4 = nI (u + 1) ∧ s k 5 = nI i ∧ RW s 5 (tp.map nI) ∧ RW s (k + 3) W
def TF (s : Sg) (k u : Nat) (tp : List Nat) (i : Nat) : Prop := ∃ W : List Int32, W.length ≤ 60 ∧ TC s k u tp i W
def txF (k : Nat) (s t : Sg) : Prop := ∀ a, a ≠ k → a ≠ k + 3 → a ≠ k + 4 → t a = s a
theorem txF.refl {k : Nat} {s : Sg} : txF k s s := fun _ _ _ _ => rfl
theorem txF.trans {k : Nat} {s t u : Sg} (h1 : txF k s t) (h2 : txF k t u) : txF k s u := fun a x y z => (h2 a x y z).trans (h1 a x y z)
/-- a method reads what the function f tells -/
def cSp (k u : Nat) (tp : List Nat) (go : Sg → (Int32 → Sg → Prop) → Prop) (f : Nat → PR) : Prop := ∀ (s : Sg) (i : Nat) (W : List Int32) (P : Int32 → Sg → Prop), TC s k u tp i W → i ≤ tp.length → W.length ≤ i → (∀ cs, (f i).2 = some cs → ∀ t, TC t k u tp (f i).1 (W ++ cs) → txF k s t → P 1 t) → ((f i).2 = none → ∀ t, TF t k u tp (f i).1 → txF k s t → P 0 t) → go s P
section RD
variable {k u : Nat} {tp : List Nat} {i : Nat} {W : List Int32} {s : Sg} {P : Int32 → Sg → Prop}
theorem TC_nx (hk : k = 20 ∨ k = 26) (c : TC s k u tp i W) {j : Nat} {v : Int32} (e : v = nI j) : TC (u2 s k 5 v) k u tp j W ∧ txF k s (u2 s k 5 v) := by
  obtain ⟨c1, c2, c3, c4, c5⟩ := c
  refine ⟨⟨?_, ?_, ?_, ?_, ?_⟩, fun a h1 _ _ => u2_other h1⟩
  · rw [u2_ne (by omega)]; exact c1
  · rw [u2_ne (by omega)]; exact c2
  · rw [u2_same, e]
  · show IL (u2 s k 5 v 5 1) (u2 s k 5 v (5 + 1)) (tp.map nI)
    rw [u2_other (by omega), u2_other (by omega)]; exact c4
  · show IL (u2 s k 5 v (k + 3) 1) (u2 s k 5 v (k + 3 + 1)) W
    rw [u2_other (by omega), u2_other (by omega)]; exact c5
theorem TC_row (hk : k = 20 ∨ k = 26) (c : TC s k u tp i W) {t : Sg} {W2 : List Int32} (h : RW t (k + 3) W2) (hf : fr2 s t (k + 3)) : TC t k u tp i W2 ∧ txF k s t := by
  obtain ⟨c1, c2, c3, c4, c5⟩ := c
  refine ⟨⟨?_, ?_, ?_, ?_, h⟩, fun a _ h2 h3 => hf a h2 (by omega)⟩
  · rw [hf k (by omega) (by omega)]; exact c1
  · rw [hf k (by omega) (by omega)]; exact c2
  · rw [hf k (by omega) (by omega)]; exact c3
  · show IL (t 5 1) (t (5 + 1)) (tp.map nI)
    rw [hf 5 (by omega) (by omega), hf (5 + 1) (by omega) (by omega)]; exact c4
theorem cpk (hk : k = 20 ∨ k = 26) : cap (k + 3) = 60 := by
  rcases hk with rfl | rfl <;> decide +kernel
theorem c_add {x : Int32} {K : Sg → Prop} (hk : k = 20 ∨ k = 26) (c : TC s k u tp i W) (hl : W.length < 60) (h : ∀ t, TC t k u tp i (W ++ [x]) → txF k s t → K t) : wRow_add (k + 3) x s K :=
  p_add c.2.2.2.2 (by rw [cpk hk]; exact hl) (by rw [cpk hk]; omega) (fun t ht hf => h t (TC_row hk c ht hf).1 (TC_row hk c ht hf).2)
theorem c_addX {x : Int32} {K : Sg → Prop} (hk : k = 20 ∨ k = 26) (c : TF s k u tp i) (h : ∀ t, TF t k u tp i → txF k s t → K t) : wRow_add (k + 3) x s K := by
  obtain ⟨W, hW, c⟩ := c
  rcases Nat.lt_or_ge W.length 60 with q | q
  · exact c_add hk c q (fun t ht hf => h t ⟨_, by simp; omega, ht⟩ hf)
  · exact p_addFull c.2.2.2.2 (by rw [cpk hk]; omega) (by rw [cpk hk]; omega) (h s ⟨W, hW, c⟩ txF.refl)
theorem p_here (ht : tp.length ≤ 60) (hb : ∀ x ∈ tp, x ≤ 255) (c : TC s k u tp i W) (hi : i ≤ tp.length) (h : P (bI (bz tp i)) s) : wText_here k s P := by
  obtain ⟨c1, c2, c3, c4, c5⟩ := c
  unfold wText_here
  rw [c1, c3]
  refine iF (by decide) (iF (by decide) (p_has (n := tp.length) (by rw [c4.1]; simp) (by omega) (fun j hj e => ?_) (fun hz => ?_)))
  · have : i = j := nI_inj (by omega) (by omega) e
    subst this
    refine iF (by decide) (iF (by rw [c1]; decide) ?_)
    rw [c3]
    refine ⟨vp_in_nI (by omega) (by omega), ?_⟩
    have e6 : s 6 i = nI tp[i] := c4.2 i _ (by rw [List.getElem?_map, List.getElem?_eq_getElem hj]; rfl)
    rw [ixn (by omega), e6]
    have := hb _ (List.getElem_mem hj)
    rw [bz_at hj, bI_n (by omega)] at h
    exact h
  · have : ¬ i < tp.length := fun q => hz i q rfl
    rw [bz_out (by omega)] at h
    exact iT rfl h
theorem p_stands {q : Int32} {M : Nat → Prop} (ht : tp.length ≤ 60) (hb : ∀ x ∈ tp, x ≤ 255) (c : TC s k u tp i W) (hi : i ≤ tp.length) (hq : vp_in q 10) (hM : ∀ x : Nat, x < 256 → (¬ sIx q (cst x) < 0 ↔ M x)) (h9 : ¬ M 999) (h1 : M (bz tp i) → P 1 s) (h0 : ¬ M (bz tp i) → P 0 s) : wText_standsIn k q s P := by
  unfold wText_standsIn
  refine p_here ht hb c hi ?_
  rcases bz_cs hb i with h | h
  · rw [bI_n h]
    refine iF (nI_pos (by omega)) ⟨hq, fun z => h0 (fun m => (hM _ h).mpr m z), fun z => h1 ((hM _ h).mp z)⟩
  · rw [h] at h0 ⊢
    exact iT (by decide) (h0 h9)
theorem p_numL {K : Int32 → Sg → Prop} (hk : k = 20 ∨ k = 26) (ht : tp.length ≤ 60) (hb : ∀ x ∈ tp, x ≤ 255) (s0 : Sg) (R : Nat × Nat) (h : ∀ t, TC t k u tp R.1 W → txF k s0 t → K (nI R.2) t) : ∀ (m a i v : Nat) (s : Sg), a + m = 4 → i ≤ tp.length → TC s k u tp i W → txF k s0 s → dg tp m i v = R → wText_readNumber_4 k K (m + 1) (nI v) (nI a) s := by
  intro m
  induction m with
  | zero =>
    intro a i v s ha hi c hf e
    rw [wText_readNumber_4]
    rw [dg] at e
    subst e
    exact iT (nI_le (a := 4) (by omega) (by omega)) (h s c hf)
  | succ m ih =>
    intro a i v s ha hi c hf e
    rw [wText_readNumber_4]
    rw [dg] at e
    refine iF (nI_ge (a := a) (b := 4) (by omega) (by omega)) (p_stands (M := dgt) ht hb c hi (by unfold vp_in; decide) in_dg (by omega) (fun q => ?_) (fun q => ?_))
    · rw [if_pos q] at e
      refine iF (by decide) (p_here ht hb c hi (fun s3 e3 => ?_))
      rw [c.2.2.1, nI_1] at e3
      obtain ⟨c3, f3⟩ := TC_nx hk c (v := nI (i + 1)) rfl
      subst e3
      have ev : 10 * nI v + bI (bz tp i) - 48 = nI (10 * v + (bz tp i - 48)) := by
        rw [bI_n (by omega), show (10 : Int32) = nI 10 from rfl, pk_mul, nI_add, show (48 : Int32) = nI 48 from rfl, pk_sub (by omega)]
        congr 1
        omega
      rw [ev, nI_1]
      exact ih (a + 1) (i + 1) _ _ (by omega) (bz_in (by omega)) c3 (hf.trans f3) e
    · rw [if_neg q] at e
      subst e
      exact iT rfl (h s c hf)
theorem p_signs {l : Nat} {s : Sg} {P : Int32 → Sg → Prop} (hl : l < 5) (h : P (nI (5 + l)) s) : wText_signsOf (nI l) s P := by
  unfold wText_signsOf
  rcases (show l = 0 ∨ l = 1 ∨ l = 2 ∨ l = 3 ∨ l = 4 by omega) with rfl | rfl | rfl | rfl | rfl
  · exact iT (by decide) h
  · exact iF (by decide) (iT (by decide) h)
  · exact iF (by decide) (iF (by decide) (iT (by decide) h))
  · exact iF (by decide) (iF (by decide) (iF (by decide) (iT (by decide) h)))
  · exact iF (by decide) (iF (by decide) (iF (by decide) (iF (by decide) h)))
theorem TC_as {A B : List Int32} (c : TC s k u tp i (W ++ A ++ B)) : TC s k u tp i (W ++ (A ++ B)) := by
  rw [List.append_assoc] at c
  exact c
theorem c_loop {rc : Nat → List Int32 → Sg → (Int32 → Sg → Prop) → Prop} {l : Nat} {o : Int32} {S : Nat → PR} (hk : k = 20 ∨ k = 26) (ht : tp.length ≤ 60) (hb : ∀ x ∈ tp, x ≤ 255) (hl : l < 5) (hS : cSp k u tp (fun s P => rc 0 [nI (l + 1), o] s P) S) (gS : gP tp S) (s0 : Sg) (R : PR) (h1 : ∀ cs, R.2 = some cs → ∀ t, TC t k u tp R.1 (W ++ cs) → txF k s0 t → P 1 t) (h0 : R.2 = none → ∀ t, TF t k u tp R.1 → txF k s0 t → P 0 t) : ∀ (m a j : Nat) (cs : List Int32) (s : Sg), a + m = 60 → a ≤ j → j ≤ tp.length → W.length + cs.length ≤ j → TC s k u tp j (W ++ cs) → txF k s0 s → lp S tp l m j cs = R → wText_reads_26 rc k (nI l) o P (fun (s2 : Sg) => P 1 s2) (m + 1) (nI a) s := by
  intro m
  induction m with
  | zero =>
    intro a j cs s ha haj hj hW c hf e
    rw [wText_reads_26]
    rw [lp] at e
    subst e
    exact iT (nI_le (a := 60) (by omega) (by omega)) (h1 cs rfl s c hf)
  | succ m ih =>
    intro a j cs s ha haj hj hW c hf e
    rw [wText_reads_26]
    rw [lp] at e
    refine iF (nI_ge (a := a) (b := 60) (by omega) (by omega)) (p_signs hl (p_stands (M := fun x => x ∈ sgL l) ht hb c hj (vp_in_nI (by omega) (by omega)) (in_sg l hl) (sg9 l) (fun q => ?_) (fun q => ?_)))
    · rw [if_pos q] at e
      obtain ⟨-, -, -, o4⟩ := op_ok _ (sg_ops q)
      have hj1 : j < tp.length := bz_in (by omega)
      refine iF (by decide) (p_here ht hb c hj (fun s4 e4 => ?_))
      rw [c.2.2.1, nI_1] at e4
      obtain ⟨c4, f4⟩ := TC_nx hk c (v := nI (j + 1)) rfl
      subst e4
      rw [nI_1]
      obtain ⟨g1, g2, g3⟩ := gS (j + 1) hj1
      refine hS _ (j + 1) (W ++ cs) _ c4 hj1 (by simp; omega) (fun ds ed t ct ft => ?_) (fun ed t ct ft => ?_)
      · simp only [ed] at e
        obtain ⟨k1, -, -⟩ := g3 ds ed
        refine jF (by decide) ?_
        rw [bI_n o4]
        refine c_add hk ct (by simp; omega) (fun t2 c2 f2 => ?_)
        have c3 : TC t2 k u tp (S (j + 1)).1 (W ++ (cs ++ ds ++ [-(nI (bz tp j))])) := by
          have := c2
          simp only [List.append_assoc] at this ⊢
          exact this
        by_cases q2 : l = 2
        · rw [if_pos q2] at e
          subst e
          exact jT (by rw [q2]; decide) (h1 _ rfl t2 c3 (((hf.trans f4).trans ft).trans f2))
        · rw [if_neg q2] at e
          refine jF (fun z => q2 (nI_inj (b := 2) (by omega) (by omega) z)) ?_
          rw [nI_1]
          exact ih (a + 1) _ _ t2 (by omega) (by omega) g2 (by simp; omega) c3 (((hf.trans f4).trans ft).trans f2) e
      · simp only [ed] at e
        subst e
        exact jT rfl (h0 rfl t ct ((hf.trans f4).trans ft))
    · rw [if_neg q] at e
      subst e
      exact iT rfl (h1 cs rfl s c hf)
theorem c_lvl {rc : Nat → List Int32 → Sg → (Int32 → Sg → Prop) → Prop} {l : Nat} {o : Int32} {S : Nat → PR} (hk : k = 20 ∨ k = 26) (ht : tp.length ≤ 60) (hb : ∀ x ∈ tp, x ≤ 255) (hl : l < 5) (hS : cSp k u tp (fun s P => rc 0 [nI (l + 1), o] s P) S) (gS : gP tp S) : cSp k u tp (fun s P => wText_reads rc k (nI l) o s P) (lvl S tp l) := by
  intro s i W P c hi hW h1 h0
  show wText_reads rc k (nI l) o s P
  unfold wText_reads
  obtain ⟨g1, g2, g3⟩ := gS i hi
  refine iT (nI_lt (b := 5) hl (by omega)) ?_
  rw [nI_1]
  refine hS s i W _ c hi hW (fun cs e t ct ft => jF (by decide) ⟨61, ?_⟩) (fun e t ct ft => jT rfl ?_)
  · obtain ⟨k1, -, -⟩ := g3 cs e
    have el : lvl S tp l i = lp S tp l 60 (S i).1 cs := by unfold lvl; simp only [e]
    rw [el] at h1 h0
    exact c_loop hk ht hb hl hS gS s _ h1 h0 60 0 (S i).1 cs t (by omega) (by omega) g2 (by omega) ct ft rfl
  · have el : lvl S tp l i = ((S i).1, none) := by unfold lvl; simp only [e]
    rw [el] at h0
    exact h0 rfl t ct ft
theorem c_lev {M : Nat} {o : Int32} {S : Nat → PR} (hk : k = 20 ∨ k = 26) (ht : tp.length ≤ 60) (hb : ∀ x ∈ tp, x ≤ 255) (hS : cSp k u tp (fun s P => wGText k M 1 [o] s P) S) (gS : gP tp S) : ∀ d, d ≤ 5 → cSp k u tp (fun s P => wGText k (M + d + 1) 0 [nI (5 - d), o] s P) (lev S tp d) := by
  intro d
  induction d with
  | zero =>
    intro _ s i W P c hi hW h1 h0
    show wText_reads (wGText k M) k (nI 5) o s P
    unfold wText_reads
    exact iF (nI_nlt (a := 5) (b := 5) (by omega) (by omega)) (hS s i W _ c hi hW (fun cs e t ct ft => ⟨Or.inr rfl, h1 cs e t ct ft⟩) (fun e t ct ft => ⟨Or.inl rfl, h0 e t ct ft⟩))
  | succ d ih =>
    intro hd
    have := ih (by omega)
    rw [show 5 - d = (4 - d) + 1 by omega] at this
    have r := c_lvl (rc := wGText k (M + d + 1)) (l := 4 - d) hk ht hb (by omega) this (lev_ok gS d)
    rw [show 5 - (d + 1) = 4 - d by omega]
    exact r
end RD
