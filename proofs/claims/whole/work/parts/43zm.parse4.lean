-- PURE: text, the reference reads
def TH (s : Sg) (u : Nat) (tp : List Nat) (i op : Nat) (b : Int32) : Prop := s 0 13 = nI i ∧ s 0 14 = nI op ∧ s 0 15 = b ∧ s 0 16 = nI u ∧ IL (s 1 5) (fun i => s 1 (53 + i)) (tp.map nI)
def TW (s : Sg) (W : List Int32) : Prop := IL (s 0 12) (s 8) (W.map acO) ∧ IL (s 0 12) (s 9) (W.map wiO)
def TN (s : Sg) : Prop := ∃ n : Nat, n ≤ 60 ∧ s 0 12 = nI n
def TM (s : Sg) (u : Nat) (tp : List Nat) (i : Nat) (W : List Int32) (op : Nat) : Prop := TH s u tp i op 0 ∧ TW s W
def TX (s : Sg) (u : Nat) (tp : List Nat) (i : Nat) (op : Nat) : Prop := TH s u tp i op 1 ∧ TN s
def tmF (s t : Sg) : Prop := (∀ a, a ≠ 0 → a ≠ 8 → a ≠ 9 → t a = s a) ∧ t 0 3 = s 0 3 ∧ t 0 21 = s 0 21
theorem tmF.refl {s : Sg} : tmF s s := ⟨fun _ _ _ _ => rfl, rfl, rfl⟩
theorem tmF.trans {s t u : Sg} (h1 : tmF s t) (h2 : tmF t u) : tmF s u := ⟨fun a x y z => (h2.1 a x y z).trans (h1.1 a x y z), h2.2.1.trans h1.2.1, h2.2.2.trans h1.2.2⟩
theorem tmF_put {s : Sg} {p : Nat} {v : Int32} (h : 12 ≤ p ∧ p ≤ 16) : tmF s (u2 s 0 p v) := ⟨fun a h1 _ _ => u2_other h1, u2_ne (by omega), u2_ne (by omega)⟩
section MR
variable {u : Nat} {tp : List Nat} {i op : Nat} {W : List Int32} {s : Sg} {P : Int32 → Sg → Prop} {b : Int32}
theorem TH_13 (c : TH s u tp i op b) {j : Nat} {v : Int32} (e : v = nI j) : TH (u2 s 0 13 v) u tp j op b := by
  obtain ⟨c1, c2, c3, c4, c5⟩ := c
  refine ⟨by rw [u2_same, e], by rw [u2_ne (by omega)]; exact c2, by rw [u2_ne (by omega)]; exact c3, by rw [u2_ne (by omega)]; exact c4, ?_⟩
  rw [u2_other (by omega)]
  exact c5
theorem TH_14 (c : TH s u tp i op b) {j : Nat} {v : Int32} (e : v = nI j) : TH (u2 s 0 14 v) u tp i j b := by
  obtain ⟨c1, c2, c3, c4, c5⟩ := c
  refine ⟨by rw [u2_ne (by omega)]; exact c1, by rw [u2_same, e], by rw [u2_ne (by omega)]; exact c3, by rw [u2_ne (by omega)]; exact c4, ?_⟩
  rw [u2_other (by omega)]
  exact c5
theorem TH_15 (c : TH s u tp i op b) {v : Int32} : TH (u2 s 0 15 v) u tp i op v := by
  obtain ⟨c1, c2, c3, c4, c5⟩ := c
  refine ⟨by rw [u2_ne (by omega)]; exact c1, by rw [u2_ne (by omega)]; exact c2, u2_same, by rw [u2_ne (by omega)]; exact c4, ?_⟩
  rw [u2_other (by omega)]
  exact c5
theorem TW_put (c : TW s W) {p : Nat} {v : Int32} (h : p ≠ 12) : TW (u2 s 0 p v) W := by
  unfold TW
  rw [u2_ne (by omega), u2_other (by omega), u2_other (by omega)]
  exact c
theorem TN_put (c : TN s) {p : Nat} {v : Int32} (h : p ≠ 12) : TN (u2 s 0 p v) := by
  unfold TN
  rw [u2_ne (by omega)]
  exact c
theorem TW_N (c : TW s W) (h : W.length ≤ 60) : TN s := ⟨W.length, h, by rw [c.1.1]; simp⟩
theorem m_look (ht : tp.length ≤ 60) (hb : ∀ x ∈ tp, x ≤ 255) (c : TH s u tp i op b) (hi : i ≤ tp.length) (h : P (bI (bz tp i)) s) : wM_look s P := by
  unfold wM_look
  rw [c.1, c.2.2.2.2.1, List.length_map, show (53 : Int32) + nI i = nI (53 + i) from nI_add 53 i, ixn (by omega)]
  rcases Nat.lt_or_ge i tp.length with q | q
  · refine iF (nI_ge q (by omega)) ⟨vp_in_nI (by omega) (by omega), ?_⟩
    have e6 : s 1 (53 + i) = nI tp[i] := c.2.2.2.2.2 i _ (by rw [List.getElem?_map, List.getElem?_eq_getElem q]; rfl)
    have := hb _ (List.getElem_mem q)
    rw [bz_at q, bI_n (by omega)] at h
    rw [e6]
    exact h
  · rw [bz_out q] at h
    exact iT (nI_le q (by omega)) h
theorem TH_row (c : TH s u tp i op b) {t : Sg} (h13 : ∀ j, 13 ≤ j → j ≤ 16 → t 0 j = s 0 j) (h1 : t 1 = s 1) : TH t u tp i op b := by
  unfold TH
  rw [h13 13 (by omega) (by omega), h13 14 (by omega) (by omega), h13 15 (by omega) (by omega), h13 16 (by omega) (by omega), h1]
  exact c
theorem m_step0 {a v : Int32} {K : Sg → Prop} {n : Nat} (hn : n < 60) (e : s 0 12 = nI n) (h : ∀ t, t 0 12 = nI (n + 1) → t 8 = upd (s 8) n a → t 9 = upd (s 9) n v → (∀ j, j ≠ 12 → t 0 j = s 0 j) → (∀ x, x ≠ 0 → x ≠ 8 → x ≠ 9 → t x = s x) → K t) : wM_step a v s K := by
  unfold wM_step
  rw [e, ixn (by omega)]
  refine iF (nI_ge (b := 60) hn (by omega)) ⟨vp_in_nI (by omega) (by omega), fun s1 e1 => ?_⟩
  have g1 : s1 0 12 = nI n := by subst e1; rw [u2_other (by omega)]; exact e
  rw [g1, ixn (by omega)]
  refine ⟨vp_in_nI (by omega) (by omega), fun s2 e2 s3 e3 => ?_⟩
  have g2 : s2 0 12 = nI n := by subst e2; rw [u2_other (by omega)]; exact g1
  rw [g2, nI_1] at e3
  refine h s3 ?_ ?_ ?_ (fun j hj => ?_) (fun x h0 h8 h9 => ?_)
  · subst e3; exact u2_same
  · subst e3; rw [u2_other (by omega)]; subst e2; rw [u2_other (by omega)]; subst e1; exact u2_row
  · subst e3; rw [u2_other (by omega)]; subst e2; rw [u2_row]; subst e1; rw [u2_other (by omega)]
  · subst e3; rw [u2_ne (by omega)]; subst e2; rw [u2_other (by omega)]; subst e1; rw [u2_other (by omega)]
  · subst e3; rw [u2_other h0]; subst e2; rw [u2_other h9]; subst e1; rw [u2_other h8]
theorem IL_push {n : Int32} {n2 : Int32} {g : Nat → Int32} {l : List Int32} {x : Int32} (h : IL n g l) (e : n2 = nI (l.length + 1)) : IL n2 (upd g l.length x) (l ++ [x]) := by
  refine IL_of (by rw [e]; simp) (fun i hi => ?_)
  by_cases q : i = l.length
  · subst q
    simp [upd]
  · have : i < l.length := by simp at hi; omega
    rw [List.getElem_append_left this, ← IL_at h this]
    simp [upd, q]
theorem m_stepM {a v c : Int32} {K : Sg → Prop} (ea : acO c = a) (ev : wiO c = v) (m : TM s u tp i W op) (hW : W.length < 60) (h : ∀ t, TM t u tp i (W ++ [c]) op → tmF s t → K t) : wM_step a v s K := by
  obtain ⟨m1, m2⟩ := m
  have e12 : s 0 12 = nI W.length := by rw [m2.1.1]; simp
  refine m_step0 hW e12 (fun t t12 t8 t9 t0 tx => h t ⟨TH_row m1 (fun j h1 _ => t0 j (by omega)) (tx 1 (by omega) (by omega) (by omega)), ?_, ?_⟩ ⟨tx, t0 3 (by omega), t0 21 (by omega)⟩)
  · rw [t8, List.map_append]
    have := IL_push (x := a) (n2 := t 0 12) m2.1 (by rw [t12]; simp)
    rw [List.length_map] at this
    rw [show List.map acO [c] = [a] by simp [ea]]
    exact this
  · rw [t9, List.map_append]
    have := IL_push (x := v) (n2 := t 0 12) m2.2 (by rw [t12]; simp)
    rw [List.length_map] at this
    rw [show List.map wiO [c] = [v] by simp [ev]]
    exact this
theorem m_stepX {a v : Int32} {K : Sg → Prop} (m : TX s u tp i op) (h : ∀ t, TX t u tp i op → tmF s t → K t) : wM_step a v s K := by
  obtain ⟨m1, n, hn, e⟩ := m
  rcases Nat.lt_or_ge n 60 with q | q
  · exact m_step0 q e (fun t t12 t8 t9 t0 tx => h t ⟨TH_row m1 (fun j h1 _ => t0 j (by omega)) (tx 1 (by omega) (by omega) (by omega)), n + 1, q, t12⟩ ⟨tx, t0 3 (by omega), t0 21 (by omega)⟩)
  · unfold wM_step
    rw [e]
    exact iT (nI_le (a := 60) q (by omega)) (h s ⟨m1, n, hn, e⟩ tmF.refl)
def nmV (u x : Nat) : Int32 := match nmN u x with
  | some j => nI j
  | none => -1
theorem m_nameOf {x : Nat} (hu : u < 2) (hx : x < 256 ∨ x = 999) (e : s 0 16 = nI u) (h : P (nmV u x) s) : wM_nameOf (bI x) s P := by
  have n2 : ∀ c : Nat, c < 256 → (¬ bI x = nI c) = ¬ (x = c) := fun c hc => by rw [bI_eq hx hc]
  have g : ∀ c : Nat, c < 256 → x = c → bI x = nI c := fun c hc e => (bI_eq hx hc).mpr e
  have g0 : ∀ c : Nat, c < 256 → ¬ x = c → ¬ bI x = nI c := fun c hc e z => e ((bI_eq hx hc).mp z)
  unfold wM_nameOf
  rw [e]
  unfold nmV nmN at h
  rcases (show u = 0 ∨ u = 1 by omega) with rfl | rfl
  · rw [if_pos rfl] at h
    by_cases h1 : x = 102
    · rw [if_pos h1] at h
      exact iF (g0 100 (by omega) (by omega)) (iT (g 102 (by omega) h1) (iT rfl (jT (g 102 (by omega) h1) h)))
    · rw [if_neg h1] at h
      by_cases h2 : x = 100
      · rw [if_pos h2] at h
        exact iT (g 100 (by omega) h2) (iT rfl (jF (g0 102 (by omega) h1) h))
      · rw [if_neg h2] at h
        refine iF (g0 100 (by omega) h2) (iF (g0 102 (by omega) h1) ?_)
        by_cases h3 : x = 107
        · rw [if_pos h3] at h
          exact iT (g 107 (by omega) h3) (jT rfl h)
        · rw [if_neg h3] at h
          refine iF (g0 107 (by omega) h3) ⟨fun _ => iF (by decide) h, fun _ => ⟨fun _ => iF (by decide) h, fun _ => h⟩⟩
  · rw [if_neg (by omega)] at h
    by_cases h1 : x = 110
    · rw [if_pos h1] at h
      exact iF (g0 100 (by omega) (by omega)) (iF (g0 102 (by omega) (by omega)) (iF (g0 107 (by omega) (by omega)) (iF (g0 109 (by omega) (by omega)) (iT (g 110 (by omega) h1) (iT rfl (jT (g 110 (by omega) h1) h))))))
    · rw [if_neg h1] at h
      by_cases h2 : x = 107
      · rw [if_pos h2] at h
        exact iF (g0 100 (by omega) (by omega)) (iF (g0 102 (by omega) (by omega)) (iT (g 107 (by omega) h2) (jF (by decide) h)))
      · rw [if_neg h2] at h
        by_cases h3 : x = 109
        · rw [if_pos h3] at h
          exact iF (g0 100 (by omega) (by omega)) (iF (g0 102 (by omega) (by omega)) (iF (g0 107 (by omega) h2) (iT (g 109 (by omega) h3) (iT rfl (jF (g0 110 (by omega) h1) h)))))
        · rw [if_neg h3] at h
          refine ⟨fun _ => iF (by decide) h, fun _ => ⟨fun _ => iF (by decide) h, fun _ => iF (g0 107 (by omega) h2) (iF (g0 109 (by omega) h3) (iF (g0 110 (by omega) h1) h))⟩⟩
theorem m_numL {K : Int32 → Int32 → Sg → Prop} (ht : tp.length ≤ 60) (hb : ∀ x ∈ tp, x ≤ 255) (s0 : Sg) (R : Nat × Nat) (i0 : Nat) (h : ∀ t, TM t u tp R.1 W op → tmF s0 t → K (nI R.2) (nI (R.1 - i0)) t) : ∀ (m a i v : Nat) (s : Sg), a + m = 4 → i = i0 + a → i ≤ tp.length → TM s u tp i W op → tmF s0 s → dg tp m i v = R → wM_number_4 K (m + 1) (nI v) (nI a) s := by
  intro m
  induction m with
  | zero =>
    intro a i v s ha hia hi c hf e
    rw [wM_number_4]
    rw [dg] at e
    subst e
    have := h s c hf
    rw [show (i, v).1 - i0 = a by show i - i0 = a; omega] at this
    exact iT (nI_le (a := 4) (by omega) (by omega)) this
  | succ m ih =>
    intro a i v s ha hia hi c hf e
    rw [wM_number_4]
    rw [dg] at e
    refine iF (nI_ge (a := a) (b := 4) (by omega) (by omega)) (m_look ht hb c.1 hi ?_)
    have num : ∀ {n : Nat} {A B : Prop}, n < 256 → (dgt n → B) → (¬ dgt n → A) → wM_in (nI n) 48 57 s (fun r2 s2 => (r2 = 0 → A) ∧ (¬ r2 = 0 → B)) := fun hn hB hA => m_in (fun h1 h2 => by
      rw [nI_toInt (by omega)] at h1 h2
      rw [show (48 : Int32).toInt = 48 by decide] at h1
      rw [show (57 : Int32).toInt = 57 by decide] at h2
      exact sel1 (hB ⟨by omega, by omega⟩)) (fun hz => by
      rw [nI_toInt (by omega), show (48 : Int32).toInt = 48 by decide, show (57 : Int32).toInt = 57 by decide] at hz
      exact sel0 (hA (fun z => hz ⟨by omega, by omega⟩)))
    by_cases q : dgt (bz tp i)
    · rw [if_pos q] at e
      rw [bI_n (by omega)]
      refine num (A := K (nI v) (nI a) s) (B := wM_look s (fun r3 s3 => ∀ s4 : Sg, s4 = u2 s3 0 13 (s3 0 13 + 1) → wM_number_4 K (m + 1) (10 * nI v + r3 - 48) (nI a + 1) s4)) (by omega) (fun _ => m_look ht hb c.1 hi (fun s4 e4 => ?_)) (fun z => absurd q z)
      rw [c.1.1, nI_1] at e4
      subst e4
      have ev : 10 * nI v + bI (bz tp i) - 48 = nI (10 * v + (bz tp i - 48)) := by
        rw [bI_n (by omega), show (10 : Int32) = nI 10 from rfl, pk_mul, nI_add, show (48 : Int32) = nI 48 from rfl, pk_sub (by omega)]
        congr 1
        omega
      rw [ev, nI_1]
      exact ih (a + 1) (i + 1) _ _ (by omega) (by omega) (bz_in (by omega)) ⟨TH_13 c.1 rfl, TW_put c.2 (by omega)⟩ (hf.trans (tmF_put (by omega))) e
    · rw [if_neg q] at e
      subst e
      have h2 := h s c hf
      rw [show (i, v).1 - i0 = a by show i - i0 = a; omega] at h2
      rcases bz_cs hb i with h3 | h3
      · rw [bI_n h3]
        exact num (A := K (nI v) (nI a) s) (B := wM_look s (fun r3 s3 => ∀ s4 : Sg, s4 = u2 s3 0 13 (s3 0 13 + 1) → wM_number_4 K (m + 1) (10 * nI v + r3 - 48) (nI a + 1) s4)) h3 (fun z => absurd z q) (fun _ => h2)
      · rw [h3]
        exact m_in (fun h1 _ => absurd h1 (by decide)) (fun _ => sel0 h2)
end MR
