-- PURE: odds
/-- the sum of the uses of the things from i on, within a time -/
def usd (th : Nat → Nat → Nat) (cd : Nat → List Int32) (L : List Nat) (pk : Option Nat) (w : Int32) : Nat → Nat → Int32 → Int32
  | 0, _, acc => acc
  | m + 1, i, acc => if i ∈ L ∨ pk = some i then (if w < tmf th cd L i (bsf th cd L i) then usd th cd L pk w m (i + 1) acc else usd th cd L pk w m (i + 1) (acc + gvw cd 1 (nI i) (nI (th i 0)) (nI (th i 1)))) else usd th cd L pk w m (i + 1) acc
theorem usd_nat {th : Nat → Nat → Nat} {cd : Nat → List Int32} {L : List Nat} {pk : Option Nat} {w : Int32} : ∀ (m i a : Nat), ∃ n, n ≤ a + 99 * m ∧ usd th cd L pk w m i (nI a) = nI n := by
  intro m
  induction m with
  | zero => intro i a; exact ⟨a, by omega, rfl⟩
  | succ m ih =>
    intro i a
    obtain ⟨g, hg, e⟩ := gvw_nat cd 1 (nI i) (nI (th i 0)) (nI (th i 1))
    rw [usd]
    split
    · split
      · obtain ⟨n, hn, e2⟩ := ih (i + 1) a
        exact ⟨n, by omega, e2⟩
      · obtain ⟨n, hn, e2⟩ := ih (i + 1) (a + g)
        rw [e, nI_add]
        exact ⟨n, by omega, e2⟩
    · obtain ⟨n, hn, e2⟩ := ih (i + 1) a
      exact ⟨n, by omega, e2⟩
section ODD
variable {s t : Sg} {kn : Nat} {th : Nat → Nat → Nat} {L : List Nat} {pk : Option Nat} {st se : Nat} {z : Int32} {tp : List Nat} {wt : List Int32} {cd : Nat → List Int32}
theorem c_used {x : Nat} {P : Int32 → Sg → Prop} (v : VB kn th L pk st se tp wt cd) (c : CB s 1 kn th L pk st se z tp wt cd) (hx : x < kn) (h : ∀ t, scr s t → P (gvw cd 1 (nI x) (nI (th x 0)) (nI (th x 1))) t) : wBag_usedOf (nI x) s P := by
  have hk := v.1
  unfold wBag_usedOf
  rw [t11 (by omega), c.2.2.2.2.1 x hx 0 (by omega), c.2.2.2.2.1 x hx 1 (by omega)]
  exact ⟨vp_in_nI (by omega) (by omega), vp_in_nI (by omega) (by omega), c_gives (u := 1) v c (by omega) h⟩
theorem m_used {x : Nat} {P : Int32 → Sg → Prop} (v : VB kn th L pk st se tp wt cd) (m : MB (s 1) kn th L pk st se z tp wt cd) (hx : x < kn) (h : ∀ t, mq s t → P (gvw cd 1 (nI x) (nI (th x 0)) (nI (th x 1))) t) : wM_usedOf (nI x) s P := by
  have hk := v.1
  exact m_of (j := 0) m hk hx (by omega) (m_of (j := 1) m hk hx (by omega) (m_gives (u := 1) v m (by omega) h))
theorem c_withinL {w : Int32} {K : Int32 → Sg → Prop} (v : VB kn th L pk st se tp wt cd) (s0 : Sg) (c0 : CB s0 1 kn th L pk st se z tp wt cd) (R : Int32) (h : ∀ t, scr s0 t → K R t) : ∀ (m i : Nat) (acc : Int32) (s : Sg), i + m = kn → scr s0 s → usd th cd L pk w m i acc = R → wThought_usedWithin_5 w K (m + 1) acc (nI i) s := by
  have hk := v.1
  intro m
  induction m with
  | zero =>
    intro i acc s hi hf e
    have c := scr_CB hk c0 hf
    rw [wThought_usedWithin_5, c.1.1]
    rw [usd] at e
    subst e
    exact iT (nI_le (by omega) (by omega)) (h s hf)
  | succ m ih =>
    intro i acc s hi hf e
    have c := scr_CB hk c0 hf
    rw [wThought_usedWithin_5, c.1.1, nI_1]
    rw [usd] at e
    refine iF (nI_ge (by omega) (by omega)) (chere2 v c (by omega) (fun hxp => ?_) (fun n1 n2 => ?_))
    · rw [if_pos hxp] at e
      refine c_best v c (by omega) (fun s1 k1 => ?_)
      have c1 := scr_CB hk c k1
      refine c_time v c1 (by omega) (fun s2 k2 => ⟨fun q => ?_, fun q => ?_⟩)
      · rw [if_pos q] at e
        exact ih (i + 1) acc s2 (by omega) ((hf.trans k1).trans k2) e
      · rw [if_neg q] at e
        exact c_used v (scr_CB hk c1 k2) (by omega) (fun s3 k3 => ih (i + 1) _ s3 (by omega) (((hf.trans k1).trans k2).trans k3) e)
    · rw [if_neg (show ¬ (i ∈ L ∨ pk = some i) from fun e => by rcases e with e | e; exact n1 e; exact n2 e)] at e
      exact ih (i + 1) acc s (by omega) hf e
theorem c_within {w : Int32} {P : Int32 → Sg → Prop} (v : VB kn th L pk st se tp wt cd) (c : CB s 1 kn th L pk st se z tp wt cd) (h : ∀ t, scr s t → P (usd th cd L pk w kn 0 0) t) : wThought_usedWithin w s P :=
  ⟨kn + 1, c_withinL v s c (usd th cd L pk w kn 0 0) h kn 0 0 s (by omega) scr.refl rfl⟩
theorem m_oddL {w f2 : Int32} {K : Int32 → Int32 → Sg → Prop} (v : VB kn th L pk st se tp wt cd) (s0 : Sg) (m0 : MB (s0 1) kn th L pk st se z tp wt cd) (R R2 : Int32) (h : ∀ t, mq s0 t → K R R2 t) : ∀ (m i : Nat) (a b : Int32) (s : Sg), i + m = kn → mq s0 s → usd th cd L pk w m i a = R → usd th cd L pk 2147483647 m i b = R2 → wM_odds_35 w f2 K (m + 1) a b (nI i) s := by
  have hk := v.1
  have hlen := VB_len v
  intro m
  induction m with
  | zero =>
    intro i a b s hi hf e e2
    have c : MB (s 1) kn th L pk st se z tp wt cd := by rw [hf.1]; exact m0
    rw [wM_odds_35, c.1.1]
    rw [usd] at e e2
    subst e; subst e2
    exact iT (nI_le (by omega) (by omega)) (h s hf)
  | succ m ih =>
    intro i a b s hi hf e e2
    have c : MB (s 1) kn th L pk st se z tp wt cd := by rw [hf.1]; exact m0
    rw [wM_odds_35, c.1.1, nI_1]
    rw [usd] at e e2
    refine iF (nI_ge (by omega) (by omega)) (mhere2 v c (by omega) (fun hxp => ?_) (fun n1 n2 => ?_))
    · rw [if_pos hxp] at e e2
      obtain ⟨T, hT, eT⟩ := tmf_nat (th := th) (cd := cd) (L := L) (x := i) (w := bsf th cd L i) (by omega)
      rw [if_neg (show ¬ (2147483647 : Int32) < tmf th cd L i (bsf th cd L i) by rw [eT]; exact nI_nlt (a := 2147483647) (b := T) (by omega) (by omega))] at e2
      refine m_used v c (by omega) (fun s1 k1 => ?_)
      have c1 : MB (s1 1) kn th L pk st se z tp wt cd := by rw [k1.1]; exact c
      refine m_best v c1 (by omega) hxp (fun s2 k2 => ?_)
      have c2 : MB (s2 1) kn th L pk st se z tp wt cd := by rw [k2.1]; exact c1
      refine m_time v c2 (by omega) hxp (bsw_in _) (fun s3 k3 => ⟨fun q => ?_, fun q => ?_⟩)
      · rw [if_pos q] at e
        exact ih (i + 1) _ _ s3 (by omega) (((hf.trans k1).trans k2).trans k3) (by rw [Int32.add_zero]; exact e) e2
      · rw [if_neg q] at e
        exact ih (i + 1) _ _ s3 (by omega) (((hf.trans k1).trans k2).trans k3) e e2
    · rw [if_neg (show ¬ (i ∈ L ∨ pk = some i) from fun e => by rcases e with e | e; exact n1 e; exact n2 e)] at e e2
      exact ih (i + 1) a b s (by omega) hf e e2
end ODD
