-- PURE: odds
/-- the sum of the uses of the things from i on, within a time -/
def usd (th : Nat → Nat → Nat) (cd : Nat → List Int32) (L : List Nat) (pk : Option Nat) (w : Int32) : Nat → Nat → Int32 → Int32
  | 0, _, acc => acc
  | m + 1, i, acc => if i ∈ L ∨ pk = some i then (if w < tmf th cd L i (bsf th cd L i) then usd th cd L pk w m (i + 1) acc else usd th cd L pk w m (i + 1) (acc + gvw cd 1 (nI i) (nI (th i 0)) (nI (th i 1)))) else usd th cd L pk w m (i + 1) acc
theorem usd_nat {th : Nat → Nat → Nat} {cd : Nat → List Int32} {L : List Nat} {pk : Option Nat} {w : Int32} : ∀ (m i a : Nat), ∃ n, n ≤ a + 99 * m ∧ usd th cd L pk w m i (nI a) = nI n := by
  intro m
  induction m with
  | zero => intro i a; exact ⟨a, by omega, rfl⟩
  | succ m ih =>
    intro i a
    obtain ⟨g, hg, e⟩ := gvw_nat cd 1 (nI i) (nI (th i 0)) (nI (th i 1))
    rw [usd]
    split
    · split
      · obtain ⟨n, hn, e2⟩ := ih (i + 1) a
        exact ⟨n, by omega, e2⟩
      · obtain ⟨n, hn, e2⟩ := ih (i + 1) (a + g)
        rw [e, nI_add]
        exact ⟨n, by omega, e2⟩
    · obtain ⟨n, hn, e2⟩ := ih (i + 1) a
      exact ⟨n, by omega, e2⟩
section ODD
variable {s t : Sg} {kn : Nat} {th : Nat → Nat → Nat} {L : List Nat} {pk : Option Nat} {st se : Nat} {z : Int32} {tp : List Nat} {wt : List Int32} {cd : Nat → List Int32}
theorem c_used {x : Nat} {P : Int32 → Sg → Prop} (v : VB kn th L pk st se tp wt cd) (c : CB s 1 kn th L pk st se z tp wt cd) (hx : x < kn) (h : ∀ t, scr s t → P (gvw cd 1 (nI x) (nI (th x 0)) (nI (th x 1))) t) : wBag_usedOf (nI x) s P := by
  have hk := v.1
  unfold wBag_usedOf
  rw [t11 (by omega), c.2.2.2.2.1 x hx 0 (by omega), c.2.2.2.2.1 x hx 1 (by omega)]
  exact ⟨vp_in_nI (by omega) (by omega), vp_in_nI (by omega) (by omega), c_gives (u := 1) v c (by omega) h⟩
theorem m_used {x : Nat} {P : Int32 → Sg → Prop} (v : VB kn th L pk st se tp wt cd) (m : MB (s 1) kn th L pk st se z tp wt cd) (hx : x < kn) (h : ∀ t, mq s t → P (gvw cd 1 (nI x) (nI (th x 0)) (nI (th x 1))) t) : wM_usedOf (nI x) s P := by
  have hk := v.1
  exact m_of (j := 0) m hk hx (by omega) (m_of (j := 1) m hk hx (by omega) (m_gives (u := 1) v m (by omega) h))
theorem c_withinL {w : Int32} {K : Int32 → Sg → Prop} (v : VB kn th L pk st se tp wt cd) (s0 : Sg) (c0 : CB s0 1 kn th L pk st se z tp wt cd) (R : Int32) (h : ∀ t, scr s0 t → K R t) : ∀ (m i : Nat) (acc : Int32) (s : Sg), i + m = kn → scr s0 s → usd th cd L pk w m i acc = R → wThought_usedWithin_5 w K (m + 1) acc (nI i) s := by
  have hk := v.1
  intro m
  induction m with
  | zero =>
    intro i acc s hi hf e
    have c := scr_CB hk c0 hf
    rw [wThought_usedWithin_5, c.1.1]
    rw [usd] at e
    subst e
    exact iT (nI_le (by omega) (by omega)) (h s hf)
  | succ m ih =>
    intro i acc s hi hf e
    have c := scr_CB hk c0 hf
    rw [wThought_usedWithin_5, c.1.1, nI_1]
    rw [usd] at e
    refine iF (nI_ge (by omega) (by omega)) (chere2 v c (by omega) (fun hxp => ?_) (fun n1 n2 => ?_))
    · rw [if_pos hxp] at e
      refine c_best v c (by omega) (fun s1 k1 => ?_)
      have c1 := scr_CB hk c k1
      refine c_time v c1 (by omega) (fun s2 k2 => ⟨fun q => ?_, fun q => ?_⟩)
      · rw [if_pos q] at e
        exact ih (i + 1) acc s2 (by omega) ((hf.trans k1).trans k2) e
      · rw [if_neg q] at e
        exact c_used v (scr_CB hk c1 k2) (by omega) (fun s3 k3 => ih (i + 1) _ s3 (by omega) (((hf.trans k1).trans k2).trans k3) e)
    · rw [if_neg (show ¬ (i ∈ L ∨ pk = some i) from fun e => by rcases e with e | e; exact n1 e; exact n2 e)] at e
      exact ih (i + 1) acc s (by omega) hf e
theorem c_within {w : Int32} {P : Int32 → Sg → Prop} (v : VB kn th L pk st se tp wt cd) (c : CB s 1 kn th L pk st se z tp wt cd) (h : ∀ t, scr s t → P (usd th cd L pk w kn 0 0) t) : wThought_usedWithin w s P :=
  ⟨kn + 1, c_withinL v s c (usd th cd L pk w kn 0 0) h kn 0 0 s (by omega) scr.refl rfl⟩
theorem m_oddL {w f2 : Int32} {K : Int32 → Int32 → Sg → Prop} (v : VB kn th L pk st se tp wt cd) (s0 : Sg) (m0 : MB (s0 1) kn th L pk st se z tp wt cd) (R R2 : Int32) (h : ∀ t, mq s0 t → K R R2 t) : ∀ (m i : Nat) (a b : Int32) (s : Sg), i + m = kn → mq s0 s → usd th cd L pk w m i a = R → usd th cd L pk 2147483647 m i b = R2 → wM_odds_35 w f2 K (m + 1) a b (nI i) s := by
  have hk := v.1
  have hlen := VB_len v
  intro m
  induction m with
  | zero =>
    intro i a b s hi hf e e2
    have c : MB (s 1) kn th L pk st se z tp wt cd := by rw [hf.1]; exact m0
    rw [wM_odds_35, c.1.1]
    rw [usd] at e e2
    subst e; subst e2
    exact iT (nI_le (by omega) (by omega)) (h s hf)
  | succ m ih =>
    intro i a b s hi hf e e2
    have c : MB (s 1) kn th L pk st se z tp wt cd := by rw [hf.1]; exact m0
    rw [wM_odds_35, c.1.1, nI_1]
    rw [usd] at e e2
    refine iF (nI_ge (by omega) (by omega)) (mhere2 v c (by omega) (fun hxp => ?_) (fun n1 n2 => ?_))
    · rw [if_pos hxp] at e e2
      obtain ⟨T, hT, eT⟩ := tmf_nat (th := th) (cd := cd) (L := L) (x := i) (w := bsf th cd L i) (by omega)
      rw [if_neg (show ¬ (2147483647 : Int32) < tmf th cd L i (bsf th cd L i) by rw [eT]; exact nI_nlt (a := 2147483647) (b := T) (by omega) (by omega))] at e2
      refine m_used v c (by omega) (fun s1 k1 => ?_)
      have c1 : MB (s1 1) kn th L pk st se z tp wt cd := by rw [k1.1]; exact c
      refine m_best v c1 (by omega) hxp (fun s2 k2 => ?_)
      have c2 : MB (s2 1) kn th L pk st se z tp wt cd := by rw [k2.1]; exact c1
      refine m_time v c2 (by omega) hxp (bsw_in _) (fun s3 k3 => ⟨fun q => ?_, fun q => ?_⟩)
      · rw [if_pos q] at e
        exact ih (i + 1) _ _ s3 (by omega) (((hf.trans k1).trans k2).trans k3) (by rw [Int32.add_zero]; exact e) e2
      · rw [if_neg q] at e
        exact ih (i + 1) _ _ s3 (by omega) (((hf.trans k1).trans k2).trans k3) e e2
    · rw [if_neg (show ¬ (i ∈ L ∨ pk = some i) from fun e => by rcases e with e | e; exact n1 e; exact n2 e)] at e e2
      exact ih (i + 1) a b s (by omega) hf e e2
end ODD
-- Euclid
theorem gcd_step {a b R : Nat} (e : Nat.gcd a b = R) : Nat.gcd b (a % b) = R := by
  rw [← e, Nat.gcd_comm a b, Nat.gcd_rec b a, Nat.gcd_comm]
theorem c_gcdL {K : Int32 → Sg → Prop} {s : Sg} (R : Nat) (h : K (nI R) s) : ∀ (m a b i : Nat), a ≤ 9999 → b ≤ a → a * b < 2 ^ m → i + m < 64 → Nat.gcd a b = R → wB_commonDivisor_7 K (m + 1) (nI a) (nI b) (nI i) s := by
  intro m
  induction m with
  | zero =>
    intro a b i ha hb hq hi e
    rw [wB_commonDivisor_7]
    have hb0 : b = 0 := by
      rcases Nat.eq_zero_or_pos b with q | q
      · exact q
      · have := Nat.mul_pos (show 0 < a by omega) q
        omega
    subst hb0
    rw [Nat.gcd_zero_right] at e
    subst e
    exact iF (nI_ge (a := i) (b := 64) (by omega) (by omega)) (iT rfl h)
  | succ m ih =>
    intro a b i ha hb hq hi e
    rw [wB_commonDivisor_7]
    refine iF (nI_ge (a := i) (b := 64) (by omega) (by omega)) ?_
    rcases Nat.eq_zero_or_pos b with q | q
    · subst q
      rw [Nat.gcd_zero_right] at e
      subst e
      exact iT rfl h
    · refine iF (nI_ne0 q (by omega)) ⟨nI_ne0 q (by omega), ?_⟩
      rw [show nI a - nI a / nI b * nI b = nI (a % b) from pk_rem (by omega) (by omega) (by omega), nI_1]
      have hlt := Nat.mod_lt a q
      have h1 : 1 ≤ a / b := Nat.div_pos hb q
      have h2 := Nat.div_add_mod a b
      have h3 : b * 1 ≤ b * (a / b) := Nat.mul_le_mul_left b h1
      have h4 : 2 * (a % b) ≤ a := by omega
      have h5 : b * (2 * (a % b)) ≤ b * a := Nat.mul_le_mul_left b h4
      have h6 : b * (2 * (a % b)) = 2 * (b * (a % b)) := by rw [Nat.mul_left_comm]
      have h7 : b * a = a * b := Nat.mul_comm b a
      have h8 : 2 ^ (m + 1) = 2 * 2 ^ m := by rw [Nat.pow_succ, Nat.mul_comm]
      exact ih b (a % b) (i + 1) (by omega) (by omega) (by omega) (by omega) (gcd_step e)
theorem c_gcd {K : Int32 → Sg → Prop} {s : Sg} {a b : Nat} (ha : a ≤ 9999) (hb : b ≤ 9999) (h : K (nI (Nat.gcd a b)) s) : wB_commonDivisor (nI a) (nI b) s K := by
  refine ⟨32, ?_⟩
  rw [wB_commonDivisor_7]
  refine iF (by decide) ?_
  rcases Nat.eq_zero_or_pos b with q | q
  · subst q
    rw [Nat.gcd_zero_right] at h
    exact iT rfl h
  · refine iF (nI_ne0 q (by omega)) ⟨nI_ne0 q (by omega), ?_⟩
    rw [show nI a - nI a / nI b * nI b = nI (a % b) from pk_rem (by omega) (by omega) (by omega)]
    have hlt := Nat.mod_lt a q
    have h5 : b * (a % b) ≤ 9999 * 9999 := Nat.mul_le_mul hb (by omega)
    exact c_gcdL (Nat.gcd a b) h 30 b (a % b) 1 hb (by omega) (by omega) (by omega) (gcd_step rfl)
theorem m_gcdL {f2 f3 f4 : Int32} {K : Int32 → Sg → Prop} {s : Sg} (R : Nat) (h : K (nI R) s) : ∀ (m a b : Nat), b ≤ m → a < 2 ^ 30 → b < 2 ^ 30 → Nat.gcd a b = R → wM_odds_122 f2 f3 f4 K (m + 1) (nI b) (nI a) s := by
  intro m
  induction m with
  | zero =>
    intro a b hb ha hb2 e
    rw [wM_odds_122]
    have hb0 : b = 0 := by omega
    subst hb0
    rw [Nat.gcd_zero_right] at e
    subst e
    exact iT rfl h
  | succ m ih =>
    intro a b hb ha hb2 e
    rw [wM_odds_122]
    rcases Nat.eq_zero_or_pos b with q | q
    · subst q
      rw [Nat.gcd_zero_right] at e
      subst e
      exact iT rfl h
    · refine iF (nI_ne0 q (by omega)) ⟨nI_ne0 q (by omega), ?_⟩
      rw [show nI a - nI a / nI b * nI b = nI (a % b) from pk_rem (by omega) (by omega) (by omega)]
      have hlt := Nat.mod_lt a q
      exact ih b (a % b) (by omega) hb2 (by omega) (gcd_step e)
theorem p_askT {n : Nat} {s : Sg} {P : Int32 → Sg → Prop} (h : n ≤ 999) (k : P 1 s) : wB_isTimeAsked (nI n) s P :=
  iF (nI_pos (by omega)) (iF (nI_nlt (a := 999) (b := n) (by omega) (by omega)) k)
theorem p_askF {a : Int32} {s : Sg} {P : Int32 → Sg → Prop} (h : ¬ (((0 : Nat) : Int) ≤ a.toInt ∧ a.toInt ≤ ((999 : Nat) : Int))) (k : P 0 s) : wB_isTimeAsked a s P := by
  unfold wB_isTimeAsked
  simp only [Int32.lt_iff_toInt_lt, show (0 : Int32).toInt = 0 by decide, show (999 : Int32).toInt = 999 by decide]
  exact ⟨fun _ => k, fun z => ⟨fun _ => k, fun z2 => absurd ⟨by omega, by omega⟩ h⟩⟩
theorem eq_odds {a1 a2 : Int32} {s t : Sg} (h : Rel s t) : wB_odds a1 a2 s (fun r s => wM_odds a1 a2 t (fun r2 t => r = r2 ∧ Rel s t)) := by
  obtain ⟨kn, th, L, pk, st, se, z, tp, wt, cd, v, c, m⟩ := id h.1
  have hk := v.1
  unfold wB_odds
  rcases rng a1 0 999 (by omega) with ⟨q, -, hq, rfl⟩ | hn
  · refine p_askT hq (sel1 ?_)
    rcases rng a2 0 1 (by omega) with ⟨w, -, hw, rfl⟩ | hw
    · refine iF (nI_pos (by omega)) (iT (nI_le (b := 1) hw (by omega)) ?_)
      obtain ⟨T, hT, eT⟩ := usd_nat (th := th) (cd := cd) (L := L) (pk := pk) (w := 2147483647) kn 0 0
      obtain ⟨W, hW, eW⟩ := usd_nat (th := th) (cd := cd) (L := L) (pk := pk) (w := nI q) kn 0 0
      have eT2 : usd th cd L pk 2147483647 kn 0 0 = nI T := eT
      have eW2 : usd th cd L pk (nI q) kn 0 0 = nI W := eW
      refine c_within v c (fun s1 k1 => ?_)
      have c1 := scr_CB hk c k1
      rw [eT2]
      have mm : ∀ {P : Int32 → Sg → Prop}, (∀ t1, mq t t1 → ((¬ nI T = 0 → (∃ N2 : Nat, wM_odds_122 (nI w) (nI W) (nI T) (fun (v3 : Int32) (s4 : Sg) => ((¬ nI w = 0 → (¬ v3 = 0 ∧ P ((nI T / v3)) s4)) ∧ (nI w = 0 → (¬ v3 = 0 ∧ P ((nI W / v3)) s4)))) N2 (nI W) (nI T) t1)) ∧ (nI T = 0 → wM_error (-1000000003) t1 P))) → wM_odds (nI q) (nI w) t P := by
        intro P p
        unfold wM_odds
        refine m_inT (lo := 0) (hi := 999) (by omega) hq (by omega) (sel1 (m_inT (lo := 0) (hi := 1) (by omega) hw (by omega) (les1 ⟨kn + 1, ?_⟩)))
        exact m_oddL v t m (nI W) (nI T) (fun t1 g1 => p t1 g1) kn 0 0 0 t (by omega) mq.refl eW2 eT2
      refine ⟨fun qT => ?_, fun qT => ?_⟩
      · have hT0 : 0 < T := by
          rcases Nat.eq_zero_or_pos T with e | e
          · exact absurd (by rw [e]; rfl) qT
          · exact e
        refine c_within v c1 (fun s2 k2 => ?_)
        rw [eW2]
        have hg : Nat.gcd T W ≤ T := Nat.gcd_le_left W hT0
        have hg0 : 0 < Nat.gcd T W := Nat.gcd_pos_of_pos_left W hT0
        have gne : ¬ nI (Nat.gcd T W) = 0 := nI_ne0 hg0 (by omega)
        refine c_gcd (by omega) (by omega) (jF gne ?_)
        have km := k1.trans k2
        refine ⟨fun qw => ⟨gne, mm (fun t1 g1 => jF qT ⟨W + 1, m_gcdL (Nat.gcd T W) (jF qw ⟨gne, rfl, scr_Rel h km g1⟩) W T W (by omega) (by omega) (by omega) rfl⟩)⟩, fun qw => ⟨gne, mm (fun t1 g1 => jF qT ⟨W + 1, m_gcdL (Nat.gcd T W) (jT qw ⟨gne, rfl, scr_Rel h km g1⟩) W T W (by omega) (by omega) (by omega) rfl⟩)⟩⟩
      · exact p_failed cc3 (by omega) (by omega) (mm (fun t1 g1 => jT qT (m_error cc3 (by omega) (by omega) ⟨rfl, Rel_err (scr_Rel h k1 g1)⟩)))
    · have bad : wB_failed (-1000000001) s (fun r s => wM_odds (nI q) a2 t (fun r2 t => r = r2 ∧ Rel s t)) := eq_err h cc1 (by omega) (by omega) (fun P hP => m_inT (lo := 0) (hi := 999) (by omega) hq (by omega) (sel1 (m_inF (lo := 0) (hi := 1) (by omega) (by omega) hw (les0 (m_error cc1 (by omega) (by omega) hP)))))
      simp only [Int32.lt_iff_toInt_lt, Int32.le_iff_toInt_le, show (0 : Int32).toInt = 0 by decide, show (1 : Int32).toInt = 1 by decide]
      exact ⟨fun _ => bad, fun z1 => ⟨fun z2 => absurd ⟨by omega, by omega⟩ hw, fun _ => bad⟩⟩
  · exact p_askF hn (sel0 (eq_err h cc1 (by omega) (by omega) (fun P hP => m_inF (lo := 0) (hi := 999) (by omega) (by omega) hn (sel0 (m_error cc1 (by omega) (by omega) hP)))))
