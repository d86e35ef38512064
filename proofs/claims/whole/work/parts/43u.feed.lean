-- PURE: feed
theorem i64and (x : Int64) : x &&& 255 = lN (x.toBitVec.toNat % 256) := by
  apply Int64.toBitVec_inj.mp
  apply BitVec.eq_of_toNat_eq
  rw [Int64.toBitVec_and, BitVec.toNat_and, show ((255 : Int64)).toBitVec.toNat = 2 ^ 8 - 1 by decide, Nat.and_two_pow_sub_one_eq_mod]
  have : x.toBitVec.toNat % 256 < 2 ^ 64 := by omega
  simp [lN]
  omega
theorem sh64u (f : Int64) (k : Nat) (hk : k < 64) : (f.toUInt64 >>> UInt64.ofNat k).toInt64.toBitVec = f.toBitVec >>> k := by
  show (f.toUInt64 >>> UInt64.ofNat k).toBitVec = f.toBitVec >>> k
  rw [UInt64.toBitVec_shiftRight]
  apply BitVec.eq_of_toNat_eq
  simp [Nat.mod_eq_of_lt, show k < 18446744073709551616 by omega, hk]
theorem sh64s (f : Int64) (k : Nat) (hk : k < 64) : (f >>> Int64.ofNat k).toBitVec = f.toBitVec.sshiftRight k := by
  rw [Int64.toBitVec_shiftRight]
  have e : ((Int64.ofNat k).toBitVec.smod 64).toNat = k := by
    have : ∀ k : Nat, k < 64 → ((Int64.ofNat k).toBitVec.smod 64).toNat = k := by decide +kernel
    exact this k hk
  rw [BitVec.sshiftRight_eq', e]
theorem sh64 (f : Int64) (k : Nat) (hk : k ≤ 56) : (f.toUInt64 >>> UInt64.ofNat k).toInt64 &&& 255 = (f >>> Int64.ofNat k) &&& 255 := by
  apply Int64.toBitVec_inj.mp
  rw [Int64.toBitVec_and, Int64.toBitVec_and, sh64u f k (by omega), sh64s f k (by omega)]
  apply BitVec.eq_of_getLsbD_eq
  intro i hi
  rw [BitVec.getLsbD_and, BitVec.getLsbD_and]
  by_cases q : i < 8
  · rw [BitVec.getLsbD_ushiftRight, BitVec.getLsbD_sshiftRight]
    simp [show k + i < 64 by omega, hi, show ¬ 64 ≤ i by omega]
  · have : ((255 : Int64).toBitVec).getLsbD i = false := by
      have : ∀ j : Nat, j < 64 → ¬ j < 8 → ((255 : Int64).toBitVec).getLsbD j = false := by decide +kernel
      exact this i hi q
    rw [this, Bool.and_false, Bool.and_false]
def bN (f : Int64) (i : Nat) : Nat := (f >>> Int64.ofNat (8 * i)).toBitVec.toNat % 256
theorem bN_c (f : Int64) (i : Nat) (hi : i < 8) : Int64.toInt32 ((f.toUInt64 >>> ((8 * nI i).toInt64.toUInt64 &&& Int64.toUInt64 63)).toInt64 &&& 255) = nI (bN f i) := by
  have e : ((8 * nI i).toInt64.toUInt64 &&& Int64.toUInt64 63) = UInt64.ofNat (8 * i) := by
    have : ∀ i : Nat, i < 8 → ((8 * nI i).toInt64.toUInt64 &&& Int64.toUInt64 63) = UInt64.ofNat (8 * i) := by decide +kernel
    exact this i hi
  rw [e, sh64 f (8 * i) (by omega), i64and, lN_i]
  rfl
theorem bN_m (f : Int64) (i : Nat) (hi : i < 8) : Int64.toInt32 ((f >>> ((8 * nI i).toInt64 &&& 63)) &&& 255) = nI (bN f i) := by
  have e : ((8 * nI i).toInt64 &&& 63) = Int64.ofNat (8 * i) := by
    have : ∀ i : Nat, i < 8 → ((8 * nI i).toInt64 &&& 63) = Int64.ofNat (8 * i) := by decide +kernel
    exact this i hi
  rw [e, i64and, lN_i]
  rfl
def fdb (f : Int64) : Nat → Nat → List Nat → List Nat
  | 0, _, tp => tp
  | m + 1, i, tp => fdb f m (i + 1) (tp ++ [bN f i])
theorem fdb_ok {f : Int64} : ∀ (m i : Nat) (tp : List Nat), (∀ x ∈ tp, x ≤ 255) → (fdb f m i tp).length = tp.length + m ∧ ∀ x ∈ fdb f m i tp, x ≤ 255 := by
  intro m
  induction m with
  | zero => intro i tp h; exact ⟨rfl, h⟩
  | succ m ih =>
    intro i tp h
    have := ih (i + 1) (tp ++ [bN f i]) (fun x hx => by
      rcases List.mem_append.mp hx with hx | hx
      · exact h x hx
      · simp at hx
        subst hx
        unfold bN
        omega)
    refine ⟨?_, this.2⟩
    rw [fdb, this.1]
    simp
    omega
section FEE
variable {s t : Sg} {b kn : Nat} {th : Nat → Nat → Nat} {L : List Nat} {pk : Option Nat} {st se : Nat} {z : Int32} {tp tp2 : List Nat} {wt : List Int32} {cd : Nat → List Int32} {f g : Nat → Int32}
theorem CB_tp (h : CB s b kn th L pk st se z tp wt cd) (hk : kn ≤ 9) (hf : ∀ a, b ≤ a → a < b + 31 → a ≠ b + 4 → a ≠ b + 5 → t a = s a) (ho : IL (t (b + 4) 1) (t (b + 5)) (tp2.map nI)) : CB t b kn th L pk st se z tp2 wt cd := by
  obtain ⟨⟨a1, a2, a3, a4, a5⟩, o, tpe, w, thg, tx⟩ := h
  refine ⟨?_, ?_, ho, ?_, fun x hx j hj => ?_, fun u hu => ?_⟩
  · rw [hf b (by omega) (by omega) (by omega) (by omega)]; exact ⟨a1, a2, a3, a4, a5⟩
  · rw [hf (b + 2) (by omega) (by omega) (by omega) (by omega), hf (b + 3) (by omega) (by omega) (by omega) (by omega)]; exact o
  · rw [hf (b + 7) (by omega) (by omega) (by omega) (by omega), hf (b + 8) (by omega) (by omega) (by omega) (by omega)]; exact w
  · rw [hf (b + 10 + x) (by omega) (by omega) (by omega) (by omega)]; exact thg x hx j hj
  · rw [hf (b + 20 + 6 * u) (by omega) (by omega) (by omega) (by omega), hf (b + 21 + 6 * u) (by omega) (by omega) (by omega) (by omega)]; exact tx u hu
theorem MB_tp (h : MB f kn th L pk st se z tp wt cd) (hk : kn ≤ 9) (hl : L.length ≤ 9) (hw : wt.length ≤ 24) (hf : ∀ i, i ≠ 5 → ¬ (53 ≤ i ∧ i < 113) → g i = f i) (ho : IL (g 5) (fun i => g (53 + i)) (tp2.map nI)) : MB g kn th L pk st se z tp2 wt cd := by
  obtain ⟨⟨a1, a2, a3, a4, a5⟩, o, tpe, w, thg, tx⟩ := h
  refine ⟨?_, ?_, ho, ?_, fun x hx j hj => ?_, fun u hu => ?_⟩
  · rw [hf 2 (by omega) (by omega), hf 4 (by omega) (by omega), hf 0 (by omega) (by omega), hf 1 (by omega) (by omega), hf 7 (by omega) (by omega)]; exact ⟨a1, a2, a3, a4, a5⟩
  · exact IL_congr o (hf 3 (by omega) (by omega)) (fun i hi => hf (8 + i) (by omega) (by simp at hi; omega))
  · exact IL_congr w (hf 6 (by omega) (by omega)) (fun i hi => hf (113 + i) (by omega) (by omega))
  · rw [hf _ (by omega) (by omega)]; exact thg x hx j hj
  · refine ⟨by rw [hf (137 + 121 * u) (by omega) (by omega)]; exact (tx u hu).1, fun i c hc => ?_⟩
    rw [hf (138 + 121 * u + i) (by omega) (by omega), hf (198 + 121 * u + i) (by omega) (by omega)]
    exact (tx u hu).2 i c hc
theorem cp5 : cap 5 = 60 := by decide +kernel
theorem c_feedL {f : Int64} {N : Nat} {K : Sg → Prop} (hk : kn ≤ 9) (hN : N ≤ 8) (R : List Nat) (s0 : Sg) (h : ∀ t, CB t 1 kn th L pk st se z R wt cd → frC s0 t → K t) : ∀ (m i : Nat) (tp : List Nat) (s : Sg), i + m = N → tp.length + m ≤ 60 → CB s 1 kn th L pk st se z tp wt cd → frC s0 s → fdb f m i tp = R → wB_feed_45 f (nI N) K (m + 1) (nI i) s := by
  intro m
  induction m with
  | zero =>
    intro i tp s hi hl c hf e
    rw [wB_feed_45]
    rw [fdb] at e
    subst e
    exact iT (nI_le (by omega) (by omega)) (h s c hf)
  | succ m ih =>
    intro i tp s hi hl c hf e
    rw [wB_feed_45, bN_c f i (by omega)]
    refine iF (nI_ge (by omega) (by omega)) (p_add (k := 5) (l := tp.map nI) c.2.2.1 (by rw [cp5, List.length_map]; omega) (by rw [cp5]; omega) (fun t1 h1 f1 => ?_))
    rw [nI_1]
    refine ih (i + 1) (tp ++ [bN f i]) t1 (by omega) (by simp; omega) ?_ (fun a q1 q2 => (f1 a (by omega) (by omega)).trans (hf a q1 q2)) e
    exact CB_tp c hk (fun a _ _ h3 h4 => f1 a (by omega) (by omega)) (by simpa using h1)
theorem m_feedL {f : Int64} {N : Nat} {K : Sg → Prop} (hk : kn ≤ 9) (hN : N ≤ 8) (hL : L.length ≤ 9) (hw : wt.length ≤ 24) (R : List Nat) (s0 : Sg) (h : ∀ t, MB (t 1) kn th L pk st se z R wt cd → (∀ a, a ≠ 1 → t a = s0 a) → K t) : ∀ (m i : Nat) (tp : List Nat) (s : Sg), i + m = N → tp.length + m ≤ 60 → MB (s 1) kn th L pk st se z tp wt cd → (∀ a, a ≠ 1 → s a = s0 a) → fdb f m i tp = R → wM_feed_40 f (nI N) K (m + 1) (nI i) s := by
  intro m
  induction m with
  | zero =>
    intro i tp s hi hl c hf e
    rw [wM_feed_40]
    rw [fdb] at e
    subst e
    exact iT (nI_le (by omega) (by omega)) (h s c hf)
  | succ m ih =>
    intro i tp s hi hl c hf e
    have e5 : s 1 5 = nI tp.length := by rw [c.2.2.1.1]; simp
    rw [wM_feed_40, bN_m f i (by omega), e5, show (53 : Int32) + nI tp.length = nI (53 + tp.length) from nI_add 53 _, ixn (by omega)]
    refine iF (nI_ge (by omega) (by omega)) ⟨vp_in_nI (by omega) (by omega), fun t1 f1 t2 f2 => ?_⟩
    rw [nI_1]
    have g5 : t2 1 5 = nI (tp.length + 1) := by subst f2; rw [u2_same]; subst f1; rw [u2_ne (by omega), e5, nI_1]
    refine ih (i + 1) (tp ++ [bN f i]) t2 (by omega) (by simp; omega) ?_ (fun a ha => by subst f2; rw [u2_other ha]; subst f1; rw [u2_other ha]; exact hf a ha) e
    refine MB_tp c hk hL hw (fun j h1 h2 => by subst f2; rw [u2_ne (by omega)]; subst f1; rw [u2_ne (by omega)]) (IL_of (by rw [g5]; simp) (fun j hj => ?_))
    subst f2
    rw [u2_ne (by omega)]
    subst f1
    by_cases q : j = tp.length
    · subst q; rw [u2_same]; simp
    · rw [u2_ne (by omega)]
      have hj2 : j < tp.length := by simp at hj; omega
      have := IL_at c.2.2.1 (i := j) (by simpa using hj2)
      rw [this]
      simp [List.getElem_append, hj2]
end FEE
theorem eq_feed {a1 : Int64} {a2 : Int32} {s t : Sg} (h : Rel s t) : wB_feed a1 a2 s (fun r s => wM_feed a1 a2 t (fun r2 t => r = r2 ∧ Rel s t)) := by
  obtain ⟨kn, th, L, pk, st, se, z, tp, wt, cd, v, c, m⟩ := id h.1
  have hk := v.1
  have hlen := VB_len v
  have hwt := v.2.2.2.2.2.2.1
  obtain ⟨htp, htb⟩ := v.2.2.2.2.2.1
  rcases rng a2 1 8 (by omega) with ⟨n, h1, h2, rfl⟩ | hn
  · have c5 : s 5 1 = nI tp.length := by rw [show s 5 1 = s (1 + 4) 1 from rfl, c.2.2.1.1]; simp
    have m5 : t 1 5 = nI tp.length := by rw [m.2.2.1.1]; simp
    unfold wB_feed
    rw [c5, nI_add]
    refine iF (nI_nlt (a := n) (b := 1) h1 (by omega)) (iT (nI_le (b := 8) h2 (by omega)) ?_)
    have mm : ∀ {P : Int32 → Sg → Prop}, ((nI (tp.length + n) ≤ 60 → (∃ N1 : Nat, wM_feed_40 a1 (nI n) (fun (s2 : Sg) => P ((s2 1 5)) s2) N1 0 t)) ∧ (¬ nI (tp.length + n) ≤ 60 → (wM_error ((-1000000004)) t (fun (r2 : Int32) (s2 : Sg) => P r2 s2)))) → wM_feed a1 (nI n) t P := by
      intro P q
      unfold wM_feed
      refine m_inT (lo := 1) (hi := 8) h1 h2 (by omega) (les1 ?_)
      rw [m5, nI_add]
      exact q
    refine ⟨fun q => ⟨n + 1, ?_⟩, fun q => eq_err h cc4 (by omega) (by omega) (fun P hP => mm (iF q (m_error cc4 (by omega) (by omega) hP)))⟩
    have hq : tp.length + n ≤ 60 := (nI_leI (b := 60) (by omega) (by omega)).mp q
    refine c_feedL hk h2 (fdb a1 n 0 tp) s (fun s1 c1 f1 => mm (iT q ⟨n + 1, ?_⟩)) n 0 tp s (by omega) hq c frC.refl rfl
    refine m_feedL hk h2 (by omega) hwt (fdb a1 n 0 tp) t (fun t1 m1 g1 => ⟨c1.2.2.1.1.trans m1.2.2.1.1.symm, ?_⟩) n 0 tp t (by omega) hq m (fun _ _ => rfl) rfl
    have ok := fdb_ok (f := a1) n 0 tp htb
    refine Rel_of h f1 (frM1 g1) ⟨kn, th, L, pk, st, se, z, _, wt, cd, ?_, c1, m1⟩
    obtain ⟨v1, v2, v4, v5, v6, v7, v8⟩ := v
    exact ⟨v1, v2, v4, v5, v6, ⟨by rw [ok.1]; exact hq, ok.2⟩, v8⟩
  · have bad : wB_failed (-1000000001) s (fun r s => wM_feed a1 a2 t (fun r2 t => r = r2 ∧ Rel s t)) := eq_err h cc1 (by omega) (by omega) (fun P hP => m_inF (lo := 1) (hi := 8) (by omega) (by omega) hn (les0 (m_error cc1 (by omega) (by omega) hP)))
    unfold wB_feed
    simp only [Int32.lt_iff_toInt_lt, show (1 : Int32).toInt = 1 by decide]
    refine ⟨fun _ => bad, fun z1 => ⟨fun z2 => absurd ?_ hn, fun _ => bad⟩⟩
    rw [Int32.le_iff_toInt_le] at z2
    exact ⟨by omega, z2⟩
