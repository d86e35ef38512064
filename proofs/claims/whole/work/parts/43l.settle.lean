-- PURE: settles
def stl (th : Nat → Nat → Nat) (st : Nat) : Nat → Nat → List Nat → Nat
  | 0, i, _ => i
  | m + 1, i, l => if (stp (snks th (st + i)) l).2 then stl th st m (i + 1) (stp (snks th (st + i)) l).1 else i
theorem stl_le {th : Nat → Nat → Nat} {st : Nat} : ∀ (m i : Nat) (l : List Nat), stl th st m i l ≤ i + m := by
  intro m
  induction m with
  | zero => intro i l; rw [stl]; omega
  | succ m ih =>
    intro i l
    rw [stl]
    split
    · have := ih (i + 1) (stp (snks th (st + i)) l).1; omega
    · omega
section SET
variable {s t : Sg} {kn : Nat} {th : Nat → Nat → Nat} {L : List Nat} {pk : Option Nat} {st se : Nat} {z : Int32} {tp : List Nat} {wt : List Int32} {cd : Nat → List Int32}
theorem c_setL {P : Int32 → Sg → Prop} {K : Sg → Prop} (v : VB kn th L pk st se tp wt cd) (s0 : Sg) (c0 : CB s0 1 kn th L pk st se z tp wt cd) (N : Nat) (h1 : ∀ t, N ≤ 99 → thk s0 t → P (nI N) t) (h0 : ∀ t, N = 100 → thk s0 t → K t) : ∀ (m i : Nat) (l : List Nat) (s : Sg), i + m = 100 → l.length ≤ 9 → (∀ x ∈ l, x < kn) → LSn s kn th → thk s0 s → RW s 72 (l.map nI) → stl th st m i l = N → wThought_stepsToSettle_17 P K (m + 1) (nI i) s := by
  have hk := v.1
  have hst := v.2.2.2.1
  intro m
  induction m with
  | zero =>
    intro i l s hi hl hm hls hf hr e
    rw [wThought_stepsToSettle_17]
    rw [stl] at e
    exact iT (nI_lt (a := 99) (by omega) (by omega)) (h0 s (by omega) hf)
  | succ m ih =>
    intro i l s hi hl hm hls hf hr e
    rw [wThought_stepsToSettle_17]
    have c := thk_CB hk c0 hf
    refine iF (nI_nlt (b := i) (a := 99) (by omega) (by omega)) ?_
    rw [c.1.2.2.1, nI_add, nI_1]
    refine p_shake (k := 72) (l := l) (by rw [cp72]; omega) (by rw [cp72]; omega) hk ⟨by omega, by omega⟩ (by omega) hl hls hm hr (fun t1 ht1 hf1 => ?_)
    have k1 : thk s0 t1 := fun a h1 h2 => (hf1 a (by omega) (by omega)).trans (hf a h1 h2)
    rw [stl] at e
    by_cases q : (stp (snks th (st + i)) l).2 = true
    · rw [if_pos q] at e
      rw [if_pos q]
      exact les1 (ih (i + 1) _ t1 (by omega) (by rw [stp_perm.length_eq]; exact hl) (fun x hx => hm x (stp_perm.mem_iff.mp hx)) (LS_congr hls (hf1 10 (by omega) (by omega))) k1 ht1 e)
    · rw [if_neg q] at e
      rw [if_neg q]
      subst e
      exact les0 (h1 t1 (by omega) k1)
theorem m_setL {K : Int32 → Sg → Prop} (hk : kn ≤ 9) (N : Nat) (s0 : Sg) (h : ∀ t, (∀ a, a ≠ 1 → t a = s0 a) → K (nI N) t) : ∀ (m i : Nat) (l : List Nat) (s : Sg), i + m = 100 → l.length ≤ 9 → (∀ x ∈ l, x < kn) → MB (s 1) kn th l pk (st + i) se z tp wt cd → (∀ a, a ≠ 1 → s a = s0 a) → stl th st m i l = N → wM_settles_6 K (m + 1) (nI i) s := by
  intro m
  induction m with
  | zero =>
    intro i l s hi hl hm hb hf e
    rw [wM_settles_6]
    rw [stl] at e
    subst e
    exact iT (nI_lt (a := 99) (by omega) (by omega)) (h s hf)
  | succ m ih =>
    intro i l s hi hl hm hb hf e
    rw [wM_settles_6]
    refine iF (nI_nlt (b := i) (a := 99) (by omega) (by omega)) ?_
    refine m_step hk hl hm hb (fun t1 m1 f1 => ?_)
    have k1 : ∀ a, a ≠ 1 → t1 a = s0 a := fun a ha => (f1 a ha).trans (hf a ha)
    rw [stl] at e
    by_cases q : (stp (snks th (st + i)) l).2 = true
    · rw [if_pos q] at e
      rw [if_pos q, nI_1]
      exact sel1 (ih (i + 1) _ t1 (by omega) (by rw [stp_perm.length_eq]; exact hl) (fun x hx => hm x (stp_perm.mem_iff.mp hx)) m1 k1 e)
    · rw [if_neg q] at e
      rw [if_neg q]
      subst e
      exact sel0 (h t1 k1)
end SET
theorem eq_settles {s t : Sg} (h : Rel s t) : wB_settles s (fun r s => wM_settles t (fun r2 t => r = r2 ∧ Rel s t)) := by
  obtain ⟨kn, th, L, pk, st, se, z, tp, wt, cd, v, c, m⟩ := id h.1
  have hlen := VB_len v
  have hk := v.1
  have hst := v.2.2.2.1
  have hle := stl_le (th := th) (st := st) 100 0 L
  have mm : ∀ {P : Int32 → Sg → Prop}, (∀ t1, (∀ i, i < 379 → t1 1 i = t 1 i) → (∀ a, a ≠ 1 → a ≠ 3 → t1 a = t a) → (stl th st 100 0 L ≤ 99 → P (nI (stl th st 100 0 L)) t1) ∧ (stl th st 100 0 L = 100 → wM_error (-1000000002) t1 P)) → wM_settles t P := by
    intro P q
    unfold wM_settles
    refine m_thinks (fun t1 g1 h1 => ⟨101, ?_⟩)
    have mt1 : MB (t1 1) kn th L pk (st + 0) se z tp wt cd := by rw [h1 1 (by omega)]; exact m
    refine m_setL hk (stl th st 100 0 L) t1 (fun t2 h2 => ?_) 100 0 L t1 (by omega) (by omega) v.2.1.2 mt1 (fun _ _ => rfl) rfl
    have e3 : ∀ i, i < 379 → t2 3 i = t 1 i := fun i hi => by rw [h2 3 (by omega)]; exact g1 i hi
    have ef : ∀ a, a ≠ 1 → a ≠ 3 → t2 a = t a := fun a h1' h3 => (h2 a h1').trans (h1 a h3)
    refine m_puts e3 ef (fun t3 g3 f3 => ?_)
    obtain ⟨q1, q2⟩ := q t3 g3 f3
    refine ⟨fun z => q1 ((nI_leI (b := 99) (by omega) (by omega)).mp z), fun z => q2 ?_⟩
    have : ¬ stl th st 100 0 L ≤ 99 := fun w => z (nI_le (b := 99) w (by omega))
    omega
  unfold wB_settles wThought_stepsToSettle
  refine p_learn hk c (fun t1 hf1 hls => ?_)
  have c1 := CB_10 c hk hf1
  refine p_copy (k := 72) (k1 := 3) (l := L.map nI) c1.2.1 (by rw [cp72]; simp; omega) (by rw [cp3]; simp; omega) (by rw [cp72]; omega) (by omega) (fun t2 ht2 hf2 => ⟨101, ?_⟩)
  have k2 : thk s t2 := fun a q1 q2 => (hf2 a (by omega) (by omega)).trans (hf1 a q1)
  refine c_setL v s c (stl th st 100 0 L) (fun t3 hN k3 => ?_) (fun t3 hN k3 => ?_) 100 0 L t2 (by omega) (by omega) v.2.1.2 (LS_congr hls (hf2 10 (by omega) (by omega))) k2 ht2 rfl
  · exact jF (nn1 (by omega)) (mm (fun t4 g f => ⟨fun _ => ⟨rfl, put_Rel (thk_Rel h k3) g f⟩, fun e => absurd e (by omega)⟩))
  · refine jT rfl (p_failed cc2 (by omega) (by omega) (mm (fun t4 g f => ⟨fun e => absurd e (by omega), fun _ => m_error cc2 (by omega) (by omega) ⟨rfl, Rel_err (put_Rel (thk_Rel h k3) g f)⟩⟩)))
