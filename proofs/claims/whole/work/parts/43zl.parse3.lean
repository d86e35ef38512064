-- PURE: text, the class reads on
/-- what the class does where neither a number nor a name stands -/
def eSing (rc : Nat → List Int32 → Sg → (Int32 → Sg → Prop) → Prop) (k : Nat) (a1 : Int32) (s2 : Sg) (P : Int32 → Sg → Prop) : Prop := ((5 ≤ a1 → P 0 s2) ∧ (¬ 5 ≤ a1 → (wText_standsIn k 4 s2 (fun (r3 : Int32) (s3 : Sg) => ((¬ r3 = 0 → (wText_here k s3 (fun (r4 : Int32) (s4 : Sg) => ((¬ r4 = 33 → (∀ s5 : Sg, s5 = u2 s4 k 5 (((s4 k 5) + 1)) → (rc 0 [0, ((a1 + 1))] s5 (fun (r5 : Int32) (s6 : Sg) => ((r5 = 0 → P 0 s6) ∧ (¬ r5 = 0 → (wText_here k s6 (fun (r6 : Int32) (s7 : Sg) => ((r6 = 41 → (∀ s8 : Sg, s8 = u2 s7 k 5 (((s7 k 5) + 1)) → P 1 s8)) ∧ (¬ r6 = 41 → P 0 s7)))))))))) ∧ (r4 = 33 → (∀ s5 : Sg, s5 = u2 s4 k 5 (((s4 k 5) + 1)) → (rc 1 [((a1 + 1))] s5 (fun (r5 : Int32) (s6 : Sg) => (wRow_add ((k + 3)) ((-33)) s6 (fun (s7 : Sg) => ((r5 = 0 ∨ r5 = 1) ∧ P r5 s7))))))))))) ∧ (r3 = 0 → P 0 s3))))))
theorem bI_eq {x c : Nat} (hx : x < 256 ∨ x = 999) (hc : c < 256) : bI x = nI c ↔ x = c := by
  rcases hx with h | h
  · rw [bI_n h]
    exact nI_eq (by omega) (by omega)
  · subst h
    constructor
    · intro e
      exact absurd e.symm (nn1 (by omega))
    · intro e
      omega
section RS
variable {k u : Nat} {tp : List Nat} {i : Nat} {W : List Int32} {s : Sg} {P : Int32 → Sg → Prop}
theorem c_atm {rc : Nat → List Int32 → Sg → (Int32 → Sg → Prop) → Prop} {a1 : Int32} {e : PR} (hk : k = 20 ∨ k = 26) (hu : u < 2) (ht : tp.length ≤ 60) (hb : ∀ x ∈ tp, x ≤ 255) (c : TC s k u tp i W) (hi : i ≤ tp.length) (hW : W.length ≤ i) (h1 : ∀ cs, (atm u tp i e).2 = some cs → ∀ t, TC t k u tp (atm u tp i e).1 (W ++ cs) → txF k s t → P 1 t) (h0 : (atm u tp i e).2 = none → ∀ t, TF t k u tp (atm u tp i e).1 → txF k s t → P 0 t) (hE : (∀ cs, e.2 = some cs → ∀ t, TC t k u tp e.1 (W ++ cs) → txF k s t → P 1 t) → (e.2 = none → ∀ t, TF t k u tp e.1 → txF k s t → P 0 t) → eSing rc k a1 s P) : wText_readsSingle rc k a1 s P := by
  unfold wText_readsSingle
  unfold atm at h1 h0
  refine p_stands (M := dgt) ht hb c hi (by unfold vp_in; decide) in_dg (by omega) (fun q => ?_) (fun q => ?_)
  · rw [if_pos q] at h1
    refine iF (by decide) ⟨5, ?_⟩
    have hlt : i < tp.length := bz_in (by omega)
    refine p_numL (K := fun v1 s1 => wRow_add (k + 3) v1 s1 (fun s2 => P 1 s2)) hk ht hb s (dg tp 4 i 0) (fun t ct ft => c_add hk ct (by omega) (fun t2 c2 f2 => h1 _ rfl t2 c2 (ft.trans f2))) 4 0 i 0 s (by omega) hi c txF.refl rfl
  · rw [if_neg q] at h1 h0
    refine iT rfl ?_
    rw [c.2.1]
    refine p_stands (q := nI (u + 1)) (M := fun x => (nmN u x).isSome = true) ht hb c hi (vp_in_nI (by omega) (by omega)) (in_nm u hu) ?_ (fun q2 => ?_) (fun q2 => ?_)
    · unfold nmN
      split <;> simp
    · obtain ⟨j, ej⟩ := Option.isSome_iff_exists.mp q2
      obtain ⟨hj3, hx⟩ := nm_lt ej
      simp only [ej] at h1
      have hlt : i < tp.length := bz_in (by omega)
      refine iF (by decide) (p_here ht hb c hi ⟨?_, ?_⟩)
      · rw [c.2.1]
        exact vp_in_nI (by omega) (by omega)
      · rw [c.2.1, bI_n hx, show UInt32.toInt32 (Int32.toUInt32 (nI (bz tp i)) % 65536) = cst (bz tp i) from rfl, in_nj u hu _ hx j hj3 ej]
        refine c_add hk c (by omega) (fun t ct ft s5 e5 => ?_)
        rw [ct.2.2.1, nI_1] at e5
        obtain ⟨c5, f5⟩ := TC_nx hk ct (v := nI (i + 1)) rfl
        subst e5
        exact h1 _ rfl _ c5 (ft.trans f5)
    · have en : nmN u (bz tp i) = none := by
        cases h : nmN u (bz tp i) with
        | none => rfl
        | some j => exact absurd (by rw [h]; rfl) q2
      simp only [en] at h1 h0
      exact iT rfl (hE h1 h0)
theorem c_sg (hk : k = 20 ∨ k = 26) (hu : u < 2) (ht : tp.length ≤ 60) (hb : ∀ x ∈ tp, x ≤ 255) : ∀ o, o ≤ 5 → ∀ N : Nat, cSp k u tp (fun s P => wGText k (N + 7 * o + 1) 1 [nI (5 - o)] s P) (sg u tp o) := by
  intro o
  induction o with
  | zero =>
    intro _ N s i W P c hi hW h1 h0
    show wText_readsSingle (wGText k (N + 7 * 0)) k (nI (5 - 0)) s P
    refine c_atm (e := (i, none)) hk hu ht hb c hi hW h1 h0 (fun _ g0 => ?_)
    unfold eSing
    exact iT (by decide) (g0 rfl s ⟨W, by omega, c⟩ txF.refl)
  | succ o ih =>
    intro ho N s i W P c hi hW h1 h0
    show wText_readsSingle (wGText k (N + 7 * (o + 1))) k (nI (5 - (o + 1))) s P
    refine c_atm hk hu ht hb c hi hW h1 h0 (fun g1 g0 => ?_)
    have ea : nI (5 - (o + 1)) + 1 = nI (5 - o) := by rw [nI_1]; congr 1; omega
    unfold eSing
    rw [ea]
    refine iF (nI_ge (a := 5 - (o + 1)) (b := 5) (by omega) (by omega)) (p_stands (M := fun x => x = 33 ∨ x = 40) ht hb c hi (by unfold vp_in; decide) in_op (by omega) (fun q => ?_) (fun q => ?_))
    · have hlt : i < tp.length := bz_in (by omega)
      refine jF (by decide) (p_here ht hb c hi ?_)
      rcases q with q | q
      · rw [if_pos q] at g1 g0
        refine jT (by rw [q]; decide) (fun s5 e5 => ?_)
        rw [c.2.2.1, nI_1] at e5
        obtain ⟨c5, f5⟩ := TC_nx hk c (v := nI (i + 1)) rfl
        subst e5
        obtain ⟨p1, p2, p3⟩ := sg_ok (u := u) (tp := tp) o (i + 1) hlt
        have hr := ih (by omega) (N + 6)
        rw [show N + 6 + 7 * o + 1 = N + 7 * (o + 1) by omega] at hr
        refine hr _ (i + 1) W _ c5 hlt (by omega) (fun cs e t ct ft => ?_) (fun e t ct ft => ?_)
        · obtain ⟨k1, -, -⟩ := p3 cs e
          have en : ngt (sg u tp o (i + 1)) = ((sg u tp o (i + 1)).1, some (cs ++ [-33])) := by unfold ngt; simp only [e]
          rw [en] at g1
          refine c_add hk ct (by simp; omega) (fun t2 c2 f2 => ⟨Or.inr rfl, g1 _ rfl t2 (TC_as c2) ((f5.trans ft).trans f2)⟩)
        · have en : ngt (sg u tp o (i + 1)) = ((sg u tp o (i + 1)).1, none) := by unfold ngt; simp only [e]
          rw [en] at g0
          exact c_addX hk ct (fun t2 c2 f2 => ⟨Or.inl rfl, g0 rfl t2 c2 ((f5.trans ft).trans f2)⟩)
      · rw [if_neg (by omega), if_pos q] at g1 g0
        refine jF (by rw [q]; decide) (fun s5 e5 => ?_)
        rw [c.2.2.1, nI_1] at e5
        obtain ⟨c5, f5⟩ := TC_nx hk c (v := nI (i + 1)) rfl
        subst e5
        obtain ⟨p1, p2, p3⟩ := lev_ok (sg_ok (u := u) (tp := tp) o) 5 (i + 1) hlt
        have hr := c_lev hk ht hb (ih (by omega) N) (sg_ok o) 5 (by omega)
        rw [show N + 7 * o + 1 + 5 + 1 = N + 7 * (o + 1) by omega] at hr
        refine hr _ (i + 1) W _ c5 hlt (by omega) (fun cs e t ct ft => ?_) (fun e t ct ft => ?_)
        · refine iF (by decide) (p_here ht hb ct p2 ?_)
          have hx := bz_cs hb (lev (sg u tp o) tp 5 (i + 1)).1
          refine ⟨fun z s8 e8 => ?_, fun z => ?_⟩
          · have z2 := (bI_eq (c := 41) hx (by omega)).mp z
            have en : brk tp (lev (sg u tp o) tp 5 (i + 1)) = ((lev (sg u tp o) tp 5 (i + 1)).1 + 1, some cs) := by unfold brk; simp only [e]; rw [if_pos z2]
            rw [en] at g1
            rw [ct.2.2.1, nI_1] at e8
            obtain ⟨c8, f8⟩ := TC_nx hk ct (v := nI ((lev (sg u tp o) tp 5 (i + 1)).1 + 1)) rfl
            subst e8
            exact g1 _ rfl _ c8 ((f5.trans ft).trans f8)
          · have z2 : ¬ bz tp (lev (sg u tp o) tp 5 (i + 1)).1 = 41 := fun y => z ((bI_eq (c := 41) hx (by omega)).mpr y)
            have en : brk tp (lev (sg u tp o) tp 5 (i + 1)) = ((lev (sg u tp o) tp 5 (i + 1)).1, none) := by unfold brk; simp only [e]; rw [if_neg z2]
            rw [en] at g0
            obtain ⟨k1, -, -⟩ := p3 cs e
            exact g0 rfl t ⟨_, by simp; omega, ct⟩ (f5.trans ft)
        · have en : brk tp (lev (sg u tp o) tp 5 (i + 1)) = ((lev (sg u tp o) tp 5 (i + 1)).1, none) := by unfold brk; simp only [e]
          rw [en] at g0
          exact iT rfl (g0 rfl t ct (f5.trans ft))
    · rw [if_neg (by omega), if_neg (by omega)] at g0
      exact jT rfl (g0 rfl s ⟨W, by omega, c⟩ txF.refl)
/-- the whole text -/
abbrev rdT (u : Nat) (tp : List Nat) : PR := lev (sg u tp 5) tp 5 0
theorem c_read (hk : k = 20 ∨ k = 26) (hu : u < 2) (ht : tp.length ≤ 60) (hb : ∀ x ∈ tp, x ≤ 255) (c : TC s k u tp 0 []) (h1 : ∀ cs, (rdT u tp).2 = some cs → ∀ t, TC t k u tp (rdT u tp).1 cs → txF k s t → P 1 t) (h0 : (rdT u tp).2 = none → ∀ t, TF t k u tp (rdT u tp).1 → txF k s t → P 0 t) : wGText k 45 0 [0, 0] s P := by
  have hr := c_lev hk ht hb (c_sg hk hu ht hb 5 (by omega) 3) (sg_ok 5) 5 (by omega)
  exact hr s 0 [] P c (by omega) (by simp) (fun cs e t ct ft => h1 cs e t ct ft) h0
end RS
