-- PURE: pack, the class's whole search
section PK4
variable {s t : Sg} {kn : Nat} {th : Nat → Nat → Nat} {L : List Nat} {pk : Option Nat} {st se : Nat} {z : Int32} {tp : List Nat} {wt : List Int32} {cd : Nat → List Int32}
theorem c_inL {N : Nat} {K : Sg → Prop} (v : VB kn th L pk st se tp wt cd) (s0 : Sg) (c0 : CB s0 1 kn th L pk st se z tp wt cd) (h : ∀ t, RW t 70 ((inA kn L).map nI) → fr2 s0 t 70 → K t) : ∀ (m x : Nat) (acc : List Nat) (s : Sg), x + m = kn → RW s 70 (acc.map nI) → fr2 s0 s 70 → acc ++ (List.range' x m).filter (fun t => decide (t ∈ L)) = inA kn L → wThought_packFor_19 (nI N) K (m + 1) (nI x) s := by
  have hk := v.1
  have hlen := VB_len v
  have hil := (inA_perm v.2.1.1 v.2.1.2).length_eq
  intro m
  induction m with
  | zero =>
    intro x acc s hx hr hf e
    rw [wThought_packFor_19, hf 1 (by omega) (by omega), c0.1.1]
    simp at e
    subst e
    exact iT (nI_le (by omega) (by omega)) (h s hr hf)
  | succ m ih =>
    intro x acc s hx hr hf e
    rw [List.range'_succ, List.filter_cons] at e
    rw [wThought_packFor_19, hf 1 (by omega) (by omega), c0.1.1, nI_1]
    have r3 : RW s 3 (L.map nI) := by
      show IL (s 3 1) (s (3 + 1)) (L.map nI)
      rw [hf 3 (by omega) (by omega), hf (3 + 1) (by omega) (by omega)]
      exact c0.2.1
    refine iF (nI_ge (by omega) (by omega)) (p_placeOf (l := L.map nI) r3 (by rw [cp3]; simp; omega) cap9 (fun i hi _ => ?_) (fun hn => ?_))
    · have hi2 := (mapget v.2.1.2 hk (by omega)).mp hi
      have hxL : x ∈ L := List.mem_of_getElem? hi2
      have hil2 := (List.getElem?_eq_some_iff.mp hi2).1
      rw [if_pos (by simpa using hxL)] at e
      have hac : acc.length < 9 := by
        have := congrArg List.length e
        simp only [List.length_append, List.length_cons] at this
        omega
      refine iF (nI_pos (by omega)) (p_add (k := 70) hr (by rw [cp70, List.length_map]; exact hac) (by rw [cp70]; omega) (fun s1 r1 f1 => ?_))
      exact ih (x + 1) (acc ++ [x]) s1 (by omega) (by simpa using r1) (hf.trans f1) (by rw [List.append_assoc]; exact e)
    · have hxL : x ∉ L := fun q => hn ((mapmem v.2.1.2 hk (by omega)).mpr q)
      rw [if_neg (by simpa using hxL)] at e
      exact iT (by decide) (ih (x + 1) acc s (by omega) hr hf e)
theorem c_pack {N : Nat} {P : Int32 → Sg → Prop} (v : VB kn th L pk st se tp wt cd) (c : CB s 1 kn th L pk st se z tp wt cd) (hl : L.length ≤ 6) (hN : N ≤ 20) (h : ∀ t, scr s t → bOK t ((prm L.length (inA kn L)).foldl (upB (cso th cd st N)) none) → P (bLe ((prm L.length (inA kn L)).foldl (upB (cso th cd st N)) none)) t) : wThought_packFor (nI N) s P := by
  have hk := v.1
  have hst : st ≤ 9999 := v.2.2.2.1
  have hil := (inA_perm v.2.1.1 v.2.1.2).length_eq
  unfold wThought_packFor
  refine p_learn hk c (fun s1 f1 l1 => ?_)
  have c1 := CB_10 c hk f1
  refine c_usesx v c1 (fun s2 k2 u2' w2 s3 e3 => ?_)
  have c2 := scr_CB hk c1 (scx_scr k2)
  have f3 : ∀ a, a ≠ 70 → s3 a = s2 a := fun a ha => by subst e3; exact u2_other ha
  have c3 : CB s3 1 kn th L pk st se z tp wt cd := CB_congr c2 hk (fun a _ h2 => f3 a (by omega))
  refine ⟨kn + 1, c_inL v s3 c3 (fun s4 r4 f4 => ?_) kn 0 [] s3 (by omega) (IL_nil (by subst e3; exact u2_same)) fr2.refl rfl⟩
  have f5 : ∀ a, a ≠ 70 → a ≠ 71 → s4 a = s2 a := fun a h1 h2 => (f4 a h1 (by omega)).trans (f3 a h1)
  have g70 : gOK (fun i => (inA kn L).getD i 0) L.length := by
    refine ⟨hl, fun x y hx hy => ?_, fun x hx => ?_⟩
    · constructor
      · intro q
        have q' : (inA kn L).getD x 0 < (inA kn L).getD y 0 := q
        rcases Nat.lt_or_ge x y with q2 | q2
        · exact q2
        · rcases Nat.lt_or_ge y x with q3 | q3
          · have := inA_mono (kn := kn) (L := L) q3 (by omega)
            omega
          · have : x = y := by omega
            subst this
            omega
      · intro q
        exact inA_mono q (by omega)
    · have h1 : (inA kn L).getD x 0 ∈ inA kn L := getD_mem (by omega)
      have h2 := (List.mem_filter.mp h1).1
      rw [List.mem_range'_1] at h2
      show (inA kn L).getD x 0 < 9
      omega
  have gk : ∀ x, x < L.length → (fun i => (inA kn L).getD i 0) x < kn := fun x hx => by
    have h1 : (inA kn L).getD x 0 ∈ inA kn L := getD_mem (by omega)
    have h2 := (List.mem_filter.mp h1).1
    rw [List.mem_range'_1] at h2
    show (inA kn L).getD x 0 < kn
    omega
  obtain ⟨k1, k2', k3⟩ := pi_ok L.length (by omega)
  have hA : prm L.length (inA kn L) = (prm L.length (List.range L.length)).map (List.map (fun i => (inA kn L).getD i 0)) := by
    have := prm_A (kn := kn) (L := L)
    rw [hil] at this
    exact this
  have hr : (List.range L.length).map (fun i => (inA kn L).getD i 0) = inA kn L := by
    have := map_getD (inA kn L)
    rw [hil] at this
    exact this
  have hall : ∀ q ∈ prm L.length (List.range L.length), pOK q L.length := fun q hq => by
    have hp := prm_perm _ _ q (by simp) hq
    exact ⟨by rw [hp.length_eq]; simp, fun x hx => List.mem_range.mp (hp.mem_iff.mp hx)⟩
  cases eP : prm L.length (List.range L.length) with
  | nil => rw [eP] at k2'; cases k2'
  | cons p ps =>
    rw [eP] at k1 k2' k3 hall hA
    have ep : p = List.range L.length := by
      rw [List.head?_cons] at k2'
      exact Option.some.inj k2'
    refine ⟨ps.length + 1, c_pkL (st := st) (th := th) (cd := cd) hk hst hN g70 gk s4 ?_ ?_ ?_ ?_ ((prm L.length (inA kn L)).foldl (upB (cso th cd st N)) none) (fun s5 f6 b6 => h s5 ?_ b6) ps p 0 none s4 k1 (by simpa using k3) hall ?_ fK.refl trivial (by rw [hA])⟩
    · rw [f5 1 (by omega) (by omega)]
      exact c2.1.2.2.1
    · exact LS_congr l1 ((f5 10 (by omega) (by omega)).trans (k2 10 (by omega) (by omega) (by omega)))
    · intro x hx a ha
      rw [f5 74 (by omega) (by omega)]
      exact u2' x hx a ha
    · intro x hx
      rw [f5 75 (by omega) (by omega)]
      exact w2 x hx
    · intro a h1 h2 h3 h4
      rw [f6 a (by omega), f5 a (by omega) (by omega), k2 a h2 h3 (by omega), f1 a h1]
    · unfold rI
      rw [ep, hr]
      exact r4
end PK4
