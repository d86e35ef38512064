-- PURE: out, the reference's search
def oI (t0 s : Sg) : Prop := (∀ i, i < 379 → s 3 i = t0 1 i) ∧ (∀ i, i < 379 → s 1 i = t0 1 i) ∧ ∀ a, a ≠ 1 → a ≠ 3 → a ≠ 10 → a ≠ 11 → s a = t0 a
theorem fil_cons (M : Nat) (t : Nat) (l : List Nat) : fil M (t :: l) = if out? M t then fil M l else t :: fil M l := by
  unfold fil
  rw [List.filter_cons]
  cases out? M t <;> simp
theorem er_mid : ∀ (A : List Nat) (x : Nat) (B : List Nat), (A ++ x :: B).eraseIdx A.length = A ++ B := by
  intro A
  induction A with
  | nil => intro x B; rfl
  | cons a A ih => intro x B; simp [ih]
theorem VB_fil {kn : Nat} {th : Nat → Nat → Nat} {L : List Nat} {pk : Option Nat} {st se : Nat} {tp : List Nat} {wt : List Int32} {cd : Nat → List Int32} (M : Nat) (v : VB kn th L pk st se tp wt cd) : VB kn th (fil M L) pk st se tp wt cd := by
  obtain ⟨h1, ⟨h2, h3⟩, h4, h5⟩ := v
  exact ⟨h1, ⟨h2.filter _, fun x hx => h3 x (List.mem_filter.mp hx).1⟩, fun x hx => ⟨(h4 x hx).1, fun q => (h4 x hx).2 (List.mem_filter.mp q).1⟩, h5⟩
section OUM
variable {s t : Sg} {kn : Nat} {th : Nat → Nat → Nat} {L : List Nat} {pk : Option Nat} {st se : Nat} {z : Int32} {tp : List Nat} {wt : List Int32} {cd : Nat → List Int32}
theorem m_dropL {f1 f2 f3 f4 f5 : Int32} {M : Nat} {K : Sg → Prop} (v : VB kn th L pk st se tp wt cd) (hM : M < 512) (s0 : Sg) (h : ∀ t, MO t ((fil M L).map nI) → frO s0 t → K t) : ∀ (k : Nat) (s : Sg), k ≤ L.length → MO s ((L.take k ++ fil M (L.drop k)).map nI) → frO s0 s → wM_out_117 f1 f2 f3 f4 f5 (nI M) K (k + 1) (nI k + (-1)) s := by
  have hk := v.1
  have hlen := VB_len v
  intro k
  induction k with
  | zero =>
    intro s _ hl hf
    rw [wM_out_117]
    refine iT (by decide) (h s ?_ hf)
    simpa using hl
  | succ k ih =>
    intro s hkl hl hf
    rw [pk_m1, wM_out_117, m8, ixn (by omega)]
    have hkk : k < L.length := by omega
    have hy : L[k] < kn := v.2.1.2 _ (List.getElem_mem hkk)
    have etk : L.take (k + 1) = L.take k ++ [L[k]] := by rw [List.take_succ_eq_append_getElem hkk]
    have edk : L.drop k = L[k] :: L.drop (k + 1) := List.drop_eq_getElem_cons hkk
    have elt : (L.take k).length = k := by simp; omega
    have eA : L.take (k + 1) ++ fil M (L.drop (k + 1)) = L.take k ++ L[k] :: fil M (L.drop (k + 1)) := by rw [etk, List.append_assoc]; rfl
    rw [eA] at hl
    have e8 : s 1 (8 + k) = nI L[k] := hl.2 k (nI L[k]) (by
      rw [List.getElem?_map, List.getElem?_append_right (by omega), elt]
      simp)
    have hlL : (L.take k ++ L[k] :: fil M (L.drop (k + 1))).length ≤ 9 := by
      have : (fil M (L.drop (k + 1))).length ≤ (L.drop (k + 1)).length := List.length_filter_le _ _
      simp at this ⊢
      omega
    rw [e8]
    refine iF (nI_pos (by omega)) ⟨vp_in_nI (by omega) (by omega), fun q => ?_, fun q => ?_⟩
    · have q2 : ¬ out? M L[k] = true := fun e => q ((bitA _ (by omega) M hM).mpr e)
      refine ih s (by omega) ?_ hf
      rw [edk, fil_cons, if_neg q2]
      exact hl
    · have q2 : out? M L[k] = true := (bitA _ (by omega) M hM).mp q
      refine m_goesFrom hl (by simpa using hlL) (by simp; omega) (fun t ht hft => ih t (by omega) ?_ (hf.trans hft))
      rw [edk, fil_cons, if_pos q2]
      have := ht
      rw [er_map, show (L.take k ++ L[k] :: fil M (L.drop (k + 1))).eraseIdx k = L.take k ++ fil M (L.drop (k + 1)) by
        have := er_mid (L.take k) L[k] (fil M (L.drop (k + 1)))
        rw [elt] at this
        exact this] at this
      exact this
theorem m_wout {f3 f4 f5 : Int32} {x M q : Nat} {A B : Sg → Prop} (v : VB kn th L pk st se tp wt cd) (t0 : Sg) (m0 : MB (t0 1) kn th L pk st se z tp wt cd) (hI : oI t0 s) (hM : M < 512) (hx : x < kn) (hxL : x ∈ L) (hxo : out? M x = false) (hA : nI q < twl th cd x M L 0 0 → ∀ t, oI t0 t → A t) (hB : ¬ nI q < twl th cd x M L 0 0 → ∀ t, oI t0 t → B t) : ∃ N1 : Nat, wM_out_117 (nI x) (nI q) f3 f4 f5 (nI M) (fun (s1 : Sg) => (wM_timeOf (nI x) 0 s1 (fun (r1 : Int32) (s2 : Sg) => ((nI q < r1 → (wM_putsBack s2 (fun (s3 : Sg) => A s3))) ∧ (¬ nI q < r1 → (wM_putsBack s2 (fun (s3 : Sg) => B s3))))))) N1 ((s 1 3) - 1) s := by
  have hk := v.1
  have hlen := VB_len v
  have m : MB (s 1) kn th L pk st se z tp wt cd := MB_cut v m0 hI.2.1
  have e3 : s 1 3 - 1 = nI L.length + (-1) := by
    rw [m.2.1.1, List.length_map, Int32.sub_eq_add_neg]
  have xf : x ∈ fil M L := List.mem_filter.mpr ⟨hxL, by simp [hxo]⟩
  rw [e3]
  refine ⟨L.length + 1, m_dropL v hM s (fun s1 ho hf => ?_) L.length s (Nat.le_refl _) (by simpa [fil] using m.2.1) frO.refl⟩
  have m1 : MB (s1 1) kn th (fil M L) pk st se z tp wt cd := MB_order m hk hf.2 ho
  refine m_time1 (VB_fil M v) m1 hx (Or.inl xf) (Or.inl rfl) (fun s2 k2 => ?_)
  have eT : tmf th cd (fil M L) x 0 = twl th cd x M L 0 0 := by
    have := twl_sm (th := th) (cd := cd) (x := x) (M := M) hxo L [] 0 hxL
    rw [List.length_nil, List.nil_append] at this
    rw [this]
    unfold tmf tmi
    rw [if_pos xf, if_neg (by decide), if_neg (by decide)]
  rw [eT]
  have put : ∀ {W : Sg → Prop}, (∀ t, oI t0 t → W t) → wM_putsBack s2 W := by
    intro W hW
    refine m_copyAll (by omega) (fun s3 h3 hf3 => hW s3 ⟨fun i hi => ?_, fun i hi => ?_, fun a h1 h3' h10 h11 => ?_⟩)
    · rw [hf3 3 (by omega), k2 3 (by omega) (by omega), hf.1 3 (by omega)]; exact hI.1 i hi
    · rw [h3 i hi, k2 3 (by omega) (by omega), hf.1 3 (by omega)]; exact hI.1 i hi
    · rw [hf3 a h1, k2 a h10 h11, hf.1 a h1]; exact hI.2.2 a h1 h3' h10 h11
  exact ⟨fun c => put (hA c), fun c => put (hB c)⟩
theorem m_outL {f3 m0 : Int32} {x q O : Nat} {K : Int32 → Sg → Prop} (v : VB kn th L pk st se tp wt cd) (t0 : Sg) (mb : MB (t0 1) kn th L pk st se z tp wt cd) (hx : x < kn) (hxL : x ∈ L) (hO : O < 512) (eO : m0 &&& ((1 <<< (nI x &&& 31)) ^^^ (-1)) = nI O) (R : Option Nat) (h : ∀ t, oI t0 t → K (bst R) t) : ∀ (m M : Nat) (b : Option Nat) (s : Sg), M + m = O + 1 → oI t0 s → (∀ B, b = some B → B < 512) → lof th cd x (nI q) L (nI O) m M b = R → wM_out_72 (nI x) (nI q) f3 (nI O) K (m + 1) (bst b) (nI M) s := by
  have hk := v.1
  intro m
  induction m with
  | zero =>
    intro M b s hM hI hb e
    rw [wM_out_72]
    rw [lof] at e
    subst e
    exact iT (nI_lt (by omega) (by omega)) (h s hI)
  | succ m ih =>
    intro M b s hM hI hb e
    rw [wM_out_72, nI_1]
    rw [lof] at e
    have hp := pc9_le M
    have hw := fw_le b
    refine iF (nI_nlt (by omega) (by omega)) ⟨fun q1 => ?_, fun q1 => ?_⟩
    · rw [if_neg (fun z => q1 z.1)] at e
      exact ih (M + 1) b s (by omega) hI hb e
    · have hxo : out? M x = false := by
        rw [← eO] at q1
        exact ot_bit (by omega) (by omega) q1
      cases b with
      | none =>
        have q2 : pc9 M < fw none := pc9_lt (by omega) hxo
        refine iT (show bst none < 0 by decide) (m_wout v t0 mb hI (by omega) hx hxL hxo (fun q3 t ht => ?_) (fun q3 t ht => ?_))
        · rw [if_neg (fun z => z.2.2 q3)] at e
          exact ih (M + 1) none t (by omega) ht hb e
        · rw [if_pos ⟨q1, q2, q3⟩] at e
          exact ih (M + 1) (some M) t (by omega) ht (fun B e => by cases e; omega) e
      | some B =>
        have hB := hb B rfl
        have hpB := pc9_le B
        refine iF (show ¬ bst (some B) < 0 from nI_pos (by omega)) (m_bits (by omega) (m_bits hB ?_))
        by_cases q2 : pc9 M < fw (some B)
        · refine iF (nI_ge q2 (by omega)) (m_wout v t0 mb hI (by omega) hx hxL hxo (fun q3 t ht => ?_) (fun q3 t ht => ?_))
          · rw [if_neg (fun z => z.2.2 q3)] at e
            exact ih (M + 1) (some B) t (by omega) ht hb e
          · rw [if_pos ⟨q1, q2, q3⟩] at e
            exact ih (M + 1) (some M) t (by omega) ht (fun B e => by cases e; omega) e
        · rw [if_neg (fun z => q2 z.2.1)] at e
          exact iT (nI_le (Nat.le_of_not_lt q2) (by omega)) (ih (M + 1) (some B) s (by omega) hI hb e)
theorem oI_Rel (h : Rel s t) {s2 t2 : Sg} (hs : scr s s2) (ht : oI t t2) : Rel s2 t2 := by
  obtain ⟨kn, th, L, pk, st, se, z, tp, wt, cd, v, c, m⟩ := id h.1
  refine Rel_of h (scr_frC hs) ⟨⟨by rw [ht.2.2 0 (by omega) (by omega) (by omega) (by omega)], by rw [ht.2.2 0 (by omega) (by omega) (by omega) (by omega)]⟩, fun a ha => ?_⟩ ⟨kn, th, L, pk, st, se, z, tp, wt, cd, v, scr_CB v.1 c hs, MB_cut v m ht.2.1⟩
  exact ht.2.2 a (by intro e; subst e; simp at ha) (by intro e; subst e; simp at ha) (by intro e; subst e; simp at ha) (by intro e; subst e; simp at ha)
end OUM
