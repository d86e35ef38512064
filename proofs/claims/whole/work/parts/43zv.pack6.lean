-- PURE: pack, the reference's search
section PK6
variable {s t : Sg} {kn : Nat} {th : Nat → Nat → Nat} {L : List Nat} {pk : Option Nat} {st se : Nat} {z : Int32} {tp : List Nat} {wt : List Int32} {cd : Nat → List Int32}
theorem m_packs {N n : Nat} (v : VB kn th L pk st se tp wt cd) (hL : L.length = n) (hn : n ≤ 6) (hN : N ≤ 20) : ∀ (r F M : Nat) (pre : List Nat) (b : Option (Int32 × List Nat)) (s : Sg) (P : Int32 → Sg → Prop), M < 512 → pre.length + r = n → pre.Nodup → (∀ x ∈ pre, x ∈ L) → (∀ t, t < 9 → out? M t = true → t ∈ L ∧ t ∉ pre) → PS s kn th n pk st se z tp wt cd pre b → (∀ t, PS t kn th n pk st se z tp wt cd pre (((prM kn r M).map (fun q => pre ++ q)).foldl (upB (cso th cd st N)) b) → fP s t → P 0 t) → wGPacks (F + r + 1) 0 [nI pre.length, nI M, nI N] s P := by
  have hk := v.1
  intro r
  induction r with
  | zero =>
    intro F M pre b s P hM hpl hnd hsub hbit ps h
    refine m_leaf v hL hn hN (by omega) hnd hsub ps (fun t ct ft => h t ?_ ft)
    simp only [prM, List.map_cons, List.map_nil, List.append_nil, List.foldl_cons, List.foldl_nil]
    exact ct
  | succ r ih =>
    intro F M pre b s P hM hpl hnd hsub hbit ps h
    obtain ⟨⟨L2, hl2, m⟩, -, -⟩ := id ps
    have e3 : s 1 3 = nI n := by rw [m.2.1.1]; simp [hl2]
    show wM_packs (wGPacks (F + r + 1)) (nI pre.length) (nI M) (nI N) s P
    unfold wM_packs
    rw [e3]
    refine jF (fun e => by have := nI_inj (by omega) (by omega) e; omega) ⟨kn + 1, ?_⟩
    have lo : ∀ (R : Option (Int32 × List Nat)), (∀ t, PS t kn th n pk st se z tp wt cd pre R → fP s t → P 0 t) → ∀ (m t : Nat) (b : Option (Int32 × List Nat)) (s1 : Sg), t + m = kn → PS s1 kn th n pk st se z tp wt cd pre b → fP s s1 → (((List.range' t m).filter (out? M)).flatMap (fun x => (prM kn r (mk M x)).map (fun q => pre ++ x :: q))).foldl (upB (cso th cd st N)) b = R → wM_packs_72 (wGPacks (F + r + 1)) (nI pre.length) (nI M) (nI N) (fun (s1 : Sg) => P 0 s1) (m + 1) (nI t) s1 := by
      intro R hR m
      induction m with
      | zero =>
        intro t b s1 ht p1 f1 e
        obtain ⟨⟨L3, -, m1⟩, -, -⟩ := id p1
        rw [wM_packs_72, m1.1.1]
        simp at e
        subst e
        exact iT (nI_le (by omega) (by omega)) (hR s1 p1 f1)
      | succ m ihm =>
        intro t b s1 ht p1 f1 e
        obtain ⟨⟨L3, hl3, m1⟩, tk1, b1⟩ := id p1
        rw [List.range'_succ, List.filter_cons] at e
        rw [wM_packs_72, m1.1.1, nI_1]
        refine iF (nI_ge (by omega) (by omega)) ⟨fun q => ?_, fun q => ?_⟩
        · have q2 : ¬ out? M t = true := fun z => q ((bitA t (by omega) M hM).mpr z)
          rw [if_neg q2] at e
          exact ihm (t + 1) b s1 (by omega) p1 f1 e
        · have q2 : out? M t = true := (bitA t (by omega) M hM).mp q
          rw [if_pos q2, List.flatMap_cons, List.foldl_append] at e
          obtain ⟨tL, tp'⟩ := hbit t (by omega) q2
          refine ⟨vp_in_nI (by omega) (by omega), fun s2 e2 => ?_⟩
          rw [ixn (by omega)] at e2
          rw [nI_1, mk_eq]
          have ps2 : PS s2 kn th n pk st se z tp wt cd (pre ++ [t]) b := by
            refine ⟨⟨L3, hl3, by subst e2; rw [u2_other (by omega)]; exact m1⟩, fun k hk => ?_, bM_cg b1 (by subst e2; rw [u2_other (by omega)]) (by subst e2; rw [u2_other (by omega)])⟩
            simp at hk
            subst e2
            by_cases q3 : k = pre.length
            · subst q3
              rw [u2_same, List.getD_eq_getElem?_getD]
              simp
            · rw [u2_ne (by omega), tk1 k (by omega), List.getD_eq_getElem?_getD, List.getD_eq_getElem?_getD, List.getElem?_append_left (by omega)]
          have hr := ih F (mk M t) (pre ++ [t]) b s2 (fun _ s3 => wM_packs_72 (wGPacks (F + r + 1)) (nI pre.length) (nI M) (nI N) (fun (s1 : Sg) => P 0 s1) (m + 1) (nI (t + 1)) s3) (mk_lt hM) (by simp; omega) (by
            rw [List.nodup_append]
            refine ⟨hnd, by simp, fun a ha c hc => ?_⟩
            rw [List.mem_singleton.mp hc]
            intro z
            rw [z] at ha
            exact tp' ha) (fun x hx => by
            rcases List.mem_append.mp hx with z | z
            · exact hsub x z
            · rw [List.mem_singleton.mp z]; exact tL) (fun x hx z => by
            rw [mk_bit hM (by omega) hx] at z
            simp at z
            obtain ⟨z1, z2⟩ := z
            obtain ⟨w1, w2⟩ := hbit x hx z1
            refine ⟨w1, fun w3 => ?_⟩
            rcases List.mem_append.mp w3 with w4 | w4
            · exact w2 w4
            · exact z2 (List.mem_singleton.mp w4)) ps2 (fun s3 p3 f3 => ?_)
          · rw [List.length_append, List.length_singleton] at hr
            exact hr
          · have em : (prM kn r (mk M t)).map (fun q => pre ++ [t] ++ q) = (prM kn r (mk M t)).map (fun q => pre ++ t :: q) := by
              refine List.map_congr_left (fun q _ => ?_)
              rw [List.append_assoc]
              rfl
            rw [em] at p3
            obtain ⟨p31, p32, p33⟩ := p3
            refine ihm (t + 1) _ s3 (by omega) ⟨p31, fun k hk => ?_, p33⟩ (f1.trans (fP.trans ?_ f3)) e
            · rw [p32 k (by simp; omega), List.getD_eq_getElem?_getD, List.getD_eq_getElem?_getD, List.getElem?_append_left hk]
            · exact ⟨fun a _ _ _ _ _ h13 => by subst e2; exact u2_other h13, fun j _ => by subst e2; exact u2_ne (by omega)⟩
    have em : (prM kn (r + 1) M).map (fun q => pre ++ q) = ((List.range' 0 kn).filter (out? M)).flatMap (fun x => (prM kn r (mk M x)).map (fun q => pre ++ x :: q)) := by
      rw [prM, List.map_flatMap]
      refine fm_cg _ (fun x _ => ?_)
      rw [List.map_map]
      rfl
    rw [em] at h
    exact lo _ h kn 0 b s (by omega) ps fP.refl rfl
theorem m_pack {N n : Nat} {w : Int32} {P : Int32 → Sg → Prop} (v : VB kn th L pk st se tp wt cd) (m : MB (s 1) kn th L pk st se z tp wt cd) (hL : L.length = n) (hn : n ≤ 6) (hN : N ≤ 20) (hw : w = -1 ∨ ∃ i, i < n ∧ w = nI i) (h : ∀ t, (∀ i, i < 379 → t 1 i = s 1 i) → (∀ a, a ≠ 0 → a ≠ 1 → a ≠ 3 → a ≠ 10 → a ≠ 11 → a ≠ 12 → a ≠ 13 → t a = s a) → (∀ j, j ≠ 18 → t 0 j = s 0 j) → bM t ((prm n (inA kn L)).foldl (upB (cso th cd st N)) none) → ((0 ≤ w → (vp_in w 6 ∧ P (t 12 (ix w)) t)) ∧ (¬ 0 ≤ w → P (t 0 18) t))) : wM_pack (nI N) w s P := by
  have hk := v.1
  have hlen := VB_len v
  have e3 : s 1 3 = nI n := by rw [m.2.1.1]; simp [hL]
  have h9 : ∀ y ∈ L, y < 9 := fun y hy => by have := v.2.1.2 y hy; omega
  unfold wM_pack
  refine m_inT (lo := 0) (hi := 20) (by omega) hN (by omega) (sel1 ?_)
  have win : wM_in w (-1) 5 s (fun (r2 : Int32) (s2 : Sg) => ((¬ r2 = 0 → (((s2 1 3) ≤ 6 → ((w < (s2 1 3) → (wM_thinks s2 (fun (s3 : Sg) => (∀ s4 : Sg, s4 = u2 s3 0 18 ((-1)) → (wM_inside s4 (fun (r3 : Int32) (s5 : Sg) => (wGPacks 8 0 [0, r3, nI N] s5 (fun (_z : Int32) (s6 : Sg) => (wM_putsBack s6 (fun (s7 : Sg) => ((0 ≤ w → (vp_in w 6 ∧ P ((s7 12 (ix w))) s7)) ∧ (¬ 0 ≤ w → P ((s7 0 18)) s7)))))))))))) ∧ (¬ w < (s2 1 3) → (wM_error ((-1000000002)) s2 (fun (r3 : Int32) (s3 : Sg) => P r3 s3))))) ∧ (¬ (s2 1 3) ≤ 6 → (wM_error ((-1000000003)) s2 (fun (r3 : Int32) (s3 : Sg) => P r3 s3))))) ∧ (r2 = 0 → (wM_error ((-1000000001)) s2 (fun (r3 : Int32) (s3 : Sg) => P r3 s3))))) := by
    refine m_in (fun _ _ => les1 ?_) (fun hz => absurd ?_ hz)
    · rw [e3]
      refine iT (nI_le (b := 6) hn (by omega)) (iT ?_ (m_thinks (fun s3 h3 f3 s4 e4 => ?_)))
      · rcases hw with rfl | ⟨i, hi, rfl⟩
        · rw [Int32.lt_iff_toInt_lt, nI_toInt (by omega)]
          rw [show (-1 : Int32).toInt = -1 by decide]
          omega
        · exact nI_lt hi (by omega)
      · have g4 : ∀ a, a ≠ 0 → a ≠ 3 → s4 a = s a := fun a h0 h3' => by subst e4; rw [u2_other h0]; exact f3 a h3'
        have g40 : ∀ j, j ≠ 18 → s4 0 j = s 0 j := fun j hj => by subst e4; rw [u2_ne (by omega), f3 0 (by omega)]
        have m4 : MB (s4 1) kn th L pk st se z tp wt cd := by rw [g4 1 (by omega) (by omega)]; exact m
        refine m_inside v m4 ?_
        have hml := mkI_lt L 0 h9 (by decide)
        rw [nI_self (mkI L 0)]
        have hbit : ∀ t, t < 9 → out? (mkI L 0).toBitVec.toNat t = decide (t ∈ L) := fun t ht => by
          rw [out_tb, BitVec.testBit_toNat, mkI_bit ht L 0 h9]
          have : ∀ x : Nat, x < 9 → (0 : Int32).toBitVec.getLsbD x = false := by decide +kernel
          rw [this t ht, Bool.false_or]
        have pk0 := m_packs (z := z) (N := N) v hL hn hN n (7 - n) (mkI L 0).toBitVec.toNat [] none s4 (fun _ s6 => (wM_putsBack s6 (fun (s7 : Sg) => ((0 ≤ w → (vp_in w 6 ∧ P ((s7 12 (ix w))) s7)) ∧ (¬ 0 ≤ w → P ((s7 0 18)) s7))))) hml (by simp) List.nodup_nil (fun x hx => by simp at hx) (fun t ht q => by
          rw [hbit t ht] at q
          exact ⟨by simpa using q, by simp⟩) ⟨⟨L, hL, m4⟩, fun k hk => absurd hk (Nat.not_lt_zero k), by subst e4; exact u2_same⟩ (fun s6 p6 f6 => ?_)
        · rw [show 7 - n + n + 1 = 8 by omega] at pk0
          exact pk0
        · have ep : (prM kn n (mkI L 0).toBitVec.toNat).map (fun q => [] ++ q) = prm n (inA kn L) := by
            rw [prM_A hk hml hbit]
            simp
          rw [ep] at p6
          obtain ⟨-, -, b6⟩ := p6
          refine m_copyAll (by omega) (fun s7 h7 f7 => h s7 (fun i hi => ?_) (fun a h0 h1 h3' h10 h11 h12 h13 => ?_) (fun j hj => ?_) (bM_cg b6 (by rw [f7 0 (by omega)]) (f7 12 (by omega))))
          · rw [h7 i hi, f6.1 3 (by omega) (by omega) (by omega) (by omega) (by omega) (by omega)]
            subst e4
            rw [u2_other (by omega)]
            exact h3 i hi
          · rw [f7 a h1, f6.1 a h0 h1 h10 h11 h12 h13]
            exact g4 a h0 h3'
          · rw [f7 0 (by omega), f6.2 j hj]
            exact g40 j hj
    · rw [show (-1 : Int32).toInt = -1 by decide, show (5 : Int32).toInt = 5 by decide]
      rcases hw with rfl | ⟨i, hi, rfl⟩
      · rw [show (-1 : Int32).toInt = -1 by decide]; omega
      · rw [nI_toInt (by omega)]; omega
  exact win
end PK6
