-- PURE: voice
theorem eq_voice {a1 a2 a3 : Int32} {s t : Sg} (h : Rel s t) : wB_voice a1 a2 a3 s (fun r s => wM_voice a1 a2 a3 t (fun r2 t => r = r2 ∧ Rel s t)) := by
  obtain ⟨kn, th, L, pk, st, se, z, tp, wt, cd, v, c, m⟩ := id h.1
  have hk := v.1
  unfold wB_voice
  rcases nthing (a := a1) hk with ⟨x, hx, rfl⟩ | hn
  · refine p_knowsT c.1.1 (by omega) hx (sel1 ?_)
    rcases rng a2 0 3 (by omega) with ⟨w, -, hw, rfl⟩ | hw
    · obtain ⟨h8, -⟩ := v.2.2.2.2.2.2.2.1 x hx
      refine iF (nI_pos (by omega)) (iT (nI_lt (b := 4) (by omega) (by omega)) ⟨vp_in_nI (by omega) (by omega), fun s1 e1 s2 e2 s3 e3 s4 e4 s5 e5 => ?_⟩)
      rw [t11 (by omega)] at e2 e3
      have g0 : s1 (1 + 10 + x) = s (1 + 10 + x) := by subst e1; exact u2_other (by omega)
      have g1 : s2 (1 + 10 + x) = s (1 + 10 + x) := by subst e2; rw [u2_other (by omega)]; exact g0
      rw [g0, c.2.2.2.2.1 x hx 0 (by omega)] at e2
      rw [g1, c.2.2.2.2.1 x hx 1 (by omega)] at e3
      have vc : VC s5 x (th x 0) (th x 1) [] := by
        refine ⟨?_, ?_, ?_, ?_, ?_⟩
        · subst e5; rw [u2_other (by omega)]; subst e4; rw [u2_ne (by omega)]; subst e3; rw [u2_ne (by omega)]; subst e2; rw [u2_ne (by omega)]; subst e1; exact u2_same
        · subst e5; rw [u2_other (by omega)]; subst e4; rw [u2_ne (by omega)]; subst e3; rw [u2_ne (by omega)]; subst e2; exact u2_same
        · subst e5; rw [u2_other (by omega)]; subst e4; rw [u2_ne (by omega)]; subst e3; exact u2_same
        · subst e5; rw [u2_other (by omega)]; subst e4; exact u2_same
        · subst e5; exact IL_nil u2_same
      have vf : vF s s5 := fun a y1 y2 y3 => by
        subst e5; rw [u2_other y2]; subst e4; rw [u2_other y1]; subst e3; rw [u2_other y1]; subst e2; rw [u2_other y1]; subst e1; rw [u2_other y1]
      rw [vc.2.1]
      have hvf : ∀ {t1 : Sg}, fr2 s5 t1 65 → vF s t1 := fun hf a y1 y2 y3 => (hf a y2 y3).trans (vf a y1 y2 y3)
      -- the reference's start
      have mv : ∀ s4 : Sg, s4 = u2 (u2 t 0 21 0) 0 22 0 → MV s4 [] ∧ s4 0 22 = 0 ∧ bq t s4 ∧ MB (s4 1) kn th L pk st se z tp wt cd := by
        intro s4 e
        subst e
        refine ⟨IL_nil ?_, u2_same, ⟨fun a y1 y2 => ?_, ?_⟩, ?_⟩
        · rw [u2_ne (by omega)]; exact u2_same
        · rw [u2_other y1, u2_other y1]
        · rw [u2_ne (by omega), u2_ne (by omega)]
        · rw [u2_other (by omega), u2_other (by omega)]; exact m
      obtain ⟨v1, v2, v3, v4⟩ := mv _ rfl
      have start : ∀ {P : Int32 → Sg → Prop}, (∀ s4 : Sg, s4 = u2 (u2 t 0 21 0) 0 22 0 → ((¬ nI w = 0 → ((¬ nI w = 1 → ((¬ nI w = 2 → (wM_parts (nI x) a3 s4 (fun (r3 : Int32) (s5 : Sg) => (((s5 0 22) = 0 → P r3 s5) ∧ (¬ (s5 0 22) = 0 → (wM_error ((-1000000006)) s5 (fun (r4 : Int32) (s6 : Sg) => P r4 s6))))))) ∧ (nI w = 2 → (wM_rings (nI x) a3 s4 (fun (r3 : Int32) (s5 : Sg) => (((s5 0 22) = 0 → P r3 s5) ∧ (¬ (s5 0 22) = 0 → (wM_error ((-1000000006)) s5 (fun (r4 : Int32) (s6 : Sg) => P r4 s6))))))))) ∧ (nI w = 1 → (wM_rustles (nI x) a3 s4 (fun (r3 : Int32) (s5 : Sg) => (((s5 0 22) = 0 → P r3 s5) ∧ (¬ (s5 0 22) = 0 → (wM_error ((-1000000006)) s5 (fun (r4 : Int32) (s6 : Sg) => P r4 s6))))))))) ∧ (nI w = 0 → (wM_rattles (nI x) a3 s4 (fun (r3 : Int32) (s5 : Sg) => (((s5 0 22) = 0 → P r3 s5) ∧ (¬ (s5 0 22) = 0 → (wM_error ((-1000000006)) s5 (fun (r4 : Int32) (s6 : Sg) => P r4 s6))))))))) → wM_voice (nI x) (nI w) a3 t P := by
        intro P p
        unfold wM_voice
        refine m_isThingT m.1.1 (by omega) hx (sel1 (m_inT (lo := 0) (hi := 3) (by omega) hw (by omega) (les1 (fun s3 e3 s4 e4 => ?_))))
        subst e3
        exact p s4 e4
      have h22 : ∀ {t2 : Sg}, bg (u2 (u2 t 0 21 0) 0 22 0) t2 → t2 0 22 = 0 := fun hf => by rw [hf.2 22 (by omega)]; exact v2
      have l1 := raB_len (th x 0)
      have l2 := ruB_len (th x 0)
      have l3 := riB_len (th x 0)
      have l4 := paB_len (th x 0) x (th x 1)
      rcases (show w = 0 ∨ w = 1 ∨ w = 2 ∨ w = 3 by omega) with rfl | rfl | rfl | rfl
      · refine c_rat (N := 7) (d := 0) h8 (by omega) vc (by simp) (fun t1 ht1 hf1 => iT ht1.2.2.2.1 (start (fun s4 e4 => jT rfl ?_)))
        subst e4
        exact m_rat hk hx rfl h8 v4 v1 (by simp) (fun t2 ht2 hf2 => iT (h22 hf2) ⟨rfl, vo_Rel h (tr := raB (th x 0)) (by omega) (hvf hf1) (by simpa using ht1.2.2.2.2) (v3.trans (bq_of hf2)) (by simpa using ht2)⟩)
      · refine c_rus (N := 4) (d := 0) h8 (by omega) vc (by simp) (fun t1 ht1 hf1 => iT ht1.2.2.2.1 (start (fun s4 e4 => jF (by decide) (jT rfl ?_))))
        subst e4
        exact m_rus hk hx rfl rfl h8 v4 v1 (by simp) (fun t2 ht2 hf2 => iT (h22 hf2) ⟨rfl, vo_Rel h (tr := ruB (th x 0)) (by omega) (hvf hf1) (by simpa using ht1.2.2.2.2) (v3.trans (bq_of hf2)) (by simpa using ht2)⟩)
      · refine c_rin (N := 2) (d := 0) h8 (by omega) vc (by simp) (fun t1 ht1 hf1 => iT ht1.2.2.2.1 (start (fun s4 e4 => jF (by decide) (jF (by decide) (jT rfl ?_)))))
        subst e4
        exact m_rin hk hx rfl rfl h8 v4 v1 (by simp) (fun t2 ht2 hf2 => iT (h22 hf2) ⟨rfl, vo_Rel h (tr := riB (th x 0)) (by omega) (hvf hf1) (by simpa using ht1.2.2.2.2) (v3.trans (bq_of hf2)) (by simpa using ht2)⟩)
      · refine c_par (N := 2) (d := 0) h8 (by omega) vc (by simp) (fun q t1 r1 ht1 b1 hf1 => iF (by rw [b1]; decide) (p_failed cc6 (by omega) (by omega) (start (fun s4 e4 => jF (by decide) (jF (by decide) (jF (by decide) ?_)))))) (fun q t1 ht1 hf1 => iT ht1.2.2.2.1 (start (fun s4 e4 => jF (by decide) (jF (by decide) (jF (by decide) ?_)))))
        · subst e4
          refine m_par hk hx rfl rfl h8 v4 v1 (by simp) (fun _ t2 ht2 b2 hf2 => iF (by rw [b2]; decide) (m_error cc6 (by omega) (by omega) ⟨rfl, Rel_err (vo_Rel h (tr := paB (th x 0) x (th x 1)) (by omega) (fun a y1 y2 y3 => (hf1 a y1 y2 y3).trans (vf a y1 y2 y3)) (by simpa using ht1) (v3.trans hf2) (by simpa using ht2))⟩)) (fun q2 => absurd q q2)
        · subst e4
          refine m_par hk hx rfl rfl h8 v4 v1 (by simp) (fun q2 => absurd q2 q) (fun _ t2 ht2 b2 hf2 => iT b2 ⟨rfl, vo_Rel h (tr := paB (th x 0) x (th x 1)) (by omega) (hvf hf1) (by simpa using ht1.2.2.2.2) (v3.trans hf2) (by simpa using ht2)⟩)
    · have bad : wB_failed (-1000000001) s (fun r s => wM_voice (nI x) a2 a3 t (fun r2 t => r = r2 ∧ Rel s t)) := eq_err h cc1 (by omega) (by omega) (fun P hP => m_isThingT m.1.1 (by omega) hx (sel1 (m_inF (lo := 0) (hi := 3) (by omega) (by omega) hw (les0 (m_error cc1 (by omega) (by omega) hP)))))
      simp only [Int32.lt_iff_toInt_lt, show (0 : Int32).toInt = 0 by decide, show (4 : Int32).toInt = 4 by decide]
      exact ⟨fun _ => bad, fun z1 => ⟨fun z2 => absurd ⟨by omega, by omega⟩ hw, fun _ => bad⟩⟩
  · exact p_knowsF c.1.1 (by omega) hn (sel0 (eq_err h cc1 (by omega) (by omega) (fun P hP => m_isThingF m.1.1 (by omega) hn (sel0 (m_error cc1 (by omega) (by omega) hP)))))
