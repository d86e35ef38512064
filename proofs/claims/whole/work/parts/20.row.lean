def wB_isWeight (a0 : Int32) (s0 : Sg) (P : Int32 → Sg → Prop) : Prop := ((a0 < 0 → P 0 s0) ∧ (¬ a0 < 0 → ((99 < a0 → P 0 s0) ∧ (¬ 99 < a0 → P 1 s0))))
set_option maxRecDepth 100000 in
set_option maxHeartbeats 4000000 in
theorem xB_isWeight {w : Wc} (l : Launch) {a0 : Int32} {s0 : Sg} {P : Int32 → Sg → Prop} (hw : wB_isWeight a0 s0 P) : CI shC w l 1 (.code yX7_isWeight cX7_isWeight 1 (some .boolean)) yX7_isWeight [.int a0] s0 P := by
  refine ci_of_z (own := "BagBottom") (ls0 := [some (.int a0)]) rfl pn_X7 rfl rfl (fun g el hg => ?_)
  unfold wB_isWeight at hw
  refine x_iload_0 hg dX7_isWeight_0 rfl ?_
  refine x_if_lt hg dX7_isWeight_1 (tg := 14) (by decide) rfl hw (fun hw => ?_) (fun hw => ?_)
  · refine x_ic hg dX7_isWeight_14 ic_0 rfl ?_
    exact x_zret hg dX7_isWeight_15 (by decide) hw
  · refine x_iload_0 hg dX7_isWeight_4 rfl ?_
    refine x_bi hg dX7_isWeight_5 bp_99 rfl ?_
    refine x_icmp_gt hg dX7_isWeight_7 (tg := 14) (by decide) rfl hw (fun hw => ?_) (fun hw => ?_)
    · refine x_ic hg dX7_isWeight_14 ic_0 rfl ?_
      exact x_zret hg dX7_isWeight_15 (by decide) hw
    · refine x_ic hg dX7_isWeight_10 ic_1 rfl ?_
      refine x_goto hg dX7_isWeight_11 (pc' := 15) (by decide) ?_
      exact x_zret hg dX7_isWeight_15 (by decide) hw
def wRow_addOnTop (k : Nat) (a1 : Int32) (s0 : Sg) (P : Sg → Prop) : Prop := (((nI (ln shC (k + 1))) ≤ (s0 k 1) → P s0) ∧ (¬ (nI (ln shC (k + 1))) ≤ (s0 k 1) → (acp ((k + 1)) ((k + 1)) shC 0 1 ((s0 k 1)) ∧ ∀ s1 : Sg, s1 = c2 s0 ((k + 1)) (ix 0) ((k + 1)) (ix 1) (ix ((s0 k 1))) → (vp_in 0 (ln shC (k + 1)) ∧ ∀ s2 : Sg, s2 = u2 s1 ((k + 1)) (ix 0) a1 → (∀ s3 : Sg, s3 = u2 s2 k 1 (((s2 k 1) + 1)) → P s3)))))
set_option maxRecDepth 100000 in
set_option maxHeartbeats 4000000 in
theorem xRow_addOnTop {w : Wc} (l : Launch) {k : Nat} {a1 : Int32} (hk : kd shC k = 2) {s0 : Sg} {P : Sg → Prop} (hw : wRow_addOnTop k a1 s0 P) : CV shC w l 1 (.code yX1_addOnTop cX1_addOnTop 2 none) yX1_addOnTop [.ref (ad w k), .int a1] s0 P := by
  refine ci_of_v (own := "BagBottom$Row") (ls0 := [some (.ref (ad w k)), some (.int a1)]) rfl pn_X1 rfl rfl (fun g el hg => ?_)
  unfold wRow_addOnTop at hw
  refine x_aload_0 hg dX1_addOnTop_0 rfl ?_
  refine get_X1_1 hg hk fl_X1_21 dX1_addOnTop_1 rfl ?_
  refine x_aload_0 hg dX1_addOnTop_4 rfl ?_
  refine get_X1_0 hg hk fl_X1_15 dX1_addOnTop_5 rfl (k2 := (k + 1)) rfl ?_
  refine x_alen hg (kRow hk) rfl (v := nI (ln shC (k + 1))) rfl dX1_addOnTop_8 rfl ?_
  refine x_icmp_ge hg dX1_addOnTop_9 (tg := 46) (by decide) rfl hw (fun hw => ?_) (fun hw => ?_)
  · exact x_vret hg dX1_addOnTop_46 hw
  · refine x_aload_0 hg dX1_addOnTop_12 rfl ?_
    refine get_X1_0 hg hk fl_X1_15 dX1_addOnTop_13 rfl (k2 := (k + 1)) rfl ?_
    refine x_ic hg dX1_addOnTop_16 ic_0 rfl ?_
    refine x_aload_0 hg dX1_addOnTop_17 rfl ?_
    refine get_X1_0 hg hk fl_X1_15 dX1_addOnTop_18 rfl (k2 := (k + 1)) rfl ?_
    refine x_ic hg dX1_addOnTop_21 ic_1 rfl ?_
    refine x_aload_0 hg dX1_addOnTop_22 rfl ?_
    refine get_X1_1 hg hk fl_X1_21 dX1_addOnTop_23 rfl ?_
    refine x_copy hg (kRow hk) (kRow hk) rfl rfl ml_X1_25 nt_arraycopy sm_arraycopy ini_J10 dX1_addOnTop_26 rfl hw (fun s1 hw => ?_)
    refine x_aload_0 hg dX1_addOnTop_29 rfl ?_
    refine get_X1_0 hg hk fl_X1_15 dX1_addOnTop_30 rfl (k2 := (k + 1)) rfl ?_
    refine x_ic hg dX1_addOnTop_33 ic_0 rfl ?_
    refine x_iload_1 hg dX1_addOnTop_34 rfl ?_
    refine x_iast hg (kRow hk) rfl dX1_addOnTop_35 rfl hw (fun s2 hw => ?_)
    refine x_aload_0 hg dX1_addOnTop_36 rfl ?_
    refine x_dup hg dX1_addOnTop_37 rfl rfl ?_
    refine get_X1_1 hg hk fl_X1_21 dX1_addOnTop_38 rfl ?_
    refine x_ic hg dX1_addOnTop_41 ic_1 rfl ?_
    refine x_iadd hg dX1_addOnTop_42 rfl ?_
    refine put_X1_1 hg hk fl_X1_21 dX1_addOnTop_43 rfl hw (fun s3 hw => ?_)
    exact x_vret hg dX1_addOnTop_46 hw
def wRow_placeOf_2 (k : Nat) (f1 : Int32) (P : Int32 → Sg → Prop) (K28 : Sg → Prop) : Nat → Int32 → Sg → Prop
  | 0, _, _ => False
  | n + 1, a2, s0 => (((s0 k 1) ≤ a2 → K28  s0) ∧ (¬ (s0 k 1) ≤ a2 → (vp_in a2 (ln shC (k + 1)) ∧ ((¬ (s0 ((k + 1)) (ix a2)) = f1 → wRow_placeOf_2 k f1 P K28 n ((a2 + 1)) s0) ∧ ((s0 ((k + 1)) (ix a2)) = f1 → P a2 s0)))))
def wRow_placeOf (k : Nat) (a1 : Int32) (s0 : Sg) (P : Int32 → Sg → Prop) : Prop := (∃ N1 : Nat, wRow_placeOf_2 k a1 P (fun  (s1 : Sg) => P ((-1)) s1) N1 0 s0)
set_option maxRecDepth 100000 in
set_option maxHeartbeats 4000000 in
theorem xRow_placeOf_2 {w : Wc} {g : Gx} {Q : State → Prop} {k : Nat} {f1 : Int32} {P : Int32 → Sg → Prop} {K28 : Sg → Prop} (hg : OK shC w g 1 cX1_placeOf "BagBottom$Row" 3 (some .int)) (hk : kd shC k = 2) (hQ : Q = QI shC w g P) (hK28 : ∀ (s0 : Sg), K28  s0 → X shC w g Q 28 [none, none, none] [] s0) : ∀ (n : Nat) (a2 : Int32) (s0 : Sg), wRow_placeOf_2 k f1 P K28 n a2 s0 → X shC w g Q 2 [some (.ref (ad w k)), some (.int f1), some (.int a2)] [] s0 := by
  subst hQ
  intro n
  induction n with
  | zero =>
    intro a2 s0 hw
    exact hw.elim
  | succ n ih =>
    intro a2 s0 hw
    rw [wRow_placeOf_2] at hw
    refine x_iload_2 hg dX1_placeOf_2 rfl ?_
    refine x_aload_0 hg dX1_placeOf_3 rfl ?_
    refine get_X1_1 hg hk fl_X1_21 dX1_placeOf_4 rfl ?_
    refine x_icmp_ge hg dX1_placeOf_7 (tg := 28) (by decide) rfl hw (fun hw => ?_) (fun hw => ?_)
    · refine x_drop_0 ?_
      refine x_drop_1 ?_
      refine x_drop_2 ?_
      exact hK28  _ hw
    · refine x_aload_0 hg dX1_placeOf_10 rfl ?_
      refine get_X1_0 hg hk fl_X1_15 dX1_placeOf_11 rfl (k2 := (k + 1)) rfl ?_
      refine x_iload_2 hg dX1_placeOf_14 rfl ?_
      refine x_iald hg (kRow hk) rfl dX1_placeOf_15 rfl hw (fun hw => ?_)
      refine x_iload_1 hg dX1_placeOf_16 rfl ?_
      refine x_icmp_ne hg dX1_placeOf_17 (tg := 22) (by decide) rfl hw (fun hw => ?_) (fun hw => ?_)
      · refine x_iinc_2 hg dX1_placeOf_22 ic_1 rfl rfl rfl ?_
        refine x_goto hg dX1_placeOf_25 (pc' := 2) (by decide) ?_
        exact ih _ _ hw
      · refine x_iload_2 hg dX1_placeOf_20 rfl ?_
        exact x_ret hg dX1_placeOf_21 hw
set_option maxRecDepth 100000 in
set_option maxHeartbeats 4000000 in
theorem xRow_placeOf {w : Wc} (l : Launch) {k : Nat} {a1 : Int32} (hk : kd shC k = 2) {s0 : Sg} {P : Int32 → Sg → Prop} (hw : wRow_placeOf k a1 s0 P) : CI shC w l 1 (.code yX1_placeOf cX1_placeOf 3 (some .int)) yX1_placeOf [.ref (ad w k), .int a1] s0 P := by
  refine ci_of_i (own := "BagBottom$Row") (ls0 := [some (.ref (ad w k)), some (.int a1), none]) rfl pn_X1 rfl rfl (fun g el hg => ?_)
  unfold wRow_placeOf at hw
  refine x_ic hg dX1_placeOf_0 ic_0 rfl ?_
  refine x_istore_2 hg dX1_placeOf_1 rfl rfl rfl ?_
  obtain ⟨N1, hw⟩ := hw
  refine xRow_placeOf_2 hg hk rfl (fun  s1 hw => ?_) _ _ _ hw
  · refine x_ic hg dX1_placeOf_28 ic_m1 rfl ?_
    exact x_ret hg dX1_placeOf_29 hw
def wThing_feels (k : Nat) (s0 : Sg) (P : Int32 → Sg → Prop) : Prop := (((s0 k 0) = 1 → P (((s0 k 3) / 2)) s0) ∧ (¬ (s0 k 0) = 1 → (((s0 k 0) = 2 → P (((s0 k 3) + (s0 k 1))) s0) ∧ (¬ (s0 k 0) = 2 → (((s0 k 0) = 4 → P ((if 0 < (((s0 k 3) / 2) - 1) then (((s0 k 3) / 2) - 1) else 0)) s0) ∧ (¬ (s0 k 0) = 4 → (((s0 k 0) = 5 → P ((2 * ((s0 k 3) + (s0 k 1)))) s0) ∧ (¬ (s0 k 0) = 5 → (((s0 k 0) = 6 → P ((s0 k 1)) s0) ∧ (¬ (s0 k 0) = 6 → P ((s0 k 3)) s0))))))))))
set_option maxRecDepth 100000 in
set_option maxHeartbeats 4000000 in
theorem xThing_feels {w : Wc} (l : Launch) {k : Nat} (hk : kd shC k = 5) {s0 : Sg} {P : Int32 → Sg → Prop} (hw : wThing_feels k s0 P) : CI shC w l 1 (.code yX4_feels cX4_feels 1 (some .int)) yX4_feels [.ref (ad w k)] s0 P := by
  refine ci_of_i (own := "BagBottom$Thing") (ls0 := [some (.ref (ad w k))]) rfl pn_X4 rfl rfl (fun g el hg => ?_)
  unfold wThing_feels at hw
  refine x_aload_0 hg dX4_feels_0 rfl ?_
  refine get_X4_0 hg hk fl_X4_9 dX4_feels_1 rfl ?_
  refine x_br hw (fun h0 hw => ?_) (fun h0 hw => ?_)
  · refine x_tab hg dX4_feels_4 (ps := [(1, 40), (2, 47), (3, 87), (4, 57), (5, 70), (6, 82)]) rfl (tg := 44) (by rw [h0]; decide) ?_
    refine x_aload_0 hg dX4_feels_44 rfl ?_
    refine get_X4_3 hg hk fl_X4_21 dX4_feels_45 rfl ?_
    refine x_ic hg dX4_feels_48 ic_2 rfl ?_
    refine x_idiv hg dX4_feels_49 ne_2 rfl ?_
    exact x_ret hg dX4_feels_50 hw
  · skip
    refine x_br hw (fun h1 hw => ?_) (fun h1 hw => ?_)
    · refine x_tab hg dX4_feels_4 (ps := [(1, 40), (2, 47), (3, 87), (4, 57), (5, 70), (6, 82)]) rfl (tg := 51) (by rw [h1]; decide) ?_
      refine x_aload_0 hg dX4_feels_51 rfl ?_
      refine get_X4_3 hg hk fl_X4_21 dX4_feels_52 rfl ?_
      refine x_aload_0 hg dX4_feels_55 rfl ?_
      refine get_X4_1 hg hk fl_X4_18 dX4_feels_56 rfl ?_
      refine x_iadd hg dX4_feels_59 rfl ?_
      exact x_ret hg dX4_feels_60 hw
    · skip
      refine x_br hw (fun h2 hw => ?_) (fun h2 hw => ?_)
      · refine x_tab hg dX4_feels_4 (ps := [(1, 40), (2, 47), (3, 87), (4, 57), (5, 70), (6, 82)]) rfl (tg := 61) (by rw [h2]; decide) ?_
        refine x_ic hg dX4_feels_61 ic_0 rfl ?_
        refine x_aload_0 hg dX4_feels_62 rfl ?_
        refine get_X4_3 hg hk fl_X4_21 dX4_feels_63 rfl ?_
        refine x_ic hg dX4_feels_66 ic_2 rfl ?_
        refine x_idiv hg dX4_feels_67 ne_2 rfl ?_
        refine x_ic hg dX4_feels_68 ic_1 rfl ?_
        refine x_isub hg dX4_feels_69 rfl ?_
        refine x_mmax hg ml_X4_24 rfl rfl dX4_feels_70 rfl ?_
        exact x_ret hg dX4_feels_73 hw
      · skip
        refine x_br hw (fun h3 hw => ?_) (fun h3 hw => ?_)
        · refine x_tab hg dX4_feels_4 (ps := [(1, 40), (2, 47), (3, 87), (4, 57), (5, 70), (6, 82)]) rfl (tg := 74) (by rw [h3]; decide) ?_
          refine x_ic hg dX4_feels_74 ic_2 rfl ?_
          refine x_aload_0 hg dX4_feels_75 rfl ?_
          refine get_X4_3 hg hk fl_X4_21 dX4_feels_76 rfl ?_
          refine x_aload_0 hg dX4_feels_79 rfl ?_
          refine get_X4_1 hg hk fl_X4_18 dX4_feels_80 rfl ?_
          refine x_iadd hg dX4_feels_83 rfl ?_
          refine x_imul hg dX4_feels_84 rfl ?_
          exact x_ret hg dX4_feels_85 hw
        · skip
          refine x_br hw (fun h4 hw => ?_) (fun h4 hw => ?_)
          · refine x_tab hg dX4_feels_4 (ps := [(1, 40), (2, 47), (3, 87), (4, 57), (5, 70), (6, 82)]) rfl (tg := 86) (by rw [h4]; decide) ?_
            refine x_aload_0 hg dX4_feels_86 rfl ?_
            refine get_X4_1 hg hk fl_X4_18 dX4_feels_87 rfl ?_
            exact x_ret hg dX4_feels_90 hw
          · skip
            refine x_tab hg dX4_feels_4 (ps := [(1, 40), (2, 47), (3, 87), (4, 57), (5, 70), (6, 82)]) rfl (tg := 91) (by simp only [lk, if_neg h0, if_neg h1, if_neg h2, if_neg h3, if_neg h4, ite_self]; decide) ?_
            refine x_aload_0 hg dX4_feels_91 rfl ?_
            refine get_X4_3 hg hk fl_X4_21 dX4_feels_92 rfl ?_
            exact x_ret hg dX4_feels_95 hw
def wThing_sinks (k : Nat) (a1 : Int32) (s0 : Sg) (P : Int32 → Sg → Prop) : Prop := (((s0 k 0) = 1 → P (((s0 k 2) + (s0 k 1))) s0) ∧ (¬ (s0 k 0) = 1 → (((s0 k 0) = 2 → P (((s0 k 2) / 2)) s0) ∧ (¬ (s0 k 0) = 2 → (((s0 k 0) = 3 → P ((((s0 k 2) + 9) - (s0 k 3))) s0) ∧ (¬ (s0 k 0) = 3 → (((s0 k 0) = 4 → ((¬ (a1 - a1 / 2 * 2) = 0 → P 0 s0) ∧ ((a1 - a1 / 2 * 2) = 0 → P (((s0 k 2) + (s0 k 1))) s0))) ∧ (¬ (s0 k 0) = 4 → (((s0 k 0) = 5 → P ((((s0 k 2) / 2) + (a1 - a1 / 3 * 3))) s0) ∧ (¬ (s0 k 0) = 5 → P ((s0 k 2)) s0))))))))))
set_option maxRecDepth 100000 in
set_option maxHeartbeats 4000000 in
theorem xThing_sinks {w : Wc} (l : Launch) {k : Nat} {a1 : Int32} (hk : kd shC k = 5) {s0 : Sg} {P : Int32 → Sg → Prop} (hw : wThing_sinks k a1 s0 P) : CI shC w l 1 (.code yX4_sinks cX4_sinks 2 (some .int)) yX4_sinks [.ref (ad w k), .int a1] s0 P := by
  refine ci_of_i (own := "BagBottom$Thing") (ls0 := [some (.ref (ad w k)), some (.int a1)]) rfl pn_X4 rfl rfl (fun g el hg => ?_)
  unfold wThing_sinks at hw
  refine x_aload_0 hg dX4_sinks_0 rfl ?_
  refine get_X4_0 hg hk fl_X4_9 dX4_sinks_1 rfl ?_
  refine x_br hw (fun h0 hw => ?_) (fun h0 hw => ?_)
  · refine x_tab hg dX4_sinks_4 (ps := [(1, 36), (2, 46), (3, 53), (4, 66), (5, 86)]) rfl (tg := 40) (by rw [h0]; decide) ?_
    refine x_aload_0 hg dX4_sinks_40 rfl ?_
    refine get_X4_2 hg hk fl_X4_15 dX4_sinks_41 rfl ?_
    refine x_aload_0 hg dX4_sinks_44 rfl ?_
    refine get_X4_1 hg hk fl_X4_18 dX4_sinks_45 rfl ?_
    refine x_iadd hg dX4_sinks_48 rfl ?_
    exact x_ret hg dX4_sinks_49 hw
  · skip
    refine x_br hw (fun h1 hw => ?_) (fun h1 hw => ?_)
    · refine x_tab hg dX4_sinks_4 (ps := [(1, 36), (2, 46), (3, 53), (4, 66), (5, 86)]) rfl (tg := 50) (by rw [h1]; decide) ?_
      refine x_aload_0 hg dX4_sinks_50 rfl ?_
      refine get_X4_2 hg hk fl_X4_15 dX4_sinks_51 rfl ?_
      refine x_ic hg dX4_sinks_54 ic_2 rfl ?_
      refine x_idiv hg dX4_sinks_55 ne_2 rfl ?_
      exact x_ret hg dX4_sinks_56 hw
    · skip
      refine x_br hw (fun h2 hw => ?_) (fun h2 hw => ?_)
      · refine x_tab hg dX4_sinks_4 (ps := [(1, 36), (2, 46), (3, 53), (4, 66), (5, 86)]) rfl (tg := 57) (by rw [h2]; decide) ?_
        refine x_aload_0 hg dX4_sinks_57 rfl ?_
        refine get_X4_2 hg hk fl_X4_15 dX4_sinks_58 rfl ?_
        refine x_bi hg dX4_sinks_61 bp_9 rfl ?_
        refine x_iadd hg dX4_sinks_63 rfl ?_
        refine x_aload_0 hg dX4_sinks_64 rfl ?_
        refine get_X4_3 hg hk fl_X4_21 dX4_sinks_65 rfl ?_
        refine x_isub hg dX4_sinks_68 rfl ?_
        exact x_ret hg dX4_sinks_69 hw
      · skip
        refine x_br hw (fun h3 hw => ?_) (fun h3 hw => ?_)
        · refine x_tab hg dX4_sinks_4 (ps := [(1, 36), (2, 46), (3, 53), (4, 66), (5, 86)]) rfl (tg := 70) (by rw [h3]; decide) ?_
          refine x_iload_1 hg dX4_sinks_70 rfl ?_
          refine x_ic hg dX4_sinks_71 ic_2 rfl ?_
          refine x_irem hg dX4_sinks_72 ne_2 rfl ?_
          refine x_if_ne hg dX4_sinks_73 (tg := 88) (by decide) rfl hw (fun hw => ?_) (fun hw => ?_)
          · refine x_ic hg dX4_sinks_88 ic_0 rfl ?_
            exact x_ret hg dX4_sinks_89 hw
          · refine x_aload_0 hg dX4_sinks_76 rfl ?_
            refine get_X4_2 hg hk fl_X4_15 dX4_sinks_77 rfl ?_
            refine x_aload_0 hg dX4_sinks_80 rfl ?_
            refine get_X4_1 hg hk fl_X4_18 dX4_sinks_81 rfl ?_
            refine x_iadd hg dX4_sinks_84 rfl ?_
            refine x_goto hg dX4_sinks_85 (pc' := 89) (by decide) ?_
            exact x_ret hg dX4_sinks_89 hw
        · skip
          refine x_br hw (fun h4 hw => ?_) (fun h4 hw => ?_)
          · refine x_tab hg dX4_sinks_4 (ps := [(1, 36), (2, 46), (3, 53), (4, 66), (5, 86)]) rfl (tg := 90) (by rw [h4]; decide) ?_
            refine x_aload_0 hg dX4_sinks_90 rfl ?_
            refine get_X4_2 hg hk fl_X4_15 dX4_sinks_91 rfl ?_
            refine x_ic hg dX4_sinks_94 ic_2 rfl ?_
            refine x_idiv hg dX4_sinks_95 ne_2 rfl ?_
            refine x_iload_1 hg dX4_sinks_96 rfl ?_
            refine x_ic hg dX4_sinks_97 ic_3 rfl ?_
            refine x_irem hg dX4_sinks_98 ne_3 rfl ?_
            refine x_iadd hg dX4_sinks_99 rfl ?_
            exact x_ret hg dX4_sinks_100 hw
          · skip
            refine x_tab hg dX4_sinks_4 (ps := [(1, 36), (2, 46), (3, 53), (4, 66), (5, 86)]) rfl (tg := 101) (by simp only [lk, if_neg h0, if_neg h1, if_neg h2, if_neg h3, if_neg h4, ite_self]; decide) ?_
            refine x_aload_0 hg dX4_sinks_101 rfl ?_
            refine get_X4_2 hg hk fl_X4_15 dX4_sinks_102 rfl ?_
            exact x_ret hg dX4_sinks_105 hw
def wThing_isOf_7 (k : Nat) (f1 : Int32) (P : Int32 → Sg → Prop) (K36 : Sg → Prop) : Nat → Int32 → Int32 → Sg → Prop
  | 0, _, _, _ => False
  | n + 1, a2, a3, s0 => ((7 ≤ a3 → K36  s0) ∧ (¬ 7 ≤ a3 → ((a2 < 0 → K36  s0) ∧ (¬ a2 < 0 → ((¬ a2 = f1 → (vp_in a2 7 ∧ wThing_isOf_7 k f1 P K36 n ((kaF (ix a2))) ((a3 + 1)) s0)) ∧ (a2 = f1 → P 1 s0))))))
def wThing_isOf (k : Nat) (a1 : Int32) (s0 : Sg) (P : Int32 → Sg → Prop) : Prop := (∃ N1 : Nat, wThing_isOf_7 k a1 P (fun  (s1 : Sg) => P 0 s1) N1 ((s0 k 0)) 0 s0)
set_option maxRecDepth 100000 in
set_option maxHeartbeats 4000000 in
theorem xThing_isOf_7 {w : Wc} {g : Gx} {Q : State → Prop} {k : Nat} {f1 : Int32} {P : Int32 → Sg → Prop} {K36 : Sg → Prop} (hg : OK shC w g 1 cX4_isOf "BagBottom$Thing" 4 (some .boolean)) (hk : kd shC k = 5) (hQ : Q = QI shC w g P) (hK36 : ∀ (s0 : Sg), K36  s0 → X shC w g Q 36 [none, none, none, none] [] s0) : ∀ (n : Nat) (a2 a3 : Int32) (s0 : Sg), wThing_isOf_7 k f1 P K36 n a2 a3 s0 → X shC w g Q 7 [none, some (.int f1), some (.int a2), some (.int a3)] [] s0 := by
  subst hQ
  intro n
  induction n with
  | zero =>
    intro a2 a3 s0 hw
    exact hw.elim
  | succ n ih =>
    intro a2 a3 s0 hw
    rw [wThing_isOf_7] at hw
    refine x_iload_3 hg dX4_isOf_7 rfl ?_
    refine x_bi hg dX4_isOf_8 bp_7 rfl ?_
    refine x_icmp_ge hg dX4_isOf_10 (tg := 36) (by decide) rfl hw (fun hw => ?_) (fun hw => ?_)
    · refine x_drop_1 ?_
      refine x_drop_2 ?_
      refine x_drop_3 ?_
      exact hK36  _ hw
    · refine x_iload_2 hg dX4_isOf_13 rfl ?_
      refine x_if_lt hg dX4_isOf_14 (tg := 36) (by decide) rfl hw (fun hw => ?_) (fun hw => ?_)
      · refine x_drop_1 ?_
        refine x_drop_2 ?_
        refine x_drop_3 ?_
        exact hK36  _ hw
      · refine x_iload_2 hg dX4_isOf_17 rfl ?_
        refine x_iload_1 hg dX4_isOf_18 rfl ?_
        refine x_icmp_ne hg dX4_isOf_19 (tg := 24) (by decide) rfl hw (fun hw => ?_) (fun hw => ?_)
        · refine x_getsK hg nest_X4 dX4_isOf_24 rfl ?_
          refine x_iload_2 hg dX4_isOf_27 rfl ?_
          refine x_tldK hg dX4_isOf_28 rfl hw (fun hw => ?_)
          refine x_istore_2 hg dX4_isOf_29 rfl rfl rfl ?_
          refine x_iinc_3 hg dX4_isOf_30 ic_1 rfl rfl rfl ?_
          refine x_goto hg dX4_isOf_33 (pc' := 7) (by decide) ?_
          exact ih _ _ _ hw
        · refine x_ic hg dX4_isOf_22 ic_1 rfl ?_
          exact x_zret hg dX4_isOf_23 (by decide) hw
set_option maxRecDepth 100000 in
set_option maxHeartbeats 4000000 in
theorem xThing_isOf {w : Wc} (l : Launch) {k : Nat} {a1 : Int32} (hk : kd shC k = 5) {s0 : Sg} {P : Int32 → Sg → Prop} (hw : wThing_isOf k a1 s0 P) : CI shC w l 1 (.code yX4_isOf cX4_isOf 4 (some .boolean)) yX4_isOf [.ref (ad w k), .int a1] s0 P := by
  refine ci_of_z (own := "BagBottom$Thing") (ls0 := [some (.ref (ad w k)), some (.int a1), none, none]) rfl pn_X4 rfl rfl (fun g el hg => ?_)
  unfold wThing_isOf at hw
  refine x_aload_0 hg dX4_isOf_0 rfl ?_
  refine get_X4_0 hg hk fl_X4_9 dX4_isOf_1 rfl ?_
  refine x_istore_2 hg dX4_isOf_4 rfl rfl rfl ?_
  refine x_ic hg dX4_isOf_5 ic_0 rfl ?_
  refine x_istore_3 hg dX4_isOf_6 rfl rfl rfl ?_
  refine x_drop_0 ?_
  obtain ⟨N1, hw⟩ := hw
  refine xThing_isOf_7 hg hk rfl (fun  s1 hw => ?_) _ _ _ _ hw
  · refine x_ic hg dX4_isOf_36 ic_0 rfl ?_
    exact x_zret hg dX4_isOf_37 (by decide) hw
def wRow_has (k : Nat) (a1 : Int32) (s0 : Sg) (P : Int32 → Sg → Prop) : Prop := ((a1 < 0 → P 0 s0) ∧ (¬ a1 < 0 → (((s0 k 1) ≤ a1 → P 0 s0) ∧ (¬ (s0 k 1) ≤ a1 → P 1 s0))))
set_option maxRecDepth 100000 in
set_option maxHeartbeats 4000000 in
theorem xRow_has {w : Wc} (l : Launch) {k : Nat} {a1 : Int32} (hk : kd shC k = 2) {s0 : Sg} {P : Int32 → Sg → Prop} (hw : wRow_has k a1 s0 P) : CI shC w l 1 (.code yX1_has cX1_has 2 (some .boolean)) yX1_has [.ref (ad w k), .int a1] s0 P := by
  refine ci_of_z (own := "BagBottom$Row") (ls0 := [some (.ref (ad w k)), some (.int a1)]) rfl pn_X1 rfl rfl (fun g el hg => ?_)
  unfold wRow_has at hw
  refine x_iload_1 hg dX1_has_0 rfl ?_
  refine x_if_lt hg dX1_has_1 (tg := 16) (by decide) rfl hw (fun hw => ?_) (fun hw => ?_)
  · refine x_ic hg dX1_has_16 ic_0 rfl ?_
    exact x_zret hg dX1_has_17 (by decide) hw
  · refine x_iload_1 hg dX1_has_4 rfl ?_
    refine x_aload_0 hg dX1_has_5 rfl ?_
    refine get_X1_1 hg hk fl_X1_21 dX1_has_6 rfl ?_
    refine x_icmp_ge hg dX1_has_9 (tg := 16) (by decide) rfl hw (fun hw => ?_) (fun hw => ?_)
    · refine x_ic hg dX1_has_16 ic_0 rfl ?_
      exact x_zret hg dX1_has_17 (by decide) hw
    · refine x_ic hg dX1_has_12 ic_1 rfl ?_
      refine x_goto hg dX1_has_13 (pc' := 17) (by decide) ?_
      exact x_zret hg dX1_has_17 (by decide) hw
def wRow_removeAt (k : Nat) (a1 : Int32) (s0 : Sg) (P : Sg → Prop) : Prop := (wRow_has k a1 s0 (fun (r1 : Int32) (s1 : Sg) => ((r1 = 0 → P s1) ∧ (¬ r1 = 0 → (acp ((k + 1)) ((k + 1)) shC ((a1 + 1)) a1 ((((s1 k 1) - a1) - 1)) ∧ ∀ s2 : Sg, s2 = c2 s1 ((k + 1)) (ix ((a1 + 1))) ((k + 1)) (ix a1) (ix ((((s1 k 1) - a1) - 1))) → (∀ s3 : Sg, s3 = u2 s2 k 1 (((s2 k 1) - 1)) → P s3))))))
set_option maxRecDepth 100000 in
set_option maxHeartbeats 4000000 in
theorem xRow_removeAt {w : Wc} (l : Launch) {k : Nat} {a1 : Int32} (hk : kd shC k = 2) {s0 : Sg} {P : Sg → Prop} (hw : wRow_removeAt k a1 s0 P) : CV shC w l 2 (.code yX1_removeAt cX1_removeAt 2 none) yX1_removeAt [.ref (ad w k), .int a1] s0 P := by
  refine ci_of_v (own := "BagBottom$Row") (ls0 := [some (.ref (ad w k)), some (.int a1)]) rfl pn_X1 rfl rfl (fun g el hg => ?_)
  unfold wRow_removeAt at hw
  refine x_aload_0 hg dX1_removeAt_0 rfl ?_
  refine x_iload_1 hg dX1_removeAt_1 rfl ?_
  refine x_callVI hg (xRow_has (gL g) hk hw) hk (by decide) rfl im_X1_has se_X1_has mi_X1_has ml_X1_31 rfl rfl (As := [.int a1]) rfl rfl rfl dX1_removeAt_2 rfl (fun r1 s1 hw => ?_)
  refine x_if_eq hg dX1_removeAt_5 (tg := 41) (by decide) rfl hw (fun hw => ?_) (fun hw => ?_)
  · exact x_vret hg dX1_removeAt_41 hw
  · refine x_aload_0 hg dX1_removeAt_8 rfl ?_
    refine get_X1_0 hg hk fl_X1_15 dX1_removeAt_9 rfl (k2 := (k + 1)) rfl ?_
    refine x_iload_1 hg dX1_removeAt_12 rfl ?_
    refine x_ic hg dX1_removeAt_13 ic_1 rfl ?_
    refine x_iadd hg dX1_removeAt_14 rfl ?_
    refine x_aload_0 hg dX1_removeAt_15 rfl ?_
    refine get_X1_0 hg hk fl_X1_15 dX1_removeAt_16 rfl (k2 := (k + 1)) rfl ?_
    refine x_iload_1 hg dX1_removeAt_19 rfl ?_
    refine x_aload_0 hg dX1_removeAt_20 rfl ?_
    refine get_X1_1 hg hk fl_X1_21 dX1_removeAt_21 rfl ?_
    refine x_iload_1 hg dX1_removeAt_24 rfl ?_
    refine x_isub hg dX1_removeAt_25 rfl ?_
    refine x_ic hg dX1_removeAt_26 ic_1 rfl ?_
    refine x_isub hg dX1_removeAt_27 rfl ?_
    refine x_copy hg (kRow hk) (kRow hk) rfl rfl ml_X1_25 nt_arraycopy sm_arraycopy ini_J10 dX1_removeAt_28 rfl hw (fun s2 hw => ?_)
    refine x_aload_0 hg dX1_removeAt_31 rfl ?_
    refine x_dup hg dX1_removeAt_32 rfl rfl ?_
    refine get_X1_1 hg hk fl_X1_21 dX1_removeAt_33 rfl ?_
    refine x_ic hg dX1_removeAt_36 ic_1 rfl ?_
    refine x_isub hg dX1_removeAt_37 rfl ?_
    refine put_X1_1 hg hk fl_X1_21 dX1_removeAt_38 rfl hw (fun s3 hw => ?_)
    exact x_vret hg dX1_removeAt_41 hw
def wRow_add (k : Nat) (a1 : Int32) (s0 : Sg) (P : Sg → Prop) : Prop := (((nI (ln shC (k + 1))) ≤ (s0 k 1) → P s0) ∧ (¬ (nI (ln shC (k + 1))) ≤ (s0 k 1) → (vp_in ((s0 k 1)) (ln shC (k + 1)) ∧ ∀ s1 : Sg, s1 = u2 s0 ((k + 1)) (ix ((s0 k 1))) a1 → (∀ s2 : Sg, s2 = u2 s1 k 1 (((s1 k 1) + 1)) → P s2))))
set_option maxRecDepth 100000 in
set_option maxHeartbeats 4000000 in
theorem xRow_add {w : Wc} (l : Launch) {k : Nat} {a1 : Int32} (hk : kd shC k = 2) {s0 : Sg} {P : Sg → Prop} (hw : wRow_add k a1 s0 P) : CV shC w l 1 (.code yX1_add cX1_add 2 none) yX1_add [.ref (ad w k), .int a1] s0 P := by
  refine ci_of_v (own := "BagBottom$Row") (ls0 := [some (.ref (ad w k)), some (.int a1)]) rfl pn_X1 rfl rfl (fun g el hg => ?_)
  unfold wRow_add at hw
  refine x_aload_0 hg dX1_add_0 rfl ?_
  refine get_X1_1 hg hk fl_X1_21 dX1_add_1 rfl ?_
  refine x_aload_0 hg dX1_add_4 rfl ?_
  refine get_X1_0 hg hk fl_X1_15 dX1_add_5 rfl (k2 := (k + 1)) rfl ?_
  refine x_alen hg (kRow hk) rfl (v := nI (ln shC (k + 1))) rfl dX1_add_8 rfl ?_
  refine x_icmp_ge hg dX1_add_9 (tg := 32) (by decide) rfl hw (fun hw => ?_) (fun hw => ?_)
  · exact x_vret hg dX1_add_32 hw
  · refine x_aload_0 hg dX1_add_12 rfl ?_
    refine get_X1_0 hg hk fl_X1_15 dX1_add_13 rfl (k2 := (k + 1)) rfl ?_
    refine x_aload_0 hg dX1_add_16 rfl ?_
    refine get_X1_1 hg hk fl_X1_21 dX1_add_17 rfl ?_
    refine x_iload_1 hg dX1_add_20 rfl ?_
    refine x_iast hg (kRow hk) rfl dX1_add_21 rfl hw (fun s1 hw => ?_)
    refine x_aload_0 hg dX1_add_22 rfl ?_
    refine x_dup hg dX1_add_23 rfl rfl ?_
    refine get_X1_1 hg hk fl_X1_21 dX1_add_24 rfl ?_
    refine x_ic hg dX1_add_27 ic_1 rfl ?_
    refine x_iadd hg dX1_add_28 rfl ?_
    refine put_X1_1 hg hk fl_X1_21 dX1_add_29 rfl hw (fun s2 hw => ?_)
    exact x_vret hg dX1_add_32 hw
def wRow_copy (k : Nat) (k1 : Nat) (s0 : Sg) (P : Sg → Prop) : Prop := (∀ x1 : Int32, x1 = (if (nI (ln shC (k + 1))) < (s0 k1 1) then (nI (ln shC (k + 1))) else (s0 k1 1)) → (acp ((k1 + 1)) ((k + 1)) shC 0 0 x1 ∧ ∀ s1 : Sg, s1 = c2 s0 ((k1 + 1)) (ix 0) ((k + 1)) (ix 0) (ix x1) → (∀ s2 : Sg, s2 = u2 s1 k 1 x1 → P s2)))
set_option maxRecDepth 100000 in
set_option maxHeartbeats 4000000 in
theorem xRow_copy {w : Wc} (l : Launch) {k : Nat} {k1 : Nat} (hk : kd shC k = 2) (hk1 : kd shC k1 = 2) {s0 : Sg} {P : Sg → Prop} (hw : wRow_copy k k1 s0 P) : CV shC w l 1 (.code yX1_copy cX1_copy 3 none) yX1_copy [.ref (ad w k), .ref (ad w k1)] s0 P := by
  refine ci_of_v (own := "BagBottom$Row") (ls0 := [some (.ref (ad w k)), some (.ref (ad w k1)), none]) rfl pn_X1 rfl rfl (fun g el hg => ?_)
  unfold wRow_copy at hw
  refine x_aload_1 hg dX1_copy_0 rfl ?_
  refine get_X1_1 hg hk1 fl_X1_21 dX1_copy_1 rfl ?_
  refine x_aload_0 hg dX1_copy_4 rfl ?_
  refine get_X1_0 hg hk fl_X1_15 dX1_copy_5 rfl (k2 := (k + 1)) rfl ?_
  refine x_alen hg (kRow hk) rfl (v := nI (ln shC (k + 1))) rfl dX1_copy_8 rfl ?_
  refine x_mmin hg ml_X1_43 rfl rfl dX1_copy_9 rfl ?_
  refine x_nm hw (fun x1 hw => ?_)
  refine x_istore_2 hg dX1_copy_12 rfl rfl rfl ?_
  refine x_aload_1 hg dX1_copy_13 rfl ?_
  refine get_X1_0 hg hk1 fl_X1_15 dX1_copy_14 rfl (k2 := (k1 + 1)) rfl ?_
  refine x_ic hg dX1_copy_17 ic_0 rfl ?_
  refine x_aload_0 hg dX1_copy_18 rfl ?_
  refine get_X1_0 hg hk fl_X1_15 dX1_copy_19 rfl (k2 := (k + 1)) rfl ?_
  refine x_ic hg dX1_copy_22 ic_0 rfl ?_
  refine x_iload_2 hg dX1_copy_23 rfl ?_
  refine x_copy hg (kRow hk1) (kRow hk) rfl rfl ml_X1_25 nt_arraycopy sm_arraycopy ini_J10 dX1_copy_24 rfl hw (fun s1 hw => ?_)
  refine x_aload_0 hg dX1_copy_27 rfl ?_
  refine x_iload_2 hg dX1_copy_28 rfl ?_
  refine put_X1_1 hg hk fl_X1_21 dX1_copy_29 rfl hw (fun s2 hw => ?_)
  exact x_vret hg dX1_copy_32 hw
def wRow_exchange (k : Nat) (a1 : Int32) (a2 : Int32) (s0 : Sg) (P : Sg → Prop) : Prop := (wRow_has k a1 s0 (fun (r1 : Int32) (s1 : Sg) => ((r1 = 0 → P s1) ∧ (¬ r1 = 0 → (wRow_has k a2 s1 (fun (r2 : Int32) (s2 : Sg) => ((r2 = 0 → P s2) ∧ (¬ r2 = 0 → (vp_in a1 (ln shC (k + 1)) ∧ (vp_in a2 (ln shC (k + 1)) ∧ (vp_in a1 (ln shC (k + 1)) ∧ ∀ s3 : Sg, s3 = u2 s2 ((k + 1)) (ix a1) ((s2 ((k + 1)) (ix a2))) → (vp_in a2 (ln shC (k + 1)) ∧ ∀ s4 : Sg, s4 = u2 s3 ((k + 1)) (ix a2) ((s2 ((k + 1)) (ix a1))) → P s4))))))))))))
set_option maxRecDepth 100000 in
set_option maxHeartbeats 4000000 in
theorem xRow_exchange {w : Wc} (l : Launch) {k : Nat} {a1 : Int32} {a2 : Int32} (hk : kd shC k = 2) {s0 : Sg} {P : Sg → Prop} (hw : wRow_exchange k a1 a2 s0 P) : CV shC w l 2 (.code yX1_exchange cX1_exchange 4 none) yX1_exchange [.ref (ad w k), .int a1, .int a2] s0 P := by
  refine ci_of_v (own := "BagBottom$Row") (ls0 := [some (.ref (ad w k)), some (.int a1), some (.int a2), none]) rfl pn_X1 rfl rfl (fun g el hg => ?_)
  unfold wRow_exchange at hw
  refine x_aload_0 hg dX1_exchange_0 rfl ?_
  refine x_iload_1 hg dX1_exchange_1 rfl ?_
  refine x_callVI hg (xRow_has (gL g) hk hw) hk (by decide) rfl im_X1_has se_X1_has mi_X1_has ml_X1_31 rfl rfl (As := [.int a1]) rfl rfl rfl dX1_exchange_2 rfl (fun r1 s1 hw => ?_)
  refine x_if_eq hg dX1_exchange_5 (tg := 42) (by decide) rfl hw (fun hw => ?_) (fun hw => ?_)
  · exact x_vret hg dX1_exchange_42 hw
  · refine x_aload_0 hg dX1_exchange_8 rfl ?_
    refine x_iload_2 hg dX1_exchange_9 rfl ?_
    refine x_callVI hg (xRow_has (gL g) hk hw) hk (by decide) rfl im_X1_has se_X1_has mi_X1_has ml_X1_31 rfl rfl (As := [.int a2]) rfl rfl rfl dX1_exchange_10 rfl (fun r2 s2 hw => ?_)
    refine x_if_eq hg dX1_exchange_13 (tg := 42) (by decide) rfl hw (fun hw => ?_) (fun hw => ?_)
    · exact x_vret hg dX1_exchange_42 hw
    · refine x_aload_0 hg dX1_exchange_16 rfl ?_
      refine get_X1_0 hg hk fl_X1_15 dX1_exchange_17 rfl (k2 := (k + 1)) rfl ?_
      refine x_iload_1 hg dX1_exchange_20 rfl ?_
      refine x_iald hg (kRow hk) rfl dX1_exchange_21 rfl hw (fun hw => ?_)
      refine x_istore_3 hg dX1_exchange_22 rfl rfl rfl ?_
      refine x_aload_0 hg dX1_exchange_23 rfl ?_
      refine get_X1_0 hg hk fl_X1_15 dX1_exchange_24 rfl (k2 := (k + 1)) rfl ?_
      refine x_iload_1 hg dX1_exchange_27 rfl ?_
      refine x_aload_0 hg dX1_exchange_28 rfl ?_
      refine get_X1_0 hg hk fl_X1_15 dX1_exchange_29 rfl (k2 := (k + 1)) rfl ?_
      refine x_iload_2 hg dX1_exchange_32 rfl ?_
      refine x_iald hg (kRow hk) rfl dX1_exchange_33 rfl hw (fun hw => ?_)
      refine x_iast hg (kRow hk) rfl dX1_exchange_34 rfl hw (fun s3 hw => ?_)
      refine x_aload_0 hg dX1_exchange_35 rfl ?_
      refine get_X1_0 hg hk fl_X1_15 dX1_exchange_36 rfl (k2 := (k + 1)) rfl ?_
      refine x_iload_2 hg dX1_exchange_39 rfl ?_
      refine x_iload_3 hg dX1_exchange_40 rfl ?_
      refine x_iast hg (kRow hk) rfl dX1_exchange_41 rfl hw (fun s4 hw => ?_)
      exact x_vret hg dX1_exchange_42 hw
def wRow_turnOverFrom_9 (k : Nat) (K29 : Sg → Prop) : Nat → Int32 → Int32 → Sg → Prop
  | 0, _, _, _ => False
  | n + 1, a2, a3, s0 => ((a3 ≤ a2 → K29  s0) ∧ (¬ a3 ≤ a2 → (wRow_exchange k a2 a3 s0 (fun (s1 : Sg) => wRow_turnOverFrom_9 k K29 n ((a2 + 1)) ((a3 + (-1))) s1))))
def wRow_turnOverFrom (k : Nat) (a1 : Int32) (s0 : Sg) (P : Sg → Prop) : Prop := (∃ N1 : Nat, wRow_turnOverFrom_9 k (fun  (s1 : Sg) => P s1) N1 a1 (((s0 k 1) - 1)) s0)
set_option maxRecDepth 100000 in
set_option maxHeartbeats 4000000 in
theorem xRow_turnOverFrom_9 {w : Wc} {g : Gx} {Q : State → Prop} {k : Nat} {K29 : Sg → Prop} (hg : OK shC w g 3 cX1_turnOverFrom "BagBottom$Row" 4 none) (hk : kd shC k = 2) (hK29 : ∀ (s0 : Sg), K29  s0 → X shC w g Q 29 [none, none, none, none] [] s0) : ∀ (n : Nat) (a2 a3 : Int32) (s0 : Sg), wRow_turnOverFrom_9 k K29 n a2 a3 s0 → X shC w g Q 9 [some (.ref (ad w k)), none, some (.int a2), some (.int a3)] [] s0 := by
  intro n
  induction n with
  | zero =>
    intro a2 a3 s0 hw
    exact hw.elim
  | succ n ih =>
    intro a2 a3 s0 hw
    rw [wRow_turnOverFrom_9] at hw
    refine x_iload_2 hg dX1_turnOverFrom_9 rfl ?_
    refine x_iload_3 hg dX1_turnOverFrom_10 rfl ?_
    refine x_icmp_ge hg dX1_turnOverFrom_11 (tg := 29) (by decide) rfl hw (fun hw => ?_) (fun hw => ?_)
    · refine x_drop_0 ?_
      refine x_drop_2 ?_
      refine x_drop_3 ?_
      exact hK29  _ hw
    · refine x_aload_0 hg dX1_turnOverFrom_14 rfl ?_
      refine x_iload_2 hg dX1_turnOverFrom_15 rfl ?_
      refine x_iload_3 hg dX1_turnOverFrom_16 rfl ?_
      refine x_callVV hg (xRow_exchange (gL g) hk hw) hk (by decide) rfl im_X1_exchange se_X1_exchange mi_X1_exchange ml_X1_35 rfl rfl (As := [.int a2, .int a3]) rfl rfl rfl dX1_turnOverFrom_17 rfl (fun s1 hw => ?_)
      refine x_iinc_2 hg dX1_turnOverFrom_20 ic_1 rfl rfl rfl ?_
      refine x_iinc_3 hg dX1_turnOverFrom_23 ic_m1 rfl rfl rfl ?_
      refine x_goto hg dX1_turnOverFrom_26 (pc' := 9) (by decide) ?_
      exact ih _ _ _ hw
set_option maxRecDepth 100000 in
set_option maxHeartbeats 4000000 in
theorem xRow_turnOverFrom {w : Wc} (l : Launch) {k : Nat} {a1 : Int32} (hk : kd shC k = 2) {s0 : Sg} {P : Sg → Prop} (hw : wRow_turnOverFrom k a1 s0 P) : CV shC w l 3 (.code yX1_turnOverFrom cX1_turnOverFrom 4 none) yX1_turnOverFrom [.ref (ad w k), .int a1] s0 P := by
  refine ci_of_v (own := "BagBottom$Row") (ls0 := [some (.ref (ad w k)), some (.int a1), none, none]) rfl pn_X1 rfl rfl (fun g el hg => ?_)
  unfold wRow_turnOverFrom at hw
  refine x_iload_1 hg dX1_turnOverFrom_0 rfl ?_
  refine x_istore_2 hg dX1_turnOverFrom_1 rfl rfl rfl ?_
  refine x_aload_0 hg dX1_turnOverFrom_2 rfl ?_
  refine get_X1_1 hg hk fl_X1_21 dX1_turnOverFrom_3 rfl ?_
  refine x_ic hg dX1_turnOverFrom_6 ic_1 rfl ?_
  refine x_isub hg dX1_turnOverFrom_7 rfl ?_
  refine x_istore_3 hg dX1_turnOverFrom_8 rfl rfl rfl ?_
  refine x_drop_1 ?_
  obtain ⟨N1, hw⟩ := hw
  refine xRow_turnOverFrom_9 hg hk (fun  s1 hw => ?_) _ _ _ _ hw
  · exact x_vret hg dX1_turnOverFrom_29 hw
def wRow_goToNext_7 (k : Nat) (K34 : Int32 → Sg → Prop) : Nat → Int32 → Sg → Prop
  | 0, _, _ => False
  | n + 1, a1, s0 => ((a1 < 0 → K34 a1 s0) ∧ (¬ a1 < 0 → (vp_in a1 (ln shC (k + 1)) ∧ (vp_in ((a1 + 1)) (ln shC (k + 1)) ∧ (((s0 ((k + 1)) (ix a1)) < (s0 ((k + 1)) (ix ((a1 + 1)))) → K34 a1 s0) ∧ (¬ (s0 ((k + 1)) (ix a1)) < (s0 ((k + 1)) (ix ((a1 + 1)))) → wRow_goToNext_7 k K34 n ((a1 + (-1))) s0))))))
def wRow_goToNext_47 (k : Nat) (f1 : Int32) (K73 : Int32 → Sg → Prop) : Nat → Int32 → Sg → Prop
  | 0, _, _ => False
  | n + 1, a2, s0 => ((a2 ≤ f1 → K73 a2 s0) ∧ (¬ a2 ≤ f1 → (vp_in a2 (ln shC (k + 1)) ∧ (vp_in f1 (ln shC (k + 1)) ∧ (((s0 ((k + 1)) (ix f1)) < (s0 ((k + 1)) (ix a2)) → K73 a2 s0) ∧ (¬ (s0 ((k + 1)) (ix f1)) < (s0 ((k + 1)) (ix a2)) → wRow_goToNext_47 k f1 K73 n ((a2 + (-1))) s0))))))
def wRow_goToNext (k : Nat) (s0 : Sg) (P : Int32 → Sg → Prop) : Prop := (∃ N1 : Nat, wRow_goToNext_7 k (fun (v1 : Int32) (s1 : Sg) => ((0 ≤ v1 → (∃ N2 : Nat, wRow_goToNext_47 k v1 (fun (v2 : Int32) (s2 : Sg) => (wRow_exchange k v1 v2 s2 (fun (s3 : Sg) => (wRow_turnOverFrom k ((v1 + 1)) s3 (fun (s4 : Sg) => P 1 s4))))) N2 (((s1 k 1) - 1)) s1)) ∧ (¬ 0 ≤ v1 → P 0 s1))) N1 (((s0 k 1) - 2)) s0)
set_option maxRecDepth 100000 in
set_option maxHeartbeats 4000000 in
theorem xRow_goToNext_7 {w : Wc} {g : Gx} {Q : State → Prop} {k : Nat} {K34 : Int32 → Sg → Prop} (hg : OK shC w g 4 cX1_goToNext "BagBottom$Row" 3 (some .boolean)) (hk : kd shC k = 2) (hK34 : ∀ (a1 : Int32) (s0 : Sg), K34 a1 s0 → X shC w g Q 34 [some (.ref (ad w k)), some (.int a1), none] [] s0) : ∀ (n : Nat) (a1 : Int32) (s0 : Sg), wRow_goToNext_7 k K34 n a1 s0 → X shC w g Q 7 [some (.ref (ad w k)), some (.int a1), none] [] s0 := by
  intro n
  induction n with
  | zero =>
    intro a1 s0 hw
    exact hw.elim
  | succ n ih =>
    intro a1 s0 hw
    rw [wRow_goToNext_7] at hw
    refine x_iload_1 hg dX1_goToNext_7 rfl ?_
    refine x_if_lt hg dX1_goToNext_8 (tg := 34) (by decide) rfl hw (fun hw => ?_) (fun hw => ?_)
    · exact hK34 _ _ hw
    · refine x_aload_0 hg dX1_goToNext_11 rfl ?_
      refine get_X1_0 hg hk fl_X1_15 dX1_goToNext_12 rfl (k2 := (k + 1)) rfl ?_
      refine x_iload_1 hg dX1_goToNext_15 rfl ?_
      refine x_iald hg (kRow hk) rfl dX1_goToNext_16 rfl hw (fun hw => ?_)
      refine x_aload_0 hg dX1_goToNext_17 rfl ?_
      refine get_X1_0 hg hk fl_X1_15 dX1_goToNext_18 rfl (k2 := (k + 1)) rfl ?_
      refine x_iload_1 hg dX1_goToNext_21 rfl ?_
      refine x_ic hg dX1_goToNext_22 ic_1 rfl ?_
      refine x_iadd hg dX1_goToNext_23 rfl ?_
      refine x_iald hg (kRow hk) rfl dX1_goToNext_24 rfl hw (fun hw => ?_)
      refine x_icmp_lt hg dX1_goToNext_25 (tg := 34) (by decide) rfl hw (fun hw => ?_) (fun hw => ?_)
      · exact hK34 _ _ hw
      · refine x_iinc_1 hg dX1_goToNext_28 ic_m1 rfl rfl rfl ?_
        refine x_goto hg dX1_goToNext_31 (pc' := 7) (by decide) ?_
        exact ih _ _ hw
set_option maxRecDepth 100000 in
set_option maxHeartbeats 4000000 in
theorem xRow_goToNext_47 {w : Wc} {g : Gx} {Q : State → Prop} {k : Nat} {f1 : Int32} {K73 : Int32 → Sg → Prop} (hg : OK shC w g 4 cX1_goToNext "BagBottom$Row" 3 (some .boolean)) (hk : kd shC k = 2) (hK73 : ∀ (a2 : Int32) (s0 : Sg), K73 a2 s0 → X shC w g Q 73 [some (.ref (ad w k)), some (.int f1), some (.int a2)] [] s0) : ∀ (n : Nat) (a2 : Int32) (s0 : Sg), wRow_goToNext_47 k f1 K73 n a2 s0 → X shC w g Q 47 [some (.ref (ad w k)), some (.int f1), some (.int a2)] [] s0 := by
  intro n
  induction n with
  | zero =>
    intro a2 s0 hw
    exact hw.elim
  | succ n ih =>
    intro a2 s0 hw
    rw [wRow_goToNext_47] at hw
    refine x_iload_2 hg dX1_goToNext_47 rfl ?_
    refine x_iload_1 hg dX1_goToNext_48 rfl ?_
    refine x_icmp_le hg dX1_goToNext_49 (tg := 73) (by decide) rfl hw (fun hw => ?_) (fun hw => ?_)
    · exact hK73 _ _ hw
    · refine x_aload_0 hg dX1_goToNext_52 rfl ?_
      refine get_X1_0 hg hk fl_X1_15 dX1_goToNext_53 rfl (k2 := (k + 1)) rfl ?_
      refine x_iload_2 hg dX1_goToNext_56 rfl ?_
      refine x_iald hg (kRow hk) rfl dX1_goToNext_57 rfl hw (fun hw => ?_)
      refine x_aload_0 hg dX1_goToNext_58 rfl ?_
      refine get_X1_0 hg hk fl_X1_15 dX1_goToNext_59 rfl (k2 := (k + 1)) rfl ?_
      refine x_iload_1 hg dX1_goToNext_62 rfl ?_
      refine x_iald hg (kRow hk) rfl dX1_goToNext_63 rfl hw (fun hw => ?_)
      refine x_icmp_gt hg dX1_goToNext_64 (tg := 73) (by decide) rfl hw (fun hw => ?_) (fun hw => ?_)
      · exact hK73 _ _ hw
      · refine x_iinc_2 hg dX1_goToNext_67 ic_m1 rfl rfl rfl ?_
        refine x_goto hg dX1_goToNext_70 (pc' := 47) (by decide) ?_
        exact ih _ _ hw
set_option maxRecDepth 100000 in
set_option maxHeartbeats 4000000 in
theorem xRow_goToNext {w : Wc} (l : Launch) {k : Nat} (hk : kd shC k = 2) {s0 : Sg} {P : Int32 → Sg → Prop} (hw : wRow_goToNext k s0 P) : CI shC w l 4 (.code yX1_goToNext cX1_goToNext 3 (some .boolean)) yX1_goToNext [.ref (ad w k)] s0 P := by
  refine ci_of_z (own := "BagBottom$Row") (ls0 := [some (.ref (ad w k)), none, none]) rfl pn_X1 rfl rfl (fun g el hg => ?_)
  unfold wRow_goToNext at hw
  refine x_aload_0 hg dX1_goToNext_0 rfl ?_
  refine get_X1_1 hg hk fl_X1_21 dX1_goToNext_1 rfl ?_
  refine x_ic hg dX1_goToNext_4 ic_2 rfl ?_
  refine x_isub hg dX1_goToNext_5 rfl ?_
  refine x_istore_1 hg dX1_goToNext_6 rfl rfl rfl ?_
  obtain ⟨N1, hw⟩ := hw
  refine xRow_goToNext_7 hg hk (fun v1 s1 hw => ?_) _ _ _ hw
  · refine x_iload_1 hg dX1_goToNext_34 rfl ?_
    refine x_if_ge hg dX1_goToNext_35 (tg := 40) (by decide) rfl hw (fun hw => ?_) (fun hw => ?_)
    · refine x_aload_0 hg dX1_goToNext_40 rfl ?_
      refine get_X1_1 hg hk fl_X1_21 dX1_goToNext_41 rfl ?_
      refine x_ic hg dX1_goToNext_44 ic_1 rfl ?_
      refine x_isub hg dX1_goToNext_45 rfl ?_
      refine x_istore_2 hg dX1_goToNext_46 rfl rfl rfl ?_
      obtain ⟨N2, hw⟩ := hw
      refine xRow_goToNext_47 hg hk (fun v2 s2 hw => ?_) _ _ _ hw
      · refine x_aload_0 hg dX1_goToNext_73 rfl ?_
        refine x_iload_1 hg dX1_goToNext_74 rfl ?_
        refine x_iload_2 hg dX1_goToNext_75 rfl ?_
        refine x_callVV hg (xRow_exchange (gL g) hk hw) hk (by decide) rfl im_X1_exchange se_X1_exchange mi_X1_exchange ml_X1_35 rfl rfl (As := [.int v1, .int v2]) rfl rfl rfl dX1_goToNext_76 rfl (fun s3 hw => ?_)
        refine x_aload_0 hg dX1_goToNext_79 rfl ?_
        refine x_iload_1 hg dX1_goToNext_80 rfl ?_
        refine x_ic hg dX1_goToNext_81 ic_1 rfl ?_
        refine x_iadd hg dX1_goToNext_82 rfl ?_
        refine x_callVV hg (xRow_turnOverFrom (gL g) hk hw) hk (by decide) rfl im_X1_turnOverFrom se_X1_turnOverFrom mi_X1_turnOverFrom ml_X1_39 rfl rfl (As := [.int (v1 + 1)]) rfl rfl rfl dX1_goToNext_83 rfl (fun s4 hw => ?_)
        refine x_ic hg dX1_goToNext_86 ic_1 rfl ?_
        exact x_zret hg dX1_goToNext_87 (by decide) hw
    · refine x_ic hg dX1_goToNext_38 ic_0 rfl ?_
      exact x_zret hg dX1_goToNext_39 (by decide) hw
def wJInt_bitCount (a0 : Int32) (s0 : Sg) (P : Int32 → Sg → Prop) : Prop := (∀ x1 : Int32, x1 = (a0 - ((a0.toUInt32 >>> ((1 : Int32).toUInt32 &&& Int32.toUInt32 31)).toInt32 &&& 1431655765)) → (∀ x2 : Int32, x2 = ((x1 &&& 858993459) + ((x1.toUInt32 >>> ((2 : Int32).toUInt32 &&& Int32.toUInt32 31)).toInt32 &&& 858993459)) → (∀ x3 : Int32, x3 = ((x2 + (x2.toUInt32 >>> ((4 : Int32).toUInt32 &&& Int32.toUInt32 31)).toInt32) &&& 252645135) → (∀ x4 : Int32, x4 = (x3 + (x3.toUInt32 >>> ((8 : Int32).toUInt32 &&& Int32.toUInt32 31)).toInt32) → (∀ x5 : Int32, x5 = (x4 + (x4.toUInt32 >>> ((16 : Int32).toUInt32 &&& Int32.toUInt32 31)).toInt32) → P ((x5 &&& 63)) s0)))))
set_option maxRecDepth 100000 in
set_option maxHeartbeats 4000000 in
theorem xJInt_bitCount {w : Wc} (l : Launch) {a0 : Int32} {s0 : Sg} {P : Int32 → Sg → Prop} (hw : wJInt_bitCount a0 s0 P) : CI shC w l 1 (.code yJ6_bitCount_0f7a4 cJ6_bitCount_0f7a4 1 (some .int)) yJ6_bitCount_0f7a4 [.int a0] s0 P := by
  refine ci_of_i (own := "java/lang/Integer") (ls0 := [some (.int a0)]) rfl pn_J6 rfl rfl (fun g el hg => ?_)
  unfold wJInt_bitCount at hw
  refine x_iload_0 hg dJ6_bitCount_0f7a4_0 rfl ?_
  refine x_iload_0 hg dJ6_bitCount_0f7a4_1 rfl ?_
  refine x_ic hg dJ6_bitCount_0f7a4_2 ic_1 rfl ?_
  refine x_iushr hg dJ6_bitCount_0f7a4_3 rfl ?_
  refine x_ldcw hg kc_J6_265 dJ6_bitCount_0f7a4_4 rfl ?_
  refine x_iand hg dJ6_bitCount_0f7a4_7 rfl ?_
  refine x_isub hg dJ6_bitCount_0f7a4_8 rfl ?_
  refine x_nm hw (fun x1 hw => ?_)
  refine x_istore_0 hg dJ6_bitCount_0f7a4_9 rfl rfl ?_
  refine x_iload_0 hg dJ6_bitCount_0f7a4_10 rfl ?_
  refine x_ldcw hg kc_J6_266 dJ6_bitCount_0f7a4_11 rfl ?_
  refine x_iand hg dJ6_bitCount_0f7a4_14 rfl ?_
  refine x_iload_0 hg dJ6_bitCount_0f7a4_15 rfl ?_
  refine x_ic hg dJ6_bitCount_0f7a4_16 ic_2 rfl ?_
  refine x_iushr hg dJ6_bitCount_0f7a4_17 rfl ?_
  refine x_ldcw hg kc_J6_266 dJ6_bitCount_0f7a4_18 rfl ?_
  refine x_iand hg dJ6_bitCount_0f7a4_21 rfl ?_
  refine x_iadd hg dJ6_bitCount_0f7a4_22 rfl ?_
  refine x_nm hw (fun x2 hw => ?_)
  refine x_istore_0 hg dJ6_bitCount_0f7a4_23 rfl rfl ?_
  refine x_iload_0 hg dJ6_bitCount_0f7a4_24 rfl ?_
  refine x_iload_0 hg dJ6_bitCount_0f7a4_25 rfl ?_
  refine x_ic hg dJ6_bitCount_0f7a4_26 ic_4 rfl ?_
  refine x_iushr hg dJ6_bitCount_0f7a4_27 rfl ?_
  refine x_iadd hg dJ6_bitCount_0f7a4_28 rfl ?_
  refine x_ldcw hg kc_J6_267 dJ6_bitCount_0f7a4_29 rfl ?_
  refine x_iand hg dJ6_bitCount_0f7a4_32 rfl ?_
  refine x_nm hw (fun x3 hw => ?_)
  refine x_istore_0 hg dJ6_bitCount_0f7a4_33 rfl rfl ?_
  refine x_iload_0 hg dJ6_bitCount_0f7a4_34 rfl ?_
  refine x_iload_0 hg dJ6_bitCount_0f7a4_35 rfl ?_
  refine x_bi hg dJ6_bitCount_0f7a4_36 bp_8 rfl ?_
  refine x_iushr hg dJ6_bitCount_0f7a4_38 rfl ?_
  refine x_iadd hg dJ6_bitCount_0f7a4_39 rfl ?_
  refine x_nm hw (fun x4 hw => ?_)
  refine x_istore_0 hg dJ6_bitCount_0f7a4_40 rfl rfl ?_
  refine x_iload_0 hg dJ6_bitCount_0f7a4_41 rfl ?_
  refine x_iload_0 hg dJ6_bitCount_0f7a4_42 rfl ?_
  refine x_bi hg dJ6_bitCount_0f7a4_43 bp_16 rfl ?_
  refine x_iushr hg dJ6_bitCount_0f7a4_45 rfl ?_
  refine x_iadd hg dJ6_bitCount_0f7a4_46 rfl ?_
  refine x_nm hw (fun x5 hw => ?_)
  refine x_istore_0 hg dJ6_bitCount_0f7a4_47 rfl rfl ?_
  refine x_iload_0 hg dJ6_bitCount_0f7a4_48 rfl ?_
  refine x_bi hg dJ6_bitCount_0f7a4_49 bp_63 rfl ?_
  refine x_iand hg dJ6_bitCount_0f7a4_51 rfl ?_
  exact x_ret hg dJ6_bitCount_0f7a4_52 hw
def wRow_alikeWith_2 (k : Nat) (k1 : Nat) (K39 : Int32 → Sg → Prop) : Nat → Int32 → Sg → Prop
  | 0, _, _ => False
  | n + 1, a2, s0 => (((s0 k 1) ≤ a2 → K39 a2 s0) ∧ (¬ (s0 k 1) ≤ a2 → (((s0 k1 1) ≤ a2 → K39 a2 s0) ∧ (¬ (s0 k1 1) ≤ a2 → (vp_in a2 (ln shC (k + 1)) ∧ (vp_in a2 (ln shC (k1 + 1)) ∧ ((¬ (s0 ((k + 1)) (ix a2)) = (s0 ((k1 + 1)) (ix a2)) → K39 a2 s0) ∧ ((s0 ((k + 1)) (ix a2)) = (s0 ((k1 + 1)) (ix a2)) → wRow_alikeWith_2 k k1 K39 n ((a2 + 1)) s0))))))))
def wRow_alikeWith (k : Nat) (k1 : Nat) (s0 : Sg) (P : Int32 → Sg → Prop) : Prop := (∃ N1 : Nat, wRow_alikeWith_2 k k1 (fun (v1 : Int32) (s1 : Sg) => P v1 s1) N1 0 s0)
set_option maxRecDepth 100000 in
set_option maxHeartbeats 4000000 in
theorem xRow_alikeWith_2 {w : Wc} {g : Gx} {Q : State → Prop} {k : Nat} {k1 : Nat} {K39 : Int32 → Sg → Prop} (hg : OK shC w g 1 cX1_alikeWith "BagBottom$Row" 3 (some .int)) (hk : kd shC k = 2) (hk1 : kd shC k1 = 2) (hK39 : ∀ (a2 : Int32) (s0 : Sg), K39 a2 s0 → X shC w g Q 39 [none, none, some (.int a2)] [] s0) : ∀ (n : Nat) (a2 : Int32) (s0 : Sg), wRow_alikeWith_2 k k1 K39 n a2 s0 → X shC w g Q 2 [some (.ref (ad w k)), some (.ref (ad w k1)), some (.int a2)] [] s0 := by
  intro n
  induction n with
  | zero =>
    intro a2 s0 hw
    exact hw.elim
  | succ n ih =>
    intro a2 s0 hw
    rw [wRow_alikeWith_2] at hw
    refine x_iload_2 hg dX1_alikeWith_2 rfl ?_
    refine x_aload_0 hg dX1_alikeWith_3 rfl ?_
    refine get_X1_1 hg hk fl_X1_21 dX1_alikeWith_4 rfl ?_
    refine x_icmp_ge hg dX1_alikeWith_7 (tg := 39) (by decide) rfl hw (fun hw => ?_) (fun hw => ?_)
    · refine x_drop_0 ?_
      refine x_drop_1 ?_
      exact hK39 _ _ hw
    · refine x_iload_2 hg dX1_alikeWith_10 rfl ?_
      refine x_aload_1 hg dX1_alikeWith_11 rfl ?_
      refine get_X1_1 hg hk1 fl_X1_21 dX1_alikeWith_12 rfl ?_
      refine x_icmp_ge hg dX1_alikeWith_15 (tg := 39) (by decide) rfl hw (fun hw => ?_) (fun hw => ?_)
      · refine x_drop_0 ?_
        refine x_drop_1 ?_
        exact hK39 _ _ hw
      · refine x_aload_0 hg dX1_alikeWith_18 rfl ?_
        refine get_X1_0 hg hk fl_X1_15 dX1_alikeWith_19 rfl (k2 := (k + 1)) rfl ?_
        refine x_iload_2 hg dX1_alikeWith_22 rfl ?_
        refine x_iald hg (kRow hk) rfl dX1_alikeWith_23 rfl hw (fun hw => ?_)
        refine x_aload_1 hg dX1_alikeWith_24 rfl ?_
        refine get_X1_0 hg hk1 fl_X1_15 dX1_alikeWith_25 rfl (k2 := (k1 + 1)) rfl ?_
        refine x_iload_2 hg dX1_alikeWith_28 rfl ?_
        refine x_iald hg (kRow hk1) rfl dX1_alikeWith_29 rfl hw (fun hw => ?_)
        refine x_icmp_ne hg dX1_alikeWith_30 (tg := 39) (by decide) rfl hw (fun hw => ?_) (fun hw => ?_)
        · refine x_drop_0 ?_
          refine x_drop_1 ?_
          exact hK39 _ _ hw
        · refine x_iinc_2 hg dX1_alikeWith_33 ic_1 rfl rfl rfl ?_
          refine x_goto hg dX1_alikeWith_36 (pc' := 2) (by decide) ?_
          exact ih _ _ hw
set_option maxRecDepth 100000 in
set_option maxHeartbeats 4000000 in
theorem xRow_alikeWith {w : Wc} (l : Launch) {k : Nat} {k1 : Nat} (hk : kd shC k = 2) (hk1 : kd shC k1 = 2) {s0 : Sg} {P : Int32 → Sg → Prop} (hw : wRow_alikeWith k k1 s0 P) : CI shC w l 1 (.code yX1_alikeWith cX1_alikeWith 3 (some .int)) yX1_alikeWith [.ref (ad w k), .ref (ad w k1)] s0 P := by
  refine ci_of_i (own := "BagBottom$Row") (ls0 := [some (.ref (ad w k)), some (.ref (ad w k1)), none]) rfl pn_X1 rfl rfl (fun g el hg => ?_)
  unfold wRow_alikeWith at hw
  refine x_ic hg dX1_alikeWith_0 ic_0 rfl ?_
  refine x_istore_2 hg dX1_alikeWith_1 rfl rfl rfl ?_
  obtain ⟨N1, hw⟩ := hw
  refine xRow_alikeWith_2 hg hk hk1 (fun v1 s1 hw => ?_) _ _ _ hw
  · refine x_iload_2 hg dX1_alikeWith_39 rfl ?_
    exact x_ret hg dX1_alikeWith_40 hw
def wRow_hasRun (k : Nat) (a1 : Int32) (a2 : Int32) (s0 : Sg) (P : Int32 → Sg → Prop) : Prop := ((a1 < 0 → P 0 s0) ∧ (¬ a1 < 0 → ((a2 < 0 → P 0 s0) ∧ (¬ a2 < 0 → (((s0 k 1) < a1 → P 0 s0) ∧ (¬ (s0 k 1) < a1 → ((((s0 k 1) - a1) < a2 → P 0 s0) ∧ (¬ ((s0 k 1) - a1) < a2 → P 1 s0))))))))
set_option maxRecDepth 100000 in
set_option maxHeartbeats 4000000 in
theorem xRow_hasRun {w : Wc} (l : Launch) {k : Nat} {a1 : Int32} {a2 : Int32} (hk : kd shC k = 2) {s0 : Sg} {P : Int32 → Sg → Prop} (hw : wRow_hasRun k a1 a2 s0 P) : CI shC w l 1 (.code yX1_hasRun cX1_hasRun 3 (some .boolean)) yX1_hasRun [.ref (ad w k), .int a1, .int a2] s0 P := by
  refine ci_of_z (own := "BagBottom$Row") (ls0 := [some (.ref (ad w k)), some (.int a1), some (.int a2)]) rfl pn_X1 rfl rfl (fun g el hg => ?_)
  unfold wRow_hasRun at hw
  refine x_iload_1 hg dX1_hasRun_0 rfl ?_
  refine x_if_lt hg dX1_hasRun_1 (tg := 30) (by decide) rfl hw (fun hw => ?_) (fun hw => ?_)
  · refine x_ic hg dX1_hasRun_30 ic_0 rfl ?_
    exact x_zret hg dX1_hasRun_31 (by decide) hw
  · refine x_iload_2 hg dX1_hasRun_4 rfl ?_
    refine x_if_lt hg dX1_hasRun_5 (tg := 30) (by decide) rfl hw (fun hw => ?_) (fun hw => ?_)
    · refine x_ic hg dX1_hasRun_30 ic_0 rfl ?_
      exact x_zret hg dX1_hasRun_31 (by decide) hw
    · refine x_iload_1 hg dX1_hasRun_8 rfl ?_
      refine x_aload_0 hg dX1_hasRun_9 rfl ?_
      refine get_X1_1 hg hk fl_X1_21 dX1_hasRun_10 rfl ?_
      refine x_icmp_gt hg dX1_hasRun_13 (tg := 30) (by decide) rfl hw (fun hw => ?_) (fun hw => ?_)
      · refine x_ic hg dX1_hasRun_30 ic_0 rfl ?_
        exact x_zret hg dX1_hasRun_31 (by decide) hw
      · refine x_iload_2 hg dX1_hasRun_16 rfl ?_
        refine x_aload_0 hg dX1_hasRun_17 rfl ?_
        refine get_X1_1 hg hk fl_X1_21 dX1_hasRun_18 rfl ?_
        refine x_iload_1 hg dX1_hasRun_21 rfl ?_
        refine x_isub hg dX1_hasRun_22 rfl ?_
        refine x_icmp_gt hg dX1_hasRun_23 (tg := 30) (by decide) rfl hw (fun hw => ?_) (fun hw => ?_)
        · refine x_ic hg dX1_hasRun_30 ic_0 rfl ?_
          exact x_zret hg dX1_hasRun_31 (by decide) hw
        · refine x_ic hg dX1_hasRun_26 ic_1 rfl ?_
          refine x_goto hg dX1_hasRun_27 (pc' := 31) (by decide) ?_
          exact x_zret hg dX1_hasRun_31 (by decide) hw
def wThing_copy (k : Nat) (k1 : Nat) (s0 : Sg) (P : Sg → Prop) : Prop := (∀ s1 : Sg, s1 = u2 s0 k 0 ((s0 k1 0)) → (∀ s2 : Sg, s2 = u2 s1 k 1 ((s1 k1 1)) → (∀ s3 : Sg, s3 = u2 s2 k 2 ((s2 k1 2)) → (∀ s4 : Sg, s4 = u2 s3 k 3 ((s3 k1 3)) → P s4))))
set_option maxRecDepth 100000 in
set_option maxHeartbeats 4000000 in
theorem xThing_copy {w : Wc} (l : Launch) {k : Nat} {k1 : Nat} (hk : kd shC k = 5) (hk1 : kd shC k1 = 5) {s0 : Sg} {P : Sg → Prop} (hw : wThing_copy k k1 s0 P) : CV shC w l 1 (.code yX4_copy cX4_copy 2 none) yX4_copy [.ref (ad w k), .ref (ad w k1)] s0 P := by
  refine ci_of_v (own := "BagBottom$Thing") (ls0 := [some (.ref (ad w k)), some (.ref (ad w k1))]) rfl pn_X4 rfl rfl (fun g el hg => ?_)
  unfold wThing_copy at hw
  refine x_aload_0 hg dX4_copy_0 rfl ?_
  refine x_aload_1 hg dX4_copy_1 rfl ?_
  refine get_X4_0 hg hk1 fl_X4_9 dX4_copy_2 rfl ?_
  refine put_X4_0 hg hk fl_X4_9 dX4_copy_5 rfl hw (fun s1 hw => ?_)
  refine x_aload_0 hg dX4_copy_8 rfl ?_
  refine x_aload_1 hg dX4_copy_9 rfl ?_
  refine get_X4_1 hg hk1 fl_X4_18 dX4_copy_10 rfl ?_
  refine put_X4_1 hg hk fl_X4_18 dX4_copy_13 rfl hw (fun s2 hw => ?_)
  refine x_aload_0 hg dX4_copy_16 rfl ?_
  refine x_aload_1 hg dX4_copy_17 rfl ?_
  refine get_X4_2 hg hk1 fl_X4_15 dX4_copy_18 rfl ?_
  refine put_X4_2 hg hk fl_X4_15 dX4_copy_21 rfl hw (fun s3 hw => ?_)
  refine x_aload_0 hg dX4_copy_24 rfl ?_
  refine x_aload_1 hg dX4_copy_25 rfl ?_
  refine get_X4_3 hg hk1 fl_X4_21 dX4_copy_26 rfl ?_
  refine put_X4_3 hg hk fl_X4_21 dX4_copy_29 rfl hw (fun s4 hw => ?_)
  exact x_vret hg dX4_copy_32 hw
