def wB_failed (a1 : Int32) (s0 : Sg) (P : Int32 → Sg → Prop) : Prop := ((((-1000000000) - a1) < 1 → P a1 s0) ∧ (¬ ((-1000000000) - a1) < 1 → ((6 < ((-1000000000) - a1) → P a1 s0) ∧ (¬ 6 < ((-1000000000) - a1) → (vp_in (((-1000000000) - a1)) 7 ∧ (vp_in (((-1000000000) - a1)) 7 ∧ ∀ s1 : Sg, s1 = u2 s0 76 (ix (((-1000000000) - a1))) (((s0 76 (ix (((-1000000000) - a1)))) + 1)) → P a1 s1))))))
set_option maxRecDepth 100000 in
set_option maxHeartbeats 4000000 in
theorem xB_failed {w : Wc} (l : Launch) {a1 : Int32} {s0 : Sg} {P : Int32 → Sg → Prop} (hw : wB_failed a1 s0 P) : CI shC w l 1 (.code yX7_failed cX7_failed 3 (some .int)) yX7_failed [.ref (ad w 0), .int a1] s0 P := by
  refine ci_of_i (own := "BagBottom") (ls0 := [some (.ref (ad w 0)), some (.int a1), none]) rfl pn_X7 rfl rfl (fun g el hg => ?_)
  unfold wB_failed at hw
  refine x_ldcw hg kc_X7_289 dX7_failed_0 rfl ?_
  refine x_iload_1 hg dX7_failed_3 rfl ?_
  refine x_isub hg dX7_failed_4 rfl ?_
  refine x_istore_2 hg dX7_failed_5 rfl rfl rfl ?_
  refine x_iload_2 hg dX7_failed_6 rfl ?_
  refine x_ic hg dX7_failed_7 ic_1 rfl ?_
  refine x_icmp_lt hg dX7_failed_8 (tg := 27) (by decide) rfl hw (fun hw => ?_) (fun hw => ?_)
  · refine x_iload_1 hg dX7_failed_27 rfl ?_
    exact x_ret hg dX7_failed_28 hw
  · refine x_iload_2 hg dX7_failed_11 rfl ?_
    refine x_bi hg dX7_failed_12 bp_6 rfl ?_
    refine x_icmp_gt hg dX7_failed_14 (tg := 27) (by decide) rfl hw (fun hw => ?_) (fun hw => ?_)
    · refine x_iload_1 hg dX7_failed_27 rfl ?_
      exact x_ret hg dX7_failed_28 hw
    · refine x_aload_0 hg dX7_failed_17 rfl ?_
      refine get_X7_6 hg kC_0 fl_X7_39 dX7_failed_18 rfl (k2 := 76) rfl ?_
      refine x_iload_2 hg dX7_failed_21 rfl ?_
      refine x_dup2 hg dX7_failed_22 rfl rfl rfl ?_
      refine x_iald hg kC_76 rfl dX7_failed_23 rfl hw (fun hw => ?_)
      refine x_ic hg dX7_failed_24 ic_1 rfl ?_
      refine x_iadd hg dX7_failed_25 rfl ?_
      refine x_iast hg kC_76 rfl dX7_failed_26 rfl hw (fun s1 hw => ?_)
      refine x_iload_1 hg dX7_failed_27 rfl ?_
      exact x_ret hg dX7_failed_28 hw
def wB_isKindAndM (a0 : Int32) (s0 : Sg) (P : Int32 → Sg → Prop) : Prop := ((a0 < 0 → P 0 s0) ∧ (¬ a0 < 0 → ((70 ≤ a0 → P 0 s0) ∧ (¬ 70 ≤ a0 → P 1 s0))))
set_option maxRecDepth 100000 in
set_option maxHeartbeats 4000000 in
theorem xB_isKindAndM {w : Wc} (l : Launch) {a0 : Int32} {s0 : Sg} {P : Int32 → Sg → Prop} (hw : wB_isKindAndM a0 s0 P) : CI shC w l 1 (.code yX7_isKindAndM cX7_isKindAndM 1 (some .boolean)) yX7_isKindAndM [.int a0] s0 P := by
  refine ci_of_z (own := "BagBottom") (ls0 := [some (.int a0)]) rfl pn_X7 rfl rfl (fun g el hg => ?_)
  unfold wB_isKindAndM at hw
  refine x_iload_0 hg dX7_isKindAndM_0 rfl ?_
  refine x_if_lt hg dX7_isKindAndM_1 (tg := 14) (by decide) rfl hw (fun hw => ?_) (fun hw => ?_)
  · refine x_ic hg dX7_isKindAndM_14 ic_0 rfl ?_
    exact x_zret hg dX7_isKindAndM_15 (by decide) hw
  · refine x_iload_0 hg dX7_isKindAndM_4 rfl ?_
    refine x_bi hg dX7_isKindAndM_5 bp_70 rfl ?_
    refine x_icmp_ge hg dX7_isKindAndM_7 (tg := 14) (by decide) rfl hw (fun hw => ?_) (fun hw => ?_)
    · refine x_ic hg dX7_isKindAndM_14 ic_0 rfl ?_
      exact x_zret hg dX7_isKindAndM_15 (by decide) hw
    · refine x_ic hg dX7_isKindAndM_10 ic_1 rfl ?_
      refine x_goto hg dX7_isKindAndM_11 (pc' := 15) (by decide) ?_
      exact x_zret hg dX7_isKindAndM_15 (by decide) hw
def wB_thing (a1 : Int32) (a2 : Int32) (a3 : Int32) (s0 : Sg) (P : Int32 → Sg → Prop) : Prop := (wB_isKindAndM a1 s0 (fun (r1 : Int32) (s1 : Sg) => ((r1 = 0 → (wB_failed ((-1000000001)) s1 (fun (r2 : Int32) (s2 : Sg) => P r2 s2))) ∧ (¬ r1 = 0 → (wB_isWeight a2 s1 (fun (r2 : Int32) (s2 : Sg) => ((r2 = 0 → (wB_failed ((-1000000001)) s2 (fun (r3 : Int32) (s3 : Sg) => P r3 s3))) ∧ (¬ r2 = 0 → ((a3 < 1 → (wB_failed ((-1000000001)) s2 (fun (r3 : Int32) (s3 : Sg) => P r3 s3))) ∧ (¬ a3 < 1 → ((a3 ≤ 9 → (((s2 1 1) < 9 → (wBag_addThing a1 a2 a3 s2 (fun (r3 : Int32) (s3 : Sg) => P r3 s3))) ∧ (¬ (s2 1 1) < 9 → (wB_failed ((-1000000004)) s2 (fun (r3 : Int32) (s3 : Sg) => P r3 s3))))) ∧ (¬ a3 ≤ 9 → (wB_failed ((-1000000001)) s2 (fun (r3 : Int32) (s3 : Sg) => P r3 s3))))))))))))))
set_option maxRecDepth 100000 in
set_option maxHeartbeats 4000000 in
theorem xB_thing {w : Wc} (l : Launch) {a1 : Int32} {a2 : Int32} {a3 : Int32} {s0 : Sg} {P : Int32 → Sg → Prop} (hw : wB_thing a1 a2 a3 s0 P) : CI shC w l 3 (.code yX7_thing cX7_thing 4 (some .int)) yX7_thing [.ref (ad w 0), .int a1, .int a2, .int a3] s0 P := by
  refine ci_of_i (own := "BagBottom") (ls0 := [some (.ref (ad w 0)), some (.int a1), some (.int a2), some (.int a3)]) rfl pn_X7 rfl rfl (fun g el hg => ?_)
  unfold wB_thing at hw
  refine x_iload_1 hg dX7_thing_0 rfl ?_
  refine x_callSI hg (xB_isKindAndM (gL g)  hw) sm_X7_isKindAndM mi_X7_isKindAndM ml_X7_44 rfl rfl (As := [.int a1]) rfl rfl rfl dX7_thing_1 rfl (fun r1 s1 hw => ?_)
  refine x_if_eq hg dX7_thing_4 (tg := 25) (by decide) rfl hw (fun hw => ?_) (fun hw => ?_)
  · refine x_aload_0 hg dX7_thing_25 rfl ?_
    refine x_ldc hg kc_X7_51 dX7_thing_26 rfl ?_
    refine x_callVI hg (xB_failed (gL g)  hw) kC_0 (by decide) rfl im_X7_failed se_X7_failed mi_X7_failed ml_X7_52 rfl rfl (As := [.int (-1000000001)]) rfl rfl rfl dX7_thing_28 rfl (fun r2 s2 hw => ?_)
    exact x_ret hg dX7_thing_31 hw
  · refine x_iload_2 hg dX7_thing_7 rfl ?_
    refine x_callSI hg (xB_isWeight (gL g)  hw) sm_X7_isWeight mi_X7_isWeight ml_X7_48 rfl rfl (As := [.int a2]) rfl rfl rfl dX7_thing_8 rfl (fun r2 s2 hw => ?_)
    refine x_if_eq hg dX7_thing_11 (tg := 25) (by decide) rfl hw (fun hw => ?_) (fun hw => ?_)
    · refine x_aload_0 hg dX7_thing_25 rfl ?_
      refine x_ldc hg kc_X7_51 dX7_thing_26 rfl ?_
      refine x_callVI hg (xB_failed (gL g)  hw) kC_0 (by decide) rfl im_X7_failed se_X7_failed mi_X7_failed ml_X7_52 rfl rfl (As := [.int (-1000000001)]) rfl rfl rfl dX7_thing_28 rfl (fun r3 s3 hw => ?_)
      exact x_ret hg dX7_thing_31 hw
    · refine x_iload_3 hg dX7_thing_14 rfl ?_
      refine x_ic hg dX7_thing_15 ic_1 rfl ?_
      refine x_icmp_lt hg dX7_thing_16 (tg := 25) (by decide) rfl hw (fun hw => ?_) (fun hw => ?_)
      · refine x_aload_0 hg dX7_thing_25 rfl ?_
        refine x_ldc hg kc_X7_51 dX7_thing_26 rfl ?_
        refine x_callVI hg (xB_failed (gL g)  hw) kC_0 (by decide) rfl im_X7_failed se_X7_failed mi_X7_failed ml_X7_52 rfl rfl (As := [.int (-1000000001)]) rfl rfl rfl dX7_thing_28 rfl (fun r3 s3 hw => ?_)
        exact x_ret hg dX7_thing_31 hw
      · refine x_iload_3 hg dX7_thing_19 rfl ?_
        refine x_bi hg dX7_thing_20 bp_9 rfl ?_
        refine x_icmp_le hg dX7_thing_22 (tg := 32) (by decide) rfl hw (fun hw => ?_) (fun hw => ?_)
        · refine x_aload_0 hg dX7_thing_32 rfl ?_
          refine get_X7_0 hg kC_0 fl_X7_12 dX7_thing_33 rfl (k2 := 1) rfl ?_
          refine get_X0_1 hg kC_1 fl_X7_56 dX7_thing_36 rfl ?_
          refine x_bi hg dX7_thing_39 bp_9 rfl ?_
          refine x_icmp_lt hg dX7_thing_41 (tg := 51) (by decide) rfl hw (fun hw => ?_) (fun hw => ?_)
          · refine x_aload_0 hg dX7_thing_51 rfl ?_
            refine get_X7_0 hg kC_0 fl_X7_12 dX7_thing_52 rfl (k2 := 1) rfl ?_
            refine x_iload_1 hg dX7_thing_55 rfl ?_
            refine x_iload_2 hg dX7_thing_56 rfl ?_
            refine x_iload_3 hg dX7_thing_57 rfl ?_
            refine x_callVI hg (xBag_addThing (gL g)  hw) kC_1 (by decide) rfl im_X0_addThing se_X0_addThing mi_X0_addThing ml_X7_61 rfl rfl (As := [.int a1, .int a2, .int a3]) rfl rfl rfl dX7_thing_58 rfl (fun r3 s3 hw => ?_)
            exact x_ret hg dX7_thing_61 hw
          · refine x_aload_0 hg dX7_thing_44 rfl ?_
            refine x_ldc hg kc_X7_60 dX7_thing_45 rfl ?_
            refine x_callVI hg (xB_failed (gL g)  hw) kC_0 (by decide) rfl im_X7_failed se_X7_failed mi_X7_failed ml_X7_52 rfl rfl (As := [.int (-1000000004)]) rfl rfl rfl dX7_thing_47 rfl (fun r3 s3 hw => ?_)
            exact x_ret hg dX7_thing_50 hw
        · refine x_aload_0 hg dX7_thing_25 rfl ?_
          refine x_ldc hg kc_X7_51 dX7_thing_26 rfl ?_
          refine x_callVI hg (xB_failed (gL g)  hw) kC_0 (by decide) rfl im_X7_failed se_X7_failed mi_X7_failed ml_X7_52 rfl rfl (As := [.int (-1000000001)]) rfl rfl rfl dX7_thing_28 rfl (fun r3 s3 hw => ?_)
          exact x_ret hg dX7_thing_31 hw
def wB_thingIs (a1 : Int32) (a2 : Int32) (s0 : Sg) (P : Int32 → Sg → Prop) : Prop := (wBag_knows a1 s0 (fun (r1 : Int32) (s1 : Sg) => ((¬ r1 = 0 → (vp_in a1 9 ∧ ((a2 = 0 → P ((s1 ((11 + 1 * ix a1)) 0)) s1) ∧ (¬ a2 = 0 → ((a2 = 1 → P ((s1 ((11 + 1 * ix a1)) 1)) s1) ∧ (¬ a2 = 1 → ((a2 = 2 → P ((s1 ((11 + 1 * ix a1)) 2)) s1) ∧ (¬ a2 = 2 → ((a2 = 3 → P ((s1 ((11 + 1 * ix a1)) 3)) s1) ∧ (¬ a2 = 3 → ((a2 = 4 → (wBag_whereIs a1 s1 (fun (r2 : Int32) (s2 : Sg) => P r2 s2))) ∧ (¬ a2 = 4 → ((a2 = 5 → (wThing_sinks ((11 + 1 * ix a1)) ((s1 1 4)) s1 (fun (r2 : Int32) (s2 : Sg) => P r2 s2))) ∧ (¬ a2 = 5 → ((a2 = 6 → (wThing_feels ((11 + 1 * ix a1)) s1 (fun (r2 : Int32) (s2 : Sg) => P r2 s2))) ∧ (¬ a2 = 6 → (wB_failed ((-1000000001)) s1 (fun (r2 : Int32) (s2 : Sg) => P r2 s2)))))))))))))))))) ∧ (r1 = 0 → (wB_failed ((-1000000001)) s1 (fun (r2 : Int32) (s2 : Sg) => P r2 s2))))))
set_option maxRecDepth 100000 in
set_option maxHeartbeats 4000000 in
theorem xB_thingIs {w : Wc} (l : Launch) {a1 : Int32} {a2 : Int32} {s0 : Sg} {P : Int32 → Sg → Prop} (hw : wB_thingIs a1 a2 s0 P) : CI shC w l 3 (.code yX7_thingIs cX7_thingIs 4 (some .int)) yX7_thingIs [.ref (ad w 0), .int a1, .int a2] s0 P := by
  refine ci_of_i (own := "BagBottom") (ls0 := [some (.ref (ad w 0)), some (.int a1), some (.int a2), none]) rfl pn_X7 rfl rfl (fun g el hg => ?_)
  unfold wB_thingIs at hw
  refine x_aload_0 hg dX7_thingIs_0 rfl ?_
  refine get_X7_0 hg kC_0 fl_X7_12 dX7_thingIs_1 rfl (k2 := 1) rfl ?_
  refine x_iload_1 hg dX7_thingIs_4 rfl ?_
  refine x_callVI hg (xBag_knows (gL g)  hw) kC_1 (by decide) rfl im_X0_knows se_X0_knows mi_X0_knows ml_X7_65 rfl rfl (As := [.int a1]) rfl rfl rfl dX7_thingIs_5 rfl (fun r1 s1 hw => ?_)
  refine x_if_ne hg dX7_thingIs_8 (tg := 18) (by decide) rfl hw (fun hw => ?_) (fun hw => ?_)
  · refine x_aload_0 hg dX7_thingIs_18 rfl ?_
    refine get_X7_0 hg kC_0 fl_X7_12 dX7_thingIs_19 rfl (k2 := 1) rfl ?_
    refine get_X0_0 hg kC_1 fl_X7_68 dX7_thingIs_22 rfl (k2 := 2) rfl ?_
    refine x_iload_1 hg dX7_thingIs_25 rfl ?_
    refine x_aald hg (t := 1) kC_2 (by decide) rfl rfl rfl rfl dX7_thingIs_26 rfl hw (fun hin1 hw => ?_)
    refine x_astore_3 hg dX7_thingIs_27 rfl rfl rfl ?_
    refine x_iload_2 hg dX7_thingIs_28 rfl ?_
    refine x_br hw (fun h0 hw => ?_) (fun h0 hw => ?_)
    · refine x_tab hg dX7_thingIs_29 (ps := [(0, 43), (1, 48), (2, 53), (3, 58), (4, 63), (5, 72), (6, 84)]) rfl (tg := 72) (by rw [h0]; decide) ?_
      refine x_aload_3 hg dX7_thingIs_72 rfl ?_
      refine get_X4_0 hg (kEl_11 hin1) fl_X7_72 dX7_thingIs_73 rfl ?_
      exact x_ret hg dX7_thingIs_76 hw
    · skip
      refine x_br hw (fun h1 hw => ?_) (fun h1 hw => ?_)
      · refine x_tab hg dX7_thingIs_29 (ps := [(0, 43), (1, 48), (2, 53), (3, 58), (4, 63), (5, 72), (6, 84)]) rfl (tg := 77) (by rw [h1]; decide) ?_
        refine x_aload_3 hg dX7_thingIs_77 rfl ?_
        refine get_X4_1 hg (kEl_11 hin1) fl_X7_77 dX7_thingIs_78 rfl ?_
        exact x_ret hg dX7_thingIs_81 hw
      · skip
        refine x_br hw (fun h2 hw => ?_) (fun h2 hw => ?_)
        · refine x_tab hg dX7_thingIs_29 (ps := [(0, 43), (1, 48), (2, 53), (3, 58), (4, 63), (5, 72), (6, 84)]) rfl (tg := 82) (by rw [h2]; decide) ?_
          refine x_aload_3 hg dX7_thingIs_82 rfl ?_
          refine get_X4_2 hg (kEl_11 hin1) fl_X7_80 dX7_thingIs_83 rfl ?_
          exact x_ret hg dX7_thingIs_86 hw
        · skip
          refine x_br hw (fun h3 hw => ?_) (fun h3 hw => ?_)
          · refine x_tab hg dX7_thingIs_29 (ps := [(0, 43), (1, 48), (2, 53), (3, 58), (4, 63), (5, 72), (6, 84)]) rfl (tg := 87) (by rw [h3]; decide) ?_
            refine x_aload_3 hg dX7_thingIs_87 rfl ?_
            refine get_X4_3 hg (kEl_11 hin1) fl_X7_83 dX7_thingIs_88 rfl ?_
            exact x_ret hg dX7_thingIs_91 hw
          · skip
            refine x_br hw (fun h4 hw => ?_) (fun h4 hw => ?_)
            · refine x_tab hg dX7_thingIs_29 (ps := [(0, 43), (1, 48), (2, 53), (3, 58), (4, 63), (5, 72), (6, 84)]) rfl (tg := 92) (by rw [h4]; decide) ?_
              refine x_aload_0 hg dX7_thingIs_92 rfl ?_
              refine get_X7_0 hg kC_0 fl_X7_12 dX7_thingIs_93 rfl (k2 := 1) rfl ?_
              refine x_iload_1 hg dX7_thingIs_96 rfl ?_
              refine x_callVI hg (xBag_whereIs (gL g)  hw) kC_1 (by decide) rfl im_X0_whereIs se_X0_whereIs mi_X0_whereIs ml_X7_86 rfl rfl (As := [.int a1]) rfl rfl rfl dX7_thingIs_97 rfl (fun r2 s2 hw => ?_)
              exact x_ret hg dX7_thingIs_100 hw
            · skip
              refine x_br hw (fun h5 hw => ?_) (fun h5 hw => ?_)
              · refine x_tab hg dX7_thingIs_29 (ps := [(0, 43), (1, 48), (2, 53), (3, 58), (4, 63), (5, 72), (6, 84)]) rfl (tg := 101) (by rw [h5]; decide) ?_
                refine x_aload_3 hg dX7_thingIs_101 rfl ?_
                refine x_aload_0 hg dX7_thingIs_102 rfl ?_
                refine get_X7_0 hg kC_0 fl_X7_12 dX7_thingIs_103 rfl (k2 := 1) rfl ?_
                refine get_X0_4 hg kC_1 fl_X7_89 dX7_thingIs_106 rfl ?_
                refine x_callVI hg (xThing_sinks (gL g) (kEl_11 hin1) hw) (kEl_11 hin1) (by decide) rfl im_X4_sinks se_X4_sinks mi_X4_sinks ml_X7_92 rfl rfl (As := [.int (s1 1 4)]) rfl rfl rfl dX7_thingIs_109 rfl (fun r2 s2 hw => ?_)
                exact x_ret hg dX7_thingIs_112 hw
              · skip
                refine x_br hw (fun h6 hw => ?_) (fun h6 hw => ?_)
                · refine x_tab hg dX7_thingIs_29 (ps := [(0, 43), (1, 48), (2, 53), (3, 58), (4, 63), (5, 72), (6, 84)]) rfl (tg := 113) (by rw [h6]; decide) ?_
                  refine x_aload_3 hg dX7_thingIs_113 rfl ?_
                  refine x_callVI hg (xThing_feels (gL g) (kEl_11 hin1) hw) (kEl_11 hin1) (by decide) rfl im_X4_feels se_X4_feels mi_X4_feels ml_X7_95 rfl rfl (As := []) rfl rfl rfl dX7_thingIs_114 rfl (fun r2 s2 hw => ?_)
                  exact x_ret hg dX7_thingIs_117 hw
                · skip
                  refine x_tab hg dX7_thingIs_29 (ps := [(0, 43), (1, 48), (2, 53), (3, 58), (4, 63), (5, 72), (6, 84)]) rfl (tg := 118) (by simp only [lk, if_neg h0, if_neg h1, if_neg h2, if_neg h3, if_neg h4, if_neg h5, if_neg h6, ite_self]; decide) ?_
                  refine x_aload_0 hg dX7_thingIs_118 rfl ?_
                  refine x_ldc hg kc_X7_51 dX7_thingIs_119 rfl ?_
                  refine x_callVI hg (xB_failed (gL g)  hw) kC_0 (by decide) rfl im_X7_failed se_X7_failed mi_X7_failed ml_X7_52 rfl rfl (As := [.int (-1000000001)]) rfl rfl rfl dX7_thingIs_121 rfl (fun r2 s2 hw => ?_)
                  exact x_ret hg dX7_thingIs_124 hw
  · refine x_aload_0 hg dX7_thingIs_11 rfl ?_
    refine x_ldc hg kc_X7_51 dX7_thingIs_12 rfl ?_
    refine x_callVI hg (xB_failed (gL g)  hw) kC_0 (by decide) rfl im_X7_failed se_X7_failed mi_X7_failed ml_X7_52 rfl rfl (As := [.int (-1000000001)]) rfl rfl rfl dX7_thingIs_14 rfl (fun r2 s2 hw => ?_)
    exact x_ret hg dX7_thingIs_17 hw
def wB_become (a1 : Int32) (a2 : Int32) (s0 : Sg) (P : Int32 → Sg → Prop) : Prop := (wBag_knows a1 s0 (fun (r1 : Int32) (s1 : Sg) => ((r1 = 0 → (wB_failed ((-1000000001)) s1 (fun (r2 : Int32) (s2 : Sg) => P r2 s2))) ∧ (¬ r1 = 0 → (wB_isKindAndM a2 s1 (fun (r2 : Int32) (s2 : Sg) => ((¬ r2 = 0 → (vp_in a1 9 ∧ (∀ s3 : Sg, s3 = u2 s2 ((11 + 1 * ix a1)) 0 ((a2 / 10)) → (∀ s4 : Sg, s4 = u2 s3 ((11 + 1 * ix a1)) 1 ((a2 - a2 / 10 * 10)) → P ((s2 ((11 + 1 * ix a1)) 0)) s4)))) ∧ (r2 = 0 → (wB_failed ((-1000000001)) s2 (fun (r3 : Int32) (s3 : Sg) => P r3 s3))))))))))
set_option maxRecDepth 100000 in
set_option maxHeartbeats 4000000 in
theorem xB_become {w : Wc} (l : Launch) {a1 : Int32} {a2 : Int32} {s0 : Sg} {P : Int32 → Sg → Prop} (hw : wB_become a1 a2 s0 P) : CI shC w l 2 (.code yX7_become cX7_become 5 (some .int)) yX7_become [.ref (ad w 0), .int a1, .int a2] s0 P := by
  refine ci_of_i (own := "BagBottom") (ls0 := [some (.ref (ad w 0)), some (.int a1), some (.int a2), none, none]) rfl pn_X7 rfl rfl (fun g el hg => ?_)
  unfold wB_become at hw
  refine x_aload_0 hg dX7_become_0 rfl ?_
  refine get_X7_0 hg kC_0 fl_X7_12 dX7_become_1 rfl (k2 := 1) rfl ?_
  refine x_iload_1 hg dX7_become_4 rfl ?_
  refine x_callVI hg (xBag_knows (gL g)  hw) kC_1 (by decide) rfl im_X0_knows se_X0_knows mi_X0_knows ml_X7_65 rfl rfl (As := [.int a1]) rfl rfl rfl dX7_become_5 rfl (fun r1 s1 hw => ?_)
  refine x_if_eq hg dX7_become_8 (tg := 18) (by decide) rfl hw (fun hw => ?_) (fun hw => ?_)
  · refine x_aload_0 hg dX7_become_18 rfl ?_
    refine x_ldc hg kc_X7_51 dX7_become_19 rfl ?_
    refine x_callVI hg (xB_failed (gL g)  hw) kC_0 (by decide) rfl im_X7_failed se_X7_failed mi_X7_failed ml_X7_52 rfl rfl (As := [.int (-1000000001)]) rfl rfl rfl dX7_become_21 rfl (fun r2 s2 hw => ?_)
    exact x_ret hg dX7_become_24 hw
  · refine x_iload_2 hg dX7_become_11 rfl ?_
    refine x_callSI hg (xB_isKindAndM (gL g)  hw) sm_X7_isKindAndM mi_X7_isKindAndM ml_X7_44 rfl rfl (As := [.int a2]) rfl rfl rfl dX7_become_12 rfl (fun r2 s2 hw => ?_)
    refine x_if_ne hg dX7_become_15 (tg := 25) (by decide) rfl hw (fun hw => ?_) (fun hw => ?_)
    · refine x_aload_0 hg dX7_become_25 rfl ?_
      refine get_X7_0 hg kC_0 fl_X7_12 dX7_become_26 rfl (k2 := 1) rfl ?_
      refine get_X0_0 hg kC_1 fl_X7_68 dX7_become_29 rfl (k2 := 2) rfl ?_
      refine x_iload_1 hg dX7_become_32 rfl ?_
      refine x_aald hg (t := 1) kC_2 (by decide) rfl rfl rfl rfl dX7_become_33 rfl hw (fun hin1 hw => ?_)
      refine x_astore_3 hg dX7_become_34 rfl rfl rfl ?_
      refine x_aload_3 hg dX7_become_35 rfl ?_
      refine get_X4_0 hg (kEl_11 hin1) fl_X7_72 dX7_become_36 rfl ?_
      refine x_istore_4 hg dX7_become_39 rfl rfl rfl ?_
      refine x_aload_3 hg dX7_become_41 rfl ?_
      refine x_iload_2 hg dX7_become_42 rfl ?_
      refine x_bi hg dX7_become_43 bp_10 rfl ?_
      refine x_idiv hg dX7_become_45 ne_10 rfl ?_
      refine put_X4_0 hg (kEl_11 hin1) fl_X7_72 dX7_become_46 rfl hw (fun s3 hw => ?_)
      refine x_aload_3 hg dX7_become_49 rfl ?_
      refine x_iload_2 hg dX7_become_50 rfl ?_
      refine x_bi hg dX7_become_51 bp_10 rfl ?_
      refine x_irem hg dX7_become_53 ne_10 rfl ?_
      refine put_X4_1 hg (kEl_11 hin1) fl_X7_77 dX7_become_54 rfl hw (fun s4 hw => ?_)
      refine x_iload_4 hg dX7_become_57 rfl ?_
      exact x_ret hg dX7_become_59 hw
    · refine x_aload_0 hg dX7_become_18 rfl ?_
      refine x_ldc hg kc_X7_51 dX7_become_19 rfl ?_
      refine x_callVI hg (xB_failed (gL g)  hw) kC_0 (by decide) rfl im_X7_failed se_X7_failed mi_X7_failed ml_X7_52 rfl rfl (As := [.int (-1000000001)]) rfl rfl rfl dX7_become_21 rfl (fun r3 s3 hw => ?_)
      exact x_ret hg dX7_become_24 hw
def wB_as (a1 : Int32) (a2 : Int32) (s0 : Sg) (P : Int32 → Sg → Prop) : Prop := (wBag_knows a1 s0 (fun (r1 : Int32) (s1 : Sg) => ((r1 = 0 → (wB_failed ((-1000000001)) s1 (fun (r2 : Int32) (s2 : Sg) => P r2 s2))) ∧ (¬ r1 = 0 → ((a2 < 0 → (wB_failed ((-1000000001)) s1 (fun (r2 : Int32) (s2 : Sg) => P r2 s2))) ∧ (¬ a2 < 0 → ((a2 < 7 → (vp_in a1 9 ∧ (wThing_isOf ((11 + 1 * ix a1)) a2 s1 (fun (r2 : Int32) (s2 : Sg) => ((¬ r2 = 0 → (vp_in a1 9 ∧ P ((s2 ((11 + 1 * ix a1)) 1)) s2)) ∧ (r2 = 0 → (wB_failed ((-1000000005)) s2 (fun (r3 : Int32) (s3 : Sg) => P r3 s3)))))))) ∧ (¬ a2 < 7 → (wB_failed ((-1000000001)) s1 (fun (r2 : Int32) (s2 : Sg) => P r2 s2))))))))))
set_option maxRecDepth 100000 in
set_option maxHeartbeats 4000000 in
theorem xB_as {w : Wc} (l : Launch) {a1 : Int32} {a2 : Int32} {s0 : Sg} {P : Int32 → Sg → Prop} (hw : wB_as a1 a2 s0 P) : CI shC w l 2 (.code yX7_as cX7_as 3 (some .int)) yX7_as [.ref (ad w 0), .int a1, .int a2] s0 P := by
  refine ci_of_i (own := "BagBottom") (ls0 := [some (.ref (ad w 0)), some (.int a1), some (.int a2)]) rfl pn_X7 rfl rfl (fun g el hg => ?_)
  unfold wB_as at hw
  refine x_aload_0 hg dX7_as_0 rfl ?_
  refine get_X7_0 hg kC_0 fl_X7_12 dX7_as_1 rfl (k2 := 1) rfl ?_
  refine x_iload_1 hg dX7_as_4 rfl ?_
  refine x_callVI hg (xBag_knows (gL g)  hw) kC_1 (by decide) rfl im_X0_knows se_X0_knows mi_X0_knows ml_X7_65 rfl rfl (As := [.int a1]) rfl rfl rfl dX7_as_5 rfl (fun r1 s1 hw => ?_)
  refine x_if_eq hg dX7_as_8 (tg := 21) (by decide) rfl hw (fun hw => ?_) (fun hw => ?_)
  · refine x_aload_0 hg dX7_as_21 rfl ?_
    refine x_ldc hg kc_X7_51 dX7_as_22 rfl ?_
    refine x_callVI hg (xB_failed (gL g)  hw) kC_0 (by decide) rfl im_X7_failed se_X7_failed mi_X7_failed ml_X7_52 rfl rfl (As := [.int (-1000000001)]) rfl rfl rfl dX7_as_24 rfl (fun r2 s2 hw => ?_)
    exact x_ret hg dX7_as_27 hw
  · refine x_iload_2 hg dX7_as_11 rfl ?_
    refine x_if_lt hg dX7_as_12 (tg := 21) (by decide) rfl hw (fun hw => ?_) (fun hw => ?_)
    · refine x_aload_0 hg dX7_as_21 rfl ?_
      refine x_ldc hg kc_X7_51 dX7_as_22 rfl ?_
      refine x_callVI hg (xB_failed (gL g)  hw) kC_0 (by decide) rfl im_X7_failed se_X7_failed mi_X7_failed ml_X7_52 rfl rfl (As := [.int (-1000000001)]) rfl rfl rfl dX7_as_24 rfl (fun r2 s2 hw => ?_)
      exact x_ret hg dX7_as_27 hw
    · refine x_iload_2 hg dX7_as_15 rfl ?_
      refine x_bi hg dX7_as_16 bp_7 rfl ?_
      refine x_icmp_lt hg dX7_as_18 (tg := 28) (by decide) rfl hw (fun hw => ?_) (fun hw => ?_)
      · refine x_aload_0 hg dX7_as_28 rfl ?_
        refine get_X7_0 hg kC_0 fl_X7_12 dX7_as_29 rfl (k2 := 1) rfl ?_
        refine get_X0_0 hg kC_1 fl_X7_68 dX7_as_32 rfl (k2 := 2) rfl ?_
        refine x_iload_1 hg dX7_as_35 rfl ?_
        refine x_aald hg (t := 1) kC_2 (by decide) rfl rfl rfl rfl dX7_as_36 rfl hw (fun hin1 hw => ?_)
        refine x_iload_2 hg dX7_as_37 rfl ?_
        refine x_callVI hg (xThing_isOf (gL g) (kEl_11 hin1) hw) (kEl_11 hin1) (by decide) rfl im_X4_isOf se_X4_isOf mi_X4_isOf ml_X7_99 rfl rfl (As := [.int a2]) rfl rfl rfl dX7_as_38 rfl (fun r2 s2 hw => ?_)
        refine x_if_ne hg dX7_as_41 (tg := 51) (by decide) rfl hw (fun hw => ?_) (fun hw => ?_)
        · refine x_aload_0 hg dX7_as_51 rfl ?_
          refine get_X7_0 hg kC_0 fl_X7_12 dX7_as_52 rfl (k2 := 1) rfl ?_
          refine get_X0_0 hg kC_1 fl_X7_68 dX7_as_55 rfl (k2 := 2) rfl ?_
          refine x_iload_1 hg dX7_as_58 rfl ?_
          refine x_aald hg (t := 1) kC_2 (by decide) rfl rfl rfl rfl dX7_as_59 rfl hw (fun hin2 hw => ?_)
          refine get_X4_1 hg (kEl_11 hin2) fl_X7_77 dX7_as_60 rfl ?_
          exact x_ret hg dX7_as_63 hw
        · refine x_aload_0 hg dX7_as_44 rfl ?_
          refine x_ldc hg kc_X7_102 dX7_as_45 rfl ?_
          refine x_callVI hg (xB_failed (gL g)  hw) kC_0 (by decide) rfl im_X7_failed se_X7_failed mi_X7_failed ml_X7_52 rfl rfl (As := [.int (-1000000005)]) rfl rfl rfl dX7_as_47 rfl (fun r3 s3 hw => ?_)
          exact x_ret hg dX7_as_50 hw
      · refine x_aload_0 hg dX7_as_21 rfl ?_
        refine x_ldc hg kc_X7_51 dX7_as_22 rfl ?_
        refine x_callVI hg (xB_failed (gL g)  hw) kC_0 (by decide) rfl im_X7_failed se_X7_failed mi_X7_failed ml_X7_52 rfl rfl (As := [.int (-1000000001)]) rfl rfl rfl dX7_as_24 rfl (fun r2 s2 hw => ?_)
        exact x_ret hg dX7_as_27 hw
def wB_weigh (a1 : Int32) (a2 : Int32) (s0 : Sg) (P : Int32 → Sg → Prop) : Prop := (wBag_knows a1 s0 (fun (r1 : Int32) (s1 : Sg) => ((r1 = 0 → (wB_failed ((-1000000001)) s1 (fun (r2 : Int32) (s2 : Sg) => P r2 s2))) ∧ (¬ r1 = 0 → (wB_isWeight a2 s1 (fun (r2 : Int32) (s2 : Sg) => ((¬ r2 = 0 → (vp_in a1 9 ∧ (vp_in a1 9 ∧ (∀ s3 : Sg, s3 = u2 s2 ((11 + 1 * ix a1)) 2 a2 → P ((s2 ((11 + 1 * ix a1)) 2)) s3)))) ∧ (r2 = 0 → (wB_failed ((-1000000001)) s2 (fun (r3 : Int32) (s3 : Sg) => P r3 s3))))))))))
set_option maxRecDepth 100000 in
set_option maxHeartbeats 4000000 in
theorem xB_weigh {w : Wc} (l : Launch) {a1 : Int32} {a2 : Int32} {s0 : Sg} {P : Int32 → Sg → Prop} (hw : wB_weigh a1 a2 s0 P) : CI shC w l 2 (.code yX7_weigh cX7_weigh 4 (some .int)) yX7_weigh [.ref (ad w 0), .int a1, .int a2] s0 P := by
  refine ci_of_i (own := "BagBottom") (ls0 := [some (.ref (ad w 0)), some (.int a1), some (.int a2), none]) rfl pn_X7 rfl rfl (fun g el hg => ?_)
  unfold wB_weigh at hw
  refine x_aload_0 hg dX7_weigh_0 rfl ?_
  refine get_X7_0 hg kC_0 fl_X7_12 dX7_weigh_1 rfl (k2 := 1) rfl ?_
  refine x_iload_1 hg dX7_weigh_4 rfl ?_
  refine x_callVI hg (xBag_knows (gL g)  hw) kC_1 (by decide) rfl im_X0_knows se_X0_knows mi_X0_knows ml_X7_65 rfl rfl (As := [.int a1]) rfl rfl rfl dX7_weigh_5 rfl (fun r1 s1 hw => ?_)
  refine x_if_eq hg dX7_weigh_8 (tg := 18) (by decide) rfl hw (fun hw => ?_) (fun hw => ?_)
  · refine x_aload_0 hg dX7_weigh_18 rfl ?_
    refine x_ldc hg kc_X7_51 dX7_weigh_19 rfl ?_
    refine x_callVI hg (xB_failed (gL g)  hw) kC_0 (by decide) rfl im_X7_failed se_X7_failed mi_X7_failed ml_X7_52 rfl rfl (As := [.int (-1000000001)]) rfl rfl rfl dX7_weigh_21 rfl (fun r2 s2 hw => ?_)
    exact x_ret hg dX7_weigh_24 hw
  · refine x_iload_2 hg dX7_weigh_11 rfl ?_
    refine x_callSI hg (xB_isWeight (gL g)  hw) sm_X7_isWeight mi_X7_isWeight ml_X7_48 rfl rfl (As := [.int a2]) rfl rfl rfl dX7_weigh_12 rfl (fun r2 s2 hw => ?_)
    refine x_if_ne hg dX7_weigh_15 (tg := 25) (by decide) rfl hw (fun hw => ?_) (fun hw => ?_)
    · refine x_aload_0 hg dX7_weigh_25 rfl ?_
      refine get_X7_0 hg kC_0 fl_X7_12 dX7_weigh_26 rfl (k2 := 1) rfl ?_
      refine get_X0_0 hg kC_1 fl_X7_68 dX7_weigh_29 rfl (k2 := 2) rfl ?_
      refine x_iload_1 hg dX7_weigh_32 rfl ?_
      refine x_aald hg (t := 1) kC_2 (by decide) rfl rfl rfl rfl dX7_weigh_33 rfl hw (fun hin1 hw => ?_)
      refine get_X4_2 hg (kEl_11 hin1) fl_X7_80 dX7_weigh_34 rfl ?_
      refine x_istore_3 hg dX7_weigh_37 rfl rfl rfl ?_
      refine x_aload_0 hg dX7_weigh_38 rfl ?_
      refine get_X7_0 hg kC_0 fl_X7_12 dX7_weigh_39 rfl (k2 := 1) rfl ?_
      refine get_X0_0 hg kC_1 fl_X7_68 dX7_weigh_42 rfl (k2 := 2) rfl ?_
      refine x_iload_1 hg dX7_weigh_45 rfl ?_
      refine x_aald hg (t := 1) kC_2 (by decide) rfl rfl rfl rfl dX7_weigh_46 rfl hw (fun hin2 hw => ?_)
      refine x_iload_2 hg dX7_weigh_47 rfl ?_
      refine put_X4_2 hg (kEl_11 hin2) fl_X7_80 dX7_weigh_48 rfl hw (fun s3 hw => ?_)
      refine x_iload_3 hg dX7_weigh_51 rfl ?_
      exact x_ret hg dX7_weigh_52 hw
    · refine x_aload_0 hg dX7_weigh_18 rfl ?_
      refine x_ldc hg kc_X7_51 dX7_weigh_19 rfl ?_
      refine x_callVI hg (xB_failed (gL g)  hw) kC_0 (by decide) rfl im_X7_failed se_X7_failed mi_X7_failed ml_X7_52 rfl rfl (As := [.int (-1000000001)]) rfl rfl rfl dX7_weigh_21 rfl (fun r3 s3 hw => ?_)
      exact x_ret hg dX7_weigh_24 hw
def wB_at (a1 : Int32) (s0 : Sg) (P : Int32 → Sg → Prop) : Prop := (wRow_has 3 a1 s0 (fun (r1 : Int32) (s1 : Sg) => ((¬ r1 = 0 → (vp_in a1 9 ∧ P ((s1 4 (ix a1))) s1)) ∧ (r1 = 0 → (wB_failed ((-1000000001)) s1 (fun (r2 : Int32) (s2 : Sg) => P r2 s2))))))
set_option maxRecDepth 100000 in
set_option maxHeartbeats 4000000 in
theorem xB_at {w : Wc} (l : Launch) {a1 : Int32} {s0 : Sg} {P : Int32 → Sg → Prop} (hw : wB_at a1 s0 P) : CI shC w l 2 (.code yX7_at cX7_at 2 (some .int)) yX7_at [.ref (ad w 0), .int a1] s0 P := by
  refine ci_of_i (own := "BagBottom") (ls0 := [some (.ref (ad w 0)), some (.int a1)]) rfl pn_X7 rfl rfl (fun g el hg => ?_)
  unfold wB_at at hw
  refine x_aload_0 hg dX7_at_0 rfl ?_
  refine get_X7_0 hg kC_0 fl_X7_12 dX7_at_1 rfl (k2 := 1) rfl ?_
  refine get_X0_2 hg kC_1 fl_X7_103 dX7_at_4 rfl (k2 := 3) rfl ?_
  refine x_iload_1 hg dX7_at_7 rfl ?_
  refine x_callVI hg (xRow_has (gL g) kC_3 hw) kC_3 (by decide) rfl im_X1_has se_X1_has mi_X1_has ml_X7_107 rfl rfl (As := [.int a1]) rfl rfl rfl dX7_at_8 rfl (fun r1 s1 hw => ?_)
  refine x_if_ne hg dX7_at_11 (tg := 21) (by decide) rfl hw (fun hw => ?_) (fun hw => ?_)
  · refine x_aload_0 hg dX7_at_21 rfl ?_
    refine get_X7_0 hg kC_0 fl_X7_12 dX7_at_22 rfl (k2 := 1) rfl ?_
    refine get_X0_2 hg kC_1 fl_X7_103 dX7_at_25 rfl (k2 := 3) rfl ?_
    refine get_X1_0 hg kC_3 fl_X7_112 dX7_at_28 rfl (k2 := 4) rfl ?_
    refine x_iload_1 hg dX7_at_31 rfl ?_
    refine x_iald hg kC_4 rfl dX7_at_32 rfl hw (fun hw => ?_)
    exact x_ret hg dX7_at_33 hw
  · refine x_aload_0 hg dX7_at_14 rfl ?_
    refine x_ldc hg kc_X7_51 dX7_at_15 rfl ?_
    refine x_callVI hg (xB_failed (gL g)  hw) kC_0 (by decide) rfl im_X7_failed se_X7_failed mi_X7_failed ml_X7_52 rfl rfl (As := [.int (-1000000001)]) rfl rfl rfl dX7_at_17 rfl (fun r2 s2 hw => ?_)
    exact x_ret hg dX7_at_20 hw
def wB_leave (a1 : Int32) (s0 : Sg) (P : Int32 → Sg → Prop) : Prop := (wBag_knows a1 s0 (fun (r1 : Int32) (s1 : Sg) => ((¬ r1 = 0 → (wBag_whereIs a1 s1 (fun (r2 : Int32) (s2 : Sg) => ((¬ r2 = (-2) → (wBag_bringOut a1 s2 (fun (s3 : Sg) => P ((s3 3 1)) s3))) ∧ (r2 = (-2) → (wB_failed ((-1000000003)) s2 (fun (r3 : Int32) (s3 : Sg) => P r3 s3))))))) ∧ (r1 = 0 → (wB_failed ((-1000000001)) s1 (fun (r2 : Int32) (s2 : Sg) => P r2 s2))))))
set_option maxRecDepth 100000 in
set_option maxHeartbeats 4000000 in
theorem xB_leave {w : Wc} (l : Launch) {a1 : Int32} {s0 : Sg} {P : Int32 → Sg → Prop} (hw : wB_leave a1 s0 P) : CI shC w l 4 (.code yX7_leave cX7_leave 2 (some .int)) yX7_leave [.ref (ad w 0), .int a1] s0 P := by
  refine ci_of_i (own := "BagBottom") (ls0 := [some (.ref (ad w 0)), some (.int a1)]) rfl pn_X7 rfl rfl (fun g el hg => ?_)
  unfold wB_leave at hw
  refine x_aload_0 hg dX7_leave_0 rfl ?_
  refine get_X7_0 hg kC_0 fl_X7_12 dX7_leave_1 rfl (k2 := 1) rfl ?_
  refine x_iload_1 hg dX7_leave_4 rfl ?_
  refine x_callVI hg (xBag_knows (gL g)  hw) kC_1 (by decide) rfl im_X0_knows se_X0_knows mi_X0_knows ml_X7_65 rfl rfl (As := [.int a1]) rfl rfl rfl dX7_leave_5 rfl (fun r1 s1 hw => ?_)
  refine x_if_ne hg dX7_leave_8 (tg := 18) (by decide) rfl hw (fun hw => ?_) (fun hw => ?_)
  · refine x_aload_0 hg dX7_leave_18 rfl ?_
    refine get_X7_0 hg kC_0 fl_X7_12 dX7_leave_19 rfl (k2 := 1) rfl ?_
    refine x_iload_1 hg dX7_leave_22 rfl ?_
    refine x_callVI hg (xBag_whereIs (gL g)  hw) kC_1 (by decide) rfl im_X0_whereIs se_X0_whereIs mi_X0_whereIs ml_X7_86 rfl rfl (As := [.int a1]) rfl rfl rfl dX7_leave_23 rfl (fun r2 s2 hw => ?_)
    refine x_bi hg dX7_leave_26 bp_m2 rfl ?_
    refine x_icmp_ne hg dX7_leave_28 (tg := 38) (by decide) rfl hw (fun hw => ?_) (fun hw => ?_)
    · refine x_aload_0 hg dX7_leave_38 rfl ?_
      refine get_X7_0 hg kC_0 fl_X7_12 dX7_leave_39 rfl (k2 := 1) rfl ?_
      refine x_iload_1 hg dX7_leave_42 rfl ?_
      refine x_callVV hg (xBag_bringOut (gL g)  hw) kC_1 (by decide) rfl im_X0_bringOut se_X0_bringOut mi_X0_bringOut ml_X7_116 rfl rfl (As := [.int a1]) rfl rfl rfl dX7_leave_43 rfl (fun s3 hw => ?_)
      refine x_aload_0 hg dX7_leave_46 rfl ?_
      refine get_X7_0 hg kC_0 fl_X7_12 dX7_leave_47 rfl (k2 := 1) rfl ?_
      refine get_X0_2 hg kC_1 fl_X7_103 dX7_leave_50 rfl (k2 := 3) rfl ?_
      refine get_X1_1 hg kC_3 fl_X7_120 dX7_leave_53 rfl ?_
      exact x_ret hg dX7_leave_56 hw
    · refine x_aload_0 hg dX7_leave_31 rfl ?_
      refine x_ldc hg kc_X7_115 dX7_leave_32 rfl ?_
      refine x_callVI hg (xB_failed (gL g)  hw) kC_0 (by decide) rfl im_X7_failed se_X7_failed mi_X7_failed ml_X7_52 rfl rfl (As := [.int (-1000000003)]) rfl rfl rfl dX7_leave_34 rfl (fun r3 s3 hw => ?_)
      exact x_ret hg dX7_leave_37 hw
  · refine x_aload_0 hg dX7_leave_11 rfl ?_
    refine x_ldc hg kc_X7_51 dX7_leave_12 rfl ?_
    refine x_callVI hg (xB_failed (gL g)  hw) kC_0 (by decide) rfl im_X7_failed se_X7_failed mi_X7_failed ml_X7_52 rfl rfl (As := [.int (-1000000001)]) rfl rfl rfl dX7_leave_14 rfl (fun r2 s2 hw => ?_)
    exact x_ret hg dX7_leave_17 hw
def wB_stow (a1 : Int32) (s0 : Sg) (P : Int32 → Sg → Prop) : Prop := (wBag_knows a1 s0 (fun (r1 : Int32) (s1 : Sg) => ((¬ r1 = 0 → (wBag_whereIs a1 s1 (fun (r2 : Int32) (s2 : Sg) => ((r2 = (-2) → (wRow_addOnTop 3 a1 s2 (fun (s3 : Sg) => P ((s3 3 1)) s3))) ∧ (¬ r2 = (-2) → (wB_failed ((-1000000003)) s2 (fun (r3 : Int32) (s3 : Sg) => P r3 s3))))))) ∧ (r1 = 0 → (wB_failed ((-1000000001)) s1 (fun (r2 : Int32) (s2 : Sg) => P r2 s2))))))
set_option maxRecDepth 100000 in
set_option maxHeartbeats 4000000 in
theorem xB_stow {w : Wc} (l : Launch) {a1 : Int32} {s0 : Sg} {P : Int32 → Sg → Prop} (hw : wB_stow a1 s0 P) : CI shC w l 3 (.code yX7_stow cX7_stow 2 (some .int)) yX7_stow [.ref (ad w 0), .int a1] s0 P := by
  refine ci_of_i (own := "BagBottom") (ls0 := [some (.ref (ad w 0)), some (.int a1)]) rfl pn_X7 rfl rfl (fun g el hg => ?_)
  unfold wB_stow at hw
  refine x_aload_0 hg dX7_stow_0 rfl ?_
  refine get_X7_0 hg kC_0 fl_X7_12 dX7_stow_1 rfl (k2 := 1) rfl ?_
  refine x_iload_1 hg dX7_stow_4 rfl ?_
  refine x_callVI hg (xBag_knows (gL g)  hw) kC_1 (by decide) rfl im_X0_knows se_X0_knows mi_X0_knows ml_X7_65 rfl rfl (As := [.int a1]) rfl rfl rfl dX7_stow_5 rfl (fun r1 s1 hw => ?_)
  refine x_if_ne hg dX7_stow_8 (tg := 18) (by decide) rfl hw (fun hw => ?_) (fun hw => ?_)
  · refine x_aload_0 hg dX7_stow_18 rfl ?_
    refine get_X7_0 hg kC_0 fl_X7_12 dX7_stow_19 rfl (k2 := 1) rfl ?_
    refine x_iload_1 hg dX7_stow_22 rfl ?_
    refine x_callVI hg (xBag_whereIs (gL g)  hw) kC_1 (by decide) rfl im_X0_whereIs se_X0_whereIs mi_X0_whereIs ml_X7_86 rfl rfl (As := [.int a1]) rfl rfl rfl dX7_stow_23 rfl (fun r2 s2 hw => ?_)
    refine x_bi hg dX7_stow_26 bp_m2 rfl ?_
    refine x_icmp_eq hg dX7_stow_28 (tg := 38) (by decide) rfl hw (fun hw => ?_) (fun hw => ?_)
    · refine x_aload_0 hg dX7_stow_38 rfl ?_
      refine get_X7_0 hg kC_0 fl_X7_12 dX7_stow_39 rfl (k2 := 1) rfl ?_
      refine get_X0_2 hg kC_1 fl_X7_103 dX7_stow_42 rfl (k2 := 3) rfl ?_
      refine x_iload_1 hg dX7_stow_45 rfl ?_
      refine x_callVV hg (xRow_addOnTop (gL g) kC_3 hw) kC_3 (by decide) rfl im_X1_addOnTop se_X1_addOnTop mi_X1_addOnTop ml_X7_123 rfl rfl (As := [.int a1]) rfl rfl rfl dX7_stow_46 rfl (fun s3 hw => ?_)
      refine x_aload_0 hg dX7_stow_49 rfl ?_
      refine get_X7_0 hg kC_0 fl_X7_12 dX7_stow_50 rfl (k2 := 1) rfl ?_
      refine get_X0_2 hg kC_1 fl_X7_103 dX7_stow_53 rfl (k2 := 3) rfl ?_
      refine get_X1_1 hg kC_3 fl_X7_120 dX7_stow_56 rfl ?_
      exact x_ret hg dX7_stow_59 hw
    · refine x_aload_0 hg dX7_stow_31 rfl ?_
      refine x_ldc hg kc_X7_115 dX7_stow_32 rfl ?_
      refine x_callVI hg (xB_failed (gL g)  hw) kC_0 (by decide) rfl im_X7_failed se_X7_failed mi_X7_failed ml_X7_52 rfl rfl (As := [.int (-1000000003)]) rfl rfl rfl dX7_stow_34 rfl (fun r3 s3 hw => ?_)
      exact x_ret hg dX7_stow_37 hw
  · refine x_aload_0 hg dX7_stow_11 rfl ?_
    refine x_ldc hg kc_X7_51 dX7_stow_12 rfl ?_
    refine x_callVI hg (xB_failed (gL g)  hw) kC_0 (by decide) rfl im_X7_failed se_X7_failed mi_X7_failed ml_X7_52 rfl rfl (As := [.int (-1000000001)]) rfl rfl rfl dX7_stow_14 rfl (fun r2 s2 hw => ?_)
    exact x_ret hg dX7_stow_17 hw
def wB_zip (a1 : Int32) (s0 : Sg) (P : Int32 → Sg → Prop) : Prop := ((a1 = (-1) → ((a1 = (-1) → (wBag_changePocket a1 s0 (fun (r1 : Int32) (s1 : Sg) => P r1 s1))) ∧ (¬ a1 = (-1) → (wBag_whereIs a1 s0 (fun (r1 : Int32) (s1 : Sg) => ((0 ≤ r1 → (wBag_changePocket a1 s1 (fun (r2 : Int32) (s2 : Sg) => P r2 s2))) ∧ (¬ 0 ≤ r1 → (wB_failed ((-1000000003)) s1 (fun (r2 : Int32) (s2 : Sg) => P r2 s2))))))))) ∧ (¬ a1 = (-1) → (wBag_knows a1 s0 (fun (r1 : Int32) (s1 : Sg) => ((¬ r1 = 0 → ((a1 = (-1) → (wBag_changePocket a1 s1 (fun (r2 : Int32) (s2 : Sg) => P r2 s2))) ∧ (¬ a1 = (-1) → (wBag_whereIs a1 s1 (fun (r2 : Int32) (s2 : Sg) => ((0 ≤ r2 → (wBag_changePocket a1 s2 (fun (r3 : Int32) (s3 : Sg) => P r3 s3))) ∧ (¬ 0 ≤ r2 → (wB_failed ((-1000000003)) s2 (fun (r3 : Int32) (s3 : Sg) => P r3 s3))))))))) ∧ (r1 = 0 → (wB_failed ((-1000000001)) s1 (fun (r2 : Int32) (s2 : Sg) => P r2 s2))))))))
set_option maxRecDepth 100000 in
set_option maxHeartbeats 4000000 in
theorem xB_zip {w : Wc} (l : Launch) {a1 : Int32} {s0 : Sg} {P : Int32 → Sg → Prop} (hw : wB_zip a1 s0 P) : CI shC w l 4 (.code yX7_zip cX7_zip 2 (some .int)) yX7_zip [.ref (ad w 0), .int a1] s0 P := by
  refine ci_of_i (own := "BagBottom") (ls0 := [some (.ref (ad w 0)), some (.int a1)]) rfl pn_X7 rfl rfl (fun g el hg => ?_)
  unfold wB_zip at hw
  refine x_iload_1 hg dX7_zip_0 rfl ?_
  refine x_ic hg dX7_zip_1 ic_m1 rfl ?_
  refine x_icmp_eq hg dX7_zip_2 (tg := 23) (by decide) rfl hw (fun hw => ?_) (fun hw => ?_)
  · refine x_iload_1 hg dX7_zip_23 rfl ?_
    refine x_ic hg dX7_zip_24 ic_m1 rfl ?_
    refine x_icmp_eq hg dX7_zip_25 (tg := 46) (by decide) rfl hw (fun hw => ?_) (fun hw => ?_)
    · refine x_aload_0 hg dX7_zip_46 rfl ?_
      refine get_X7_0 hg kC_0 fl_X7_12 dX7_zip_47 rfl (k2 := 1) rfl ?_
      refine x_iload_1 hg dX7_zip_50 rfl ?_
      refine x_callVI hg (xBag_changePocket (gL g)  hw) kC_1 (by decide) rfl im_X0_changePocket se_X0_changePocket mi_X0_changePocket ml_X7_126 rfl rfl (As := [.int a1]) rfl rfl rfl dX7_zip_51 rfl (fun r1 s1 hw => ?_)
      exact x_ret hg dX7_zip_54 hw
    · refine x_aload_0 hg dX7_zip_28 rfl ?_
      refine get_X7_0 hg kC_0 fl_X7_12 dX7_zip_29 rfl (k2 := 1) rfl ?_
      refine x_iload_1 hg dX7_zip_32 rfl ?_
      refine x_callVI hg (xBag_whereIs (gL g)  hw) kC_1 (by decide) rfl im_X0_whereIs se_X0_whereIs mi_X0_whereIs ml_X7_86 rfl rfl (As := [.int a1]) rfl rfl rfl dX7_zip_33 rfl (fun r1 s1 hw => ?_)
      refine x_if_ge hg dX7_zip_36 (tg := 46) (by decide) rfl hw (fun hw => ?_) (fun hw => ?_)
      · refine x_aload_0 hg dX7_zip_46 rfl ?_
        refine get_X7_0 hg kC_0 fl_X7_12 dX7_zip_47 rfl (k2 := 1) rfl ?_
        refine x_iload_1 hg dX7_zip_50 rfl ?_
        refine x_callVI hg (xBag_changePocket (gL g)  hw) kC_1 (by decide) rfl im_X0_changePocket se_X0_changePocket mi_X0_changePocket ml_X7_126 rfl rfl (As := [.int a1]) rfl rfl rfl dX7_zip_51 rfl (fun r2 s2 hw => ?_)
        exact x_ret hg dX7_zip_54 hw
      · refine x_aload_0 hg dX7_zip_39 rfl ?_
        refine x_ldc hg kc_X7_115 dX7_zip_40 rfl ?_
        refine x_callVI hg (xB_failed (gL g)  hw) kC_0 (by decide) rfl im_X7_failed se_X7_failed mi_X7_failed ml_X7_52 rfl rfl (As := [.int (-1000000003)]) rfl rfl rfl dX7_zip_42 rfl (fun r2 s2 hw => ?_)
        exact x_ret hg dX7_zip_45 hw
  · refine x_aload_0 hg dX7_zip_5 rfl ?_
    refine get_X7_0 hg kC_0 fl_X7_12 dX7_zip_6 rfl (k2 := 1) rfl ?_
    refine x_iload_1 hg dX7_zip_9 rfl ?_
    refine x_callVI hg (xBag_knows (gL g)  hw) kC_1 (by decide) rfl im_X0_knows se_X0_knows mi_X0_knows ml_X7_65 rfl rfl (As := [.int a1]) rfl rfl rfl dX7_zip_10 rfl (fun r1 s1 hw => ?_)
    refine x_if_ne hg dX7_zip_13 (tg := 23) (by decide) rfl hw (fun hw => ?_) (fun hw => ?_)
    · refine x_iload_1 hg dX7_zip_23 rfl ?_
      refine x_ic hg dX7_zip_24 ic_m1 rfl ?_
      refine x_icmp_eq hg dX7_zip_25 (tg := 46) (by decide) rfl hw (fun hw => ?_) (fun hw => ?_)
      · refine x_aload_0 hg dX7_zip_46 rfl ?_
        refine get_X7_0 hg kC_0 fl_X7_12 dX7_zip_47 rfl (k2 := 1) rfl ?_
        refine x_iload_1 hg dX7_zip_50 rfl ?_
        refine x_callVI hg (xBag_changePocket (gL g)  hw) kC_1 (by decide) rfl im_X0_changePocket se_X0_changePocket mi_X0_changePocket ml_X7_126 rfl rfl (As := [.int a1]) rfl rfl rfl dX7_zip_51 rfl (fun r2 s2 hw => ?_)
        exact x_ret hg dX7_zip_54 hw
      · refine x_aload_0 hg dX7_zip_28 rfl ?_
        refine get_X7_0 hg kC_0 fl_X7_12 dX7_zip_29 rfl (k2 := 1) rfl ?_
        refine x_iload_1 hg dX7_zip_32 rfl ?_
        refine x_callVI hg (xBag_whereIs (gL g)  hw) kC_1 (by decide) rfl im_X0_whereIs se_X0_whereIs mi_X0_whereIs ml_X7_86 rfl rfl (As := [.int a1]) rfl rfl rfl dX7_zip_33 rfl (fun r2 s2 hw => ?_)
        refine x_if_ge hg dX7_zip_36 (tg := 46) (by decide) rfl hw (fun hw => ?_) (fun hw => ?_)
        · refine x_aload_0 hg dX7_zip_46 rfl ?_
          refine get_X7_0 hg kC_0 fl_X7_12 dX7_zip_47 rfl (k2 := 1) rfl ?_
          refine x_iload_1 hg dX7_zip_50 rfl ?_
          refine x_callVI hg (xBag_changePocket (gL g)  hw) kC_1 (by decide) rfl im_X0_changePocket se_X0_changePocket mi_X0_changePocket ml_X7_126 rfl rfl (As := [.int a1]) rfl rfl rfl dX7_zip_51 rfl (fun r3 s3 hw => ?_)
          exact x_ret hg dX7_zip_54 hw
        · refine x_aload_0 hg dX7_zip_39 rfl ?_
          refine x_ldc hg kc_X7_115 dX7_zip_40 rfl ?_
          refine x_callVI hg (xB_failed (gL g)  hw) kC_0 (by decide) rfl im_X7_failed se_X7_failed mi_X7_failed ml_X7_52 rfl rfl (As := [.int (-1000000003)]) rfl rfl rfl dX7_zip_42 rfl (fun r3 s3 hw => ?_)
          exact x_ret hg dX7_zip_45 hw
    · refine x_aload_0 hg dX7_zip_16 rfl ?_
      refine x_ldc hg kc_X7_51 dX7_zip_17 rfl ?_
      refine x_callVI hg (xB_failed (gL g)  hw) kC_0 (by decide) rfl im_X7_failed se_X7_failed mi_X7_failed ml_X7_52 rfl rfl (As := [.int (-1000000001)]) rfl rfl rfl dX7_zip_19 rfl (fun r2 s2 hw => ?_)
      exact x_ret hg dX7_zip_22 hw
def wB_feed_45 (f1 : Int64) (f3 : Int32) (K79 : Sg → Prop) : Nat → Int32 → Sg → Prop
  | 0, _, _ => False
  | n + 1, a4, s0 => ((f3 ≤ a4 → K79  s0) ∧ (¬ f3 ≤ a4 → (wRow_add 5 ((Int64.toInt32 ((f1.toUInt64 >>> ((8 * a4).toInt64.toUInt64 &&& Int64.toUInt64 63)).toInt64 &&& 255))) s0 (fun (s1 : Sg) => wB_feed_45 f1 f3 K79 n ((a4 + 1)) s1))))
def wB_feed (a1 : Int64) (a3 : Int32) (s0 : Sg) (P : Int32 → Sg → Prop) : Prop := ((a3 < 1 → (wB_failed ((-1000000001)) s0 (fun (r1 : Int32) (s1 : Sg) => P r1 s1))) ∧ (¬ a3 < 1 → ((a3 ≤ 8 → ((((s0 5 1) + a3) ≤ 60 → (∃ N1 : Nat, wB_feed_45 a1 a3 (fun  (s1 : Sg) => P ((s1 5 1)) s1) N1 0 s0)) ∧ (¬ ((s0 5 1) + a3) ≤ 60 → (wB_failed ((-1000000004)) s0 (fun (r1 : Int32) (s1 : Sg) => P r1 s1))))) ∧ (¬ a3 ≤ 8 → (wB_failed ((-1000000001)) s0 (fun (r1 : Int32) (s1 : Sg) => P r1 s1))))))
set_option maxRecDepth 100000 in
set_option maxHeartbeats 4000000 in
theorem xB_feed_45 {w : Wc} {g : Gx} {Q : State → Prop} {f1 : Int64} {f3 : Int32} {K79 : Sg → Prop} (hg : OK shC w g 2 cX7_feed "BagBottom" 5 (some .int)) (hK79 : ∀ (s0 : Sg), K79  s0 → X shC w g Q 79 [some (.ref (ad w 0)), none, none, none, none] [] s0) : ∀ (n : Nat) (a4 : Int32) (s0 : Sg), wB_feed_45 f1 f3 K79 n a4 s0 → X shC w g Q 45 [some (.ref (ad w 0)), some (.long f1), none, some (.int f3), some (.int a4)] [] s0 := by
  intro n
  induction n with
  | zero =>
    intro a4 s0 hw
    exact hw.elim
  | succ n ih =>
    intro a4 s0 hw
    rw [wB_feed_45] at hw
    refine x_iload_4 hg dX7_feed_45 rfl ?_
    refine x_iload_3 hg dX7_feed_47 rfl ?_
    refine x_icmp_ge hg dX7_feed_48 (tg := 79) (by decide) rfl hw (fun hw => ?_) (fun hw => ?_)
    · refine x_drop_1 ?_
      refine x_drop_3 ?_
      refine x_drop_4 ?_
      exact hK79  _ hw
    · refine x_aload_0 hg dX7_feed_51 rfl ?_
      refine get_X7_0 hg kC_0 fl_X7_12 dX7_feed_52 rfl (k2 := 1) rfl ?_
      refine get_X0_7 hg kC_1 fl_X7_129 dX7_feed_55 rfl (k2 := 5) rfl ?_
      refine x_lload_1 hg dX7_feed_58 rfl ?_
      refine x_bi hg dX7_feed_59 bp_8 rfl ?_
      refine x_iload_4 hg dX7_feed_61 rfl ?_
      refine x_imul hg dX7_feed_63 rfl ?_
      refine x_lushr hg dX7_feed_64 rfl ?_
      refine x_ldc2 hg kl_X7_132 dX7_feed_65 rfl ?_
      refine x_land hg dX7_feed_68 rfl ?_
      refine x_l2i hg dX7_feed_69 rfl ?_
      refine x_callVV hg (xRow_add (gL g) kC_5 hw) kC_5 (by decide) rfl im_X1_add se_X1_add mi_X1_add ml_X7_134 rfl rfl (As := [.int (Int64.toInt32 ((f1.toUInt64 >>> ((8 * a4).toInt64.toUInt64 &&& Int64.toUInt64 63)).toInt64 &&& 255))]) rfl rfl rfl dX7_feed_70 rfl (fun s1 hw => ?_)
      refine x_iinc_4 hg dX7_feed_73 ic_1 rfl rfl rfl ?_
      refine x_goto hg dX7_feed_76 (pc' := 45) (by decide) ?_
      exact ih _ _ hw
set_option maxRecDepth 100000 in
set_option maxHeartbeats 4000000 in
theorem xB_feed {w : Wc} (l : Launch) {a1 : Int64} {a3 : Int32} {s0 : Sg} {P : Int32 → Sg → Prop} (hw : wB_feed a1 a3 s0 P) : CI shC w l 2 (.code yX7_feed cX7_feed 5 (some .int)) yX7_feed [.ref (ad w 0), .long a1, .int a3] s0 P := by
  refine ci_of_i (own := "BagBottom") (ls0 := [some (.ref (ad w 0)), some (.long a1), none, some (.int a3), none]) rfl pn_X7 rfl rfl (fun g el hg => ?_)
  unfold wB_feed at hw
  refine x_iload_3 hg dX7_feed_0 rfl ?_
  refine x_ic hg dX7_feed_1 ic_1 rfl ?_
  refine x_icmp_lt hg dX7_feed_2 (tg := 11) (by decide) rfl hw (fun hw => ?_) (fun hw => ?_)
  · refine x_aload_0 hg dX7_feed_11 rfl ?_
    refine x_ldc hg kc_X7_51 dX7_feed_12 rfl ?_
    refine x_callVI hg (xB_failed (gL g)  hw) kC_0 (by decide) rfl im_X7_failed se_X7_failed mi_X7_failed ml_X7_52 rfl rfl (As := [.int (-1000000001)]) rfl rfl rfl dX7_feed_14 rfl (fun r1 s1 hw => ?_)
    exact x_ret hg dX7_feed_17 hw
  · refine x_iload_3 hg dX7_feed_5 rfl ?_
    refine x_bi hg dX7_feed_6 bp_8 rfl ?_
    refine x_icmp_le hg dX7_feed_8 (tg := 18) (by decide) rfl hw (fun hw => ?_) (fun hw => ?_)
    · refine x_aload_0 hg dX7_feed_18 rfl ?_
      refine get_X7_0 hg kC_0 fl_X7_12 dX7_feed_19 rfl (k2 := 1) rfl ?_
      refine get_X0_7 hg kC_1 fl_X7_129 dX7_feed_22 rfl (k2 := 5) rfl ?_
      refine get_X1_1 hg kC_5 fl_X7_120 dX7_feed_25 rfl ?_
      refine x_iload_3 hg dX7_feed_28 rfl ?_
      refine x_iadd hg dX7_feed_29 rfl ?_
      refine x_bi hg dX7_feed_30 bp_60 rfl ?_
      refine x_icmp_le hg dX7_feed_32 (tg := 42) (by decide) rfl hw (fun hw => ?_) (fun hw => ?_)
      · refine x_ic hg dX7_feed_42 ic_0 rfl ?_
        refine x_istore_4 hg dX7_feed_43 rfl rfl rfl ?_
        obtain ⟨N1, hw⟩ := hw
        refine xB_feed_45 hg  (fun  s1 hw => ?_) _ _ _ hw
        · refine x_aload_0 hg dX7_feed_79 rfl ?_
          refine get_X7_0 hg kC_0 fl_X7_12 dX7_feed_80 rfl (k2 := 1) rfl ?_
          refine get_X0_7 hg kC_1 fl_X7_129 dX7_feed_83 rfl (k2 := 5) rfl ?_
          refine get_X1_1 hg kC_5 fl_X7_120 dX7_feed_86 rfl ?_
          exact x_ret hg dX7_feed_89 hw
      · refine x_aload_0 hg dX7_feed_35 rfl ?_
        refine x_ldc hg kc_X7_60 dX7_feed_36 rfl ?_
        refine x_callVI hg (xB_failed (gL g)  hw) kC_0 (by decide) rfl im_X7_failed se_X7_failed mi_X7_failed ml_X7_52 rfl rfl (As := [.int (-1000000004)]) rfl rfl rfl dX7_feed_38 rfl (fun r1 s1 hw => ?_)
        exact x_ret hg dX7_feed_41 hw
    · refine x_aload_0 hg dX7_feed_11 rfl ?_
      refine x_ldc hg kc_X7_51 dX7_feed_12 rfl ?_
      refine x_callVI hg (xB_failed (gL g)  hw) kC_0 (by decide) rfl im_X7_failed se_X7_failed mi_X7_failed ml_X7_52 rfl rfl (As := [.int (-1000000001)]) rfl rfl rfl dX7_feed_14 rfl (fun r1 s1 hw => ?_)
      exact x_ret hg dX7_feed_17 hw
def wB_isUse (a0 : Int32) (s0 : Sg) (P : Int32 → Sg → Prop) : Prop := ((a0 < 0 → P 0 s0) ∧ (¬ a0 < 0 → ((2 ≤ a0 → P 0 s0) ∧ (¬ 2 ≤ a0 → P 1 s0))))
set_option maxRecDepth 100000 in
set_option maxHeartbeats 4000000 in
theorem xB_isUse {w : Wc} (l : Launch) {a0 : Int32} {s0 : Sg} {P : Int32 → Sg → Prop} (hw : wB_isUse a0 s0 P) : CI shC w l 1 (.code yX7_isUse cX7_isUse 1 (some .boolean)) yX7_isUse [.int a0] s0 P := by
  refine ci_of_z (own := "BagBottom") (ls0 := [some (.int a0)]) rfl pn_X7 rfl rfl (fun g el hg => ?_)
  unfold wB_isUse at hw
  refine x_iload_0 hg dX7_isUse_0 rfl ?_
  refine x_if_lt hg dX7_isUse_1 (tg := 13) (by decide) rfl hw (fun hw => ?_) (fun hw => ?_)
  · refine x_ic hg dX7_isUse_13 ic_0 rfl ?_
    exact x_zret hg dX7_isUse_14 (by decide) hw
  · refine x_iload_0 hg dX7_isUse_4 rfl ?_
    refine x_ic hg dX7_isUse_5 ic_2 rfl ?_
    refine x_icmp_ge hg dX7_isUse_6 (tg := 13) (by decide) rfl hw (fun hw => ?_) (fun hw => ?_)
    · refine x_ic hg dX7_isUse_13 ic_0 rfl ?_
      exact x_zret hg dX7_isUse_14 (by decide) hw
    · refine x_ic hg dX7_isUse_9 ic_1 rfl ?_
      refine x_goto hg dX7_isUse_10 (pc' := 14) (by decide) ?_
      exact x_zret hg dX7_isUse_14 (by decide) hw
def wB_text (a1 : Int32) (s0 : Sg) (P : Int32 → Sg → Prop) : Prop := (wB_isUse a1 s0 (fun (r1 : Int32) (s1 : Sg) => ((¬ r1 = 0 → (vp_in a1 2 ∧ ((¬ a1 = 0 → (wText_read ((20 + 6 * ix a1)) 2 s1 (fun (r2 : Int32) (s2 : Sg) => (∀ s3 : Sg, s3 = u2 s2 5 1 0 → ((0 ≤ r2 → P (((-10) - r2)) s3) ∧ (¬ 0 ≤ r2 → P 1 s3)))))) ∧ (a1 = 0 → (wText_read ((20 + 6 * ix a1)) 1 s1 (fun (r2 : Int32) (s2 : Sg) => (∀ s3 : Sg, s3 = u2 s2 5 1 0 → ((0 ≤ r2 → P (((-10) - r2)) s3) ∧ (¬ 0 ≤ r2 → P 1 s3))))))))) ∧ (r1 = 0 → (wB_failed ((-1000000001)) s1 (fun (r2 : Int32) (s2 : Sg) => P r2 s2))))))
set_option maxRecDepth 100000 in
set_option maxHeartbeats 4000000 in
theorem xB_text {w : Wc} (l : Launch) {a1 : Int32} {s0 : Sg} {P : Int32 → Sg → Prop} (hw : wB_text a1 s0 P) : CI shC w l 53 (.code yX7_text cX7_text 3 (some .int)) yX7_text [.ref (ad w 0), .int a1] s0 P := by
  refine ci_of_i (own := "BagBottom") (ls0 := [some (.ref (ad w 0)), some (.int a1), none]) rfl pn_X7 rfl rfl (fun g el hg => ?_)
  unfold wB_text at hw
  refine x_iload_1 hg dX7_text_0 rfl ?_
  refine x_callSI hg (xB_isUse (gL g)  hw) sm_X7_isUse mi_X7_isUse ml_X7_137 rfl rfl (As := [.int a1]) rfl rfl rfl dX7_text_1 rfl (fun r1 s1 hw => ?_)
  refine x_if_ne hg dX7_text_4 (tg := 14) (by decide) rfl hw (fun hw => ?_) (fun hw => ?_)
  · refine x_aload_0 hg dX7_text_14 rfl ?_
    refine get_X7_0 hg kC_0 fl_X7_12 dX7_text_15 rfl (k2 := 1) rfl ?_
    refine get_X0_8 hg kC_1 fl_X7_140 dX7_text_18 rfl (k2 := 7) rfl ?_
    refine x_iload_1 hg dX7_text_21 rfl ?_
    refine x_aald hg (t := 2) kC_7 (by decide) rfl rfl rfl rfl dX7_text_22 rfl hw (fun hin1 hw => ?_)
    refine x_aload_0 hg dX7_text_23 rfl ?_
    refine get_X7_0 hg kC_0 fl_X7_12 dX7_text_24 rfl (k2 := 1) rfl ?_
    refine get_X0_7 hg kC_1 fl_X7_129 dX7_text_27 rfl (k2 := 5) rfl ?_
    refine x_iload_1 hg dX7_text_30 rfl ?_
    refine x_if_ne hg dX7_text_31 (tg := 39) (by decide) rfl hw (fun hw => ?_) (fun hw => ?_)
    · refine x_ldcS (w := w) hg 2 rfl dX7_text_39 rfl ?_
      refine x_callVI hg (xText_read (gL g) (kEl_20 hin1) hw) (kEl_20 hin1) (by decide) rfl im_X3_read se_X3_read mi_X3_read ml_X7_148 rfl rfl (As := [.ref (ad w 5), .ref (sa w 2)]) rfl rfl rfl dX7_text_41 rfl (fun r2 s2 hw => ?_)
      refine x_istore_2 hg dX7_text_44 rfl rfl rfl ?_
      refine x_aload_0 hg dX7_text_45 rfl ?_
      refine get_X7_0 hg kC_0 fl_X7_12 dX7_text_46 rfl (k2 := 1) rfl ?_
      refine get_X0_7 hg kC_1 fl_X7_129 dX7_text_49 rfl (k2 := 5) rfl ?_
      refine x_ic hg dX7_text_52 ic_0 rfl ?_
      refine put_X1_1 hg kC_5 fl_X7_120 dX7_text_53 rfl hw (fun s3 hw => ?_)
      refine x_iload_2 hg dX7_text_56 rfl ?_
      refine x_if_ge hg dX7_text_57 (tg := 64) (by decide) rfl hw (fun hw => ?_) (fun hw => ?_)
      · refine x_bi hg dX7_text_64 bp_m10 rfl ?_
        refine x_iload_2 hg dX7_text_66 rfl ?_
        refine x_isub hg dX7_text_67 rfl ?_
        exact x_ret hg dX7_text_68 hw
      · refine x_ic hg dX7_text_60 ic_1 rfl ?_
        refine x_goto hg dX7_text_61 (pc' := 68) (by decide) ?_
        exact x_ret hg dX7_text_68 hw
    · refine x_ldcS (w := w) hg 1 rfl dX7_text_34 rfl ?_
      refine x_goto hg dX7_text_36 (pc' := 41) (by decide) ?_
      refine x_callVI hg (xText_read (gL g) (kEl_20 hin1) hw) (kEl_20 hin1) (by decide) rfl im_X3_read se_X3_read mi_X3_read ml_X7_148 rfl rfl (As := [.ref (ad w 5), .ref (sa w 1)]) rfl rfl rfl dX7_text_41 rfl (fun r2 s2 hw => ?_)
      refine x_istore_2 hg dX7_text_44 rfl rfl rfl ?_
      refine x_aload_0 hg dX7_text_45 rfl ?_
      refine get_X7_0 hg kC_0 fl_X7_12 dX7_text_46 rfl (k2 := 1) rfl ?_
      refine get_X0_7 hg kC_1 fl_X7_129 dX7_text_49 rfl (k2 := 5) rfl ?_
      refine x_ic hg dX7_text_52 ic_0 rfl ?_
      refine put_X1_1 hg kC_5 fl_X7_120 dX7_text_53 rfl hw (fun s3 hw => ?_)
      refine x_iload_2 hg dX7_text_56 rfl ?_
      refine x_if_ge hg dX7_text_57 (tg := 64) (by decide) rfl hw (fun hw => ?_) (fun hw => ?_)
      · refine x_bi hg dX7_text_64 bp_m10 rfl ?_
        refine x_iload_2 hg dX7_text_66 rfl ?_
        refine x_isub hg dX7_text_67 rfl ?_
        exact x_ret hg dX7_text_68 hw
      · refine x_ic hg dX7_text_60 ic_1 rfl ?_
        refine x_goto hg dX7_text_61 (pc' := 68) (by decide) ?_
        exact x_ret hg dX7_text_68 hw
  · refine x_aload_0 hg dX7_text_7 rfl ?_
    refine x_ldc hg kc_X7_51 dX7_text_8 rfl ?_
    refine x_callVI hg (xB_failed (gL g)  hw) kC_0 (by decide) rfl im_X7_failed se_X7_failed mi_X7_failed ml_X7_52 rfl rfl (As := [.int (-1000000001)]) rfl rfl rfl dX7_text_10 rfl (fun r2 s2 hw => ?_)
    exact x_ret hg dX7_text_13 hw
def wB_untell (a1 : Int32) (s0 : Sg) (P : Int32 → Sg → Prop) : Prop := (wB_isUse a1 s0 (fun (r1 : Int32) (s1 : Sg) => ((¬ r1 = 0 → (vp_in a1 2 ∧ (wText_isThere ((20 + 6 * ix a1)) s1 (fun (r2 : Int32) (s2 : Sg) => ((r2 = 0 → (vp_in a1 2 ∧ (∀ s3 : Sg, s3 = u2 s2 (((20 + 6 * ix a1) + 1)) 1 0 → P 0 s3))) ∧ (¬ r2 = 0 → (vp_in a1 2 ∧ (∀ s3 : Sg, s3 = u2 s2 (((20 + 6 * ix a1) + 1)) 1 0 → P 1 s3)))))))) ∧ (r1 = 0 → (wB_failed ((-1000000001)) s1 (fun (r2 : Int32) (s2 : Sg) => P r2 s2))))))
set_option maxRecDepth 100000 in
set_option maxHeartbeats 4000000 in
theorem xB_untell {w : Wc} (l : Launch) {a1 : Int32} {s0 : Sg} {P : Int32 → Sg → Prop} (hw : wB_untell a1 s0 P) : CI shC w l 2 (.code yX7_untell cX7_untell 3 (some .int)) yX7_untell [.ref (ad w 0), .int a1] s0 P := by
  refine ci_of_i (own := "BagBottom") (ls0 := [some (.ref (ad w 0)), some (.int a1), none]) rfl pn_X7 rfl rfl (fun g el hg => ?_)
  unfold wB_untell at hw
  refine x_iload_1 hg dX7_untell_0 rfl ?_
  refine x_callSI hg (xB_isUse (gL g)  hw) sm_X7_isUse mi_X7_isUse ml_X7_137 rfl rfl (As := [.int a1]) rfl rfl rfl dX7_untell_1 rfl (fun r1 s1 hw => ?_)
  refine x_if_ne hg dX7_untell_4 (tg := 14) (by decide) rfl hw (fun hw => ?_) (fun hw => ?_)
  · refine x_aload_0 hg dX7_untell_14 rfl ?_
    refine get_X7_0 hg kC_0 fl_X7_12 dX7_untell_15 rfl (k2 := 1) rfl ?_
    refine get_X0_8 hg kC_1 fl_X7_140 dX7_untell_18 rfl (k2 := 7) rfl ?_
    refine x_iload_1 hg dX7_untell_21 rfl ?_
    refine x_aald hg (t := 2) kC_7 (by decide) rfl rfl rfl rfl dX7_untell_22 rfl hw (fun hin1 hw => ?_)
    refine x_callVI hg (xText_isThere (gL g) (kEl_20 hin1) hw) (kEl_20 hin1) (by decide) rfl im_X3_isThere se_X3_isThere mi_X3_isThere ml_X7_154 rfl rfl (As := []) rfl rfl rfl dX7_untell_23 rfl (fun r2 s2 hw => ?_)
    refine x_if_eq hg dX7_untell_26 (tg := 33) (by decide) rfl hw (fun hw => ?_) (fun hw => ?_)
    · refine x_ic hg dX7_untell_33 ic_0 rfl ?_
      refine x_istore_2 hg dX7_untell_34 rfl rfl rfl ?_
      refine x_aload_0 hg dX7_untell_35 rfl ?_
      refine get_X7_0 hg kC_0 fl_X7_12 dX7_untell_36 rfl (k2 := 1) rfl ?_
      refine get_X0_8 hg kC_1 fl_X7_140 dX7_untell_39 rfl (k2 := 7) rfl ?_
      refine x_iload_1 hg dX7_untell_42 rfl ?_
      refine x_aald hg (t := 2) kC_7 (by decide) rfl rfl rfl rfl dX7_untell_43 rfl hw (fun hin2 hw => ?_)
      refine get_X3_0 hg (kEl_20 hin2) fl_X7_158 dX7_untell_44 rfl (k2 := ((20 + 6 * ix a1) + 1)) rfl ?_
      refine x_ic hg dX7_untell_47 ic_0 rfl ?_
      refine put_X1_1 hg (kTextC (kEl_20 hin2)) fl_X7_120 dX7_untell_48 rfl hw (fun s3 hw => ?_)
      refine x_iload_2 hg dX7_untell_51 rfl ?_
      exact x_ret hg dX7_untell_52 hw
    · refine x_ic hg dX7_untell_29 ic_1 rfl ?_
      refine x_goto hg dX7_untell_30 (pc' := 34) (by decide) ?_
      refine x_istore_2 hg dX7_untell_34 rfl rfl rfl ?_
      refine x_aload_0 hg dX7_untell_35 rfl ?_
      refine get_X7_0 hg kC_0 fl_X7_12 dX7_untell_36 rfl (k2 := 1) rfl ?_
      refine get_X0_8 hg kC_1 fl_X7_140 dX7_untell_39 rfl (k2 := 7) rfl ?_
      refine x_iload_1 hg dX7_untell_42 rfl ?_
      refine x_aald hg (t := 2) kC_7 (by decide) rfl rfl rfl rfl dX7_untell_43 rfl hw (fun hin2 hw => ?_)
      refine get_X3_0 hg (kEl_20 hin2) fl_X7_158 dX7_untell_44 rfl (k2 := ((20 + 6 * ix a1) + 1)) rfl ?_
      refine x_ic hg dX7_untell_47 ic_0 rfl ?_
      refine put_X1_1 hg (kTextC (kEl_20 hin2)) fl_X7_120 dX7_untell_48 rfl hw (fun s3 hw => ?_)
      refine x_iload_2 hg dX7_untell_51 rfl ?_
      exact x_ret hg dX7_untell_52 hw
  · refine x_aload_0 hg dX7_untell_7 rfl ?_
    refine x_ldc hg kc_X7_51 dX7_untell_8 rfl ?_
    refine x_callVI hg (xB_failed (gL g)  hw) kC_0 (by decide) rfl im_X7_failed se_X7_failed mi_X7_failed ml_X7_52 rfl rfl (As := [.int (-1000000001)]) rfl rfl rfl dX7_untell_10 rfl (fun r2 s2 hw => ?_)
    exact x_ret hg dX7_untell_13 hw
def wB_law (a1 : Int32) (a2 : Int32) (a3 : Int32) (a4 : Int32) (s0 : Sg) (P : Int32 → Sg → Prop) : Prop := (wB_isUse a1 s0 (fun (r1 : Int32) (s1 : Sg) => ((¬ r1 = 0 → (wBag_gives a1 a2 a3 a4 s1 (fun (r2 : Int32) (s2 : Sg) => P r2 s2))) ∧ (r1 = 0 → (wB_failed ((-1000000001)) s1 (fun (r2 : Int32) (s2 : Sg) => P r2 s2))))))
set_option maxRecDepth 100000 in
set_option maxHeartbeats 4000000 in
theorem xB_law {w : Wc} (l : Launch) {a1 : Int32} {a2 : Int32} {a3 : Int32} {a4 : Int32} {s0 : Sg} {P : Int32 → Sg → Prop} (hw : wB_law a1 a2 a3 a4 s0 P) : CI shC w l 4 (.code yX7_law cX7_law 5 (some .int)) yX7_law [.ref (ad w 0), .int a1, .int a2, .int a3, .int a4] s0 P := by
  refine ci_of_i (own := "BagBottom") (ls0 := [some (.ref (ad w 0)), some (.int a1), some (.int a2), some (.int a3), some (.int a4)]) rfl pn_X7 rfl rfl (fun g el hg => ?_)
  unfold wB_law at hw
  refine x_iload_1 hg dX7_law_0 rfl ?_
  refine x_callSI hg (xB_isUse (gL g)  hw) sm_X7_isUse mi_X7_isUse ml_X7_137 rfl rfl (As := [.int a1]) rfl rfl rfl dX7_law_1 rfl (fun r1 s1 hw => ?_)
  refine x_if_ne hg dX7_law_4 (tg := 14) (by decide) rfl hw (fun hw => ?_) (fun hw => ?_)
  · refine x_aload_0 hg dX7_law_14 rfl ?_
    refine get_X7_0 hg kC_0 fl_X7_12 dX7_law_15 rfl (k2 := 1) rfl ?_
    refine x_iload_1 hg dX7_law_18 rfl ?_
    refine x_iload_2 hg dX7_law_19 rfl ?_
    refine x_iload_3 hg dX7_law_20 rfl ?_
    refine x_iload_4 hg dX7_law_21 rfl ?_
    refine x_callVI hg (xBag_gives (gL g)  hw) kC_1 (by decide) rfl im_X0_gives se_X0_gives mi_X0_gives ml_X7_161 rfl rfl (As := [.int a1, .int a2, .int a3, .int a4]) rfl rfl rfl dX7_law_23 rfl (fun r2 s2 hw => ?_)
    exact x_ret hg dX7_law_26 hw
  · refine x_aload_0 hg dX7_law_7 rfl ?_
    refine x_ldc hg kc_X7_51 dX7_law_8 rfl ?_
    refine x_callVI hg (xB_failed (gL g)  hw) kC_0 (by decide) rfl im_X7_failed se_X7_failed mi_X7_failed ml_X7_52 rfl rfl (As := [.int (-1000000001)]) rfl rfl rfl dX7_law_10 rfl (fun r2 s2 hw => ?_)
    exact x_ret hg dX7_law_13 hw
def wB_isWay (a0 : Int32) (s0 : Sg) (P : Int32 → Sg → Prop) : Prop := ((a0 < 0 → P 0 s0) ∧ (¬ a0 < 0 → ((3 ≤ a0 → P 0 s0) ∧ (¬ 3 ≤ a0 → P 1 s0))))
set_option maxRecDepth 100000 in
set_option maxHeartbeats 4000000 in
theorem xB_isWay {w : Wc} (l : Launch) {a0 : Int32} {s0 : Sg} {P : Int32 → Sg → Prop} (hw : wB_isWay a0 s0 P) : CI shC w l 1 (.code yX7_isWay cX7_isWay 1 (some .boolean)) yX7_isWay [.int a0] s0 P := by
  refine ci_of_z (own := "BagBottom") (ls0 := [some (.int a0)]) rfl pn_X7 rfl rfl (fun g el hg => ?_)
  unfold wB_isWay at hw
  refine x_iload_0 hg dX7_isWay_0 rfl ?_
  refine x_if_lt hg dX7_isWay_1 (tg := 13) (by decide) rfl hw (fun hw => ?_) (fun hw => ?_)
  · refine x_ic hg dX7_isWay_13 ic_0 rfl ?_
    exact x_zret hg dX7_isWay_14 (by decide) hw
  · refine x_iload_0 hg dX7_isWay_4 rfl ?_
    refine x_ic hg dX7_isWay_5 ic_3 rfl ?_
    refine x_icmp_ge hg dX7_isWay_6 (tg := 13) (by decide) rfl hw (fun hw => ?_) (fun hw => ?_)
    · refine x_ic hg dX7_isWay_13 ic_0 rfl ?_
      exact x_zret hg dX7_isWay_14 (by decide) hw
    · refine x_ic hg dX7_isWay_9 ic_1 rfl ?_
      refine x_goto hg dX7_isWay_10 (pc' := 14) (by decide) ?_
      exact x_zret hg dX7_isWay_14 (by decide) hw
def wB_seconds (a1 : Int32) (a2 : Int32) (s0 : Sg) (P : Int32 → Sg → Prop) : Prop := (wBag_knows a1 s0 (fun (r1 : Int32) (s1 : Sg) => ((r1 = 0 → (wB_failed ((-1000000001)) s1 (fun (r2 : Int32) (s2 : Sg) => P r2 s2))) ∧ (¬ r1 = 0 → (wB_isWay a2 s1 (fun (r2 : Int32) (s2 : Sg) => ((¬ r2 = 0 → (wBag_whereIs a1 s2 (fun (r3 : Int32) (s3 : Sg) => ((¬ r3 = (-2) → (wBag_time a1 a2 s3 (fun (r4 : Int32) (s4 : Sg) => P r4 s4))) ∧ (r3 = (-2) → (wB_failed ((-1000000003)) s3 (fun (r4 : Int32) (s4 : Sg) => P r4 s4))))))) ∧ (r2 = 0 → (wB_failed ((-1000000001)) s2 (fun (r3 : Int32) (s3 : Sg) => P r3 s3))))))))))
set_option maxRecDepth 100000 in
set_option maxHeartbeats 4000000 in
theorem xB_seconds {w : Wc} (l : Launch) {a1 : Int32} {a2 : Int32} {s0 : Sg} {P : Int32 → Sg → Prop} (hw : wB_seconds a1 a2 s0 P) : CI shC w l 5 (.code yX7_seconds cX7_seconds 3 (some .int)) yX7_seconds [.ref (ad w 0), .int a1, .int a2] s0 P := by
  refine ci_of_i (own := "BagBottom") (ls0 := [some (.ref (ad w 0)), some (.int a1), some (.int a2)]) rfl pn_X7 rfl rfl (fun g el hg => ?_)
  unfold wB_seconds at hw
  refine x_aload_0 hg dX7_seconds_0 rfl ?_
  refine get_X7_0 hg kC_0 fl_X7_12 dX7_seconds_1 rfl (k2 := 1) rfl ?_
  refine x_iload_1 hg dX7_seconds_4 rfl ?_
  refine x_callVI hg (xBag_knows (gL g)  hw) kC_1 (by decide) rfl im_X0_knows se_X0_knows mi_X0_knows ml_X7_65 rfl rfl (As := [.int a1]) rfl rfl rfl dX7_seconds_5 rfl (fun r1 s1 hw => ?_)
  refine x_if_eq hg dX7_seconds_8 (tg := 18) (by decide) rfl hw (fun hw => ?_) (fun hw => ?_)
  · refine x_aload_0 hg dX7_seconds_18 rfl ?_
    refine x_ldc hg kc_X7_51 dX7_seconds_19 rfl ?_
    refine x_callVI hg (xB_failed (gL g)  hw) kC_0 (by decide) rfl im_X7_failed se_X7_failed mi_X7_failed ml_X7_52 rfl rfl (As := [.int (-1000000001)]) rfl rfl rfl dX7_seconds_21 rfl (fun r2 s2 hw => ?_)
    exact x_ret hg dX7_seconds_24 hw
  · refine x_iload_2 hg dX7_seconds_11 rfl ?_
    refine x_callSI hg (xB_isWay (gL g)  hw) sm_X7_isWay mi_X7_isWay ml_X7_165 rfl rfl (As := [.int a2]) rfl rfl rfl dX7_seconds_12 rfl (fun r2 s2 hw => ?_)
    refine x_if_ne hg dX7_seconds_15 (tg := 25) (by decide) rfl hw (fun hw => ?_) (fun hw => ?_)
    · refine x_aload_0 hg dX7_seconds_25 rfl ?_
      refine get_X7_0 hg kC_0 fl_X7_12 dX7_seconds_26 rfl (k2 := 1) rfl ?_
      refine x_iload_1 hg dX7_seconds_29 rfl ?_
      refine x_callVI hg (xBag_whereIs (gL g)  hw) kC_1 (by decide) rfl im_X0_whereIs se_X0_whereIs mi_X0_whereIs ml_X7_86 rfl rfl (As := [.int a1]) rfl rfl rfl dX7_seconds_30 rfl (fun r3 s3 hw => ?_)
      refine x_bi hg dX7_seconds_33 bp_m2 rfl ?_
      refine x_icmp_ne hg dX7_seconds_35 (tg := 45) (by decide) rfl hw (fun hw => ?_) (fun hw => ?_)
      · refine x_aload_0 hg dX7_seconds_45 rfl ?_
        refine get_X7_0 hg kC_0 fl_X7_12 dX7_seconds_46 rfl (k2 := 1) rfl ?_
        refine x_iload_1 hg dX7_seconds_49 rfl ?_
        refine x_iload_2 hg dX7_seconds_50 rfl ?_
        refine x_callVI hg (xBag_time (gL g)  hw) kC_1 (by decide) rfl im_X0_time se_X0_time mi_X0_time ml_X7_168 rfl rfl (As := [.int a1, .int a2]) rfl rfl rfl dX7_seconds_51 rfl (fun r4 s4 hw => ?_)
        exact x_ret hg dX7_seconds_54 hw
      · refine x_aload_0 hg dX7_seconds_38 rfl ?_
        refine x_ldc hg kc_X7_115 dX7_seconds_39 rfl ?_
        refine x_callVI hg (xB_failed (gL g)  hw) kC_0 (by decide) rfl im_X7_failed se_X7_failed mi_X7_failed ml_X7_52 rfl rfl (As := [.int (-1000000003)]) rfl rfl rfl dX7_seconds_41 rfl (fun r4 s4 hw => ?_)
        exact x_ret hg dX7_seconds_44 hw
    · refine x_aload_0 hg dX7_seconds_18 rfl ?_
      refine x_ldc hg kc_X7_51 dX7_seconds_19 rfl ?_
      refine x_callVI hg (xB_failed (gL g)  hw) kC_0 (by decide) rfl im_X7_failed se_X7_failed mi_X7_failed ml_X7_52 rfl rfl (As := [.int (-1000000001)]) rfl rfl rfl dX7_seconds_21 rfl (fun r3 s3 hw => ?_)
      exact x_ret hg dX7_seconds_24 hw
def wB_best (a1 : Int32) (a2 : Int32) (s0 : Sg) (P : Int32 → Sg → Prop) : Prop := (wBag_knows a1 s0 (fun (r1 : Int32) (s1 : Sg) => ((r1 = 0 → (wB_failed ((-1000000001)) s1 (fun (r2 : Int32) (s2 : Sg) => P r2 s2))) ∧ (¬ r1 = 0 → ((a2 < 0 → (wB_failed ((-1000000001)) s1 (fun (r2 : Int32) (s2 : Sg) => P r2 s2))) ∧ (¬ a2 < 0 → ((a2 ≤ 1 → (wBag_whereIs a1 s1 (fun (r2 : Int32) (s2 : Sg) => ((¬ r2 = (-2) → (wBag_bestWay a1 s2 (fun (r3 : Int32) (s3 : Sg) => ((¬ a2 = 0 → (wBag_time a1 r3 s3 (fun (r4 : Int32) (s4 : Sg) => P r4 s4))) ∧ (a2 = 0 → P r3 s3))))) ∧ (r2 = (-2) → (wB_failed ((-1000000003)) s2 (fun (r3 : Int32) (s3 : Sg) => P r3 s3))))))) ∧ (¬ a2 ≤ 1 → (wB_failed ((-1000000001)) s1 (fun (r2 : Int32) (s2 : Sg) => P r2 s2))))))))))
set_option maxRecDepth 100000 in
set_option maxHeartbeats 4000000 in
theorem xB_best {w : Wc} (l : Launch) {a1 : Int32} {a2 : Int32} {s0 : Sg} {P : Int32 → Sg → Prop} (hw : wB_best a1 a2 s0 P) : CI shC w l 6 (.code yX7_best cX7_best 4 (some .int)) yX7_best [.ref (ad w 0), .int a1, .int a2] s0 P := by
  refine ci_of_i (own := "BagBottom") (ls0 := [some (.ref (ad w 0)), some (.int a1), some (.int a2), none]) rfl pn_X7 rfl rfl (fun g el hg => ?_)
  unfold wB_best at hw
  refine x_aload_0 hg dX7_best_0 rfl ?_
  refine get_X7_0 hg kC_0 fl_X7_12 dX7_best_1 rfl (k2 := 1) rfl ?_
  refine x_iload_1 hg dX7_best_4 rfl ?_
  refine x_callVI hg (xBag_knows (gL g)  hw) kC_1 (by decide) rfl im_X0_knows se_X0_knows mi_X0_knows ml_X7_65 rfl rfl (As := [.int a1]) rfl rfl rfl dX7_best_5 rfl (fun r1 s1 hw => ?_)
  refine x_if_eq hg dX7_best_8 (tg := 20) (by decide) rfl hw (fun hw => ?_) (fun hw => ?_)
  · refine x_aload_0 hg dX7_best_20 rfl ?_
    refine x_ldc hg kc_X7_51 dX7_best_21 rfl ?_
    refine x_callVI hg (xB_failed (gL g)  hw) kC_0 (by decide) rfl im_X7_failed se_X7_failed mi_X7_failed ml_X7_52 rfl rfl (As := [.int (-1000000001)]) rfl rfl rfl dX7_best_23 rfl (fun r2 s2 hw => ?_)
    exact x_ret hg dX7_best_26 hw
  · refine x_iload_2 hg dX7_best_11 rfl ?_
    refine x_if_lt hg dX7_best_12 (tg := 20) (by decide) rfl hw (fun hw => ?_) (fun hw => ?_)
    · refine x_aload_0 hg dX7_best_20 rfl ?_
      refine x_ldc hg kc_X7_51 dX7_best_21 rfl ?_
      refine x_callVI hg (xB_failed (gL g)  hw) kC_0 (by decide) rfl im_X7_failed se_X7_failed mi_X7_failed ml_X7_52 rfl rfl (As := [.int (-1000000001)]) rfl rfl rfl dX7_best_23 rfl (fun r2 s2 hw => ?_)
      exact x_ret hg dX7_best_26 hw
    · refine x_iload_2 hg dX7_best_15 rfl ?_
      refine x_ic hg dX7_best_16 ic_1 rfl ?_
      refine x_icmp_le hg dX7_best_17 (tg := 27) (by decide) rfl hw (fun hw => ?_) (fun hw => ?_)
      · refine x_aload_0 hg dX7_best_27 rfl ?_
        refine get_X7_0 hg kC_0 fl_X7_12 dX7_best_28 rfl (k2 := 1) rfl ?_
        refine x_iload_1 hg dX7_best_31 rfl ?_
        refine x_callVI hg (xBag_whereIs (gL g)  hw) kC_1 (by decide) rfl im_X0_whereIs se_X0_whereIs mi_X0_whereIs ml_X7_86 rfl rfl (As := [.int a1]) rfl rfl rfl dX7_best_32 rfl (fun r2 s2 hw => ?_)
        refine x_bi hg dX7_best_35 bp_m2 rfl ?_
        refine x_icmp_ne hg dX7_best_37 (tg := 47) (by decide) rfl hw (fun hw => ?_) (fun hw => ?_)
        · refine x_aload_0 hg dX7_best_47 rfl ?_
          refine get_X7_0 hg kC_0 fl_X7_12 dX7_best_48 rfl (k2 := 1) rfl ?_
          refine x_iload_1 hg dX7_best_51 rfl ?_
          refine x_callVI hg (xBag_bestWay (gL g)  hw) kC_1 (by decide) rfl im_X0_bestWay se_X0_bestWay mi_X0_bestWay ml_X7_172 rfl rfl (As := [.int a1]) rfl rfl rfl dX7_best_52 rfl (fun r3 s3 hw => ?_)
          refine x_istore_3 hg dX7_best_55 rfl rfl rfl ?_
          refine x_iload_2 hg dX7_best_56 rfl ?_
          refine x_if_ne hg dX7_best_57 (tg := 64) (by decide) rfl hw (fun hw => ?_) (fun hw => ?_)
          · refine x_aload_0 hg dX7_best_64 rfl ?_
            refine get_X7_0 hg kC_0 fl_X7_12 dX7_best_65 rfl (k2 := 1) rfl ?_
            refine x_iload_1 hg dX7_best_68 rfl ?_
            refine x_iload_3 hg dX7_best_69 rfl ?_
            refine x_callVI hg (xBag_time (gL g)  hw) kC_1 (by decide) rfl im_X0_time se_X0_time mi_X0_time ml_X7_168 rfl rfl (As := [.int a1, .int r3]) rfl rfl rfl dX7_best_70 rfl (fun r4 s4 hw => ?_)
            exact x_ret hg dX7_best_73 hw
          · refine x_iload_3 hg dX7_best_60 rfl ?_
            refine x_goto hg dX7_best_61 (pc' := 73) (by decide) ?_
            exact x_ret hg dX7_best_73 hw
        · refine x_aload_0 hg dX7_best_40 rfl ?_
          refine x_ldc hg kc_X7_115 dX7_best_41 rfl ?_
          refine x_callVI hg (xB_failed (gL g)  hw) kC_0 (by decide) rfl im_X7_failed se_X7_failed mi_X7_failed ml_X7_52 rfl rfl (As := [.int (-1000000003)]) rfl rfl rfl dX7_best_43 rfl (fun r3 s3 hw => ?_)
          exact x_ret hg dX7_best_46 hw
      · refine x_aload_0 hg dX7_best_20 rfl ?_
        refine x_ldc hg kc_X7_51 dX7_best_21 rfl ?_
        refine x_callVI hg (xB_failed (gL g)  hw) kC_0 (by decide) rfl im_X7_failed se_X7_failed mi_X7_failed ml_X7_52 rfl rfl (As := [.int (-1000000001)]) rfl rfl rfl dX7_best_23 rfl (fun r2 s2 hw => ?_)
        exact x_ret hg dX7_best_26 hw
def wB_takes (a1 : Int32) (a2 : Int32) (s0 : Sg) (P : Int32 → Sg → Prop) : Prop := (wBag_knows a1 s0 (fun (r1 : Int32) (s1 : Sg) => ((r1 = 0 → (wB_failed ((-1000000001)) s1 (fun (r2 : Int32) (s2 : Sg) => P r2 s2))) ∧ (¬ r1 = 0 → (wB_isWay a2 s1 (fun (r2 : Int32) (s2 : Sg) => ((¬ r2 = 0 → (wBag_whereIs a1 s2 (fun (r3 : Int32) (s3 : Sg) => ((¬ r3 = (-2) → (wBag_take a1 a2 s3 (fun (r4 : Int32) (s4 : Sg) => P r4 s4))) ∧ (r3 = (-2) → (wB_failed ((-1000000003)) s3 (fun (r4 : Int32) (s4 : Sg) => P r4 s4))))))) ∧ (r2 = 0 → (wB_failed ((-1000000001)) s2 (fun (r3 : Int32) (s3 : Sg) => P r3 s3))))))))))
set_option maxRecDepth 100000 in
set_option maxHeartbeats 4000000 in
theorem xB_takes {w : Wc} (l : Launch) {a1 : Int32} {a2 : Int32} {s0 : Sg} {P : Int32 → Sg → Prop} (hw : wB_takes a1 a2 s0 P) : CI shC w l 6 (.code yX7_takes cX7_takes 3 (some .int)) yX7_takes [.ref (ad w 0), .int a1, .int a2] s0 P := by
  refine ci_of_i (own := "BagBottom") (ls0 := [some (.ref (ad w 0)), some (.int a1), some (.int a2)]) rfl pn_X7 rfl rfl (fun g el hg => ?_)
  unfold wB_takes at hw
  refine x_aload_0 hg dX7_takes_0 rfl ?_
  refine get_X7_0 hg kC_0 fl_X7_12 dX7_takes_1 rfl (k2 := 1) rfl ?_
  refine x_iload_1 hg dX7_takes_4 rfl ?_
  refine x_callVI hg (xBag_knows (gL g)  hw) kC_1 (by decide) rfl im_X0_knows se_X0_knows mi_X0_knows ml_X7_65 rfl rfl (As := [.int a1]) rfl rfl rfl dX7_takes_5 rfl (fun r1 s1 hw => ?_)
  refine x_if_eq hg dX7_takes_8 (tg := 18) (by decide) rfl hw (fun hw => ?_) (fun hw => ?_)
  · refine x_aload_0 hg dX7_takes_18 rfl ?_
    refine x_ldc hg kc_X7_51 dX7_takes_19 rfl ?_
    refine x_callVI hg (xB_failed (gL g)  hw) kC_0 (by decide) rfl im_X7_failed se_X7_failed mi_X7_failed ml_X7_52 rfl rfl (As := [.int (-1000000001)]) rfl rfl rfl dX7_takes_21 rfl (fun r2 s2 hw => ?_)
    exact x_ret hg dX7_takes_24 hw
  · refine x_iload_2 hg dX7_takes_11 rfl ?_
    refine x_callSI hg (xB_isWay (gL g)  hw) sm_X7_isWay mi_X7_isWay ml_X7_165 rfl rfl (As := [.int a2]) rfl rfl rfl dX7_takes_12 rfl (fun r2 s2 hw => ?_)
    refine x_if_ne hg dX7_takes_15 (tg := 25) (by decide) rfl hw (fun hw => ?_) (fun hw => ?_)
    · refine x_aload_0 hg dX7_takes_25 rfl ?_
      refine get_X7_0 hg kC_0 fl_X7_12 dX7_takes_26 rfl (k2 := 1) rfl ?_
      refine x_iload_1 hg dX7_takes_29 rfl ?_
      refine x_callVI hg (xBag_whereIs (gL g)  hw) kC_1 (by decide) rfl im_X0_whereIs se_X0_whereIs mi_X0_whereIs ml_X7_86 rfl rfl (As := [.int a1]) rfl rfl rfl dX7_takes_30 rfl (fun r3 s3 hw => ?_)
      refine x_bi hg dX7_takes_33 bp_m2 rfl ?_
      refine x_icmp_ne hg dX7_takes_35 (tg := 45) (by decide) rfl hw (fun hw => ?_) (fun hw => ?_)
      · refine x_aload_0 hg dX7_takes_45 rfl ?_
        refine get_X7_0 hg kC_0 fl_X7_12 dX7_takes_46 rfl (k2 := 1) rfl ?_
        refine x_iload_1 hg dX7_takes_49 rfl ?_
        refine x_iload_2 hg dX7_takes_50 rfl ?_
        refine x_callVI hg (xBag_take (gL g)  hw) kC_1 (by decide) rfl im_X0_take se_X0_take mi_X0_take ml_X7_175 rfl rfl (As := [.int a1, .int a2]) rfl rfl rfl dX7_takes_51 rfl (fun r4 s4 hw => ?_)
        exact x_ret hg dX7_takes_54 hw
      · refine x_aload_0 hg dX7_takes_38 rfl ?_
        refine x_ldc hg kc_X7_115 dX7_takes_39 rfl ?_
        refine x_callVI hg (xB_failed (gL g)  hw) kC_0 (by decide) rfl im_X7_failed se_X7_failed mi_X7_failed ml_X7_52 rfl rfl (As := [.int (-1000000003)]) rfl rfl rfl dX7_takes_41 rfl (fun r4 s4 hw => ?_)
        exact x_ret hg dX7_takes_44 hw
    · refine x_aload_0 hg dX7_takes_18 rfl ?_
      refine x_ldc hg kc_X7_51 dX7_takes_19 rfl ?_
      refine x_callVI hg (xB_failed (gL g)  hw) kC_0 (by decide) rfl im_X7_failed se_X7_failed mi_X7_failed ml_X7_52 rfl rfl (As := [.int (-1000000001)]) rfl rfl rfl dX7_takes_21 rfl (fun r3 s3 hw => ?_)
      exact x_ret hg dX7_takes_24 hw
def wB_walks (a1 : Int32) (s0 : Sg) (P : Int32 → Sg → Prop) : Prop := ((a1 < 1 → (wB_failed ((-1000000001)) s0 (fun (r1 : Int32) (s1 : Sg) => P r1 s1))) ∧ (¬ a1 < 1 → ((a1 ≤ 100 → ((((s0 1 4) + a1) ≤ 9999 → (wBag_walk a1 s0 (fun (s1 : Sg) => P ((s1 1 4)) s1))) ∧ (¬ ((s0 1 4) + a1) ≤ 9999 → (wB_failed ((-1000000003)) s0 (fun (r1 : Int32) (s1 : Sg) => P r1 s1))))) ∧ (¬ a1 ≤ 100 → (wB_failed ((-1000000001)) s0 (fun (r1 : Int32) (s1 : Sg) => P r1 s1))))))
set_option maxRecDepth 100000 in
set_option maxHeartbeats 4000000 in
theorem xB_walks {w : Wc} (l : Launch) {a1 : Int32} {s0 : Sg} {P : Int32 → Sg → Prop} (hw : wB_walks a1 s0 P) : CI shC w l 5 (.code yX7_walks cX7_walks 2 (some .int)) yX7_walks [.ref (ad w 0), .int a1] s0 P := by
  refine ci_of_i (own := "BagBottom") (ls0 := [some (.ref (ad w 0)), some (.int a1)]) rfl pn_X7 rfl rfl (fun g el hg => ?_)
  unfold wB_walks at hw
  refine x_iload_1 hg dX7_walks_0 rfl ?_
  refine x_ic hg dX7_walks_1 ic_1 rfl ?_
  refine x_icmp_lt hg dX7_walks_2 (tg := 11) (by decide) rfl hw (fun hw => ?_) (fun hw => ?_)
  · refine x_aload_0 hg dX7_walks_11 rfl ?_
    refine x_ldc hg kc_X7_51 dX7_walks_12 rfl ?_
    refine x_callVI hg (xB_failed (gL g)  hw) kC_0 (by decide) rfl im_X7_failed se_X7_failed mi_X7_failed ml_X7_52 rfl rfl (As := [.int (-1000000001)]) rfl rfl rfl dX7_walks_14 rfl (fun r1 s1 hw => ?_)
    exact x_ret hg dX7_walks_17 hw
  · refine x_iload_1 hg dX7_walks_5 rfl ?_
    refine x_bi hg dX7_walks_6 bp_100 rfl ?_
    refine x_icmp_le hg dX7_walks_8 (tg := 18) (by decide) rfl hw (fun hw => ?_) (fun hw => ?_)
    · refine x_aload_0 hg dX7_walks_18 rfl ?_
      refine get_X7_0 hg kC_0 fl_X7_12 dX7_walks_19 rfl (k2 := 1) rfl ?_
      refine get_X0_4 hg kC_1 fl_X7_89 dX7_walks_22 rfl ?_
      refine x_iload_1 hg dX7_walks_25 rfl ?_
      refine x_iadd hg dX7_walks_26 rfl ?_
      refine x_si hg dX7_walks_27 sp_9999 rfl ?_
      refine x_icmp_le hg dX7_walks_30 (tg := 40) (by decide) rfl hw (fun hw => ?_) (fun hw => ?_)
      · refine x_aload_0 hg dX7_walks_40 rfl ?_
        refine get_X7_0 hg kC_0 fl_X7_12 dX7_walks_41 rfl (k2 := 1) rfl ?_
        refine x_iload_1 hg dX7_walks_44 rfl ?_
        refine x_callVV hg (xBag_walk (gL g)  hw) kC_1 (by decide) rfl im_X0_walk se_X0_walk mi_X0_walk ml_X7_178 rfl rfl (As := [.int a1]) rfl rfl rfl dX7_walks_45 rfl (fun s1 hw => ?_)
        refine x_aload_0 hg dX7_walks_48 rfl ?_
        refine get_X7_0 hg kC_0 fl_X7_12 dX7_walks_49 rfl (k2 := 1) rfl ?_
        refine get_X0_4 hg kC_1 fl_X7_89 dX7_walks_52 rfl ?_
        exact x_ret hg dX7_walks_55 hw
      · refine x_aload_0 hg dX7_walks_33 rfl ?_
        refine x_ldc hg kc_X7_115 dX7_walks_34 rfl ?_
        refine x_callVI hg (xB_failed (gL g)  hw) kC_0 (by decide) rfl im_X7_failed se_X7_failed mi_X7_failed ml_X7_52 rfl rfl (As := [.int (-1000000003)]) rfl rfl rfl dX7_walks_36 rfl (fun r1 s1 hw => ?_)
        exact x_ret hg dX7_walks_39 hw
    · refine x_aload_0 hg dX7_walks_11 rfl ?_
      refine x_ldc hg kc_X7_51 dX7_walks_12 rfl ?_
      refine x_callVI hg (xB_failed (gL g)  hw) kC_0 (by decide) rfl im_X7_failed se_X7_failed mi_X7_failed ml_X7_52 rfl rfl (As := [.int (-1000000001)]) rfl rfl rfl dX7_walks_14 rfl (fun r1 s1 hw => ?_)
      exact x_ret hg dX7_walks_17 hw
def wB_loose_44 (f1 : Int32) (K62 : Sg → Prop) : Nat → Int32 → Sg → Prop
  | 0, _, _ => False
  | n + 1, a2, s0 => ((f1 ≤ a2 → K62  s0) ∧ (¬ f1 ≤ a2 → (wBag_goByDraws  s0 (fun (s1 : Sg) => wB_loose_44 f1 K62 n ((a2 + 1)) s1))))
def wB_loose (a1 : Int32) (s0 : Sg) (P : Int32 → Sg → Prop) : Prop := ((a1 < 1 → (wB_failed ((-1000000001)) s0 (fun (r1 : Int32) (s1 : Sg) => P r1 s1))) ∧ (¬ a1 < 1 → ((a1 ≤ 20 → ((((s0 1 4) + (3 * a1)) ≤ 9999 → (∃ N1 : Nat, wB_loose_44 a1 (fun  (s1 : Sg) => P ((s1 1 5)) s1) N1 0 s0)) ∧ (¬ ((s0 1 4) + (3 * a1)) ≤ 9999 → (wB_failed ((-1000000003)) s0 (fun (r1 : Int32) (s1 : Sg) => P r1 s1))))) ∧ (¬ a1 ≤ 20 → (wB_failed ((-1000000001)) s0 (fun (r1 : Int32) (s1 : Sg) => P r1 s1))))))
set_option maxRecDepth 100000 in
set_option maxHeartbeats 4000000 in
theorem xB_loose_44 {w : Wc} {g : Gx} {Q : State → Prop} {f1 : Int32} {K62 : Sg → Prop} (hg : OK shC w g 7 cX7_loose "BagBottom" 3 (some .int)) (hK62 : ∀ (s0 : Sg), K62  s0 → X shC w g Q 62 [some (.ref (ad w 0)), none, none] [] s0) : ∀ (n : Nat) (a2 : Int32) (s0 : Sg), wB_loose_44 f1 K62 n a2 s0 → X shC w g Q 44 [some (.ref (ad w 0)), some (.int f1), some (.int a2)] [] s0 := by
  intro n
  induction n with
  | zero =>
    intro a2 s0 hw
    exact hw.elim
  | succ n ih =>
    intro a2 s0 hw
    rw [wB_loose_44] at hw
    refine x_iload_2 hg dX7_loose_44 rfl ?_
    refine x_iload_1 hg dX7_loose_45 rfl ?_
    refine x_icmp_ge hg dX7_loose_46 (tg := 62) (by decide) rfl hw (fun hw => ?_) (fun hw => ?_)
    · refine x_drop_1 ?_
      refine x_drop_2 ?_
      exact hK62  _ hw
    · refine x_aload_0 hg dX7_loose_49 rfl ?_
      refine get_X7_0 hg kC_0 fl_X7_12 dX7_loose_50 rfl (k2 := 1) rfl ?_
      refine x_callVV hg (xBag_goByDraws (gL g)  hw) kC_1 (by decide) rfl im_X0_goByDraws se_X0_goByDraws mi_X0_goByDraws ml_X7_181 rfl rfl (As := []) rfl rfl rfl dX7_loose_53 rfl (fun s1 hw => ?_)
      refine x_iinc_2 hg dX7_loose_56 ic_1 rfl rfl rfl ?_
      refine x_goto hg dX7_loose_59 (pc' := 44) (by decide) ?_
      exact ih _ _ hw
set_option maxRecDepth 100000 in
set_option maxHeartbeats 4000000 in
theorem xB_loose {w : Wc} (l : Launch) {a1 : Int32} {s0 : Sg} {P : Int32 → Sg → Prop} (hw : wB_loose a1 s0 P) : CI shC w l 7 (.code yX7_loose cX7_loose 3 (some .int)) yX7_loose [.ref (ad w 0), .int a1] s0 P := by
  refine ci_of_i (own := "BagBottom") (ls0 := [some (.ref (ad w 0)), some (.int a1), none]) rfl pn_X7 rfl rfl (fun g el hg => ?_)
  unfold wB_loose at hw
  refine x_iload_1 hg dX7_loose_0 rfl ?_
  refine x_ic hg dX7_loose_1 ic_1 rfl ?_
  refine x_icmp_lt hg dX7_loose_2 (tg := 11) (by decide) rfl hw (fun hw => ?_) (fun hw => ?_)
  · refine x_aload_0 hg dX7_loose_11 rfl ?_
    refine x_ldc hg kc_X7_51 dX7_loose_12 rfl ?_
    refine x_callVI hg (xB_failed (gL g)  hw) kC_0 (by decide) rfl im_X7_failed se_X7_failed mi_X7_failed ml_X7_52 rfl rfl (As := [.int (-1000000001)]) rfl rfl rfl dX7_loose_14 rfl (fun r1 s1 hw => ?_)
    exact x_ret hg dX7_loose_17 hw
  · refine x_iload_1 hg dX7_loose_5 rfl ?_
    refine x_bi hg dX7_loose_6 bp_20 rfl ?_
    refine x_icmp_le hg dX7_loose_8 (tg := 18) (by decide) rfl hw (fun hw => ?_) (fun hw => ?_)
    · refine x_aload_0 hg dX7_loose_18 rfl ?_
      refine get_X7_0 hg kC_0 fl_X7_12 dX7_loose_19 rfl (k2 := 1) rfl ?_
      refine get_X0_4 hg kC_1 fl_X7_89 dX7_loose_22 rfl ?_
      refine x_ic hg dX7_loose_25 ic_3 rfl ?_
      refine x_iload_1 hg dX7_loose_26 rfl ?_
      refine x_imul hg dX7_loose_27 rfl ?_
      refine x_iadd hg dX7_loose_28 rfl ?_
      refine x_si hg dX7_loose_29 sp_9999 rfl ?_
      refine x_icmp_le hg dX7_loose_32 (tg := 42) (by decide) rfl hw (fun hw => ?_) (fun hw => ?_)
      · refine x_ic hg dX7_loose_42 ic_0 rfl ?_
        refine x_istore_2 hg dX7_loose_43 rfl rfl rfl ?_
        obtain ⟨N1, hw⟩ := hw
        refine xB_loose_44 hg  (fun  s1 hw => ?_) _ _ _ hw
        · refine x_aload_0 hg dX7_loose_62 rfl ?_
          refine get_X7_0 hg kC_0 fl_X7_12 dX7_loose_63 rfl (k2 := 1) rfl ?_
          refine get_X0_5 hg kC_1 fl_X7_184 dX7_loose_66 rfl ?_
          exact x_ret hg dX7_loose_69 hw
      · refine x_aload_0 hg dX7_loose_35 rfl ?_
        refine x_ldc hg kc_X7_115 dX7_loose_36 rfl ?_
        refine x_callVI hg (xB_failed (gL g)  hw) kC_0 (by decide) rfl im_X7_failed se_X7_failed mi_X7_failed ml_X7_52 rfl rfl (As := [.int (-1000000003)]) rfl rfl rfl dX7_loose_38 rfl (fun r1 s1 hw => ?_)
        exact x_ret hg dX7_loose_41 hw
    · refine x_aload_0 hg dX7_loose_11 rfl ?_
      refine x_ldc hg kc_X7_51 dX7_loose_12 rfl ?_
      refine x_callVI hg (xB_failed (gL g)  hw) kC_0 (by decide) rfl im_X7_failed se_X7_failed mi_X7_failed ml_X7_52 rfl rfl (As := [.int (-1000000001)]) rfl rfl rfl dX7_loose_14 rfl (fun r1 s1 hw => ?_)
      exact x_ret hg dX7_loose_17 hw
def wB_seed (a1 : Int32) (s0 : Sg) (P : Int32 → Sg → Prop) : Prop := (∀ s1 : Sg, s1 = u2 s0 1 6 a1 → P ((s0 1 6)) s1)
set_option maxRecDepth 100000 in
set_option maxHeartbeats 4000000 in
theorem xB_seed {w : Wc} (l : Launch) {a1 : Int32} {s0 : Sg} {P : Int32 → Sg → Prop} (hw : wB_seed a1 s0 P) : CI shC w l 1 (.code yX7_seed cX7_seed 3 (some .int)) yX7_seed [.ref (ad w 0), .int a1] s0 P := by
  refine ci_of_i (own := "BagBottom") (ls0 := [some (.ref (ad w 0)), some (.int a1), none]) rfl pn_X7 rfl rfl (fun g el hg => ?_)
  unfold wB_seed at hw
  refine x_aload_0 hg dX7_seed_0 rfl ?_
  refine get_X7_0 hg kC_0 fl_X7_12 dX7_seed_1 rfl (k2 := 1) rfl ?_
  refine get_X0_6 hg kC_1 fl_X7_187 dX7_seed_4 rfl ?_
  refine x_istore_2 hg dX7_seed_7 rfl rfl rfl ?_
  refine x_aload_0 hg dX7_seed_8 rfl ?_
  refine get_X7_0 hg kC_0 fl_X7_12 dX7_seed_9 rfl (k2 := 1) rfl ?_
  refine x_iload_1 hg dX7_seed_12 rfl ?_
  refine put_X0_6 hg kC_1 fl_X7_187 dX7_seed_13 rfl hw (fun s1 hw => ?_)
  refine x_iload_2 hg dX7_seed_16 rfl ?_
  exact x_ret hg dX7_seed_17 hw
def wB_then (a1 : Int32) (a2 : Int32) (s0 : Sg) (P : Int32 → Sg → Prop) : Prop := (wBag_knows a1 s0 (fun (r1 : Int32) (s1 : Sg) => ((r1 = 0 → (wB_failed ((-1000000001)) s1 (fun (r2 : Int32) (s2 : Sg) => P r2 s2))) ∧ (¬ r1 = 0 → ((a2 < 0 → (wB_failed ((-1000000001)) s1 (fun (r2 : Int32) (s2 : Sg) => P r2 s2))) ∧ (¬ a2 < 0 → ((a2 ≤ 100 → (wThought_whereThen a1 a2 s1 (fun (r2 : Int32) (s2 : Sg) => P r2 s2))) ∧ (¬ a2 ≤ 100 → (wB_failed ((-1000000001)) s1 (fun (r2 : Int32) (s2 : Sg) => P r2 s2))))))))))
set_option maxRecDepth 100000 in
set_option maxHeartbeats 4000000 in
theorem xB_then {w : Wc} (l : Launch) {a1 : Int32} {a2 : Int32} {s0 : Sg} {P : Int32 → Sg → Prop} (hw : wB_then a1 a2 s0 P) : CI shC w l 5 (.code yX7_then cX7_then 3 (some .int)) yX7_then [.ref (ad w 0), .int a1, .int a2] s0 P := by
  refine ci_of_i (own := "BagBottom") (ls0 := [some (.ref (ad w 0)), some (.int a1), some (.int a2)]) rfl pn_X7 rfl rfl (fun g el hg => ?_)
  unfold wB_then at hw
  refine x_aload_0 hg dX7_then_0 rfl ?_
  refine get_X7_0 hg kC_0 fl_X7_12 dX7_then_1 rfl (k2 := 1) rfl ?_
  refine x_iload_1 hg dX7_then_4 rfl ?_
  refine x_callVI hg (xBag_knows (gL g)  hw) kC_1 (by decide) rfl im_X0_knows se_X0_knows mi_X0_knows ml_X7_65 rfl rfl (As := [.int a1]) rfl rfl rfl dX7_then_5 rfl (fun r1 s1 hw => ?_)
  refine x_if_eq hg dX7_then_8 (tg := 21) (by decide) rfl hw (fun hw => ?_) (fun hw => ?_)
  · refine x_aload_0 hg dX7_then_21 rfl ?_
    refine x_ldc hg kc_X7_51 dX7_then_22 rfl ?_
    refine x_callVI hg (xB_failed (gL g)  hw) kC_0 (by decide) rfl im_X7_failed se_X7_failed mi_X7_failed ml_X7_52 rfl rfl (As := [.int (-1000000001)]) rfl rfl rfl dX7_then_24 rfl (fun r2 s2 hw => ?_)
    exact x_ret hg dX7_then_27 hw
  · refine x_iload_2 hg dX7_then_11 rfl ?_
    refine x_if_lt hg dX7_then_12 (tg := 21) (by decide) rfl hw (fun hw => ?_) (fun hw => ?_)
    · refine x_aload_0 hg dX7_then_21 rfl ?_
      refine x_ldc hg kc_X7_51 dX7_then_22 rfl ?_
      refine x_callVI hg (xB_failed (gL g)  hw) kC_0 (by decide) rfl im_X7_failed se_X7_failed mi_X7_failed ml_X7_52 rfl rfl (As := [.int (-1000000001)]) rfl rfl rfl dX7_then_24 rfl (fun r2 s2 hw => ?_)
      exact x_ret hg dX7_then_27 hw
    · refine x_iload_2 hg dX7_then_15 rfl ?_
      refine x_bi hg dX7_then_16 bp_100 rfl ?_
      refine x_icmp_le hg dX7_then_18 (tg := 28) (by decide) rfl hw (fun hw => ?_) (fun hw => ?_)
      · refine x_aload_0 hg dX7_then_28 rfl ?_
        refine get_X7_5 hg kC_0 fl_X7_35 dX7_then_29 rfl (k2 := 67) rfl ?_
        refine x_aload_0 hg dX7_then_32 rfl ?_
        refine get_X7_0 hg kC_0 fl_X7_12 dX7_then_33 rfl (k2 := 1) rfl ?_
        refine x_iload_1 hg dX7_then_36 rfl ?_
        refine x_iload_2 hg dX7_then_37 rfl ?_
        refine x_callVI hg (xThought_whereThen (gL g)  hw) kC_67 (by decide) rfl im_X5_whereThen se_X5_whereThen mi_X5_whereThen ml_X7_190 rfl rfl (As := [.ref (ad w 1), .int a1, .int a2]) rfl rfl rfl dX7_then_38 rfl (fun r2 s2 hw => ?_)
        exact x_ret hg dX7_then_41 hw
      · refine x_aload_0 hg dX7_then_21 rfl ?_
        refine x_ldc hg kc_X7_51 dX7_then_22 rfl ?_
        refine x_callVI hg (xB_failed (gL g)  hw) kC_0 (by decide) rfl im_X7_failed se_X7_failed mi_X7_failed ml_X7_52 rfl rfl (As := [.int (-1000000001)]) rfl rfl rfl dX7_then_24 rfl (fun r2 s2 hw => ?_)
        exact x_ret hg dX7_then_27 hw
def wB_settles (s0 : Sg) (P : Int32 → Sg → Prop) : Prop := (wThought_stepsToSettle  s0 (fun (r1 : Int32) (s1 : Sg) => ((¬ r1 = (-1) → P r1 s1) ∧ (r1 = (-1) → (wB_failed ((-1000000002)) s1 (fun (r2 : Int32) (s2 : Sg) => P r2 s2))))))
set_option maxRecDepth 100000 in
set_option maxHeartbeats 4000000 in
theorem xB_settles {w : Wc} (l : Launch) {s0 : Sg} {P : Int32 → Sg → Prop} (hw : wB_settles  s0 P) : CI shC w l 5 (.code yX7_settles cX7_settles 2 (some .int)) yX7_settles [.ref (ad w 0)] s0 P := by
  refine ci_of_i (own := "BagBottom") (ls0 := [some (.ref (ad w 0)), none]) rfl pn_X7 rfl rfl (fun g el hg => ?_)
  unfold wB_settles at hw
  refine x_aload_0 hg dX7_settles_0 rfl ?_
  refine get_X7_5 hg kC_0 fl_X7_35 dX7_settles_1 rfl (k2 := 67) rfl ?_
  refine x_aload_0 hg dX7_settles_4 rfl ?_
  refine get_X7_0 hg kC_0 fl_X7_12 dX7_settles_5 rfl (k2 := 1) rfl ?_
  refine x_callVI hg (xThought_stepsToSettle (gL g)  hw) kC_67 (by decide) rfl im_X5_stepsToSettle se_X5_stepsToSettle mi_X5_stepsToSettle ml_X7_194 rfl rfl (As := [.ref (ad w 1)]) rfl rfl rfl dX7_settles_8 rfl (fun r1 s1 hw => ?_)
  refine x_istore_1 hg dX7_settles_11 rfl rfl rfl ?_
  refine x_iload_1 hg dX7_settles_12 rfl ?_
  refine x_ic hg dX7_settles_13 ic_m1 rfl ?_
  refine x_icmp_ne hg dX7_settles_14 (tg := 26) (by decide) rfl hw (fun hw => ?_) (fun hw => ?_)
  · refine x_iload_1 hg dX7_settles_26 rfl ?_
    exact x_ret hg dX7_settles_27 hw
  · refine x_aload_0 hg dX7_settles_17 rfl ?_
    refine x_ldc hg kc_X7_198 dX7_settles_18 rfl ?_
    refine x_callVI hg (xB_failed (gL g)  hw) kC_0 (by decide) rfl im_X7_failed se_X7_failed mi_X7_failed ml_X7_52 rfl rfl (As := [.int (-1000000002)]) rfl rfl rfl dX7_settles_20 rfl (fun r2 s2 hw => ?_)
    refine x_goto hg dX7_settles_23 (pc' := 27) (by decide) ?_
    exact x_ret hg dX7_settles_27 hw
def wB_pack (a1 : Int32) (a2 : Int32) (s0 : Sg) (P : Int32 → Sg → Prop) : Prop := ((a1 < 0 → (wB_failed ((-1000000001)) s0 (fun (r1 : Int32) (s1 : Sg) => P r1 s1))) ∧ (¬ a1 < 0 → ((20 < a1 → (wB_failed ((-1000000001)) s0 (fun (r1 : Int32) (s1 : Sg) => P r1 s1))) ∧ (¬ 20 < a1 → ((a2 < (-1) → (wB_failed ((-1000000001)) s0 (fun (r1 : Int32) (s1 : Sg) => P r1 s1))) ∧ (¬ a2 < (-1) → ((a2 < 6 → (((s0 3 1) ≤ 6 → ((a2 < (s0 3 1) → (wThought_packFor a1 s0 (fun (r1 : Int32) (s1 : Sg) => ((¬ a2 = (-1) → (vp_in a2 9 ∧ P ((s1 69 (ix a2))) s1)) ∧ (a2 = (-1) → P r1 s1))))) ∧ (¬ a2 < (s0 3 1) → (wB_failed ((-1000000002)) s0 (fun (r1 : Int32) (s1 : Sg) => P r1 s1))))) ∧ (¬ (s0 3 1) ≤ 6 → (wB_failed ((-1000000003)) s0 (fun (r1 : Int32) (s1 : Sg) => P r1 s1))))) ∧ (¬ a2 < 6 → (wB_failed ((-1000000001)) s0 (fun (r1 : Int32) (s1 : Sg) => P r1 s1))))))))))
set_option maxRecDepth 100000 in
set_option maxHeartbeats 4000000 in
theorem xB_pack {w : Wc} (l : Launch) {a1 : Int32} {a2 : Int32} {s0 : Sg} {P : Int32 → Sg → Prop} (hw : wB_pack a1 a2 s0 P) : CI shC w l 7 (.code yX7_pack cX7_pack 4 (some .int)) yX7_pack [.ref (ad w 0), .int a1, .int a2] s0 P := by
  refine ci_of_i (own := "BagBottom") (ls0 := [some (.ref (ad w 0)), some (.int a1), some (.int a2), none]) rfl pn_X7 rfl rfl (fun g el hg => ?_)
  unfold wB_pack at hw
  refine x_iload_1 hg dX7_pack_0 rfl ?_
  refine x_if_lt hg dX7_pack_1 (tg := 21) (by decide) rfl hw (fun hw => ?_) (fun hw => ?_)
  · refine x_aload_0 hg dX7_pack_21 rfl ?_
    refine x_ldc hg kc_X7_51 dX7_pack_22 rfl ?_
    refine x_callVI hg (xB_failed (gL g)  hw) kC_0 (by decide) rfl im_X7_failed se_X7_failed mi_X7_failed ml_X7_52 rfl rfl (As := [.int (-1000000001)]) rfl rfl rfl dX7_pack_24 rfl (fun r1 s1 hw => ?_)
    exact x_ret hg dX7_pack_27 hw
  · refine x_iload_1 hg dX7_pack_4 rfl ?_
    refine x_bi hg dX7_pack_5 bp_20 rfl ?_
    refine x_icmp_gt hg dX7_pack_7 (tg := 21) (by decide) rfl hw (fun hw => ?_) (fun hw => ?_)
    · refine x_aload_0 hg dX7_pack_21 rfl ?_
      refine x_ldc hg kc_X7_51 dX7_pack_22 rfl ?_
      refine x_callVI hg (xB_failed (gL g)  hw) kC_0 (by decide) rfl im_X7_failed se_X7_failed mi_X7_failed ml_X7_52 rfl rfl (As := [.int (-1000000001)]) rfl rfl rfl dX7_pack_24 rfl (fun r1 s1 hw => ?_)
      exact x_ret hg dX7_pack_27 hw
    · refine x_iload_2 hg dX7_pack_10 rfl ?_
      refine x_ic hg dX7_pack_11 ic_m1 rfl ?_
      refine x_icmp_lt hg dX7_pack_12 (tg := 21) (by decide) rfl hw (fun hw => ?_) (fun hw => ?_)
      · refine x_aload_0 hg dX7_pack_21 rfl ?_
        refine x_ldc hg kc_X7_51 dX7_pack_22 rfl ?_
        refine x_callVI hg (xB_failed (gL g)  hw) kC_0 (by decide) rfl im_X7_failed se_X7_failed mi_X7_failed ml_X7_52 rfl rfl (As := [.int (-1000000001)]) rfl rfl rfl dX7_pack_24 rfl (fun r1 s1 hw => ?_)
        exact x_ret hg dX7_pack_27 hw
      · refine x_iload_2 hg dX7_pack_15 rfl ?_
        refine x_bi hg dX7_pack_16 bp_6 rfl ?_
        refine x_icmp_lt hg dX7_pack_18 (tg := 28) (by decide) rfl hw (fun hw => ?_) (fun hw => ?_)
        · refine x_aload_0 hg dX7_pack_28 rfl ?_
          refine get_X7_0 hg kC_0 fl_X7_12 dX7_pack_29 rfl (k2 := 1) rfl ?_
          refine get_X0_2 hg kC_1 fl_X7_103 dX7_pack_32 rfl (k2 := 3) rfl ?_
          refine get_X1_1 hg kC_3 fl_X7_120 dX7_pack_35 rfl ?_
          refine x_bi hg dX7_pack_38 bp_6 rfl ?_
          refine x_icmp_le hg dX7_pack_40 (tg := 50) (by decide) rfl hw (fun hw => ?_) (fun hw => ?_)
          · refine x_iload_2 hg dX7_pack_50 rfl ?_
            refine x_aload_0 hg dX7_pack_51 rfl ?_
            refine get_X7_0 hg kC_0 fl_X7_12 dX7_pack_52 rfl (k2 := 1) rfl ?_
            refine get_X0_2 hg kC_1 fl_X7_103 dX7_pack_55 rfl (k2 := 3) rfl ?_
            refine get_X1_1 hg kC_3 fl_X7_120 dX7_pack_58 rfl ?_
            refine x_icmp_lt hg dX7_pack_61 (tg := 71) (by decide) rfl hw (fun hw => ?_) (fun hw => ?_)
            · refine x_aload_0 hg dX7_pack_71 rfl ?_
              refine get_X7_5 hg kC_0 fl_X7_35 dX7_pack_72 rfl (k2 := 67) rfl ?_
              refine x_aload_0 hg dX7_pack_75 rfl ?_
              refine get_X7_0 hg kC_0 fl_X7_12 dX7_pack_76 rfl (k2 := 1) rfl ?_
              refine x_iload_1 hg dX7_pack_79 rfl ?_
              refine x_callVI hg (xThought_packFor (gL g)  hw) kC_67 (by decide) rfl im_X5_packFor se_X5_packFor mi_X5_packFor ml_X7_199 rfl rfl (As := [.ref (ad w 1), .int a1]) rfl rfl rfl dX7_pack_80 rfl (fun r1 s1 hw => ?_)
              refine x_istore_3 hg dX7_pack_83 rfl rfl rfl ?_
              refine x_iload_2 hg dX7_pack_84 rfl ?_
              refine x_ic hg dX7_pack_85 ic_m1 rfl ?_
              refine x_icmp_ne hg dX7_pack_86 (tg := 93) (by decide) rfl hw (fun hw => ?_) (fun hw => ?_)
              · refine x_aload_0 hg dX7_pack_93 rfl ?_
                refine get_X7_5 hg kC_0 fl_X7_35 dX7_pack_94 rfl (k2 := 67) rfl ?_
                refine get_X5_0 hg kC_67 fl_X7_203 dX7_pack_97 rfl (k2 := 68) rfl ?_
                refine get_X1_0 hg kC_68 fl_X7_112 dX7_pack_100 rfl (k2 := 69) rfl ?_
                refine x_iload_2 hg dX7_pack_103 rfl ?_
                refine x_iald hg kC_69 rfl dX7_pack_104 rfl hw (fun hw => ?_)
                exact x_ret hg dX7_pack_105 hw
              · refine x_iload_3 hg dX7_pack_89 rfl ?_
                refine x_goto hg dX7_pack_90 (pc' := 105) (by decide) ?_
                exact x_ret hg dX7_pack_105 hw
            · refine x_aload_0 hg dX7_pack_64 rfl ?_
              refine x_ldc hg kc_X7_198 dX7_pack_65 rfl ?_
              refine x_callVI hg (xB_failed (gL g)  hw) kC_0 (by decide) rfl im_X7_failed se_X7_failed mi_X7_failed ml_X7_52 rfl rfl (As := [.int (-1000000002)]) rfl rfl rfl dX7_pack_67 rfl (fun r1 s1 hw => ?_)
              exact x_ret hg dX7_pack_70 hw
          · refine x_aload_0 hg dX7_pack_43 rfl ?_
            refine x_ldc hg kc_X7_115 dX7_pack_44 rfl ?_
            refine x_callVI hg (xB_failed (gL g)  hw) kC_0 (by decide) rfl im_X7_failed se_X7_failed mi_X7_failed ml_X7_52 rfl rfl (As := [.int (-1000000003)]) rfl rfl rfl dX7_pack_46 rfl (fun r1 s1 hw => ?_)
            exact x_ret hg dX7_pack_49 hw
        · refine x_aload_0 hg dX7_pack_21 rfl ?_
          refine x_ldc hg kc_X7_51 dX7_pack_22 rfl ?_
          refine x_callVI hg (xB_failed (gL g)  hw) kC_0 (by decide) rfl im_X7_failed se_X7_failed mi_X7_failed ml_X7_52 rfl rfl (As := [.int (-1000000001)]) rfl rfl rfl dX7_pack_24 rfl (fun r1 s1 hw => ?_)
          exact x_ret hg dX7_pack_27 hw
def wB_isTimeAsked (a0 : Int32) (s0 : Sg) (P : Int32 → Sg → Prop) : Prop := ((a0 < 0 → P 0 s0) ∧ (¬ a0 < 0 → ((999 < a0 → P 0 s0) ∧ (¬ 999 < a0 → P 1 s0))))
set_option maxRecDepth 100000 in
set_option maxHeartbeats 4000000 in
theorem xB_isTimeAsked {w : Wc} (l : Launch) {a0 : Int32} {s0 : Sg} {P : Int32 → Sg → Prop} (hw : wB_isTimeAsked a0 s0 P) : CI shC w l 1 (.code yX7_isTimeAsked cX7_isTimeAsked 1 (some .boolean)) yX7_isTimeAsked [.int a0] s0 P := by
  refine ci_of_z (own := "BagBottom") (ls0 := [some (.int a0)]) rfl pn_X7 rfl rfl (fun g el hg => ?_)
  unfold wB_isTimeAsked at hw
  refine x_iload_0 hg dX7_isTimeAsked_0 rfl ?_
  refine x_if_lt hg dX7_isTimeAsked_1 (tg := 15) (by decide) rfl hw (fun hw => ?_) (fun hw => ?_)
  · refine x_ic hg dX7_isTimeAsked_15 ic_0 rfl ?_
    exact x_zret hg dX7_isTimeAsked_16 (by decide) hw
  · refine x_iload_0 hg dX7_isTimeAsked_4 rfl ?_
    refine x_si hg dX7_isTimeAsked_5 sp_999 rfl ?_
    refine x_icmp_gt hg dX7_isTimeAsked_8 (tg := 15) (by decide) rfl hw (fun hw => ?_) (fun hw => ?_)
    · refine x_ic hg dX7_isTimeAsked_15 ic_0 rfl ?_
      exact x_zret hg dX7_isTimeAsked_16 (by decide) hw
    · refine x_ic hg dX7_isTimeAsked_11 ic_1 rfl ?_
      refine x_goto hg dX7_isTimeAsked_12 (pc' := 16) (by decide) ?_
      exact x_zret hg dX7_isTimeAsked_16 (by decide) hw
def wB_out (a1 : Int32) (a2 : Int32) (a3 : Int32) (s0 : Sg) (P : Int32 → Sg → Prop) : Prop := (wBag_knows a1 s0 (fun (r1 : Int32) (s1 : Sg) => ((r1 = 0 → (wB_failed ((-1000000001)) s1 (fun (r2 : Int32) (s2 : Sg) => P r2 s2))) ∧ (¬ r1 = 0 → (wB_isTimeAsked a2 s1 (fun (r2 : Int32) (s2 : Sg) => ((r2 = 0 → (wB_failed ((-1000000001)) s2 (fun (r3 : Int32) (s3 : Sg) => P r3 s3))) ∧ (¬ r2 = 0 → ((a3 < 0 → (wB_failed ((-1000000001)) s2 (fun (r3 : Int32) (s3 : Sg) => P r3 s3))) ∧ (¬ a3 < 0 → ((a3 ≤ 1 → (wBag_whereIs a1 s2 (fun (r3 : Int32) (s3 : Sg) => ((0 ≤ r3 → (wThought_setLeftOut a1 a2 s3 (fun (r4 : Int32) (s4 : Sg) => ((¬ r4 = (-1) → ((¬ a3 = 0 → P r4 s4) ∧ (a3 = 0 → (wJInt_bitCount r4 s4 (fun (r5 : Int32) (s5 : Sg) => P r5 s5))))) ∧ (r4 = (-1) → (wB_failed ((-1000000002)) s4 (fun (r5 : Int32) (s5 : Sg) => P r5 s5))))))) ∧ (¬ 0 ≤ r3 → (wB_failed ((-1000000003)) s3 (fun (r4 : Int32) (s4 : Sg) => P r4 s4))))))) ∧ (¬ a3 ≤ 1 → (wB_failed ((-1000000001)) s2 (fun (r3 : Int32) (s3 : Sg) => P r3 s3))))))))))))))
set_option maxRecDepth 100000 in
set_option maxHeartbeats 4000000 in
theorem xB_out {w : Wc} (l : Launch) {a1 : Int32} {a2 : Int32} {a3 : Int32} {s0 : Sg} {P : Int32 → Sg → Prop} (hw : wB_out a1 a2 a3 s0 P) : CI shC w l 7 (.code yX7_out cX7_out 5 (some .int)) yX7_out [.ref (ad w 0), .int a1, .int a2, .int a3] s0 P := by
  refine ci_of_i (own := "BagBottom") (ls0 := [some (.ref (ad w 0)), some (.int a1), some (.int a2), some (.int a3), none]) rfl pn_X7 rfl rfl (fun g el hg => ?_)
  unfold wB_out at hw
  refine x_aload_0 hg dX7_out_0 rfl ?_
  refine get_X7_0 hg kC_0 fl_X7_12 dX7_out_1 rfl (k2 := 1) rfl ?_
  refine x_iload_1 hg dX7_out_4 rfl ?_
  refine x_callVI hg (xBag_knows (gL g)  hw) kC_1 (by decide) rfl im_X0_knows se_X0_knows mi_X0_knows ml_X7_65 rfl rfl (As := [.int a1]) rfl rfl rfl dX7_out_5 rfl (fun r1 s1 hw => ?_)
  refine x_if_eq hg dX7_out_8 (tg := 27) (by decide) rfl hw (fun hw => ?_) (fun hw => ?_)
  · refine x_aload_0 hg dX7_out_27 rfl ?_
    refine x_ldc hg kc_X7_51 dX7_out_28 rfl ?_
    refine x_callVI hg (xB_failed (gL g)  hw) kC_0 (by decide) rfl im_X7_failed se_X7_failed mi_X7_failed ml_X7_52 rfl rfl (As := [.int (-1000000001)]) rfl rfl rfl dX7_out_30 rfl (fun r2 s2 hw => ?_)
    exact x_ret hg dX7_out_33 hw
  · refine x_iload_2 hg dX7_out_11 rfl ?_
    refine x_callSI hg (xB_isTimeAsked (gL g)  hw) sm_X7_isTimeAsked mi_X7_isTimeAsked ml_X7_206 rfl rfl (As := [.int a2]) rfl rfl rfl dX7_out_12 rfl (fun r2 s2 hw => ?_)
    refine x_if_eq hg dX7_out_15 (tg := 27) (by decide) rfl hw (fun hw => ?_) (fun hw => ?_)
    · refine x_aload_0 hg dX7_out_27 rfl ?_
      refine x_ldc hg kc_X7_51 dX7_out_28 rfl ?_
      refine x_callVI hg (xB_failed (gL g)  hw) kC_0 (by decide) rfl im_X7_failed se_X7_failed mi_X7_failed ml_X7_52 rfl rfl (As := [.int (-1000000001)]) rfl rfl rfl dX7_out_30 rfl (fun r3 s3 hw => ?_)
      exact x_ret hg dX7_out_33 hw
    · refine x_iload_3 hg dX7_out_18 rfl ?_
      refine x_if_lt hg dX7_out_19 (tg := 27) (by decide) rfl hw (fun hw => ?_) (fun hw => ?_)
      · refine x_aload_0 hg dX7_out_27 rfl ?_
        refine x_ldc hg kc_X7_51 dX7_out_28 rfl ?_
        refine x_callVI hg (xB_failed (gL g)  hw) kC_0 (by decide) rfl im_X7_failed se_X7_failed mi_X7_failed ml_X7_52 rfl rfl (As := [.int (-1000000001)]) rfl rfl rfl dX7_out_30 rfl (fun r3 s3 hw => ?_)
        exact x_ret hg dX7_out_33 hw
      · refine x_iload_3 hg dX7_out_22 rfl ?_
        refine x_ic hg dX7_out_23 ic_1 rfl ?_
        refine x_icmp_le hg dX7_out_24 (tg := 34) (by decide) rfl hw (fun hw => ?_) (fun hw => ?_)
        · refine x_aload_0 hg dX7_out_34 rfl ?_
          refine get_X7_0 hg kC_0 fl_X7_12 dX7_out_35 rfl (k2 := 1) rfl ?_
          refine x_iload_1 hg dX7_out_38 rfl ?_
          refine x_callVI hg (xBag_whereIs (gL g)  hw) kC_1 (by decide) rfl im_X0_whereIs se_X0_whereIs mi_X0_whereIs ml_X7_86 rfl rfl (As := [.int a1]) rfl rfl rfl dX7_out_39 rfl (fun r3 s3 hw => ?_)
          refine x_if_ge hg dX7_out_42 (tg := 52) (by decide) rfl hw (fun hw => ?_) (fun hw => ?_)
          · refine x_aload_0 hg dX7_out_52 rfl ?_
            refine get_X7_5 hg kC_0 fl_X7_35 dX7_out_53 rfl (k2 := 67) rfl ?_
            refine x_aload_0 hg dX7_out_56 rfl ?_
            refine get_X7_0 hg kC_0 fl_X7_12 dX7_out_57 rfl (k2 := 1) rfl ?_
            refine x_iload_1 hg dX7_out_60 rfl ?_
            refine x_iload_2 hg dX7_out_61 rfl ?_
            refine x_callVI hg (xThought_setLeftOut (gL g)  hw) kC_67 (by decide) rfl im_X5_setLeftOut se_X5_setLeftOut mi_X5_setLeftOut ml_X7_209 rfl rfl (As := [.ref (ad w 1), .int a1, .int a2]) rfl rfl rfl dX7_out_62 rfl (fun r4 s4 hw => ?_)
            refine x_istore_4 hg dX7_out_65 rfl rfl rfl ?_
            refine x_iload_4 hg dX7_out_67 rfl ?_
            refine x_ic hg dX7_out_69 ic_m1 rfl ?_
            refine x_icmp_ne hg dX7_out_70 (tg := 80) (by decide) rfl hw (fun hw => ?_) (fun hw => ?_)
            · refine x_iload_3 hg dX7_out_80 rfl ?_
              refine x_if_ne hg dX7_out_81 (tg := 92) (by decide) rfl hw (fun hw => ?_) (fun hw => ?_)
              · refine x_iload_4 hg dX7_out_92 rfl ?_
                exact x_ret hg dX7_out_94 hw
              · refine x_iload_4 hg dX7_out_84 rfl ?_
                refine x_callSI hg (xJInt_bitCount (gL g)  hw) sm_J6_bitCount_0f7a4 mi_J6_bitCount_0f7a4 ml_X7_212 rfl rfl (As := [.int r4]) rfl rfl rfl dX7_out_86 rfl (fun r5 s5 hw => ?_)
                refine x_goto hg dX7_out_89 (pc' := 94) (by decide) ?_
                exact x_ret hg dX7_out_94 hw
            · refine x_aload_0 hg dX7_out_73 rfl ?_
              refine x_ldc hg kc_X7_198 dX7_out_74 rfl ?_
              refine x_callVI hg (xB_failed (gL g)  hw) kC_0 (by decide) rfl im_X7_failed se_X7_failed mi_X7_failed ml_X7_52 rfl rfl (As := [.int (-1000000002)]) rfl rfl rfl dX7_out_76 rfl (fun r5 s5 hw => ?_)
              exact x_ret hg dX7_out_79 hw
          · refine x_aload_0 hg dX7_out_45 rfl ?_
            refine x_ldc hg kc_X7_115 dX7_out_46 rfl ?_
            refine x_callVI hg (xB_failed (gL g)  hw) kC_0 (by decide) rfl im_X7_failed se_X7_failed mi_X7_failed ml_X7_52 rfl rfl (As := [.int (-1000000003)]) rfl rfl rfl dX7_out_48 rfl (fun r4 s4 hw => ?_)
            exact x_ret hg dX7_out_51 hw
        · refine x_aload_0 hg dX7_out_27 rfl ?_
          refine x_ldc hg kc_X7_51 dX7_out_28 rfl ?_
          refine x_callVI hg (xB_failed (gL g)  hw) kC_0 (by decide) rfl im_X7_failed se_X7_failed mi_X7_failed ml_X7_52 rfl rfl (As := [.int (-1000000001)]) rfl rfl rfl dX7_out_30 rfl (fun r3 s3 hw => ?_)
          exact x_ret hg dX7_out_33 hw
def wB_commonDivisor_7 (K34 : Int32 → Sg → Prop) : Nat → Int32 → Int32 → Int32 → Sg → Prop
  | 0, _, _, _, _ => False
  | n + 1, a2, a3, a4, s0 => ((64 ≤ a4 → K34 a2 s0) ∧ (¬ 64 ≤ a4 → ((a3 = 0 → K34 a2 s0) ∧ (¬ a3 = 0 → (¬ a3 = 0 ∧ wB_commonDivisor_7 K34 n a3 ((a2 - a2 / a3 * a3)) ((a4 + 1)) s0)))))
def wB_commonDivisor (a0 : Int32) (a1 : Int32) (s0 : Sg) (P : Int32 → Sg → Prop) : Prop := (∃ N1 : Nat, wB_commonDivisor_7 (fun (v1 : Int32) (s1 : Sg) => P v1 s1) N1 a0 a1 0 s0)
set_option maxRecDepth 100000 in
set_option maxHeartbeats 4000000 in
theorem xB_commonDivisor_7 {w : Wc} {g : Gx} {Q : State → Prop} {K34 : Int32 → Sg → Prop} (hg : OK shC w g 1 cX7_commonDivisor "BagBottom" 6 (some .int)) (hK34 : ∀ (a2 : Int32) (s0 : Sg), K34 a2 s0 → X shC w g Q 34 [none, none, some (.int a2), none, none, none] [] s0) : ∀ (n : Nat) (a2 a3 a4 : Int32) (s0 : Sg), wB_commonDivisor_7 K34 n a2 a3 a4 s0 → X shC w g Q 7 [none, none, some (.int a2), some (.int a3), some (.int a4), none] [] s0 := by
  intro n
  induction n with
  | zero =>
    intro a2 a3 a4 s0 hw
    exact hw.elim
  | succ n ih =>
    intro a2 a3 a4 s0 hw
    rw [wB_commonDivisor_7] at hw
    refine x_iload_4 hg dX7_commonDivisor_7 rfl ?_
    refine x_bi hg dX7_commonDivisor_9 bp_64 rfl ?_
    refine x_icmp_ge hg dX7_commonDivisor_11 (tg := 34) (by decide) rfl hw (fun hw => ?_) (fun hw => ?_)
    · refine x_drop_3 ?_
      refine x_drop_4 ?_
      exact hK34 _ _ hw
    · refine x_iload_3 hg dX7_commonDivisor_14 rfl ?_
      refine x_if_eq hg dX7_commonDivisor_15 (tg := 34) (by decide) rfl hw (fun hw => ?_) (fun hw => ?_)
      · refine x_drop_3 ?_
        refine x_drop_4 ?_
        exact hK34 _ _ hw
      · refine x_iload_2 hg dX7_commonDivisor_18 rfl ?_
        refine x_iload_3 hg dX7_commonDivisor_19 rfl ?_
        obtain ⟨hne, hw⟩ := hw
        refine x_irem hg dX7_commonDivisor_20 hne rfl ?_
        refine x_istore_5 hg dX7_commonDivisor_21 rfl rfl rfl ?_
        refine x_iload_3 hg dX7_commonDivisor_23 rfl ?_
        refine x_istore_2 hg dX7_commonDivisor_24 rfl rfl rfl ?_
        refine x_iload_5 hg dX7_commonDivisor_25 rfl ?_
        refine x_istore_3 hg dX7_commonDivisor_27 rfl rfl rfl ?_
        refine x_iinc_4 hg dX7_commonDivisor_28 ic_1 rfl rfl rfl ?_
        refine x_goto hg dX7_commonDivisor_31 (pc' := 7) (by decide) ?_
        refine x_drop_5 ?_
        exact ih _ _ _ _ hw
set_option maxRecDepth 100000 in
set_option maxHeartbeats 4000000 in
theorem xB_commonDivisor {w : Wc} (l : Launch) {a0 : Int32} {a1 : Int32} {s0 : Sg} {P : Int32 → Sg → Prop} (hw : wB_commonDivisor a0 a1 s0 P) : CI shC w l 1 (.code yX7_commonDivisor cX7_commonDivisor 6 (some .int)) yX7_commonDivisor [.int a0, .int a1] s0 P := by
  refine ci_of_i (own := "BagBottom") (ls0 := [some (.int a0), some (.int a1), none, none, none, none]) rfl pn_X7 rfl rfl (fun g el hg => ?_)
  unfold wB_commonDivisor at hw
  refine x_iload_0 hg dX7_commonDivisor_0 rfl ?_
  refine x_istore_2 hg dX7_commonDivisor_1 rfl rfl rfl ?_
  refine x_iload_1 hg dX7_commonDivisor_2 rfl ?_
  refine x_istore_3 hg dX7_commonDivisor_3 rfl rfl rfl ?_
  refine x_ic hg dX7_commonDivisor_4 ic_0 rfl ?_
  refine x_istore_4 hg dX7_commonDivisor_5 rfl rfl rfl ?_
  refine x_drop_0 ?_
  refine x_drop_1 ?_
  obtain ⟨N1, hw⟩ := hw
  refine xB_commonDivisor_7 hg  (fun v1 s1 hw => ?_) _ _ _ _ _ hw
  · refine x_iload_2 hg dX7_commonDivisor_34 rfl ?_
    exact x_ret hg dX7_commonDivisor_35 hw
def wB_odds (a1 : Int32) (a2 : Int32) (s0 : Sg) (P : Int32 → Sg → Prop) : Prop := (wB_isTimeAsked a1 s0 (fun (r1 : Int32) (s1 : Sg) => ((r1 = 0 → (wB_failed ((-1000000001)) s1 (fun (r2 : Int32) (s2 : Sg) => P r2 s2))) ∧ (¬ r1 = 0 → ((a2 < 0 → (wB_failed ((-1000000001)) s1 (fun (r2 : Int32) (s2 : Sg) => P r2 s2))) ∧ (¬ a2 < 0 → ((a2 ≤ 1 → (wThought_usedWithin 2147483647 s1 (fun (r2 : Int32) (s2 : Sg) => ((¬ r2 = 0 → (wThought_usedWithin a1 s2 (fun (r3 : Int32) (s3 : Sg) => (wB_commonDivisor r2 r3 s3 (fun (r4 : Int32) (s4 : Sg) => ((¬ r4 = 0 → ((¬ a2 = 0 → (¬ r4 = 0 ∧ P ((r2 / r4)) s4)) ∧ (a2 = 0 → (¬ r4 = 0 ∧ P ((r3 / r4)) s4)))) ∧ (r4 = 0 → P 0 s4))))))) ∧ (r2 = 0 → (wB_failed ((-1000000003)) s2 (fun (r3 : Int32) (s3 : Sg) => P r3 s3))))))) ∧ (¬ a2 ≤ 1 → (wB_failed ((-1000000001)) s1 (fun (r2 : Int32) (s2 : Sg) => P r2 s2))))))))))
set_option maxRecDepth 100000 in
set_option maxHeartbeats 4000000 in
theorem xB_odds {w : Wc} (l : Launch) {a1 : Int32} {a2 : Int32} {s0 : Sg} {P : Int32 → Sg → Prop} (hw : wB_odds a1 a2 s0 P) : CI shC w l 7 (.code yX7_odds cX7_odds 6 (some .int)) yX7_odds [.ref (ad w 0), .int a1, .int a2] s0 P := by
  refine ci_of_i (own := "BagBottom") (ls0 := [some (.ref (ad w 0)), some (.int a1), some (.int a2), none, none, none]) rfl pn_X7 rfl rfl (fun g el hg => ?_)
  unfold wB_odds at hw
  refine x_iload_1 hg dX7_odds_0 rfl ?_
  refine x_callSI hg (xB_isTimeAsked (gL g)  hw) sm_X7_isTimeAsked mi_X7_isTimeAsked ml_X7_206 rfl rfl (As := [.int a1]) rfl rfl rfl dX7_odds_1 rfl (fun r1 s1 hw => ?_)
  refine x_if_eq hg dX7_odds_4 (tg := 16) (by decide) rfl hw (fun hw => ?_) (fun hw => ?_)
  · refine x_aload_0 hg dX7_odds_16 rfl ?_
    refine x_ldc hg kc_X7_51 dX7_odds_17 rfl ?_
    refine x_callVI hg (xB_failed (gL g)  hw) kC_0 (by decide) rfl im_X7_failed se_X7_failed mi_X7_failed ml_X7_52 rfl rfl (As := [.int (-1000000001)]) rfl rfl rfl dX7_odds_19 rfl (fun r2 s2 hw => ?_)
    exact x_ret hg dX7_odds_22 hw
  · refine x_iload_2 hg dX7_odds_7 rfl ?_
    refine x_if_lt hg dX7_odds_8 (tg := 16) (by decide) rfl hw (fun hw => ?_) (fun hw => ?_)
    · refine x_aload_0 hg dX7_odds_16 rfl ?_
      refine x_ldc hg kc_X7_51 dX7_odds_17 rfl ?_
      refine x_callVI hg (xB_failed (gL g)  hw) kC_0 (by decide) rfl im_X7_failed se_X7_failed mi_X7_failed ml_X7_52 rfl rfl (As := [.int (-1000000001)]) rfl rfl rfl dX7_odds_19 rfl (fun r2 s2 hw => ?_)
      exact x_ret hg dX7_odds_22 hw
    · refine x_iload_2 hg dX7_odds_11 rfl ?_
      refine x_ic hg dX7_odds_12 ic_1 rfl ?_
      refine x_icmp_le hg dX7_odds_13 (tg := 23) (by decide) rfl hw (fun hw => ?_) (fun hw => ?_)
      · refine x_aload_0 hg dX7_odds_23 rfl ?_
        refine get_X7_5 hg kC_0 fl_X7_35 dX7_odds_24 rfl (k2 := 67) rfl ?_
        refine x_aload_0 hg dX7_odds_27 rfl ?_
        refine get_X7_0 hg kC_0 fl_X7_12 dX7_odds_28 rfl (k2 := 1) rfl ?_
        refine x_ldc hg kc_X7_217 dX7_odds_31 rfl ?_
        refine x_callVI hg (xThought_usedWithin (gL g)  hw) kC_67 (by decide) rfl im_X5_usedWithin se_X5_usedWithin mi_X5_usedWithin ml_X7_218 rfl rfl (As := [.ref (ad w 1), .int 2147483647]) rfl rfl rfl dX7_odds_33 rfl (fun r2 s2 hw => ?_)
        refine x_istore_3 hg dX7_odds_36 rfl rfl rfl ?_
        refine x_iload_3 hg dX7_odds_37 rfl ?_
        refine x_if_ne hg dX7_odds_38 (tg := 48) (by decide) rfl hw (fun hw => ?_) (fun hw => ?_)
        · refine x_aload_0 hg dX7_odds_48 rfl ?_
          refine get_X7_5 hg kC_0 fl_X7_35 dX7_odds_49 rfl (k2 := 67) rfl ?_
          refine x_aload_0 hg dX7_odds_52 rfl ?_
          refine get_X7_0 hg kC_0 fl_X7_12 dX7_odds_53 rfl (k2 := 1) rfl ?_
          refine x_iload_1 hg dX7_odds_56 rfl ?_
          refine x_callVI hg (xThought_usedWithin (gL g)  hw) kC_67 (by decide) rfl im_X5_usedWithin se_X5_usedWithin mi_X5_usedWithin ml_X7_218 rfl rfl (As := [.ref (ad w 1), .int a1]) rfl rfl rfl dX7_odds_57 rfl (fun r3 s3 hw => ?_)
          refine x_istore_4 hg dX7_odds_60 rfl rfl rfl ?_
          refine x_iload_3 hg dX7_odds_62 rfl ?_
          refine x_iload_4 hg dX7_odds_63 rfl ?_
          refine x_callSI hg (xB_commonDivisor (gL g)  hw) sm_X7_commonDivisor mi_X7_commonDivisor ml_X7_221 rfl rfl (As := [.int r2, .int r3]) rfl rfl rfl dX7_odds_65 rfl (fun r4 s4 hw => ?_)
          refine x_istore_5 hg dX7_odds_68 rfl rfl rfl ?_
          refine x_iload_5 hg dX7_odds_70 rfl ?_
          refine x_if_ne hg dX7_odds_72 (tg := 77) (by decide) rfl hw (fun hw => ?_) (fun hw => ?_)
          · refine x_iload_2 hg dX7_odds_77 rfl ?_
            refine x_if_ne hg dX7_odds_78 (tg := 89) (by decide) rfl hw (fun hw => ?_) (fun hw => ?_)
            · refine x_iload_3 hg dX7_odds_89 rfl ?_
              refine x_iload_5 hg dX7_odds_90 rfl ?_
              obtain ⟨hne, hw⟩ := hw
              refine x_idiv hg dX7_odds_92 hne rfl ?_
              exact x_ret hg dX7_odds_93 hw
            · refine x_iload_4 hg dX7_odds_81 rfl ?_
              refine x_iload_5 hg dX7_odds_83 rfl ?_
              obtain ⟨hne, hw⟩ := hw
              refine x_idiv hg dX7_odds_85 hne rfl ?_
              refine x_goto hg dX7_odds_86 (pc' := 93) (by decide) ?_
              exact x_ret hg dX7_odds_93 hw
          · refine x_ic hg dX7_odds_75 ic_0 rfl ?_
            exact x_ret hg dX7_odds_76 hw
        · refine x_aload_0 hg dX7_odds_41 rfl ?_
          refine x_ldc hg kc_X7_115 dX7_odds_42 rfl ?_
          refine x_callVI hg (xB_failed (gL g)  hw) kC_0 (by decide) rfl im_X7_failed se_X7_failed mi_X7_failed ml_X7_52 rfl rfl (As := [.int (-1000000003)]) rfl rfl rfl dX7_odds_44 rfl (fun r3 s3 hw => ?_)
          exact x_ret hg dX7_odds_47 hw
      · refine x_aload_0 hg dX7_odds_16 rfl ?_
        refine x_ldc hg kc_X7_51 dX7_odds_17 rfl ?_
        refine x_callVI hg (xB_failed (gL g)  hw) kC_0 (by decide) rfl im_X7_failed se_X7_failed mi_X7_failed ml_X7_52 rfl rfl (As := [.int (-1000000001)]) rfl rfl rfl dX7_odds_19 rfl (fun r2 s2 hw => ?_)
        exact x_ret hg dX7_odds_22 hw
