def wB_isSheet (a0 : Int32) (s0 : Sg) (P : Int32 → Sg → Prop) : Prop := ((a0 < 0 → P 0 s0) ∧ (¬ a0 < 0 → ((4 ≤ a0 → P 0 s0) ∧ (¬ 4 ≤ a0 → P 1 s0))))
set_option maxRecDepth 100000 in
set_option maxHeartbeats 4000000 in
theorem xB_isSheet {w : Wc} (l : Launch) {a0 : Int32} {s0 : Sg} {P : Int32 → Sg → Prop} (hw : wB_isSheet a0 s0 P) : CI shC w l 1 (.code yX7_isSheet cX7_isSheet 1 (some .boolean)) yX7_isSheet [.int a0] s0 P := by
  refine ci_of_z (own := "BagBottom") (ls0 := [some (.int a0)]) rfl pn_X7 rfl rfl (fun g el hg => ?_)
  unfold wB_isSheet at hw
  refine x_iload_0 hg dX7_isSheet_0 rfl ?_
  refine x_if_lt hg dX7_isSheet_1 (tg := 13) (by decide) rfl hw (fun hw => ?_) (fun hw => ?_)
  · refine x_ic hg dX7_isSheet_13 ic_0 rfl ?_
    exact x_zret hg dX7_isSheet_14 (by decide) hw
  · refine x_iload_0 hg dX7_isSheet_4 rfl ?_
    refine x_ic hg dX7_isSheet_5 ic_4 rfl ?_
    refine x_icmp_ge hg dX7_isSheet_6 (tg := 13) (by decide) rfl hw (fun hw => ?_) (fun hw => ?_)
    · refine x_ic hg dX7_isSheet_13 ic_0 rfl ?_
      exact x_zret hg dX7_isSheet_14 (by decide) hw
    · refine x_ic hg dX7_isSheet_9 ic_1 rfl ?_
      refine x_goto hg dX7_isSheet_10 (pc' := 14) (by decide) ?_
      exact x_zret hg dX7_isSheet_14 (by decide) hw
def wB_fits (a1 : Int32) (s0 : Sg) (P : Int32 → Sg → Prop) : Prop := (wB_isSheet a1 s0 (fun (r1 : Int32) (s1 : Sg) => ((¬ r1 = 0 → (vp_in a1 4 ∧ (wSheet_isMissing ((77 + 3 * ix a1)) s1 (fun (r2 : Int32) (s2 : Sg) => ((r2 = 0 → (vp_in a1 4 ∧ (wThought_stepsToBe (((77 + 3 * ix a1) + 1)) s2 (fun (r3 : Int32) (s3 : Sg) => ((¬ r3 = (-1) → P r3 s3) ∧ (r3 = (-1) → (wB_failed ((-1000000002)) s3 (fun (r4 : Int32) (s4 : Sg) => P r4 s4)))))))) ∧ (¬ r2 = 0 → (wB_failed ((-1000000002)) s2 (fun (r3 : Int32) (s3 : Sg) => P r3 s3)))))))) ∧ (r1 = 0 → (wB_failed ((-1000000001)) s1 (fun (r2 : Int32) (s2 : Sg) => P r2 s2))))))
set_option maxRecDepth 100000 in
set_option maxHeartbeats 4000000 in
theorem xB_fits {w : Wc} (l : Launch) {a1 : Int32} {s0 : Sg} {P : Int32 → Sg → Prop} (hw : wB_fits a1 s0 P) : CI shC w l 5 (.code yX7_fits cX7_fits 3 (some .int)) yX7_fits [.ref (ad w 0), .int a1] s0 P := by
  refine ci_of_i (own := "BagBottom") (ls0 := [some (.ref (ad w 0)), some (.int a1), none]) rfl pn_X7 rfl rfl (fun g el hg => ?_)
  unfold wB_fits at hw
  refine x_iload_1 hg dX7_fits_0 rfl ?_
  refine x_callSI hg (xB_isSheet (gL g)  hw) sm_X7_isSheet mi_X7_isSheet ml_X7_224 rfl rfl (As := [.int a1]) rfl rfl rfl dX7_fits_1 rfl (fun r1 s1 hw => ?_)
  refine x_if_ne hg dX7_fits_4 (tg := 14) (by decide) rfl hw (fun hw => ?_) (fun hw => ?_)
  · refine x_aload_0 hg dX7_fits_14 rfl ?_
    refine get_X7_3 hg kC_0 fl_X7_21 dX7_fits_15 rfl (k2 := 63) rfl ?_
    refine x_iload_1 hg dX7_fits_18 rfl ?_
    refine x_aald hg (t := 3) kC_63 (by decide) rfl rfl rfl rfl dX7_fits_19 rfl hw (fun hin1 hw => ?_)
    refine x_callVI hg (xSheet_isMissing (gL g) (kEl_77 hin1) hw) (kEl_77 hin1) (by decide) rfl im_X2_isMissing se_X2_isMissing mi_X2_isMissing ml_X7_227 rfl rfl (As := []) rfl rfl rfl dX7_fits_20 rfl (fun r2 s2 hw => ?_)
    refine x_if_eq hg dX7_fits_23 (tg := 33) (by decide) rfl hw (fun hw => ?_) (fun hw => ?_)
    · refine x_aload_0 hg dX7_fits_33 rfl ?_
      refine get_X7_5 hg kC_0 fl_X7_35 dX7_fits_34 rfl (k2 := 67) rfl ?_
      refine x_aload_0 hg dX7_fits_37 rfl ?_
      refine get_X7_0 hg kC_0 fl_X7_12 dX7_fits_38 rfl (k2 := 1) rfl ?_
      refine x_aload_0 hg dX7_fits_41 rfl ?_
      refine get_X7_3 hg kC_0 fl_X7_21 dX7_fits_42 rfl (k2 := 63) rfl ?_
      refine x_iload_1 hg dX7_fits_45 rfl ?_
      refine x_aald hg (t := 3) kC_63 (by decide) rfl rfl rfl rfl dX7_fits_46 rfl hw (fun hin2 hw => ?_)
      refine get_X2_1 hg (kEl_77 hin2) fl_X7_230 dX7_fits_47 rfl (k2 := ((77 + 3 * ix a1) + 1)) rfl ?_
      refine x_callVI hg (xThought_stepsToBe (gL g) (kSheet (kEl_77 hin2)) hw) kC_67 (by decide) rfl im_X5_stepsToBe se_X5_stepsToBe mi_X5_stepsToBe ml_X7_233 rfl rfl (As := [.ref (ad w 1), .ref (ad w ((77 + 3 * ix a1) + 1))]) rfl rfl rfl dX7_fits_50 rfl (fun r3 s3 hw => ?_)
      refine x_istore_2 hg dX7_fits_53 rfl rfl rfl ?_
      refine x_iload_2 hg dX7_fits_54 rfl ?_
      refine x_ic hg dX7_fits_55 ic_m1 rfl ?_
      refine x_icmp_ne hg dX7_fits_56 (tg := 68) (by decide) rfl hw (fun hw => ?_) (fun hw => ?_)
      · refine x_iload_2 hg dX7_fits_68 rfl ?_
        exact x_ret hg dX7_fits_69 hw
      · refine x_aload_0 hg dX7_fits_59 rfl ?_
        refine x_ldc hg kc_X7_198 dX7_fits_60 rfl ?_
        refine x_callVI hg (xB_failed (gL g)  hw) kC_0 (by decide) rfl im_X7_failed se_X7_failed mi_X7_failed ml_X7_52 rfl rfl (As := [.int (-1000000002)]) rfl rfl rfl dX7_fits_62 rfl (fun r4 s4 hw => ?_)
        refine x_goto hg dX7_fits_65 (pc' := 69) (by decide) ?_
        exact x_ret hg dX7_fits_69 hw
    · refine x_aload_0 hg dX7_fits_26 rfl ?_
      refine x_ldc hg kc_X7_198 dX7_fits_27 rfl ?_
      refine x_callVI hg (xB_failed (gL g)  hw) kC_0 (by decide) rfl im_X7_failed se_X7_failed mi_X7_failed ml_X7_52 rfl rfl (As := [.int (-1000000002)]) rfl rfl rfl dX7_fits_29 rfl (fun r3 s3 hw => ?_)
      exact x_ret hg dX7_fits_32 hw
  · refine x_aload_0 hg dX7_fits_7 rfl ?_
    refine x_ldc hg kc_X7_51 dX7_fits_8 rfl ?_
    refine x_callVI hg (xB_failed (gL g)  hw) kC_0 (by decide) rfl im_X7_failed se_X7_failed mi_X7_failed ml_X7_52 rfl rfl (As := [.int (-1000000001)]) rfl rfl rfl dX7_fits_10 rfl (fun r2 s2 hw => ?_)
    exact x_ret hg dX7_fits_13 hw
def wB_voice (a1 : Int32) (a2 : Int32) (a3 : Int32) (s0 : Sg) (P : Int32 → Sg → Prop) : Prop := (wBag_knows a1 s0 (fun (r1 : Int32) (s1 : Sg) => ((r1 = 0 → (wB_failed ((-1000000001)) s1 (fun (r2 : Int32) (s2 : Sg) => P r2 s2))) ∧ (¬ r1 = 0 → ((a2 < 0 → (wB_failed ((-1000000001)) s1 (fun (r2 : Int32) (s2 : Sg) => P r2 s2))) ∧ (¬ a2 < 0 → ((a2 < 4 → (vp_in a1 9 ∧ (wVoices_answer a1 ((11 + 1 * ix a1)) a2 a3 s1 (fun (r2 : Int32) (s2 : Sg) => (((s2 64 1) = 0 → P r2 s2) ∧ (¬ (s2 64 1) = 0 → (wB_failed ((-1000000006)) s2 (fun (r3 : Int32) (s3 : Sg) => P r3 s3)))))))) ∧ (¬ a2 < 4 → (wB_failed ((-1000000001)) s1 (fun (r2 : Int32) (s2 : Sg) => P r2 s2))))))))))
set_option maxRecDepth 100000 in
set_option maxHeartbeats 4000000 in
theorem xB_voice {w : Wc} (l : Launch) {a1 : Int32} {a2 : Int32} {a3 : Int32} {s0 : Sg} {P : Int32 → Sg → Prop} (hw : wB_voice a1 a2 a3 s0 P) : CI shC w l 13 (.code yX7_voice cX7_voice 5 (some .int)) yX7_voice [.ref (ad w 0), .int a1, .int a2, .int a3] s0 P := by
  refine ci_of_i (own := "BagBottom") (ls0 := [some (.ref (ad w 0)), some (.int a1), some (.int a2), some (.int a3), none]) rfl pn_X7 rfl rfl (fun g el hg => ?_)
  unfold wB_voice at hw
  refine x_aload_0 hg dX7_voice_0 rfl ?_
  refine get_X7_0 hg kC_0 fl_X7_12 dX7_voice_1 rfl (k2 := 1) rfl ?_
  refine x_iload_1 hg dX7_voice_4 rfl ?_
  refine x_callVI hg (xBag_knows (gL g)  hw) kC_1 (by decide) rfl im_X0_knows se_X0_knows mi_X0_knows ml_X7_65 rfl rfl (As := [.int a1]) rfl rfl rfl dX7_voice_5 rfl (fun r1 s1 hw => ?_)
  refine x_if_eq hg dX7_voice_8 (tg := 20) (by decide) rfl hw (fun hw => ?_) (fun hw => ?_)
  · refine x_aload_0 hg dX7_voice_20 rfl ?_
    refine x_ldc hg kc_X7_51 dX7_voice_21 rfl ?_
    refine x_callVI hg (xB_failed (gL g)  hw) kC_0 (by decide) rfl im_X7_failed se_X7_failed mi_X7_failed ml_X7_52 rfl rfl (As := [.int (-1000000001)]) rfl rfl rfl dX7_voice_23 rfl (fun r2 s2 hw => ?_)
    exact x_ret hg dX7_voice_26 hw
  · refine x_iload_2 hg dX7_voice_11 rfl ?_
    refine x_if_lt hg dX7_voice_12 (tg := 20) (by decide) rfl hw (fun hw => ?_) (fun hw => ?_)
    · refine x_aload_0 hg dX7_voice_20 rfl ?_
      refine x_ldc hg kc_X7_51 dX7_voice_21 rfl ?_
      refine x_callVI hg (xB_failed (gL g)  hw) kC_0 (by decide) rfl im_X7_failed se_X7_failed mi_X7_failed ml_X7_52 rfl rfl (As := [.int (-1000000001)]) rfl rfl rfl dX7_voice_23 rfl (fun r2 s2 hw => ?_)
      exact x_ret hg dX7_voice_26 hw
    · refine x_iload_2 hg dX7_voice_15 rfl ?_
      refine x_ic hg dX7_voice_16 ic_4 rfl ?_
      refine x_icmp_lt hg dX7_voice_17 (tg := 27) (by decide) rfl hw (fun hw => ?_) (fun hw => ?_)
      · refine x_aload_0 hg dX7_voice_27 rfl ?_
        refine get_X7_4 hg kC_0 fl_X7_28 dX7_voice_28 rfl (k2 := 64) rfl ?_
        refine x_iload_1 hg dX7_voice_31 rfl ?_
        refine x_aload_0 hg dX7_voice_32 rfl ?_
        refine get_X7_0 hg kC_0 fl_X7_12 dX7_voice_33 rfl (k2 := 1) rfl ?_
        refine get_X0_0 hg kC_1 fl_X7_68 dX7_voice_36 rfl (k2 := 2) rfl ?_
        refine x_iload_1 hg dX7_voice_39 rfl ?_
        refine x_aald hg (t := 1) kC_2 (by decide) rfl rfl rfl rfl dX7_voice_40 rfl hw (fun hin1 hw => ?_)
        refine x_iload_2 hg dX7_voice_41 rfl ?_
        refine x_iload_3 hg dX7_voice_42 rfl ?_
        refine x_callVI hg (xVoices_answer (gL g) (kEl_11 hin1) hw) kC_64 (by decide) rfl im_X6_answer se_X6_answer mi_X6_answer ml_X7_237 rfl rfl (As := [.int a1, .ref (ad w (11 + 1 * ix a1)), .int a2, .int a3]) rfl rfl rfl dX7_voice_43 rfl (fun r2 s2 hw => ?_)
        refine x_istore_4 hg dX7_voice_46 rfl rfl rfl ?_
        refine x_aload_0 hg dX7_voice_48 rfl ?_
        refine get_X7_4 hg kC_0 fl_X7_28 dX7_voice_49 rfl (k2 := 64) rfl ?_
        refine get_X6_1 hg kC_64 fl_X7_241 dX7_voice_52 rfl ?_
        refine x_if_eq hg dX7_voice_55 (tg := 67) (by decide) rfl hw (fun hw => ?_) (fun hw => ?_)
        · refine x_iload_4 hg dX7_voice_67 rfl ?_
          exact x_ret hg dX7_voice_69 hw
        · refine x_aload_0 hg dX7_voice_58 rfl ?_
          refine x_ldc hg kc_X7_245 dX7_voice_59 rfl ?_
          refine x_callVI hg (xB_failed (gL g)  hw) kC_0 (by decide) rfl im_X7_failed se_X7_failed mi_X7_failed ml_X7_52 rfl rfl (As := [.int (-1000000006)]) rfl rfl rfl dX7_voice_61 rfl (fun r3 s3 hw => ?_)
          refine x_goto hg dX7_voice_64 (pc' := 69) (by decide) ?_
          exact x_ret hg dX7_voice_69 hw
      · refine x_aload_0 hg dX7_voice_20 rfl ?_
        refine x_ldc hg kc_X7_51 dX7_voice_21 rfl ?_
        refine x_callVI hg (xB_failed (gL g)  hw) kC_0 (by decide) rfl im_X7_failed se_X7_failed mi_X7_failed ml_X7_52 rfl rfl (As := [.int (-1000000001)]) rfl rfl rfl dX7_voice_23 rfl (fun r2 s2 hw => ?_)
        exact x_ret hg dX7_voice_26 hw
def wB_body (a1 : Int32) (s0 : Sg) (P : Int32 → Sg → Prop) : Prop := (wRow_has 65 a1 s0 (fun (r1 : Int32) (s1 : Sg) => ((¬ r1 = 0 → (vp_in a1 30 ∧ P ((s1 66 (ix a1))) s1)) ∧ (r1 = 0 → (wB_failed ((-1000000002)) s1 (fun (r2 : Int32) (s2 : Sg) => P r2 s2))))))
set_option maxRecDepth 100000 in
set_option maxHeartbeats 4000000 in
theorem xB_body {w : Wc} (l : Launch) {a1 : Int32} {s0 : Sg} {P : Int32 → Sg → Prop} (hw : wB_body a1 s0 P) : CI shC w l 2 (.code yX7_body cX7_body 2 (some .int)) yX7_body [.ref (ad w 0), .int a1] s0 P := by
  refine ci_of_i (own := "BagBottom") (ls0 := [some (.ref (ad w 0)), some (.int a1)]) rfl pn_X7 rfl rfl (fun g el hg => ?_)
  unfold wB_body at hw
  refine x_aload_0 hg dX7_body_0 rfl ?_
  refine get_X7_4 hg kC_0 fl_X7_28 dX7_body_1 rfl (k2 := 64) rfl ?_
  refine get_X6_0 hg kC_64 fl_X7_246 dX7_body_4 rfl (k2 := 65) rfl ?_
  refine x_iload_1 hg dX7_body_7 rfl ?_
  refine x_callVI hg (xRow_has (gL g) kC_65 hw) kC_65 (by decide) rfl im_X1_has se_X1_has mi_X1_has ml_X7_107 rfl rfl (As := [.int a1]) rfl rfl rfl dX7_body_8 rfl (fun r1 s1 hw => ?_)
  refine x_if_ne hg dX7_body_11 (tg := 21) (by decide) rfl hw (fun hw => ?_) (fun hw => ?_)
  · refine x_aload_0 hg dX7_body_21 rfl ?_
    refine get_X7_4 hg kC_0 fl_X7_28 dX7_body_22 rfl (k2 := 64) rfl ?_
    refine get_X6_0 hg kC_64 fl_X7_246 dX7_body_25 rfl (k2 := 65) rfl ?_
    refine get_X1_0 hg kC_65 fl_X7_112 dX7_body_28 rfl (k2 := 66) rfl ?_
    refine x_iload_1 hg dX7_body_31 rfl ?_
    refine x_iald hg kC_66 rfl dX7_body_32 rfl hw (fun hw => ?_)
    exact x_ret hg dX7_body_33 hw
  · refine x_aload_0 hg dX7_body_14 rfl ?_
    refine x_ldc hg kc_X7_198 dX7_body_15 rfl ?_
    refine x_callVI hg (xB_failed (gL g)  hw) kC_0 (by decide) rfl im_X7_failed se_X7_failed mi_X7_failed ml_X7_52 rfl rfl (As := [.int (-1000000002)]) rfl rfl rfl dX7_body_17 rfl (fun r2 s2 hw => ?_)
    exact x_ret hg dX7_body_20 hw
def wB_sheet (a1 : Int32) (a2 : Int32) (a3 : Int32) (s0 : Sg) (P : Int32 → Sg → Prop) : Prop := (wB_isSheet a1 s0 (fun (r1 : Int32) (s1 : Sg) => ((r1 = 0 → (wB_failed ((-1000000001)) s1 (fun (r2 : Int32) (s2 : Sg) => P r2 s2))) ∧ (¬ r1 = 0 → ((a2 = 0 → ((a2 = 0 → ((a2 = 0 → (vp_in a1 4 ∧ ((¬ a2 = 0 → (wSheet_begin ((77 + 3 * ix a1)) a2 a3 s1 (fun (s2 : Sg) => P 1 s2))) ∧ (a2 = 0 → (wSheet_begin ((77 + 3 * ix a1)) a2 0 s1 (fun (s2 : Sg) => P 1 s2)))))) ∧ (¬ a2 = 0 → ((a3 ≤ 24 → (vp_in a1 4 ∧ ((¬ a2 = 0 → (wSheet_begin ((77 + 3 * ix a1)) a2 a3 s1 (fun (s2 : Sg) => P 1 s2))) ∧ (a2 = 0 → (wSheet_begin ((77 + 3 * ix a1)) a2 0 s1 (fun (s2 : Sg) => P 1 s2)))))) ∧ (¬ a3 ≤ 24 → (wB_failed ((-1000000001)) s1 (fun (r2 : Int32) (s2 : Sg) => P r2 s2))))))) ∧ (¬ a2 = 0 → ((0 ≤ a3 → ((a2 = 0 → (vp_in a1 4 ∧ ((¬ a2 = 0 → (wSheet_begin ((77 + 3 * ix a1)) a2 a3 s1 (fun (s2 : Sg) => P 1 s2))) ∧ (a2 = 0 → (wSheet_begin ((77 + 3 * ix a1)) a2 0 s1 (fun (s2 : Sg) => P 1 s2)))))) ∧ (¬ a2 = 0 → ((a3 ≤ 24 → (vp_in a1 4 ∧ ((¬ a2 = 0 → (wSheet_begin ((77 + 3 * ix a1)) a2 a3 s1 (fun (s2 : Sg) => P 1 s2))) ∧ (a2 = 0 → (wSheet_begin ((77 + 3 * ix a1)) a2 0 s1 (fun (s2 : Sg) => P 1 s2)))))) ∧ (¬ a3 ≤ 24 → (wB_failed ((-1000000001)) s1 (fun (r2 : Int32) (s2 : Sg) => P r2 s2))))))) ∧ (¬ 0 ≤ a3 → (wB_failed ((-1000000003)) s1 (fun (r2 : Int32) (s2 : Sg) => P r2 s2))))))) ∧ (¬ a2 = 0 → ((a2 = 8 → ((a2 = 0 → ((a2 = 0 → (vp_in a1 4 ∧ ((¬ a2 = 0 → (wSheet_begin ((77 + 3 * ix a1)) a2 a3 s1 (fun (s2 : Sg) => P 1 s2))) ∧ (a2 = 0 → (wSheet_begin ((77 + 3 * ix a1)) a2 0 s1 (fun (s2 : Sg) => P 1 s2)))))) ∧ (¬ a2 = 0 → ((a3 ≤ 24 → (vp_in a1 4 ∧ ((¬ a2 = 0 → (wSheet_begin ((77 + 3 * ix a1)) a2 a3 s1 (fun (s2 : Sg) => P 1 s2))) ∧ (a2 = 0 → (wSheet_begin ((77 + 3 * ix a1)) a2 0 s1 (fun (s2 : Sg) => P 1 s2)))))) ∧ (¬ a3 ≤ 24 → (wB_failed ((-1000000001)) s1 (fun (r2 : Int32) (s2 : Sg) => P r2 s2))))))) ∧ (¬ a2 = 0 → ((0 ≤ a3 → ((a2 = 0 → (vp_in a1 4 ∧ ((¬ a2 = 0 → (wSheet_begin ((77 + 3 * ix a1)) a2 a3 s1 (fun (s2 : Sg) => P 1 s2))) ∧ (a2 = 0 → (wSheet_begin ((77 + 3 * ix a1)) a2 0 s1 (fun (s2 : Sg) => P 1 s2)))))) ∧ (¬ a2 = 0 → ((a3 ≤ 24 → (vp_in a1 4 ∧ ((¬ a2 = 0 → (wSheet_begin ((77 + 3 * ix a1)) a2 a3 s1 (fun (s2 : Sg) => P 1 s2))) ∧ (a2 = 0 → (wSheet_begin ((77 + 3 * ix a1)) a2 0 s1 (fun (s2 : Sg) => P 1 s2)))))) ∧ (¬ a3 ≤ 24 → (wB_failed ((-1000000001)) s1 (fun (r2 : Int32) (s2 : Sg) => P r2 s2))))))) ∧ (¬ 0 ≤ a3 → (wB_failed ((-1000000003)) s1 (fun (r2 : Int32) (s2 : Sg) => P r2 s2))))))) ∧ (¬ a2 = 8 → ((a2 = 16 → ((a2 = 0 → ((a2 = 0 → (vp_in a1 4 ∧ ((¬ a2 = 0 → (wSheet_begin ((77 + 3 * ix a1)) a2 a3 s1 (fun (s2 : Sg) => P 1 s2))) ∧ (a2 = 0 → (wSheet_begin ((77 + 3 * ix a1)) a2 0 s1 (fun (s2 : Sg) => P 1 s2)))))) ∧ (¬ a2 = 0 → ((a3 ≤ 24 → (vp_in a1 4 ∧ ((¬ a2 = 0 → (wSheet_begin ((77 + 3 * ix a1)) a2 a3 s1 (fun (s2 : Sg) => P 1 s2))) ∧ (a2 = 0 → (wSheet_begin ((77 + 3 * ix a1)) a2 0 s1 (fun (s2 : Sg) => P 1 s2)))))) ∧ (¬ a3 ≤ 24 → (wB_failed ((-1000000001)) s1 (fun (r2 : Int32) (s2 : Sg) => P r2 s2))))))) ∧ (¬ a2 = 0 → ((0 ≤ a3 → ((a2 = 0 → (vp_in a1 4 ∧ ((¬ a2 = 0 → (wSheet_begin ((77 + 3 * ix a1)) a2 a3 s1 (fun (s2 : Sg) => P 1 s2))) ∧ (a2 = 0 → (wSheet_begin ((77 + 3 * ix a1)) a2 0 s1 (fun (s2 : Sg) => P 1 s2)))))) ∧ (¬ a2 = 0 → ((a3 ≤ 24 → (vp_in a1 4 ∧ ((¬ a2 = 0 → (wSheet_begin ((77 + 3 * ix a1)) a2 a3 s1 (fun (s2 : Sg) => P 1 s2))) ∧ (a2 = 0 → (wSheet_begin ((77 + 3 * ix a1)) a2 0 s1 (fun (s2 : Sg) => P 1 s2)))))) ∧ (¬ a3 ≤ 24 → (wB_failed ((-1000000001)) s1 (fun (r2 : Int32) (s2 : Sg) => P r2 s2))))))) ∧ (¬ 0 ≤ a3 → (wB_failed ((-1000000003)) s1 (fun (r2 : Int32) (s2 : Sg) => P r2 s2))))))) ∧ (¬ a2 = 16 → ((a2 = 32 → ((a2 = 0 → ((a2 = 0 → (vp_in a1 4 ∧ ((¬ a2 = 0 → (wSheet_begin ((77 + 3 * ix a1)) a2 a3 s1 (fun (s2 : Sg) => P 1 s2))) ∧ (a2 = 0 → (wSheet_begin ((77 + 3 * ix a1)) a2 0 s1 (fun (s2 : Sg) => P 1 s2)))))) ∧ (¬ a2 = 0 → ((a3 ≤ 24 → (vp_in a1 4 ∧ ((¬ a2 = 0 → (wSheet_begin ((77 + 3 * ix a1)) a2 a3 s1 (fun (s2 : Sg) => P 1 s2))) ∧ (a2 = 0 → (wSheet_begin ((77 + 3 * ix a1)) a2 0 s1 (fun (s2 : Sg) => P 1 s2)))))) ∧ (¬ a3 ≤ 24 → (wB_failed ((-1000000001)) s1 (fun (r2 : Int32) (s2 : Sg) => P r2 s2))))))) ∧ (¬ a2 = 0 → ((0 ≤ a3 → ((a2 = 0 → (vp_in a1 4 ∧ ((¬ a2 = 0 → (wSheet_begin ((77 + 3 * ix a1)) a2 a3 s1 (fun (s2 : Sg) => P 1 s2))) ∧ (a2 = 0 → (wSheet_begin ((77 + 3 * ix a1)) a2 0 s1 (fun (s2 : Sg) => P 1 s2)))))) ∧ (¬ a2 = 0 → ((a3 ≤ 24 → (vp_in a1 4 ∧ ((¬ a2 = 0 → (wSheet_begin ((77 + 3 * ix a1)) a2 a3 s1 (fun (s2 : Sg) => P 1 s2))) ∧ (a2 = 0 → (wSheet_begin ((77 + 3 * ix a1)) a2 0 s1 (fun (s2 : Sg) => P 1 s2)))))) ∧ (¬ a3 ≤ 24 → (wB_failed ((-1000000001)) s1 (fun (r2 : Int32) (s2 : Sg) => P r2 s2))))))) ∧ (¬ 0 ≤ a3 → (wB_failed ((-1000000003)) s1 (fun (r2 : Int32) (s2 : Sg) => P r2 s2))))))) ∧ (¬ a2 = 32 → (wB_failed ((-1000000001)) s1 (fun (r2 : Int32) (s2 : Sg) => P r2 s2))))))))))))))
set_option maxRecDepth 100000 in
set_option maxHeartbeats 4000000 in
theorem xB_sheet {w : Wc} (l : Launch) {a1 : Int32} {a2 : Int32} {a3 : Int32} {s0 : Sg} {P : Int32 → Sg → Prop} (hw : wB_sheet a1 a2 a3 s0 P) : CI shC w l 3 (.code yX7_sheet cX7_sheet 4 (some .int)) yX7_sheet [.ref (ad w 0), .int a1, .int a2, .int a3] s0 P := by
  refine ci_of_i (own := "BagBottom") (ls0 := [some (.ref (ad w 0)), some (.int a1), some (.int a2), some (.int a3)]) rfl pn_X7 rfl rfl (fun g el hg => ?_)
  unfold wB_sheet at hw
  refine x_iload_1 hg dX7_sheet_0 rfl ?_
  refine x_callSI hg (xB_isSheet (gL g)  hw) sm_X7_isSheet mi_X7_isSheet ml_X7_224 rfl rfl (As := [.int a1]) rfl rfl rfl dX7_sheet_1 rfl (fun r1 s1 hw => ?_)
  refine x_if_eq hg dX7_sheet_4 (tg := 29) (by decide) rfl hw (fun hw => ?_) (fun hw => ?_)
  · refine x_aload_0 hg dX7_sheet_29 rfl ?_
    refine x_ldc hg kc_X7_51 dX7_sheet_30 rfl ?_
    refine x_callVI hg (xB_failed (gL g)  hw) kC_0 (by decide) rfl im_X7_failed se_X7_failed mi_X7_failed ml_X7_52 rfl rfl (As := [.int (-1000000001)]) rfl rfl rfl dX7_sheet_32 rfl (fun r2 s2 hw => ?_)
    exact x_ret hg dX7_sheet_35 hw
  · refine x_iload_2 hg dX7_sheet_7 rfl ?_
    refine x_if_eq hg dX7_sheet_8 (tg := 36) (by decide) rfl hw (fun hw => ?_) (fun hw => ?_)
    · refine x_iload_2 hg dX7_sheet_36 rfl ?_
      refine x_if_eq hg dX7_sheet_37 (tg := 51) (by decide) rfl hw (fun hw => ?_) (fun hw => ?_)
      · refine x_iload_2 hg dX7_sheet_51 rfl ?_
        refine x_if_eq hg dX7_sheet_52 (tg := 68) (by decide) rfl hw (fun hw => ?_) (fun hw => ?_)
        · refine x_aload_0 hg dX7_sheet_68 rfl ?_
          refine get_X7_3 hg kC_0 fl_X7_21 dX7_sheet_69 rfl (k2 := 63) rfl ?_
          refine x_iload_1 hg dX7_sheet_72 rfl ?_
          refine x_aald hg (t := 3) kC_63 (by decide) rfl rfl rfl rfl dX7_sheet_73 rfl hw (fun hin1 hw => ?_)
          refine x_iload_2 hg dX7_sheet_74 rfl ?_
          refine x_iload_2 hg dX7_sheet_75 rfl ?_
          refine x_if_ne hg dX7_sheet_76 (tg := 83) (by decide) rfl hw (fun hw => ?_) (fun hw => ?_)
          · refine x_iload_3 hg dX7_sheet_83 rfl ?_
            refine x_callVV hg (xSheet_begin (gL g) (kEl_77 hin1) hw) (kEl_77 hin1) (by decide) rfl im_X2_begin se_X2_begin mi_X2_begin ml_X7_249 rfl rfl (As := [.int a2, .int a3]) rfl rfl rfl dX7_sheet_84 rfl (fun s2 hw => ?_)
            refine x_ic hg dX7_sheet_87 ic_1 rfl ?_
            exact x_ret hg dX7_sheet_88 hw
          · refine x_ic hg dX7_sheet_79 ic_0 rfl ?_
            refine x_goto hg dX7_sheet_80 (pc' := 84) (by decide) ?_
            refine x_callVV hg (xSheet_begin (gL g) (kEl_77 hin1) hw) (kEl_77 hin1) (by decide) rfl im_X2_begin se_X2_begin mi_X2_begin ml_X7_249 rfl rfl (As := [.int a2, .int 0]) rfl rfl rfl dX7_sheet_84 rfl (fun s2 hw => ?_)
            refine x_ic hg dX7_sheet_87 ic_1 rfl ?_
            exact x_ret hg dX7_sheet_88 hw
        · refine x_iload_3 hg dX7_sheet_55 rfl ?_
          refine x_bi hg dX7_sheet_56 bp_24 rfl ?_
          refine x_icmp_le hg dX7_sheet_58 (tg := 68) (by decide) rfl hw (fun hw => ?_) (fun hw => ?_)
          · refine x_aload_0 hg dX7_sheet_68 rfl ?_
            refine get_X7_3 hg kC_0 fl_X7_21 dX7_sheet_69 rfl (k2 := 63) rfl ?_
            refine x_iload_1 hg dX7_sheet_72 rfl ?_
            refine x_aald hg (t := 3) kC_63 (by decide) rfl rfl rfl rfl dX7_sheet_73 rfl hw (fun hin1 hw => ?_)
            refine x_iload_2 hg dX7_sheet_74 rfl ?_
            refine x_iload_2 hg dX7_sheet_75 rfl ?_
            refine x_if_ne hg dX7_sheet_76 (tg := 83) (by decide) rfl hw (fun hw => ?_) (fun hw => ?_)
            · refine x_iload_3 hg dX7_sheet_83 rfl ?_
              refine x_callVV hg (xSheet_begin (gL g) (kEl_77 hin1) hw) (kEl_77 hin1) (by decide) rfl im_X2_begin se_X2_begin mi_X2_begin ml_X7_249 rfl rfl (As := [.int a2, .int a3]) rfl rfl rfl dX7_sheet_84 rfl (fun s2 hw => ?_)
              refine x_ic hg dX7_sheet_87 ic_1 rfl ?_
              exact x_ret hg dX7_sheet_88 hw
            · refine x_ic hg dX7_sheet_79 ic_0 rfl ?_
              refine x_goto hg dX7_sheet_80 (pc' := 84) (by decide) ?_
              refine x_callVV hg (xSheet_begin (gL g) (kEl_77 hin1) hw) (kEl_77 hin1) (by decide) rfl im_X2_begin se_X2_begin mi_X2_begin ml_X7_249 rfl rfl (As := [.int a2, .int 0]) rfl rfl rfl dX7_sheet_84 rfl (fun s2 hw => ?_)
              refine x_ic hg dX7_sheet_87 ic_1 rfl ?_
              exact x_ret hg dX7_sheet_88 hw
          · refine x_aload_0 hg dX7_sheet_61 rfl ?_
            refine x_ldc hg kc_X7_51 dX7_sheet_62 rfl ?_
            refine x_callVI hg (xB_failed (gL g)  hw) kC_0 (by decide) rfl im_X7_failed se_X7_failed mi_X7_failed ml_X7_52 rfl rfl (As := [.int (-1000000001)]) rfl rfl rfl dX7_sheet_64 rfl (fun r2 s2 hw => ?_)
            exact x_ret hg dX7_sheet_67 hw
      · refine x_iload_3 hg dX7_sheet_40 rfl ?_
        refine x_if_ge hg dX7_sheet_41 (tg := 51) (by decide) rfl hw (fun hw => ?_) (fun hw => ?_)
        · refine x_iload_2 hg dX7_sheet_51 rfl ?_
          refine x_if_eq hg dX7_sheet_52 (tg := 68) (by decide) rfl hw (fun hw => ?_) (fun hw => ?_)
          · refine x_aload_0 hg dX7_sheet_68 rfl ?_
            refine get_X7_3 hg kC_0 fl_X7_21 dX7_sheet_69 rfl (k2 := 63) rfl ?_
            refine x_iload_1 hg dX7_sheet_72 rfl ?_
            refine x_aald hg (t := 3) kC_63 (by decide) rfl rfl rfl rfl dX7_sheet_73 rfl hw (fun hin1 hw => ?_)
            refine x_iload_2 hg dX7_sheet_74 rfl ?_
            refine x_iload_2 hg dX7_sheet_75 rfl ?_
            refine x_if_ne hg dX7_sheet_76 (tg := 83) (by decide) rfl hw (fun hw => ?_) (fun hw => ?_)
            · refine x_iload_3 hg dX7_sheet_83 rfl ?_
              refine x_callVV hg (xSheet_begin (gL g) (kEl_77 hin1) hw) (kEl_77 hin1) (by decide) rfl im_X2_begin se_X2_begin mi_X2_begin ml_X7_249 rfl rfl (As := [.int a2, .int a3]) rfl rfl rfl dX7_sheet_84 rfl (fun s2 hw => ?_)
              refine x_ic hg dX7_sheet_87 ic_1 rfl ?_
              exact x_ret hg dX7_sheet_88 hw
            · refine x_ic hg dX7_sheet_79 ic_0 rfl ?_
              refine x_goto hg dX7_sheet_80 (pc' := 84) (by decide) ?_
              refine x_callVV hg (xSheet_begin (gL g) (kEl_77 hin1) hw) (kEl_77 hin1) (by decide) rfl im_X2_begin se_X2_begin mi_X2_begin ml_X7_249 rfl rfl (As := [.int a2, .int 0]) rfl rfl rfl dX7_sheet_84 rfl (fun s2 hw => ?_)
              refine x_ic hg dX7_sheet_87 ic_1 rfl ?_
              exact x_ret hg dX7_sheet_88 hw
          · refine x_iload_3 hg dX7_sheet_55 rfl ?_
            refine x_bi hg dX7_sheet_56 bp_24 rfl ?_
            refine x_icmp_le hg dX7_sheet_58 (tg := 68) (by decide) rfl hw (fun hw => ?_) (fun hw => ?_)
            · refine x_aload_0 hg dX7_sheet_68 rfl ?_
              refine get_X7_3 hg kC_0 fl_X7_21 dX7_sheet_69 rfl (k2 := 63) rfl ?_
              refine x_iload_1 hg dX7_sheet_72 rfl ?_
              refine x_aald hg (t := 3) kC_63 (by decide) rfl rfl rfl rfl dX7_sheet_73 rfl hw (fun hin1 hw => ?_)
              refine x_iload_2 hg dX7_sheet_74 rfl ?_
              refine x_iload_2 hg dX7_sheet_75 rfl ?_
              refine x_if_ne hg dX7_sheet_76 (tg := 83) (by decide) rfl hw (fun hw => ?_) (fun hw => ?_)
              · refine x_iload_3 hg dX7_sheet_83 rfl ?_
                refine x_callVV hg (xSheet_begin (gL g) (kEl_77 hin1) hw) (kEl_77 hin1) (by decide) rfl im_X2_begin se_X2_begin mi_X2_begin ml_X7_249 rfl rfl (As := [.int a2, .int a3]) rfl rfl rfl dX7_sheet_84 rfl (fun s2 hw => ?_)
                refine x_ic hg dX7_sheet_87 ic_1 rfl ?_
                exact x_ret hg dX7_sheet_88 hw
              · refine x_ic hg dX7_sheet_79 ic_0 rfl ?_
                refine x_goto hg dX7_sheet_80 (pc' := 84) (by decide) ?_
                refine x_callVV hg (xSheet_begin (gL g) (kEl_77 hin1) hw) (kEl_77 hin1) (by decide) rfl im_X2_begin se_X2_begin mi_X2_begin ml_X7_249 rfl rfl (As := [.int a2, .int 0]) rfl rfl rfl dX7_sheet_84 rfl (fun s2 hw => ?_)
                refine x_ic hg dX7_sheet_87 ic_1 rfl ?_
                exact x_ret hg dX7_sheet_88 hw
            · refine x_aload_0 hg dX7_sheet_61 rfl ?_
              refine x_ldc hg kc_X7_51 dX7_sheet_62 rfl ?_
              refine x_callVI hg (xB_failed (gL g)  hw) kC_0 (by decide) rfl im_X7_failed se_X7_failed mi_X7_failed ml_X7_52 rfl rfl (As := [.int (-1000000001)]) rfl rfl rfl dX7_sheet_64 rfl (fun r2 s2 hw => ?_)
              exact x_ret hg dX7_sheet_67 hw
        · refine x_aload_0 hg dX7_sheet_44 rfl ?_
          refine x_ldc hg kc_X7_115 dX7_sheet_45 rfl ?_
          refine x_callVI hg (xB_failed (gL g)  hw) kC_0 (by decide) rfl im_X7_failed se_X7_failed mi_X7_failed ml_X7_52 rfl rfl (As := [.int (-1000000003)]) rfl rfl rfl dX7_sheet_47 rfl (fun r2 s2 hw => ?_)
          exact x_ret hg dX7_sheet_50 hw
    · refine x_iload_2 hg dX7_sheet_11 rfl ?_
      refine x_bi hg dX7_sheet_12 bp_8 rfl ?_
      refine x_icmp_eq hg dX7_sheet_14 (tg := 36) (by decide) rfl hw (fun hw => ?_) (fun hw => ?_)
      · refine x_iload_2 hg dX7_sheet_36 rfl ?_
        refine x_if_eq hg dX7_sheet_37 (tg := 51) (by decide) rfl hw (fun hw => ?_) (fun hw => ?_)
        · refine x_iload_2 hg dX7_sheet_51 rfl ?_
          refine x_if_eq hg dX7_sheet_52 (tg := 68) (by decide) rfl hw (fun hw => ?_) (fun hw => ?_)
          · refine x_aload_0 hg dX7_sheet_68 rfl ?_
            refine get_X7_3 hg kC_0 fl_X7_21 dX7_sheet_69 rfl (k2 := 63) rfl ?_
            refine x_iload_1 hg dX7_sheet_72 rfl ?_
            refine x_aald hg (t := 3) kC_63 (by decide) rfl rfl rfl rfl dX7_sheet_73 rfl hw (fun hin1 hw => ?_)
            refine x_iload_2 hg dX7_sheet_74 rfl ?_
            refine x_iload_2 hg dX7_sheet_75 rfl ?_
            refine x_if_ne hg dX7_sheet_76 (tg := 83) (by decide) rfl hw (fun hw => ?_) (fun hw => ?_)
            · refine x_iload_3 hg dX7_sheet_83 rfl ?_
              refine x_callVV hg (xSheet_begin (gL g) (kEl_77 hin1) hw) (kEl_77 hin1) (by decide) rfl im_X2_begin se_X2_begin mi_X2_begin ml_X7_249 rfl rfl (As := [.int a2, .int a3]) rfl rfl rfl dX7_sheet_84 rfl (fun s2 hw => ?_)
              refine x_ic hg dX7_sheet_87 ic_1 rfl ?_
              exact x_ret hg dX7_sheet_88 hw
            · refine x_ic hg dX7_sheet_79 ic_0 rfl ?_
              refine x_goto hg dX7_sheet_80 (pc' := 84) (by decide) ?_
              refine x_callVV hg (xSheet_begin (gL g) (kEl_77 hin1) hw) (kEl_77 hin1) (by decide) rfl im_X2_begin se_X2_begin mi_X2_begin ml_X7_249 rfl rfl (As := [.int a2, .int 0]) rfl rfl rfl dX7_sheet_84 rfl (fun s2 hw => ?_)
              refine x_ic hg dX7_sheet_87 ic_1 rfl ?_
              exact x_ret hg dX7_sheet_88 hw
          · refine x_iload_3 hg dX7_sheet_55 rfl ?_
            refine x_bi hg dX7_sheet_56 bp_24 rfl ?_
            refine x_icmp_le hg dX7_sheet_58 (tg := 68) (by decide) rfl hw (fun hw => ?_) (fun hw => ?_)
            · refine x_aload_0 hg dX7_sheet_68 rfl ?_
              refine get_X7_3 hg kC_0 fl_X7_21 dX7_sheet_69 rfl (k2 := 63) rfl ?_
              refine x_iload_1 hg dX7_sheet_72 rfl ?_
              refine x_aald hg (t := 3) kC_63 (by decide) rfl rfl rfl rfl dX7_sheet_73 rfl hw (fun hin1 hw => ?_)
              refine x_iload_2 hg dX7_sheet_74 rfl ?_
              refine x_iload_2 hg dX7_sheet_75 rfl ?_
              refine x_if_ne hg dX7_sheet_76 (tg := 83) (by decide) rfl hw (fun hw => ?_) (fun hw => ?_)
              · refine x_iload_3 hg dX7_sheet_83 rfl ?_
                refine x_callVV hg (xSheet_begin (gL g) (kEl_77 hin1) hw) (kEl_77 hin1) (by decide) rfl im_X2_begin se_X2_begin mi_X2_begin ml_X7_249 rfl rfl (As := [.int a2, .int a3]) rfl rfl rfl dX7_sheet_84 rfl (fun s2 hw => ?_)
                refine x_ic hg dX7_sheet_87 ic_1 rfl ?_
                exact x_ret hg dX7_sheet_88 hw
              · refine x_ic hg dX7_sheet_79 ic_0 rfl ?_
                refine x_goto hg dX7_sheet_80 (pc' := 84) (by decide) ?_
                refine x_callVV hg (xSheet_begin (gL g) (kEl_77 hin1) hw) (kEl_77 hin1) (by decide) rfl im_X2_begin se_X2_begin mi_X2_begin ml_X7_249 rfl rfl (As := [.int a2, .int 0]) rfl rfl rfl dX7_sheet_84 rfl (fun s2 hw => ?_)
                refine x_ic hg dX7_sheet_87 ic_1 rfl ?_
                exact x_ret hg dX7_sheet_88 hw
            · refine x_aload_0 hg dX7_sheet_61 rfl ?_
              refine x_ldc hg kc_X7_51 dX7_sheet_62 rfl ?_
              refine x_callVI hg (xB_failed (gL g)  hw) kC_0 (by decide) rfl im_X7_failed se_X7_failed mi_X7_failed ml_X7_52 rfl rfl (As := [.int (-1000000001)]) rfl rfl rfl dX7_sheet_64 rfl (fun r2 s2 hw => ?_)
              exact x_ret hg dX7_sheet_67 hw
        · refine x_iload_3 hg dX7_sheet_40 rfl ?_
          refine x_if_ge hg dX7_sheet_41 (tg := 51) (by decide) rfl hw (fun hw => ?_) (fun hw => ?_)
          · refine x_iload_2 hg dX7_sheet_51 rfl ?_
            refine x_if_eq hg dX7_sheet_52 (tg := 68) (by decide) rfl hw (fun hw => ?_) (fun hw => ?_)
            · refine x_aload_0 hg dX7_sheet_68 rfl ?_
              refine get_X7_3 hg kC_0 fl_X7_21 dX7_sheet_69 rfl (k2 := 63) rfl ?_
              refine x_iload_1 hg dX7_sheet_72 rfl ?_
              refine x_aald hg (t := 3) kC_63 (by decide) rfl rfl rfl rfl dX7_sheet_73 rfl hw (fun hin1 hw => ?_)
              refine x_iload_2 hg dX7_sheet_74 rfl ?_
              refine x_iload_2 hg dX7_sheet_75 rfl ?_
              refine x_if_ne hg dX7_sheet_76 (tg := 83) (by decide) rfl hw (fun hw => ?_) (fun hw => ?_)
              · refine x_iload_3 hg dX7_sheet_83 rfl ?_
                refine x_callVV hg (xSheet_begin (gL g) (kEl_77 hin1) hw) (kEl_77 hin1) (by decide) rfl im_X2_begin se_X2_begin mi_X2_begin ml_X7_249 rfl rfl (As := [.int a2, .int a3]) rfl rfl rfl dX7_sheet_84 rfl (fun s2 hw => ?_)
                refine x_ic hg dX7_sheet_87 ic_1 rfl ?_
                exact x_ret hg dX7_sheet_88 hw
              · refine x_ic hg dX7_sheet_79 ic_0 rfl ?_
                refine x_goto hg dX7_sheet_80 (pc' := 84) (by decide) ?_
                refine x_callVV hg (xSheet_begin (gL g) (kEl_77 hin1) hw) (kEl_77 hin1) (by decide) rfl im_X2_begin se_X2_begin mi_X2_begin ml_X7_249 rfl rfl (As := [.int a2, .int 0]) rfl rfl rfl dX7_sheet_84 rfl (fun s2 hw => ?_)
                refine x_ic hg dX7_sheet_87 ic_1 rfl ?_
                exact x_ret hg dX7_sheet_88 hw
            · refine x_iload_3 hg dX7_sheet_55 rfl ?_
              refine x_bi hg dX7_sheet_56 bp_24 rfl ?_
              refine x_icmp_le hg dX7_sheet_58 (tg := 68) (by decide) rfl hw (fun hw => ?_) (fun hw => ?_)
              · refine x_aload_0 hg dX7_sheet_68 rfl ?_
                refine get_X7_3 hg kC_0 fl_X7_21 dX7_sheet_69 rfl (k2 := 63) rfl ?_
                refine x_iload_1 hg dX7_sheet_72 rfl ?_
                refine x_aald hg (t := 3) kC_63 (by decide) rfl rfl rfl rfl dX7_sheet_73 rfl hw (fun hin1 hw => ?_)
                refine x_iload_2 hg dX7_sheet_74 rfl ?_
                refine x_iload_2 hg dX7_sheet_75 rfl ?_
                refine x_if_ne hg dX7_sheet_76 (tg := 83) (by decide) rfl hw (fun hw => ?_) (fun hw => ?_)
                · refine x_iload_3 hg dX7_sheet_83 rfl ?_
                  refine x_callVV hg (xSheet_begin (gL g) (kEl_77 hin1) hw) (kEl_77 hin1) (by decide) rfl im_X2_begin se_X2_begin mi_X2_begin ml_X7_249 rfl rfl (As := [.int a2, .int a3]) rfl rfl rfl dX7_sheet_84 rfl (fun s2 hw => ?_)
                  refine x_ic hg dX7_sheet_87 ic_1 rfl ?_
                  exact x_ret hg dX7_sheet_88 hw
                · refine x_ic hg dX7_sheet_79 ic_0 rfl ?_
                  refine x_goto hg dX7_sheet_80 (pc' := 84) (by decide) ?_
                  refine x_callVV hg (xSheet_begin (gL g) (kEl_77 hin1) hw) (kEl_77 hin1) (by decide) rfl im_X2_begin se_X2_begin mi_X2_begin ml_X7_249 rfl rfl (As := [.int a2, .int 0]) rfl rfl rfl dX7_sheet_84 rfl (fun s2 hw => ?_)
                  refine x_ic hg dX7_sheet_87 ic_1 rfl ?_
                  exact x_ret hg dX7_sheet_88 hw
              · refine x_aload_0 hg dX7_sheet_61 rfl ?_
                refine x_ldc hg kc_X7_51 dX7_sheet_62 rfl ?_
                refine x_callVI hg (xB_failed (gL g)  hw) kC_0 (by decide) rfl im_X7_failed se_X7_failed mi_X7_failed ml_X7_52 rfl rfl (As := [.int (-1000000001)]) rfl rfl rfl dX7_sheet_64 rfl (fun r2 s2 hw => ?_)
                exact x_ret hg dX7_sheet_67 hw
          · refine x_aload_0 hg dX7_sheet_44 rfl ?_
            refine x_ldc hg kc_X7_115 dX7_sheet_45 rfl ?_
            refine x_callVI hg (xB_failed (gL g)  hw) kC_0 (by decide) rfl im_X7_failed se_X7_failed mi_X7_failed ml_X7_52 rfl rfl (As := [.int (-1000000003)]) rfl rfl rfl dX7_sheet_47 rfl (fun r2 s2 hw => ?_)
            exact x_ret hg dX7_sheet_50 hw
      · refine x_iload_2 hg dX7_sheet_17 rfl ?_
        refine x_bi hg dX7_sheet_18 bp_16 rfl ?_
        refine x_icmp_eq hg dX7_sheet_20 (tg := 36) (by decide) rfl hw (fun hw => ?_) (fun hw => ?_)
        · refine x_iload_2 hg dX7_sheet_36 rfl ?_
          refine x_if_eq hg dX7_sheet_37 (tg := 51) (by decide) rfl hw (fun hw => ?_) (fun hw => ?_)
          · refine x_iload_2 hg dX7_sheet_51 rfl ?_
            refine x_if_eq hg dX7_sheet_52 (tg := 68) (by decide) rfl hw (fun hw => ?_) (fun hw => ?_)
            · refine x_aload_0 hg dX7_sheet_68 rfl ?_
              refine get_X7_3 hg kC_0 fl_X7_21 dX7_sheet_69 rfl (k2 := 63) rfl ?_
              refine x_iload_1 hg dX7_sheet_72 rfl ?_
              refine x_aald hg (t := 3) kC_63 (by decide) rfl rfl rfl rfl dX7_sheet_73 rfl hw (fun hin1 hw => ?_)
              refine x_iload_2 hg dX7_sheet_74 rfl ?_
              refine x_iload_2 hg dX7_sheet_75 rfl ?_
              refine x_if_ne hg dX7_sheet_76 (tg := 83) (by decide) rfl hw (fun hw => ?_) (fun hw => ?_)
              · refine x_iload_3 hg dX7_sheet_83 rfl ?_
                refine x_callVV hg (xSheet_begin (gL g) (kEl_77 hin1) hw) (kEl_77 hin1) (by decide) rfl im_X2_begin se_X2_begin mi_X2_begin ml_X7_249 rfl rfl (As := [.int a2, .int a3]) rfl rfl rfl dX7_sheet_84 rfl (fun s2 hw => ?_)
                refine x_ic hg dX7_sheet_87 ic_1 rfl ?_
                exact x_ret hg dX7_sheet_88 hw
              · refine x_ic hg dX7_sheet_79 ic_0 rfl ?_
                refine x_goto hg dX7_sheet_80 (pc' := 84) (by decide) ?_
                refine x_callVV hg (xSheet_begin (gL g) (kEl_77 hin1) hw) (kEl_77 hin1) (by decide) rfl im_X2_begin se_X2_begin mi_X2_begin ml_X7_249 rfl rfl (As := [.int a2, .int 0]) rfl rfl rfl dX7_sheet_84 rfl (fun s2 hw => ?_)
                refine x_ic hg dX7_sheet_87 ic_1 rfl ?_
                exact x_ret hg dX7_sheet_88 hw
            · refine x_iload_3 hg dX7_sheet_55 rfl ?_
              refine x_bi hg dX7_sheet_56 bp_24 rfl ?_
              refine x_icmp_le hg dX7_sheet_58 (tg := 68) (by decide) rfl hw (fun hw => ?_) (fun hw => ?_)
              · refine x_aload_0 hg dX7_sheet_68 rfl ?_
                refine get_X7_3 hg kC_0 fl_X7_21 dX7_sheet_69 rfl (k2 := 63) rfl ?_
                refine x_iload_1 hg dX7_sheet_72 rfl ?_
                refine x_aald hg (t := 3) kC_63 (by decide) rfl rfl rfl rfl dX7_sheet_73 rfl hw (fun hin1 hw => ?_)
                refine x_iload_2 hg dX7_sheet_74 rfl ?_
                refine x_iload_2 hg dX7_sheet_75 rfl ?_
                refine x_if_ne hg dX7_sheet_76 (tg := 83) (by decide) rfl hw (fun hw => ?_) (fun hw => ?_)
                · refine x_iload_3 hg dX7_sheet_83 rfl ?_
                  refine x_callVV hg (xSheet_begin (gL g) (kEl_77 hin1) hw) (kEl_77 hin1) (by decide) rfl im_X2_begin se_X2_begin mi_X2_begin ml_X7_249 rfl rfl (As := [.int a2, .int a3]) rfl rfl rfl dX7_sheet_84 rfl (fun s2 hw => ?_)
                  refine x_ic hg dX7_sheet_87 ic_1 rfl ?_
                  exact x_ret hg dX7_sheet_88 hw
                · refine x_ic hg dX7_sheet_79 ic_0 rfl ?_
                  refine x_goto hg dX7_sheet_80 (pc' := 84) (by decide) ?_
                  refine x_callVV hg (xSheet_begin (gL g) (kEl_77 hin1) hw) (kEl_77 hin1) (by decide) rfl im_X2_begin se_X2_begin mi_X2_begin ml_X7_249 rfl rfl (As := [.int a2, .int 0]) rfl rfl rfl dX7_sheet_84 rfl (fun s2 hw => ?_)
                  refine x_ic hg dX7_sheet_87 ic_1 rfl ?_
                  exact x_ret hg dX7_sheet_88 hw
              · refine x_aload_0 hg dX7_sheet_61 rfl ?_
                refine x_ldc hg kc_X7_51 dX7_sheet_62 rfl ?_
                refine x_callVI hg (xB_failed (gL g)  hw) kC_0 (by decide) rfl im_X7_failed se_X7_failed mi_X7_failed ml_X7_52 rfl rfl (As := [.int (-1000000001)]) rfl rfl rfl dX7_sheet_64 rfl (fun r2 s2 hw => ?_)
                exact x_ret hg dX7_sheet_67 hw
          · refine x_iload_3 hg dX7_sheet_40 rfl ?_
            refine x_if_ge hg dX7_sheet_41 (tg := 51) (by decide) rfl hw (fun hw => ?_) (fun hw => ?_)
            · refine x_iload_2 hg dX7_sheet_51 rfl ?_
              refine x_if_eq hg dX7_sheet_52 (tg := 68) (by decide) rfl hw (fun hw => ?_) (fun hw => ?_)
              · refine x_aload_0 hg dX7_sheet_68 rfl ?_
                refine get_X7_3 hg kC_0 fl_X7_21 dX7_sheet_69 rfl (k2 := 63) rfl ?_
                refine x_iload_1 hg dX7_sheet_72 rfl ?_
                refine x_aald hg (t := 3) kC_63 (by decide) rfl rfl rfl rfl dX7_sheet_73 rfl hw (fun hin1 hw => ?_)
                refine x_iload_2 hg dX7_sheet_74 rfl ?_
                refine x_iload_2 hg dX7_sheet_75 rfl ?_
                refine x_if_ne hg dX7_sheet_76 (tg := 83) (by decide) rfl hw (fun hw => ?_) (fun hw => ?_)
                · refine x_iload_3 hg dX7_sheet_83 rfl ?_
                  refine x_callVV hg (xSheet_begin (gL g) (kEl_77 hin1) hw) (kEl_77 hin1) (by decide) rfl im_X2_begin se_X2_begin mi_X2_begin ml_X7_249 rfl rfl (As := [.int a2, .int a3]) rfl rfl rfl dX7_sheet_84 rfl (fun s2 hw => ?_)
                  refine x_ic hg dX7_sheet_87 ic_1 rfl ?_
                  exact x_ret hg dX7_sheet_88 hw
                · refine x_ic hg dX7_sheet_79 ic_0 rfl ?_
                  refine x_goto hg dX7_sheet_80 (pc' := 84) (by decide) ?_
                  refine x_callVV hg (xSheet_begin (gL g) (kEl_77 hin1) hw) (kEl_77 hin1) (by decide) rfl im_X2_begin se_X2_begin mi_X2_begin ml_X7_249 rfl rfl (As := [.int a2, .int 0]) rfl rfl rfl dX7_sheet_84 rfl (fun s2 hw => ?_)
                  refine x_ic hg dX7_sheet_87 ic_1 rfl ?_
                  exact x_ret hg dX7_sheet_88 hw
              · refine x_iload_3 hg dX7_sheet_55 rfl ?_
                refine x_bi hg dX7_sheet_56 bp_24 rfl ?_
                refine x_icmp_le hg dX7_sheet_58 (tg := 68) (by decide) rfl hw (fun hw => ?_) (fun hw => ?_)
                · refine x_aload_0 hg dX7_sheet_68 rfl ?_
                  refine get_X7_3 hg kC_0 fl_X7_21 dX7_sheet_69 rfl (k2 := 63) rfl ?_
                  refine x_iload_1 hg dX7_sheet_72 rfl ?_
                  refine x_aald hg (t := 3) kC_63 (by decide) rfl rfl rfl rfl dX7_sheet_73 rfl hw (fun hin1 hw => ?_)
                  refine x_iload_2 hg dX7_sheet_74 rfl ?_
                  refine x_iload_2 hg dX7_sheet_75 rfl ?_
                  refine x_if_ne hg dX7_sheet_76 (tg := 83) (by decide) rfl hw (fun hw => ?_) (fun hw => ?_)
                  · refine x_iload_3 hg dX7_sheet_83 rfl ?_
                    refine x_callVV hg (xSheet_begin (gL g) (kEl_77 hin1) hw) (kEl_77 hin1) (by decide) rfl im_X2_begin se_X2_begin mi_X2_begin ml_X7_249 rfl rfl (As := [.int a2, .int a3]) rfl rfl rfl dX7_sheet_84 rfl (fun s2 hw => ?_)
                    refine x_ic hg dX7_sheet_87 ic_1 rfl ?_
                    exact x_ret hg dX7_sheet_88 hw
                  · refine x_ic hg dX7_sheet_79 ic_0 rfl ?_
                    refine x_goto hg dX7_sheet_80 (pc' := 84) (by decide) ?_
                    refine x_callVV hg (xSheet_begin (gL g) (kEl_77 hin1) hw) (kEl_77 hin1) (by decide) rfl im_X2_begin se_X2_begin mi_X2_begin ml_X7_249 rfl rfl (As := [.int a2, .int 0]) rfl rfl rfl dX7_sheet_84 rfl (fun s2 hw => ?_)
                    refine x_ic hg dX7_sheet_87 ic_1 rfl ?_
                    exact x_ret hg dX7_sheet_88 hw
                · refine x_aload_0 hg dX7_sheet_61 rfl ?_
                  refine x_ldc hg kc_X7_51 dX7_sheet_62 rfl ?_
                  refine x_callVI hg (xB_failed (gL g)  hw) kC_0 (by decide) rfl im_X7_failed se_X7_failed mi_X7_failed ml_X7_52 rfl rfl (As := [.int (-1000000001)]) rfl rfl rfl dX7_sheet_64 rfl (fun r2 s2 hw => ?_)
                  exact x_ret hg dX7_sheet_67 hw
            · refine x_aload_0 hg dX7_sheet_44 rfl ?_
              refine x_ldc hg kc_X7_115 dX7_sheet_45 rfl ?_
              refine x_callVI hg (xB_failed (gL g)  hw) kC_0 (by decide) rfl im_X7_failed se_X7_failed mi_X7_failed ml_X7_52 rfl rfl (As := [.int (-1000000003)]) rfl rfl rfl dX7_sheet_47 rfl (fun r2 s2 hw => ?_)
              exact x_ret hg dX7_sheet_50 hw
        · refine x_iload_2 hg dX7_sheet_23 rfl ?_
          refine x_bi hg dX7_sheet_24 bp_32 rfl ?_
          refine x_icmp_eq hg dX7_sheet_26 (tg := 36) (by decide) rfl hw (fun hw => ?_) (fun hw => ?_)
          · refine x_iload_2 hg dX7_sheet_36 rfl ?_
            refine x_if_eq hg dX7_sheet_37 (tg := 51) (by decide) rfl hw (fun hw => ?_) (fun hw => ?_)
            · refine x_iload_2 hg dX7_sheet_51 rfl ?_
              refine x_if_eq hg dX7_sheet_52 (tg := 68) (by decide) rfl hw (fun hw => ?_) (fun hw => ?_)
              · refine x_aload_0 hg dX7_sheet_68 rfl ?_
                refine get_X7_3 hg kC_0 fl_X7_21 dX7_sheet_69 rfl (k2 := 63) rfl ?_
                refine x_iload_1 hg dX7_sheet_72 rfl ?_
                refine x_aald hg (t := 3) kC_63 (by decide) rfl rfl rfl rfl dX7_sheet_73 rfl hw (fun hin1 hw => ?_)
                refine x_iload_2 hg dX7_sheet_74 rfl ?_
                refine x_iload_2 hg dX7_sheet_75 rfl ?_
                refine x_if_ne hg dX7_sheet_76 (tg := 83) (by decide) rfl hw (fun hw => ?_) (fun hw => ?_)
                · refine x_iload_3 hg dX7_sheet_83 rfl ?_
                  refine x_callVV hg (xSheet_begin (gL g) (kEl_77 hin1) hw) (kEl_77 hin1) (by decide) rfl im_X2_begin se_X2_begin mi_X2_begin ml_X7_249 rfl rfl (As := [.int a2, .int a3]) rfl rfl rfl dX7_sheet_84 rfl (fun s2 hw => ?_)
                  refine x_ic hg dX7_sheet_87 ic_1 rfl ?_
                  exact x_ret hg dX7_sheet_88 hw
                · refine x_ic hg dX7_sheet_79 ic_0 rfl ?_
                  refine x_goto hg dX7_sheet_80 (pc' := 84) (by decide) ?_
                  refine x_callVV hg (xSheet_begin (gL g) (kEl_77 hin1) hw) (kEl_77 hin1) (by decide) rfl im_X2_begin se_X2_begin mi_X2_begin ml_X7_249 rfl rfl (As := [.int a2, .int 0]) rfl rfl rfl dX7_sheet_84 rfl (fun s2 hw => ?_)
                  refine x_ic hg dX7_sheet_87 ic_1 rfl ?_
                  exact x_ret hg dX7_sheet_88 hw
              · refine x_iload_3 hg dX7_sheet_55 rfl ?_
                refine x_bi hg dX7_sheet_56 bp_24 rfl ?_
                refine x_icmp_le hg dX7_sheet_58 (tg := 68) (by decide) rfl hw (fun hw => ?_) (fun hw => ?_)
                · refine x_aload_0 hg dX7_sheet_68 rfl ?_
                  refine get_X7_3 hg kC_0 fl_X7_21 dX7_sheet_69 rfl (k2 := 63) rfl ?_
                  refine x_iload_1 hg dX7_sheet_72 rfl ?_
                  refine x_aald hg (t := 3) kC_63 (by decide) rfl rfl rfl rfl dX7_sheet_73 rfl hw (fun hin1 hw => ?_)
                  refine x_iload_2 hg dX7_sheet_74 rfl ?_
                  refine x_iload_2 hg dX7_sheet_75 rfl ?_
                  refine x_if_ne hg dX7_sheet_76 (tg := 83) (by decide) rfl hw (fun hw => ?_) (fun hw => ?_)
                  · refine x_iload_3 hg dX7_sheet_83 rfl ?_
                    refine x_callVV hg (xSheet_begin (gL g) (kEl_77 hin1) hw) (kEl_77 hin1) (by decide) rfl im_X2_begin se_X2_begin mi_X2_begin ml_X7_249 rfl rfl (As := [.int a2, .int a3]) rfl rfl rfl dX7_sheet_84 rfl (fun s2 hw => ?_)
                    refine x_ic hg dX7_sheet_87 ic_1 rfl ?_
                    exact x_ret hg dX7_sheet_88 hw
                  · refine x_ic hg dX7_sheet_79 ic_0 rfl ?_
                    refine x_goto hg dX7_sheet_80 (pc' := 84) (by decide) ?_
                    refine x_callVV hg (xSheet_begin (gL g) (kEl_77 hin1) hw) (kEl_77 hin1) (by decide) rfl im_X2_begin se_X2_begin mi_X2_begin ml_X7_249 rfl rfl (As := [.int a2, .int 0]) rfl rfl rfl dX7_sheet_84 rfl (fun s2 hw => ?_)
                    refine x_ic hg dX7_sheet_87 ic_1 rfl ?_
                    exact x_ret hg dX7_sheet_88 hw
                · refine x_aload_0 hg dX7_sheet_61 rfl ?_
                  refine x_ldc hg kc_X7_51 dX7_sheet_62 rfl ?_
                  refine x_callVI hg (xB_failed (gL g)  hw) kC_0 (by decide) rfl im_X7_failed se_X7_failed mi_X7_failed ml_X7_52 rfl rfl (As := [.int (-1000000001)]) rfl rfl rfl dX7_sheet_64 rfl (fun r2 s2 hw => ?_)
                  exact x_ret hg dX7_sheet_67 hw
            · refine x_iload_3 hg dX7_sheet_40 rfl ?_
              refine x_if_ge hg dX7_sheet_41 (tg := 51) (by decide) rfl hw (fun hw => ?_) (fun hw => ?_)
              · refine x_iload_2 hg dX7_sheet_51 rfl ?_
                refine x_if_eq hg dX7_sheet_52 (tg := 68) (by decide) rfl hw (fun hw => ?_) (fun hw => ?_)
                · refine x_aload_0 hg dX7_sheet_68 rfl ?_
                  refine get_X7_3 hg kC_0 fl_X7_21 dX7_sheet_69 rfl (k2 := 63) rfl ?_
                  refine x_iload_1 hg dX7_sheet_72 rfl ?_
                  refine x_aald hg (t := 3) kC_63 (by decide) rfl rfl rfl rfl dX7_sheet_73 rfl hw (fun hin1 hw => ?_)
                  refine x_iload_2 hg dX7_sheet_74 rfl ?_
                  refine x_iload_2 hg dX7_sheet_75 rfl ?_
                  refine x_if_ne hg dX7_sheet_76 (tg := 83) (by decide) rfl hw (fun hw => ?_) (fun hw => ?_)
                  · refine x_iload_3 hg dX7_sheet_83 rfl ?_
                    refine x_callVV hg (xSheet_begin (gL g) (kEl_77 hin1) hw) (kEl_77 hin1) (by decide) rfl im_X2_begin se_X2_begin mi_X2_begin ml_X7_249 rfl rfl (As := [.int a2, .int a3]) rfl rfl rfl dX7_sheet_84 rfl (fun s2 hw => ?_)
                    refine x_ic hg dX7_sheet_87 ic_1 rfl ?_
                    exact x_ret hg dX7_sheet_88 hw
                  · refine x_ic hg dX7_sheet_79 ic_0 rfl ?_
                    refine x_goto hg dX7_sheet_80 (pc' := 84) (by decide) ?_
                    refine x_callVV hg (xSheet_begin (gL g) (kEl_77 hin1) hw) (kEl_77 hin1) (by decide) rfl im_X2_begin se_X2_begin mi_X2_begin ml_X7_249 rfl rfl (As := [.int a2, .int 0]) rfl rfl rfl dX7_sheet_84 rfl (fun s2 hw => ?_)
                    refine x_ic hg dX7_sheet_87 ic_1 rfl ?_
                    exact x_ret hg dX7_sheet_88 hw
                · refine x_iload_3 hg dX7_sheet_55 rfl ?_
                  refine x_bi hg dX7_sheet_56 bp_24 rfl ?_
                  refine x_icmp_le hg dX7_sheet_58 (tg := 68) (by decide) rfl hw (fun hw => ?_) (fun hw => ?_)
                  · refine x_aload_0 hg dX7_sheet_68 rfl ?_
                    refine get_X7_3 hg kC_0 fl_X7_21 dX7_sheet_69 rfl (k2 := 63) rfl ?_
                    refine x_iload_1 hg dX7_sheet_72 rfl ?_
                    refine x_aald hg (t := 3) kC_63 (by decide) rfl rfl rfl rfl dX7_sheet_73 rfl hw (fun hin1 hw => ?_)
                    refine x_iload_2 hg dX7_sheet_74 rfl ?_
                    refine x_iload_2 hg dX7_sheet_75 rfl ?_
                    refine x_if_ne hg dX7_sheet_76 (tg := 83) (by decide) rfl hw (fun hw => ?_) (fun hw => ?_)
                    · refine x_iload_3 hg dX7_sheet_83 rfl ?_
                      refine x_callVV hg (xSheet_begin (gL g) (kEl_77 hin1) hw) (kEl_77 hin1) (by decide) rfl im_X2_begin se_X2_begin mi_X2_begin ml_X7_249 rfl rfl (As := [.int a2, .int a3]) rfl rfl rfl dX7_sheet_84 rfl (fun s2 hw => ?_)
                      refine x_ic hg dX7_sheet_87 ic_1 rfl ?_
                      exact x_ret hg dX7_sheet_88 hw
                    · refine x_ic hg dX7_sheet_79 ic_0 rfl ?_
                      refine x_goto hg dX7_sheet_80 (pc' := 84) (by decide) ?_
                      refine x_callVV hg (xSheet_begin (gL g) (kEl_77 hin1) hw) (kEl_77 hin1) (by decide) rfl im_X2_begin se_X2_begin mi_X2_begin ml_X7_249 rfl rfl (As := [.int a2, .int 0]) rfl rfl rfl dX7_sheet_84 rfl (fun s2 hw => ?_)
                      refine x_ic hg dX7_sheet_87 ic_1 rfl ?_
                      exact x_ret hg dX7_sheet_88 hw
                  · refine x_aload_0 hg dX7_sheet_61 rfl ?_
                    refine x_ldc hg kc_X7_51 dX7_sheet_62 rfl ?_
                    refine x_callVI hg (xB_failed (gL g)  hw) kC_0 (by decide) rfl im_X7_failed se_X7_failed mi_X7_failed ml_X7_52 rfl rfl (As := [.int (-1000000001)]) rfl rfl rfl dX7_sheet_64 rfl (fun r2 s2 hw => ?_)
                    exact x_ret hg dX7_sheet_67 hw
              · refine x_aload_0 hg dX7_sheet_44 rfl ?_
                refine x_ldc hg kc_X7_115 dX7_sheet_45 rfl ?_
                refine x_callVI hg (xB_failed (gL g)  hw) kC_0 (by decide) rfl im_X7_failed se_X7_failed mi_X7_failed ml_X7_52 rfl rfl (As := [.int (-1000000003)]) rfl rfl rfl dX7_sheet_47 rfl (fun r2 s2 hw => ?_)
                exact x_ret hg dX7_sheet_50 hw
          · refine x_aload_0 hg dX7_sheet_29 rfl ?_
            refine x_ldc hg kc_X7_51 dX7_sheet_30 rfl ?_
            refine x_callVI hg (xB_failed (gL g)  hw) kC_0 (by decide) rfl im_X7_failed se_X7_failed mi_X7_failed ml_X7_52 rfl rfl (As := [.int (-1000000001)]) rfl rfl rfl dX7_sheet_32 rfl (fun r2 s2 hw => ?_)
            exact x_ret hg dX7_sheet_35 hw
def wB_put (a1 : Int32) (a2 : Int32) (a3 : Int32) (s0 : Sg) (P : Int32 → Sg → Prop) : Prop := (wB_isSheet a1 s0 (fun (r1 : Int32) (s1 : Sg) => ((¬ r1 = 0 → (vp_in a1 4 ∧ (wSheet_isMissing ((77 + 3 * ix a1)) s1 (fun (r2 : Int32) (s2 : Sg) => ((r2 = 0 → (vp_in a1 4 ∧ (wRow_has (((77 + 3 * ix a1) + 1)) a2 s2 (fun (r3 : Int32) (s3 : Sg) => ((¬ r3 = 0 → (vp_in a1 4 ∧ (wSheet_write ((77 + 3 * ix a1)) a2 a3 s3 (fun (s4 : Sg) => P 1 s4)))) ∧ (r3 = 0 → (wB_failed ((-1000000001)) s3 (fun (r4 : Int32) (s4 : Sg) => P r4 s4)))))))) ∧ (¬ r2 = 0 → (wB_failed ((-1000000002)) s2 (fun (r3 : Int32) (s3 : Sg) => P r3 s3)))))))) ∧ (r1 = 0 → (wB_failed ((-1000000001)) s1 (fun (r2 : Int32) (s2 : Sg) => P r2 s2))))))
set_option maxRecDepth 100000 in
set_option maxHeartbeats 4000000 in
theorem xB_put {w : Wc} (l : Launch) {a1 : Int32} {a2 : Int32} {a3 : Int32} {s0 : Sg} {P : Int32 → Sg → Prop} (hw : wB_put a1 a2 a3 s0 P) : CI shC w l 3 (.code yX7_put cX7_put 4 (some .int)) yX7_put [.ref (ad w 0), .int a1, .int a2, .int a3] s0 P := by
  refine ci_of_i (own := "BagBottom") (ls0 := [some (.ref (ad w 0)), some (.int a1), some (.int a2), some (.int a3)]) rfl pn_X7 rfl rfl (fun g el hg => ?_)
  unfold wB_put at hw
  refine x_iload_1 hg dX7_put_0 rfl ?_
  refine x_callSI hg (xB_isSheet (gL g)  hw) sm_X7_isSheet mi_X7_isSheet ml_X7_224 rfl rfl (As := [.int a1]) rfl rfl rfl dX7_put_1 rfl (fun r1 s1 hw => ?_)
  refine x_if_ne hg dX7_put_4 (tg := 14) (by decide) rfl hw (fun hw => ?_) (fun hw => ?_)
  · refine x_aload_0 hg dX7_put_14 rfl ?_
    refine get_X7_3 hg kC_0 fl_X7_21 dX7_put_15 rfl (k2 := 63) rfl ?_
    refine x_iload_1 hg dX7_put_18 rfl ?_
    refine x_aald hg (t := 3) kC_63 (by decide) rfl rfl rfl rfl dX7_put_19 rfl hw (fun hin1 hw => ?_)
    refine x_callVI hg (xSheet_isMissing (gL g) (kEl_77 hin1) hw) (kEl_77 hin1) (by decide) rfl im_X2_isMissing se_X2_isMissing mi_X2_isMissing ml_X7_227 rfl rfl (As := []) rfl rfl rfl dX7_put_20 rfl (fun r2 s2 hw => ?_)
    refine x_if_eq hg dX7_put_23 (tg := 33) (by decide) rfl hw (fun hw => ?_) (fun hw => ?_)
    · refine x_aload_0 hg dX7_put_33 rfl ?_
      refine get_X7_3 hg kC_0 fl_X7_21 dX7_put_34 rfl (k2 := 63) rfl ?_
      refine x_iload_1 hg dX7_put_37 rfl ?_
      refine x_aald hg (t := 3) kC_63 (by decide) rfl rfl rfl rfl dX7_put_38 rfl hw (fun hin2 hw => ?_)
      refine get_X2_1 hg (kEl_77 hin2) fl_X7_230 dX7_put_39 rfl (k2 := ((77 + 3 * ix a1) + 1)) rfl ?_
      refine x_iload_2 hg dX7_put_42 rfl ?_
      refine x_callVI hg (xRow_has (gL g) (kSheet (kEl_77 hin2)) hw) (kSheet (kEl_77 hin2)) (by decide) rfl im_X1_has se_X1_has mi_X1_has ml_X7_107 rfl rfl (As := [.int a2]) rfl rfl rfl dX7_put_43 rfl (fun r3 s3 hw => ?_)
      refine x_if_ne hg dX7_put_46 (tg := 56) (by decide) rfl hw (fun hw => ?_) (fun hw => ?_)
      · refine x_aload_0 hg dX7_put_56 rfl ?_
        refine get_X7_3 hg kC_0 fl_X7_21 dX7_put_57 rfl (k2 := 63) rfl ?_
        refine x_iload_1 hg dX7_put_60 rfl ?_
        refine x_aald hg (t := 3) kC_63 (by decide) rfl rfl rfl rfl dX7_put_61 rfl hw (fun hin3 hw => ?_)
        refine x_iload_2 hg dX7_put_62 rfl ?_
        refine x_iload_3 hg dX7_put_63 rfl ?_
        refine x_callVV hg (xSheet_write (gL g) (kEl_77 hin3) hw) (kEl_77 hin3) (by decide) rfl im_X2_write se_X2_write mi_X2_write ml_X7_253 rfl rfl (As := [.int a2, .int a3]) rfl rfl rfl dX7_put_64 rfl (fun s4 hw => ?_)
        refine x_ic hg dX7_put_67 ic_1 rfl ?_
        exact x_ret hg dX7_put_68 hw
      · refine x_aload_0 hg dX7_put_49 rfl ?_
        refine x_ldc hg kc_X7_51 dX7_put_50 rfl ?_
        refine x_callVI hg (xB_failed (gL g)  hw) kC_0 (by decide) rfl im_X7_failed se_X7_failed mi_X7_failed ml_X7_52 rfl rfl (As := [.int (-1000000001)]) rfl rfl rfl dX7_put_52 rfl (fun r4 s4 hw => ?_)
        exact x_ret hg dX7_put_55 hw
    · refine x_aload_0 hg dX7_put_26 rfl ?_
      refine x_ldc hg kc_X7_198 dX7_put_27 rfl ?_
      refine x_callVI hg (xB_failed (gL g)  hw) kC_0 (by decide) rfl im_X7_failed se_X7_failed mi_X7_failed ml_X7_52 rfl rfl (As := [.int (-1000000002)]) rfl rfl rfl dX7_put_29 rfl (fun r3 s3 hw => ?_)
      exact x_ret hg dX7_put_32 hw
  · refine x_aload_0 hg dX7_put_7 rfl ?_
    refine x_ldc hg kc_X7_51 dX7_put_8 rfl ?_
    refine x_callVI hg (xB_failed (gL g)  hw) kC_0 (by decide) rfl im_X7_failed se_X7_failed mi_X7_failed ml_X7_52 rfl rfl (As := [.int (-1000000001)]) rfl rfl rfl dX7_put_10 rfl (fun r2 s2 hw => ?_)
    exact x_ret hg dX7_put_13 hw
def wB_move (a1 : Int32) (a2 : Int32) (a3 : Int32) (a4 : Int32) (a5 : Int32) (s0 : Sg) (P : Int32 → Sg → Prop) : Prop := (wB_isSheet a1 s0 (fun (r1 : Int32) (s1 : Sg) => ((r1 = 0 → (wB_failed ((-1000000001)) s1 (fun (r2 : Int32) (s2 : Sg) => P r2 s2))) ∧ (¬ r1 = 0 → (wB_isSheet a3 s1 (fun (r2 : Int32) (s2 : Sg) => ((¬ r2 = 0 → (vp_in a1 4 ∧ (vp_in a3 4 ∧ (wSheet_isMissing ((77 + 3 * ix a1)) s2 (fun (r3 : Int32) (s3 : Sg) => ((¬ r3 = 0 → (wB_failed ((-1000000002)) s3 (fun (r4 : Int32) (s4 : Sg) => P r4 s4))) ∧ (r3 = 0 → (wSheet_isMissing ((77 + 3 * ix a3)) s3 (fun (r4 : Int32) (s4 : Sg) => ((r4 = 0 → (((s4 ((77 + 3 * ix a1)) 0) = (s4 ((77 + 3 * ix a3)) 0) → (wRow_hasRun (((77 + 3 * ix a1) + 1)) a2 a5 s4 (fun (r5 : Int32) (s5 : Sg) => ((r5 = 0 → (wB_failed ((-1000000001)) s5 (fun (r6 : Int32) (s6 : Sg) => P r6 s6))) ∧ (¬ r5 = 0 → (wRow_hasRun (((77 + 3 * ix a3) + 1)) a4 a5 s5 (fun (r6 : Int32) (s6 : Sg) => ((¬ r6 = 0 → (acp ((((77 + 3 * ix a1) + 1) + 1)) ((((77 + 3 * ix a3) + 1) + 1)) shC a2 a4 a5 ∧ ∀ s7 : Sg, s7 = c2 s6 ((((77 + 3 * ix a1) + 1) + 1)) (ix a2) ((((77 + 3 * ix a3) + 1) + 1)) (ix a4) (ix a5) → P a5 s7)) ∧ (r6 = 0 → (wB_failed ((-1000000001)) s6 (fun (r7 : Int32) (s7 : Sg) => P r7 s7))))))))))) ∧ (¬ (s4 ((77 + 3 * ix a1)) 0) = (s4 ((77 + 3 * ix a3)) 0) → (wB_failed ((-1000000005)) s4 (fun (r5 : Int32) (s5 : Sg) => P r5 s5))))) ∧ (¬ r4 = 0 → (wB_failed ((-1000000002)) s4 (fun (r5 : Int32) (s5 : Sg) => P r5 s5))))))))))))) ∧ (r2 = 0 → (wB_failed ((-1000000001)) s2 (fun (r3 : Int32) (s3 : Sg) => P r3 s3))))))))))
set_option maxRecDepth 100000 in
set_option maxHeartbeats 4000000 in
theorem xB_move {w : Wc} (l : Launch) {a1 : Int32} {a2 : Int32} {a3 : Int32} {a4 : Int32} {a5 : Int32} {s0 : Sg} {P : Int32 → Sg → Prop} (hw : wB_move a1 a2 a3 a4 a5 s0 P) : CI shC w l 2 (.code yX7_move cX7_move 8 (some .int)) yX7_move [.ref (ad w 0), .int a1, .int a2, .int a3, .int a4, .int a5] s0 P := by
  refine ci_of_i (own := "BagBottom") (ls0 := [some (.ref (ad w 0)), some (.int a1), some (.int a2), some (.int a3), some (.int a4), some (.int a5), none, none]) rfl pn_X7 rfl rfl (fun g el hg => ?_)
  unfold wB_move at hw
  refine x_iload_1 hg dX7_move_0 rfl ?_
  refine x_callSI hg (xB_isSheet (gL g)  hw) sm_X7_isSheet mi_X7_isSheet ml_X7_224 rfl rfl (As := [.int a1]) rfl rfl rfl dX7_move_1 rfl (fun r1 s1 hw => ?_)
  refine x_if_eq hg dX7_move_4 (tg := 14) (by decide) rfl hw (fun hw => ?_) (fun hw => ?_)
  · refine x_aload_0 hg dX7_move_14 rfl ?_
    refine x_ldc hg kc_X7_51 dX7_move_15 rfl ?_
    refine x_callVI hg (xB_failed (gL g)  hw) kC_0 (by decide) rfl im_X7_failed se_X7_failed mi_X7_failed ml_X7_52 rfl rfl (As := [.int (-1000000001)]) rfl rfl rfl dX7_move_17 rfl (fun r2 s2 hw => ?_)
    exact x_ret hg dX7_move_20 hw
  · refine x_iload_3 hg dX7_move_7 rfl ?_
    refine x_callSI hg (xB_isSheet (gL g)  hw) sm_X7_isSheet mi_X7_isSheet ml_X7_224 rfl rfl (As := [.int a3]) rfl rfl rfl dX7_move_8 rfl (fun r2 s2 hw => ?_)
    refine x_if_ne hg dX7_move_11 (tg := 21) (by decide) rfl hw (fun hw => ?_) (fun hw => ?_)
    · refine x_aload_0 hg dX7_move_21 rfl ?_
      refine get_X7_3 hg kC_0 fl_X7_21 dX7_move_22 rfl (k2 := 63) rfl ?_
      refine x_iload_1 hg dX7_move_25 rfl ?_
      refine x_aald hg (t := 3) kC_63 (by decide) rfl rfl rfl rfl dX7_move_26 rfl hw (fun hin1 hw => ?_)
      refine x_astore_6 hg dX7_move_27 rfl rfl rfl ?_
      refine x_aload_0 hg dX7_move_29 rfl ?_
      refine get_X7_3 hg kC_0 fl_X7_21 dX7_move_30 rfl (k2 := 63) rfl ?_
      refine x_iload_3 hg dX7_move_33 rfl ?_
      refine x_aald hg (t := 3) kC_63 (by decide) rfl rfl rfl rfl dX7_move_34 rfl hw (fun hin2 hw => ?_)
      refine x_astore_7 hg dX7_move_35 rfl rfl rfl ?_
      refine x_aload_6 hg dX7_move_37 rfl ?_
      refine x_callVI hg (xSheet_isMissing (gL g) (kEl_77 hin1) hw) (kEl_77 hin1) (by decide) rfl im_X2_isMissing se_X2_isMissing mi_X2_isMissing ml_X7_227 rfl rfl (As := []) rfl rfl rfl dX7_move_39 rfl (fun r3 s3 hw => ?_)
      refine x_if_ne hg dX7_move_42 (tg := 53) (by decide) rfl hw (fun hw => ?_) (fun hw => ?_)
      · refine x_aload_0 hg dX7_move_53 rfl ?_
        refine x_ldc hg kc_X7_198 dX7_move_54 rfl ?_
        refine x_callVI hg (xB_failed (gL g)  hw) kC_0 (by decide) rfl im_X7_failed se_X7_failed mi_X7_failed ml_X7_52 rfl rfl (As := [.int (-1000000002)]) rfl rfl rfl dX7_move_56 rfl (fun r4 s4 hw => ?_)
        exact x_ret hg dX7_move_59 hw
      · refine x_aload_7 hg dX7_move_45 rfl ?_
        refine x_callVI hg (xSheet_isMissing (gL g) (kEl_77 hin2) hw) (kEl_77 hin2) (by decide) rfl im_X2_isMissing se_X2_isMissing mi_X2_isMissing ml_X7_227 rfl rfl (As := []) rfl rfl rfl dX7_move_47 rfl (fun r4 s4 hw => ?_)
        refine x_if_eq hg dX7_move_50 (tg := 60) (by decide) rfl hw (fun hw => ?_) (fun hw => ?_)
        · refine x_aload_6 hg dX7_move_60 rfl ?_
          refine get_X2_0 hg (kEl_77 hin1) fl_X7_256 dX7_move_62 rfl ?_
          refine x_aload_7 hg dX7_move_65 rfl ?_
          refine get_X2_0 hg (kEl_77 hin2) fl_X7_256 dX7_move_67 rfl ?_
          refine x_icmp_eq hg dX7_move_70 (tg := 80) (by decide) rfl hw (fun hw => ?_) (fun hw => ?_)
          · refine x_aload_6 hg dX7_move_80 rfl ?_
            refine get_X2_1 hg (kEl_77 hin1) fl_X7_230 dX7_move_82 rfl (k2 := ((77 + 3 * ix a1) + 1)) rfl ?_
            refine x_iload_2 hg dX7_move_85 rfl ?_
            refine x_iload_5 hg dX7_move_86 rfl ?_
            refine x_callVI hg (xRow_hasRun (gL g) (kSheet (kEl_77 hin1)) hw) (kSheet (kEl_77 hin1)) (by decide) rfl im_X1_hasRun se_X1_hasRun mi_X1_hasRun ml_X7_259 rfl rfl (As := [.int a2, .int a5]) rfl rfl rfl dX7_move_88 rfl (fun r5 s5 hw => ?_)
            refine x_if_eq hg dX7_move_91 (tg := 109) (by decide) rfl hw (fun hw => ?_) (fun hw => ?_)
            · refine x_aload_0 hg dX7_move_109 rfl ?_
              refine x_ldc hg kc_X7_51 dX7_move_110 rfl ?_
              refine x_callVI hg (xB_failed (gL g)  hw) kC_0 (by decide) rfl im_X7_failed se_X7_failed mi_X7_failed ml_X7_52 rfl rfl (As := [.int (-1000000001)]) rfl rfl rfl dX7_move_112 rfl (fun r6 s6 hw => ?_)
              exact x_ret hg dX7_move_115 hw
            · refine x_aload_7 hg dX7_move_94 rfl ?_
              refine get_X2_1 hg (kEl_77 hin2) fl_X7_230 dX7_move_96 rfl (k2 := ((77 + 3 * ix a3) + 1)) rfl ?_
              refine x_iload_4 hg dX7_move_99 rfl ?_
              refine x_iload_5 hg dX7_move_101 rfl ?_
              refine x_callVI hg (xRow_hasRun (gL g) (kSheet (kEl_77 hin2)) hw) (kSheet (kEl_77 hin2)) (by decide) rfl im_X1_hasRun se_X1_hasRun mi_X1_hasRun ml_X7_259 rfl rfl (As := [.int a4, .int a5]) rfl rfl rfl dX7_move_103 rfl (fun r6 s6 hw => ?_)
              refine x_if_ne hg dX7_move_106 (tg := 116) (by decide) rfl hw (fun hw => ?_) (fun hw => ?_)
              · refine x_aload_6 hg dX7_move_116 rfl ?_
                refine get_X2_1 hg (kEl_77 hin1) fl_X7_230 dX7_move_118 rfl (k2 := ((77 + 3 * ix a1) + 1)) rfl ?_
                refine get_X1_0 hg (kSheet (kEl_77 hin1)) fl_X7_112 dX7_move_121 rfl (k2 := (((77 + 3 * ix a1) + 1) + 1)) rfl ?_
                refine x_iload_2 hg dX7_move_124 rfl ?_
                refine x_aload_7 hg dX7_move_125 rfl ?_
                refine get_X2_1 hg (kEl_77 hin2) fl_X7_230 dX7_move_127 rfl (k2 := ((77 + 3 * ix a3) + 1)) rfl ?_
                refine get_X1_0 hg (kSheet (kEl_77 hin2)) fl_X7_112 dX7_move_130 rfl (k2 := (((77 + 3 * ix a3) + 1) + 1)) rfl ?_
                refine x_iload_4 hg dX7_move_133 rfl ?_
                refine x_iload_5 hg dX7_move_135 rfl ?_
                refine x_copy hg (kRow (kSheet (kEl_77 hin1))) (kRow (kSheet (kEl_77 hin2))) rfl rfl ml_X7_263 nt_arraycopy sm_arraycopy ini_J10 dX7_move_137 rfl hw (fun s7 hw => ?_)
                refine x_iload_5 hg dX7_move_140 rfl ?_
                exact x_ret hg dX7_move_142 hw
              · refine x_aload_0 hg dX7_move_109 rfl ?_
                refine x_ldc hg kc_X7_51 dX7_move_110 rfl ?_
                refine x_callVI hg (xB_failed (gL g)  hw) kC_0 (by decide) rfl im_X7_failed se_X7_failed mi_X7_failed ml_X7_52 rfl rfl (As := [.int (-1000000001)]) rfl rfl rfl dX7_move_112 rfl (fun r7 s7 hw => ?_)
                exact x_ret hg dX7_move_115 hw
          · refine x_aload_0 hg dX7_move_73 rfl ?_
            refine x_ldc hg kc_X7_102 dX7_move_74 rfl ?_
            refine x_callVI hg (xB_failed (gL g)  hw) kC_0 (by decide) rfl im_X7_failed se_X7_failed mi_X7_failed ml_X7_52 rfl rfl (As := [.int (-1000000005)]) rfl rfl rfl dX7_move_76 rfl (fun r5 s5 hw => ?_)
            exact x_ret hg dX7_move_79 hw
        · refine x_aload_0 hg dX7_move_53 rfl ?_
          refine x_ldc hg kc_X7_198 dX7_move_54 rfl ?_
          refine x_callVI hg (xB_failed (gL g)  hw) kC_0 (by decide) rfl im_X7_failed se_X7_failed mi_X7_failed ml_X7_52 rfl rfl (As := [.int (-1000000002)]) rfl rfl rfl dX7_move_56 rfl (fun r5 s5 hw => ?_)
          exact x_ret hg dX7_move_59 hw
    · refine x_aload_0 hg dX7_move_14 rfl ?_
      refine x_ldc hg kc_X7_51 dX7_move_15 rfl ?_
      refine x_callVI hg (xB_failed (gL g)  hw) kC_0 (by decide) rfl im_X7_failed se_X7_failed mi_X7_failed ml_X7_52 rfl rfl (As := [.int (-1000000001)]) rfl rfl rfl dX7_move_17 rfl (fun r3 s3 hw => ?_)
      exact x_ret hg dX7_move_20 hw
def wB_weights (a1 : Int32) (s0 : Sg) (P : Int32 → Sg → Prop) : Prop := (wB_isSheet a1 s0 (fun (r1 : Int32) (s1 : Sg) => ((¬ r1 = 0 → (vp_in a1 4 ∧ (wSheet_isMissing ((77 + 3 * ix a1)) s1 (fun (r2 : Int32) (s2 : Sg) => ((r2 = 0 → (vp_in a1 4 ∧ (wBag_takeWeights (((77 + 3 * ix a1) + 1)) s2 (fun (r3 : Int32) (s3 : Sg) => P r3 s3)))) ∧ (¬ r2 = 0 → (wB_failed ((-1000000002)) s2 (fun (r3 : Int32) (s3 : Sg) => P r3 s3)))))))) ∧ (r1 = 0 → (wB_failed ((-1000000001)) s1 (fun (r2 : Int32) (s2 : Sg) => P r2 s2))))))
set_option maxRecDepth 100000 in
set_option maxHeartbeats 4000000 in
theorem xB_weights {w : Wc} (l : Launch) {a1 : Int32} {s0 : Sg} {P : Int32 → Sg → Prop} (hw : wB_weights a1 s0 P) : CI shC w l 3 (.code yX7_weights cX7_weights 2 (some .int)) yX7_weights [.ref (ad w 0), .int a1] s0 P := by
  refine ci_of_i (own := "BagBottom") (ls0 := [some (.ref (ad w 0)), some (.int a1)]) rfl pn_X7 rfl rfl (fun g el hg => ?_)
  unfold wB_weights at hw
  refine x_iload_1 hg dX7_weights_0 rfl ?_
  refine x_callSI hg (xB_isSheet (gL g)  hw) sm_X7_isSheet mi_X7_isSheet ml_X7_224 rfl rfl (As := [.int a1]) rfl rfl rfl dX7_weights_1 rfl (fun r1 s1 hw => ?_)
  refine x_if_ne hg dX7_weights_4 (tg := 14) (by decide) rfl hw (fun hw => ?_) (fun hw => ?_)
  · refine x_aload_0 hg dX7_weights_14 rfl ?_
    refine get_X7_3 hg kC_0 fl_X7_21 dX7_weights_15 rfl (k2 := 63) rfl ?_
    refine x_iload_1 hg dX7_weights_18 rfl ?_
    refine x_aald hg (t := 3) kC_63 (by decide) rfl rfl rfl rfl dX7_weights_19 rfl hw (fun hin1 hw => ?_)
    refine x_callVI hg (xSheet_isMissing (gL g) (kEl_77 hin1) hw) (kEl_77 hin1) (by decide) rfl im_X2_isMissing se_X2_isMissing mi_X2_isMissing ml_X7_227 rfl rfl (As := []) rfl rfl rfl dX7_weights_20 rfl (fun r2 s2 hw => ?_)
    refine x_if_eq hg dX7_weights_23 (tg := 33) (by decide) rfl hw (fun hw => ?_) (fun hw => ?_)
    · refine x_aload_0 hg dX7_weights_33 rfl ?_
      refine get_X7_0 hg kC_0 fl_X7_12 dX7_weights_34 rfl (k2 := 1) rfl ?_
      refine x_aload_0 hg dX7_weights_37 rfl ?_
      refine get_X7_3 hg kC_0 fl_X7_21 dX7_weights_38 rfl (k2 := 63) rfl ?_
      refine x_iload_1 hg dX7_weights_41 rfl ?_
      refine x_aald hg (t := 3) kC_63 (by decide) rfl rfl rfl rfl dX7_weights_42 rfl hw (fun hin2 hw => ?_)
      refine get_X2_1 hg (kEl_77 hin2) fl_X7_230 dX7_weights_43 rfl (k2 := ((77 + 3 * ix a1) + 1)) rfl ?_
      refine x_callVI hg (xBag_takeWeights (gL g) (kSheet (kEl_77 hin2)) hw) kC_1 (by decide) rfl im_X0_takeWeights se_X0_takeWeights mi_X0_takeWeights ml_X7_269 rfl rfl (As := [.ref (ad w ((77 + 3 * ix a1) + 1))]) rfl rfl rfl dX7_weights_46 rfl (fun r3 s3 hw => ?_)
      exact x_ret hg dX7_weights_49 hw
    · refine x_aload_0 hg dX7_weights_26 rfl ?_
      refine x_ldc hg kc_X7_198 dX7_weights_27 rfl ?_
      refine x_callVI hg (xB_failed (gL g)  hw) kC_0 (by decide) rfl im_X7_failed se_X7_failed mi_X7_failed ml_X7_52 rfl rfl (As := [.int (-1000000002)]) rfl rfl rfl dX7_weights_29 rfl (fun r3 s3 hw => ?_)
      exact x_ret hg dX7_weights_32 hw
  · refine x_aload_0 hg dX7_weights_7 rfl ?_
    refine x_ldc hg kc_X7_51 dX7_weights_8 rfl ?_
    refine x_callVI hg (xB_failed (gL g)  hw) kC_0 (by decide) rfl im_X7_failed se_X7_failed mi_X7_failed ml_X7_52 rfl rfl (As := [.int (-1000000001)]) rfl rfl rfl dX7_weights_10 rfl (fun r2 s2 hw => ?_)
    exact x_ret hg dX7_weights_13 hw
def wB_judge (a1 : Int32) (s0 : Sg) (P : Int32 → Sg → Prop) : Prop := (wB_isSheet a1 s0 (fun (r1 : Int32) (s1 : Sg) => ((¬ r1 = 0 → (vp_in a1 4 ∧ (wSheet_isMissing ((77 + 3 * ix a1)) s1 (fun (r2 : Int32) (s2 : Sg) => ((r2 = 0 → (vp_in a1 4 ∧ (wRow_alikeWith (((77 + 3 * ix a1) + 1)) 3 s2 (fun (r3 : Int32) (s3 : Sg) => P r3 s3)))) ∧ (¬ r2 = 0 → (wB_failed ((-1000000002)) s2 (fun (r3 : Int32) (s3 : Sg) => P r3 s3)))))))) ∧ (r1 = 0 → (wB_failed ((-1000000001)) s1 (fun (r2 : Int32) (s2 : Sg) => P r2 s2))))))
set_option maxRecDepth 100000 in
set_option maxHeartbeats 4000000 in
theorem xB_judge {w : Wc} (l : Launch) {a1 : Int32} {s0 : Sg} {P : Int32 → Sg → Prop} (hw : wB_judge a1 s0 P) : CI shC w l 2 (.code yX7_judge cX7_judge 2 (some .int)) yX7_judge [.ref (ad w 0), .int a1] s0 P := by
  refine ci_of_i (own := "BagBottom") (ls0 := [some (.ref (ad w 0)), some (.int a1)]) rfl pn_X7 rfl rfl (fun g el hg => ?_)
  unfold wB_judge at hw
  refine x_iload_1 hg dX7_judge_0 rfl ?_
  refine x_callSI hg (xB_isSheet (gL g)  hw) sm_X7_isSheet mi_X7_isSheet ml_X7_224 rfl rfl (As := [.int a1]) rfl rfl rfl dX7_judge_1 rfl (fun r1 s1 hw => ?_)
  refine x_if_ne hg dX7_judge_4 (tg := 14) (by decide) rfl hw (fun hw => ?_) (fun hw => ?_)
  · refine x_aload_0 hg dX7_judge_14 rfl ?_
    refine get_X7_3 hg kC_0 fl_X7_21 dX7_judge_15 rfl (k2 := 63) rfl ?_
    refine x_iload_1 hg dX7_judge_18 rfl ?_
    refine x_aald hg (t := 3) kC_63 (by decide) rfl rfl rfl rfl dX7_judge_19 rfl hw (fun hin1 hw => ?_)
    refine x_callVI hg (xSheet_isMissing (gL g) (kEl_77 hin1) hw) (kEl_77 hin1) (by decide) rfl im_X2_isMissing se_X2_isMissing mi_X2_isMissing ml_X7_227 rfl rfl (As := []) rfl rfl rfl dX7_judge_20 rfl (fun r2 s2 hw => ?_)
    refine x_if_eq hg dX7_judge_23 (tg := 33) (by decide) rfl hw (fun hw => ?_) (fun hw => ?_)
    · refine x_aload_0 hg dX7_judge_33 rfl ?_
      refine get_X7_3 hg kC_0 fl_X7_21 dX7_judge_34 rfl (k2 := 63) rfl ?_
      refine x_iload_1 hg dX7_judge_37 rfl ?_
      refine x_aald hg (t := 3) kC_63 (by decide) rfl rfl rfl rfl dX7_judge_38 rfl hw (fun hin2 hw => ?_)
      refine get_X2_1 hg (kEl_77 hin2) fl_X7_230 dX7_judge_39 rfl (k2 := ((77 + 3 * ix a1) + 1)) rfl ?_
      refine x_aload_0 hg dX7_judge_42 rfl ?_
      refine get_X7_0 hg kC_0 fl_X7_12 dX7_judge_43 rfl (k2 := 1) rfl ?_
      refine get_X0_2 hg kC_1 fl_X7_103 dX7_judge_46 rfl (k2 := 3) rfl ?_
      refine x_callVI hg (xRow_alikeWith (gL g) (kSheet (kEl_77 hin2)) kC_3 hw) (kSheet (kEl_77 hin2)) (by decide) rfl im_X1_alikeWith se_X1_alikeWith mi_X1_alikeWith ml_X7_273 rfl rfl (As := [.ref (ad w 3)]) rfl rfl rfl dX7_judge_49 rfl (fun r3 s3 hw => ?_)
      exact x_ret hg dX7_judge_52 hw
    · refine x_aload_0 hg dX7_judge_26 rfl ?_
      refine x_ldc hg kc_X7_198 dX7_judge_27 rfl ?_
      refine x_callVI hg (xB_failed (gL g)  hw) kC_0 (by decide) rfl im_X7_failed se_X7_failed mi_X7_failed ml_X7_52 rfl rfl (As := [.int (-1000000002)]) rfl rfl rfl dX7_judge_29 rfl (fun r3 s3 hw => ?_)
      exact x_ret hg dX7_judge_32 hw
  · refine x_aload_0 hg dX7_judge_7 rfl ?_
    refine x_ldc hg kc_X7_51 dX7_judge_8 rfl ?_
    refine x_callVI hg (xB_failed (gL g)  hw) kC_0 (by decide) rfl im_X7_failed se_X7_failed mi_X7_failed ml_X7_52 rfl rfl (As := [.int (-1000000001)]) rfl rfl rfl dX7_judge_10 rfl (fun r2 s2 hw => ?_)
    exact x_ret hg dX7_judge_13 hw
def wB_image (s0 : Sg) (P : Int32 → Sg → Prop) : Prop := (wBag_copyK  s0 (fun (s1 : Sg) => (∀ s2 : Sg, s2 = u2 s1 0 2 (((s1 0 2) + 1)) → P ((s2 0 2)) s2)))
set_option maxRecDepth 100000 in
set_option maxHeartbeats 4000000 in
theorem xB_image {w : Wc} (l : Launch) {s0 : Sg} {P : Int32 → Sg → Prop} (hw : wB_image  s0 P) : CI shC w l 4 (.code yX7_image cX7_image 1 (some .int)) yX7_image [.ref (ad w 0)] s0 P := by
  refine ci_of_i (own := "BagBottom") (ls0 := [some (.ref (ad w 0))]) rfl pn_X7 rfl rfl (fun g el hg => ?_)
  unfold wB_image at hw
  refine x_aload_0 hg dX7_image_0 rfl ?_
  refine get_X7_1 hg kC_0 fl_X7_16 dX7_image_1 rfl (k2 := 32) rfl ?_
  refine x_aload_0 hg dX7_image_4 rfl ?_
  refine get_X7_0 hg kC_0 fl_X7_12 dX7_image_5 rfl (k2 := 1) rfl ?_
  refine x_callVV hg (xBag_copyK (gL g)  hw) kC_32 (by decide) rfl im_X0_copy se_X0_copy mi_X0_copy ml_X7_276 rfl rfl (As := [.ref (ad w 1)]) rfl rfl rfl dX7_image_8 rfl (fun s1 hw => ?_)
  refine x_aload_0 hg dX7_image_11 rfl ?_
  refine x_dup hg dX7_image_12 rfl rfl ?_
  refine get_X7_2 hg kC_0 fl_X7_280 dX7_image_13 rfl ?_
  refine x_ic hg dX7_image_16 ic_1 rfl ?_
  refine x_iadd hg dX7_image_17 rfl ?_
  refine put_X7_2 hg kC_0 fl_X7_280 dX7_image_18 rfl hw (fun s2 hw => ?_)
  refine x_aload_0 hg dX7_image_21 rfl ?_
  refine get_X7_2 hg kC_0 fl_X7_280 dX7_image_22 rfl ?_
  exact x_ret hg dX7_image_25 hw
def wB_restore (s0 : Sg) (P : Int32 → Sg → Prop) : Prop := ((¬ (s0 0 2) = 0 → (wBag_copyB  s0 (fun (s1 : Sg) => P ((s1 1 4)) s1))) ∧ ((s0 0 2) = 0 → (wB_failed ((-1000000002)) s0 (fun (r1 : Int32) (s1 : Sg) => P r1 s1))))
set_option maxRecDepth 100000 in
set_option maxHeartbeats 4000000 in
theorem xB_restore {w : Wc} (l : Launch) {s0 : Sg} {P : Int32 → Sg → Prop} (hw : wB_restore  s0 P) : CI shC w l 4 (.code yX7_restore cX7_restore 1 (some .int)) yX7_restore [.ref (ad w 0)] s0 P := by
  refine ci_of_i (own := "BagBottom") (ls0 := [some (.ref (ad w 0))]) rfl pn_X7 rfl rfl (fun g el hg => ?_)
  unfold wB_restore at hw
  refine x_aload_0 hg dX7_restore_0 rfl ?_
  refine get_X7_2 hg kC_0 fl_X7_280 dX7_restore_1 rfl ?_
  refine x_if_ne hg dX7_restore_4 (tg := 14) (by decide) rfl hw (fun hw => ?_) (fun hw => ?_)
  · refine x_aload_0 hg dX7_restore_14 rfl ?_
    refine get_X7_0 hg kC_0 fl_X7_12 dX7_restore_15 rfl (k2 := 1) rfl ?_
    refine x_aload_0 hg dX7_restore_18 rfl ?_
    refine get_X7_1 hg kC_0 fl_X7_16 dX7_restore_19 rfl (k2 := 32) rfl ?_
    refine x_callVV hg (xBag_copyB (gL g)  hw) kC_1 (by decide) rfl im_X0_copy se_X0_copy mi_X0_copy ml_X7_276 rfl rfl (As := [.ref (ad w 32)]) rfl rfl rfl dX7_restore_22 rfl (fun s1 hw => ?_)
    refine x_aload_0 hg dX7_restore_25 rfl ?_
    refine get_X7_0 hg kC_0 fl_X7_12 dX7_restore_26 rfl (k2 := 1) rfl ?_
    refine get_X0_4 hg kC_1 fl_X7_89 dX7_restore_29 rfl ?_
    exact x_ret hg dX7_restore_32 hw
  · refine x_aload_0 hg dX7_restore_7 rfl ?_
    refine x_ldc hg kc_X7_198 dX7_restore_8 rfl ?_
    refine x_callVI hg (xB_failed (gL g)  hw) kC_0 (by decide) rfl im_X7_failed se_X7_failed mi_X7_failed ml_X7_52 rfl rfl (As := [.int (-1000000002)]) rfl rfl rfl dX7_restore_10 rfl (fun r1 s1 hw => ?_)
    exact x_ret hg dX7_restore_13 hw
def wB_tell (a1 : Int32) (s0 : Sg) (P : Int32 → Sg → Prop) : Prop := (((s0 8 1) < 24 → (wRow_add 8 a1 s0 (fun (s1 : Sg) => P ((s1 8 1)) s1))) ∧ (¬ (s0 8 1) < 24 → (wB_failed ((-1000000004)) s0 (fun (r1 : Int32) (s1 : Sg) => P r1 s1))))
set_option maxRecDepth 100000 in
set_option maxHeartbeats 4000000 in
theorem xB_tell {w : Wc} (l : Launch) {a1 : Int32} {s0 : Sg} {P : Int32 → Sg → Prop} (hw : wB_tell a1 s0 P) : CI shC w l 2 (.code yX7_tell cX7_tell 2 (some .int)) yX7_tell [.ref (ad w 0), .int a1] s0 P := by
  refine ci_of_i (own := "BagBottom") (ls0 := [some (.ref (ad w 0)), some (.int a1)]) rfl pn_X7 rfl rfl (fun g el hg => ?_)
  unfold wB_tell at hw
  refine x_aload_0 hg dX7_tell_0 rfl ?_
  refine get_X7_0 hg kC_0 fl_X7_12 dX7_tell_1 rfl (k2 := 1) rfl ?_
  refine get_X0_9 hg kC_1 fl_X7_283 dX7_tell_4 rfl (k2 := 8) rfl ?_
  refine get_X1_1 hg kC_8 fl_X7_120 dX7_tell_7 rfl ?_
  refine x_bi hg dX7_tell_10 bp_24 rfl ?_
  refine x_icmp_lt hg dX7_tell_12 (tg := 22) (by decide) rfl hw (fun hw => ?_) (fun hw => ?_)
  · refine x_aload_0 hg dX7_tell_22 rfl ?_
    refine get_X7_0 hg kC_0 fl_X7_12 dX7_tell_23 rfl (k2 := 1) rfl ?_
    refine get_X0_9 hg kC_1 fl_X7_283 dX7_tell_26 rfl (k2 := 8) rfl ?_
    refine x_iload_1 hg dX7_tell_29 rfl ?_
    refine x_callVV hg (xRow_add (gL g) kC_8 hw) kC_8 (by decide) rfl im_X1_add se_X1_add mi_X1_add ml_X7_134 rfl rfl (As := [.int a1]) rfl rfl rfl dX7_tell_30 rfl (fun s1 hw => ?_)
    refine x_aload_0 hg dX7_tell_33 rfl ?_
    refine get_X7_0 hg kC_0 fl_X7_12 dX7_tell_34 rfl (k2 := 1) rfl ?_
    refine get_X0_9 hg kC_1 fl_X7_283 dX7_tell_37 rfl (k2 := 8) rfl ?_
    refine get_X1_1 hg kC_8 fl_X7_120 dX7_tell_40 rfl ?_
    exact x_ret hg dX7_tell_43 hw
  · refine x_aload_0 hg dX7_tell_15 rfl ?_
    refine x_ldc hg kc_X7_60 dX7_tell_16 rfl ?_
    refine x_callVI hg (xB_failed (gL g)  hw) kC_0 (by decide) rfl im_X7_failed se_X7_failed mi_X7_failed ml_X7_52 rfl rfl (As := [.int (-1000000004)]) rfl rfl rfl dX7_tell_18 rfl (fun r1 s1 hw => ?_)
    exact x_ret hg dX7_tell_21 hw
def wB_check (s0 : Sg) (P : Int32 → Sg → Prop) : Prop := (wRow_alikeWith 8 3 s0 (fun (r1 : Int32) (s1 : Sg) => ((¬ r1 = (s1 8 1) → (∀ s2 : Sg, s2 = u2 s1 8 1 0 → P ((1 + r1)) s2)) ∧ (r1 = (s1 8 1) → (∀ s2 : Sg, s2 = u2 s1 8 1 0 → P 0 s2)))))
set_option maxRecDepth 100000 in
set_option maxHeartbeats 4000000 in
theorem xB_check {w : Wc} (l : Launch) {s0 : Sg} {P : Int32 → Sg → Prop} (hw : wB_check  s0 P) : CI shC w l 2 (.code yX7_check cX7_check 3 (some .int)) yX7_check [.ref (ad w 0)] s0 P := by
  refine ci_of_i (own := "BagBottom") (ls0 := [some (.ref (ad w 0)), none, none]) rfl pn_X7 rfl rfl (fun g el hg => ?_)
  unfold wB_check at hw
  refine x_aload_0 hg dX7_check_0 rfl ?_
  refine get_X7_0 hg kC_0 fl_X7_12 dX7_check_1 rfl (k2 := 1) rfl ?_
  refine get_X0_9 hg kC_1 fl_X7_283 dX7_check_4 rfl (k2 := 8) rfl ?_
  refine x_aload_0 hg dX7_check_7 rfl ?_
  refine get_X7_0 hg kC_0 fl_X7_12 dX7_check_8 rfl (k2 := 1) rfl ?_
  refine get_X0_2 hg kC_1 fl_X7_103 dX7_check_11 rfl (k2 := 3) rfl ?_
  refine x_callVI hg (xRow_alikeWith (gL g) kC_8 kC_3 hw) kC_8 (by decide) rfl im_X1_alikeWith se_X1_alikeWith mi_X1_alikeWith ml_X7_273 rfl rfl (As := [.ref (ad w 3)]) rfl rfl rfl dX7_check_14 rfl (fun r1 s1 hw => ?_)
  refine x_istore_1 hg dX7_check_17 rfl rfl rfl ?_
  refine x_iload_1 hg dX7_check_18 rfl ?_
  refine x_aload_0 hg dX7_check_19 rfl ?_
  refine get_X7_0 hg kC_0 fl_X7_12 dX7_check_20 rfl (k2 := 1) rfl ?_
  refine get_X0_9 hg kC_1 fl_X7_283 dX7_check_23 rfl (k2 := 8) rfl ?_
  refine get_X1_1 hg kC_8 fl_X7_120 dX7_check_26 rfl ?_
  refine x_icmp_ne hg dX7_check_29 (tg := 36) (by decide) rfl hw (fun hw => ?_) (fun hw => ?_)
  · refine x_ic hg dX7_check_36 ic_1 rfl ?_
    refine x_iload_1 hg dX7_check_37 rfl ?_
    refine x_iadd hg dX7_check_38 rfl ?_
    refine x_istore_2 hg dX7_check_39 rfl rfl rfl ?_
    refine x_aload_0 hg dX7_check_40 rfl ?_
    refine get_X7_0 hg kC_0 fl_X7_12 dX7_check_41 rfl (k2 := 1) rfl ?_
    refine get_X0_9 hg kC_1 fl_X7_283 dX7_check_44 rfl (k2 := 8) rfl ?_
    refine x_ic hg dX7_check_47 ic_0 rfl ?_
    refine put_X1_1 hg kC_8 fl_X7_120 dX7_check_48 rfl hw (fun s2 hw => ?_)
    refine x_iload_2 hg dX7_check_51 rfl ?_
    exact x_ret hg dX7_check_52 hw
  · refine x_ic hg dX7_check_32 ic_0 rfl ?_
    refine x_goto hg dX7_check_33 (pc' := 39) (by decide) ?_
    refine x_istore_2 hg dX7_check_39 rfl rfl rfl ?_
    refine x_aload_0 hg dX7_check_40 rfl ?_
    refine get_X7_0 hg kC_0 fl_X7_12 dX7_check_41 rfl (k2 := 1) rfl ?_
    refine get_X0_9 hg kC_1 fl_X7_283 dX7_check_44 rfl (k2 := 8) rfl ?_
    refine x_ic hg dX7_check_47 ic_0 rfl ?_
    refine put_X1_1 hg kC_8 fl_X7_120 dX7_check_48 rfl hw (fun s2 hw => ?_)
    refine x_iload_2 hg dX7_check_51 rfl ?_
    exact x_ret hg dX7_check_52 hw
def wB_count (a1 : Int32) (s0 : Sg) (P : Int32 → Sg → Prop) : Prop := ((a1 = 0 → P ((s0 1 1)) s0) ∧ (¬ a1 = 0 → ((a1 = 1 → P ((s0 3 1)) s0) ∧ (¬ a1 = 1 → ((a1 = 2 → P ((s0 1 4)) s0) ∧ (¬ a1 = 2 → ((a1 = 3 → P ((s0 1 5)) s0) ∧ (¬ a1 = 3 → ((a1 = 4 → P ((s0 1 3)) s0) ∧ (¬ a1 = 4 → ((a1 = 5 → P ((s0 5 1)) s0) ∧ (¬ a1 = 5 → ((a1 = 6 → P ((s0 8 1)) s0) ∧ (¬ a1 = 6 → ((a1 = 7 → P ((s0 65 1)) s0) ∧ (¬ a1 = 7 → ((a1 = 8 → P ((s0 1 6)) s0) ∧ (¬ a1 = 8 → (wB_failed ((-1000000001)) s0 (fun (r1 : Int32) (s1 : Sg) => P r1 s1))))))))))))))))))))
set_option maxRecDepth 100000 in
set_option maxHeartbeats 4000000 in
theorem xB_count {w : Wc} (l : Launch) {a1 : Int32} {s0 : Sg} {P : Int32 → Sg → Prop} (hw : wB_count a1 s0 P) : CI shC w l 2 (.code yX7_count cX7_count 2 (some .int)) yX7_count [.ref (ad w 0), .int a1] s0 P := by
  refine ci_of_i (own := "BagBottom") (ls0 := [some (.ref (ad w 0)), some (.int a1)]) rfl pn_X7 rfl rfl (fun g el hg => ?_)
  unfold wB_count at hw
  refine x_iload_1 hg dX7_count_0 rfl ?_
  refine x_br hw (fun h0 hw => ?_) (fun h0 hw => ?_)
  · refine x_tab hg dX7_count_1 (ps := [(0, 51), (1, 59), (2, 70), (3, 78), (4, 86), (5, 94), (6, 105), (7, 116), (8, 127)]) rfl (tg := 52) (by rw [h0]; decide) ?_
    refine x_aload_0 hg dX7_count_52 rfl ?_
    refine get_X7_0 hg kC_0 fl_X7_12 dX7_count_53 rfl (k2 := 1) rfl ?_
    refine get_X0_1 hg kC_1 fl_X7_56 dX7_count_56 rfl ?_
    exact x_ret hg dX7_count_59 hw
  · skip
    refine x_br hw (fun h1 hw => ?_) (fun h1 hw => ?_)
    · refine x_tab hg dX7_count_1 (ps := [(0, 51), (1, 59), (2, 70), (3, 78), (4, 86), (5, 94), (6, 105), (7, 116), (8, 127)]) rfl (tg := 60) (by rw [h1]; decide) ?_
      refine x_aload_0 hg dX7_count_60 rfl ?_
      refine get_X7_0 hg kC_0 fl_X7_12 dX7_count_61 rfl (k2 := 1) rfl ?_
      refine get_X0_2 hg kC_1 fl_X7_103 dX7_count_64 rfl (k2 := 3) rfl ?_
      refine get_X1_1 hg kC_3 fl_X7_120 dX7_count_67 rfl ?_
      exact x_ret hg dX7_count_70 hw
    · skip
      refine x_br hw (fun h2 hw => ?_) (fun h2 hw => ?_)
      · refine x_tab hg dX7_count_1 (ps := [(0, 51), (1, 59), (2, 70), (3, 78), (4, 86), (5, 94), (6, 105), (7, 116), (8, 127)]) rfl (tg := 71) (by rw [h2]; decide) ?_
        refine x_aload_0 hg dX7_count_71 rfl ?_
        refine get_X7_0 hg kC_0 fl_X7_12 dX7_count_72 rfl (k2 := 1) rfl ?_
        refine get_X0_4 hg kC_1 fl_X7_89 dX7_count_75 rfl ?_
        exact x_ret hg dX7_count_78 hw
      · skip
        refine x_br hw (fun h3 hw => ?_) (fun h3 hw => ?_)
        · refine x_tab hg dX7_count_1 (ps := [(0, 51), (1, 59), (2, 70), (3, 78), (4, 86), (5, 94), (6, 105), (7, 116), (8, 127)]) rfl (tg := 79) (by rw [h3]; decide) ?_
          refine x_aload_0 hg dX7_count_79 rfl ?_
          refine get_X7_0 hg kC_0 fl_X7_12 dX7_count_80 rfl (k2 := 1) rfl ?_
          refine get_X0_5 hg kC_1 fl_X7_184 dX7_count_83 rfl ?_
          exact x_ret hg dX7_count_86 hw
        · skip
          refine x_br hw (fun h4 hw => ?_) (fun h4 hw => ?_)
          · refine x_tab hg dX7_count_1 (ps := [(0, 51), (1, 59), (2, 70), (3, 78), (4, 86), (5, 94), (6, 105), (7, 116), (8, 127)]) rfl (tg := 87) (by rw [h4]; decide) ?_
            refine x_aload_0 hg dX7_count_87 rfl ?_
            refine get_X7_0 hg kC_0 fl_X7_12 dX7_count_88 rfl (k2 := 1) rfl ?_
            refine get_X0_3 hg kC_1 fl_X7_286 dX7_count_91 rfl ?_
            exact x_ret hg dX7_count_94 hw
          · skip
            refine x_br hw (fun h5 hw => ?_) (fun h5 hw => ?_)
            · refine x_tab hg dX7_count_1 (ps := [(0, 51), (1, 59), (2, 70), (3, 78), (4, 86), (5, 94), (6, 105), (7, 116), (8, 127)]) rfl (tg := 95) (by rw [h5]; decide) ?_
              refine x_aload_0 hg dX7_count_95 rfl ?_
              refine get_X7_0 hg kC_0 fl_X7_12 dX7_count_96 rfl (k2 := 1) rfl ?_
              refine get_X0_7 hg kC_1 fl_X7_129 dX7_count_99 rfl (k2 := 5) rfl ?_
              refine get_X1_1 hg kC_5 fl_X7_120 dX7_count_102 rfl ?_
              exact x_ret hg dX7_count_105 hw
            · skip
              refine x_br hw (fun h6 hw => ?_) (fun h6 hw => ?_)
              · refine x_tab hg dX7_count_1 (ps := [(0, 51), (1, 59), (2, 70), (3, 78), (4, 86), (5, 94), (6, 105), (7, 116), (8, 127)]) rfl (tg := 106) (by rw [h6]; decide) ?_
                refine x_aload_0 hg dX7_count_106 rfl ?_
                refine get_X7_0 hg kC_0 fl_X7_12 dX7_count_107 rfl (k2 := 1) rfl ?_
                refine get_X0_9 hg kC_1 fl_X7_283 dX7_count_110 rfl (k2 := 8) rfl ?_
                refine get_X1_1 hg kC_8 fl_X7_120 dX7_count_113 rfl ?_
                exact x_ret hg dX7_count_116 hw
              · skip
                refine x_br hw (fun h7 hw => ?_) (fun h7 hw => ?_)
                · refine x_tab hg dX7_count_1 (ps := [(0, 51), (1, 59), (2, 70), (3, 78), (4, 86), (5, 94), (6, 105), (7, 116), (8, 127)]) rfl (tg := 117) (by rw [h7]; decide) ?_
                  refine x_aload_0 hg dX7_count_117 rfl ?_
                  refine get_X7_4 hg kC_0 fl_X7_28 dX7_count_118 rfl (k2 := 64) rfl ?_
                  refine get_X6_0 hg kC_64 fl_X7_246 dX7_count_121 rfl (k2 := 65) rfl ?_
                  refine get_X1_1 hg kC_65 fl_X7_120 dX7_count_124 rfl ?_
                  exact x_ret hg dX7_count_127 hw
                · skip
                  refine x_br hw (fun h8 hw => ?_) (fun h8 hw => ?_)
                  · refine x_tab hg dX7_count_1 (ps := [(0, 51), (1, 59), (2, 70), (3, 78), (4, 86), (5, 94), (6, 105), (7, 116), (8, 127)]) rfl (tg := 128) (by rw [h8]; decide) ?_
                    refine x_aload_0 hg dX7_count_128 rfl ?_
                    refine get_X7_0 hg kC_0 fl_X7_12 dX7_count_129 rfl (k2 := 1) rfl ?_
                    refine get_X0_6 hg kC_1 fl_X7_187 dX7_count_132 rfl ?_
                    exact x_ret hg dX7_count_135 hw
                  · skip
                    refine x_tab hg dX7_count_1 (ps := [(0, 51), (1, 59), (2, 70), (3, 78), (4, 86), (5, 94), (6, 105), (7, 116), (8, 127)]) rfl (tg := 136) (by simp only [lk, if_neg h0, if_neg h1, if_neg h2, if_neg h3, if_neg h4, if_neg h5, if_neg h6, if_neg h7, if_neg h8, ite_self]; decide) ?_
                    refine x_aload_0 hg dX7_count_136 rfl ?_
                    refine x_ldc hg kc_X7_51 dX7_count_137 rfl ?_
                    refine x_callVI hg (xB_failed (gL g)  hw) kC_0 (by decide) rfl im_X7_failed se_X7_failed mi_X7_failed ml_X7_52 rfl rfl (As := [.int (-1000000001)]) rfl rfl rfl dX7_count_139 rfl (fun r1 s1 hw => ?_)
                    exact x_ret hg dX7_count_142 hw
def wB_told (a1 : Int32) (s0 : Sg) (P : Int32 → Sg → Prop) : Prop := ((a1 < 1 → (wB_failed ((-1000000001)) s0 (fun (r1 : Int32) (s1 : Sg) => P r1 s1))) ∧ (¬ a1 < 1 → ((a1 ≤ 6 → (vp_in a1 7 ∧ P ((s0 76 (ix a1))) s0)) ∧ (¬ a1 ≤ 6 → (wB_failed ((-1000000001)) s0 (fun (r1 : Int32) (s1 : Sg) => P r1 s1))))))
set_option maxRecDepth 100000 in
set_option maxHeartbeats 4000000 in
theorem xB_told {w : Wc} (l : Launch) {a1 : Int32} {s0 : Sg} {P : Int32 → Sg → Prop} (hw : wB_told a1 s0 P) : CI shC w l 2 (.code yX7_told cX7_told 2 (some .int)) yX7_told [.ref (ad w 0), .int a1] s0 P := by
  refine ci_of_i (own := "BagBottom") (ls0 := [some (.ref (ad w 0)), some (.int a1)]) rfl pn_X7 rfl rfl (fun g el hg => ?_)
  unfold wB_told at hw
  refine x_iload_1 hg dX7_told_0 rfl ?_
  refine x_ic hg dX7_told_1 ic_1 rfl ?_
  refine x_icmp_lt hg dX7_told_2 (tg := 11) (by decide) rfl hw (fun hw => ?_) (fun hw => ?_)
  · refine x_aload_0 hg dX7_told_11 rfl ?_
    refine x_ldc hg kc_X7_51 dX7_told_12 rfl ?_
    refine x_callVI hg (xB_failed (gL g)  hw) kC_0 (by decide) rfl im_X7_failed se_X7_failed mi_X7_failed ml_X7_52 rfl rfl (As := [.int (-1000000001)]) rfl rfl rfl dX7_told_14 rfl (fun r1 s1 hw => ?_)
    exact x_ret hg dX7_told_17 hw
  · refine x_iload_1 hg dX7_told_5 rfl ?_
    refine x_bi hg dX7_told_6 bp_6 rfl ?_
    refine x_icmp_le hg dX7_told_8 (tg := 18) (by decide) rfl hw (fun hw => ?_) (fun hw => ?_)
    · refine x_aload_0 hg dX7_told_18 rfl ?_
      refine get_X7_6 hg kC_0 fl_X7_39 dX7_told_19 rfl (k2 := 76) rfl ?_
      refine x_iload_1 hg dX7_told_22 rfl ?_
      refine x_iald hg kC_76 rfl dX7_told_23 rfl hw (fun hw => ?_)
      exact x_ret hg dX7_told_24 hw
    · refine x_aload_0 hg dX7_told_11 rfl ?_
      refine x_ldc hg kc_X7_51 dX7_told_12 rfl ?_
      refine x_callVI hg (xB_failed (gL g)  hw) kC_0 (by decide) rfl im_X7_failed se_X7_failed mi_X7_failed ml_X7_52 rfl rfl (As := [.int (-1000000001)]) rfl rfl rfl dX7_told_14 rfl (fun r1 s1 hw => ?_)
      exact x_ret hg dX7_told_17 hw
