def wBag_addThing (a1 : Int32) (a2 : Int32) (a3 : Int32) (s0 : Sg) (P : Int32 → Sg → Prop) : Prop := (vp_in ((s0 1 1)) 9 ∧ (∀ s1 : Sg, s1 = u2 s0 ((11 + 1 * ix ((s0 1 1)))) 0 ((a1 / 10)) → (∀ s2 : Sg, s2 = u2 s1 ((11 + 1 * ix ((s0 1 1)))) 1 ((a1 - a1 / 10 * 10)) → (∀ s3 : Sg, s3 = u2 s2 ((11 + 1 * ix ((s0 1 1)))) 2 a2 → (∀ s4 : Sg, s4 = u2 s3 ((11 + 1 * ix ((s0 1 1)))) 3 a3 → (∀ s5 : Sg, s5 = u2 s4 1 1 (((s4 1 1) + 1)) → (wRow_addOnTop 3 ((s0 1 1)) s5 (fun (s6 : Sg) => P ((s0 1 1)) s6))))))))
set_option maxRecDepth 100000 in
set_option maxHeartbeats 4000000 in
theorem xBag_addThing {w : Wc} (l : Launch) {a1 : Int32} {a2 : Int32} {a3 : Int32} {s0 : Sg} {P : Int32 → Sg → Prop} (hw : wBag_addThing a1 a2 a3 s0 P) : CI shC w l 2 (.code yX0_addThing cX0_addThing 6 (some .int)) yX0_addThing [.ref (ad w 1), .int a1, .int a2, .int a3] s0 P := by
  refine ci_of_i (own := "BagBottom$Bag") (ls0 := [some (.ref (ad w 1)), some (.int a1), some (.int a2), some (.int a3), none, none]) rfl pn_X0 rfl rfl (fun g el hg => ?_)
  unfold wBag_addThing at hw
  refine x_aload_0 hg dX0_addThing_0 rfl ?_
  refine get_X0_1 hg kC_1 fl_X0_51 dX0_addThing_1 rfl ?_
  refine x_istore_4 hg dX0_addThing_4 rfl rfl rfl ?_
  refine x_aload_0 hg dX0_addThing_6 rfl ?_
  refine get_X0_0 hg kC_1 fl_X0_11 dX0_addThing_7 rfl (k2 := 2) rfl ?_
  refine x_iload_4 hg dX0_addThing_10 rfl ?_
  refine x_aald hg (t := 1) kC_2 (by decide) rfl rfl rfl rfl dX0_addThing_12 rfl hw (fun hin1 hw => ?_)
  refine x_astore_5 hg dX0_addThing_13 rfl rfl rfl ?_
  refine x_aload_5 hg dX0_addThing_15 rfl ?_
  refine x_iload_1 hg dX0_addThing_17 rfl ?_
  refine x_bi hg dX0_addThing_18 bp_10 rfl ?_
  refine x_idiv hg dX0_addThing_20 ne_10 rfl ?_
  refine put_X4_0 hg (kEl_11 hin1) fl_X0_54 dX0_addThing_21 rfl hw (fun s1 hw => ?_)
  refine x_aload_5 hg dX0_addThing_24 rfl ?_
  refine x_iload_1 hg dX0_addThing_26 rfl ?_
  refine x_bi hg dX0_addThing_27 bp_10 rfl ?_
  refine x_irem hg dX0_addThing_29 ne_10 rfl ?_
  refine put_X4_1 hg (kEl_11 hin1) fl_X0_57 dX0_addThing_30 rfl hw (fun s2 hw => ?_)
  refine x_aload_5 hg dX0_addThing_33 rfl ?_
  refine x_iload_2 hg dX0_addThing_35 rfl ?_
  refine put_X4_2 hg (kEl_11 hin1) fl_X0_60 dX0_addThing_36 rfl hw (fun s3 hw => ?_)
  refine x_aload_5 hg dX0_addThing_39 rfl ?_
  refine x_iload_3 hg dX0_addThing_41 rfl ?_
  refine put_X4_3 hg (kEl_11 hin1) fl_X0_63 dX0_addThing_42 rfl hw (fun s4 hw => ?_)
  refine x_aload_0 hg dX0_addThing_45 rfl ?_
  refine x_dup hg dX0_addThing_46 rfl rfl ?_
  refine get_X0_1 hg kC_1 fl_X0_51 dX0_addThing_47 rfl ?_
  refine x_ic hg dX0_addThing_50 ic_1 rfl ?_
  refine x_iadd hg dX0_addThing_51 rfl ?_
  refine put_X0_1 hg kC_1 fl_X0_51 dX0_addThing_52 rfl hw (fun s5 hw => ?_)
  refine x_aload_0 hg dX0_addThing_55 rfl ?_
  refine get_X0_2 hg kC_1 fl_X0_22 dX0_addThing_56 rfl (k2 := 3) rfl ?_
  refine x_iload_4 hg dX0_addThing_59 rfl ?_
  refine x_callVV hg (xRow_addOnTop (gL g) kC_3 hw) kC_3 (by decide) rfl im_X1_addOnTop se_X1_addOnTop mi_X1_addOnTop ml_X0_66 rfl rfl (As := [.int (s0 1 1)]) rfl rfl rfl dX0_addThing_61 rfl (fun s6 hw => ?_)
  refine x_iload_4 hg dX0_addThing_64 rfl ?_
  exact x_ret hg dX0_addThing_66 hw
def wBag_knows (a1 : Int32) (s0 : Sg) (P : Int32 → Sg → Prop) : Prop := ((a1 < 0 → P 0 s0) ∧ (¬ a1 < 0 → (((s0 1 1) ≤ a1 → P 0 s0) ∧ (¬ (s0 1 1) ≤ a1 → P 1 s0))))
set_option maxRecDepth 100000 in
set_option maxHeartbeats 4000000 in
theorem xBag_knows {w : Wc} (l : Launch) {a1 : Int32} {s0 : Sg} {P : Int32 → Sg → Prop} (hw : wBag_knows a1 s0 P) : CI shC w l 1 (.code yX0_knows cX0_knows 2 (some .boolean)) yX0_knows [.ref (ad w 1), .int a1] s0 P := by
  refine ci_of_z (own := "BagBottom$Bag") (ls0 := [some (.ref (ad w 1)), some (.int a1)]) rfl pn_X0 rfl rfl (fun g el hg => ?_)
  unfold wBag_knows at hw
  refine x_iload_1 hg dX0_knows_0 rfl ?_
  refine x_if_lt hg dX0_knows_1 (tg := 16) (by decide) rfl hw (fun hw => ?_) (fun hw => ?_)
  · refine x_ic hg dX0_knows_16 ic_0 rfl ?_
    exact x_zret hg dX0_knows_17 (by decide) hw
  · refine x_iload_1 hg dX0_knows_4 rfl ?_
    refine x_aload_0 hg dX0_knows_5 rfl ?_
    refine get_X0_1 hg kC_1 fl_X0_51 dX0_knows_6 rfl ?_
    refine x_icmp_ge hg dX0_knows_9 (tg := 16) (by decide) rfl hw (fun hw => ?_) (fun hw => ?_)
    · refine x_ic hg dX0_knows_16 ic_0 rfl ?_
      exact x_zret hg dX0_knows_17 (by decide) hw
    · refine x_ic hg dX0_knows_12 ic_1 rfl ?_
      refine x_goto hg dX0_knows_13 (pc' := 17) (by decide) ?_
      exact x_zret hg dX0_knows_17 (by decide) hw
def wBag_whereIs (a1 : Int32) (s0 : Sg) (P : Int32 → Sg → Prop) : Prop := (wRow_placeOf 3 a1 s0 (fun (r1 : Int32) (s1 : Sg) => ((r1 < 0 → ((¬ (s1 1 3) = a1 → P ((-2)) s1) ∧ ((s1 1 3) = a1 → P ((-1)) s1))) ∧ (¬ r1 < 0 → P r1 s1))))
set_option maxRecDepth 100000 in
set_option maxHeartbeats 4000000 in
theorem xBag_whereIs {w : Wc} (l : Launch) {a1 : Int32} {s0 : Sg} {P : Int32 → Sg → Prop} (hw : wBag_whereIs a1 s0 P) : CI shC w l 2 (.code yX0_whereIs cX0_whereIs 3 (some .int)) yX0_whereIs [.ref (ad w 1), .int a1] s0 P := by
  refine ci_of_i (own := "BagBottom$Bag") (ls0 := [some (.ref (ad w 1)), some (.int a1), none]) rfl pn_X0 rfl rfl (fun g el hg => ?_)
  unfold wBag_whereIs at hw
  refine x_aload_0 hg dX0_whereIs_0 rfl ?_
  refine get_X0_2 hg kC_1 fl_X0_22 dX0_whereIs_1 rfl (k2 := 3) rfl ?_
  refine x_iload_1 hg dX0_whereIs_4 rfl ?_
  refine x_callVI hg (xRow_placeOf (gL g) kC_3 hw) kC_3 (by decide) rfl im_X1_placeOf se_X1_placeOf mi_X1_placeOf ml_X0_69 rfl rfl (As := [.int a1]) rfl rfl rfl dX0_whereIs_5 rfl (fun r1 s1 hw => ?_)
  refine x_istore_2 hg dX0_whereIs_8 rfl rfl rfl ?_
  refine x_iload_2 hg dX0_whereIs_9 rfl ?_
  refine x_if_lt hg dX0_whereIs_10 (tg := 15) (by decide) rfl hw (fun hw => ?_) (fun hw => ?_)
  · refine x_aload_0 hg dX0_whereIs_15 rfl ?_
    refine get_X0_3 hg kC_1 fl_X0_26 dX0_whereIs_16 rfl ?_
    refine x_iload_1 hg dX0_whereIs_19 rfl ?_
    refine x_icmp_ne hg dX0_whereIs_20 (tg := 27) (by decide) rfl hw (fun hw => ?_) (fun hw => ?_)
    · refine x_bi hg dX0_whereIs_27 bp_m2 rfl ?_
      exact x_ret hg dX0_whereIs_29 hw
    · refine x_ic hg dX0_whereIs_23 ic_m1 rfl ?_
      refine x_goto hg dX0_whereIs_24 (pc' := 29) (by decide) ?_
      exact x_ret hg dX0_whereIs_29 hw
  · refine x_iload_2 hg dX0_whereIs_13 rfl ?_
    exact x_ret hg dX0_whereIs_14 hw
def wBag_bringOut (a1 : Int32) (s0 : Sg) (P : Sg → Prop) : Prop := ((¬ (s0 1 3) = a1 → (wRow_placeOf 3 a1 s0 (fun (r1 : Int32) (s1 : Sg) => (wRow_removeAt 3 r1 s1 (fun (s2 : Sg) => P s2))))) ∧ ((s0 1 3) = a1 → (∀ s1 : Sg, s1 = u2 s0 1 3 ((-1)) → (wRow_placeOf 3 a1 s1 (fun (r1 : Int32) (s2 : Sg) => (wRow_removeAt 3 r1 s2 (fun (s3 : Sg) => P s3)))))))
set_option maxRecDepth 100000 in
set_option maxHeartbeats 4000000 in
theorem xBag_bringOut {w : Wc} (l : Launch) {a1 : Int32} {s0 : Sg} {P : Sg → Prop} (hw : wBag_bringOut a1 s0 P) : CV shC w l 3 (.code yX0_bringOut cX0_bringOut 2 none) yX0_bringOut [.ref (ad w 1), .int a1] s0 P := by
  refine ci_of_v (own := "BagBottom$Bag") (ls0 := [some (.ref (ad w 1)), some (.int a1)]) rfl pn_X0 rfl rfl (fun g el hg => ?_)
  unfold wBag_bringOut at hw
  refine x_aload_0 hg dX0_bringOut_0 rfl ?_
  refine get_X0_3 hg kC_1 fl_X0_26 dX0_bringOut_1 rfl ?_
  refine x_iload_1 hg dX0_bringOut_4 rfl ?_
  refine x_icmp_ne hg dX0_bringOut_5 (tg := 13) (by decide) rfl hw (fun hw => ?_) (fun hw => ?_)
  · refine x_aload_0 hg dX0_bringOut_13 rfl ?_
    refine get_X0_2 hg kC_1 fl_X0_22 dX0_bringOut_14 rfl (k2 := 3) rfl ?_
    refine x_aload_0 hg dX0_bringOut_17 rfl ?_
    refine get_X0_2 hg kC_1 fl_X0_22 dX0_bringOut_18 rfl (k2 := 3) rfl ?_
    refine x_iload_1 hg dX0_bringOut_21 rfl ?_
    refine x_callVI hg (xRow_placeOf (gL g) kC_3 hw) kC_3 (by decide) rfl im_X1_placeOf se_X1_placeOf mi_X1_placeOf ml_X0_69 rfl rfl (As := [.int a1]) rfl rfl rfl dX0_bringOut_22 rfl (fun r1 s1 hw => ?_)
    refine x_callVV hg (xRow_removeAt (gL g) kC_3 hw) kC_3 (by decide) rfl im_X1_removeAt se_X1_removeAt mi_X1_removeAt ml_X0_73 rfl rfl (As := [.int r1]) rfl rfl rfl dX0_bringOut_25 rfl (fun s2 hw => ?_)
    exact x_vret hg dX0_bringOut_28 hw
  · refine x_aload_0 hg dX0_bringOut_8 rfl ?_
    refine x_ic hg dX0_bringOut_9 ic_m1 rfl ?_
    refine put_X0_3 hg kC_1 fl_X0_26 dX0_bringOut_10 rfl hw (fun s1 hw => ?_)
    refine x_aload_0 hg dX0_bringOut_13 rfl ?_
    refine get_X0_2 hg kC_1 fl_X0_22 dX0_bringOut_14 rfl (k2 := 3) rfl ?_
    refine x_aload_0 hg dX0_bringOut_17 rfl ?_
    refine get_X0_2 hg kC_1 fl_X0_22 dX0_bringOut_18 rfl (k2 := 3) rfl ?_
    refine x_iload_1 hg dX0_bringOut_21 rfl ?_
    refine x_callVI hg (xRow_placeOf (gL g) kC_3 hw) kC_3 (by decide) rfl im_X1_placeOf se_X1_placeOf mi_X1_placeOf ml_X0_69 rfl rfl (As := [.int a1]) rfl rfl rfl dX0_bringOut_22 rfl (fun r1 s2 hw => ?_)
    refine x_callVV hg (xRow_removeAt (gL g) kC_3 hw) kC_3 (by decide) rfl im_X1_removeAt se_X1_removeAt mi_X1_removeAt ml_X0_73 rfl rfl (As := [.int r1]) rfl rfl rfl dX0_bringOut_25 rfl (fun s3 hw => ?_)
    exact x_vret hg dX0_bringOut_28 hw
def wBag_changePocket (a1 : Int32) (s0 : Sg) (P : Int32 → Sg → Prop) : Prop := (((s0 1 3) = (-1) → (wRow_placeOf 3 a1 s0 (fun (r1 : Int32) (s1 : Sg) => (wRow_removeAt 3 r1 s1 (fun (s2 : Sg) => (∀ s3 : Sg, s3 = u2 s2 1 3 a1 → P ((s0 1 3)) s3)))))) ∧ (¬ (s0 1 3) = (-1) → (wRow_addOnTop 3 ((s0 1 3)) s0 (fun (s1 : Sg) => (wRow_placeOf 3 a1 s1 (fun (r1 : Int32) (s2 : Sg) => (wRow_removeAt 3 r1 s2 (fun (s3 : Sg) => (∀ s4 : Sg, s4 = u2 s3 1 3 a1 → P ((s0 1 3)) s4)))))))))
set_option maxRecDepth 100000 in
set_option maxHeartbeats 4000000 in
theorem xBag_changePocket {w : Wc} (l : Launch) {a1 : Int32} {s0 : Sg} {P : Int32 → Sg → Prop} (hw : wBag_changePocket a1 s0 P) : CI shC w l 3 (.code yX0_changePocket cX0_changePocket 3 (some .int)) yX0_changePocket [.ref (ad w 1), .int a1] s0 P := by
  refine ci_of_i (own := "BagBottom$Bag") (ls0 := [some (.ref (ad w 1)), some (.int a1), none]) rfl pn_X0 rfl rfl (fun g el hg => ?_)
  unfold wBag_changePocket at hw
  refine x_aload_0 hg dX0_changePocket_0 rfl ?_
  refine get_X0_3 hg kC_1 fl_X0_26 dX0_changePocket_1 rfl ?_
  refine x_istore_2 hg dX0_changePocket_4 rfl rfl rfl ?_
  refine x_iload_2 hg dX0_changePocket_5 rfl ?_
  refine x_ic hg dX0_changePocket_6 ic_m1 rfl ?_
  refine x_icmp_eq hg dX0_changePocket_7 (tg := 18) (by decide) rfl hw (fun hw => ?_) (fun hw => ?_)
  · refine x_aload_0 hg dX0_changePocket_18 rfl ?_
    refine get_X0_2 hg kC_1 fl_X0_22 dX0_changePocket_19 rfl (k2 := 3) rfl ?_
    refine x_aload_0 hg dX0_changePocket_22 rfl ?_
    refine get_X0_2 hg kC_1 fl_X0_22 dX0_changePocket_23 rfl (k2 := 3) rfl ?_
    refine x_iload_1 hg dX0_changePocket_26 rfl ?_
    refine x_callVI hg (xRow_placeOf (gL g) kC_3 hw) kC_3 (by decide) rfl im_X1_placeOf se_X1_placeOf mi_X1_placeOf ml_X0_69 rfl rfl (As := [.int a1]) rfl rfl rfl dX0_changePocket_27 rfl (fun r1 s1 hw => ?_)
    refine x_callVV hg (xRow_removeAt (gL g) kC_3 hw) kC_3 (by decide) rfl im_X1_removeAt se_X1_removeAt mi_X1_removeAt ml_X0_73 rfl rfl (As := [.int r1]) rfl rfl rfl dX0_changePocket_30 rfl (fun s2 hw => ?_)
    refine x_aload_0 hg dX0_changePocket_33 rfl ?_
    refine x_iload_1 hg dX0_changePocket_34 rfl ?_
    refine put_X0_3 hg kC_1 fl_X0_26 dX0_changePocket_35 rfl hw (fun s3 hw => ?_)
    refine x_iload_2 hg dX0_changePocket_38 rfl ?_
    exact x_ret hg dX0_changePocket_39 hw
  · refine x_aload_0 hg dX0_changePocket_10 rfl ?_
    refine get_X0_2 hg kC_1 fl_X0_22 dX0_changePocket_11 rfl (k2 := 3) rfl ?_
    refine x_iload_2 hg dX0_changePocket_14 rfl ?_
    refine x_callVV hg (xRow_addOnTop (gL g) kC_3 hw) kC_3 (by decide) rfl im_X1_addOnTop se_X1_addOnTop mi_X1_addOnTop ml_X0_66 rfl rfl (As := [.int (s0 1 3)]) rfl rfl rfl dX0_changePocket_15 rfl (fun s1 hw => ?_)
    refine x_aload_0 hg dX0_changePocket_18 rfl ?_
    refine get_X0_2 hg kC_1 fl_X0_22 dX0_changePocket_19 rfl (k2 := 3) rfl ?_
    refine x_aload_0 hg dX0_changePocket_22 rfl ?_
    refine get_X0_2 hg kC_1 fl_X0_22 dX0_changePocket_23 rfl (k2 := 3) rfl ?_
    refine x_iload_1 hg dX0_changePocket_26 rfl ?_
    refine x_callVI hg (xRow_placeOf (gL g) kC_3 hw) kC_3 (by decide) rfl im_X1_placeOf se_X1_placeOf mi_X1_placeOf ml_X0_69 rfl rfl (As := [.int a1]) rfl rfl rfl dX0_changePocket_27 rfl (fun r1 s2 hw => ?_)
    refine x_callVV hg (xRow_removeAt (gL g) kC_3 hw) kC_3 (by decide) rfl im_X1_removeAt se_X1_removeAt mi_X1_removeAt ml_X0_73 rfl rfl (As := [.int r1]) rfl rfl rfl dX0_changePocket_30 rfl (fun s3 hw => ?_)
    refine x_aload_0 hg dX0_changePocket_33 rfl ?_
    refine x_iload_1 hg dX0_changePocket_34 rfl ?_
    refine put_X0_3 hg kC_1 fl_X0_26 dX0_changePocket_35 rfl hw (fun s4 hw => ?_)
    refine x_iload_2 hg dX0_changePocket_38 rfl ?_
    exact x_ret hg dX0_changePocket_39 hw
def wBag_gives (a1 : Int32) (a2 : Int32) (a3 : Int32) (a4 : Int32) (s0 : Sg) (P : Int32 → Sg → Prop) : Prop := (vp_in a1 2 ∧ ((¬ a1 = 0 → (wText_isThere ((20 + 6 * ix a1)) s0 (fun (r1 : Int32) (s1 : Sg) => ((r1 = 0 → P ((if 0 < (if a4 < 99 then a4 else 99) then (if a4 < 99 then a4 else 99) else 0)) s1) ∧ (¬ r1 = 0 → (wText_value ((20 + 6 * ix a1)) a2 a3 a4 s1 (fun (r2 : Int32) (s2 : Sg) => P ((if 0 < (if r2 < 99 then r2 else 99) then (if r2 < 99 then r2 else 99) else 0)) s2))))))) ∧ (a1 = 0 → (wText_isThere ((20 + 6 * ix a1)) s0 (fun (r1 : Int32) (s1 : Sg) => ((r1 = 0 → P ((if 0 < (if (a2 + a3) < 99 then (a2 + a3) else 99) then (if (a2 + a3) < 99 then (a2 + a3) else 99) else 0)) s1) ∧ (¬ r1 = 0 → (wText_value ((20 + 6 * ix a1)) a2 a3 a4 s1 (fun (r2 : Int32) (s2 : Sg) => P ((if 0 < (if r2 < 99 then r2 else 99) then (if r2 < 99 then r2 else 99) else 0)) s2)))))))))
set_option maxRecDepth 100000 in
set_option maxHeartbeats 4000000 in
theorem xBag_gives {w : Wc} (l : Launch) {a1 : Int32} {a2 : Int32} {a3 : Int32} {a4 : Int32} {s0 : Sg} {P : Int32 → Sg → Prop} (hw : wBag_gives a1 a2 a3 a4 s0 P) : CI shC w l 3 (.code yX0_gives cX0_gives 7 (some .int)) yX0_gives [.ref (ad w 1), .int a1, .int a2, .int a3, .int a4] s0 P := by
  refine ci_of_i (own := "BagBottom$Bag") (ls0 := [some (.ref (ad w 1)), some (.int a1), some (.int a2), some (.int a3), some (.int a4), none, none]) rfl pn_X0 rfl rfl (fun g el hg => ?_)
  unfold wBag_gives at hw
  refine x_aload_0 hg dX0_gives_0 rfl ?_
  refine get_X0_8 hg kC_1 fl_X0_38 dX0_gives_1 rfl (k2 := 7) rfl ?_
  refine x_iload_1 hg dX0_gives_4 rfl ?_
  refine x_aald hg (t := 2) kC_7 (by decide) rfl rfl rfl rfl dX0_gives_5 rfl hw (fun hin1 hw => ?_)
  refine x_astore_5 hg dX0_gives_6 rfl rfl rfl ?_
  refine x_iload_1 hg dX0_gives_8 rfl ?_
  refine x_if_ne hg dX0_gives_9 (tg := 18) (by decide) rfl hw (fun hw => ?_) (fun hw => ?_)
  · refine x_iload_4 hg dX0_gives_18 rfl ?_
    refine x_istore_6 hg dX0_gives_20 rfl rfl rfl ?_
    refine x_aload_5 hg dX0_gives_22 rfl ?_
    refine x_callVI hg (xText_isThere (gL g) (kEl_20 hin1) hw) (kEl_20 hin1) (by decide) rfl im_X3_isThere se_X3_isThere mi_X3_isThere ml_X0_86 rfl rfl (As := []) rfl rfl rfl dX0_gives_24 rfl (fun r1 s1 hw => ?_)
    refine x_if_eq hg dX0_gives_27 (tg := 41) (by decide) rfl hw (fun hw => ?_) (fun hw => ?_)
    · refine x_ic hg dX0_gives_41 ic_0 rfl ?_
      refine x_bi hg dX0_gives_42 bp_99 rfl ?_
      refine x_iload_6 hg dX0_gives_44 rfl ?_
      refine x_mmin hg ml_X0_94 rfl rfl dX0_gives_46 rfl ?_
      refine x_mmax hg ml_X0_100 rfl rfl dX0_gives_49 rfl ?_
      exact x_ret hg dX0_gives_52 hw
    · refine x_aload_5 hg dX0_gives_30 rfl ?_
      refine x_iload_2 hg dX0_gives_32 rfl ?_
      refine x_iload_3 hg dX0_gives_33 rfl ?_
      refine x_iload_4 hg dX0_gives_34 rfl ?_
      refine x_callVI hg (xText_value (gL g) (kEl_20 hin1) hw) (kEl_20 hin1) (by decide) rfl im_X3_value se_X3_value mi_X3_value ml_X0_90 rfl rfl (As := [.int a2, .int a3, .int a4]) rfl rfl rfl dX0_gives_36 rfl (fun r2 s2 hw => ?_)
      refine x_istore_6 hg dX0_gives_39 rfl rfl rfl ?_
      refine x_ic hg dX0_gives_41 ic_0 rfl ?_
      refine x_bi hg dX0_gives_42 bp_99 rfl ?_
      refine x_iload_6 hg dX0_gives_44 rfl ?_
      refine x_mmin hg ml_X0_94 rfl rfl dX0_gives_46 rfl ?_
      refine x_mmax hg ml_X0_100 rfl rfl dX0_gives_49 rfl ?_
      exact x_ret hg dX0_gives_52 hw
  · refine x_iload_2 hg dX0_gives_12 rfl ?_
    refine x_iload_3 hg dX0_gives_13 rfl ?_
    refine x_iadd hg dX0_gives_14 rfl ?_
    refine x_goto hg dX0_gives_15 (pc' := 20) (by decide) ?_
    refine x_istore_6 hg dX0_gives_20 rfl rfl rfl ?_
    refine x_aload_5 hg dX0_gives_22 rfl ?_
    refine x_callVI hg (xText_isThere (gL g) (kEl_20 hin1) hw) (kEl_20 hin1) (by decide) rfl im_X3_isThere se_X3_isThere mi_X3_isThere ml_X0_86 rfl rfl (As := []) rfl rfl rfl dX0_gives_24 rfl (fun r1 s1 hw => ?_)
    refine x_if_eq hg dX0_gives_27 (tg := 41) (by decide) rfl hw (fun hw => ?_) (fun hw => ?_)
    · refine x_ic hg dX0_gives_41 ic_0 rfl ?_
      refine x_bi hg dX0_gives_42 bp_99 rfl ?_
      refine x_iload_6 hg dX0_gives_44 rfl ?_
      refine x_mmin hg ml_X0_94 rfl rfl dX0_gives_46 rfl ?_
      refine x_mmax hg ml_X0_100 rfl rfl dX0_gives_49 rfl ?_
      exact x_ret hg dX0_gives_52 hw
    · refine x_aload_5 hg dX0_gives_30 rfl ?_
      refine x_iload_2 hg dX0_gives_32 rfl ?_
      refine x_iload_3 hg dX0_gives_33 rfl ?_
      refine x_iload_4 hg dX0_gives_34 rfl ?_
      refine x_callVI hg (xText_value (gL g) (kEl_20 hin1) hw) (kEl_20 hin1) (by decide) rfl im_X3_value se_X3_value mi_X3_value ml_X0_90 rfl rfl (As := [.int a2, .int a3, .int a4]) rfl rfl rfl dX0_gives_36 rfl (fun r2 s2 hw => ?_)
      refine x_istore_6 hg dX0_gives_39 rfl rfl rfl ?_
      refine x_ic hg dX0_gives_41 ic_0 rfl ?_
      refine x_bi hg dX0_gives_42 bp_99 rfl ?_
      refine x_iload_6 hg dX0_gives_44 rfl ?_
      refine x_mmin hg ml_X0_94 rfl rfl dX0_gives_46 rfl ?_
      refine x_mmax hg ml_X0_100 rfl rfl dX0_gives_49 rfl ?_
      exact x_ret hg dX0_gives_52 hw
def wBag_time_50 (f3 : Int32) (K101 : Int32 → Sg → Prop) : Nat → Int32 → Int32 → Sg → Prop
  | 0, _, _, _ => False
  | n + 1, a4, a5, s0 => ((f3 < a5 → K101 a4 s0) ∧ (¬ f3 < a5 → (vp_in a5 9 ∧ (vp_in ((s0 4 (ix a5))) 9 ∧ (wThing_feels ((11 + 1 * ix ((s0 4 (ix a5))))) s0 (fun (r1 : Int32) (s1 : Sg) => (wBag_gives 0 r1 a5 ((s1 ((11 + 1 * ix ((s0 4 (ix a5))))) 0)) s1 (fun (r2 : Int32) (s2 : Sg) => wBag_time_50 f3 K101 n ((a4 + r2)) ((a5 + 1)) s2))))))))
def wBag_time (a1 : Int32) (a2 : Int32) (s0 : Sg) (P : Int32 → Sg → Prop) : Prop := (wRow_placeOf 3 a1 s0 (fun (r1 : Int32) (s1 : Sg) => ((0 ≤ r1 → ((¬ a2 = 1 → ((¬ a2 = 2 → (∃ N1 : Nat, wBag_time_50 r1 (fun (v1 : Int32) (s2 : Sg) => P v1 s2) N1 0 0 s1)) ∧ (a2 = 2 → P ((9 + (2 * (s1 3 1)))) s1))) ∧ (a2 = 1 → P ((3 + (2 * r1))) s1))) ∧ (¬ 0 ≤ r1 → P 4 s1))))
set_option maxRecDepth 100000 in
set_option maxHeartbeats 4000000 in
theorem xBag_time_50 {w : Wc} {g : Gx} {Q : State → Prop} {f3 : Int32} {K101 : Int32 → Sg → Prop} (hg : OK shC w g 4 cX0_time "BagBottom$Bag" 7 (some .int)) (hK101 : ∀ (a4 : Int32) (s0 : Sg), K101 a4 s0 → X shC w g Q 101 [none, none, none, none, some (.int a4), none, none] [] s0) : ∀ (n : Nat) (a4 a5 : Int32) (s0 : Sg), wBag_time_50 f3 K101 n a4 a5 s0 → X shC w g Q 50 [some (.ref (ad w 1)), none, none, some (.int f3), some (.int a4), some (.int a5), none] [] s0 := by
  intro n
  induction n with
  | zero =>
    intro a4 a5 s0 hw
    exact hw.elim
  | succ n ih =>
    intro a4 a5 s0 hw
    rw [wBag_time_50] at hw
    refine x_iload_5 hg dX0_time_50 rfl ?_
    refine x_iload_3 hg dX0_time_52 rfl ?_
    refine x_icmp_gt hg dX0_time_53 (tg := 101) (by decide) rfl hw (fun hw => ?_) (fun hw => ?_)
    · refine x_drop_0 ?_
      refine x_drop_3 ?_
      refine x_drop_5 ?_
      exact hK101 _ _ hw
    · refine x_aload_0 hg dX0_time_56 rfl ?_
      refine get_X0_0 hg kC_1 fl_X0_11 dX0_time_57 rfl (k2 := 2) rfl ?_
      refine x_aload_0 hg dX0_time_60 rfl ?_
      refine get_X0_2 hg kC_1 fl_X0_22 dX0_time_61 rfl (k2 := 3) rfl ?_
      refine get_X1_0 hg kC_3 fl_X0_79 dX0_time_64 rfl (k2 := 4) rfl ?_
      refine x_iload_5 hg dX0_time_67 rfl ?_
      refine x_iald hg kC_4 rfl dX0_time_69 rfl hw (fun hw => ?_)
      refine x_aald hg (t := 1) kC_2 (by decide) rfl rfl rfl rfl dX0_time_70 rfl hw (fun hin1 hw => ?_)
      refine x_astore_6 hg dX0_time_71 rfl rfl rfl ?_
      refine x_iload_4 hg dX0_time_73 rfl ?_
      refine x_aload_0 hg dX0_time_75 rfl ?_
      refine x_ic hg dX0_time_76 ic_0 rfl ?_
      refine x_aload_6 hg dX0_time_77 rfl ?_
      refine x_callVI hg (xThing_feels (gL g) (kEl_11 hin1) hw) (kEl_11 hin1) (by decide) rfl im_X4_feels se_X4_feels mi_X4_feels ml_X0_107 rfl rfl (As := []) rfl rfl rfl dX0_time_79 rfl (fun r1 s1 hw => ?_)
      refine x_iload_5 hg dX0_time_82 rfl ?_
      refine x_aload_6 hg dX0_time_84 rfl ?_
      refine get_X4_0 hg (kEl_11 hin1) fl_X0_54 dX0_time_86 rfl ?_
      refine x_callVI hg (xBag_gives (gL g)  hw) kC_1 (by decide) rfl im_X0_gives se_X0_gives mi_X0_gives ml_X0_103 rfl rfl (As := [.int 0, .int r1, .int a5, .int (s1 ((11 + 1 * ix ((s0 4 (ix a5))))) 0)]) rfl rfl rfl dX0_time_89 rfl (fun r2 s2 hw => ?_)
      refine x_iadd hg dX0_time_92 rfl ?_
      refine x_istore_4 hg dX0_time_93 rfl rfl rfl ?_
      refine x_iinc_5 hg dX0_time_95 ic_1 rfl rfl rfl ?_
      refine x_goto hg dX0_time_98 (pc' := 50) (by decide) ?_
      refine x_drop_6 ?_
      exact ih _ _ _ hw
set_option maxRecDepth 100000 in
set_option maxHeartbeats 4000000 in
theorem xBag_time {w : Wc} (l : Launch) {a1 : Int32} {a2 : Int32} {s0 : Sg} {P : Int32 → Sg → Prop} (hw : wBag_time a1 a2 s0 P) : CI shC w l 4 (.code yX0_time cX0_time 7 (some .int)) yX0_time [.ref (ad w 1), .int a1, .int a2] s0 P := by
  refine ci_of_i (own := "BagBottom$Bag") (ls0 := [some (.ref (ad w 1)), some (.int a1), some (.int a2), none, none, none, none]) rfl pn_X0 rfl rfl (fun g el hg => ?_)
  unfold wBag_time at hw
  refine x_aload_0 hg dX0_time_0 rfl ?_
  refine get_X0_2 hg kC_1 fl_X0_22 dX0_time_1 rfl (k2 := 3) rfl ?_
  refine x_iload_1 hg dX0_time_4 rfl ?_
  refine x_callVI hg (xRow_placeOf (gL g) kC_3 hw) kC_3 (by decide) rfl im_X1_placeOf se_X1_placeOf mi_X1_placeOf ml_X0_69 rfl rfl (As := [.int a1]) rfl rfl rfl dX0_time_5 rfl (fun r1 s1 hw => ?_)
  refine x_istore_3 hg dX0_time_8 rfl rfl rfl ?_
  refine x_iload_3 hg dX0_time_9 rfl ?_
  refine x_if_ge hg dX0_time_10 (tg := 15) (by decide) rfl hw (fun hw => ?_) (fun hw => ?_)
  · refine x_iload_2 hg dX0_time_15 rfl ?_
    refine x_ic hg dX0_time_16 ic_1 rfl ?_
    refine x_icmp_ne hg dX0_time_17 (tg := 26) (by decide) rfl hw (fun hw => ?_) (fun hw => ?_)
    · refine x_iload_2 hg dX0_time_26 rfl ?_
      refine x_ic hg dX0_time_27 ic_2 rfl ?_
      refine x_icmp_ne hg dX0_time_28 (tg := 44) (by decide) rfl hw (fun hw => ?_) (fun hw => ?_)
      · refine x_ic hg dX0_time_44 ic_0 rfl ?_
        refine x_istore_4 hg dX0_time_45 rfl rfl rfl ?_
        refine x_ic hg dX0_time_47 ic_0 rfl ?_
        refine x_istore_5 hg dX0_time_48 rfl rfl rfl ?_
        refine x_drop_1 ?_
        refine x_drop_2 ?_
        obtain ⟨N1, hw⟩ := hw
        refine xBag_time_50 hg  (fun v1 s2 hw => ?_) _ _ _ _ hw
        · refine x_iload_4 hg dX0_time_101 rfl ?_
          exact x_ret hg dX0_time_103 hw
      · refine x_bi hg dX0_time_31 bp_9 rfl ?_
        refine x_ic hg dX0_time_33 ic_2 rfl ?_
        refine x_aload_0 hg dX0_time_34 rfl ?_
        refine get_X0_2 hg kC_1 fl_X0_22 dX0_time_35 rfl (k2 := 3) rfl ?_
        refine get_X1_1 hg kC_3 fl_X0_76 dX0_time_38 rfl ?_
        refine x_imul hg dX0_time_41 rfl ?_
        refine x_iadd hg dX0_time_42 rfl ?_
        exact x_ret hg dX0_time_43 hw
    · refine x_ic hg dX0_time_20 ic_3 rfl ?_
      refine x_ic hg dX0_time_21 ic_2 rfl ?_
      refine x_iload_3 hg dX0_time_22 rfl ?_
      refine x_imul hg dX0_time_23 rfl ?_
      refine x_iadd hg dX0_time_24 rfl ?_
      exact x_ret hg dX0_time_25 hw
  · refine x_ic hg dX0_time_13 ic_4 rfl ?_
    exact x_ret hg dX0_time_14 hw
def wBag_bestWay_12 (f1 : Int32) (K45 : Int32 → Sg → Prop) : Nat → Int32 → Int32 → Int32 → Sg → Prop
  | 0, _, _, _, _ => False
  | n + 1, a2, a3, a4, s0 => ((3 ≤ a4 → K45 a2 s0) ∧ (¬ 3 ≤ a4 → (wBag_time f1 a4 s0 (fun (r1 : Int32) (s1 : Sg) => ((a3 ≤ r1 → wBag_bestWay_12 f1 K45 n a2 a3 ((a4 + 1)) s1) ∧ (¬ a3 ≤ r1 → wBag_bestWay_12 f1 K45 n a4 r1 ((a4 + 1)) s1))))))
def wBag_bestWay (a1 : Int32) (s0 : Sg) (P : Int32 → Sg → Prop) : Prop := (wBag_time a1 0 s0 (fun (r1 : Int32) (s1 : Sg) => (∃ N1 : Nat, wBag_bestWay_12 a1 (fun (v1 : Int32) (s2 : Sg) => P v1 s2) N1 0 r1 1 s1)))
set_option maxRecDepth 100000 in
set_option maxHeartbeats 4000000 in
theorem xBag_bestWay_12 {w : Wc} {g : Gx} {Q : State → Prop} {f1 : Int32} {K45 : Int32 → Sg → Prop} (hg : OK shC w g 5 cX0_bestWay "BagBottom$Bag" 6 (some .int)) (hK45 : ∀ (a2 : Int32) (s0 : Sg), K45 a2 s0 → X shC w g Q 45 [none, none, some (.int a2), none, none, none] [] s0) : ∀ (n : Nat) (a2 a3 a4 : Int32) (s0 : Sg), wBag_bestWay_12 f1 K45 n a2 a3 a4 s0 → X shC w g Q 12 [some (.ref (ad w 1)), some (.int f1), some (.int a2), some (.int a3), some (.int a4), none] [] s0 := by
  intro n
  induction n with
  | zero =>
    intro a2 a3 a4 s0 hw
    exact hw.elim
  | succ n ih =>
    intro a2 a3 a4 s0 hw
    rw [wBag_bestWay_12] at hw
    refine x_iload_4 hg dX0_bestWay_12 rfl ?_
    refine x_ic hg dX0_bestWay_14 ic_3 rfl ?_
    refine x_icmp_ge hg dX0_bestWay_15 (tg := 45) (by decide) rfl hw (fun hw => ?_) (fun hw => ?_)
    · refine x_drop_0 ?_
      refine x_drop_1 ?_
      refine x_drop_3 ?_
      refine x_drop_4 ?_
      exact hK45 _ _ hw
    · refine x_aload_0 hg dX0_bestWay_18 rfl ?_
      refine x_iload_1 hg dX0_bestWay_19 rfl ?_
      refine x_iload_4 hg dX0_bestWay_20 rfl ?_
      refine x_callVI hg (xBag_time (gL g)  hw) kC_1 (by decide) rfl im_X0_time se_X0_time mi_X0_time ml_X0_111 rfl rfl (As := [.int f1, .int a4]) rfl rfl rfl dX0_bestWay_22 rfl (fun r1 s1 hw => ?_)
      refine x_istore_5 hg dX0_bestWay_25 rfl rfl rfl ?_
      refine x_iload_5 hg dX0_bestWay_27 rfl ?_
      refine x_iload_3 hg dX0_bestWay_29 rfl ?_
      refine x_icmp_ge hg dX0_bestWay_30 (tg := 39) (by decide) rfl hw (fun hw => ?_) (fun hw => ?_)
      · refine x_iinc_4 hg dX0_bestWay_39 ic_1 rfl rfl rfl ?_
        refine x_goto hg dX0_bestWay_42 (pc' := 12) (by decide) ?_
        refine x_drop_5 ?_
        exact ih _ _ _ _ hw
      · refine x_iload_5 hg dX0_bestWay_33 rfl ?_
        refine x_istore_3 hg dX0_bestWay_35 rfl rfl rfl ?_
        refine x_iload_4 hg dX0_bestWay_36 rfl ?_
        refine x_istore_2 hg dX0_bestWay_38 rfl rfl rfl ?_
        refine x_iinc_4 hg dX0_bestWay_39 ic_1 rfl rfl rfl ?_
        refine x_goto hg dX0_bestWay_42 (pc' := 12) (by decide) ?_
        refine x_drop_5 ?_
        exact ih _ _ _ _ hw
set_option maxRecDepth 100000 in
set_option maxHeartbeats 4000000 in
theorem xBag_bestWay {w : Wc} (l : Launch) {a1 : Int32} {s0 : Sg} {P : Int32 → Sg → Prop} (hw : wBag_bestWay a1 s0 P) : CI shC w l 5 (.code yX0_bestWay cX0_bestWay 6 (some .int)) yX0_bestWay [.ref (ad w 1), .int a1] s0 P := by
  refine ci_of_i (own := "BagBottom$Bag") (ls0 := [some (.ref (ad w 1)), some (.int a1), none, none, none, none]) rfl pn_X0 rfl rfl (fun g el hg => ?_)
  unfold wBag_bestWay at hw
  refine x_ic hg dX0_bestWay_0 ic_0 rfl ?_
  refine x_istore_2 hg dX0_bestWay_1 rfl rfl rfl ?_
  refine x_aload_0 hg dX0_bestWay_2 rfl ?_
  refine x_iload_1 hg dX0_bestWay_3 rfl ?_
  refine x_ic hg dX0_bestWay_4 ic_0 rfl ?_
  refine x_callVI hg (xBag_time (gL g)  hw) kC_1 (by decide) rfl im_X0_time se_X0_time mi_X0_time ml_X0_111 rfl rfl (As := [.int a1, .int 0]) rfl rfl rfl dX0_bestWay_5 rfl (fun r1 s1 hw => ?_)
  refine x_istore_3 hg dX0_bestWay_8 rfl rfl rfl ?_
  refine x_ic hg dX0_bestWay_9 ic_1 rfl ?_
  refine x_istore_4 hg dX0_bestWay_10 rfl rfl rfl ?_
  obtain ⟨N1, hw⟩ := hw
  refine xBag_bestWay_12 hg  (fun v1 s2 hw => ?_) _ _ _ _ _ hw
  · refine x_iload_2 hg dX0_bestWay_45 rfl ?_
    exact x_ret hg dX0_bestWay_46 hw
def wBag_take (a1 : Int32) (a2 : Int32) (s0 : Sg) (P : Int32 → Sg → Prop) : Prop := (wBag_time a1 a2 s0 (fun (r1 : Int32) (s1 : Sg) => (∀ s2 : Sg, s2 = u2 s1 1 5 ((if ((s1 1 5) + r1) < 99999 then ((s1 1 5) + r1) else 99999)) → ((¬ (s2 1 3) = a1 → ((¬ a2 = 2 → (wRow_placeOf 3 a1 s2 (fun (r2 : Int32) (s3 : Sg) => (wRow_removeAt 3 r2 s3 (fun (s4 : Sg) => (wRow_addOnTop 3 a1 s4 (fun (s5 : Sg) => P r1 s5))))))) ∧ (a2 = 2 → (wRow_turnOverFrom 3 0 s2 (fun (s3 : Sg) => (wRow_placeOf 3 a1 s3 (fun (r2 : Int32) (s4 : Sg) => (wRow_removeAt 3 r2 s4 (fun (s5 : Sg) => (wRow_addOnTop 3 a1 s5 (fun (s6 : Sg) => P r1 s6))))))))))) ∧ ((s2 1 3) = a1 → P r1 s2)))))
set_option maxRecDepth 100000 in
set_option maxHeartbeats 4000000 in
theorem xBag_take {w : Wc} (l : Launch) {a1 : Int32} {a2 : Int32} {s0 : Sg} {P : Int32 → Sg → Prop} (hw : wBag_take a1 a2 s0 P) : CI shC w l 5 (.code yX0_take cX0_take 4 (some .int)) yX0_take [.ref (ad w 1), .int a1, .int a2] s0 P := by
  refine ci_of_i (own := "BagBottom$Bag") (ls0 := [some (.ref (ad w 1)), some (.int a1), some (.int a2), none]) rfl pn_X0 rfl rfl (fun g el hg => ?_)
  unfold wBag_take at hw
  refine x_aload_0 hg dX0_take_0 rfl ?_
  refine x_iload_1 hg dX0_take_1 rfl ?_
  refine x_iload_2 hg dX0_take_2 rfl ?_
  refine x_callVI hg (xBag_time (gL g)  hw) kC_1 (by decide) rfl im_X0_time se_X0_time mi_X0_time ml_X0_111 rfl rfl (As := [.int a1, .int a2]) rfl rfl rfl dX0_take_3 rfl (fun r1 s1 hw => ?_)
  refine x_istore_3 hg dX0_take_6 rfl rfl rfl ?_
  refine x_aload_0 hg dX0_take_7 rfl ?_
  refine x_ldc hg kc_X0_114 dX0_take_8 rfl ?_
  refine x_aload_0 hg dX0_take_10 rfl ?_
  refine get_X0_5 hg kC_1 fl_X0_115 dX0_take_11 rfl ?_
  refine x_iload_3 hg dX0_take_14 rfl ?_
  refine x_iadd hg dX0_take_15 rfl ?_
  refine x_mmin hg ml_X0_94 rfl rfl dX0_take_16 rfl ?_
  refine put_X0_5 hg kC_1 fl_X0_115 dX0_take_19 rfl hw (fun s2 hw => ?_)
  refine x_aload_0 hg dX0_take_22 rfl ?_
  refine get_X0_3 hg kC_1 fl_X0_26 dX0_take_23 rfl ?_
  refine x_iload_1 hg dX0_take_26 rfl ?_
  refine x_icmp_ne hg dX0_take_27 (tg := 32) (by decide) rfl hw (fun hw => ?_) (fun hw => ?_)
  · refine x_iload_2 hg dX0_take_32 rfl ?_
    refine x_ic hg dX0_take_33 ic_2 rfl ?_
    refine x_icmp_ne hg dX0_take_34 (tg := 45) (by decide) rfl hw (fun hw => ?_) (fun hw => ?_)
    · refine x_aload_0 hg dX0_take_45 rfl ?_
      refine get_X0_2 hg kC_1 fl_X0_22 dX0_take_46 rfl (k2 := 3) rfl ?_
      refine x_aload_0 hg dX0_take_49 rfl ?_
      refine get_X0_2 hg kC_1 fl_X0_22 dX0_take_50 rfl (k2 := 3) rfl ?_
      refine x_iload_1 hg dX0_take_53 rfl ?_
      refine x_callVI hg (xRow_placeOf (gL g) kC_3 hw) kC_3 (by decide) rfl im_X1_placeOf se_X1_placeOf mi_X1_placeOf ml_X0_69 rfl rfl (As := [.int a1]) rfl rfl rfl dX0_take_54 rfl (fun r2 s3 hw => ?_)
      refine x_callVV hg (xRow_removeAt (gL g) kC_3 hw) kC_3 (by decide) rfl im_X1_removeAt se_X1_removeAt mi_X1_removeAt ml_X0_73 rfl rfl (As := [.int r2]) rfl rfl rfl dX0_take_57 rfl (fun s4 hw => ?_)
      refine x_aload_0 hg dX0_take_60 rfl ?_
      refine get_X0_2 hg kC_1 fl_X0_22 dX0_take_61 rfl (k2 := 3) rfl ?_
      refine x_iload_1 hg dX0_take_64 rfl ?_
      refine x_callVV hg (xRow_addOnTop (gL g) kC_3 hw) kC_3 (by decide) rfl im_X1_addOnTop se_X1_addOnTop mi_X1_addOnTop ml_X0_66 rfl rfl (As := [.int a1]) rfl rfl rfl dX0_take_65 rfl (fun s5 hw => ?_)
      refine x_iload_3 hg dX0_take_68 rfl ?_
      exact x_ret hg dX0_take_69 hw
    · refine x_aload_0 hg dX0_take_37 rfl ?_
      refine get_X0_2 hg kC_1 fl_X0_22 dX0_take_38 rfl (k2 := 3) rfl ?_
      refine x_ic hg dX0_take_41 ic_0 rfl ?_
      refine x_callVV hg (xRow_turnOverFrom (gL g) kC_3 hw) kC_3 (by decide) rfl im_X1_turnOverFrom se_X1_turnOverFrom mi_X1_turnOverFrom ml_X0_118 rfl rfl (As := [.int 0]) rfl rfl rfl dX0_take_42 rfl (fun s3 hw => ?_)
      refine x_aload_0 hg dX0_take_45 rfl ?_
      refine get_X0_2 hg kC_1 fl_X0_22 dX0_take_46 rfl (k2 := 3) rfl ?_
      refine x_aload_0 hg dX0_take_49 rfl ?_
      refine get_X0_2 hg kC_1 fl_X0_22 dX0_take_50 rfl (k2 := 3) rfl ?_
      refine x_iload_1 hg dX0_take_53 rfl ?_
      refine x_callVI hg (xRow_placeOf (gL g) kC_3 hw) kC_3 (by decide) rfl im_X1_placeOf se_X1_placeOf mi_X1_placeOf ml_X0_69 rfl rfl (As := [.int a1]) rfl rfl rfl dX0_take_54 rfl (fun r2 s4 hw => ?_)
      refine x_callVV hg (xRow_removeAt (gL g) kC_3 hw) kC_3 (by decide) rfl im_X1_removeAt se_X1_removeAt mi_X1_removeAt ml_X0_73 rfl rfl (As := [.int r2]) rfl rfl rfl dX0_take_57 rfl (fun s5 hw => ?_)
      refine x_aload_0 hg dX0_take_60 rfl ?_
      refine get_X0_2 hg kC_1 fl_X0_22 dX0_take_61 rfl (k2 := 3) rfl ?_
      refine x_iload_1 hg dX0_take_64 rfl ?_
      refine x_callVV hg (xRow_addOnTop (gL g) kC_3 hw) kC_3 (by decide) rfl im_X1_addOnTop se_X1_addOnTop mi_X1_addOnTop ml_X0_66 rfl rfl (As := [.int a1]) rfl rfl rfl dX0_take_65 rfl (fun s6 hw => ?_)
      refine x_iload_3 hg dX0_take_68 rfl ?_
      exact x_ret hg dX0_take_69 hw
  · refine x_iload_3 hg dX0_take_30 rfl ?_
    exact x_ret hg dX0_take_31 hw
def wBag_learnSinks_10 (f1 : Int32) (K45 : Sg → Prop) : Nat → Int32 → Sg → Prop
  | 0, _, _ => False
  | n + 1, a2, s0 => (((s0 1 1) ≤ a2 → K45  s0) ∧ (¬ (s0 1 1) ≤ a2 → (vp_in a2 9 ∧ (wThing_sinks ((11 + 1 * ix a2)) f1 s0 (fun (r1 : Int32) (s1 : Sg) => (vp_in (((f1 * 9) + a2)) 54 ∧ ∀ s2 : Sg, s2 = u2 s1 10 (ix (((f1 * 9) + a2))) r1 → wBag_learnSinks_10 f1 K45 n ((a2 + 1)) s2))))))
def wBag_learnSinks_2 (K51 : Sg → Prop) : Nat → Int32 → Sg → Prop
  | 0, _, _ => False
  | n + 1, a1, s0 => ((6 ≤ a1 → K51  s0) ∧ (¬ 6 ≤ a1 → (∃ N1 : Nat, wBag_learnSinks_10 a1 (fun  (s1 : Sg) => wBag_learnSinks_2 K51 n ((a1 + 1)) s1) N1 0 s0)))
def wBag_learnSinks (s0 : Sg) (P : Sg → Prop) : Prop := (∃ N1 : Nat, wBag_learnSinks_2 (fun  (s1 : Sg) => P s1) N1 0 s0)
set_option maxRecDepth 100000 in
set_option maxHeartbeats 4000000 in
theorem xBag_learnSinks_10 {w : Wc} {g : Gx} {Q : State → Prop} {f1 : Int32} {K45 : Sg → Prop} (hg : OK shC w g 2 cX0_learnSinks "BagBottom$Bag" 3 none) (hK45 : ∀ (s0 : Sg), K45  s0 → X shC w g Q 45 [some (.ref (ad w 1)), some (.int f1), none] [] s0) : ∀ (n : Nat) (a2 : Int32) (s0 : Sg), wBag_learnSinks_10 f1 K45 n a2 s0 → X shC w g Q 10 [some (.ref (ad w 1)), some (.int f1), some (.int a2)] [] s0 := by
  intro n
  induction n with
  | zero =>
    intro a2 s0 hw
    exact hw.elim
  | succ n ih =>
    intro a2 s0 hw
    rw [wBag_learnSinks_10] at hw
    refine x_iload_2 hg dX0_learnSinks_10 rfl ?_
    refine x_aload_0 hg dX0_learnSinks_11 rfl ?_
    refine get_X0_1 hg kC_1 fl_X0_51 dX0_learnSinks_12 rfl ?_
    refine x_icmp_ge hg dX0_learnSinks_15 (tg := 45) (by decide) rfl hw (fun hw => ?_) (fun hw => ?_)
    · refine x_drop_2 ?_
      exact hK45  _ hw
    · refine x_aload_0 hg dX0_learnSinks_18 rfl ?_
      refine get_X0_10 hg kC_1 fl_X0_45 dX0_learnSinks_19 rfl (k2 := 10) rfl ?_
      refine x_iload_1 hg dX0_learnSinks_22 rfl ?_
      refine x_bi hg dX0_learnSinks_23 bp_9 rfl ?_
      refine x_imul hg dX0_learnSinks_25 rfl ?_
      refine x_iload_2 hg dX0_learnSinks_26 rfl ?_
      refine x_iadd hg dX0_learnSinks_27 rfl ?_
      refine x_aload_0 hg dX0_learnSinks_28 rfl ?_
      refine get_X0_0 hg kC_1 fl_X0_11 dX0_learnSinks_29 rfl (k2 := 2) rfl ?_
      refine x_iload_2 hg dX0_learnSinks_32 rfl ?_
      refine x_aald hg (t := 1) kC_2 (by decide) rfl rfl rfl rfl dX0_learnSinks_33 rfl hw (fun hin1 hw => ?_)
      refine x_iload_1 hg dX0_learnSinks_34 rfl ?_
      refine x_callVI hg (xThing_sinks (gL g) (kEl_11 hin1) hw) (kEl_11 hin1) (by decide) rfl im_X4_sinks se_X4_sinks mi_X4_sinks ml_X0_121 rfl rfl (As := [.int f1]) rfl rfl rfl dX0_learnSinks_35 rfl (fun r1 s1 hw => ?_)
      refine x_iast hg kC_10 rfl dX0_learnSinks_38 rfl hw (fun s2 hw => ?_)
      refine x_iinc_2 hg dX0_learnSinks_39 ic_1 rfl rfl rfl ?_
      refine x_goto hg dX0_learnSinks_42 (pc' := 10) (by decide) ?_
      exact ih _ _ hw
set_option maxRecDepth 100000 in
set_option maxHeartbeats 4000000 in
theorem xBag_learnSinks_2 {w : Wc} {g : Gx} {Q : State → Prop} {K51 : Sg → Prop} (hg : OK shC w g 2 cX0_learnSinks "BagBottom$Bag" 3 none) (hK51 : ∀ (s0 : Sg), K51  s0 → X shC w g Q 51 [none, none, none] [] s0) : ∀ (n : Nat) (a1 : Int32) (s0 : Sg), wBag_learnSinks_2 K51 n a1 s0 → X shC w g Q 2 [some (.ref (ad w 1)), some (.int a1), none] [] s0 := by
  intro n
  induction n with
  | zero =>
    intro a1 s0 hw
    exact hw.elim
  | succ n ih =>
    intro a1 s0 hw
    rw [wBag_learnSinks_2] at hw
    refine x_iload_1 hg dX0_learnSinks_2 rfl ?_
    refine x_bi hg dX0_learnSinks_3 bp_6 rfl ?_
    refine x_icmp_ge hg dX0_learnSinks_5 (tg := 51) (by decide) rfl hw (fun hw => ?_) (fun hw => ?_)
    · refine x_drop_0 ?_
      refine x_drop_1 ?_
      exact hK51  _ hw
    · refine x_ic hg dX0_learnSinks_8 ic_0 rfl ?_
      refine x_istore_2 hg dX0_learnSinks_9 rfl rfl rfl ?_
      obtain ⟨N1, hw⟩ := hw
      refine xBag_learnSinks_10 hg  (fun  s1 hw => ?_) _ _ _ hw
      · refine x_iinc_1 hg dX0_learnSinks_45 ic_1 rfl rfl rfl ?_
        refine x_goto hg dX0_learnSinks_48 (pc' := 2) (by decide) ?_
        exact ih _ _ hw
set_option maxRecDepth 100000 in
set_option maxHeartbeats 4000000 in
theorem xBag_learnSinks {w : Wc} (l : Launch) {s0 : Sg} {P : Sg → Prop} (hw : wBag_learnSinks  s0 P) : CV shC w l 2 (.code yX0_learnSinks cX0_learnSinks 3 none) yX0_learnSinks [.ref (ad w 1)] s0 P := by
  refine ci_of_v (own := "BagBottom$Bag") (ls0 := [some (.ref (ad w 1)), none, none]) rfl pn_X0 rfl rfl (fun g el hg => ?_)
  unfold wBag_learnSinks at hw
  refine x_ic hg dX0_learnSinks_0 ic_0 rfl ?_
  refine x_istore_1 hg dX0_learnSinks_1 rfl rfl rfl ?_
  obtain ⟨N1, hw⟩ := hw
  refine xBag_learnSinks_2 hg  (fun  s1 hw => ?_) _ _ _ hw
  · exact x_vret hg dX0_learnSinks_51 hw
def wBag_shake_14 (k1 : Nat) (f3 : Int32) (K77 : Int32 → Sg → Prop) : Nat → Int32 → Int32 → Sg → Prop
  | 0, _, _, _ => False
  | n + 1, a4, a5, s0 => (((s0 k1 1) ≤ (a5 + 1) → K77 a4 s0) ∧ (¬ (s0 k1 1) ≤ (a5 + 1) → (vp_in a5 (ln shC (k1 + 1)) ∧ (vp_in ((f3 + (s0 ((k1 + 1)) (ix a5)))) 54 ∧ (vp_in ((a5 + 1)) (ln shC (k1 + 1)) ∧ (vp_in ((f3 + (s0 ((k1 + 1)) (ix ((a5 + 1)))))) 54 ∧ (((s0 10 (ix ((f3 + (s0 ((k1 + 1)) (ix a5)))))) ≤ (s0 10 (ix ((f3 + (s0 ((k1 + 1)) (ix ((a5 + 1)))))))) → wBag_shake_14 k1 f3 K77 n a4 ((a5 + 1)) s0) ∧ (¬ (s0 10 (ix ((f3 + (s0 ((k1 + 1)) (ix a5)))))) ≤ (s0 10 (ix ((f3 + (s0 ((k1 + 1)) (ix ((a5 + 1)))))))) → (wRow_exchange k1 a5 ((a5 + 1)) s0 (fun (s1 : Sg) => wBag_shake_14 k1 f3 K77 n 1 ((a5 + 1)) s1))))))))))
def wBag_shake (k1 : Nat) (a2 : Int32) (s0 : Sg) (P : Int32 → Sg → Prop) : Prop := (∃ N1 : Nat, wBag_shake_14 k1 (((a2 - a2 / 6 * 6) * 9)) (fun (v1 : Int32) (s1 : Sg) => ((v1 = 0 ∨ v1 = 1) ∧ P v1 s1)) N1 0 0 s0)
set_option maxRecDepth 100000 in
set_option maxHeartbeats 4000000 in
theorem xBag_shake_14 {w : Wc} {g : Gx} {Q : State → Prop} {k1 : Nat} {f3 : Int32} {K77 : Int32 → Sg → Prop} (hg : OK shC w g 3 cX0_shake "BagBottom$Bag" 6 (some .boolean)) (hk1 : kd shC k1 = 2) (hK77 : ∀ (a4 : Int32) (s0 : Sg), K77 a4 s0 → X shC w g Q 77 [none, none, none, none, some (.int a4), none] [] s0) : ∀ (n : Nat) (a4 a5 : Int32) (s0 : Sg), wBag_shake_14 k1 f3 K77 n a4 a5 s0 → X shC w g Q 14 [some (.ref (ad w 1)), some (.ref (ad w k1)), none, some (.int f3), some (.int a4), some (.int a5)] [] s0 := by
  intro n
  induction n with
  | zero =>
    intro a4 a5 s0 hw
    exact hw.elim
  | succ n ih =>
    intro a4 a5 s0 hw
    rw [wBag_shake_14] at hw
    refine x_iload_5 hg dX0_shake_14 rfl ?_
    refine x_ic hg dX0_shake_16 ic_1 rfl ?_
    refine x_iadd hg dX0_shake_17 rfl ?_
    refine x_aload_1 hg dX0_shake_18 rfl ?_
    refine get_X1_1 hg hk1 fl_X0_76 dX0_shake_19 rfl ?_
    refine x_icmp_ge hg dX0_shake_22 (tg := 77) (by decide) rfl hw (fun hw => ?_) (fun hw => ?_)
    · refine x_drop_0 ?_
      refine x_drop_1 ?_
      refine x_drop_3 ?_
      refine x_drop_5 ?_
      exact hK77 _ _ hw
    · refine x_aload_0 hg dX0_shake_25 rfl ?_
      refine get_X0_10 hg kC_1 fl_X0_45 dX0_shake_26 rfl (k2 := 10) rfl ?_
      refine x_iload_3 hg dX0_shake_29 rfl ?_
      refine x_aload_1 hg dX0_shake_30 rfl ?_
      refine get_X1_0 hg hk1 fl_X0_79 dX0_shake_31 rfl (k2 := (k1 + 1)) rfl ?_
      refine x_iload_5 hg dX0_shake_34 rfl ?_
      refine x_iald hg (kRow hk1) rfl dX0_shake_36 rfl hw (fun hw => ?_)
      refine x_iadd hg dX0_shake_37 rfl ?_
      refine x_iald hg kC_10 rfl dX0_shake_38 rfl hw (fun hw => ?_)
      refine x_aload_0 hg dX0_shake_39 rfl ?_
      refine get_X0_10 hg kC_1 fl_X0_45 dX0_shake_40 rfl (k2 := 10) rfl ?_
      refine x_iload_3 hg dX0_shake_43 rfl ?_
      refine x_aload_1 hg dX0_shake_44 rfl ?_
      refine get_X1_0 hg hk1 fl_X0_79 dX0_shake_45 rfl (k2 := (k1 + 1)) rfl ?_
      refine x_iload_5 hg dX0_shake_48 rfl ?_
      refine x_ic hg dX0_shake_50 ic_1 rfl ?_
      refine x_iadd hg dX0_shake_51 rfl ?_
      refine x_iald hg (kRow hk1) rfl dX0_shake_52 rfl hw (fun hw => ?_)
      refine x_iadd hg dX0_shake_53 rfl ?_
      refine x_iald hg kC_10 rfl dX0_shake_54 rfl hw (fun hw => ?_)
      refine x_icmp_le hg dX0_shake_55 (tg := 71) (by decide) rfl hw (fun hw => ?_) (fun hw => ?_)
      · refine x_iinc_5 hg dX0_shake_71 ic_1 rfl rfl rfl ?_
        refine x_goto hg dX0_shake_74 (pc' := 14) (by decide) ?_
        exact ih _ _ _ hw
      · refine x_aload_1 hg dX0_shake_58 rfl ?_
        refine x_iload_5 hg dX0_shake_59 rfl ?_
        refine x_iload_5 hg dX0_shake_61 rfl ?_
        refine x_ic hg dX0_shake_63 ic_1 rfl ?_
        refine x_iadd hg dX0_shake_64 rfl ?_
        refine x_callVV hg (xRow_exchange (gL g) hk1 hw) hk1 (by decide) rfl im_X1_exchange se_X1_exchange mi_X1_exchange ml_X0_124 rfl rfl (As := [.int a5, .int (a5 + 1)]) rfl rfl rfl dX0_shake_65 rfl (fun s1 hw => ?_)
        refine x_ic hg dX0_shake_68 ic_1 rfl ?_
        refine x_istore_4 hg dX0_shake_69 rfl rfl rfl ?_
        refine x_iinc_5 hg dX0_shake_71 ic_1 rfl rfl rfl ?_
        refine x_goto hg dX0_shake_74 (pc' := 14) (by decide) ?_
        exact ih _ _ _ hw
set_option maxRecDepth 100000 in
set_option maxHeartbeats 4000000 in
theorem xBag_shake {w : Wc} (l : Launch) {k1 : Nat} {a2 : Int32} (hk1 : kd shC k1 = 2) {s0 : Sg} {P : Int32 → Sg → Prop} (hw : wBag_shake k1 a2 s0 P) : CI shC w l 3 (.code yX0_shake cX0_shake 6 (some .boolean)) yX0_shake [.ref (ad w 1), .ref (ad w k1), .int a2] s0 P := by
  refine ci_of_z (own := "BagBottom$Bag") (ls0 := [some (.ref (ad w 1)), some (.ref (ad w k1)), some (.int a2), none, none, none]) rfl pn_X0 rfl rfl (fun g el hg => ?_)
  unfold wBag_shake at hw
  refine x_iload_2 hg dX0_shake_0 rfl ?_
  refine x_bi hg dX0_shake_1 bp_6 rfl ?_
  refine x_irem hg dX0_shake_3 ne_6 rfl ?_
  refine x_bi hg dX0_shake_4 bp_9 rfl ?_
  refine x_imul hg dX0_shake_6 rfl ?_
  refine x_istore_3 hg dX0_shake_7 rfl rfl rfl ?_
  refine x_ic hg dX0_shake_8 ic_0 rfl ?_
  refine x_istore_4 hg dX0_shake_9 rfl rfl rfl ?_
  refine x_ic hg dX0_shake_11 ic_0 rfl ?_
  refine x_istore_5 hg dX0_shake_12 rfl rfl rfl ?_
  refine x_drop_2 ?_
  obtain ⟨N1, hw⟩ := hw
  refine xBag_shake_14 hg hk1 (fun v1 s1 hw => ?_) _ _ _ _ hw
  · refine x_iload_4 hg dX0_shake_77 rfl ?_
    exact x_zret hg dX0_shake_79 hw.1 hw.2
def wBag_walk_6 (f1 : Int32) (K40 : Sg → Prop) : Nat → Int32 → Sg → Prop
  | 0, _, _ => False
  | n + 1, a2, s0 => ((f1 ≤ a2 → K40  s0) ∧ (¬ f1 ≤ a2 → (wBag_shake 3 ((s0 1 4)) s0 (fun (r1 : Int32) (s1 : Sg) => (∀ s2 : Sg, s2 = u2 s1 1 4 (((s1 1 4) + 1)) → wBag_walk_6 f1 K40 n ((a2 + 1)) s2)))))
def wBag_walk (a1 : Int32) (s0 : Sg) (P : Sg → Prop) : Prop := (wBag_learnSinks  s0 (fun (s1 : Sg) => (∃ N1 : Nat, wBag_walk_6 a1 (fun  (s2 : Sg) => P s2) N1 0 s1)))
set_option maxRecDepth 100000 in
set_option maxHeartbeats 4000000 in
theorem xBag_walk_6 {w : Wc} {g : Gx} {Q : State → Prop} {f1 : Int32} {K40 : Sg → Prop} (hg : OK shC w g 4 cX0_walk "BagBottom$Bag" 3 none) (hK40 : ∀ (s0 : Sg), K40  s0 → X shC w g Q 40 [none, none, none] [] s0) : ∀ (n : Nat) (a2 : Int32) (s0 : Sg), wBag_walk_6 f1 K40 n a2 s0 → X shC w g Q 6 [some (.ref (ad w 1)), some (.int f1), some (.int a2)] [] s0 := by
  intro n
  induction n with
  | zero =>
    intro a2 s0 hw
    exact hw.elim
  | succ n ih =>
    intro a2 s0 hw
    rw [wBag_walk_6] at hw
    refine x_iload_2 hg dX0_walk_6 rfl ?_
    refine x_iload_1 hg dX0_walk_7 rfl ?_
    refine x_icmp_ge hg dX0_walk_8 (tg := 40) (by decide) rfl hw (fun hw => ?_) (fun hw => ?_)
    · refine x_drop_0 ?_
      refine x_drop_1 ?_
      refine x_drop_2 ?_
      exact hK40  _ hw
    · refine x_aload_0 hg dX0_walk_11 rfl ?_
      refine x_aload_0 hg dX0_walk_12 rfl ?_
      refine get_X0_2 hg kC_1 fl_X0_22 dX0_walk_13 rfl (k2 := 3) rfl ?_
      refine x_aload_0 hg dX0_walk_16 rfl ?_
      refine get_X0_4 hg kC_1 fl_X0_131 dX0_walk_17 rfl ?_
      refine x_callVI hg (xBag_shake (gL g) kC_3 hw) kC_1 (by decide) rfl im_X0_shake se_X0_shake mi_X0_shake ml_X0_134 rfl rfl (As := [.ref (ad w 3), .int (s0 1 4)]) rfl rfl rfl dX0_walk_20 rfl (fun r1 s1 hw => ?_)
      refine x_pop hg dX0_walk_23 rfl rfl ?_
      refine x_aload_0 hg dX0_walk_24 rfl ?_
      refine x_dup hg dX0_walk_25 rfl rfl ?_
      refine get_X0_4 hg kC_1 fl_X0_131 dX0_walk_26 rfl ?_
      refine x_ic hg dX0_walk_29 ic_1 rfl ?_
      refine x_iadd hg dX0_walk_30 rfl ?_
      refine put_X0_4 hg kC_1 fl_X0_131 dX0_walk_31 rfl hw (fun s2 hw => ?_)
      refine x_iinc_2 hg dX0_walk_34 ic_1 rfl rfl rfl ?_
      refine x_goto hg dX0_walk_37 (pc' := 6) (by decide) ?_
      exact ih _ _ hw
set_option maxRecDepth 100000 in
set_option maxHeartbeats 4000000 in
theorem xBag_walk {w : Wc} (l : Launch) {a1 : Int32} {s0 : Sg} {P : Sg → Prop} (hw : wBag_walk a1 s0 P) : CV shC w l 4 (.code yX0_walk cX0_walk 3 none) yX0_walk [.ref (ad w 1), .int a1] s0 P := by
  refine ci_of_v (own := "BagBottom$Bag") (ls0 := [some (.ref (ad w 1)), some (.int a1), none]) rfl pn_X0 rfl rfl (fun g el hg => ?_)
  unfold wBag_walk at hw
  refine x_aload_0 hg dX0_walk_0 rfl ?_
  refine x_callVV hg (xBag_learnSinks (gL g)  hw) kC_1 (by decide) rfl im_X0_learnSinks se_X0_learnSinks mi_X0_learnSinks ml_X0_128 rfl rfl (As := []) rfl rfl rfl dX0_walk_1 rfl (fun s1 hw => ?_)
  refine x_ic hg dX0_walk_4 ic_0 rfl ?_
  refine x_istore_2 hg dX0_walk_5 rfl rfl rfl ?_
  obtain ⟨N1, hw⟩ := hw
  refine xBag_walk_6 hg  (fun  s2 hw => ?_) _ _ _ hw
  · exact x_vret hg dX0_walk_40 hw
def wBag_draw (s0 : Sg) (P : Int32 → Sg → Prop) : Prop := (∀ s1 : Sg, s1 = u2 s0 1 6 ((((s0 1 6) * 1103515245) + 12345)) → P (((s1 1 6).toUInt32 >>> ((8 : Int32).toUInt32 &&& Int32.toUInt32 31)).toInt32) s1)
set_option maxRecDepth 100000 in
set_option maxHeartbeats 4000000 in
theorem xBag_draw {w : Wc} (l : Launch) {s0 : Sg} {P : Int32 → Sg → Prop} (hw : wBag_draw  s0 P) : CI shC w l 1 (.code yX0_draw cX0_draw 1 (some .int)) yX0_draw [.ref (ad w 1)] s0 P := by
  refine ci_of_i (own := "BagBottom$Bag") (ls0 := [some (.ref (ad w 1))]) rfl pn_X0 rfl rfl (fun g el hg => ?_)
  unfold wBag_draw at hw
  refine x_aload_0 hg dX0_draw_0 rfl ?_
  refine x_aload_0 hg dX0_draw_1 rfl ?_
  refine get_X0_6 hg kC_1 fl_X0_30 dX0_draw_2 rfl ?_
  refine x_ldc hg kc_X0_138 dX0_draw_5 rfl ?_
  refine x_imul hg dX0_draw_7 rfl ?_
  refine x_si hg dX0_draw_8 sp_12345 rfl ?_
  refine x_iadd hg dX0_draw_11 rfl ?_
  refine put_X0_6 hg kC_1 fl_X0_30 dX0_draw_12 rfl hw (fun s1 hw => ?_)
  refine x_aload_0 hg dX0_draw_15 rfl ?_
  refine get_X0_6 hg kC_1 fl_X0_30 dX0_draw_16 rfl ?_
  refine x_bi hg dX0_draw_19 bp_8 rfl ?_
  refine x_iushr hg dX0_draw_21 rfl ?_
  exact x_ret hg dX0_draw_22 hw
def wBag_goByDraws (s0 : Sg) (P : Sg → Prop) : Prop := (((s0 1 1) ≤ 0 → (wBag_draw  s0 (fun (r1 : Int32) (s1 : Sg) => (wBag_walk (((r1 - r1 / 3 * 3) + 1)) s1 (fun (s2 : Sg) => P s2))))) ∧ (¬ (s0 1 1) ≤ 0 → (wBag_draw  s0 (fun (r1 : Int32) (s1 : Sg) => (¬ (s1 1 1) = 0 ∧ (wBag_whereIs ((r1 - r1 / (s1 1 1) * (s1 1 1))) s1 (fun (r2 : Int32) (s2 : Sg) => ((r2 = (-2) → (wBag_draw  s2 (fun (r3 : Int32) (s3 : Sg) => (wBag_walk (((r3 - r3 / 3 * 3) + 1)) s3 (fun (s4 : Sg) => P s4))))) ∧ (¬ r2 = (-2) → (wBag_bestWay ((r1 - r1 / (s1 1 1) * (s1 1 1))) s2 (fun (r3 : Int32) (s3 : Sg) => (wBag_take ((r1 - r1 / (s1 1 1) * (s1 1 1))) r3 s3 (fun (r4 : Int32) (s4 : Sg) => (wBag_draw  s4 (fun (r5 : Int32) (s5 : Sg) => (wBag_walk (((r5 - r5 / 3 * 3) + 1)) s5 (fun (s6 : Sg) => P s6)))))))))))))))))
set_option maxRecDepth 100000 in
set_option maxHeartbeats 4000000 in
theorem xBag_goByDraws {w : Wc} (l : Launch) {s0 : Sg} {P : Sg → Prop} (hw : wBag_goByDraws  s0 P) : CV shC w l 6 (.code yX0_goByDraws cX0_goByDraws 2 none) yX0_goByDraws [.ref (ad w 1)] s0 P := by
  refine ci_of_v (own := "BagBottom$Bag") (ls0 := [some (.ref (ad w 1)), none]) rfl pn_X0 rfl rfl (fun g el hg => ?_)
  unfold wBag_goByDraws at hw
  refine x_aload_0 hg dX0_goByDraws_0 rfl ?_
  refine get_X0_1 hg kC_1 fl_X0_51 dX0_goByDraws_1 rfl ?_
  refine x_if_le hg dX0_goByDraws_4 (tg := 38) (by decide) rfl hw (fun hw => ?_) (fun hw => ?_)
  · refine x_aload_0 hg dX0_goByDraws_38 rfl ?_
    refine x_aload_0 hg dX0_goByDraws_39 rfl ?_
    refine x_callVI hg (xBag_draw (gL g)  hw) kC_1 (by decide) rfl im_X0_draw se_X0_draw mi_X0_draw ml_X0_139 rfl rfl (As := []) rfl rfl rfl dX0_goByDraws_40 rfl (fun r1 s1 hw => ?_)
    refine x_ic hg dX0_goByDraws_43 ic_3 rfl ?_
    refine x_irem hg dX0_goByDraws_44 ne_3 rfl ?_
    refine x_ic hg dX0_goByDraws_45 ic_1 rfl ?_
    refine x_iadd hg dX0_goByDraws_46 rfl ?_
    refine x_callVV hg (xBag_walk (gL g)  hw) kC_1 (by decide) rfl im_X0_walk se_X0_walk mi_X0_walk ml_X0_151 rfl rfl (As := [.int ((r1 - r1 / 3 * 3) + 1)]) rfl rfl rfl dX0_goByDraws_47 rfl (fun s2 hw => ?_)
    exact x_vret hg dX0_goByDraws_50 hw
  · refine x_aload_0 hg dX0_goByDraws_7 rfl ?_
    refine x_callVI hg (xBag_draw (gL g)  hw) kC_1 (by decide) rfl im_X0_draw se_X0_draw mi_X0_draw ml_X0_139 rfl rfl (As := []) rfl rfl rfl dX0_goByDraws_8 rfl (fun r1 s1 hw => ?_)
    refine x_aload_0 hg dX0_goByDraws_11 rfl ?_
    refine get_X0_1 hg kC_1 fl_X0_51 dX0_goByDraws_12 rfl ?_
    obtain ⟨hne, hw⟩ := hw
    refine x_irem hg dX0_goByDraws_15 hne rfl ?_
    refine x_istore_1 hg dX0_goByDraws_16 rfl rfl rfl ?_
    refine x_aload_0 hg dX0_goByDraws_17 rfl ?_
    refine x_iload_1 hg dX0_goByDraws_18 rfl ?_
    refine x_callVI hg (xBag_whereIs (gL g)  hw) kC_1 (by decide) rfl im_X0_whereIs se_X0_whereIs mi_X0_whereIs ml_X0_142 rfl rfl (As := [.int (r1 - r1 / (s1 1 1) * (s1 1 1))]) rfl rfl rfl dX0_goByDraws_19 rfl (fun r2 s2 hw => ?_)
    refine x_bi hg dX0_goByDraws_22 bp_m2 rfl ?_
    refine x_icmp_eq hg dX0_goByDraws_24 (tg := 38) (by decide) rfl hw (fun hw => ?_) (fun hw => ?_)
    · refine x_aload_0 hg dX0_goByDraws_38 rfl ?_
      refine x_aload_0 hg dX0_goByDraws_39 rfl ?_
      refine x_callVI hg (xBag_draw (gL g)  hw) kC_1 (by decide) rfl im_X0_draw se_X0_draw mi_X0_draw ml_X0_139 rfl rfl (As := []) rfl rfl rfl dX0_goByDraws_40 rfl (fun r3 s3 hw => ?_)
      refine x_ic hg dX0_goByDraws_43 ic_3 rfl ?_
      refine x_irem hg dX0_goByDraws_44 ne_3 rfl ?_
      refine x_ic hg dX0_goByDraws_45 ic_1 rfl ?_
      refine x_iadd hg dX0_goByDraws_46 rfl ?_
      refine x_callVV hg (xBag_walk (gL g)  hw) kC_1 (by decide) rfl im_X0_walk se_X0_walk mi_X0_walk ml_X0_151 rfl rfl (As := [.int ((r3 - r3 / 3 * 3) + 1)]) rfl rfl rfl dX0_goByDraws_47 rfl (fun s4 hw => ?_)
      exact x_vret hg dX0_goByDraws_50 hw
    · refine x_aload_0 hg dX0_goByDraws_27 rfl ?_
      refine x_iload_1 hg dX0_goByDraws_28 rfl ?_
      refine x_aload_0 hg dX0_goByDraws_29 rfl ?_
      refine x_iload_1 hg dX0_goByDraws_30 rfl ?_
      refine x_callVI hg (xBag_bestWay (gL g)  hw) kC_1 (by decide) rfl im_X0_bestWay se_X0_bestWay mi_X0_bestWay ml_X0_145 rfl rfl (As := [.int (r1 - r1 / (s1 1 1) * (s1 1 1))]) rfl rfl rfl dX0_goByDraws_31 rfl (fun r3 s3 hw => ?_)
      refine x_callVI hg (xBag_take (gL g)  hw) kC_1 (by decide) rfl im_X0_take se_X0_take mi_X0_take ml_X0_148 rfl rfl (As := [.int (r1 - r1 / (s1 1 1) * (s1 1 1)), .int r3]) rfl rfl rfl dX0_goByDraws_34 rfl (fun r4 s4 hw => ?_)
      refine x_pop hg dX0_goByDraws_37 rfl rfl ?_
      refine x_aload_0 hg dX0_goByDraws_38 rfl ?_
      refine x_aload_0 hg dX0_goByDraws_39 rfl ?_
      refine x_callVI hg (xBag_draw (gL g)  hw) kC_1 (by decide) rfl im_X0_draw se_X0_draw mi_X0_draw ml_X0_139 rfl rfl (As := []) rfl rfl rfl dX0_goByDraws_40 rfl (fun r5 s5 hw => ?_)
      refine x_ic hg dX0_goByDraws_43 ic_3 rfl ?_
      refine x_irem hg dX0_goByDraws_44 ne_3 rfl ?_
      refine x_ic hg dX0_goByDraws_45 ic_1 rfl ?_
      refine x_iadd hg dX0_goByDraws_46 rfl ?_
      refine x_callVV hg (xBag_walk (gL g)  hw) kC_1 (by decide) rfl im_X0_walk se_X0_walk mi_X0_walk ml_X0_151 rfl rfl (As := [.int ((r5 - r5 / 3 * 3) + 1)]) rfl rfl rfl dX0_goByDraws_47 rfl (fun s6 hw => ?_)
      exact x_vret hg dX0_goByDraws_50 hw
def wBag_usedOf (a1 : Int32) (s0 : Sg) (P : Int32 → Sg → Prop) : Prop := (vp_in a1 9 ∧ (vp_in a1 9 ∧ (wBag_gives 1 a1 ((s0 ((11 + 1 * ix a1)) 0)) ((s0 ((11 + 1 * ix a1)) 1)) s0 (fun (r1 : Int32) (s1 : Sg) => P r1 s1))))
set_option maxRecDepth 100000 in
set_option maxHeartbeats 4000000 in
theorem xBag_usedOf {w : Wc} (l : Launch) {a1 : Int32} {s0 : Sg} {P : Int32 → Sg → Prop} (hw : wBag_usedOf a1 s0 P) : CI shC w l 4 (.code yX0_usedOf cX0_usedOf 2 (some .int)) yX0_usedOf [.ref (ad w 1), .int a1] s0 P := by
  refine ci_of_i (own := "BagBottom$Bag") (ls0 := [some (.ref (ad w 1)), some (.int a1)]) rfl pn_X0 rfl rfl (fun g el hg => ?_)
  unfold wBag_usedOf at hw
  refine x_aload_0 hg dX0_usedOf_0 rfl ?_
  refine x_ic hg dX0_usedOf_1 ic_1 rfl ?_
  refine x_iload_1 hg dX0_usedOf_2 rfl ?_
  refine x_aload_0 hg dX0_usedOf_3 rfl ?_
  refine get_X0_0 hg kC_1 fl_X0_11 dX0_usedOf_4 rfl (k2 := 2) rfl ?_
  refine x_iload_1 hg dX0_usedOf_7 rfl ?_
  refine x_aald hg (t := 1) kC_2 (by decide) rfl rfl rfl rfl dX0_usedOf_8 rfl hw (fun hin1 hw => ?_)
  refine get_X4_0 hg (kEl_11 hin1) fl_X0_54 dX0_usedOf_9 rfl ?_
  refine x_aload_0 hg dX0_usedOf_12 rfl ?_
  refine get_X0_0 hg kC_1 fl_X0_11 dX0_usedOf_13 rfl (k2 := 2) rfl ?_
  refine x_iload_1 hg dX0_usedOf_16 rfl ?_
  refine x_aald hg (t := 1) kC_2 (by decide) rfl rfl rfl rfl dX0_usedOf_17 rfl hw (fun hin2 hw => ?_)
  refine get_X4_1 hg (kEl_11 hin2) fl_X0_57 dX0_usedOf_18 rfl ?_
  refine x_callVI hg (xBag_gives (gL g)  hw) kC_1 (by decide) rfl im_X0_gives se_X0_gives mi_X0_gives ml_X0_103 rfl rfl (As := [.int 1, .int a1, .int (s0 ((11 + 1 * ix a1)) 0), .int (s0 ((11 + 1 * ix a1)) 1)]) rfl rfl rfl dX0_usedOf_21 rfl (fun r1 s1 hw => ?_)
  exact x_ret hg dX0_usedOf_24 hw
def wBag_takeWeights_2 (k1 : Nat) (K51 : Int32 → Sg → Prop) : Nat → Int32 → Sg → Prop
  | 0, _, _ => False
  | n + 1, a2, s0 => (((s0 k1 1) ≤ a2 → K51 a2 s0) ∧ (¬ (s0 k1 1) ≤ a2 → (((s0 1 1) ≤ a2 → K51 a2 s0) ∧ (¬ (s0 1 1) ≤ a2 → (vp_in a2 (ln shC (k1 + 1)) ∧ (wB_isWeight ((s0 ((k1 + 1)) (ix a2))) s0 (fun (r1 : Int32) (s1 : Sg) => ((r1 = 0 → K51 a2 s1) ∧ (¬ r1 = 0 → (vp_in a2 9 ∧ (vp_in a2 (ln shC (k1 + 1)) ∧ (∀ s2 : Sg, s2 = u2 s1 ((11 + 1 * ix a2)) 2 ((s1 ((k1 + 1)) (ix a2))) → wBag_takeWeights_2 k1 K51 n ((a2 + 1)) s2))))))))))))
def wBag_takeWeights (k1 : Nat) (s0 : Sg) (P : Int32 → Sg → Prop) : Prop := (∃ N1 : Nat, wBag_takeWeights_2 k1 (fun (v1 : Int32) (s1 : Sg) => P v1 s1) N1 0 s0)
set_option maxRecDepth 100000 in
set_option maxHeartbeats 4000000 in
theorem xBag_takeWeights_2 {w : Wc} {g : Gx} {Q : State → Prop} {k1 : Nat} {K51 : Int32 → Sg → Prop} (hg : OK shC w g 2 cX0_takeWeights "BagBottom$Bag" 3 (some .int)) (hk1 : kd shC k1 = 2) (hK51 : ∀ (a2 : Int32) (s0 : Sg), K51 a2 s0 → X shC w g Q 51 [none, none, some (.int a2)] [] s0) : ∀ (n : Nat) (a2 : Int32) (s0 : Sg), wBag_takeWeights_2 k1 K51 n a2 s0 → X shC w g Q 2 [some (.ref (ad w 1)), some (.ref (ad w k1)), some (.int a2)] [] s0 := by
  intro n
  induction n with
  | zero =>
    intro a2 s0 hw
    exact hw.elim
  | succ n ih =>
    intro a2 s0 hw
    rw [wBag_takeWeights_2] at hw
    refine x_iload_2 hg dX0_takeWeights_2 rfl ?_
    refine x_aload_1 hg dX0_takeWeights_3 rfl ?_
    refine get_X1_1 hg hk1 fl_X0_76 dX0_takeWeights_4 rfl ?_
    refine x_icmp_ge hg dX0_takeWeights_7 (tg := 51) (by decide) rfl hw (fun hw => ?_) (fun hw => ?_)
    · refine x_drop_0 ?_
      refine x_drop_1 ?_
      exact hK51 _ _ hw
    · refine x_iload_2 hg dX0_takeWeights_10 rfl ?_
      refine x_aload_0 hg dX0_takeWeights_11 rfl ?_
      refine get_X0_1 hg kC_1 fl_X0_51 dX0_takeWeights_12 rfl ?_
      refine x_icmp_ge hg dX0_takeWeights_15 (tg := 51) (by decide) rfl hw (fun hw => ?_) (fun hw => ?_)
      · refine x_drop_0 ?_
        refine x_drop_1 ?_
        exact hK51 _ _ hw
      · refine x_aload_1 hg dX0_takeWeights_18 rfl ?_
        refine get_X1_0 hg hk1 fl_X0_79 dX0_takeWeights_19 rfl (k2 := (k1 + 1)) rfl ?_
        refine x_iload_2 hg dX0_takeWeights_22 rfl ?_
        refine x_iald hg (kRow hk1) rfl dX0_takeWeights_23 rfl hw (fun hw => ?_)
        refine x_callNI hg (xB_isWeight (gL g)  hw) sm_X7_isWeight mi_X7_isWeight nest_X0 rfl rfl (As := [.int (s0 ((k1 + 1)) (ix a2))]) rfl rfl rfl dX0_takeWeights_24 rfl (fun r1 s1 hw => ?_)
        refine x_if_eq hg dX0_takeWeights_27 (tg := 51) (by decide) rfl hw (fun hw => ?_) (fun hw => ?_)
        · refine x_drop_0 ?_
          refine x_drop_1 ?_
          exact hK51 _ _ hw
        · refine x_aload_0 hg dX0_takeWeights_30 rfl ?_
          refine get_X0_0 hg kC_1 fl_X0_11 dX0_takeWeights_31 rfl (k2 := 2) rfl ?_
          refine x_iload_2 hg dX0_takeWeights_34 rfl ?_
          refine x_aald hg (t := 1) kC_2 (by decide) rfl rfl rfl rfl dX0_takeWeights_35 rfl hw (fun hin1 hw => ?_)
          refine x_aload_1 hg dX0_takeWeights_36 rfl ?_
          refine get_X1_0 hg hk1 fl_X0_79 dX0_takeWeights_37 rfl (k2 := (k1 + 1)) rfl ?_
          refine x_iload_2 hg dX0_takeWeights_40 rfl ?_
          refine x_iald hg (kRow hk1) rfl dX0_takeWeights_41 rfl hw (fun hw => ?_)
          refine put_X4_2 hg (kEl_11 hin1) fl_X0_60 dX0_takeWeights_42 rfl hw (fun s2 hw => ?_)
          refine x_iinc_2 hg dX0_takeWeights_45 ic_1 rfl rfl rfl ?_
          refine x_goto hg dX0_takeWeights_48 (pc' := 2) (by decide) ?_
          exact ih _ _ hw
set_option maxRecDepth 100000 in
set_option maxHeartbeats 4000000 in
theorem xBag_takeWeights {w : Wc} (l : Launch) {k1 : Nat} (hk1 : kd shC k1 = 2) {s0 : Sg} {P : Int32 → Sg → Prop} (hw : wBag_takeWeights k1 s0 P) : CI shC w l 2 (.code yX0_takeWeights cX0_takeWeights 3 (some .int)) yX0_takeWeights [.ref (ad w 1), .ref (ad w k1)] s0 P := by
  refine ci_of_i (own := "BagBottom$Bag") (ls0 := [some (.ref (ad w 1)), some (.ref (ad w k1)), none]) rfl pn_X0 rfl rfl (fun g el hg => ?_)
  unfold wBag_takeWeights at hw
  refine x_ic hg dX0_takeWeights_0 ic_0 rfl ?_
  refine x_istore_2 hg dX0_takeWeights_1 rfl rfl rfl ?_
  obtain ⟨N1, hw⟩ := hw
  refine xBag_takeWeights_2 hg hk1 (fun v1 s1 hw => ?_) _ _ _ hw
  · refine x_iload_2 hg dX0_takeWeights_51 rfl ?_
    exact x_ret hg dX0_takeWeights_52 hw
def wBag_copyB_2 (K29 : Sg → Prop) : Nat → Int32 → Sg → Prop
  | 0, _, _ => False
  | n + 1, a2, s0 => ((9 ≤ a2 → K29  s0) ∧ (¬ 9 ≤ a2 → (vp_in a2 9 ∧ (vp_in a2 9 ∧ (wThing_copy ((11 + 1 * ix a2)) ((42 + 1 * ix a2)) s0 (fun (s1 : Sg) => wBag_copyB_2 K29 n ((a2 + 1)) s1))))))
def wBag_copyB_93 (K119 : Sg → Prop) : Nat → Int32 → Sg → Prop
  | 0, _, _ => False
  | n + 1, a2, s0 => ((2 ≤ a2 → K119  s0) ∧ (¬ 2 ≤ a2 → (vp_in a2 2 ∧ (vp_in a2 2 ∧ (wText_copy ((20 + 6 * ix a2)) ((51 + 6 * ix a2)) s0 (fun (s1 : Sg) => wBag_copyB_93 K119 n ((a2 + 1)) s1))))))
def wBag_copyB (s0 : Sg) (P : Sg → Prop) : Prop := (∃ N1 : Nat, wBag_copyB_2 (fun  (s1 : Sg) => (∀ s2 : Sg, s2 = u2 s1 1 1 ((s1 32 1)) → (wRow_copy 3 34 s2 (fun (s3 : Sg) => (∀ s4 : Sg, s4 = u2 s3 1 3 ((s3 32 3)) → (∀ s5 : Sg, s5 = u2 s4 1 4 ((s4 32 4)) → (∀ s6 : Sg, s6 = u2 s5 1 5 ((s5 32 5)) → (∀ s7 : Sg, s7 = u2 s6 1 6 ((s6 32 6)) → (wRow_copy 5 36 s7 (fun (s8 : Sg) => (∃ N2 : Nat, wBag_copyB_93 (fun  (s9 : Sg) => (wRow_copy 8 39 s9 (fun (s10 : Sg) => P s10))) N2 0 s8))))))))))) N1 0 s0)
set_option maxRecDepth 100000 in
set_option maxHeartbeats 4000000 in
theorem xBag_copyB_2 {w : Wc} {g : Gx} {Q : State → Prop} {K29 : Sg → Prop} (hg : OK shC w g 3 cX0_copy "BagBottom$Bag" 3 none) (hK29 : ∀ (s0 : Sg), K29  s0 → X shC w g Q 29 [some (.ref (ad w 1)), some (.ref (ad w 32)), none] [] s0) : ∀ (n : Nat) (a2 : Int32) (s0 : Sg), wBag_copyB_2 K29 n a2 s0 → X shC w g Q 2 [some (.ref (ad w 1)), some (.ref (ad w 32)), some (.int a2)] [] s0 := by
  intro n
  induction n with
  | zero =>
    intro a2 s0 hw
    exact hw.elim
  | succ n ih =>
    intro a2 s0 hw
    rw [wBag_copyB_2] at hw
    refine x_iload_2 hg dX0_copy_2 rfl ?_
    refine x_bi hg dX0_copy_3 bp_9 rfl ?_
    refine x_icmp_ge hg dX0_copy_5 (tg := 29) (by decide) rfl hw (fun hw => ?_) (fun hw => ?_)
    · refine x_drop_2 ?_
      exact hK29  _ hw
    · refine x_aload_0 hg dX0_copy_8 rfl ?_
      refine get_X0_0 hg kC_1 fl_X0_11 dX0_copy_9 rfl (k2 := 2) rfl ?_
      refine x_iload_2 hg dX0_copy_12 rfl ?_
      refine x_aald hg (t := 1) kC_2 (by decide) rfl rfl rfl rfl dX0_copy_13 rfl hw (fun hin1 hw => ?_)
      refine x_aload_1 hg dX0_copy_14 rfl ?_
      refine get_X0_0 hg kC_32 fl_X0_11 dX0_copy_15 rfl (k2 := 33) rfl ?_
      refine x_iload_2 hg dX0_copy_18 rfl ?_
      refine x_aald hg (t := 1) kC_33 (by decide) rfl rfl rfl rfl dX0_copy_19 rfl hw (fun hin2 hw => ?_)
      refine x_callVV hg (xThing_copy (gL g) (kEl_11 hin1) (kEl_42 hin2) hw) (kEl_11 hin1) (by decide) rfl im_X4_copy se_X4_copy mi_X4_copy ml_X0_154 rfl rfl (As := [.ref (ad w (42 + 1 * ix a2))]) rfl rfl rfl dX0_copy_20 rfl (fun s1 hw => ?_)
      refine x_iinc_2 hg dX0_copy_23 ic_1 rfl rfl rfl ?_
      refine x_goto hg dX0_copy_26 (pc' := 2) (by decide) ?_
      exact ih _ _ hw
set_option maxRecDepth 100000 in
set_option maxHeartbeats 4000000 in
theorem xBag_copyB_93 {w : Wc} {g : Gx} {Q : State → Prop} {K119 : Sg → Prop} (hg : OK shC w g 3 cX0_copy "BagBottom$Bag" 3 none) (hK119 : ∀ (s0 : Sg), K119  s0 → X shC w g Q 119 [some (.ref (ad w 1)), some (.ref (ad w 32)), none] [] s0) : ∀ (n : Nat) (a2 : Int32) (s0 : Sg), wBag_copyB_93 K119 n a2 s0 → X shC w g Q 93 [some (.ref (ad w 1)), some (.ref (ad w 32)), some (.int a2)] [] s0 := by
  intro n
  induction n with
  | zero =>
    intro a2 s0 hw
    exact hw.elim
  | succ n ih =>
    intro a2 s0 hw
    rw [wBag_copyB_93] at hw
    refine x_iload_2 hg dX0_copy_93 rfl ?_
    refine x_ic hg dX0_copy_94 ic_2 rfl ?_
    refine x_icmp_ge hg dX0_copy_95 (tg := 119) (by decide) rfl hw (fun hw => ?_) (fun hw => ?_)
    · refine x_drop_2 ?_
      exact hK119  _ hw
    · refine x_aload_0 hg dX0_copy_98 rfl ?_
      refine get_X0_8 hg kC_1 fl_X0_38 dX0_copy_99 rfl (k2 := 7) rfl ?_
      refine x_iload_2 hg dX0_copy_102 rfl ?_
      refine x_aald hg (t := 2) kC_7 (by decide) rfl rfl rfl rfl dX0_copy_103 rfl hw (fun hin1 hw => ?_)
      refine x_aload_1 hg dX0_copy_104 rfl ?_
      refine get_X0_8 hg kC_32 fl_X0_38 dX0_copy_105 rfl (k2 := 38) rfl ?_
      refine x_iload_2 hg dX0_copy_108 rfl ?_
      refine x_aald hg (t := 2) kC_38 (by decide) rfl rfl rfl rfl dX0_copy_109 rfl hw (fun hin2 hw => ?_)
      refine x_callVV hg (xText_copy (gL g) (kEl_20 hin1) (kEl_51 hin2) hw) (kEl_20 hin1) (by decide) rfl im_X3_copy se_X3_copy mi_X3_copy ml_X0_161 rfl rfl (As := [.ref (ad w (51 + 6 * ix a2))]) rfl rfl rfl dX0_copy_110 rfl (fun s1 hw => ?_)
      refine x_iinc_2 hg dX0_copy_113 ic_1 rfl rfl rfl ?_
      refine x_goto hg dX0_copy_116 (pc' := 93) (by decide) ?_
      exact ih _ _ hw
set_option maxRecDepth 100000 in
set_option maxHeartbeats 4000000 in
theorem xBag_copyB {w : Wc} (l : Launch) {s0 : Sg} {P : Sg → Prop} (hw : wBag_copyB  s0 P) : CV shC w l 3 (.code yX0_copy cX0_copy 3 none) yX0_copy [.ref (ad w 1), .ref (ad w 32)] s0 P := by
  refine ci_of_v (own := "BagBottom$Bag") (ls0 := [some (.ref (ad w 1)), some (.ref (ad w 32)), none]) rfl pn_X0 rfl rfl (fun g el hg => ?_)
  unfold wBag_copyB at hw
  refine x_ic hg dX0_copy_0 ic_0 rfl ?_
  refine x_istore_2 hg dX0_copy_1 rfl rfl rfl ?_
  obtain ⟨N1, hw⟩ := hw
  refine xBag_copyB_2 hg  (fun  s1 hw => ?_) _ _ _ hw
  · refine x_aload_0 hg dX0_copy_29 rfl ?_
    refine x_aload_1 hg dX0_copy_30 rfl ?_
    refine get_X0_1 hg kC_32 fl_X0_51 dX0_copy_31 rfl ?_
    refine put_X0_1 hg kC_1 fl_X0_51 dX0_copy_34 rfl hw (fun s2 hw => ?_)
    refine x_aload_0 hg dX0_copy_37 rfl ?_
    refine get_X0_2 hg kC_1 fl_X0_22 dX0_copy_38 rfl (k2 := 3) rfl ?_
    refine x_aload_1 hg dX0_copy_41 rfl ?_
    refine get_X0_2 hg kC_32 fl_X0_22 dX0_copy_42 rfl (k2 := 34) rfl ?_
    refine x_callVV hg (xRow_copy (gL g) kC_3 kC_34 hw) kC_3 (by decide) rfl im_X1_copy se_X1_copy mi_X1_copy ml_X0_158 rfl rfl (As := [.ref (ad w 34)]) rfl rfl rfl dX0_copy_45 rfl (fun s3 hw => ?_)
    refine x_aload_0 hg dX0_copy_48 rfl ?_
    refine x_aload_1 hg dX0_copy_49 rfl ?_
    refine get_X0_3 hg kC_32 fl_X0_26 dX0_copy_50 rfl ?_
    refine put_X0_3 hg kC_1 fl_X0_26 dX0_copy_53 rfl hw (fun s4 hw => ?_)
    refine x_aload_0 hg dX0_copy_56 rfl ?_
    refine x_aload_1 hg dX0_copy_57 rfl ?_
    refine get_X0_4 hg kC_32 fl_X0_131 dX0_copy_58 rfl ?_
    refine put_X0_4 hg kC_1 fl_X0_131 dX0_copy_61 rfl hw (fun s5 hw => ?_)
    refine x_aload_0 hg dX0_copy_64 rfl ?_
    refine x_aload_1 hg dX0_copy_65 rfl ?_
    refine get_X0_5 hg kC_32 fl_X0_115 dX0_copy_66 rfl ?_
    refine put_X0_5 hg kC_1 fl_X0_115 dX0_copy_69 rfl hw (fun s6 hw => ?_)
    refine x_aload_0 hg dX0_copy_72 rfl ?_
    refine x_aload_1 hg dX0_copy_73 rfl ?_
    refine get_X0_6 hg kC_32 fl_X0_30 dX0_copy_74 rfl ?_
    refine put_X0_6 hg kC_1 fl_X0_30 dX0_copy_77 rfl hw (fun s7 hw => ?_)
    refine x_aload_0 hg dX0_copy_80 rfl ?_
    refine get_X0_7 hg kC_1 fl_X0_33 dX0_copy_81 rfl (k2 := 5) rfl ?_
    refine x_aload_1 hg dX0_copy_84 rfl ?_
    refine get_X0_7 hg kC_32 fl_X0_33 dX0_copy_85 rfl (k2 := 36) rfl ?_
    refine x_callVV hg (xRow_copy (gL g) kC_5 kC_36 hw) kC_5 (by decide) rfl im_X1_copy se_X1_copy mi_X1_copy ml_X0_158 rfl rfl (As := [.ref (ad w 36)]) rfl rfl rfl dX0_copy_88 rfl (fun s8 hw => ?_)
    refine x_ic hg dX0_copy_91 ic_0 rfl ?_
    refine x_istore_2 hg dX0_copy_92 rfl rfl rfl ?_
    obtain ⟨N2, hw⟩ := hw
    refine xBag_copyB_93 hg  (fun  s9 hw => ?_) _ _ _ hw
    · refine x_aload_0 hg dX0_copy_119 rfl ?_
      refine get_X0_9 hg kC_1 fl_X0_42 dX0_copy_120 rfl (k2 := 8) rfl ?_
      refine x_aload_1 hg dX0_copy_123 rfl ?_
      refine get_X0_9 hg kC_32 fl_X0_42 dX0_copy_124 rfl (k2 := 39) rfl ?_
      refine x_callVV hg (xRow_copy (gL g) kC_8 kC_39 hw) kC_8 (by decide) rfl im_X1_copy se_X1_copy mi_X1_copy ml_X0_158 rfl rfl (As := [.ref (ad w 39)]) rfl rfl rfl dX0_copy_127 rfl (fun s10 hw => ?_)
      exact x_vret hg dX0_copy_130 hw
def wBag_copyK_2 (K29 : Sg → Prop) : Nat → Int32 → Sg → Prop
  | 0, _, _ => False
  | n + 1, a2, s0 => ((9 ≤ a2 → K29  s0) ∧ (¬ 9 ≤ a2 → (vp_in a2 9 ∧ (vp_in a2 9 ∧ (wThing_copy ((42 + 1 * ix a2)) ((11 + 1 * ix a2)) s0 (fun (s1 : Sg) => wBag_copyK_2 K29 n ((a2 + 1)) s1))))))
def wBag_copyK_93 (K119 : Sg → Prop) : Nat → Int32 → Sg → Prop
  | 0, _, _ => False
  | n + 1, a2, s0 => ((2 ≤ a2 → K119  s0) ∧ (¬ 2 ≤ a2 → (vp_in a2 2 ∧ (vp_in a2 2 ∧ (wText_copy ((51 + 6 * ix a2)) ((20 + 6 * ix a2)) s0 (fun (s1 : Sg) => wBag_copyK_93 K119 n ((a2 + 1)) s1))))))
def wBag_copyK (s0 : Sg) (P : Sg → Prop) : Prop := (∃ N1 : Nat, wBag_copyK_2 (fun  (s1 : Sg) => (∀ s2 : Sg, s2 = u2 s1 32 1 ((s1 1 1)) → (wRow_copy 34 3 s2 (fun (s3 : Sg) => (∀ s4 : Sg, s4 = u2 s3 32 3 ((s3 1 3)) → (∀ s5 : Sg, s5 = u2 s4 32 4 ((s4 1 4)) → (∀ s6 : Sg, s6 = u2 s5 32 5 ((s5 1 5)) → (∀ s7 : Sg, s7 = u2 s6 32 6 ((s6 1 6)) → (wRow_copy 36 5 s7 (fun (s8 : Sg) => (∃ N2 : Nat, wBag_copyK_93 (fun  (s9 : Sg) => (wRow_copy 39 8 s9 (fun (s10 : Sg) => P s10))) N2 0 s8))))))))))) N1 0 s0)
set_option maxRecDepth 100000 in
set_option maxHeartbeats 4000000 in
theorem xBag_copyK_2 {w : Wc} {g : Gx} {Q : State → Prop} {K29 : Sg → Prop} (hg : OK shC w g 3 cX0_copy "BagBottom$Bag" 3 none) (hK29 : ∀ (s0 : Sg), K29  s0 → X shC w g Q 29 [some (.ref (ad w 32)), some (.ref (ad w 1)), none] [] s0) : ∀ (n : Nat) (a2 : Int32) (s0 : Sg), wBag_copyK_2 K29 n a2 s0 → X shC w g Q 2 [some (.ref (ad w 32)), some (.ref (ad w 1)), some (.int a2)] [] s0 := by
  intro n
  induction n with
  | zero =>
    intro a2 s0 hw
    exact hw.elim
  | succ n ih =>
    intro a2 s0 hw
    rw [wBag_copyK_2] at hw
    refine x_iload_2 hg dX0_copy_2 rfl ?_
    refine x_bi hg dX0_copy_3 bp_9 rfl ?_
    refine x_icmp_ge hg dX0_copy_5 (tg := 29) (by decide) rfl hw (fun hw => ?_) (fun hw => ?_)
    · refine x_drop_2 ?_
      exact hK29  _ hw
    · refine x_aload_0 hg dX0_copy_8 rfl ?_
      refine get_X0_0 hg kC_32 fl_X0_11 dX0_copy_9 rfl (k2 := 33) rfl ?_
      refine x_iload_2 hg dX0_copy_12 rfl ?_
      refine x_aald hg (t := 1) kC_33 (by decide) rfl rfl rfl rfl dX0_copy_13 rfl hw (fun hin1 hw => ?_)
      refine x_aload_1 hg dX0_copy_14 rfl ?_
      refine get_X0_0 hg kC_1 fl_X0_11 dX0_copy_15 rfl (k2 := 2) rfl ?_
      refine x_iload_2 hg dX0_copy_18 rfl ?_
      refine x_aald hg (t := 1) kC_2 (by decide) rfl rfl rfl rfl dX0_copy_19 rfl hw (fun hin2 hw => ?_)
      refine x_callVV hg (xThing_copy (gL g) (kEl_42 hin1) (kEl_11 hin2) hw) (kEl_42 hin1) (by decide) rfl im_X4_copy se_X4_copy mi_X4_copy ml_X0_154 rfl rfl (As := [.ref (ad w (11 + 1 * ix a2))]) rfl rfl rfl dX0_copy_20 rfl (fun s1 hw => ?_)
      refine x_iinc_2 hg dX0_copy_23 ic_1 rfl rfl rfl ?_
      refine x_goto hg dX0_copy_26 (pc' := 2) (by decide) ?_
      exact ih _ _ hw
set_option maxRecDepth 100000 in
set_option maxHeartbeats 4000000 in
theorem xBag_copyK_93 {w : Wc} {g : Gx} {Q : State → Prop} {K119 : Sg → Prop} (hg : OK shC w g 3 cX0_copy "BagBottom$Bag" 3 none) (hK119 : ∀ (s0 : Sg), K119  s0 → X shC w g Q 119 [some (.ref (ad w 32)), some (.ref (ad w 1)), none] [] s0) : ∀ (n : Nat) (a2 : Int32) (s0 : Sg), wBag_copyK_93 K119 n a2 s0 → X shC w g Q 93 [some (.ref (ad w 32)), some (.ref (ad w 1)), some (.int a2)] [] s0 := by
  intro n
  induction n with
  | zero =>
    intro a2 s0 hw
    exact hw.elim
  | succ n ih =>
    intro a2 s0 hw
    rw [wBag_copyK_93] at hw
    refine x_iload_2 hg dX0_copy_93 rfl ?_
    refine x_ic hg dX0_copy_94 ic_2 rfl ?_
    refine x_icmp_ge hg dX0_copy_95 (tg := 119) (by decide) rfl hw (fun hw => ?_) (fun hw => ?_)
    · refine x_drop_2 ?_
      exact hK119  _ hw
    · refine x_aload_0 hg dX0_copy_98 rfl ?_
      refine get_X0_8 hg kC_32 fl_X0_38 dX0_copy_99 rfl (k2 := 38) rfl ?_
      refine x_iload_2 hg dX0_copy_102 rfl ?_
      refine x_aald hg (t := 2) kC_38 (by decide) rfl rfl rfl rfl dX0_copy_103 rfl hw (fun hin1 hw => ?_)
      refine x_aload_1 hg dX0_copy_104 rfl ?_
      refine get_X0_8 hg kC_1 fl_X0_38 dX0_copy_105 rfl (k2 := 7) rfl ?_
      refine x_iload_2 hg dX0_copy_108 rfl ?_
      refine x_aald hg (t := 2) kC_7 (by decide) rfl rfl rfl rfl dX0_copy_109 rfl hw (fun hin2 hw => ?_)
      refine x_callVV hg (xText_copy (gL g) (kEl_51 hin1) (kEl_20 hin2) hw) (kEl_51 hin1) (by decide) rfl im_X3_copy se_X3_copy mi_X3_copy ml_X0_161 rfl rfl (As := [.ref (ad w (20 + 6 * ix a2))]) rfl rfl rfl dX0_copy_110 rfl (fun s1 hw => ?_)
      refine x_iinc_2 hg dX0_copy_113 ic_1 rfl rfl rfl ?_
      refine x_goto hg dX0_copy_116 (pc' := 93) (by decide) ?_
      exact ih _ _ hw
set_option maxRecDepth 100000 in
set_option maxHeartbeats 4000000 in
theorem xBag_copyK {w : Wc} (l : Launch) {s0 : Sg} {P : Sg → Prop} (hw : wBag_copyK  s0 P) : CV shC w l 3 (.code yX0_copy cX0_copy 3 none) yX0_copy [.ref (ad w 32), .ref (ad w 1)] s0 P := by
  refine ci_of_v (own := "BagBottom$Bag") (ls0 := [some (.ref (ad w 32)), some (.ref (ad w 1)), none]) rfl pn_X0 rfl rfl (fun g el hg => ?_)
  unfold wBag_copyK at hw
  refine x_ic hg dX0_copy_0 ic_0 rfl ?_
  refine x_istore_2 hg dX0_copy_1 rfl rfl rfl ?_
  obtain ⟨N1, hw⟩ := hw
  refine xBag_copyK_2 hg  (fun  s1 hw => ?_) _ _ _ hw
  · refine x_aload_0 hg dX0_copy_29 rfl ?_
    refine x_aload_1 hg dX0_copy_30 rfl ?_
    refine get_X0_1 hg kC_1 fl_X0_51 dX0_copy_31 rfl ?_
    refine put_X0_1 hg kC_32 fl_X0_51 dX0_copy_34 rfl hw (fun s2 hw => ?_)
    refine x_aload_0 hg dX0_copy_37 rfl ?_
    refine get_X0_2 hg kC_32 fl_X0_22 dX0_copy_38 rfl (k2 := 34) rfl ?_
    refine x_aload_1 hg dX0_copy_41 rfl ?_
    refine get_X0_2 hg kC_1 fl_X0_22 dX0_copy_42 rfl (k2 := 3) rfl ?_
    refine x_callVV hg (xRow_copy (gL g) kC_34 kC_3 hw) kC_34 (by decide) rfl im_X1_copy se_X1_copy mi_X1_copy ml_X0_158 rfl rfl (As := [.ref (ad w 3)]) rfl rfl rfl dX0_copy_45 rfl (fun s3 hw => ?_)
    refine x_aload_0 hg dX0_copy_48 rfl ?_
    refine x_aload_1 hg dX0_copy_49 rfl ?_
    refine get_X0_3 hg kC_1 fl_X0_26 dX0_copy_50 rfl ?_
    refine put_X0_3 hg kC_32 fl_X0_26 dX0_copy_53 rfl hw (fun s4 hw => ?_)
    refine x_aload_0 hg dX0_copy_56 rfl ?_
    refine x_aload_1 hg dX0_copy_57 rfl ?_
    refine get_X0_4 hg kC_1 fl_X0_131 dX0_copy_58 rfl ?_
    refine put_X0_4 hg kC_32 fl_X0_131 dX0_copy_61 rfl hw (fun s5 hw => ?_)
    refine x_aload_0 hg dX0_copy_64 rfl ?_
    refine x_aload_1 hg dX0_copy_65 rfl ?_
    refine get_X0_5 hg kC_1 fl_X0_115 dX0_copy_66 rfl ?_
    refine put_X0_5 hg kC_32 fl_X0_115 dX0_copy_69 rfl hw (fun s6 hw => ?_)
    refine x_aload_0 hg dX0_copy_72 rfl ?_
    refine x_aload_1 hg dX0_copy_73 rfl ?_
    refine get_X0_6 hg kC_1 fl_X0_30 dX0_copy_74 rfl ?_
    refine put_X0_6 hg kC_32 fl_X0_30 dX0_copy_77 rfl hw (fun s7 hw => ?_)
    refine x_aload_0 hg dX0_copy_80 rfl ?_
    refine get_X0_7 hg kC_32 fl_X0_33 dX0_copy_81 rfl (k2 := 36) rfl ?_
    refine x_aload_1 hg dX0_copy_84 rfl ?_
    refine get_X0_7 hg kC_1 fl_X0_33 dX0_copy_85 rfl (k2 := 5) rfl ?_
    refine x_callVV hg (xRow_copy (gL g) kC_36 kC_5 hw) kC_36 (by decide) rfl im_X1_copy se_X1_copy mi_X1_copy ml_X0_158 rfl rfl (As := [.ref (ad w 5)]) rfl rfl rfl dX0_copy_88 rfl (fun s8 hw => ?_)
    refine x_ic hg dX0_copy_91 ic_0 rfl ?_
    refine x_istore_2 hg dX0_copy_92 rfl rfl rfl ?_
    obtain ⟨N2, hw⟩ := hw
    refine xBag_copyK_93 hg  (fun  s9 hw => ?_) _ _ _ hw
    · refine x_aload_0 hg dX0_copy_119 rfl ?_
      refine get_X0_9 hg kC_32 fl_X0_42 dX0_copy_120 rfl (k2 := 39) rfl ?_
      refine x_aload_1 hg dX0_copy_123 rfl ?_
      refine get_X0_9 hg kC_1 fl_X0_42 dX0_copy_124 rfl (k2 := 8) rfl ?_
      refine x_callVV hg (xRow_copy (gL g) kC_39 kC_8 hw) kC_39 (by decide) rfl im_X1_copy se_X1_copy mi_X1_copy ml_X0_158 rfl rfl (As := [.ref (ad w 8)]) rfl rfl rfl dX0_copy_127 rfl (fun s10 hw => ?_)
      exact x_vret hg dX0_copy_130 hw
