def wThought_whereThen_18 (f2 : Int32) (f3 : Int32) (K46 : Sg → Prop) : Nat → Int32 → Sg → Prop
  | 0, _, _ => False
  | n + 1, a4, s0 => ((f3 ≤ a4 → K46  s0) ∧ (¬ f3 ≤ a4 → (wBag_shake 72 (((s0 1 4) + a4)) s0 (fun (r1 : Int32) (s1 : Sg) => wThought_whereThen_18 f2 f3 K46 n ((a4 + 1)) s1))))
def wThought_whereThen (a2 : Int32) (a3 : Int32) (s0 : Sg) (P : Int32 → Sg → Prop) : Prop := (wBag_learnSinks  s0 (fun (s1 : Sg) => (wRow_copy 72 3 s1 (fun (s2 : Sg) => (∃ N1 : Nat, wThought_whereThen_18 a2 a3 (fun  (s3 : Sg) => (wRow_placeOf 72 a2 s3 (fun (r1 : Int32) (s4 : Sg) => ((r1 < 0 → (wBag_whereIs a2 s4 (fun (r2 : Int32) (s5 : Sg) => P r2 s5))) ∧ (¬ r1 < 0 → P r1 s4))))) N1 0 s2)))))
set_option maxRecDepth 100000 in
set_option maxHeartbeats 4000000 in
theorem xThought_whereThen_18 {w : Wc} {g : Gx} {Q : State → Prop} {f2 : Int32} {f3 : Int32} {K46 : Sg → Prop} (hg : OK shC w g 4 cX5_whereThen "BagBottom$Thought" 5 (some .int)) (hK46 : ∀ (s0 : Sg), K46  s0 → X shC w g Q 46 [some (.ref (ad w 67)), some (.ref (ad w 1)), some (.int f2), none, none] [] s0) : ∀ (n : Nat) (a4 : Int32) (s0 : Sg), wThought_whereThen_18 f2 f3 K46 n a4 s0 → X shC w g Q 18 [some (.ref (ad w 67)), some (.ref (ad w 1)), some (.int f2), some (.int f3), some (.int a4)] [] s0 := by
  intro n
  induction n with
  | zero =>
    intro a4 s0 hw
    exact hw.elim
  | succ n ih =>
    intro a4 s0 hw
    rw [wThought_whereThen_18] at hw
    refine x_iload_4 hg dX5_whereThen_18 rfl ?_
    refine x_iload_3 hg dX5_whereThen_20 rfl ?_
    refine x_icmp_ge hg dX5_whereThen_21 (tg := 46) (by decide) rfl hw (fun hw => ?_) (fun hw => ?_)
    · refine x_drop_3 ?_
      refine x_drop_4 ?_
      exact hK46  _ hw
    · refine x_aload_1 hg dX5_whereThen_24 rfl ?_
      refine x_aload_0 hg dX5_whereThen_25 rfl ?_
      refine get_X5_2 hg kC_67 fl_X5_23 dX5_whereThen_26 rfl (k2 := 72) rfl ?_
      refine x_aload_1 hg dX5_whereThen_29 rfl ?_
      refine get_X0_4 hg kC_1 fl_X5_45 dX5_whereThen_30 rfl ?_
      refine x_iload_4 hg dX5_whereThen_33 rfl ?_
      refine x_iadd hg dX5_whereThen_35 rfl ?_
      refine x_callVI hg (xBag_shake (gL g) kC_72 hw) kC_1 (by decide) rfl im_X0_shake se_X0_shake mi_X0_shake ml_X5_49 rfl rfl (As := [.ref (ad w 72), .int ((s0 1 4) + a4)]) rfl rfl rfl dX5_whereThen_36 rfl (fun r1 s1 hw => ?_)
      refine x_pop hg dX5_whereThen_39 rfl rfl ?_
      refine x_iinc_4 hg dX5_whereThen_40 ic_1 rfl rfl rfl ?_
      refine x_goto hg dX5_whereThen_43 (pc' := 18) (by decide) ?_
      exact ih _ _ hw
set_option maxRecDepth 100000 in
set_option maxHeartbeats 4000000 in
theorem xThought_whereThen {w : Wc} (l : Launch) {a2 : Int32} {a3 : Int32} {s0 : Sg} {P : Int32 → Sg → Prop} (hw : wThought_whereThen a2 a3 s0 P) : CI shC w l 4 (.code yX5_whereThen cX5_whereThen 5 (some .int)) yX5_whereThen [.ref (ad w 67), .ref (ad w 1), .int a2, .int a3] s0 P := by
  refine ci_of_i (own := "BagBottom$Thought") (ls0 := [some (.ref (ad w 67)), some (.ref (ad w 1)), some (.int a2), some (.int a3), none]) rfl pn_X5 rfl rfl (fun g el hg => ?_)
  unfold wThought_whereThen at hw
  refine x_aload_1 hg dX5_whereThen_0 rfl ?_
  refine x_callVV hg (xBag_learnSinks (gL g)  hw) kC_1 (by decide) rfl im_X0_learnSinks se_X0_learnSinks mi_X0_learnSinks ml_X5_33 rfl rfl (As := []) rfl rfl rfl dX5_whereThen_1 rfl (fun s1 hw => ?_)
  refine x_aload_0 hg dX5_whereThen_4 rfl ?_
  refine get_X5_2 hg kC_67 fl_X5_23 dX5_whereThen_5 rfl (k2 := 72) rfl ?_
  refine x_aload_1 hg dX5_whereThen_8 rfl ?_
  refine get_X0_2 hg kC_1 fl_X5_38 dX5_whereThen_9 rfl (k2 := 3) rfl ?_
  refine x_callVV hg (xRow_copy (gL g) kC_72 kC_3 hw) kC_72 (by decide) rfl im_X1_copy se_X1_copy mi_X1_copy ml_X5_41 rfl rfl (As := [.ref (ad w 3)]) rfl rfl rfl dX5_whereThen_12 rfl (fun s2 hw => ?_)
  refine x_ic hg dX5_whereThen_15 ic_0 rfl ?_
  refine x_istore_4 hg dX5_whereThen_16 rfl rfl rfl ?_
  obtain ⟨N1, hw⟩ := hw
  refine xThought_whereThen_18 hg  (fun  s3 hw => ?_) _ _ _ hw
  · refine x_aload_0 hg dX5_whereThen_46 rfl ?_
    refine get_X5_2 hg kC_67 fl_X5_23 dX5_whereThen_47 rfl (k2 := 72) rfl ?_
    refine x_iload_2 hg dX5_whereThen_50 rfl ?_
    refine x_callVI hg (xRow_placeOf (gL g) kC_72 hw) kC_72 (by decide) rfl im_X1_placeOf se_X1_placeOf mi_X1_placeOf ml_X5_53 rfl rfl (As := [.int a2]) rfl rfl rfl dX5_whereThen_51 rfl (fun r1 s4 hw => ?_)
    refine x_istore_4 hg dX5_whereThen_54 rfl rfl rfl ?_
    refine x_iload_4 hg dX5_whereThen_56 rfl ?_
    refine x_if_lt hg dX5_whereThen_58 (tg := 66) (by decide) rfl hw (fun hw => ?_) (fun hw => ?_)
    · refine x_aload_1 hg dX5_whereThen_66 rfl ?_
      refine x_iload_2 hg dX5_whereThen_67 rfl ?_
      refine x_callVI hg (xBag_whereIs (gL g)  hw) kC_1 (by decide) rfl im_X0_whereIs se_X0_whereIs mi_X0_whereIs ml_X5_57 rfl rfl (As := [.int a2]) rfl rfl rfl dX5_whereThen_68 rfl (fun r2 s5 hw => ?_)
      exact x_ret hg dX5_whereThen_71 hw
    · refine x_iload_4 hg dX5_whereThen_61 rfl ?_
      refine x_goto hg dX5_whereThen_63 (pc' := 71) (by decide) ?_
      exact x_ret hg dX5_whereThen_71 hw
def wThought_stepsToSettle_17 (P : Int32 → Sg → Prop) (K48 : Sg → Prop) : Nat → Int32 → Sg → Prop
  | 0, _, _ => False
  | n + 1, a2, s0 => ((99 < a2 → K48  s0) ∧ (¬ 99 < a2 → (wBag_shake 72 (((s0 1 4) + a2)) s0 (fun (r1 : Int32) (s1 : Sg) => ((¬ r1 = 0 → wThought_stepsToSettle_17 P K48 n ((a2 + 1)) s1) ∧ (r1 = 0 → P a2 s1))))))
def wThought_stepsToSettle (s0 : Sg) (P : Int32 → Sg → Prop) : Prop := (wBag_learnSinks  s0 (fun (s1 : Sg) => (wRow_copy 72 3 s1 (fun (s2 : Sg) => (∃ N1 : Nat, wThought_stepsToSettle_17 P (fun  (s3 : Sg) => P ((-1)) s3) N1 0 s2)))))
set_option maxRecDepth 100000 in
set_option maxHeartbeats 4000000 in
theorem xThought_stepsToSettle_17 {w : Wc} {g : Gx} {Q : State → Prop} {P : Int32 → Sg → Prop} {K48 : Sg → Prop} (hg : OK shC w g 4 cX5_stepsToSettle "BagBottom$Thought" 3 (some .int)) (hQ : Q = QI shC w g P) (hK48 : ∀ (s0 : Sg), K48  s0 → X shC w g Q 48 [none, none, none] [] s0) : ∀ (n : Nat) (a2 : Int32) (s0 : Sg), wThought_stepsToSettle_17 P K48 n a2 s0 → X shC w g Q 17 [some (.ref (ad w 67)), some (.ref (ad w 1)), some (.int a2)] [] s0 := by
  subst hQ
  intro n
  induction n with
  | zero =>
    intro a2 s0 hw
    exact hw.elim
  | succ n ih =>
    intro a2 s0 hw
    rw [wThought_stepsToSettle_17] at hw
    refine x_iload_2 hg dX5_stepsToSettle_17 rfl ?_
    refine x_bi hg dX5_stepsToSettle_18 bp_99 rfl ?_
    refine x_icmp_gt hg dX5_stepsToSettle_20 (tg := 48) (by decide) rfl hw (fun hw => ?_) (fun hw => ?_)
    · refine x_drop_0 ?_
      refine x_drop_1 ?_
      refine x_drop_2 ?_
      exact hK48  _ hw
    · refine x_aload_1 hg dX5_stepsToSettle_23 rfl ?_
      refine x_aload_0 hg dX5_stepsToSettle_24 rfl ?_
      refine get_X5_2 hg kC_67 fl_X5_23 dX5_stepsToSettle_25 rfl (k2 := 72) rfl ?_
      refine x_aload_1 hg dX5_stepsToSettle_28 rfl ?_
      refine get_X0_4 hg kC_1 fl_X5_45 dX5_stepsToSettle_29 rfl ?_
      refine x_iload_2 hg dX5_stepsToSettle_32 rfl ?_
      refine x_iadd hg dX5_stepsToSettle_33 rfl ?_
      refine x_callVI hg (xBag_shake (gL g) kC_72 hw) kC_1 (by decide) rfl im_X0_shake se_X0_shake mi_X0_shake ml_X5_49 rfl rfl (As := [.ref (ad w 72), .int ((s0 1 4) + a2)]) rfl rfl rfl dX5_stepsToSettle_34 rfl (fun r1 s1 hw => ?_)
      refine x_if_ne hg dX5_stepsToSettle_37 (tg := 42) (by decide) rfl hw (fun hw => ?_) (fun hw => ?_)
      · refine x_iinc_2 hg dX5_stepsToSettle_42 ic_1 rfl rfl rfl ?_
        refine x_goto hg dX5_stepsToSettle_45 (pc' := 17) (by decide) ?_
        exact ih _ _ hw
      · refine x_iload_2 hg dX5_stepsToSettle_40 rfl ?_
        exact x_ret hg dX5_stepsToSettle_41 hw
set_option maxRecDepth 100000 in
set_option maxHeartbeats 4000000 in
theorem xThought_stepsToSettle {w : Wc} (l : Launch) {s0 : Sg} {P : Int32 → Sg → Prop} (hw : wThought_stepsToSettle  s0 P) : CI shC w l 4 (.code yX5_stepsToSettle cX5_stepsToSettle 3 (some .int)) yX5_stepsToSettle [.ref (ad w 67), .ref (ad w 1)] s0 P := by
  refine ci_of_i (own := "BagBottom$Thought") (ls0 := [some (.ref (ad w 67)), some (.ref (ad w 1)), none]) rfl pn_X5 rfl rfl (fun g el hg => ?_)
  unfold wThought_stepsToSettle at hw
  refine x_aload_1 hg dX5_stepsToSettle_0 rfl ?_
  refine x_callVV hg (xBag_learnSinks (gL g)  hw) kC_1 (by decide) rfl im_X0_learnSinks se_X0_learnSinks mi_X0_learnSinks ml_X5_33 rfl rfl (As := []) rfl rfl rfl dX5_stepsToSettle_1 rfl (fun s1 hw => ?_)
  refine x_aload_0 hg dX5_stepsToSettle_4 rfl ?_
  refine get_X5_2 hg kC_67 fl_X5_23 dX5_stepsToSettle_5 rfl (k2 := 72) rfl ?_
  refine x_aload_1 hg dX5_stepsToSettle_8 rfl ?_
  refine get_X0_2 hg kC_1 fl_X5_38 dX5_stepsToSettle_9 rfl (k2 := 3) rfl ?_
  refine x_callVV hg (xRow_copy (gL g) kC_72 kC_3 hw) kC_72 (by decide) rfl im_X1_copy se_X1_copy mi_X1_copy ml_X5_41 rfl rfl (As := [.ref (ad w 3)]) rfl rfl rfl dX5_stepsToSettle_12 rfl (fun s2 hw => ?_)
  refine x_ic hg dX5_stepsToSettle_15 ic_0 rfl ?_
  refine x_istore_2 hg dX5_stepsToSettle_16 rfl rfl rfl ?_
  obtain ⟨N1, hw⟩ := hw
  refine xThought_stepsToSettle_17 hg  rfl (fun  s3 hw => ?_) _ _ _ hw
  · refine x_ic hg dX5_stepsToSettle_48 ic_m1 rfl ?_
    exact x_ret hg dX5_stepsToSettle_49 hw
def wThought_costOfStart_13 (f2 : Int32) (K39 : Sg → Prop) : Nat → Int32 → Sg → Prop
  | 0, _, _ => False
  | n + 1, a3, s0 => ((f2 ≤ a3 → K39  s0) ∧ (¬ f2 ≤ a3 → (wBag_shake 72 (((s0 1 4) + a3)) s0 (fun (r1 : Int32) (s1 : Sg) => wThought_costOfStart_13 f2 K39 n ((a3 + 1)) s1))))
def wThought_costOfStart_47 (K107 : Int32 → Sg → Prop) : Nat → Int32 → Int32 → Int32 → Sg → Prop
  | 0, _, _, _, _ => False
  | n + 1, a3, a4, a5, s0 => (((s0 72 1) ≤ a5 → K107 a4 s0) ∧ (¬ (s0 72 1) ≤ a5 → (vp_in a5 9 ∧ (vp_in ((((s0 73 (ix a5)) * 9) + a5)) 81 ∧ (∀ x1 : Int32, x1 = (a3 + (s0 74 (ix ((((s0 73 (ix a5)) * 9) + a5))))) → (vp_in ((s0 73 (ix a5))) 9 ∧ wThought_costOfStart_47 K107 n x1 ((a4 + ((s0 75 (ix ((s0 73 (ix a5))))) * x1))) ((a5 + 1)) s0))))))
def wThought_costOfStart (a2 : Int32) (s0 : Sg) (P : Int32 → Sg → Prop) : Prop := (wRow_copy 72 70 s0 (fun (s1 : Sg) => (∃ N1 : Nat, wThought_costOfStart_13 a2 (fun  (s2 : Sg) => (∃ N2 : Nat, wThought_costOfStart_47 (fun (v1 : Int32) (s3 : Sg) => P v1 s3) N2 0 0 0 s2)) N1 0 s1)))
set_option maxRecDepth 100000 in
set_option maxHeartbeats 4000000 in
theorem xThought_costOfStart_13 {w : Wc} {g : Gx} {Q : State → Prop} {f2 : Int32} {K39 : Sg → Prop} (hg : OK shC w g 4 cX5_costOfStart "BagBottom$Thought" 7 (some .int)) (hK39 : ∀ (s0 : Sg), K39  s0 → X shC w g Q 39 [some (.ref (ad w 67)), none, none, none, none, none, none] [] s0) : ∀ (n : Nat) (a3 : Int32) (s0 : Sg), wThought_costOfStart_13 f2 K39 n a3 s0 → X shC w g Q 13 [some (.ref (ad w 67)), some (.ref (ad w 1)), some (.int f2), some (.int a3), none, none, none] [] s0 := by
  intro n
  induction n with
  | zero =>
    intro a3 s0 hw
    exact hw.elim
  | succ n ih =>
    intro a3 s0 hw
    rw [wThought_costOfStart_13] at hw
    refine x_iload_3 hg dX5_costOfStart_13 rfl ?_
    refine x_iload_2 hg dX5_costOfStart_14 rfl ?_
    refine x_icmp_ge hg dX5_costOfStart_15 (tg := 39) (by decide) rfl hw (fun hw => ?_) (fun hw => ?_)
    · refine x_drop_1 ?_
      refine x_drop_2 ?_
      refine x_drop_3 ?_
      exact hK39  _ hw
    · refine x_aload_1 hg dX5_costOfStart_18 rfl ?_
      refine x_aload_0 hg dX5_costOfStart_19 rfl ?_
      refine get_X5_2 hg kC_67 fl_X5_23 dX5_costOfStart_20 rfl (k2 := 72) rfl ?_
      refine x_aload_1 hg dX5_costOfStart_23 rfl ?_
      refine get_X0_4 hg kC_1 fl_X5_45 dX5_costOfStart_24 rfl ?_
      refine x_iload_3 hg dX5_costOfStart_27 rfl ?_
      refine x_iadd hg dX5_costOfStart_28 rfl ?_
      refine x_callVI hg (xBag_shake (gL g) kC_72 hw) kC_1 (by decide) rfl im_X0_shake se_X0_shake mi_X0_shake ml_X5_49 rfl rfl (As := [.ref (ad w 72), .int ((s0 1 4) + a3)]) rfl rfl rfl dX5_costOfStart_29 rfl (fun r1 s1 hw => ?_)
      refine x_pop hg dX5_costOfStart_32 rfl rfl ?_
      refine x_iinc_3 hg dX5_costOfStart_33 ic_1 rfl rfl rfl ?_
      refine x_goto hg dX5_costOfStart_36 (pc' := 13) (by decide) ?_
      exact ih _ _ hw
set_option maxRecDepth 100000 in
set_option maxHeartbeats 4000000 in
theorem xThought_costOfStart_47 {w : Wc} {g : Gx} {Q : State → Prop} {K107 : Int32 → Sg → Prop} (hg : OK shC w g 4 cX5_costOfStart "BagBottom$Thought" 7 (some .int)) (hK107 : ∀ (a4 : Int32) (s0 : Sg), K107 a4 s0 → X shC w g Q 107 [none, none, none, none, some (.int a4), none, none] [] s0) : ∀ (n : Nat) (a3 a4 a5 : Int32) (s0 : Sg), wThought_costOfStart_47 K107 n a3 a4 a5 s0 → X shC w g Q 47 [some (.ref (ad w 67)), none, none, some (.int a3), some (.int a4), some (.int a5), none] [] s0 := by
  intro n
  induction n with
  | zero =>
    intro a3 a4 a5 s0 hw
    exact hw.elim
  | succ n ih =>
    intro a3 a4 a5 s0 hw
    rw [wThought_costOfStart_47] at hw
    refine x_iload_5 hg dX5_costOfStart_47 rfl ?_
    refine x_aload_0 hg dX5_costOfStart_49 rfl ?_
    refine get_X5_2 hg kC_67 fl_X5_23 dX5_costOfStart_50 rfl (k2 := 72) rfl ?_
    refine get_X1_1 hg kC_72 fl_X5_60 dX5_costOfStart_53 rfl ?_
    refine x_icmp_ge hg dX5_costOfStart_56 (tg := 107) (by decide) rfl hw (fun hw => ?_) (fun hw => ?_)
    · refine x_drop_0 ?_
      refine x_drop_3 ?_
      refine x_drop_5 ?_
      exact hK107 _ _ hw
    · refine x_aload_0 hg dX5_costOfStart_59 rfl ?_
      refine get_X5_2 hg kC_67 fl_X5_23 dX5_costOfStart_60 rfl (k2 := 72) rfl ?_
      refine get_X1_0 hg kC_72 fl_X5_86 dX5_costOfStart_63 rfl (k2 := 73) rfl ?_
      refine x_iload_5 hg dX5_costOfStart_66 rfl ?_
      refine x_iald hg kC_73 rfl dX5_costOfStart_68 rfl hw (fun hw => ?_)
      refine x_istore_6 hg dX5_costOfStart_69 rfl rfl rfl ?_
      refine x_iload_3 hg dX5_costOfStart_71 rfl ?_
      refine x_aload_0 hg dX5_costOfStart_72 rfl ?_
      refine get_X5_3 hg kC_67 fl_X5_26 dX5_costOfStart_73 rfl (k2 := 74) rfl ?_
      refine x_iload_6 hg dX5_costOfStart_76 rfl ?_
      refine x_bi hg dX5_costOfStart_78 bp_9 rfl ?_
      refine x_imul hg dX5_costOfStart_80 rfl ?_
      refine x_iload_5 hg dX5_costOfStart_81 rfl ?_
      refine x_iadd hg dX5_costOfStart_83 rfl ?_
      refine x_iald hg kC_74 rfl dX5_costOfStart_84 rfl hw (fun hw => ?_)
      refine x_iadd hg dX5_costOfStart_85 rfl ?_
      refine x_nm hw (fun x1 hw => ?_)
      refine x_istore_3 hg dX5_costOfStart_86 rfl rfl rfl ?_
      refine x_iload_4 hg dX5_costOfStart_87 rfl ?_
      refine x_aload_0 hg dX5_costOfStart_89 rfl ?_
      refine get_X5_4 hg kC_67 fl_X5_30 dX5_costOfStart_90 rfl (k2 := 75) rfl ?_
      refine x_iload_6 hg dX5_costOfStart_93 rfl ?_
      refine x_iald hg kC_75 rfl dX5_costOfStart_95 rfl hw (fun hw => ?_)
      refine x_iload_3 hg dX5_costOfStart_96 rfl ?_
      refine x_imul hg dX5_costOfStart_97 rfl ?_
      refine x_iadd hg dX5_costOfStart_98 rfl ?_
      refine x_istore_4 hg dX5_costOfStart_99 rfl rfl rfl ?_
      refine x_iinc_5 hg dX5_costOfStart_101 ic_1 rfl rfl rfl ?_
      refine x_goto hg dX5_costOfStart_104 (pc' := 47) (by decide) ?_
      refine x_drop_6 ?_
      exact ih _ _ _ _ hw
set_option maxRecDepth 100000 in
set_option maxHeartbeats 4000000 in
theorem xThought_costOfStart {w : Wc} (l : Launch) {a2 : Int32} {s0 : Sg} {P : Int32 → Sg → Prop} (hw : wThought_costOfStart a2 s0 P) : CI shC w l 4 (.code yX5_costOfStart cX5_costOfStart 7 (some .int)) yX5_costOfStart [.ref (ad w 67), .ref (ad w 1), .int a2] s0 P := by
  refine ci_of_i (own := "BagBottom$Thought") (ls0 := [some (.ref (ad w 67)), some (.ref (ad w 1)), some (.int a2), none, none, none, none]) rfl pn_X5 rfl rfl (fun g el hg => ?_)
  unfold wThought_costOfStart at hw
  refine x_aload_0 hg dX5_costOfStart_0 rfl ?_
  refine get_X5_2 hg kC_67 fl_X5_23 dX5_costOfStart_1 rfl (k2 := 72) rfl ?_
  refine x_aload_0 hg dX5_costOfStart_4 rfl ?_
  refine get_X5_1 hg kC_67 fl_X5_20 dX5_costOfStart_5 rfl (k2 := 70) rfl ?_
  refine x_callVV hg (xRow_copy (gL g) kC_72 kC_70 hw) kC_72 (by decide) rfl im_X1_copy se_X1_copy mi_X1_copy ml_X5_41 rfl rfl (As := [.ref (ad w 70)]) rfl rfl rfl dX5_costOfStart_8 rfl (fun s1 hw => ?_)
  refine x_ic hg dX5_costOfStart_11 ic_0 rfl ?_
  refine x_istore_3 hg dX5_costOfStart_12 rfl rfl rfl ?_
  obtain ⟨N1, hw⟩ := hw
  refine xThought_costOfStart_13 hg  (fun  s2 hw => ?_) _ _ _ hw
  · refine x_ic hg dX5_costOfStart_39 ic_0 rfl ?_
    refine x_istore_3 hg dX5_costOfStart_40 rfl rfl rfl ?_
    refine x_ic hg dX5_costOfStart_41 ic_0 rfl ?_
    refine x_istore_4 hg dX5_costOfStart_42 rfl rfl rfl ?_
    refine x_ic hg dX5_costOfStart_44 ic_0 rfl ?_
    refine x_istore_5 hg dX5_costOfStart_45 rfl rfl rfl ?_
    obtain ⟨N2, hw⟩ := hw
    refine xThought_costOfStart_47 hg  (fun v1 s3 hw => ?_) _ _ _ _ _ hw
    · refine x_iload_4 hg dX5_costOfStart_107 rfl ?_
      exact x_ret hg dX5_costOfStart_109 hw
def wThought_learnUses_31 (f2 : Int32) (f3 : Nat) (K76 : Sg → Prop) : Nat → Int32 → Sg → Prop
  | 0, _, _ => False
  | n + 1, a4, s0 => (((s0 3 1) ≤ a4 → K76  s0) ∧ (¬ (s0 3 1) ≤ a4 → (wThing_feels f3 s0 (fun (r1 : Int32) (s1 : Sg) => (wBag_gives 0 r1 a4 ((s1 f3 0)) s1 (fun (r2 : Int32) (s2 : Sg) => (vp_in (((f2 * 9) + a4)) 81 ∧ ∀ s3 : Sg, s3 = u2 s2 74 (ix (((f2 * 9) + a4))) r2 → wThought_learnUses_31 f2 f3 K76 n ((a4 + 1)) s3)))))))
def wThought_learnUses_2 (K82 : Sg → Prop) : Nat → Int32 → Sg → Prop
  | 0, _, _ => False
  | n + 1, a2, s0 => (((s0 1 1) ≤ a2 → K82  s0) ∧ (¬ (s0 1 1) ≤ a2 → (vp_in a2 9 ∧ (wBag_usedOf a2 s0 (fun (r1 : Int32) (s1 : Sg) => (vp_in a2 9 ∧ ∀ s2 : Sg, s2 = u2 s1 75 (ix a2) r1 → (∃ N1 : Nat, wThought_learnUses_31 a2 ((11 + 1 * ix a2)) (fun  (s3 : Sg) => wThought_learnUses_2 K82 n ((a2 + 1)) s3) N1 0 s2)))))))
def wThought_learnUses (s0 : Sg) (P : Sg → Prop) : Prop := (∃ N1 : Nat, wThought_learnUses_2 (fun  (s1 : Sg) => P s1) N1 0 s0)
set_option maxRecDepth 100000 in
set_option maxHeartbeats 4000000 in
theorem xThought_learnUses_31 {w : Wc} {g : Gx} {Q : State → Prop} {f2 : Int32} {f3 : Nat} {K76 : Sg → Prop} (hg : OK shC w g 5 cX5_learnUses "BagBottom$Thought" 5 none) (hf3 : kd shC f3 = 5) (hK76 : ∀ (s0 : Sg), K76  s0 → X shC w g Q 76 [some (.ref (ad w 67)), some (.ref (ad w 1)), some (.int f2), none, none] [] s0) : ∀ (n : Nat) (a4 : Int32) (s0 : Sg), wThought_learnUses_31 f2 f3 K76 n a4 s0 → X shC w g Q 31 [some (.ref (ad w 67)), some (.ref (ad w 1)), some (.int f2), some (.ref (ad w f3)), some (.int a4)] [] s0 := by
  intro n
  induction n with
  | zero =>
    intro a4 s0 hw
    exact hw.elim
  | succ n ih =>
    intro a4 s0 hw
    rw [wThought_learnUses_31] at hw
    refine x_iload_4 hg dX5_learnUses_31 rfl ?_
    refine x_aload_1 hg dX5_learnUses_33 rfl ?_
    refine get_X0_2 hg kC_1 fl_X5_38 dX5_learnUses_34 rfl (k2 := 3) rfl ?_
    refine get_X1_1 hg kC_3 fl_X5_60 dX5_learnUses_37 rfl ?_
    refine x_icmp_ge hg dX5_learnUses_40 (tg := 76) (by decide) rfl hw (fun hw => ?_) (fun hw => ?_)
    · refine x_drop_3 ?_
      refine x_drop_4 ?_
      exact hK76  _ hw
    · refine x_aload_0 hg dX5_learnUses_43 rfl ?_
      refine get_X5_3 hg kC_67 fl_X5_26 dX5_learnUses_44 rfl (k2 := 74) rfl ?_
      refine x_iload_2 hg dX5_learnUses_47 rfl ?_
      refine x_bi hg dX5_learnUses_48 bp_9 rfl ?_
      refine x_imul hg dX5_learnUses_50 rfl ?_
      refine x_iload_4 hg dX5_learnUses_51 rfl ?_
      refine x_iadd hg dX5_learnUses_53 rfl ?_
      refine x_aload_1 hg dX5_learnUses_54 rfl ?_
      refine x_ic hg dX5_learnUses_55 ic_0 rfl ?_
      refine x_aload_3 hg dX5_learnUses_56 rfl ?_
      refine x_callVI hg (xThing_feels (gL g) hf3 hw) hf3 (by decide) rfl im_X4_feels se_X4_feels mi_X4_feels ml_X5_96 rfl rfl (As := []) rfl rfl rfl dX5_learnUses_57 rfl (fun r1 s1 hw => ?_)
      refine x_iload_4 hg dX5_learnUses_60 rfl ?_
      refine x_aload_3 hg dX5_learnUses_62 rfl ?_
      refine get_X4_0 hg hf3 fl_X5_102 dX5_learnUses_63 rfl ?_
      refine x_callVI hg (xBag_gives (gL g)  hw) kC_1 (by decide) rfl im_X0_gives se_X0_gives mi_X0_gives ml_X5_105 rfl rfl (As := [.int 0, .int r1, .int a4, .int (s1 f3 0)]) rfl rfl rfl dX5_learnUses_66 rfl (fun r2 s2 hw => ?_)
      refine x_iast hg kC_74 rfl dX5_learnUses_69 rfl hw (fun s3 hw => ?_)
      refine x_iinc_4 hg dX5_learnUses_70 ic_1 rfl rfl rfl ?_
      refine x_goto hg dX5_learnUses_73 (pc' := 31) (by decide) ?_
      exact ih _ _ hw
set_option maxRecDepth 100000 in
set_option maxHeartbeats 4000000 in
theorem xThought_learnUses_2 {w : Wc} {g : Gx} {Q : State → Prop} {K82 : Sg → Prop} (hg : OK shC w g 5 cX5_learnUses "BagBottom$Thought" 5 none) (hK82 : ∀ (s0 : Sg), K82  s0 → X shC w g Q 82 [none, none, none, none, none] [] s0) : ∀ (n : Nat) (a2 : Int32) (s0 : Sg), wThought_learnUses_2 K82 n a2 s0 → X shC w g Q 2 [some (.ref (ad w 67)), some (.ref (ad w 1)), some (.int a2), none, none] [] s0 := by
  intro n
  induction n with
  | zero =>
    intro a2 s0 hw
    exact hw.elim
  | succ n ih =>
    intro a2 s0 hw
    rw [wThought_learnUses_2] at hw
    refine x_iload_2 hg dX5_learnUses_2 rfl ?_
    refine x_aload_1 hg dX5_learnUses_3 rfl ?_
    refine get_X0_1 hg kC_1 fl_X5_71 dX5_learnUses_4 rfl ?_
    refine x_icmp_ge hg dX5_learnUses_7 (tg := 82) (by decide) rfl hw (fun hw => ?_) (fun hw => ?_)
    · refine x_drop_0 ?_
      refine x_drop_1 ?_
      refine x_drop_2 ?_
      exact hK82  _ hw
    · refine x_aload_1 hg dX5_learnUses_10 rfl ?_
      refine get_X0_0 hg kC_1 fl_X5_89 dX5_learnUses_11 rfl (k2 := 2) rfl ?_
      refine x_iload_2 hg dX5_learnUses_14 rfl ?_
      refine x_aald hg (t := 1) kC_2 (by decide) rfl rfl rfl rfl dX5_learnUses_15 rfl hw (fun hin1 hw => ?_)
      refine x_astore_3 hg dX5_learnUses_16 rfl rfl rfl ?_
      refine x_aload_0 hg dX5_learnUses_17 rfl ?_
      refine get_X5_4 hg kC_67 fl_X5_30 dX5_learnUses_18 rfl (k2 := 75) rfl ?_
      refine x_iload_2 hg dX5_learnUses_21 rfl ?_
      refine x_aload_1 hg dX5_learnUses_22 rfl ?_
      refine x_iload_2 hg dX5_learnUses_23 rfl ?_
      refine x_callVI hg (xBag_usedOf (gL g)  hw) kC_1 (by decide) rfl im_X0_usedOf se_X0_usedOf mi_X0_usedOf ml_X5_93 rfl rfl (As := [.int a2]) rfl rfl rfl dX5_learnUses_24 rfl (fun r1 s1 hw => ?_)
      refine x_iast hg kC_75 rfl dX5_learnUses_27 rfl hw (fun s2 hw => ?_)
      refine x_ic hg dX5_learnUses_28 ic_0 rfl ?_
      refine x_istore_4 hg dX5_learnUses_29 rfl rfl rfl ?_
      obtain ⟨N1, hw⟩ := hw
      refine xThought_learnUses_31 hg  (kEl_11 hin1) (fun  s3 hw => ?_) _ _ _ hw
      · refine x_iinc_2 hg dX5_learnUses_76 ic_1 rfl rfl rfl ?_
        refine x_goto hg dX5_learnUses_79 (pc' := 2) (by decide) ?_
        exact ih _ _ hw
set_option maxRecDepth 100000 in
set_option maxHeartbeats 4000000 in
theorem xThought_learnUses {w : Wc} (l : Launch) {s0 : Sg} {P : Sg → Prop} (hw : wThought_learnUses  s0 P) : CV shC w l 5 (.code yX5_learnUses cX5_learnUses 5 none) yX5_learnUses [.ref (ad w 67), .ref (ad w 1)] s0 P := by
  refine ci_of_v (own := "BagBottom$Thought") (ls0 := [some (.ref (ad w 67)), some (.ref (ad w 1)), none, none, none]) rfl pn_X5 rfl rfl (fun g el hg => ?_)
  unfold wThought_learnUses at hw
  refine x_ic hg dX5_learnUses_0 ic_0 rfl ?_
  refine x_istore_2 hg dX5_learnUses_1 rfl rfl rfl ?_
  obtain ⟨N1, hw⟩ := hw
  refine xThought_learnUses_2 hg  (fun  s1 hw => ?_) _ _ _ hw
  · exact x_vret hg dX5_learnUses_82 hw
def wThought_packFor_19 (f2 : Int32) (K52 : Sg → Prop) : Nat → Int32 → Sg → Prop
  | 0, _, _ => False
  | n + 1, a3, s0 => (((s0 1 1) ≤ a3 → K52  s0) ∧ (¬ (s0 1 1) ≤ a3 → (wRow_placeOf 3 a3 s0 (fun (r1 : Int32) (s1 : Sg) => ((r1 < 0 → wThought_packFor_19 f2 K52 n ((a3 + 1)) s1) ∧ (¬ r1 < 0 → (wRow_add 70 a3 s1 (fun (s2 : Sg) => wThought_packFor_19 f2 K52 n ((a3 + 1)) s2))))))))
def wThought_packFor_58 (f2 : Int32) (K113 : Int32 → Sg → Prop) : Nat → Int32 → Int32 → Sg → Prop
  | 0, _, _, _ => False
  | n + 1, a3, a4, s0 => ((720 ≤ a4 → K113 a3 s0) ∧ (¬ 720 ≤ a4 → (wThought_costOfStart f2 s0 (fun (r1 : Int32) (s1 : Sg) => ((a3 ≤ r1 → (wRow_goToNext 70 s1 (fun (r2 : Int32) (s2 : Sg) => ((¬ r2 = 0 → wThought_packFor_58 f2 K113 n a3 ((a4 + 1)) s2) ∧ (r2 = 0 → K113 a3 s2))))) ∧ (¬ a3 ≤ r1 → (wRow_copy 68 70 s1 (fun (s2 : Sg) => (wRow_goToNext 70 s2 (fun (r2 : Int32) (s3 : Sg) => ((¬ r2 = 0 → wThought_packFor_58 f2 K113 n r1 ((a4 + 1)) s3) ∧ (r2 = 0 → K113 r1 s3))))))))))))
def wThought_packFor (a2 : Int32) (s0 : Sg) (P : Int32 → Sg → Prop) : Prop := (wBag_learnSinks  s0 (fun (s1 : Sg) => (wThought_learnUses  s1 (fun (s2 : Sg) => (∀ s3 : Sg, s3 = u2 s2 70 1 0 → (∃ N1 : Nat, wThought_packFor_19 a2 (fun  (s4 : Sg) => (∃ N2 : Nat, wThought_packFor_58 a2 (fun (v1 : Int32) (s5 : Sg) => P v1 s5) N2 2147483647 0 s4)) N1 0 s3))))))
set_option maxRecDepth 100000 in
set_option maxHeartbeats 4000000 in
theorem xThought_packFor_19 {w : Wc} {g : Gx} {Q : State → Prop} {f2 : Int32} {K52 : Sg → Prop} (hg : OK shC w g 6 cX5_packFor "BagBottom$Thought" 6 (some .int)) (hK52 : ∀ (s0 : Sg), K52  s0 → X shC w g Q 52 [some (.ref (ad w 67)), some (.ref (ad w 1)), some (.int f2), none, none, none] [] s0) : ∀ (n : Nat) (a3 : Int32) (s0 : Sg), wThought_packFor_19 f2 K52 n a3 s0 → X shC w g Q 19 [some (.ref (ad w 67)), some (.ref (ad w 1)), some (.int f2), some (.int a3), none, none] [] s0 := by
  intro n
  induction n with
  | zero =>
    intro a3 s0 hw
    exact hw.elim
  | succ n ih =>
    intro a3 s0 hw
    rw [wThought_packFor_19] at hw
    refine x_iload_3 hg dX5_packFor_19 rfl ?_
    refine x_aload_1 hg dX5_packFor_20 rfl ?_
    refine get_X0_1 hg kC_1 fl_X5_71 dX5_packFor_21 rfl ?_
    refine x_icmp_ge hg dX5_packFor_24 (tg := 52) (by decide) rfl hw (fun hw => ?_) (fun hw => ?_)
    · refine x_drop_3 ?_
      exact hK52  _ hw
    · refine x_aload_1 hg dX5_packFor_27 rfl ?_
      refine get_X0_2 hg kC_1 fl_X5_38 dX5_packFor_28 rfl (k2 := 3) rfl ?_
      refine x_iload_3 hg dX5_packFor_31 rfl ?_
      refine x_callVI hg (xRow_placeOf (gL g) kC_3 hw) kC_3 (by decide) rfl im_X1_placeOf se_X1_placeOf mi_X1_placeOf ml_X5_53 rfl rfl (As := [.int a3]) rfl rfl rfl dX5_packFor_32 rfl (fun r1 s1 hw => ?_)
      refine x_if_lt hg dX5_packFor_35 (tg := 46) (by decide) rfl hw (fun hw => ?_) (fun hw => ?_)
      · refine x_iinc_3 hg dX5_packFor_46 ic_1 rfl rfl rfl ?_
        refine x_goto hg dX5_packFor_49 (pc' := 19) (by decide) ?_
        exact ih _ _ hw
      · refine x_aload_0 hg dX5_packFor_38 rfl ?_
        refine get_X5_1 hg kC_67 fl_X5_20 dX5_packFor_39 rfl (k2 := 70) rfl ?_
        refine x_iload_3 hg dX5_packFor_42 rfl ?_
        refine x_callVV hg (xRow_add (gL g) kC_70 hw) kC_70 (by decide) rfl im_X1_add se_X1_add mi_X1_add ml_X5_74 rfl rfl (As := [.int a3]) rfl rfl rfl dX5_packFor_43 rfl (fun s2 hw => ?_)
        refine x_iinc_3 hg dX5_packFor_46 ic_1 rfl rfl rfl ?_
        refine x_goto hg dX5_packFor_49 (pc' := 19) (by decide) ?_
        exact ih _ _ hw
set_option maxRecDepth 100000 in
set_option maxHeartbeats 4000000 in
theorem xThought_packFor_58 {w : Wc} {g : Gx} {Q : State → Prop} {f2 : Int32} {K113 : Int32 → Sg → Prop} (hg : OK shC w g 6 cX5_packFor "BagBottom$Thought" 6 (some .int)) (hK113 : ∀ (a3 : Int32) (s0 : Sg), K113 a3 s0 → X shC w g Q 113 [none, none, none, some (.int a3), none, none] [] s0) : ∀ (n : Nat) (a3 a4 : Int32) (s0 : Sg), wThought_packFor_58 f2 K113 n a3 a4 s0 → X shC w g Q 58 [some (.ref (ad w 67)), some (.ref (ad w 1)), some (.int f2), some (.int a3), some (.int a4), none] [] s0 := by
  intro n
  induction n with
  | zero =>
    intro a3 a4 s0 hw
    exact hw.elim
  | succ n ih =>
    intro a3 a4 s0 hw
    rw [wThought_packFor_58] at hw
    refine x_iload_4 hg dX5_packFor_58 rfl ?_
    refine x_si hg dX5_packFor_60 sp_720 rfl ?_
    refine x_icmp_ge hg dX5_packFor_63 (tg := 113) (by decide) rfl hw (fun hw => ?_) (fun hw => ?_)
    · refine x_drop_0 ?_
      refine x_drop_1 ?_
      refine x_drop_2 ?_
      refine x_drop_4 ?_
      exact hK113 _ _ hw
    · refine x_aload_0 hg dX5_packFor_66 rfl ?_
      refine x_aload_1 hg dX5_packFor_67 rfl ?_
      refine x_iload_2 hg dX5_packFor_68 rfl ?_
      refine x_callVI hg (xThought_costOfStart (gL g)  hw) kC_67 (by decide) rfl im_X5_costOfStart se_X5_costOfStart mi_X5_costOfStart ml_X5_78 rfl rfl (As := [.ref (ad w 1), .int f2]) rfl rfl rfl dX5_packFor_69 rfl (fun r1 s1 hw => ?_)
      refine x_istore_5 hg dX5_packFor_72 rfl rfl rfl ?_
      refine x_iload_5 hg dX5_packFor_74 rfl ?_
      refine x_iload_3 hg dX5_packFor_76 rfl ?_
      refine x_icmp_ge hg dX5_packFor_77 (tg := 94) (by decide) rfl hw (fun hw => ?_) (fun hw => ?_)
      · refine x_aload_0 hg dX5_packFor_94 rfl ?_
        refine get_X5_1 hg kC_67 fl_X5_20 dX5_packFor_95 rfl (k2 := 70) rfl ?_
        refine x_callVI hg (xRow_goToNext (gL g) kC_70 hw) kC_70 (by decide) rfl im_X1_goToNext se_X1_goToNext mi_X1_goToNext ml_X5_82 rfl rfl (As := []) rfl rfl rfl dX5_packFor_98 rfl (fun r2 s2 hw => ?_)
        refine x_if_ne hg dX5_packFor_101 (tg := 107) (by decide) rfl hw (fun hw => ?_) (fun hw => ?_)
        · refine x_iinc_4 hg dX5_packFor_107 ic_1 rfl rfl rfl ?_
          refine x_goto hg dX5_packFor_110 (pc' := 58) (by decide) ?_
          refine x_drop_5 ?_
          exact ih _ _ _ hw
        · refine x_goto hg dX5_packFor_104 (pc' := 113) (by decide) ?_
          refine x_drop_0 ?_
          refine x_drop_1 ?_
          refine x_drop_2 ?_
          refine x_drop_4 ?_
          refine x_drop_5 ?_
          exact hK113 _ _ hw
      · refine x_iload_5 hg dX5_packFor_80 rfl ?_
        refine x_istore_3 hg dX5_packFor_82 rfl rfl rfl ?_
        refine x_aload_0 hg dX5_packFor_83 rfl ?_
        refine get_X5_0 hg kC_67 fl_X5_14 dX5_packFor_84 rfl (k2 := 68) rfl ?_
        refine x_aload_0 hg dX5_packFor_87 rfl ?_
        refine get_X5_1 hg kC_67 fl_X5_20 dX5_packFor_88 rfl (k2 := 70) rfl ?_
        refine x_callVV hg (xRow_copy (gL g) kC_68 kC_70 hw) kC_68 (by decide) rfl im_X1_copy se_X1_copy mi_X1_copy ml_X5_41 rfl rfl (As := [.ref (ad w 70)]) rfl rfl rfl dX5_packFor_91 rfl (fun s2 hw => ?_)
        refine x_aload_0 hg dX5_packFor_94 rfl ?_
        refine get_X5_1 hg kC_67 fl_X5_20 dX5_packFor_95 rfl (k2 := 70) rfl ?_
        refine x_callVI hg (xRow_goToNext (gL g) kC_70 hw) kC_70 (by decide) rfl im_X1_goToNext se_X1_goToNext mi_X1_goToNext ml_X5_82 rfl rfl (As := []) rfl rfl rfl dX5_packFor_98 rfl (fun r2 s3 hw => ?_)
        refine x_if_ne hg dX5_packFor_101 (tg := 107) (by decide) rfl hw (fun hw => ?_) (fun hw => ?_)
        · refine x_iinc_4 hg dX5_packFor_107 ic_1 rfl rfl rfl ?_
          refine x_goto hg dX5_packFor_110 (pc' := 58) (by decide) ?_
          refine x_drop_5 ?_
          exact ih _ _ _ hw
        · refine x_goto hg dX5_packFor_104 (pc' := 113) (by decide) ?_
          refine x_drop_0 ?_
          refine x_drop_1 ?_
          refine x_drop_2 ?_
          refine x_drop_4 ?_
          refine x_drop_5 ?_
          exact hK113 _ _ hw
set_option maxRecDepth 100000 in
set_option maxHeartbeats 4000000 in
theorem xThought_packFor {w : Wc} (l : Launch) {a2 : Int32} {s0 : Sg} {P : Int32 → Sg → Prop} (hw : wThought_packFor a2 s0 P) : CI shC w l 6 (.code yX5_packFor cX5_packFor 6 (some .int)) yX5_packFor [.ref (ad w 67), .ref (ad w 1), .int a2] s0 P := by
  refine ci_of_i (own := "BagBottom$Thought") (ls0 := [some (.ref (ad w 67)), some (.ref (ad w 1)), some (.int a2), none, none, none]) rfl pn_X5 rfl rfl (fun g el hg => ?_)
  unfold wThought_packFor at hw
  refine x_aload_1 hg dX5_packFor_0 rfl ?_
  refine x_callVV hg (xBag_learnSinks (gL g)  hw) kC_1 (by decide) rfl im_X0_learnSinks se_X0_learnSinks mi_X0_learnSinks ml_X5_33 rfl rfl (As := []) rfl rfl rfl dX5_packFor_1 rfl (fun s1 hw => ?_)
  refine x_aload_0 hg dX5_packFor_4 rfl ?_
  refine x_aload_1 hg dX5_packFor_5 rfl ?_
  refine x_callVV hg (xThought_learnUses (gL g)  hw) kC_67 (by decide) rfl im_X5_learnUses se_X5_learnUses mi_X5_learnUses ml_X5_67 rfl rfl (As := [.ref (ad w 1)]) rfl rfl rfl dX5_packFor_6 rfl (fun s2 hw => ?_)
  refine x_aload_0 hg dX5_packFor_9 rfl ?_
  refine get_X5_1 hg kC_67 fl_X5_20 dX5_packFor_10 rfl (k2 := 70) rfl ?_
  refine x_ic hg dX5_packFor_13 ic_0 rfl ?_
  refine put_X1_1 hg kC_70 fl_X5_60 dX5_packFor_14 rfl hw (fun s3 hw => ?_)
  refine x_ic hg dX5_packFor_17 ic_0 rfl ?_
  refine x_istore_3 hg dX5_packFor_18 rfl rfl rfl ?_
  obtain ⟨N1, hw⟩ := hw
  refine xThought_packFor_19 hg  (fun  s4 hw => ?_) _ _ _ hw
  · refine x_ldc hg kc_X5_77 dX5_packFor_52 rfl ?_
    refine x_istore_3 hg dX5_packFor_54 rfl rfl rfl ?_
    refine x_ic hg dX5_packFor_55 ic_0 rfl ?_
    refine x_istore_4 hg dX5_packFor_56 rfl rfl rfl ?_
    obtain ⟨N2, hw⟩ := hw
    refine xThought_packFor_58 hg  (fun v1 s5 hw => ?_) _ _ _ _ hw
    · refine x_iload_3 hg dX5_packFor_113 rfl ?_
      exact x_ret hg dX5_packFor_114 hw
def wThought_timeWithout_9 (k1 : Nat) (f2 : Int32) (f3 : Int32) (P : Int32 → Sg → Prop) (K72 : Int32 → Sg → Prop) : Nat → Int32 → Int32 → Int32 → Sg → Prop
  | 0, _, _, _, _ => False
  | n + 1, a4, a5, a6, s0 => (((s0 k1 1) ≤ a6 → K72 a5 s0) ∧ (¬ (s0 k1 1) ≤ a6 → (vp_in a6 (ln shC (k1 + 1)) ∧ ((¬ ((f3.toUInt32 >>> ((s0 ((k1 + 1)) (ix a6)).toUInt32 &&& Int32.toUInt32 31)).toInt32 &&& 1) = 0 → ((¬ (s0 ((k1 + 1)) (ix a6)) = f2 → wThought_timeWithout_9 k1 f2 f3 P K72 n a4 a5 ((a6 + 1)) s0) ∧ ((s0 ((k1 + 1)) (ix a6)) = f2 → P a5 s0))) ∧ (((f3.toUInt32 >>> ((s0 ((k1 + 1)) (ix a6)).toUInt32 &&& Int32.toUInt32 31)).toInt32 &&& 1) = 0 → (vp_in ((((s0 ((k1 + 1)) (ix a6)) * 9) + a4)) 81 ∧ (∀ x1 : Int32, x1 = (a5 + (s0 74 (ix ((((s0 ((k1 + 1)) (ix a6)) * 9) + a4))))) → ((¬ (s0 ((k1 + 1)) (ix a6)) = f2 → wThought_timeWithout_9 k1 f2 f3 P K72 n ((a4 + 1)) x1 ((a6 + 1)) s0) ∧ ((s0 ((k1 + 1)) (ix a6)) = f2 → P x1 s0)))))))))
def wThought_timeWithout (k1 : Nat) (a2 : Int32) (a3 : Int32) (s0 : Sg) (P : Int32 → Sg → Prop) : Prop := (∃ N1 : Nat, wThought_timeWithout_9 k1 a2 a3 P (fun (v1 : Int32) (s1 : Sg) => P v1 s1) N1 0 0 0 s0)
set_option maxRecDepth 100000 in
set_option maxHeartbeats 4000000 in
theorem xThought_timeWithout_9 {w : Wc} {g : Gx} {Q : State → Prop} {k1 : Nat} {f2 : Int32} {f3 : Int32} {P : Int32 → Sg → Prop} {K72 : Int32 → Sg → Prop} (hg : OK shC w g 1 cX5_timeWithout "BagBottom$Thought" 8 (some .int)) (hk1 : kd shC k1 = 2) (hQ : Q = QI shC w g P) (hK72 : ∀ (a5 : Int32) (s0 : Sg), K72 a5 s0 → X shC w g Q 72 [none, none, none, none, none, some (.int a5), none, none] [] s0) : ∀ (n : Nat) (a4 a5 a6 : Int32) (s0 : Sg), wThought_timeWithout_9 k1 f2 f3 P K72 n a4 a5 a6 s0 → X shC w g Q 9 [some (.ref (ad w 67)), some (.ref (ad w k1)), some (.int f2), some (.int f3), some (.int a4), some (.int a5), some (.int a6), none] [] s0 := by
  subst hQ
  intro n
  induction n with
  | zero =>
    intro a4 a5 a6 s0 hw
    exact hw.elim
  | succ n ih =>
    intro a4 a5 a6 s0 hw
    rw [wThought_timeWithout_9] at hw
    refine x_iload_6 hg dX5_timeWithout_9 rfl ?_
    refine x_aload_1 hg dX5_timeWithout_11 rfl ?_
    refine get_X1_1 hg hk1 fl_X5_60 dX5_timeWithout_12 rfl ?_
    refine x_icmp_ge hg dX5_timeWithout_15 (tg := 72) (by decide) rfl hw (fun hw => ?_) (fun hw => ?_)
    · refine x_drop_0 ?_
      refine x_drop_1 ?_
      refine x_drop_2 ?_
      refine x_drop_3 ?_
      refine x_drop_4 ?_
      refine x_drop_6 ?_
      exact hK72 _ _ hw
    · refine x_aload_1 hg dX5_timeWithout_18 rfl ?_
      refine get_X1_0 hg hk1 fl_X5_86 dX5_timeWithout_19 rfl (k2 := (k1 + 1)) rfl ?_
      refine x_iload_6 hg dX5_timeWithout_22 rfl ?_
      refine x_iald hg (kRow hk1) rfl dX5_timeWithout_24 rfl hw (fun hw => ?_)
      refine x_istore_7 hg dX5_timeWithout_25 rfl rfl rfl ?_
      refine x_iload_3 hg dX5_timeWithout_27 rfl ?_
      refine x_iload_7 hg dX5_timeWithout_28 rfl ?_
      refine x_iushr hg dX5_timeWithout_30 rfl ?_
      refine x_ic hg dX5_timeWithout_31 ic_1 rfl ?_
      refine x_iand hg dX5_timeWithout_32 rfl ?_
      refine x_if_ne hg dX5_timeWithout_33 (tg := 57) (by decide) rfl hw (fun hw => ?_) (fun hw => ?_)
      · refine x_iload_7 hg dX5_timeWithout_57 rfl ?_
        refine x_iload_2 hg dX5_timeWithout_59 rfl ?_
        refine x_icmp_ne hg dX5_timeWithout_60 (tg := 66) (by decide) rfl hw (fun hw => ?_) (fun hw => ?_)
        · refine x_iinc_6 hg dX5_timeWithout_66 ic_1 rfl rfl rfl ?_
          refine x_goto hg dX5_timeWithout_69 (pc' := 9) (by decide) ?_
          refine x_drop_7 ?_
          exact ih _ _ _ _ hw
        · refine x_iload_5 hg dX5_timeWithout_63 rfl ?_
          exact x_ret hg dX5_timeWithout_65 hw
      · refine x_iload_5 hg dX5_timeWithout_36 rfl ?_
        refine x_aload_0 hg dX5_timeWithout_38 rfl ?_
        refine get_X5_3 hg kC_67 fl_X5_26 dX5_timeWithout_39 rfl (k2 := 74) rfl ?_
        refine x_iload_7 hg dX5_timeWithout_42 rfl ?_
        refine x_bi hg dX5_timeWithout_44 bp_9 rfl ?_
        refine x_imul hg dX5_timeWithout_46 rfl ?_
        refine x_iload_4 hg dX5_timeWithout_47 rfl ?_
        refine x_iadd hg dX5_timeWithout_49 rfl ?_
        refine x_iald hg kC_74 rfl dX5_timeWithout_50 rfl hw (fun hw => ?_)
        refine x_iadd hg dX5_timeWithout_51 rfl ?_
        refine x_nm hw (fun x1 hw => ?_)
        refine x_istore_5 hg dX5_timeWithout_52 rfl rfl rfl ?_
        refine x_iinc_4 hg dX5_timeWithout_54 ic_1 rfl rfl rfl ?_
        refine x_iload_7 hg dX5_timeWithout_57 rfl ?_
        refine x_iload_2 hg dX5_timeWithout_59 rfl ?_
        refine x_icmp_ne hg dX5_timeWithout_60 (tg := 66) (by decide) rfl hw (fun hw => ?_) (fun hw => ?_)
        · refine x_iinc_6 hg dX5_timeWithout_66 ic_1 rfl rfl rfl ?_
          refine x_goto hg dX5_timeWithout_69 (pc' := 9) (by decide) ?_
          refine x_drop_7 ?_
          exact ih _ _ _ _ hw
        · refine x_iload_5 hg dX5_timeWithout_63 rfl ?_
          exact x_ret hg dX5_timeWithout_65 hw
set_option maxRecDepth 100000 in
set_option maxHeartbeats 4000000 in
theorem xThought_timeWithout {w : Wc} (l : Launch) {k1 : Nat} {a2 : Int32} {a3 : Int32} (hk1 : kd shC k1 = 2) {s0 : Sg} {P : Int32 → Sg → Prop} (hw : wThought_timeWithout k1 a2 a3 s0 P) : CI shC w l 1 (.code yX5_timeWithout cX5_timeWithout 8 (some .int)) yX5_timeWithout [.ref (ad w 67), .ref (ad w k1), .int a2, .int a3] s0 P := by
  refine ci_of_i (own := "BagBottom$Thought") (ls0 := [some (.ref (ad w 67)), some (.ref (ad w k1)), some (.int a2), some (.int a3), none, none, none, none]) rfl pn_X5 rfl rfl (fun g el hg => ?_)
  unfold wThought_timeWithout at hw
  refine x_ic hg dX5_timeWithout_0 ic_0 rfl ?_
  refine x_istore_4 hg dX5_timeWithout_1 rfl rfl rfl ?_
  refine x_ic hg dX5_timeWithout_3 ic_0 rfl ?_
  refine x_istore_5 hg dX5_timeWithout_4 rfl rfl rfl ?_
  refine x_ic hg dX5_timeWithout_6 ic_0 rfl ?_
  refine x_istore_6 hg dX5_timeWithout_7 rfl rfl rfl ?_
  obtain ⟨N1, hw⟩ := hw
  refine xThought_timeWithout_9 hg hk1 rfl (fun v1 s1 hw => ?_) _ _ _ _ _ hw
  · refine x_iload_5 hg dX5_timeWithout_72 rfl ?_
    exact x_ret hg dX5_timeWithout_74 hw
def wThought_setLeftOut_11 (f2 : Int32) (f3 : Int32) (K46 : Int32 → Sg → Prop) : Nat → Int32 → Int32 → Sg → Prop
  | 0, _, _, _ => False
  | n + 1, a4, a5, s0 => (((s0 3 1) ≤ a5 → K46 a4 s0) ∧ (¬ (s0 3 1) ≤ a5 → (vp_in a5 9 ∧ wThought_setLeftOut_11 f2 f3 K46 n ((a4 ||| (1 <<< ((s0 4 (ix a5)) &&& 31)))) ((a5 + 1)) s0)))
def wThought_setLeftOut_66 (f2 : Int32) (f3 : Int32) (f4 : Int32) (K126 : Int32 → Sg → Prop) : Nat → Int32 → Int32 → Int32 → Sg → Prop
  | 0, _, _, _, _ => False
  | n + 1, a5, a6, a7, s0 => ((f4 < a7 → K126 a5 s0) ∧ (¬ f4 < a7 → (wJInt_bitCount a7 s0 (fun (r1 : Int32) (s1 : Sg) => ((¬ (a7 &&& (f4 ^^^ (-1))) = 0 → wThought_setLeftOut_66 f2 f3 f4 K126 n a5 a6 ((a7 + 1)) s1) ∧ ((a7 &&& (f4 ^^^ (-1))) = 0 → ((a6 ≤ r1 → wThought_setLeftOut_66 f2 f3 f4 K126 n a5 a6 ((a7 + 1)) s1) ∧ (¬ a6 ≤ r1 → (wThought_timeWithout 3 f2 a7 s1 (fun (r2 : Int32) (s2 : Sg) => ((f3 < r2 → wThought_setLeftOut_66 f2 f3 f4 K126 n a5 a6 ((a7 + 1)) s2) ∧ (¬ f3 < r2 → wThought_setLeftOut_66 f2 f3 f4 K126 n a7 r1 ((a7 + 1)) s2))))))))))))
def wThought_setLeftOut (a2 : Int32) (a3 : Int32) (s0 : Sg) (P : Int32 → Sg → Prop) : Prop := (wThought_learnUses  s0 (fun (s1 : Sg) => (∃ N1 : Nat, wThought_setLeftOut_11 a2 a3 (fun (v1 : Int32) (s2 : Sg) => (∃ N2 : Nat, wThought_setLeftOut_66 a2 a3 ((v1 &&& ((1 <<< (a2 &&& 31)) ^^^ (-1)))) (fun (v2 : Int32) (s3 : Sg) => P v2 s3) N2 ((-1)) 9 0 s2)) N1 0 0 s1)))
set_option maxRecDepth 100000 in
set_option maxHeartbeats 4000000 in
theorem xThought_setLeftOut_11 {w : Wc} {g : Gx} {Q : State → Prop} {f2 : Int32} {f3 : Int32} {K46 : Int32 → Sg → Prop} (hg : OK shC w g 6 cX5_setLeftOut "BagBottom$Thought" 9 (some .int)) (hK46 : ∀ (a4 : Int32) (s0 : Sg), K46 a4 s0 → X shC w g Q 46 [some (.ref (ad w 67)), some (.ref (ad w 1)), some (.int f2), some (.int f3), some (.int a4), none, none, none, none] [] s0) : ∀ (n : Nat) (a4 a5 : Int32) (s0 : Sg), wThought_setLeftOut_11 f2 f3 K46 n a4 a5 s0 → X shC w g Q 11 [some (.ref (ad w 67)), some (.ref (ad w 1)), some (.int f2), some (.int f3), some (.int a4), some (.int a5), none, none, none] [] s0 := by
  intro n
  induction n with
  | zero =>
    intro a4 a5 s0 hw
    exact hw.elim
  | succ n ih =>
    intro a4 a5 s0 hw
    rw [wThought_setLeftOut_11] at hw
    refine x_iload_5 hg dX5_setLeftOut_11 rfl ?_
    refine x_aload_1 hg dX5_setLeftOut_13 rfl ?_
    refine get_X0_2 hg kC_1 fl_X5_38 dX5_setLeftOut_14 rfl (k2 := 3) rfl ?_
    refine get_X1_1 hg kC_3 fl_X5_60 dX5_setLeftOut_17 rfl ?_
    refine x_icmp_ge hg dX5_setLeftOut_20 (tg := 46) (by decide) rfl hw (fun hw => ?_) (fun hw => ?_)
    · refine x_drop_5 ?_
      exact hK46 _ _ hw
    · refine x_iload_4 hg dX5_setLeftOut_23 rfl ?_
      refine x_ic hg dX5_setLeftOut_25 ic_1 rfl ?_
      refine x_aload_1 hg dX5_setLeftOut_26 rfl ?_
      refine get_X0_2 hg kC_1 fl_X5_38 dX5_setLeftOut_27 rfl (k2 := 3) rfl ?_
      refine get_X1_0 hg kC_3 fl_X5_86 dX5_setLeftOut_30 rfl (k2 := 4) rfl ?_
      refine x_iload_5 hg dX5_setLeftOut_33 rfl ?_
      refine x_iald hg kC_4 rfl dX5_setLeftOut_35 rfl hw (fun hw => ?_)
      refine x_ishl hg dX5_setLeftOut_36 rfl ?_
      refine x_ior hg dX5_setLeftOut_37 rfl ?_
      refine x_istore_4 hg dX5_setLeftOut_38 rfl rfl rfl ?_
      refine x_iinc_5 hg dX5_setLeftOut_40 ic_1 rfl rfl rfl ?_
      refine x_goto hg dX5_setLeftOut_43 (pc' := 11) (by decide) ?_
      exact ih _ _ _ hw
set_option maxRecDepth 100000 in
set_option maxHeartbeats 4000000 in
theorem xThought_setLeftOut_66 {w : Wc} {g : Gx} {Q : State → Prop} {f2 : Int32} {f3 : Int32} {f4 : Int32} {K126 : Int32 → Sg → Prop} (hg : OK shC w g 6 cX5_setLeftOut "BagBottom$Thought" 9 (some .int)) (hK126 : ∀ (a5 : Int32) (s0 : Sg), K126 a5 s0 → X shC w g Q 126 [none, none, none, none, none, some (.int a5), none, none, none] [] s0) : ∀ (n : Nat) (a5 a6 a7 : Int32) (s0 : Sg), wThought_setLeftOut_66 f2 f3 f4 K126 n a5 a6 a7 s0 → X shC w g Q 66 [some (.ref (ad w 67)), some (.ref (ad w 1)), some (.int f2), some (.int f3), some (.int f4), some (.int a5), some (.int a6), some (.int a7), none] [] s0 := by
  intro n
  induction n with
  | zero =>
    intro a5 a6 a7 s0 hw
    exact hw.elim
  | succ n ih =>
    intro a5 a6 a7 s0 hw
    rw [wThought_setLeftOut_66] at hw
    refine x_iload_7 hg dX5_setLeftOut_66 rfl ?_
    refine x_iload_4 hg dX5_setLeftOut_68 rfl ?_
    refine x_icmp_gt hg dX5_setLeftOut_70 (tg := 126) (by decide) rfl hw (fun hw => ?_) (fun hw => ?_)
    · refine x_drop_0 ?_
      refine x_drop_1 ?_
      refine x_drop_2 ?_
      refine x_drop_3 ?_
      refine x_drop_4 ?_
      refine x_drop_6 ?_
      refine x_drop_7 ?_
      exact hK126 _ _ hw
    · refine x_iload_7 hg dX5_setLeftOut_73 rfl ?_
      refine x_callSI hg (xJInt_bitCount (gL g)  hw) sm_J6_bitCount_0f7a4 mi_J6_bitCount_0f7a4 ml_X5_109 rfl rfl (As := [.int a7]) rfl rfl rfl dX5_setLeftOut_75 rfl (fun r1 s1 hw => ?_)
      refine x_istore_8 hg dX5_setLeftOut_78 rfl rfl rfl ?_
      refine x_iload_7 hg dX5_setLeftOut_80 rfl ?_
      refine x_iload_4 hg dX5_setLeftOut_82 rfl ?_
      refine x_ic hg dX5_setLeftOut_84 ic_m1 rfl ?_
      refine x_ixor hg dX5_setLeftOut_85 rfl ?_
      refine x_iand hg dX5_setLeftOut_86 rfl ?_
      refine x_if_ne hg dX5_setLeftOut_87 (tg := 120) (by decide) rfl hw (fun hw => ?_) (fun hw => ?_)
      · refine x_iinc_7 hg dX5_setLeftOut_120 ic_1 rfl rfl rfl ?_
        refine x_goto hg dX5_setLeftOut_123 (pc' := 66) (by decide) ?_
        refine x_drop_8 ?_
        exact ih _ _ _ _ hw
      · refine x_iload_8 hg dX5_setLeftOut_90 rfl ?_
        refine x_iload_6 hg dX5_setLeftOut_92 rfl ?_
        refine x_icmp_ge hg dX5_setLeftOut_94 (tg := 120) (by decide) rfl hw (fun hw => ?_) (fun hw => ?_)
        · refine x_iinc_7 hg dX5_setLeftOut_120 ic_1 rfl rfl rfl ?_
          refine x_goto hg dX5_setLeftOut_123 (pc' := 66) (by decide) ?_
          refine x_drop_8 ?_
          exact ih _ _ _ _ hw
        · refine x_aload_0 hg dX5_setLeftOut_97 rfl ?_
          refine x_aload_1 hg dX5_setLeftOut_98 rfl ?_
          refine get_X0_2 hg kC_1 fl_X5_38 dX5_setLeftOut_99 rfl (k2 := 3) rfl ?_
          refine x_iload_2 hg dX5_setLeftOut_102 rfl ?_
          refine x_iload_7 hg dX5_setLeftOut_103 rfl ?_
          refine x_callVI hg (xThought_timeWithout (gL g) kC_3 hw) kC_67 (by decide) rfl im_X5_timeWithout se_X5_timeWithout mi_X5_timeWithout ml_X5_114 rfl rfl (As := [.ref (ad w 3), .int f2, .int a7]) rfl rfl rfl dX5_setLeftOut_105 rfl (fun r2 s2 hw => ?_)
          refine x_iload_3 hg dX5_setLeftOut_108 rfl ?_
          refine x_icmp_gt hg dX5_setLeftOut_109 (tg := 120) (by decide) rfl hw (fun hw => ?_) (fun hw => ?_)
          · refine x_iinc_7 hg dX5_setLeftOut_120 ic_1 rfl rfl rfl ?_
            refine x_goto hg dX5_setLeftOut_123 (pc' := 66) (by decide) ?_
            refine x_drop_8 ?_
            exact ih _ _ _ _ hw
          · refine x_iload_7 hg dX5_setLeftOut_112 rfl ?_
            refine x_istore_5 hg dX5_setLeftOut_114 rfl rfl rfl ?_
            refine x_iload_8 hg dX5_setLeftOut_116 rfl ?_
            refine x_istore_6 hg dX5_setLeftOut_118 rfl rfl rfl ?_
            refine x_iinc_7 hg dX5_setLeftOut_120 ic_1 rfl rfl rfl ?_
            refine x_goto hg dX5_setLeftOut_123 (pc' := 66) (by decide) ?_
            refine x_drop_8 ?_
            exact ih _ _ _ _ hw
set_option maxRecDepth 100000 in
set_option maxHeartbeats 4000000 in
theorem xThought_setLeftOut {w : Wc} (l : Launch) {a2 : Int32} {a3 : Int32} {s0 : Sg} {P : Int32 → Sg → Prop} (hw : wThought_setLeftOut a2 a3 s0 P) : CI shC w l 6 (.code yX5_setLeftOut cX5_setLeftOut 9 (some .int)) yX5_setLeftOut [.ref (ad w 67), .ref (ad w 1), .int a2, .int a3] s0 P := by
  refine ci_of_i (own := "BagBottom$Thought") (ls0 := [some (.ref (ad w 67)), some (.ref (ad w 1)), some (.int a2), some (.int a3), none, none, none, none, none]) rfl pn_X5 rfl rfl (fun g el hg => ?_)
  unfold wThought_setLeftOut at hw
  refine x_aload_0 hg dX5_setLeftOut_0 rfl ?_
  refine x_aload_1 hg dX5_setLeftOut_1 rfl ?_
  refine x_callVV hg (xThought_learnUses (gL g)  hw) kC_67 (by decide) rfl im_X5_learnUses se_X5_learnUses mi_X5_learnUses ml_X5_67 rfl rfl (As := [.ref (ad w 1)]) rfl rfl rfl dX5_setLeftOut_2 rfl (fun s1 hw => ?_)
  refine x_ic hg dX5_setLeftOut_5 ic_0 rfl ?_
  refine x_istore_4 hg dX5_setLeftOut_6 rfl rfl rfl ?_
  refine x_ic hg dX5_setLeftOut_8 ic_0 rfl ?_
  refine x_istore_5 hg dX5_setLeftOut_9 rfl rfl rfl ?_
  obtain ⟨N1, hw⟩ := hw
  refine xThought_setLeftOut_11 hg  (fun v1 s2 hw => ?_) _ _ _ _ hw
  · refine x_iload_4 hg dX5_setLeftOut_46 rfl ?_
    refine x_ic hg dX5_setLeftOut_48 ic_1 rfl ?_
    refine x_iload_2 hg dX5_setLeftOut_49 rfl ?_
    refine x_ishl hg dX5_setLeftOut_50 rfl ?_
    refine x_ic hg dX5_setLeftOut_51 ic_m1 rfl ?_
    refine x_ixor hg dX5_setLeftOut_52 rfl ?_
    refine x_iand hg dX5_setLeftOut_53 rfl ?_
    refine x_istore_4 hg dX5_setLeftOut_54 rfl rfl rfl ?_
    refine x_ic hg dX5_setLeftOut_56 ic_m1 rfl ?_
    refine x_istore_5 hg dX5_setLeftOut_57 rfl rfl rfl ?_
    refine x_bi hg dX5_setLeftOut_59 bp_9 rfl ?_
    refine x_istore_6 hg dX5_setLeftOut_61 rfl rfl rfl ?_
    refine x_ic hg dX5_setLeftOut_63 ic_0 rfl ?_
    refine x_istore_7 hg dX5_setLeftOut_64 rfl rfl rfl ?_
    obtain ⟨N2, hw⟩ := hw
    refine xThought_setLeftOut_66 hg  (fun v2 s3 hw => ?_) _ _ _ _ _ hw
    · refine x_iload_5 hg dX5_setLeftOut_126 rfl ?_
      exact x_ret hg dX5_setLeftOut_128 hw
def wThought_usedWithin_5 (f2 : Int32) (K56 : Int32 → Sg → Prop) : Nat → Int32 → Int32 → Sg → Prop
  | 0, _, _, _ => False
  | n + 1, a3, a4, s0 => (((s0 1 1) ≤ a4 → K56 a3 s0) ∧ (¬ (s0 1 1) ≤ a4 → (wBag_whereIs a4 s0 (fun (r1 : Int32) (s1 : Sg) => ((r1 = (-2) → wThought_usedWithin_5 f2 K56 n a3 ((a4 + 1)) s1) ∧ (¬ r1 = (-2) → (wBag_bestWay a4 s1 (fun (r2 : Int32) (s2 : Sg) => (wBag_time a4 r2 s2 (fun (r3 : Int32) (s3 : Sg) => ((f2 < r3 → wThought_usedWithin_5 f2 K56 n a3 ((a4 + 1)) s3) ∧ (¬ f2 < r3 → (wBag_usedOf a4 s3 (fun (r4 : Int32) (s4 : Sg) => wThought_usedWithin_5 f2 K56 n ((a3 + r4)) ((a4 + 1)) s4))))))))))))))
def wThought_usedWithin (a2 : Int32) (s0 : Sg) (P : Int32 → Sg → Prop) : Prop := (∃ N1 : Nat, wThought_usedWithin_5 a2 (fun (v1 : Int32) (s1 : Sg) => P v1 s1) N1 0 0 s0)
set_option maxRecDepth 100000 in
set_option maxHeartbeats 4000000 in
theorem xThought_usedWithin_5 {w : Wc} {g : Gx} {Q : State → Prop} {f2 : Int32} {K56 : Int32 → Sg → Prop} (hg : OK shC w g 6 cX5_usedWithin "BagBottom$Thought" 5 (some .int)) (hK56 : ∀ (a3 : Int32) (s0 : Sg), K56 a3 s0 → X shC w g Q 56 [none, none, none, some (.int a3), none] [] s0) : ∀ (n : Nat) (a3 a4 : Int32) (s0 : Sg), wThought_usedWithin_5 f2 K56 n a3 a4 s0 → X shC w g Q 5 [none, some (.ref (ad w 1)), some (.int f2), some (.int a3), some (.int a4)] [] s0 := by
  intro n
  induction n with
  | zero =>
    intro a3 a4 s0 hw
    exact hw.elim
  | succ n ih =>
    intro a3 a4 s0 hw
    rw [wThought_usedWithin_5] at hw
    refine x_iload_4 hg dX5_usedWithin_5 rfl ?_
    refine x_aload_1 hg dX5_usedWithin_7 rfl ?_
    refine get_X0_1 hg kC_1 fl_X5_71 dX5_usedWithin_8 rfl ?_
    refine x_icmp_ge hg dX5_usedWithin_11 (tg := 56) (by decide) rfl hw (fun hw => ?_) (fun hw => ?_)
    · refine x_drop_1 ?_
      refine x_drop_2 ?_
      refine x_drop_4 ?_
      exact hK56 _ _ hw
    · refine x_aload_1 hg dX5_usedWithin_14 rfl ?_
      refine x_iload_4 hg dX5_usedWithin_15 rfl ?_
      refine x_callVI hg (xBag_whereIs (gL g)  hw) kC_1 (by decide) rfl im_X0_whereIs se_X0_whereIs mi_X0_whereIs ml_X5_57 rfl rfl (As := [.int a4]) rfl rfl rfl dX5_usedWithin_17 rfl (fun r1 s1 hw => ?_)
      refine x_bi hg dX5_usedWithin_20 bp_m2 rfl ?_
      refine x_icmp_eq hg dX5_usedWithin_22 (tg := 50) (by decide) rfl hw (fun hw => ?_) (fun hw => ?_)
      · refine x_iinc_4 hg dX5_usedWithin_50 ic_1 rfl rfl rfl ?_
        refine x_goto hg dX5_usedWithin_53 (pc' := 5) (by decide) ?_
        exact ih _ _ _ hw
      · refine x_aload_1 hg dX5_usedWithin_25 rfl ?_
        refine x_iload_4 hg dX5_usedWithin_26 rfl ?_
        refine x_aload_1 hg dX5_usedWithin_28 rfl ?_
        refine x_iload_4 hg dX5_usedWithin_29 rfl ?_
        refine x_callVI hg (xBag_bestWay (gL g)  hw) kC_1 (by decide) rfl im_X0_bestWay se_X0_bestWay mi_X0_bestWay ml_X5_118 rfl rfl (As := [.int a4]) rfl rfl rfl dX5_usedWithin_31 rfl (fun r2 s2 hw => ?_)
        refine x_callVI hg (xBag_time (gL g)  hw) kC_1 (by decide) rfl im_X0_time se_X0_time mi_X0_time ml_X5_121 rfl rfl (As := [.int a4, .int r2]) rfl rfl rfl dX5_usedWithin_34 rfl (fun r3 s3 hw => ?_)
        refine x_iload_2 hg dX5_usedWithin_37 rfl ?_
        refine x_icmp_gt hg dX5_usedWithin_38 (tg := 50) (by decide) rfl hw (fun hw => ?_) (fun hw => ?_)
        · refine x_iinc_4 hg dX5_usedWithin_50 ic_1 rfl rfl rfl ?_
          refine x_goto hg dX5_usedWithin_53 (pc' := 5) (by decide) ?_
          exact ih _ _ _ hw
        · refine x_iload_3 hg dX5_usedWithin_41 rfl ?_
          refine x_aload_1 hg dX5_usedWithin_42 rfl ?_
          refine x_iload_4 hg dX5_usedWithin_43 rfl ?_
          refine x_callVI hg (xBag_usedOf (gL g)  hw) kC_1 (by decide) rfl im_X0_usedOf se_X0_usedOf mi_X0_usedOf ml_X5_93 rfl rfl (As := [.int a4]) rfl rfl rfl dX5_usedWithin_45 rfl (fun r4 s4 hw => ?_)
          refine x_iadd hg dX5_usedWithin_48 rfl ?_
          refine x_istore_3 hg dX5_usedWithin_49 rfl rfl rfl ?_
          refine x_iinc_4 hg dX5_usedWithin_50 ic_1 rfl rfl rfl ?_
          refine x_goto hg dX5_usedWithin_53 (pc' := 5) (by decide) ?_
          exact ih _ _ _ hw
set_option maxRecDepth 100000 in
set_option maxHeartbeats 4000000 in
theorem xThought_usedWithin {w : Wc} (l : Launch) {a2 : Int32} {s0 : Sg} {P : Int32 → Sg → Prop} (hw : wThought_usedWithin a2 s0 P) : CI shC w l 6 (.code yX5_usedWithin cX5_usedWithin 5 (some .int)) yX5_usedWithin [.ref (ad w 67), .ref (ad w 1), .int a2] s0 P := by
  refine ci_of_i (own := "BagBottom$Thought") (ls0 := [some (.ref (ad w 67)), some (.ref (ad w 1)), some (.int a2), none, none]) rfl pn_X5 rfl rfl (fun g el hg => ?_)
  unfold wThought_usedWithin at hw
  refine x_ic hg dX5_usedWithin_0 ic_0 rfl ?_
  refine x_istore_3 hg dX5_usedWithin_1 rfl rfl rfl ?_
  refine x_ic hg dX5_usedWithin_2 ic_0 rfl ?_
  refine x_istore_4 hg dX5_usedWithin_3 rfl rfl rfl ?_
  refine x_drop_0 ?_
  obtain ⟨N1, hw⟩ := hw
  refine xThought_usedWithin_5 hg  (fun v1 s1 hw => ?_) _ _ _ _ hw
  · refine x_iload_3 hg dX5_usedWithin_56 rfl ?_
    exact x_ret hg dX5_usedWithin_57 hw
def wThought_stepsToBe_33 (k2 : Nat) (P : Int32 → Sg → Prop) (K80 : Sg → Prop) : Nat → Int32 → Sg → Prop
  | 0, _, _ => False
  | n + 1, a3, s0 => ((99 < a3 → K80  s0) ∧ (¬ 99 < a3 → (wRow_alikeWith k2 72 s0 (fun (r1 : Int32) (s1 : Sg) => ((¬ r1 = (s1 72 1) → (wBag_shake 72 (((s1 1 4) + a3)) s1 (fun (r2 : Int32) (s2 : Sg) => wThought_stepsToBe_33 k2 P K80 n ((a3 + 1)) s2))) ∧ (r1 = (s1 72 1) → P a3 s1))))))
def wThought_stepsToBe (k2 : Nat) (s0 : Sg) (P : Int32 → Sg → Prop) : Prop := (((s0 k2 1) = (s0 3 1) → (wBag_learnSinks  s0 (fun (s1 : Sg) => (wRow_copy 72 3 s1 (fun (s2 : Sg) => (∃ N1 : Nat, wThought_stepsToBe_33 k2 P (fun  (s3 : Sg) => P ((-1)) s3) N1 0 s2)))))) ∧ (¬ (s0 k2 1) = (s0 3 1) → P ((-1)) s0))
set_option maxRecDepth 100000 in
set_option maxHeartbeats 4000000 in
theorem xThought_stepsToBe_33 {w : Wc} {g : Gx} {Q : State → Prop} {k2 : Nat} {P : Int32 → Sg → Prop} {K80 : Sg → Prop} (hg : OK shC w g 4 cX5_stepsToBe "BagBottom$Thought" 4 (some .int)) (hk2 : kd shC k2 = 2) (hQ : Q = QI shC w g P) (hK80 : ∀ (s0 : Sg), K80  s0 → X shC w g Q 80 [none, none, none, none] [] s0) : ∀ (n : Nat) (a3 : Int32) (s0 : Sg), wThought_stepsToBe_33 k2 P K80 n a3 s0 → X shC w g Q 33 [some (.ref (ad w 67)), some (.ref (ad w 1)), some (.ref (ad w k2)), some (.int a3)] [] s0 := by
  subst hQ
  intro n
  induction n with
  | zero =>
    intro a3 s0 hw
    exact hw.elim
  | succ n ih =>
    intro a3 s0 hw
    rw [wThought_stepsToBe_33] at hw
    refine x_iload_3 hg dX5_stepsToBe_33 rfl ?_
    refine x_bi hg dX5_stepsToBe_34 bp_99 rfl ?_
    refine x_icmp_gt hg dX5_stepsToBe_36 (tg := 80) (by decide) rfl hw (fun hw => ?_) (fun hw => ?_)
    · refine x_drop_0 ?_
      refine x_drop_1 ?_
      refine x_drop_2 ?_
      refine x_drop_3 ?_
      exact hK80  _ hw
    · refine x_aload_2 hg dX5_stepsToBe_39 rfl ?_
      refine x_aload_0 hg dX5_stepsToBe_40 rfl ?_
      refine get_X5_2 hg kC_67 fl_X5_23 dX5_stepsToBe_41 rfl (k2 := 72) rfl ?_
      refine x_callVI hg (xRow_alikeWith (gL g) hk2 kC_72 hw) hk2 (by decide) rfl im_X1_alikeWith se_X1_alikeWith mi_X1_alikeWith ml_X5_63 rfl rfl (As := [.ref (ad w 72)]) rfl rfl rfl dX5_stepsToBe_44 rfl (fun r1 s1 hw => ?_)
      refine x_aload_0 hg dX5_stepsToBe_47 rfl ?_
      refine get_X5_2 hg kC_67 fl_X5_23 dX5_stepsToBe_48 rfl (k2 := 72) rfl ?_
      refine get_X1_1 hg kC_72 fl_X5_60 dX5_stepsToBe_51 rfl ?_
      refine x_icmp_ne hg dX5_stepsToBe_54 (tg := 59) (by decide) rfl hw (fun hw => ?_) (fun hw => ?_)
      · refine x_aload_1 hg dX5_stepsToBe_59 rfl ?_
        refine x_aload_0 hg dX5_stepsToBe_60 rfl ?_
        refine get_X5_2 hg kC_67 fl_X5_23 dX5_stepsToBe_61 rfl (k2 := 72) rfl ?_
        refine x_aload_1 hg dX5_stepsToBe_64 rfl ?_
        refine get_X0_4 hg kC_1 fl_X5_45 dX5_stepsToBe_65 rfl ?_
        refine x_iload_3 hg dX5_stepsToBe_68 rfl ?_
        refine x_iadd hg dX5_stepsToBe_69 rfl ?_
        refine x_callVI hg (xBag_shake (gL g) kC_72 hw) kC_1 (by decide) rfl im_X0_shake se_X0_shake mi_X0_shake ml_X5_49 rfl rfl (As := [.ref (ad w 72), .int ((s1 1 4) + a3)]) rfl rfl rfl dX5_stepsToBe_70 rfl (fun r2 s2 hw => ?_)
        refine x_pop hg dX5_stepsToBe_73 rfl rfl ?_
        refine x_iinc_3 hg dX5_stepsToBe_74 ic_1 rfl rfl rfl ?_
        refine x_goto hg dX5_stepsToBe_77 (pc' := 33) (by decide) ?_
        exact ih _ _ hw
      · refine x_iload_3 hg dX5_stepsToBe_57 rfl ?_
        exact x_ret hg dX5_stepsToBe_58 hw
set_option maxRecDepth 100000 in
set_option maxHeartbeats 4000000 in
theorem xThought_stepsToBe {w : Wc} (l : Launch) {k2 : Nat} (hk2 : kd shC k2 = 2) {s0 : Sg} {P : Int32 → Sg → Prop} (hw : wThought_stepsToBe k2 s0 P) : CI shC w l 4 (.code yX5_stepsToBe cX5_stepsToBe 4 (some .int)) yX5_stepsToBe [.ref (ad w 67), .ref (ad w 1), .ref (ad w k2)] s0 P := by
  refine ci_of_i (own := "BagBottom$Thought") (ls0 := [some (.ref (ad w 67)), some (.ref (ad w 1)), some (.ref (ad w k2)), none]) rfl pn_X5 rfl rfl (fun g el hg => ?_)
  unfold wThought_stepsToBe at hw
  refine x_aload_2 hg dX5_stepsToBe_0 rfl ?_
  refine get_X1_1 hg hk2 fl_X5_60 dX5_stepsToBe_1 rfl ?_
  refine x_aload_1 hg dX5_stepsToBe_4 rfl ?_
  refine get_X0_2 hg kC_1 fl_X5_38 dX5_stepsToBe_5 rfl (k2 := 3) rfl ?_
  refine get_X1_1 hg kC_3 fl_X5_60 dX5_stepsToBe_8 rfl ?_
  refine x_icmp_eq hg dX5_stepsToBe_11 (tg := 16) (by decide) rfl hw (fun hw => ?_) (fun hw => ?_)
  · refine x_aload_1 hg dX5_stepsToBe_16 rfl ?_
    refine x_callVV hg (xBag_learnSinks (gL g)  hw) kC_1 (by decide) rfl im_X0_learnSinks se_X0_learnSinks mi_X0_learnSinks ml_X5_33 rfl rfl (As := []) rfl rfl rfl dX5_stepsToBe_17 rfl (fun s1 hw => ?_)
    refine x_aload_0 hg dX5_stepsToBe_20 rfl ?_
    refine get_X5_2 hg kC_67 fl_X5_23 dX5_stepsToBe_21 rfl (k2 := 72) rfl ?_
    refine x_aload_1 hg dX5_stepsToBe_24 rfl ?_
    refine get_X0_2 hg kC_1 fl_X5_38 dX5_stepsToBe_25 rfl (k2 := 3) rfl ?_
    refine x_callVV hg (xRow_copy (gL g) kC_72 kC_3 hw) kC_72 (by decide) rfl im_X1_copy se_X1_copy mi_X1_copy ml_X5_41 rfl rfl (As := [.ref (ad w 3)]) rfl rfl rfl dX5_stepsToBe_28 rfl (fun s2 hw => ?_)
    refine x_ic hg dX5_stepsToBe_31 ic_0 rfl ?_
    refine x_istore_3 hg dX5_stepsToBe_32 rfl rfl rfl ?_
    obtain ⟨N1, hw⟩ := hw
    refine xThought_stepsToBe_33 hg hk2 rfl (fun  s3 hw => ?_) _ _ _ hw
    · refine x_ic hg dX5_stepsToBe_80 ic_m1 rfl ?_
      exact x_ret hg dX5_stepsToBe_81 hw
  · refine x_ic hg dX5_stepsToBe_14 ic_m1 rfl ?_
    exact x_ret hg dX5_stepsToBe_15 hw
