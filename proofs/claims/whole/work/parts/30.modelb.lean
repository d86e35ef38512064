def wM_feed_40 (f1 : Int64) (f3 : Int32) (K88 : Sg → Prop) : Nat → Int32 → Sg → Prop
  | 0, _, _ => False
  | n + 1, a4, s0 => ((f3 ≤ a4 → K88  s0) ∧ (¬ f3 ≤ a4 → (vp_in ((53 + (s0 1 5))) 379 ∧ ∀ s1 : Sg, s1 = u2 s0 1 (ix ((53 + (s0 1 5)))) ((Int64.toInt32 ((f1 >>> ((8 * a4).toInt64 &&& 63)) &&& 255))) → (∀ s2 : Sg, s2 = u2 s1 1 5 (((s1 1 5) + 1)) → wM_feed_40 f1 f3 K88 n ((a4 + 1)) s2))))
def wM_feed (a1 : Int64) (a3 : Int32) (s0 : Sg) (P : Int32 → Sg → Prop) : Prop := (wM_in a3 1 8 s0 (fun (r1 : Int32) (s1 : Sg) => ((¬ r1 = 0 → ((((s1 1 5) + a3) ≤ 60 → (∃ N1 : Nat, wM_feed_40 a1 a3 (fun  (s2 : Sg) => P ((s2 1 5)) s2) N1 0 s1)) ∧ (¬ ((s1 1 5) + a3) ≤ 60 → (wM_error ((-1000000004)) s1 (fun (r2 : Int32) (s2 : Sg) => P r2 s2))))) ∧ (r1 = 0 → (wM_error ((-1000000001)) s1 (fun (r2 : Int32) (s2 : Sg) => P r2 s2))))))
set_option maxRecDepth 100000 in
set_option maxHeartbeats 4000000 in
theorem xM_feed_40 {w : Wc} {g : Gx} {Q : State → Prop} {f1 : Int64} {f3 : Int32} {K88 : Sg → Prop} (hg : OK shM w g 2 cX8_feed "BagBottomModel" 5 (some .int)) (hK88 : ∀ (s0 : Sg), K88  s0 → X shM w g Q 88 [some (.ref (ad w 0)), none, none, none, none] [] s0) : ∀ (n : Nat) (a4 : Int32) (s0 : Sg), wM_feed_40 f1 f3 K88 n a4 s0 → X shM w g Q 40 [some (.ref (ad w 0)), some (.long f1), none, some (.int f3), some (.int a4)] [] s0 := by
  intro n
  induction n with
  | zero =>
    intro a4 s0 hw
    exact hw.elim
  | succ n ih =>
    intro a4 s0 hw
    rw [wM_feed_40] at hw
    refine x_iload_4 hg dX8_feed_40 rfl ?_
    refine x_iload_3 hg dX8_feed_42 rfl ?_
    refine x_icmp_ge hg dX8_feed_43 (tg := 88) (by decide) rfl hw (fun hw => ?_) (fun hw => ?_)
    · refine x_drop_1 ?_
      refine x_drop_3 ?_
      refine x_drop_4 ?_
      exact hK88  _ hw
    · refine x_aload_0 hg dX8_feed_46 rfl ?_
      refine get_X8_0 hg kM_0 fl_X8_9 dX8_feed_47 rfl (k2 := 1) rfl ?_
      refine x_bi hg dX8_feed_50 bp_53 rfl ?_
      refine x_aload_0 hg dX8_feed_52 rfl ?_
      refine get_X8_0 hg kM_0 fl_X8_9 dX8_feed_53 rfl (k2 := 1) rfl ?_
      refine x_ic hg dX8_feed_56 ic_5 rfl ?_
      refine x_ialdc hg kM_1 rfl vi_5_379 ix_5 dX8_feed_57 rfl ?_
      refine x_iadd hg dX8_feed_58 rfl ?_
      refine x_lload_1 hg dX8_feed_59 rfl ?_
      refine x_bi hg dX8_feed_60 bp_8 rfl ?_
      refine x_iload_4 hg dX8_feed_62 rfl ?_
      refine x_imul hg dX8_feed_64 rfl ?_
      refine x_lshr hg dX8_feed_65 rfl ?_
      refine x_ldc2 hg kl_X8_103 dX8_feed_66 rfl ?_
      refine x_land hg dX8_feed_69 rfl ?_
      refine x_l2i hg dX8_feed_70 rfl ?_
      refine x_iast hg kM_1 rfl dX8_feed_71 rfl hw (fun s1 hw => ?_)
      refine x_aload_0 hg dX8_feed_72 rfl ?_
      refine get_X8_0 hg kM_0 fl_X8_9 dX8_feed_73 rfl (k2 := 1) rfl ?_
      refine x_ic hg dX8_feed_76 ic_5 rfl ?_
      refine x_dup2 hg dX8_feed_77 rfl rfl rfl ?_
      refine x_ialdc hg kM_1 rfl vi_5_379 ix_5 dX8_feed_78 rfl ?_
      refine x_ic hg dX8_feed_79 ic_1 rfl ?_
      refine x_iadd hg dX8_feed_80 rfl ?_
      refine x_iastc hg kM_1 rfl vi_5_379 ix_5 dX8_feed_81 rfl hw (fun s2 hw => ?_)
      refine x_iinc_4 hg dX8_feed_82 ic_1 rfl rfl rfl ?_
      refine x_goto hg dX8_feed_85 (pc' := 40) (by decide) ?_
      exact ih _ _ hw
set_option maxRecDepth 100000 in
set_option maxHeartbeats 4000000 in
theorem xM_feed {w : Wc} (l : Launch) {a1 : Int64} {a3 : Int32} {s0 : Sg} {P : Int32 → Sg → Prop} (hw : wM_feed a1 a3 s0 P) : CI shM w l 2 (.code yX8_feed cX8_feed 5 (some .int)) yX8_feed [.ref (ad w 0), .long a1, .int a3] s0 P := by
  refine ci_of_i (own := "BagBottomModel") (ls0 := [some (.ref (ad w 0)), some (.long a1), none, some (.int a3), none]) rfl pn_X8 rfl rfl (fun g el hg => ?_)
  unfold wM_feed at hw
  refine x_iload_3 hg dX8_feed_0 rfl ?_
  refine x_ic hg dX8_feed_1 ic_1 rfl ?_
  refine x_bi hg dX8_feed_2 bp_8 rfl ?_
  refine x_callSI hg (xM_in (gL g)  hw) sm_X8_in mi_X8_in ml_X8_57 rfl rfl (As := [.int a3, .int 1, .int 8]) rfl rfl rfl dX8_feed_4 rfl (fun r1 s1 hw => ?_)
  refine x_if_ne hg dX8_feed_7 (tg := 17) (by decide) rfl hw (fun hw => ?_) (fun hw => ?_)
  · refine x_aload_0 hg dX8_feed_17 rfl ?_
    refine get_X8_0 hg kM_0 fl_X8_9 dX8_feed_18 rfl (k2 := 1) rfl ?_
    refine x_ic hg dX8_feed_21 ic_5 rfl ?_
    refine x_ialdc hg kM_1 rfl vi_5_379 ix_5 dX8_feed_22 rfl ?_
    refine x_iload_3 hg dX8_feed_23 rfl ?_
    refine x_iadd hg dX8_feed_24 rfl ?_
    refine x_bi hg dX8_feed_25 bp_60 rfl ?_
    refine x_icmp_le hg dX8_feed_27 (tg := 37) (by decide) rfl hw (fun hw => ?_) (fun hw => ?_)
    · refine x_ic hg dX8_feed_37 ic_0 rfl ?_
      refine x_istore_4 hg dX8_feed_38 rfl rfl rfl ?_
      obtain ⟨N1, hw⟩ := hw
      refine xM_feed_40 hg  (fun  s2 hw => ?_) _ _ _ hw
      · refine x_aload_0 hg dX8_feed_88 rfl ?_
        refine get_X8_0 hg kM_0 fl_X8_9 dX8_feed_89 rfl (k2 := 1) rfl ?_
        refine x_ic hg dX8_feed_92 ic_5 rfl ?_
        refine x_ialdc hg kM_1 rfl vi_5_379 ix_5 dX8_feed_93 rfl ?_
        exact x_ret hg dX8_feed_94 hw
    · refine x_aload_0 hg dX8_feed_30 rfl ?_
      refine x_ldc hg kc_X8_81 dX8_feed_31 rfl ?_
      refine x_callVI hg (xM_error (gL g)  hw) kM_0 (by decide) rfl im_X8_error se_X8_error mi_X8_error ml_X8_78 rfl rfl (As := [.int (-1000000004)]) rfl rfl rfl dX8_feed_33 rfl (fun r2 s2 hw => ?_)
      exact x_ret hg dX8_feed_36 hw
  · refine x_aload_0 hg dX8_feed_10 rfl ?_
    refine x_ldc hg kc_X8_77 dX8_feed_11 rfl ?_
    refine x_callVI hg (xM_error (gL g)  hw) kM_0 (by decide) rfl im_X8_error se_X8_error mi_X8_error ml_X8_78 rfl rfl (As := [.int (-1000000001)]) rfl rfl rfl dX8_feed_13 rfl (fun r2 s2 hw => ?_)
    exact x_ret hg dX8_feed_16 hw
def wM_look (s0 : Sg) (P : Int32 → Sg → Prop) : Prop := (((s0 1 5) ≤ (s0 0 13) → P ((-1)) s0) ∧ (¬ (s0 1 5) ≤ (s0 0 13) → (vp_in ((53 + (s0 0 13))) 379 ∧ P ((s0 1 (ix ((53 + (s0 0 13)))))) s0)))
set_option maxRecDepth 100000 in
set_option maxHeartbeats 4000000 in
theorem xM_look {w : Wc} (l : Launch) {s0 : Sg} {P : Int32 → Sg → Prop} (hw : wM_look  s0 P) : CI shM w l 1 (.code yX8_look cX8_look 1 (some .int)) yX8_look [.ref (ad w 0)] s0 P := by
  refine ci_of_i (own := "BagBottomModel") (ls0 := [some (.ref (ad w 0))]) rfl pn_X8 rfl rfl (fun g el hg => ?_)
  unfold wM_look at hw
  refine x_aload_0 hg dX8_look_0 rfl ?_
  refine get_X8_13 hg kM_0 fl_X8_105 dX8_look_1 rfl ?_
  refine x_aload_0 hg dX8_look_4 rfl ?_
  refine get_X8_0 hg kM_0 fl_X8_9 dX8_look_5 rfl (k2 := 1) rfl ?_
  refine x_ic hg dX8_look_8 ic_5 rfl ?_
  refine x_ialdc hg kM_1 rfl vi_5_379 ix_5 dX8_look_9 rfl ?_
  refine x_icmp_ge hg dX8_look_10 (tg := 28) (by decide) rfl hw (fun hw => ?_) (fun hw => ?_)
  · refine x_ic hg dX8_look_28 ic_m1 rfl ?_
    exact x_ret hg dX8_look_29 hw
  · refine x_aload_0 hg dX8_look_13 rfl ?_
    refine get_X8_0 hg kM_0 fl_X8_9 dX8_look_14 rfl (k2 := 1) rfl ?_
    refine x_bi hg dX8_look_17 bp_53 rfl ?_
    refine x_aload_0 hg dX8_look_19 rfl ?_
    refine get_X8_13 hg kM_0 fl_X8_105 dX8_look_20 rfl ?_
    refine x_iadd hg dX8_look_23 rfl ?_
    refine x_iald hg kM_1 rfl dX8_look_24 rfl hw (fun hw => ?_)
    refine x_goto hg dX8_look_25 (pc' := 29) (by decide) ?_
    exact x_ret hg dX8_look_29 hw
def wM_step (a1 : Int32) (a2 : Int32) (s0 : Sg) (P : Sg → Prop) : Prop := ((60 ≤ (s0 0 12) → P s0) ∧ (¬ 60 ≤ (s0 0 12) → (vp_in ((s0 0 12)) 60 ∧ ∀ s1 : Sg, s1 = u2 s0 8 (ix ((s0 0 12))) a1 → (vp_in ((s1 0 12)) 60 ∧ ∀ s2 : Sg, s2 = u2 s1 9 (ix ((s1 0 12))) a2 → (∀ s3 : Sg, s3 = u2 s2 0 12 (((s2 0 12) + 1)) → P s3)))))
set_option maxRecDepth 100000 in
set_option maxHeartbeats 4000000 in
theorem xM_step {w : Wc} (l : Launch) {a1 : Int32} {a2 : Int32} {s0 : Sg} {P : Sg → Prop} (hw : wM_step a1 a2 s0 P) : CV shM w l 1 (.code yX8_step cX8_step 3 none) yX8_step [.ref (ad w 0), .int a1, .int a2] s0 P := by
  refine ci_of_v (own := "BagBottomModel") (ls0 := [some (.ref (ad w 0)), some (.int a1), some (.int a2)]) rfl pn_X8 rfl rfl (fun g el hg => ?_)
  unfold wM_step at hw
  refine x_aload_0 hg dX8_step_0 rfl ?_
  refine get_X8_12 hg kM_0 fl_X8_109 dX8_step_1 rfl ?_
  refine x_aload_0 hg dX8_step_4 rfl ?_
  refine get_X8_8 hg kM_0 fl_X8_31 dX8_step_5 rfl (k2 := 8) rfl ?_
  refine x_alen hg kM_8 rfl an_60 dX8_step_8 rfl ?_
  refine x_icmp_ge hg dX8_step_9 (tg := 42) (by decide) rfl hw (fun hw => ?_) (fun hw => ?_)
  · exact x_vret hg dX8_step_42 hw
  · refine x_aload_0 hg dX8_step_12 rfl ?_
    refine get_X8_8 hg kM_0 fl_X8_31 dX8_step_13 rfl (k2 := 8) rfl ?_
    refine x_aload_0 hg dX8_step_16 rfl ?_
    refine get_X8_12 hg kM_0 fl_X8_109 dX8_step_17 rfl ?_
    refine x_iload_1 hg dX8_step_20 rfl ?_
    refine x_iast hg kM_8 rfl dX8_step_21 rfl hw (fun s1 hw => ?_)
    refine x_aload_0 hg dX8_step_22 rfl ?_
    refine get_X8_9 hg kM_0 fl_X8_34 dX8_step_23 rfl (k2 := 9) rfl ?_
    refine x_aload_0 hg dX8_step_26 rfl ?_
    refine get_X8_12 hg kM_0 fl_X8_109 dX8_step_27 rfl ?_
    refine x_iload_2 hg dX8_step_30 rfl ?_
    refine x_iast hg kM_9 rfl dX8_step_31 rfl hw (fun s2 hw => ?_)
    refine x_aload_0 hg dX8_step_32 rfl ?_
    refine x_dup hg dX8_step_33 rfl rfl ?_
    refine get_X8_12 hg kM_0 fl_X8_109 dX8_step_34 rfl ?_
    refine x_ic hg dX8_step_37 ic_1 rfl ?_
    refine x_iadd hg dX8_step_38 rfl ?_
    refine put_X8_12 hg kM_0 fl_X8_109 dX8_step_39 rfl hw (fun s3 hw => ?_)
    exact x_vret hg dX8_step_42 hw
def wM_nameOf (a1 : Int32) (s0 : Sg) (P : Int32 → Sg → Prop) : Prop := ((a1 = 100 → (((s0 0 16) = 0 → ((¬ a1 = 102 → P 1 s0) ∧ (a1 = 102 → P 0 s0))) ∧ (¬ (s0 0 16) = 0 → P ((-1)) s0))) ∧ (¬ a1 = 100 → ((a1 = 102 → (((s0 0 16) = 0 → ((¬ a1 = 102 → P 1 s0) ∧ (a1 = 102 → P 0 s0))) ∧ (¬ (s0 0 16) = 0 → P ((-1)) s0))) ∧ (¬ a1 = 102 → ((a1 = 107 → ((¬ (s0 0 16) = 0 → P 1 s0) ∧ ((s0 0 16) = 0 → P 2 s0))) ∧ (¬ a1 = 107 → ((a1 = 109 → (((s0 0 16) = 1 → ((¬ a1 = 110 → P 2 s0) ∧ (a1 = 110 → P 0 s0))) ∧ (¬ (s0 0 16) = 1 → P ((-1)) s0))) ∧ (¬ a1 = 109 → ((a1 = 110 → (((s0 0 16) = 1 → ((¬ a1 = 110 → P 2 s0) ∧ (a1 = 110 → P 0 s0))) ∧ (¬ (s0 0 16) = 1 → P ((-1)) s0))) ∧ (¬ a1 = 110 → P ((-1)) s0))))))))))
set_option maxRecDepth 100000 in
set_option maxHeartbeats 4000000 in
theorem xM_nameOf {w : Wc} (l : Launch) {a1 : Int32} {s0 : Sg} {P : Int32 → Sg → Prop} (hw : wM_nameOf a1 s0 P) : CI shM w l 1 (.code yX8_nameOf cX8_nameOf 2 (some .int)) yX8_nameOf [.ref (ad w 0), .int a1] s0 P := by
  refine ci_of_i (own := "BagBottomModel") (ls0 := [some (.ref (ad w 0)), some (.int a1)]) rfl pn_X8 rfl rfl (fun g el hg => ?_)
  unfold wM_nameOf at hw
  refine x_iload_1 hg dX8_nameOf_0 rfl ?_
  refine x_br hw (fun h0 hw => ?_) (fun h0 hw => ?_)
  · refine x_tab hg dX8_nameOf_1 (ps := [(100, 59), (101, 119), (102, 59), (103, 119), (104, 119), (105, 119), (106, 119), (107, 106), (108, 119), (109, 82), (110, 82)]) rfl (tg := 60) (by rw [h0]; decide) ?_
    refine x_aload_0 hg dX8_nameOf_60 rfl ?_
    refine get_X8_16 hg kM_0 fl_X8_112 dX8_nameOf_61 rfl ?_
    refine x_if_eq hg dX8_nameOf_64 (tg := 71) (by decide) rfl hw (fun hw => ?_) (fun hw => ?_)
    · refine x_iload_1 hg dX8_nameOf_71 rfl ?_
      refine x_bi hg dX8_nameOf_72 bp_102 rfl ?_
      refine x_icmp_ne hg dX8_nameOf_74 (tg := 81) (by decide) rfl hw (fun hw => ?_) (fun hw => ?_)
      · refine x_ic hg dX8_nameOf_81 ic_1 rfl ?_
        exact x_ret hg dX8_nameOf_82 hw
      · refine x_ic hg dX8_nameOf_77 ic_0 rfl ?_
        refine x_goto hg dX8_nameOf_78 (pc' := 82) (by decide) ?_
        exact x_ret hg dX8_nameOf_82 hw
    · refine x_ic hg dX8_nameOf_67 ic_m1 rfl ?_
      refine x_goto hg dX8_nameOf_68 (pc' := 82) (by decide) ?_
      exact x_ret hg dX8_nameOf_82 hw
  · skip
    refine x_br hw (fun h1 hw => ?_) (fun h1 hw => ?_)
    · refine x_tab hg dX8_nameOf_1 (ps := [(100, 59), (101, 119), (102, 59), (103, 119), (104, 119), (105, 119), (106, 119), (107, 106), (108, 119), (109, 82), (110, 82)]) rfl (tg := 60) (by rw [h1]; decide) ?_
      refine x_aload_0 hg dX8_nameOf_60 rfl ?_
      refine get_X8_16 hg kM_0 fl_X8_112 dX8_nameOf_61 rfl ?_
      refine x_if_eq hg dX8_nameOf_64 (tg := 71) (by decide) rfl hw (fun hw => ?_) (fun hw => ?_)
      · refine x_iload_1 hg dX8_nameOf_71 rfl ?_
        refine x_bi hg dX8_nameOf_72 bp_102 rfl ?_
        refine x_icmp_ne hg dX8_nameOf_74 (tg := 81) (by decide) rfl hw (fun hw => ?_) (fun hw => ?_)
        · refine x_ic hg dX8_nameOf_81 ic_1 rfl ?_
          exact x_ret hg dX8_nameOf_82 hw
        · refine x_ic hg dX8_nameOf_77 ic_0 rfl ?_
          refine x_goto hg dX8_nameOf_78 (pc' := 82) (by decide) ?_
          exact x_ret hg dX8_nameOf_82 hw
      · refine x_ic hg dX8_nameOf_67 ic_m1 rfl ?_
        refine x_goto hg dX8_nameOf_68 (pc' := 82) (by decide) ?_
        exact x_ret hg dX8_nameOf_82 hw
    · skip
      refine x_br hw (fun h2 hw => ?_) (fun h2 hw => ?_)
      · refine x_tab hg dX8_nameOf_1 (ps := [(100, 59), (101, 119), (102, 59), (103, 119), (104, 119), (105, 119), (106, 119), (107, 106), (108, 119), (109, 82), (110, 82)]) rfl (tg := 107) (by rw [h2]; decide) ?_
        refine x_aload_0 hg dX8_nameOf_107 rfl ?_
        refine get_X8_16 hg kM_0 fl_X8_112 dX8_nameOf_108 rfl ?_
        refine x_if_ne hg dX8_nameOf_111 (tg := 118) (by decide) rfl hw (fun hw => ?_) (fun hw => ?_)
        · refine x_ic hg dX8_nameOf_118 ic_1 rfl ?_
          exact x_ret hg dX8_nameOf_119 hw
        · refine x_ic hg dX8_nameOf_114 ic_2 rfl ?_
          refine x_goto hg dX8_nameOf_115 (pc' := 119) (by decide) ?_
          exact x_ret hg dX8_nameOf_119 hw
      · skip
        refine x_br hw (fun h3 hw => ?_) (fun h3 hw => ?_)
        · refine x_tab hg dX8_nameOf_1 (ps := [(100, 59), (101, 119), (102, 59), (103, 119), (104, 119), (105, 119), (106, 119), (107, 106), (108, 119), (109, 82), (110, 82)]) rfl (tg := 83) (by rw [h3]; decide) ?_
          refine x_aload_0 hg dX8_nameOf_83 rfl ?_
          refine get_X8_16 hg kM_0 fl_X8_112 dX8_nameOf_84 rfl ?_
          refine x_ic hg dX8_nameOf_87 ic_1 rfl ?_
          refine x_icmp_eq hg dX8_nameOf_88 (tg := 95) (by decide) rfl hw (fun hw => ?_) (fun hw => ?_)
          · refine x_iload_1 hg dX8_nameOf_95 rfl ?_
            refine x_bi hg dX8_nameOf_96 bp_110 rfl ?_
            refine x_icmp_ne hg dX8_nameOf_98 (tg := 105) (by decide) rfl hw (fun hw => ?_) (fun hw => ?_)
            · refine x_ic hg dX8_nameOf_105 ic_2 rfl ?_
              exact x_ret hg dX8_nameOf_106 hw
            · refine x_ic hg dX8_nameOf_101 ic_0 rfl ?_
              refine x_goto hg dX8_nameOf_102 (pc' := 106) (by decide) ?_
              exact x_ret hg dX8_nameOf_106 hw
          · refine x_ic hg dX8_nameOf_91 ic_m1 rfl ?_
            refine x_goto hg dX8_nameOf_92 (pc' := 106) (by decide) ?_
            exact x_ret hg dX8_nameOf_106 hw
        · skip
          refine x_br hw (fun h4 hw => ?_) (fun h4 hw => ?_)
          · refine x_tab hg dX8_nameOf_1 (ps := [(100, 59), (101, 119), (102, 59), (103, 119), (104, 119), (105, 119), (106, 119), (107, 106), (108, 119), (109, 82), (110, 82)]) rfl (tg := 83) (by rw [h4]; decide) ?_
            refine x_aload_0 hg dX8_nameOf_83 rfl ?_
            refine get_X8_16 hg kM_0 fl_X8_112 dX8_nameOf_84 rfl ?_
            refine x_ic hg dX8_nameOf_87 ic_1 rfl ?_
            refine x_icmp_eq hg dX8_nameOf_88 (tg := 95) (by decide) rfl hw (fun hw => ?_) (fun hw => ?_)
            · refine x_iload_1 hg dX8_nameOf_95 rfl ?_
              refine x_bi hg dX8_nameOf_96 bp_110 rfl ?_
              refine x_icmp_ne hg dX8_nameOf_98 (tg := 105) (by decide) rfl hw (fun hw => ?_) (fun hw => ?_)
              · refine x_ic hg dX8_nameOf_105 ic_2 rfl ?_
                exact x_ret hg dX8_nameOf_106 hw
              · refine x_ic hg dX8_nameOf_101 ic_0 rfl ?_
                refine x_goto hg dX8_nameOf_102 (pc' := 106) (by decide) ?_
                exact x_ret hg dX8_nameOf_106 hw
            · refine x_ic hg dX8_nameOf_91 ic_m1 rfl ?_
              refine x_goto hg dX8_nameOf_92 (pc' := 106) (by decide) ?_
              exact x_ret hg dX8_nameOf_106 hw
          · skip
            refine x_tab hg dX8_nameOf_1 (ps := [(100, 59), (101, 119), (102, 59), (103, 119), (104, 119), (105, 119), (106, 119), (107, 106), (108, 119), (109, 82), (110, 82)]) rfl (tg := 120) (by simp only [lk, if_neg h0, if_neg h1, if_neg h2, if_neg h3, if_neg h4, ite_self]; decide) ?_
            refine x_ic hg dX8_nameOf_120 ic_m1 rfl ?_
            exact x_ret hg dX8_nameOf_121 hw
def wM_number_4 (K52 : Int32 → Int32 → Sg → Prop) : Nat → Int32 → Int32 → Sg → Prop
  | 0, _, _, _ => False
  | n + 1, a1, a2, s0 => ((4 ≤ a2 → K52 a1 a2 s0) ∧ (¬ 4 ≤ a2 → (wM_look  s0 (fun (r1 : Int32) (s1 : Sg) => (wM_in r1 48 57 s1 (fun (r2 : Int32) (s2 : Sg) => ((r2 = 0 → K52 a1 a2 s2) ∧ (¬ r2 = 0 → (wM_look  s2 (fun (r3 : Int32) (s3 : Sg) => (∀ s4 : Sg, s4 = u2 s3 0 13 (((s3 0 13) + 1)) → wM_number_4 K52 n ((((10 * a1) + r3) - 48)) ((a2 + 1)) s4)))))))))))
def wM_number (s0 : Sg) (P : Sg → Prop) : Prop := (∃ N1 : Nat, wM_number_4 (fun (v1 : Int32) (v2 : Int32) (s1 : Sg) => ((¬ v2 = 0 → (∀ s2 : Sg, s2 = u2 s1 0 15 0 → (wM_step 1 v1 s2 (fun (s3 : Sg) => P s3)))) ∧ (v2 = 0 → (∀ s2 : Sg, s2 = u2 s1 0 15 1 → (wM_step 1 v1 s2 (fun (s3 : Sg) => P s3)))))) N1 0 0 s0)
set_option maxRecDepth 100000 in
set_option maxHeartbeats 4000000 in
theorem xM_number_4 {w : Wc} {g : Gx} {Q : State → Prop} {K52 : Int32 → Int32 → Sg → Prop} (hg : OK shM w g 2 cX8_number "BagBottomModel" 3 none) (hK52 : ∀ (a1 a2 : Int32) (s0 : Sg), K52 a1 a2 s0 → X shM w g Q 52 [some (.ref (ad w 0)), some (.int a1), some (.int a2)] [] s0) : ∀ (n : Nat) (a1 a2 : Int32) (s0 : Sg), wM_number_4 K52 n a1 a2 s0 → X shM w g Q 4 [some (.ref (ad w 0)), some (.int a1), some (.int a2)] [] s0 := by
  intro n
  induction n with
  | zero =>
    intro a1 a2 s0 hw
    exact hw.elim
  | succ n ih =>
    intro a1 a2 s0 hw
    rw [wM_number_4] at hw
    refine x_iload_2 hg dX8_number_4 rfl ?_
    refine x_ic hg dX8_number_5 ic_4 rfl ?_
    refine x_icmp_ge hg dX8_number_6 (tg := 52) (by decide) rfl hw (fun hw => ?_) (fun hw => ?_)
    · exact hK52 _ _ _ hw
    · refine x_aload_0 hg dX8_number_9 rfl ?_
      refine x_callVI hg (xM_look (gL g)  hw) kM_0 (by decide) rfl im_X8_look se_X8_look mi_X8_look ml_X8_115 rfl rfl (As := []) rfl rfl rfl dX8_number_10 rfl (fun r1 s1 hw => ?_)
      refine x_bi hg dX8_number_13 bp_48 rfl ?_
      refine x_bi hg dX8_number_15 bp_57 rfl ?_
      refine x_callSI hg (xM_in (gL g)  hw) sm_X8_in mi_X8_in ml_X8_57 rfl rfl (As := [.int r1, .int 48, .int 57]) rfl rfl rfl dX8_number_17 rfl (fun r2 s2 hw => ?_)
      refine x_if_eq hg dX8_number_20 (tg := 52) (by decide) rfl hw (fun hw => ?_) (fun hw => ?_)
      · exact hK52 _ _ _ hw
      · refine x_bi hg dX8_number_23 bp_10 rfl ?_
        refine x_iload_1 hg dX8_number_25 rfl ?_
        refine x_imul hg dX8_number_26 rfl ?_
        refine x_aload_0 hg dX8_number_27 rfl ?_
        refine x_callVI hg (xM_look (gL g)  hw) kM_0 (by decide) rfl im_X8_look se_X8_look mi_X8_look ml_X8_115 rfl rfl (As := []) rfl rfl rfl dX8_number_28 rfl (fun r3 s3 hw => ?_)
        refine x_iadd hg dX8_number_31 rfl ?_
        refine x_bi hg dX8_number_32 bp_48 rfl ?_
        refine x_isub hg dX8_number_34 rfl ?_
        refine x_istore_1 hg dX8_number_35 rfl rfl rfl ?_
        refine x_aload_0 hg dX8_number_36 rfl ?_
        refine x_dup hg dX8_number_37 rfl rfl ?_
        refine get_X8_13 hg kM_0 fl_X8_105 dX8_number_38 rfl ?_
        refine x_ic hg dX8_number_41 ic_1 rfl ?_
        refine x_iadd hg dX8_number_42 rfl ?_
        refine put_X8_13 hg kM_0 fl_X8_105 dX8_number_43 rfl hw (fun s4 hw => ?_)
        refine x_iinc_2 hg dX8_number_46 ic_1 rfl rfl rfl ?_
        refine x_goto hg dX8_number_49 (pc' := 4) (by decide) ?_
        exact ih _ _ _ hw
set_option maxRecDepth 100000 in
set_option maxHeartbeats 4000000 in
theorem xM_number {w : Wc} (l : Launch) {s0 : Sg} {P : Sg → Prop} (hw : wM_number  s0 P) : CV shM w l 2 (.code yX8_number cX8_number 3 none) yX8_number [.ref (ad w 0)] s0 P := by
  refine ci_of_v (own := "BagBottomModel") (ls0 := [some (.ref (ad w 0)), none, none]) rfl pn_X8 rfl rfl (fun g el hg => ?_)
  unfold wM_number at hw
  refine x_ic hg dX8_number_0 ic_0 rfl ?_
  refine x_istore_1 hg dX8_number_1 rfl rfl rfl ?_
  refine x_ic hg dX8_number_2 ic_0 rfl ?_
  refine x_istore_2 hg dX8_number_3 rfl rfl rfl ?_
  obtain ⟨N1, hw⟩ := hw
  refine xM_number_4 hg  (fun v1 v2 s1 hw => ?_) _ _ _ _ hw
  · refine x_aload_0 hg dX8_number_52 rfl ?_
    refine x_iload_2 hg dX8_number_53 rfl ?_
    refine x_if_ne hg dX8_number_54 (tg := 61) (by decide) rfl hw (fun hw => ?_) (fun hw => ?_)
    · refine x_ic hg dX8_number_61 ic_0 rfl ?_
      refine put_X8_15 hg kM_0 (by decide) fl_X8_119 dX8_number_62 rfl hw (fun s2 hw => ?_)
      refine x_aload_0 hg dX8_number_65 rfl ?_
      refine x_ic hg dX8_number_66 ic_1 rfl ?_
      refine x_iload_1 hg dX8_number_67 rfl ?_
      refine x_callVV hg (xM_step (gL g)  hw) kM_0 (by decide) rfl im_X8_step se_X8_step mi_X8_step ml_X8_123 rfl rfl (As := [.int 1, .int v1]) rfl rfl rfl dX8_number_68 rfl (fun s3 hw => ?_)
      exact x_vret hg dX8_number_71 hw
    · refine x_ic hg dX8_number_57 ic_1 rfl ?_
      refine x_goto hg dX8_number_58 (pc' := 62) (by decide) ?_
      refine put_X8_15 hg kM_0 (by decide) fl_X8_119 dX8_number_62 rfl hw (fun s2 hw => ?_)
      refine x_aload_0 hg dX8_number_65 rfl ?_
      refine x_ic hg dX8_number_66 ic_1 rfl ?_
      refine x_iload_1 hg dX8_number_67 rfl ?_
      refine x_callVV hg (xM_step (gL g)  hw) kM_0 (by decide) rfl im_X8_step se_X8_step mi_X8_step ml_X8_123 rfl rfl (As := [.int 1, .int v1]) rfl rfl rfl dX8_number_68 rfl (fun s3 hw => ?_)
      exact x_vret hg dX8_number_71 hw
def wM_any_4 (rc : Nat → List Int32 → Sg → (Int32 → Sg → Prop) → Prop) (K44 : Sg → Prop) : Nat → Sg → Prop
  | 0, _ => False
  | n + 1, s0 => ((¬ (s0 0 15) = 0 → K44  s0) ∧ ((s0 0 15) = 0 → (wM_look  s0 (fun (r1 : Int32) (s1 : Sg) => ((¬ r1 = 124 → K44  s1) ∧ (r1 = 124 → (∀ s2 : Sg, s2 = u2 s1 0 13 (((s1 0 13) + 1)) → (rc 1 [] s2 (fun (_z : Int32) (s3 : Sg) => (wM_step 124 0 s3 (fun (s4 : Sg) => wM_any_4 rc K44 n  s4)))))))))))
def wM_any (rc : Nat → List Int32 → Sg → (Int32 → Sg → Prop) → Prop) (s0 : Sg) (P : Int32 → Sg → Prop) : Prop := (rc 1 [] s0 (fun (_z : Int32) (s1 : Sg) => (∃ N1 : Nat, wM_any_4 rc (fun  (s2 : Sg) => P 0 s2) N1  s1)))
set_option maxRecDepth 100000 in
set_option maxHeartbeats 4000000 in
theorem xM_any_4 {w : Wc} {g : Gx} {d : Nat} {Q : State → Prop} {D : Nat} {rc : Nat → List Int32 → Sg → (Int32 → Sg → Prop) → Prop} {K44 : Sg → Prop} (hg : OK shM w g d cX8_any "BagBottomModel" 1 none) (hd : 3 ≤ d) (hDd : Nat.ble (D + 1) d = true) (hrc0 : ∀ (s : Sg) (R : Int32 → Sg → Prop), rc 0 [] s R → CV shM w (gL g) D (.code yX8_any cX8_any 1 none) yX8_any [.ref (ad w 0)] s (fun t => R 0 t)) (hrc1 : ∀ (s : Sg) (R : Int32 → Sg → Prop), rc 1 [] s R → CV shM w (gL g) D (.code yX8_all cX8_all 1 none) yX8_all [.ref (ad w 0)] s (fun t => R 0 t)) (hrc2 : ∀ (s : Sg) (R : Int32 → Sg → Prop), rc 2 [] s R → CV shM w (gL g) D (.code yX8_compares cX8_compares 2 none) yX8_compares [.ref (ad w 0)] s (fun t => R 0 t)) (hrc3 : ∀ (s : Sg) (R : Int32 → Sg → Prop), rc 3 [] s R → CV shM w (gL g) D (.code yX8_sum cX8_sum 2 none) yX8_sum [.ref (ad w 0)] s (fun t => R 0 t)) (hrc4 : ∀ (s : Sg) (R : Int32 → Sg → Prop), rc 4 [] s R → CV shM w (gL g) D (.code yX8_times cX8_times 2 none) yX8_times [.ref (ad w 0)] s (fun t => R 0 t)) (hrc5 : ∀ (s : Sg) (R : Int32 → Sg → Prop), rc 5 [] s R → CV shM w (gL g) D (.code yX8_one cX8_one 3 none) yX8_one [.ref (ad w 0)] s (fun t => R 0 t)) (hrc6 : ∀ (b1 : Int32) (s : Sg) (R : Int32 → Sg → Prop), rc 6 [b1] s R → CV shM w (gL g) D (.code yX8_opens cX8_opens 2 none) yX8_opens [.ref (ad w 0), .int b1] s (fun t => R 0 t)) (hK44 : ∀ (s0 : Sg), K44  s0 → X shM w g Q 44 [none] [] s0) : ∀ (n : Nat) (s0 : Sg), wM_any_4 rc K44 n  s0 → X shM w g Q 4 [some (.ref (ad w 0))] [] s0 := by
  intro n
  induction n with
  | zero =>
    intro  s0 hw
    exact hw.elim
  | succ n ih =>
    intro  s0 hw
    rw [wM_any_4] at hw
    refine x_aload_0 hg dX8_any_4 rfl ?_
    refine get_X8_15 hg kM_0 fl_X8_119 dX8_any_5 rfl ?_
    refine x_if_ne hg dX8_any_8 (tg := 44) (by decide) rfl hw (fun hw => ?_) (fun hw => ?_)
    · refine x_drop_0 ?_
      exact hK44  _ hw
    · refine x_aload_0 hg dX8_any_11 rfl ?_
      refine x_callVI hg (xM_look (gL g)  hw) kM_0 (by decide) rfl im_X8_look se_X8_look mi_X8_look ml_X8_115 (ble_of (by omega)) rfl (As := []) rfl rfl rfl dX8_any_12 rfl (fun r1 s1 hw => ?_)
      refine x_bi hg dX8_any_15 bp_124 rfl ?_
      refine x_icmp_ne hg dX8_any_17 (tg := 44) (by decide) rfl hw (fun hw => ?_) (fun hw => ?_)
      · refine x_drop_0 ?_
        exact hK44  _ hw
      · refine x_aload_0 hg dX8_any_20 rfl ?_
        refine x_dup hg dX8_any_21 rfl rfl ?_
        refine get_X8_13 hg kM_0 fl_X8_105 dX8_any_22 rfl ?_
        refine x_ic hg dX8_any_25 ic_1 rfl ?_
        refine x_iadd hg dX8_any_26 rfl ?_
        refine put_X8_13 hg kM_0 fl_X8_105 dX8_any_27 rfl hw (fun s2 hw => ?_)
        refine x_aload_0 hg dX8_any_30 rfl ?_
        refine x_callVV hg (hrc1  _ _ hw) kM_0 (by decide) rfl im_X8_all se_X8_all mi_X8_all ml_X8_154 hDd rfl (As := []) rfl rfl rfl dX8_any_31 rfl (fun s3 hw => ?_)
        refine x_aload_0 hg dX8_any_34 rfl ?_
        refine x_bi hg dX8_any_35 bp_124 rfl ?_
        refine x_ic hg dX8_any_37 ic_0 rfl ?_
        refine x_callVV hg (xM_step (gL g)  hw) kM_0 (by decide) rfl im_X8_step se_X8_step mi_X8_step ml_X8_123 (ble_of (by omega)) rfl (As := [.int 124, .int 0]) rfl rfl rfl dX8_any_38 rfl (fun s4 hw => ?_)
        refine x_goto hg dX8_any_41 (pc' := 4) (by decide) ?_
        exact ih  _ hw
set_option maxRecDepth 100000 in
set_option maxHeartbeats 4000000 in
theorem xbM_any {w : Wc} {l : Launch} {d : Nat} {D : Nat} {rc : Nat → List Int32 → Sg → (Int32 → Sg → Prop) → Prop} (hd : 3 ≤ d) (hDd : Nat.ble (D + 1) d = true) (hrc0 : ∀ (s : Sg) (R : Int32 → Sg → Prop), rc 0 [] s R → CV shM w l D (.code yX8_any cX8_any 1 none) yX8_any [.ref (ad w 0)] s (fun t => R 0 t)) (hrc1 : ∀ (s : Sg) (R : Int32 → Sg → Prop), rc 1 [] s R → CV shM w l D (.code yX8_all cX8_all 1 none) yX8_all [.ref (ad w 0)] s (fun t => R 0 t)) (hrc2 : ∀ (s : Sg) (R : Int32 → Sg → Prop), rc 2 [] s R → CV shM w l D (.code yX8_compares cX8_compares 2 none) yX8_compares [.ref (ad w 0)] s (fun t => R 0 t)) (hrc3 : ∀ (s : Sg) (R : Int32 → Sg → Prop), rc 3 [] s R → CV shM w l D (.code yX8_sum cX8_sum 2 none) yX8_sum [.ref (ad w 0)] s (fun t => R 0 t)) (hrc4 : ∀ (s : Sg) (R : Int32 → Sg → Prop), rc 4 [] s R → CV shM w l D (.code yX8_times cX8_times 2 none) yX8_times [.ref (ad w 0)] s (fun t => R 0 t)) (hrc5 : ∀ (s : Sg) (R : Int32 → Sg → Prop), rc 5 [] s R → CV shM w l D (.code yX8_one cX8_one 3 none) yX8_one [.ref (ad w 0)] s (fun t => R 0 t)) (hrc6 : ∀ (b1 : Int32) (s : Sg) (R : Int32 → Sg → Prop), rc 6 [b1] s R → CV shM w l D (.code yX8_opens cX8_opens 2 none) yX8_opens [.ref (ad w 0), .int b1] s (fun t => R 0 t)) {s0 : Sg} {P : Int32 → Sg → Prop} (hw : wM_any rc  s0 P) : CV shM w l d (.code yX8_any cX8_any 1 none) yX8_any [.ref (ad w 0)] s0 (fun t => P 0 t) := by
  refine ci_of_v (own := "BagBottomModel") (ls0 := [some (.ref (ad w 0))]) rfl pn_X8 rfl rfl (fun g el hg => ?_)
  subst el
  unfold wM_any at hw
  refine x_aload_0 hg dX8_any_0 rfl ?_
  refine x_callVV hg (hrc1  _ _ hw) kM_0 (by decide) rfl im_X8_all se_X8_all mi_X8_all ml_X8_154 hDd rfl (As := []) rfl rfl rfl dX8_any_1 rfl (fun s1 hw => ?_)
  obtain ⟨N1, hw⟩ := hw
  refine xM_any_4 hg hd hDd hrc0 hrc1 hrc2 hrc3 hrc4 hrc5 hrc6 (fun  s2 hw => ?_) _  _ hw
  · exact x_vret hg dX8_any_44 hw
def wM_all_4 (rc : Nat → List Int32 → Sg → (Int32 → Sg → Prop) → Prop) (K44 : Sg → Prop) : Nat → Sg → Prop
  | 0, _ => False
  | n + 1, s0 => ((¬ (s0 0 15) = 0 → K44  s0) ∧ ((s0 0 15) = 0 → (wM_look  s0 (fun (r1 : Int32) (s1 : Sg) => ((¬ r1 = 38 → K44  s1) ∧ (r1 = 38 → (∀ s2 : Sg, s2 = u2 s1 0 13 (((s1 0 13) + 1)) → (rc 2 [] s2 (fun (_z : Int32) (s3 : Sg) => (wM_step 38 0 s3 (fun (s4 : Sg) => wM_all_4 rc K44 n  s4)))))))))))
def wM_all (rc : Nat → List Int32 → Sg → (Int32 → Sg → Prop) → Prop) (s0 : Sg) (P : Int32 → Sg → Prop) : Prop := (rc 2 [] s0 (fun (_z : Int32) (s1 : Sg) => (∃ N1 : Nat, wM_all_4 rc (fun  (s2 : Sg) => P 0 s2) N1  s1)))
set_option maxRecDepth 100000 in
set_option maxHeartbeats 4000000 in
theorem xM_all_4 {w : Wc} {g : Gx} {d : Nat} {Q : State → Prop} {D : Nat} {rc : Nat → List Int32 → Sg → (Int32 → Sg → Prop) → Prop} {K44 : Sg → Prop} (hg : OK shM w g d cX8_all "BagBottomModel" 1 none) (hd : 3 ≤ d) (hDd : Nat.ble (D + 1) d = true) (hrc0 : ∀ (s : Sg) (R : Int32 → Sg → Prop), rc 0 [] s R → CV shM w (gL g) D (.code yX8_any cX8_any 1 none) yX8_any [.ref (ad w 0)] s (fun t => R 0 t)) (hrc1 : ∀ (s : Sg) (R : Int32 → Sg → Prop), rc 1 [] s R → CV shM w (gL g) D (.code yX8_all cX8_all 1 none) yX8_all [.ref (ad w 0)] s (fun t => R 0 t)) (hrc2 : ∀ (s : Sg) (R : Int32 → Sg → Prop), rc 2 [] s R → CV shM w (gL g) D (.code yX8_compares cX8_compares 2 none) yX8_compares [.ref (ad w 0)] s (fun t => R 0 t)) (hrc3 : ∀ (s : Sg) (R : Int32 → Sg → Prop), rc 3 [] s R → CV shM w (gL g) D (.code yX8_sum cX8_sum 2 none) yX8_sum [.ref (ad w 0)] s (fun t => R 0 t)) (hrc4 : ∀ (s : Sg) (R : Int32 → Sg → Prop), rc 4 [] s R → CV shM w (gL g) D (.code yX8_times cX8_times 2 none) yX8_times [.ref (ad w 0)] s (fun t => R 0 t)) (hrc5 : ∀ (s : Sg) (R : Int32 → Sg → Prop), rc 5 [] s R → CV shM w (gL g) D (.code yX8_one cX8_one 3 none) yX8_one [.ref (ad w 0)] s (fun t => R 0 t)) (hrc6 : ∀ (b1 : Int32) (s : Sg) (R : Int32 → Sg → Prop), rc 6 [b1] s R → CV shM w (gL g) D (.code yX8_opens cX8_opens 2 none) yX8_opens [.ref (ad w 0), .int b1] s (fun t => R 0 t)) (hK44 : ∀ (s0 : Sg), K44  s0 → X shM w g Q 44 [none] [] s0) : ∀ (n : Nat) (s0 : Sg), wM_all_4 rc K44 n  s0 → X shM w g Q 4 [some (.ref (ad w 0))] [] s0 := by
  intro n
  induction n with
  | zero =>
    intro  s0 hw
    exact hw.elim
  | succ n ih =>
    intro  s0 hw
    rw [wM_all_4] at hw
    refine x_aload_0 hg dX8_all_4 rfl ?_
    refine get_X8_15 hg kM_0 fl_X8_119 dX8_all_5 rfl ?_
    refine x_if_ne hg dX8_all_8 (tg := 44) (by decide) rfl hw (fun hw => ?_) (fun hw => ?_)
    · refine x_drop_0 ?_
      exact hK44  _ hw
    · refine x_aload_0 hg dX8_all_11 rfl ?_
      refine x_callVI hg (xM_look (gL g)  hw) kM_0 (by decide) rfl im_X8_look se_X8_look mi_X8_look ml_X8_115 (ble_of (by omega)) rfl (As := []) rfl rfl rfl dX8_all_12 rfl (fun r1 s1 hw => ?_)
      refine x_bi hg dX8_all_15 bp_38 rfl ?_
      refine x_icmp_ne hg dX8_all_17 (tg := 44) (by decide) rfl hw (fun hw => ?_) (fun hw => ?_)
      · refine x_drop_0 ?_
        exact hK44  _ hw
      · refine x_aload_0 hg dX8_all_20 rfl ?_
        refine x_dup hg dX8_all_21 rfl rfl ?_
        refine get_X8_13 hg kM_0 fl_X8_105 dX8_all_22 rfl ?_
        refine x_ic hg dX8_all_25 ic_1 rfl ?_
        refine x_iadd hg dX8_all_26 rfl ?_
        refine put_X8_13 hg kM_0 fl_X8_105 dX8_all_27 rfl hw (fun s2 hw => ?_)
        refine x_aload_0 hg dX8_all_30 rfl ?_
        refine x_callVV hg (hrc2  _ _ hw) kM_0 (by decide) rfl im_X8_compares se_X8_compares mi_X8_compares ml_X8_151 hDd rfl (As := []) rfl rfl rfl dX8_all_31 rfl (fun s3 hw => ?_)
        refine x_aload_0 hg dX8_all_34 rfl ?_
        refine x_bi hg dX8_all_35 bp_38 rfl ?_
        refine x_ic hg dX8_all_37 ic_0 rfl ?_
        refine x_callVV hg (xM_step (gL g)  hw) kM_0 (by decide) rfl im_X8_step se_X8_step mi_X8_step ml_X8_123 (ble_of (by omega)) rfl (As := [.int 38, .int 0]) rfl rfl rfl dX8_all_38 rfl (fun s4 hw => ?_)
        refine x_goto hg dX8_all_41 (pc' := 4) (by decide) ?_
        exact ih  _ hw
set_option maxRecDepth 100000 in
set_option maxHeartbeats 4000000 in
theorem xbM_all {w : Wc} {l : Launch} {d : Nat} {D : Nat} {rc : Nat → List Int32 → Sg → (Int32 → Sg → Prop) → Prop} (hd : 3 ≤ d) (hDd : Nat.ble (D + 1) d = true) (hrc0 : ∀ (s : Sg) (R : Int32 → Sg → Prop), rc 0 [] s R → CV shM w l D (.code yX8_any cX8_any 1 none) yX8_any [.ref (ad w 0)] s (fun t => R 0 t)) (hrc1 : ∀ (s : Sg) (R : Int32 → Sg → Prop), rc 1 [] s R → CV shM w l D (.code yX8_all cX8_all 1 none) yX8_all [.ref (ad w 0)] s (fun t => R 0 t)) (hrc2 : ∀ (s : Sg) (R : Int32 → Sg → Prop), rc 2 [] s R → CV shM w l D (.code yX8_compares cX8_compares 2 none) yX8_compares [.ref (ad w 0)] s (fun t => R 0 t)) (hrc3 : ∀ (s : Sg) (R : Int32 → Sg → Prop), rc 3 [] s R → CV shM w l D (.code yX8_sum cX8_sum 2 none) yX8_sum [.ref (ad w 0)] s (fun t => R 0 t)) (hrc4 : ∀ (s : Sg) (R : Int32 → Sg → Prop), rc 4 [] s R → CV shM w l D (.code yX8_times cX8_times 2 none) yX8_times [.ref (ad w 0)] s (fun t => R 0 t)) (hrc5 : ∀ (s : Sg) (R : Int32 → Sg → Prop), rc 5 [] s R → CV shM w l D (.code yX8_one cX8_one 3 none) yX8_one [.ref (ad w 0)] s (fun t => R 0 t)) (hrc6 : ∀ (b1 : Int32) (s : Sg) (R : Int32 → Sg → Prop), rc 6 [b1] s R → CV shM w l D (.code yX8_opens cX8_opens 2 none) yX8_opens [.ref (ad w 0), .int b1] s (fun t => R 0 t)) {s0 : Sg} {P : Int32 → Sg → Prop} (hw : wM_all rc  s0 P) : CV shM w l d (.code yX8_all cX8_all 1 none) yX8_all [.ref (ad w 0)] s0 (fun t => P 0 t) := by
  refine ci_of_v (own := "BagBottomModel") (ls0 := [some (.ref (ad w 0))]) rfl pn_X8 rfl rfl (fun g el hg => ?_)
  subst el
  unfold wM_all at hw
  refine x_aload_0 hg dX8_all_0 rfl ?_
  refine x_callVV hg (hrc2  _ _ hw) kM_0 (by decide) rfl im_X8_compares se_X8_compares mi_X8_compares ml_X8_151 hDd rfl (As := []) rfl rfl rfl dX8_all_1 rfl (fun s1 hw => ?_)
  obtain ⟨N1, hw⟩ := hw
  refine xM_all_4 hg hd hDd hrc0 hrc1 hrc2 hrc3 hrc4 hrc5 hrc6 (fun  s2 hw => ?_) _  _ hw
  · exact x_vret hg dX8_all_44 hw
def wM_compares (rc : Nat → List Int32 → Sg → (Int32 → Sg → Prop) → Prop) (s0 : Sg) (P : Int32 → Sg → Prop) : Prop := (rc 3 [] s0 (fun (_z : Int32) (s1 : Sg) => (wM_look  s1 (fun (r1 : Int32) (s2 : Sg) => ((¬ (s2 0 15) = 0 → P 0 s2) ∧ ((s2 0 15) = 0 → ((r1 = 60 → (∀ s3 : Sg, s3 = u2 s2 0 13 (((s2 0 13) + 1)) → (rc 3 [] s3 (fun (_z : Int32) (s4 : Sg) => (wM_step r1 0 s4 (fun (s5 : Sg) => P 0 s5)))))) ∧ (¬ r1 = 60 → ((r1 = 61 → (∀ s3 : Sg, s3 = u2 s2 0 13 (((s2 0 13) + 1)) → (rc 3 [] s3 (fun (_z : Int32) (s4 : Sg) => (wM_step r1 0 s4 (fun (s5 : Sg) => P 0 s5)))))) ∧ (¬ r1 = 61 → ((¬ r1 = 62 → P 0 s2) ∧ (r1 = 62 → (∀ s3 : Sg, s3 = u2 s2 0 13 (((s2 0 13) + 1)) → (rc 3 [] s3 (fun (_z : Int32) (s4 : Sg) => (wM_step r1 0 s4 (fun (s5 : Sg) => P 0 s5)))))))))))))))))
set_option maxRecDepth 100000 in
set_option maxHeartbeats 4000000 in
theorem xbM_compares {w : Wc} {l : Launch} {d : Nat} {D : Nat} {rc : Nat → List Int32 → Sg → (Int32 → Sg → Prop) → Prop} (hd : 3 ≤ d) (hDd : Nat.ble (D + 1) d = true) (hrc0 : ∀ (s : Sg) (R : Int32 → Sg → Prop), rc 0 [] s R → CV shM w l D (.code yX8_any cX8_any 1 none) yX8_any [.ref (ad w 0)] s (fun t => R 0 t)) (hrc1 : ∀ (s : Sg) (R : Int32 → Sg → Prop), rc 1 [] s R → CV shM w l D (.code yX8_all cX8_all 1 none) yX8_all [.ref (ad w 0)] s (fun t => R 0 t)) (hrc2 : ∀ (s : Sg) (R : Int32 → Sg → Prop), rc 2 [] s R → CV shM w l D (.code yX8_compares cX8_compares 2 none) yX8_compares [.ref (ad w 0)] s (fun t => R 0 t)) (hrc3 : ∀ (s : Sg) (R : Int32 → Sg → Prop), rc 3 [] s R → CV shM w l D (.code yX8_sum cX8_sum 2 none) yX8_sum [.ref (ad w 0)] s (fun t => R 0 t)) (hrc4 : ∀ (s : Sg) (R : Int32 → Sg → Prop), rc 4 [] s R → CV shM w l D (.code yX8_times cX8_times 2 none) yX8_times [.ref (ad w 0)] s (fun t => R 0 t)) (hrc5 : ∀ (s : Sg) (R : Int32 → Sg → Prop), rc 5 [] s R → CV shM w l D (.code yX8_one cX8_one 3 none) yX8_one [.ref (ad w 0)] s (fun t => R 0 t)) (hrc6 : ∀ (b1 : Int32) (s : Sg) (R : Int32 → Sg → Prop), rc 6 [b1] s R → CV shM w l D (.code yX8_opens cX8_opens 2 none) yX8_opens [.ref (ad w 0), .int b1] s (fun t => R 0 t)) {s0 : Sg} {P : Int32 → Sg → Prop} (hw : wM_compares rc  s0 P) : CV shM w l d (.code yX8_compares cX8_compares 2 none) yX8_compares [.ref (ad w 0)] s0 (fun t => P 0 t) := by
  refine ci_of_v (own := "BagBottomModel") (ls0 := [some (.ref (ad w 0)), none]) rfl pn_X8 rfl rfl (fun g el hg => ?_)
  subst el
  unfold wM_compares at hw
  refine x_aload_0 hg dX8_compares_0 rfl ?_
  refine x_callVV hg (hrc3  _ _ hw) kM_0 (by decide) rfl im_X8_sum se_X8_sum mi_X8_sum ml_X8_148 hDd rfl (As := []) rfl rfl rfl dX8_compares_1 rfl (fun s1 hw => ?_)
  refine x_aload_0 hg dX8_compares_4 rfl ?_
  refine x_callVI hg (xM_look (gL g)  hw) kM_0 (by decide) rfl im_X8_look se_X8_look mi_X8_look ml_X8_115 (ble_of (by omega)) rfl (As := []) rfl rfl rfl dX8_compares_5 rfl (fun r1 s2 hw => ?_)
  refine x_istore_1 hg dX8_compares_8 rfl rfl rfl ?_
  refine x_aload_0 hg dX8_compares_9 rfl ?_
  refine get_X8_15 hg kM_0 fl_X8_119 dX8_compares_10 rfl ?_
  refine x_if_ne hg dX8_compares_13 (tg := 54) (by decide) rfl hw (fun hw => ?_) (fun hw => ?_)
  · exact x_vret hg dX8_compares_54 hw
  · refine x_iload_1 hg dX8_compares_16 rfl ?_
    refine x_bi hg dX8_compares_17 bp_60 rfl ?_
    refine x_icmp_eq hg dX8_compares_19 (tg := 34) (by decide) rfl hw (fun hw => ?_) (fun hw => ?_)
    · refine x_aload_0 hg dX8_compares_34 rfl ?_
      refine x_dup hg dX8_compares_35 rfl rfl ?_
      refine get_X8_13 hg kM_0 fl_X8_105 dX8_compares_36 rfl ?_
      refine x_ic hg dX8_compares_39 ic_1 rfl ?_
      refine x_iadd hg dX8_compares_40 rfl ?_
      refine put_X8_13 hg kM_0 fl_X8_105 dX8_compares_41 rfl hw (fun s3 hw => ?_)
      refine x_aload_0 hg dX8_compares_44 rfl ?_
      refine x_callVV hg (hrc3  _ _ hw) kM_0 (by decide) rfl im_X8_sum se_X8_sum mi_X8_sum ml_X8_148 hDd rfl (As := []) rfl rfl rfl dX8_compares_45 rfl (fun s4 hw => ?_)
      refine x_aload_0 hg dX8_compares_48 rfl ?_
      refine x_iload_1 hg dX8_compares_49 rfl ?_
      refine x_ic hg dX8_compares_50 ic_0 rfl ?_
      refine x_callVV hg (xM_step (gL g)  hw) kM_0 (by decide) rfl im_X8_step se_X8_step mi_X8_step ml_X8_123 (ble_of (by omega)) rfl (As := [.int r1, .int 0]) rfl rfl rfl dX8_compares_51 rfl (fun s5 hw => ?_)
      exact x_vret hg dX8_compares_54 hw
    · refine x_iload_1 hg dX8_compares_22 rfl ?_
      refine x_bi hg dX8_compares_23 bp_61 rfl ?_
      refine x_icmp_eq hg dX8_compares_25 (tg := 34) (by decide) rfl hw (fun hw => ?_) (fun hw => ?_)
      · refine x_aload_0 hg dX8_compares_34 rfl ?_
        refine x_dup hg dX8_compares_35 rfl rfl ?_
        refine get_X8_13 hg kM_0 fl_X8_105 dX8_compares_36 rfl ?_
        refine x_ic hg dX8_compares_39 ic_1 rfl ?_
        refine x_iadd hg dX8_compares_40 rfl ?_
        refine put_X8_13 hg kM_0 fl_X8_105 dX8_compares_41 rfl hw (fun s3 hw => ?_)
        refine x_aload_0 hg dX8_compares_44 rfl ?_
        refine x_callVV hg (hrc3  _ _ hw) kM_0 (by decide) rfl im_X8_sum se_X8_sum mi_X8_sum ml_X8_148 hDd rfl (As := []) rfl rfl rfl dX8_compares_45 rfl (fun s4 hw => ?_)
        refine x_aload_0 hg dX8_compares_48 rfl ?_
        refine x_iload_1 hg dX8_compares_49 rfl ?_
        refine x_ic hg dX8_compares_50 ic_0 rfl ?_
        refine x_callVV hg (xM_step (gL g)  hw) kM_0 (by decide) rfl im_X8_step se_X8_step mi_X8_step ml_X8_123 (ble_of (by omega)) rfl (As := [.int r1, .int 0]) rfl rfl rfl dX8_compares_51 rfl (fun s5 hw => ?_)
        exact x_vret hg dX8_compares_54 hw
      · refine x_iload_1 hg dX8_compares_28 rfl ?_
        refine x_bi hg dX8_compares_29 bp_62 rfl ?_
        refine x_icmp_ne hg dX8_compares_31 (tg := 54) (by decide) rfl hw (fun hw => ?_) (fun hw => ?_)
        · exact x_vret hg dX8_compares_54 hw
        · refine x_aload_0 hg dX8_compares_34 rfl ?_
          refine x_dup hg dX8_compares_35 rfl rfl ?_
          refine get_X8_13 hg kM_0 fl_X8_105 dX8_compares_36 rfl ?_
          refine x_ic hg dX8_compares_39 ic_1 rfl ?_
          refine x_iadd hg dX8_compares_40 rfl ?_
          refine put_X8_13 hg kM_0 fl_X8_105 dX8_compares_41 rfl hw (fun s3 hw => ?_)
          refine x_aload_0 hg dX8_compares_44 rfl ?_
          refine x_callVV hg (hrc3  _ _ hw) kM_0 (by decide) rfl im_X8_sum se_X8_sum mi_X8_sum ml_X8_148 hDd rfl (As := []) rfl rfl rfl dX8_compares_45 rfl (fun s4 hw => ?_)
          refine x_aload_0 hg dX8_compares_48 rfl ?_
          refine x_iload_1 hg dX8_compares_49 rfl ?_
          refine x_ic hg dX8_compares_50 ic_0 rfl ?_
          refine x_callVV hg (xM_step (gL g)  hw) kM_0 (by decide) rfl im_X8_step se_X8_step mi_X8_step ml_X8_123 (ble_of (by omega)) rfl (As := [.int r1, .int 0]) rfl rfl rfl dX8_compares_51 rfl (fun s5 hw => ?_)
          exact x_vret hg dX8_compares_54 hw
def wM_sum_4 (rc : Nat → List Int32 → Sg → (Int32 → Sg → Prop) → Prop) (K57 : Sg → Prop) : Nat → Sg → Prop
  | 0, _ => False
  | n + 1, s0 => ((¬ (s0 0 15) = 0 → K57  s0) ∧ ((s0 0 15) = 0 → (wM_look  s0 (fun (r1 : Int32) (s1 : Sg) => ((r1 = 43 → (wM_look  s1 (fun (r2 : Int32) (s2 : Sg) => (∀ s3 : Sg, s3 = u2 s2 0 13 (((s2 0 13) + 1)) → (rc 4 [] s3 (fun (_z : Int32) (s4 : Sg) => (wM_step r2 0 s4 (fun (s5 : Sg) => wM_sum_4 rc K57 n  s5)))))))) ∧ (¬ r1 = 43 → (wM_look  s1 (fun (r2 : Int32) (s2 : Sg) => ((¬ r2 = 45 → K57  s2) ∧ (r2 = 45 → (wM_look  s2 (fun (r3 : Int32) (s3 : Sg) => (∀ s4 : Sg, s4 = u2 s3 0 13 (((s3 0 13) + 1)) → (rc 4 [] s4 (fun (_z : Int32) (s5 : Sg) => (wM_step r3 0 s5 (fun (s6 : Sg) => wM_sum_4 rc K57 n  s6)))))))))))))))))
def wM_sum (rc : Nat → List Int32 → Sg → (Int32 → Sg → Prop) → Prop) (s0 : Sg) (P : Int32 → Sg → Prop) : Prop := (rc 4 [] s0 (fun (_z : Int32) (s1 : Sg) => (∃ N1 : Nat, wM_sum_4 rc (fun  (s2 : Sg) => P 0 s2) N1  s1)))
set_option maxRecDepth 100000 in
set_option maxHeartbeats 4000000 in
theorem xM_sum_4 {w : Wc} {g : Gx} {d : Nat} {Q : State → Prop} {D : Nat} {rc : Nat → List Int32 → Sg → (Int32 → Sg → Prop) → Prop} {K57 : Sg → Prop} (hg : OK shM w g d cX8_sum "BagBottomModel" 2 none) (hd : 3 ≤ d) (hDd : Nat.ble (D + 1) d = true) (hrc0 : ∀ (s : Sg) (R : Int32 → Sg → Prop), rc 0 [] s R → CV shM w (gL g) D (.code yX8_any cX8_any 1 none) yX8_any [.ref (ad w 0)] s (fun t => R 0 t)) (hrc1 : ∀ (s : Sg) (R : Int32 → Sg → Prop), rc 1 [] s R → CV shM w (gL g) D (.code yX8_all cX8_all 1 none) yX8_all [.ref (ad w 0)] s (fun t => R 0 t)) (hrc2 : ∀ (s : Sg) (R : Int32 → Sg → Prop), rc 2 [] s R → CV shM w (gL g) D (.code yX8_compares cX8_compares 2 none) yX8_compares [.ref (ad w 0)] s (fun t => R 0 t)) (hrc3 : ∀ (s : Sg) (R : Int32 → Sg → Prop), rc 3 [] s R → CV shM w (gL g) D (.code yX8_sum cX8_sum 2 none) yX8_sum [.ref (ad w 0)] s (fun t => R 0 t)) (hrc4 : ∀ (s : Sg) (R : Int32 → Sg → Prop), rc 4 [] s R → CV shM w (gL g) D (.code yX8_times cX8_times 2 none) yX8_times [.ref (ad w 0)] s (fun t => R 0 t)) (hrc5 : ∀ (s : Sg) (R : Int32 → Sg → Prop), rc 5 [] s R → CV shM w (gL g) D (.code yX8_one cX8_one 3 none) yX8_one [.ref (ad w 0)] s (fun t => R 0 t)) (hrc6 : ∀ (b1 : Int32) (s : Sg) (R : Int32 → Sg → Prop), rc 6 [b1] s R → CV shM w (gL g) D (.code yX8_opens cX8_opens 2 none) yX8_opens [.ref (ad w 0), .int b1] s (fun t => R 0 t)) (hK57 : ∀ (s0 : Sg), K57  s0 → X shM w g Q 57 [none, none] [] s0) : ∀ (n : Nat) (s0 : Sg), wM_sum_4 rc K57 n  s0 → X shM w g Q 4 [some (.ref (ad w 0)), none] [] s0 := by
  intro n
  induction n with
  | zero =>
    intro  s0 hw
    exact hw.elim
  | succ n ih =>
    intro  s0 hw
    rw [wM_sum_4] at hw
    refine x_aload_0 hg dX8_sum_4 rfl ?_
    refine get_X8_15 hg kM_0 fl_X8_119 dX8_sum_5 rfl ?_
    refine x_if_ne hg dX8_sum_8 (tg := 57) (by decide) rfl hw (fun hw => ?_) (fun hw => ?_)
    · refine x_drop_0 ?_
      exact hK57  _ hw
    · refine x_aload_0 hg dX8_sum_11 rfl ?_
      refine x_callVI hg (xM_look (gL g)  hw) kM_0 (by decide) rfl im_X8_look se_X8_look mi_X8_look ml_X8_115 (ble_of (by omega)) rfl (As := []) rfl rfl rfl dX8_sum_12 rfl (fun r1 s1 hw => ?_)
      refine x_bi hg dX8_sum_15 bp_43 rfl ?_
      refine x_icmp_eq hg dX8_sum_17 (tg := 29) (by decide) rfl hw (fun hw => ?_) (fun hw => ?_)
      · refine x_aload_0 hg dX8_sum_29 rfl ?_
        refine x_callVI hg (xM_look (gL g)  hw) kM_0 (by decide) rfl im_X8_look se_X8_look mi_X8_look ml_X8_115 (ble_of (by omega)) rfl (As := []) rfl rfl rfl dX8_sum_30 rfl (fun r2 s2 hw => ?_)
        refine x_istore_1 hg dX8_sum_33 rfl rfl rfl ?_
        refine x_aload_0 hg dX8_sum_34 rfl ?_
        refine x_dup hg dX8_sum_35 rfl rfl ?_
        refine get_X8_13 hg kM_0 fl_X8_105 dX8_sum_36 rfl ?_
        refine x_ic hg dX8_sum_39 ic_1 rfl ?_
        refine x_iadd hg dX8_sum_40 rfl ?_
        refine put_X8_13 hg kM_0 fl_X8_105 dX8_sum_41 rfl hw (fun s3 hw => ?_)
        refine x_aload_0 hg dX8_sum_44 rfl ?_
        refine x_callVV hg (hrc4  _ _ hw) kM_0 (by decide) rfl im_X8_times se_X8_times mi_X8_times ml_X8_145 hDd rfl (As := []) rfl rfl rfl dX8_sum_45 rfl (fun s4 hw => ?_)
        refine x_aload_0 hg dX8_sum_48 rfl ?_
        refine x_iload_1 hg dX8_sum_49 rfl ?_
        refine x_ic hg dX8_sum_50 ic_0 rfl ?_
        refine x_callVV hg (xM_step (gL g)  hw) kM_0 (by decide) rfl im_X8_step se_X8_step mi_X8_step ml_X8_123 (ble_of (by omega)) rfl (As := [.int r2, .int 0]) rfl rfl rfl dX8_sum_51 rfl (fun s5 hw => ?_)
        refine x_goto hg dX8_sum_54 (pc' := 4) (by decide) ?_
        refine x_drop_1 ?_
        exact ih  _ hw
      · refine x_aload_0 hg dX8_sum_20 rfl ?_
        refine x_callVI hg (xM_look (gL g)  hw) kM_0 (by decide) rfl im_X8_look se_X8_look mi_X8_look ml_X8_115 (ble_of (by omega)) rfl (As := []) rfl rfl rfl dX8_sum_21 rfl (fun r2 s2 hw => ?_)
        refine x_bi hg dX8_sum_24 bp_45 rfl ?_
        refine x_icmp_ne hg dX8_sum_26 (tg := 57) (by decide) rfl hw (fun hw => ?_) (fun hw => ?_)
        · refine x_drop_0 ?_
          exact hK57  _ hw
        · refine x_aload_0 hg dX8_sum_29 rfl ?_
          refine x_callVI hg (xM_look (gL g)  hw) kM_0 (by decide) rfl im_X8_look se_X8_look mi_X8_look ml_X8_115 (ble_of (by omega)) rfl (As := []) rfl rfl rfl dX8_sum_30 rfl (fun r3 s3 hw => ?_)
          refine x_istore_1 hg dX8_sum_33 rfl rfl rfl ?_
          refine x_aload_0 hg dX8_sum_34 rfl ?_
          refine x_dup hg dX8_sum_35 rfl rfl ?_
          refine get_X8_13 hg kM_0 fl_X8_105 dX8_sum_36 rfl ?_
          refine x_ic hg dX8_sum_39 ic_1 rfl ?_
          refine x_iadd hg dX8_sum_40 rfl ?_
          refine put_X8_13 hg kM_0 fl_X8_105 dX8_sum_41 rfl hw (fun s4 hw => ?_)
          refine x_aload_0 hg dX8_sum_44 rfl ?_
          refine x_callVV hg (hrc4  _ _ hw) kM_0 (by decide) rfl im_X8_times se_X8_times mi_X8_times ml_X8_145 hDd rfl (As := []) rfl rfl rfl dX8_sum_45 rfl (fun s5 hw => ?_)
          refine x_aload_0 hg dX8_sum_48 rfl ?_
          refine x_iload_1 hg dX8_sum_49 rfl ?_
          refine x_ic hg dX8_sum_50 ic_0 rfl ?_
          refine x_callVV hg (xM_step (gL g)  hw) kM_0 (by decide) rfl im_X8_step se_X8_step mi_X8_step ml_X8_123 (ble_of (by omega)) rfl (As := [.int r3, .int 0]) rfl rfl rfl dX8_sum_51 rfl (fun s6 hw => ?_)
          refine x_goto hg dX8_sum_54 (pc' := 4) (by decide) ?_
          refine x_drop_1 ?_
          exact ih  _ hw
set_option maxRecDepth 100000 in
set_option maxHeartbeats 4000000 in
theorem xbM_sum {w : Wc} {l : Launch} {d : Nat} {D : Nat} {rc : Nat → List Int32 → Sg → (Int32 → Sg → Prop) → Prop} (hd : 3 ≤ d) (hDd : Nat.ble (D + 1) d = true) (hrc0 : ∀ (s : Sg) (R : Int32 → Sg → Prop), rc 0 [] s R → CV shM w l D (.code yX8_any cX8_any 1 none) yX8_any [.ref (ad w 0)] s (fun t => R 0 t)) (hrc1 : ∀ (s : Sg) (R : Int32 → Sg → Prop), rc 1 [] s R → CV shM w l D (.code yX8_all cX8_all 1 none) yX8_all [.ref (ad w 0)] s (fun t => R 0 t)) (hrc2 : ∀ (s : Sg) (R : Int32 → Sg → Prop), rc 2 [] s R → CV shM w l D (.code yX8_compares cX8_compares 2 none) yX8_compares [.ref (ad w 0)] s (fun t => R 0 t)) (hrc3 : ∀ (s : Sg) (R : Int32 → Sg → Prop), rc 3 [] s R → CV shM w l D (.code yX8_sum cX8_sum 2 none) yX8_sum [.ref (ad w 0)] s (fun t => R 0 t)) (hrc4 : ∀ (s : Sg) (R : Int32 → Sg → Prop), rc 4 [] s R → CV shM w l D (.code yX8_times cX8_times 2 none) yX8_times [.ref (ad w 0)] s (fun t => R 0 t)) (hrc5 : ∀ (s : Sg) (R : Int32 → Sg → Prop), rc 5 [] s R → CV shM w l D (.code yX8_one cX8_one 3 none) yX8_one [.ref (ad w 0)] s (fun t => R 0 t)) (hrc6 : ∀ (b1 : Int32) (s : Sg) (R : Int32 → Sg → Prop), rc 6 [b1] s R → CV shM w l D (.code yX8_opens cX8_opens 2 none) yX8_opens [.ref (ad w 0), .int b1] s (fun t => R 0 t)) {s0 : Sg} {P : Int32 → Sg → Prop} (hw : wM_sum rc  s0 P) : CV shM w l d (.code yX8_sum cX8_sum 2 none) yX8_sum [.ref (ad w 0)] s0 (fun t => P 0 t) := by
  refine ci_of_v (own := "BagBottomModel") (ls0 := [some (.ref (ad w 0)), none]) rfl pn_X8 rfl rfl (fun g el hg => ?_)
  subst el
  unfold wM_sum at hw
  refine x_aload_0 hg dX8_sum_0 rfl ?_
  refine x_callVV hg (hrc4  _ _ hw) kM_0 (by decide) rfl im_X8_times se_X8_times mi_X8_times ml_X8_145 hDd rfl (As := []) rfl rfl rfl dX8_sum_1 rfl (fun s1 hw => ?_)
  obtain ⟨N1, hw⟩ := hw
  refine xM_sum_4 hg hd hDd hrc0 hrc1 hrc2 hrc3 hrc4 hrc5 hrc6 (fun  s2 hw => ?_) _  _ hw
  · exact x_vret hg dX8_sum_57 hw
def wM_times_4 (rc : Nat → List Int32 → Sg → (Int32 → Sg → Prop) → Prop) (K66 : Sg → Prop) : Nat → Sg → Prop
  | 0, _ => False
  | n + 1, s0 => ((¬ (s0 0 15) = 0 → K66  s0) ∧ ((s0 0 15) = 0 → (wM_look  s0 (fun (r1 : Int32) (s1 : Sg) => ((r1 = 42 → (wM_look  s1 (fun (r2 : Int32) (s2 : Sg) => (∀ s3 : Sg, s3 = u2 s2 0 13 (((s2 0 13) + 1)) → (rc 5 [] s3 (fun (_z : Int32) (s4 : Sg) => (wM_step r2 0 s4 (fun (s5 : Sg) => wM_times_4 rc K66 n  s5)))))))) ∧ (¬ r1 = 42 → (wM_look  s1 (fun (r2 : Int32) (s2 : Sg) => ((r2 = 47 → (wM_look  s2 (fun (r3 : Int32) (s3 : Sg) => (∀ s4 : Sg, s4 = u2 s3 0 13 (((s3 0 13) + 1)) → (rc 5 [] s4 (fun (_z : Int32) (s5 : Sg) => (wM_step r3 0 s5 (fun (s6 : Sg) => wM_times_4 rc K66 n  s6)))))))) ∧ (¬ r2 = 47 → (wM_look  s2 (fun (r3 : Int32) (s3 : Sg) => ((¬ r3 = 37 → K66  s3) ∧ (r3 = 37 → (wM_look  s3 (fun (r4 : Int32) (s4 : Sg) => (∀ s5 : Sg, s5 = u2 s4 0 13 (((s4 0 13) + 1)) → (rc 5 [] s5 (fun (_z : Int32) (s6 : Sg) => (wM_step r4 0 s6 (fun (s7 : Sg) => wM_times_4 rc K66 n  s7)))))))))))))))))))))
def wM_times (rc : Nat → List Int32 → Sg → (Int32 → Sg → Prop) → Prop) (s0 : Sg) (P : Int32 → Sg → Prop) : Prop := (rc 5 [] s0 (fun (_z : Int32) (s1 : Sg) => (∃ N1 : Nat, wM_times_4 rc (fun  (s2 : Sg) => P 0 s2) N1  s1)))
set_option maxRecDepth 100000 in
set_option maxHeartbeats 4000000 in
theorem xM_times_4 {w : Wc} {g : Gx} {d : Nat} {Q : State → Prop} {D : Nat} {rc : Nat → List Int32 → Sg → (Int32 → Sg → Prop) → Prop} {K66 : Sg → Prop} (hg : OK shM w g d cX8_times "BagBottomModel" 2 none) (hd : 3 ≤ d) (hDd : Nat.ble (D + 1) d = true) (hrc0 : ∀ (s : Sg) (R : Int32 → Sg → Prop), rc 0 [] s R → CV shM w (gL g) D (.code yX8_any cX8_any 1 none) yX8_any [.ref (ad w 0)] s (fun t => R 0 t)) (hrc1 : ∀ (s : Sg) (R : Int32 → Sg → Prop), rc 1 [] s R → CV shM w (gL g) D (.code yX8_all cX8_all 1 none) yX8_all [.ref (ad w 0)] s (fun t => R 0 t)) (hrc2 : ∀ (s : Sg) (R : Int32 → Sg → Prop), rc 2 [] s R → CV shM w (gL g) D (.code yX8_compares cX8_compares 2 none) yX8_compares [.ref (ad w 0)] s (fun t => R 0 t)) (hrc3 : ∀ (s : Sg) (R : Int32 → Sg → Prop), rc 3 [] s R → CV shM w (gL g) D (.code yX8_sum cX8_sum 2 none) yX8_sum [.ref (ad w 0)] s (fun t => R 0 t)) (hrc4 : ∀ (s : Sg) (R : Int32 → Sg → Prop), rc 4 [] s R → CV shM w (gL g) D (.code yX8_times cX8_times 2 none) yX8_times [.ref (ad w 0)] s (fun t => R 0 t)) (hrc5 : ∀ (s : Sg) (R : Int32 → Sg → Prop), rc 5 [] s R → CV shM w (gL g) D (.code yX8_one cX8_one 3 none) yX8_one [.ref (ad w 0)] s (fun t => R 0 t)) (hrc6 : ∀ (b1 : Int32) (s : Sg) (R : Int32 → Sg → Prop), rc 6 [b1] s R → CV shM w (gL g) D (.code yX8_opens cX8_opens 2 none) yX8_opens [.ref (ad w 0), .int b1] s (fun t => R 0 t)) (hK66 : ∀ (s0 : Sg), K66  s0 → X shM w g Q 66 [none, none] [] s0) : ∀ (n : Nat) (s0 : Sg), wM_times_4 rc K66 n  s0 → X shM w g Q 4 [some (.ref (ad w 0)), none] [] s0 := by
  intro n
  induction n with
  | zero =>
    intro  s0 hw
    exact hw.elim
  | succ n ih =>
    intro  s0 hw
    rw [wM_times_4] at hw
    refine x_aload_0 hg dX8_times_4 rfl ?_
    refine get_X8_15 hg kM_0 fl_X8_119 dX8_times_5 rfl ?_
    refine x_if_ne hg dX8_times_8 (tg := 66) (by decide) rfl hw (fun hw => ?_) (fun hw => ?_)
    · refine x_drop_0 ?_
      exact hK66  _ hw
    · refine x_aload_0 hg dX8_times_11 rfl ?_
      refine x_callVI hg (xM_look (gL g)  hw) kM_0 (by decide) rfl im_X8_look se_X8_look mi_X8_look ml_X8_115 (ble_of (by omega)) rfl (As := []) rfl rfl rfl dX8_times_12 rfl (fun r1 s1 hw => ?_)
      refine x_bi hg dX8_times_15 bp_42 rfl ?_
      refine x_icmp_eq hg dX8_times_17 (tg := 38) (by decide) rfl hw (fun hw => ?_) (fun hw => ?_)
      · refine x_aload_0 hg dX8_times_38 rfl ?_
        refine x_callVI hg (xM_look (gL g)  hw) kM_0 (by decide) rfl im_X8_look se_X8_look mi_X8_look ml_X8_115 (ble_of (by omega)) rfl (As := []) rfl rfl rfl dX8_times_39 rfl (fun r2 s2 hw => ?_)
        refine x_istore_1 hg dX8_times_42 rfl rfl rfl ?_
        refine x_aload_0 hg dX8_times_43 rfl ?_
        refine x_dup hg dX8_times_44 rfl rfl ?_
        refine get_X8_13 hg kM_0 fl_X8_105 dX8_times_45 rfl ?_
        refine x_ic hg dX8_times_48 ic_1 rfl ?_
        refine x_iadd hg dX8_times_49 rfl ?_
        refine put_X8_13 hg kM_0 fl_X8_105 dX8_times_50 rfl hw (fun s3 hw => ?_)
        refine x_aload_0 hg dX8_times_53 rfl ?_
        refine x_callVV hg (hrc5  _ _ hw) kM_0 (by decide) rfl im_X8_one se_X8_one mi_X8_one ml_X8_130 hDd rfl (As := []) rfl rfl rfl dX8_times_54 rfl (fun s4 hw => ?_)
        refine x_aload_0 hg dX8_times_57 rfl ?_
        refine x_iload_1 hg dX8_times_58 rfl ?_
        refine x_ic hg dX8_times_59 ic_0 rfl ?_
        refine x_callVV hg (xM_step (gL g)  hw) kM_0 (by decide) rfl im_X8_step se_X8_step mi_X8_step ml_X8_123 (ble_of (by omega)) rfl (As := [.int r2, .int 0]) rfl rfl rfl dX8_times_60 rfl (fun s5 hw => ?_)
        refine x_goto hg dX8_times_63 (pc' := 4) (by decide) ?_
        refine x_drop_1 ?_
        exact ih  _ hw
      · refine x_aload_0 hg dX8_times_20 rfl ?_
        refine x_callVI hg (xM_look (gL g)  hw) kM_0 (by decide) rfl im_X8_look se_X8_look mi_X8_look ml_X8_115 (ble_of (by omega)) rfl (As := []) rfl rfl rfl dX8_times_21 rfl (fun r2 s2 hw => ?_)
        refine x_bi hg dX8_times_24 bp_47 rfl ?_
        refine x_icmp_eq hg dX8_times_26 (tg := 38) (by decide) rfl hw (fun hw => ?_) (fun hw => ?_)
        · refine x_aload_0 hg dX8_times_38 rfl ?_
          refine x_callVI hg (xM_look (gL g)  hw) kM_0 (by decide) rfl im_X8_look se_X8_look mi_X8_look ml_X8_115 (ble_of (by omega)) rfl (As := []) rfl rfl rfl dX8_times_39 rfl (fun r3 s3 hw => ?_)
          refine x_istore_1 hg dX8_times_42 rfl rfl rfl ?_
          refine x_aload_0 hg dX8_times_43 rfl ?_
          refine x_dup hg dX8_times_44 rfl rfl ?_
          refine get_X8_13 hg kM_0 fl_X8_105 dX8_times_45 rfl ?_
          refine x_ic hg dX8_times_48 ic_1 rfl ?_
          refine x_iadd hg dX8_times_49 rfl ?_
          refine put_X8_13 hg kM_0 fl_X8_105 dX8_times_50 rfl hw (fun s4 hw => ?_)
          refine x_aload_0 hg dX8_times_53 rfl ?_
          refine x_callVV hg (hrc5  _ _ hw) kM_0 (by decide) rfl im_X8_one se_X8_one mi_X8_one ml_X8_130 hDd rfl (As := []) rfl rfl rfl dX8_times_54 rfl (fun s5 hw => ?_)
          refine x_aload_0 hg dX8_times_57 rfl ?_
          refine x_iload_1 hg dX8_times_58 rfl ?_
          refine x_ic hg dX8_times_59 ic_0 rfl ?_
          refine x_callVV hg (xM_step (gL g)  hw) kM_0 (by decide) rfl im_X8_step se_X8_step mi_X8_step ml_X8_123 (ble_of (by omega)) rfl (As := [.int r3, .int 0]) rfl rfl rfl dX8_times_60 rfl (fun s6 hw => ?_)
          refine x_goto hg dX8_times_63 (pc' := 4) (by decide) ?_
          refine x_drop_1 ?_
          exact ih  _ hw
        · refine x_aload_0 hg dX8_times_29 rfl ?_
          refine x_callVI hg (xM_look (gL g)  hw) kM_0 (by decide) rfl im_X8_look se_X8_look mi_X8_look ml_X8_115 (ble_of (by omega)) rfl (As := []) rfl rfl rfl dX8_times_30 rfl (fun r3 s3 hw => ?_)
          refine x_bi hg dX8_times_33 bp_37 rfl ?_
          refine x_icmp_ne hg dX8_times_35 (tg := 66) (by decide) rfl hw (fun hw => ?_) (fun hw => ?_)
          · refine x_drop_0 ?_
            exact hK66  _ hw
          · refine x_aload_0 hg dX8_times_38 rfl ?_
            refine x_callVI hg (xM_look (gL g)  hw) kM_0 (by decide) rfl im_X8_look se_X8_look mi_X8_look ml_X8_115 (ble_of (by omega)) rfl (As := []) rfl rfl rfl dX8_times_39 rfl (fun r4 s4 hw => ?_)
            refine x_istore_1 hg dX8_times_42 rfl rfl rfl ?_
            refine x_aload_0 hg dX8_times_43 rfl ?_
            refine x_dup hg dX8_times_44 rfl rfl ?_
            refine get_X8_13 hg kM_0 fl_X8_105 dX8_times_45 rfl ?_
            refine x_ic hg dX8_times_48 ic_1 rfl ?_
            refine x_iadd hg dX8_times_49 rfl ?_
            refine put_X8_13 hg kM_0 fl_X8_105 dX8_times_50 rfl hw (fun s5 hw => ?_)
            refine x_aload_0 hg dX8_times_53 rfl ?_
            refine x_callVV hg (hrc5  _ _ hw) kM_0 (by decide) rfl im_X8_one se_X8_one mi_X8_one ml_X8_130 hDd rfl (As := []) rfl rfl rfl dX8_times_54 rfl (fun s6 hw => ?_)
            refine x_aload_0 hg dX8_times_57 rfl ?_
            refine x_iload_1 hg dX8_times_58 rfl ?_
            refine x_ic hg dX8_times_59 ic_0 rfl ?_
            refine x_callVV hg (xM_step (gL g)  hw) kM_0 (by decide) rfl im_X8_step se_X8_step mi_X8_step ml_X8_123 (ble_of (by omega)) rfl (As := [.int r4, .int 0]) rfl rfl rfl dX8_times_60 rfl (fun s7 hw => ?_)
            refine x_goto hg dX8_times_63 (pc' := 4) (by decide) ?_
            refine x_drop_1 ?_
            exact ih  _ hw
set_option maxRecDepth 100000 in
set_option maxHeartbeats 4000000 in
theorem xbM_times {w : Wc} {l : Launch} {d : Nat} {D : Nat} {rc : Nat → List Int32 → Sg → (Int32 → Sg → Prop) → Prop} (hd : 3 ≤ d) (hDd : Nat.ble (D + 1) d = true) (hrc0 : ∀ (s : Sg) (R : Int32 → Sg → Prop), rc 0 [] s R → CV shM w l D (.code yX8_any cX8_any 1 none) yX8_any [.ref (ad w 0)] s (fun t => R 0 t)) (hrc1 : ∀ (s : Sg) (R : Int32 → Sg → Prop), rc 1 [] s R → CV shM w l D (.code yX8_all cX8_all 1 none) yX8_all [.ref (ad w 0)] s (fun t => R 0 t)) (hrc2 : ∀ (s : Sg) (R : Int32 → Sg → Prop), rc 2 [] s R → CV shM w l D (.code yX8_compares cX8_compares 2 none) yX8_compares [.ref (ad w 0)] s (fun t => R 0 t)) (hrc3 : ∀ (s : Sg) (R : Int32 → Sg → Prop), rc 3 [] s R → CV shM w l D (.code yX8_sum cX8_sum 2 none) yX8_sum [.ref (ad w 0)] s (fun t => R 0 t)) (hrc4 : ∀ (s : Sg) (R : Int32 → Sg → Prop), rc 4 [] s R → CV shM w l D (.code yX8_times cX8_times 2 none) yX8_times [.ref (ad w 0)] s (fun t => R 0 t)) (hrc5 : ∀ (s : Sg) (R : Int32 → Sg → Prop), rc 5 [] s R → CV shM w l D (.code yX8_one cX8_one 3 none) yX8_one [.ref (ad w 0)] s (fun t => R 0 t)) (hrc6 : ∀ (b1 : Int32) (s : Sg) (R : Int32 → Sg → Prop), rc 6 [b1] s R → CV shM w l D (.code yX8_opens cX8_opens 2 none) yX8_opens [.ref (ad w 0), .int b1] s (fun t => R 0 t)) {s0 : Sg} {P : Int32 → Sg → Prop} (hw : wM_times rc  s0 P) : CV shM w l d (.code yX8_times cX8_times 2 none) yX8_times [.ref (ad w 0)] s0 (fun t => P 0 t) := by
  refine ci_of_v (own := "BagBottomModel") (ls0 := [some (.ref (ad w 0)), none]) rfl pn_X8 rfl rfl (fun g el hg => ?_)
  subst el
  unfold wM_times at hw
  refine x_aload_0 hg dX8_times_0 rfl ?_
  refine x_callVV hg (hrc5  _ _ hw) kM_0 (by decide) rfl im_X8_one se_X8_one mi_X8_one ml_X8_130 hDd rfl (As := []) rfl rfl rfl dX8_times_1 rfl (fun s1 hw => ?_)
  obtain ⟨N1, hw⟩ := hw
  refine xM_times_4 hg hd hDd hrc0 hrc1 hrc2 hrc3 hrc4 hrc5 hrc6 (fun  s2 hw => ?_) _  _ hw
  · exact x_vret hg dX8_times_66 hw
def wM_one (rc : Nat → List Int32 → Sg → (Int32 → Sg → Prop) → Prop) (s0 : Sg) (P : Int32 → Sg → Prop) : Prop := (wM_look  s0 (fun (r1 : Int32) (s1 : Sg) => (wM_nameOf r1 s1 (fun (r2 : Int32) (s2 : Sg) => ((r2 < 0 → ((r1 = 33 → (rc 6 [r1] s2 (fun (_z : Int32) (s3 : Sg) => P 0 s3))) ∧ (¬ r1 = 33 → ((¬ r1 = 40 → (wM_number  s2 (fun (s3 : Sg) => P 0 s3))) ∧ (r1 = 40 → (rc 6 [r1] s2 (fun (_z : Int32) (s3 : Sg) => P 0 s3))))))) ∧ (¬ r2 < 0 → (∀ s3 : Sg, s3 = u2 s2 0 13 (((s2 0 13) + 1)) → (wM_step 2 r2 s3 (fun (s4 : Sg) => P 0 s4)))))))))
set_option maxRecDepth 100000 in
set_option maxHeartbeats 4000000 in
theorem xbM_one {w : Wc} {l : Launch} {d : Nat} {D : Nat} {rc : Nat → List Int32 → Sg → (Int32 → Sg → Prop) → Prop} (hd : 3 ≤ d) (hDd : Nat.ble (D + 1) d = true) (hrc0 : ∀ (s : Sg) (R : Int32 → Sg → Prop), rc 0 [] s R → CV shM w l D (.code yX8_any cX8_any 1 none) yX8_any [.ref (ad w 0)] s (fun t => R 0 t)) (hrc1 : ∀ (s : Sg) (R : Int32 → Sg → Prop), rc 1 [] s R → CV shM w l D (.code yX8_all cX8_all 1 none) yX8_all [.ref (ad w 0)] s (fun t => R 0 t)) (hrc2 : ∀ (s : Sg) (R : Int32 → Sg → Prop), rc 2 [] s R → CV shM w l D (.code yX8_compares cX8_compares 2 none) yX8_compares [.ref (ad w 0)] s (fun t => R 0 t)) (hrc3 : ∀ (s : Sg) (R : Int32 → Sg → Prop), rc 3 [] s R → CV shM w l D (.code yX8_sum cX8_sum 2 none) yX8_sum [.ref (ad w 0)] s (fun t => R 0 t)) (hrc4 : ∀ (s : Sg) (R : Int32 → Sg → Prop), rc 4 [] s R → CV shM w l D (.code yX8_times cX8_times 2 none) yX8_times [.ref (ad w 0)] s (fun t => R 0 t)) (hrc5 : ∀ (s : Sg) (R : Int32 → Sg → Prop), rc 5 [] s R → CV shM w l D (.code yX8_one cX8_one 3 none) yX8_one [.ref (ad w 0)] s (fun t => R 0 t)) (hrc6 : ∀ (b1 : Int32) (s : Sg) (R : Int32 → Sg → Prop), rc 6 [b1] s R → CV shM w l D (.code yX8_opens cX8_opens 2 none) yX8_opens [.ref (ad w 0), .int b1] s (fun t => R 0 t)) {s0 : Sg} {P : Int32 → Sg → Prop} (hw : wM_one rc  s0 P) : CV shM w l d (.code yX8_one cX8_one 3 none) yX8_one [.ref (ad w 0)] s0 (fun t => P 0 t) := by
  refine ci_of_v (own := "BagBottomModel") (ls0 := [some (.ref (ad w 0)), none, none]) rfl pn_X8 rfl rfl (fun g el hg => ?_)
  subst el
  unfold wM_one at hw
  refine x_aload_0 hg dX8_one_0 rfl ?_
  refine x_callVI hg (xM_look (gL g)  hw) kM_0 (by decide) rfl im_X8_look se_X8_look mi_X8_look ml_X8_115 (ble_of (by omega)) rfl (As := []) rfl rfl rfl dX8_one_1 rfl (fun r1 s1 hw => ?_)
  refine x_istore_1 hg dX8_one_4 rfl rfl rfl ?_
  refine x_aload_0 hg dX8_one_5 rfl ?_
  refine x_iload_1 hg dX8_one_6 rfl ?_
  refine x_callVI hg (xM_nameOf (gL g)  hw) kM_0 (by decide) rfl im_X8_nameOf se_X8_nameOf mi_X8_nameOf ml_X8_136 (ble_of (by omega)) rfl (As := [.int r1]) rfl rfl rfl dX8_one_7 rfl (fun r2 s2 hw => ?_)
  refine x_istore_2 hg dX8_one_10 rfl rfl rfl ?_
  refine x_iload_2 hg dX8_one_11 rfl ?_
  refine x_if_lt hg dX8_one_12 (tg := 34) (by decide) rfl hw (fun hw => ?_) (fun hw => ?_)
  · refine x_iload_1 hg dX8_one_34 rfl ?_
    refine x_bi hg dX8_one_35 bp_33 rfl ?_
    refine x_icmp_eq hg dX8_one_37 (tg := 46) (by decide) rfl hw (fun hw => ?_) (fun hw => ?_)
    · refine x_aload_0 hg dX8_one_46 rfl ?_
      refine x_iload_1 hg dX8_one_47 rfl ?_
      refine x_callVV hg (hrc6 _ _ _ hw) kM_0 (by decide) rfl im_X8_opens se_X8_opens mi_X8_opens ml_X8_139 hDd rfl (As := [.int r1]) rfl rfl rfl dX8_one_48 rfl (fun s3 hw => ?_)
      refine x_goto hg dX8_one_51 (pc' := 58) (by decide) ?_
      exact x_vret hg dX8_one_58 hw
    · refine x_iload_1 hg dX8_one_40 rfl ?_
      refine x_bi hg dX8_one_41 bp_40 rfl ?_
      refine x_icmp_ne hg dX8_one_43 (tg := 54) (by decide) rfl hw (fun hw => ?_) (fun hw => ?_)
      · refine x_aload_0 hg dX8_one_54 rfl ?_
        refine x_callVV hg (xM_number (gL g)  hw) kM_0 (by decide) rfl im_X8_number se_X8_number mi_X8_number ml_X8_142 (ble_of (by omega)) rfl (As := []) rfl rfl rfl dX8_one_55 rfl (fun s3 hw => ?_)
        exact x_vret hg dX8_one_58 hw
      · refine x_aload_0 hg dX8_one_46 rfl ?_
        refine x_iload_1 hg dX8_one_47 rfl ?_
        refine x_callVV hg (hrc6 _ _ _ hw) kM_0 (by decide) rfl im_X8_opens se_X8_opens mi_X8_opens ml_X8_139 hDd rfl (As := [.int r1]) rfl rfl rfl dX8_one_48 rfl (fun s3 hw => ?_)
        refine x_goto hg dX8_one_51 (pc' := 58) (by decide) ?_
        exact x_vret hg dX8_one_58 hw
  · refine x_aload_0 hg dX8_one_15 rfl ?_
    refine x_dup hg dX8_one_16 rfl rfl ?_
    refine get_X8_13 hg kM_0 fl_X8_105 dX8_one_17 rfl ?_
    refine x_ic hg dX8_one_20 ic_1 rfl ?_
    refine x_iadd hg dX8_one_21 rfl ?_
    refine put_X8_13 hg kM_0 fl_X8_105 dX8_one_22 rfl hw (fun s3 hw => ?_)
    refine x_aload_0 hg dX8_one_25 rfl ?_
    refine x_ic hg dX8_one_26 ic_2 rfl ?_
    refine x_iload_2 hg dX8_one_27 rfl ?_
    refine x_callVV hg (xM_step (gL g)  hw) kM_0 (by decide) rfl im_X8_step se_X8_step mi_X8_step ml_X8_123 (ble_of (by omega)) rfl (As := [.int 2, .int r2]) rfl rfl rfl dX8_one_28 rfl (fun s4 hw => ?_)
    refine x_goto hg dX8_one_31 (pc' := 58) (by decide) ?_
    exact x_vret hg dX8_one_58 hw
def wM_opens (rc : Nat → List Int32 → Sg → (Int32 → Sg → Prop) → Prop) (a1 : Int32) (s0 : Sg) (P : Int32 → Sg → Prop) : Prop := ((¬ (s0 0 14) = 5 → (∀ s1 : Sg, s1 = u2 s0 0 14 (((s0 0 14) + 1)) → (∀ s2 : Sg, s2 = u2 s1 0 13 (((s1 0 13) + 1)) → ((¬ a1 = 33 → (rc 0 [] s2 (fun (_z : Int32) (s3 : Sg) => ((¬ (s3 0 15) = 0 → (∀ s4 : Sg, s4 = u2 s3 0 15 1 → (((s4 0 15) = 0 → (∀ s5 : Sg, s5 = u2 s4 0 13 (((s4 0 13) + 1)) → (∀ s6 : Sg, s6 = u2 s5 0 14 (((s5 0 14) - 1)) → P 0 s6))) ∧ (¬ (s4 0 15) = 0 → (∀ s5 : Sg, s5 = u2 s4 0 13 (((s4 0 13) + 0)) → (∀ s6 : Sg, s6 = u2 s5 0 14 (((s5 0 14) - 1)) → P 0 s6)))))) ∧ ((s3 0 15) = 0 → (wM_look  s3 (fun (r1 : Int32) (s4 : Sg) => ((r1 = 41 → (∀ s5 : Sg, s5 = u2 s4 0 15 0 → (((s5 0 15) = 0 → (∀ s6 : Sg, s6 = u2 s5 0 13 (((s5 0 13) + 1)) → (∀ s7 : Sg, s7 = u2 s6 0 14 (((s6 0 14) - 1)) → P 0 s7))) ∧ (¬ (s5 0 15) = 0 → (∀ s6 : Sg, s6 = u2 s5 0 13 (((s5 0 13) + 0)) → (∀ s7 : Sg, s7 = u2 s6 0 14 (((s6 0 14) - 1)) → P 0 s7)))))) ∧ (¬ r1 = 41 → (∀ s5 : Sg, s5 = u2 s4 0 15 1 → (((s5 0 15) = 0 → (∀ s6 : Sg, s6 = u2 s5 0 13 (((s5 0 13) + 1)) → (∀ s7 : Sg, s7 = u2 s6 0 14 (((s6 0 14) - 1)) → P 0 s7))) ∧ (¬ (s5 0 15) = 0 → (∀ s6 : Sg, s6 = u2 s5 0 13 (((s5 0 13) + 0)) → (∀ s7 : Sg, s7 = u2 s6 0 14 (((s6 0 14) - 1)) → P 0 s7)))))))))))))) ∧ (a1 = 33 → (rc 5 [] s2 (fun (_z : Int32) (s3 : Sg) => (wM_step 3 0 s3 (fun (s4 : Sg) => (∀ s5 : Sg, s5 = u2 s4 0 14 (((s4 0 14) - 1)) → P 0 s5)))))))))) ∧ ((s0 0 14) = 5 → (∀ s1 : Sg, s1 = u2 s0 0 15 1 → P 0 s1)))
set_option maxRecDepth 100000 in
set_option maxHeartbeats 4000000 in
theorem xbM_opens {w : Wc} {l : Launch} {d : Nat} {D : Nat} {rc : Nat → List Int32 → Sg → (Int32 → Sg → Prop) → Prop} {a1 : Int32} (hd : 3 ≤ d) (hDd : Nat.ble (D + 1) d = true) (hrc0 : ∀ (s : Sg) (R : Int32 → Sg → Prop), rc 0 [] s R → CV shM w l D (.code yX8_any cX8_any 1 none) yX8_any [.ref (ad w 0)] s (fun t => R 0 t)) (hrc1 : ∀ (s : Sg) (R : Int32 → Sg → Prop), rc 1 [] s R → CV shM w l D (.code yX8_all cX8_all 1 none) yX8_all [.ref (ad w 0)] s (fun t => R 0 t)) (hrc2 : ∀ (s : Sg) (R : Int32 → Sg → Prop), rc 2 [] s R → CV shM w l D (.code yX8_compares cX8_compares 2 none) yX8_compares [.ref (ad w 0)] s (fun t => R 0 t)) (hrc3 : ∀ (s : Sg) (R : Int32 → Sg → Prop), rc 3 [] s R → CV shM w l D (.code yX8_sum cX8_sum 2 none) yX8_sum [.ref (ad w 0)] s (fun t => R 0 t)) (hrc4 : ∀ (s : Sg) (R : Int32 → Sg → Prop), rc 4 [] s R → CV shM w l D (.code yX8_times cX8_times 2 none) yX8_times [.ref (ad w 0)] s (fun t => R 0 t)) (hrc5 : ∀ (s : Sg) (R : Int32 → Sg → Prop), rc 5 [] s R → CV shM w l D (.code yX8_one cX8_one 3 none) yX8_one [.ref (ad w 0)] s (fun t => R 0 t)) (hrc6 : ∀ (b1 : Int32) (s : Sg) (R : Int32 → Sg → Prop), rc 6 [b1] s R → CV shM w l D (.code yX8_opens cX8_opens 2 none) yX8_opens [.ref (ad w 0), .int b1] s (fun t => R 0 t)) {s0 : Sg} {P : Int32 → Sg → Prop} (hw : wM_opens rc a1 s0 P) : CV shM w l d (.code yX8_opens cX8_opens 2 none) yX8_opens [.ref (ad w 0), .int a1] s0 (fun t => P 0 t) := by
  refine ci_of_v (own := "BagBottomModel") (ls0 := [some (.ref (ad w 0)), some (.int a1)]) rfl pn_X8 rfl rfl (fun g el hg => ?_)
  subst el
  unfold wM_opens at hw
  refine x_aload_0 hg dX8_opens_0 rfl ?_
  refine get_X8_14 hg kM_0 fl_X8_127 dX8_opens_1 rfl ?_
  refine x_ic hg dX8_opens_4 ic_5 rfl ?_
  refine x_icmp_ne hg dX8_opens_5 (tg := 14) (by decide) rfl hw (fun hw => ?_) (fun hw => ?_)
  · refine x_aload_0 hg dX8_opens_14 rfl ?_
    refine x_dup hg dX8_opens_15 rfl rfl ?_
    refine get_X8_14 hg kM_0 fl_X8_127 dX8_opens_16 rfl ?_
    refine x_ic hg dX8_opens_19 ic_1 rfl ?_
    refine x_iadd hg dX8_opens_20 rfl ?_
    refine put_X8_14 hg kM_0 fl_X8_127 dX8_opens_21 rfl hw (fun s1 hw => ?_)
    refine x_aload_0 hg dX8_opens_24 rfl ?_
    refine x_dup hg dX8_opens_25 rfl rfl ?_
    refine get_X8_13 hg kM_0 fl_X8_105 dX8_opens_26 rfl ?_
    refine x_ic hg dX8_opens_29 ic_1 rfl ?_
    refine x_iadd hg dX8_opens_30 rfl ?_
    refine put_X8_13 hg kM_0 fl_X8_105 dX8_opens_31 rfl hw (fun s2 hw => ?_)
    refine x_iload_1 hg dX8_opens_34 rfl ?_
    refine x_bi hg dX8_opens_35 bp_33 rfl ?_
    refine x_icmp_ne hg dX8_opens_37 (tg := 53) (by decide) rfl hw (fun hw => ?_) (fun hw => ?_)
    · refine x_aload_0 hg dX8_opens_53 rfl ?_
      refine x_callVV hg (hrc0  _ _ hw) kM_0 (by decide) rfl im_X8_any se_X8_any mi_X8_any ml_X8_133 hDd rfl (As := []) rfl rfl rfl dX8_opens_54 rfl (fun s3 hw => ?_)
      refine x_aload_0 hg dX8_opens_57 rfl ?_
      refine x_aload_0 hg dX8_opens_58 rfl ?_
      refine get_X8_15 hg kM_0 fl_X8_119 dX8_opens_59 rfl ?_
      refine x_if_ne hg dX8_opens_62 (tg := 74) (by decide) rfl hw (fun hw => ?_) (fun hw => ?_)
      · refine x_ic hg dX8_opens_74 ic_1 rfl ?_
        refine x_goto hg dX8_opens_75 (pc' := 79) (by decide) ?_
        refine put_X8_15 hg kM_0 (by decide) fl_X8_119 dX8_opens_79 rfl hw (fun s4 hw => ?_)
        refine x_aload_0 hg dX8_opens_82 rfl ?_
        refine x_dup hg dX8_opens_83 rfl rfl ?_
        refine get_X8_13 hg kM_0 fl_X8_105 dX8_opens_84 rfl ?_
        refine x_aload_0 hg dX8_opens_87 rfl ?_
        refine get_X8_15 hg kM_0 fl_X8_119 dX8_opens_88 rfl ?_
        refine x_if_eq hg dX8_opens_91 (tg := 98) (by decide) rfl hw (fun hw => ?_) (fun hw => ?_)
        · refine x_ic hg dX8_opens_98 ic_1 rfl ?_
          refine x_iadd hg dX8_opens_99 rfl ?_
          refine put_X8_13 hg kM_0 fl_X8_105 dX8_opens_100 rfl hw (fun s5 hw => ?_)
          refine x_aload_0 hg dX8_opens_103 rfl ?_
          refine x_dup hg dX8_opens_104 rfl rfl ?_
          refine get_X8_14 hg kM_0 fl_X8_127 dX8_opens_105 rfl ?_
          refine x_ic hg dX8_opens_108 ic_1 rfl ?_
          refine x_isub hg dX8_opens_109 rfl ?_
          refine put_X8_14 hg kM_0 fl_X8_127 dX8_opens_110 rfl hw (fun s6 hw => ?_)
          exact x_vret hg dX8_opens_113 hw
        · refine x_ic hg dX8_opens_94 ic_0 rfl ?_
          refine x_goto hg dX8_opens_95 (pc' := 99) (by decide) ?_
          refine x_iadd hg dX8_opens_99 rfl ?_
          refine put_X8_13 hg kM_0 fl_X8_105 dX8_opens_100 rfl hw (fun s5 hw => ?_)
          refine x_aload_0 hg dX8_opens_103 rfl ?_
          refine x_dup hg dX8_opens_104 rfl rfl ?_
          refine get_X8_14 hg kM_0 fl_X8_127 dX8_opens_105 rfl ?_
          refine x_ic hg dX8_opens_108 ic_1 rfl ?_
          refine x_isub hg dX8_opens_109 rfl ?_
          refine put_X8_14 hg kM_0 fl_X8_127 dX8_opens_110 rfl hw (fun s6 hw => ?_)
          exact x_vret hg dX8_opens_113 hw
      · refine x_aload_0 hg dX8_opens_65 rfl ?_
        refine x_callVI hg (xM_look (gL g)  hw) kM_0 (by decide) rfl im_X8_look se_X8_look mi_X8_look ml_X8_115 (ble_of (by omega)) rfl (As := []) rfl rfl rfl dX8_opens_66 rfl (fun r1 s4 hw => ?_)
        refine x_bi hg dX8_opens_69 bp_41 rfl ?_
        refine x_icmp_eq hg dX8_opens_71 (tg := 78) (by decide) rfl hw (fun hw => ?_) (fun hw => ?_)
        · refine x_ic hg dX8_opens_78 ic_0 rfl ?_
          refine put_X8_15 hg kM_0 (by decide) fl_X8_119 dX8_opens_79 rfl hw (fun s5 hw => ?_)
          refine x_aload_0 hg dX8_opens_82 rfl ?_
          refine x_dup hg dX8_opens_83 rfl rfl ?_
          refine get_X8_13 hg kM_0 fl_X8_105 dX8_opens_84 rfl ?_
          refine x_aload_0 hg dX8_opens_87 rfl ?_
          refine get_X8_15 hg kM_0 fl_X8_119 dX8_opens_88 rfl ?_
          refine x_if_eq hg dX8_opens_91 (tg := 98) (by decide) rfl hw (fun hw => ?_) (fun hw => ?_)
          · refine x_ic hg dX8_opens_98 ic_1 rfl ?_
            refine x_iadd hg dX8_opens_99 rfl ?_
            refine put_X8_13 hg kM_0 fl_X8_105 dX8_opens_100 rfl hw (fun s6 hw => ?_)
            refine x_aload_0 hg dX8_opens_103 rfl ?_
            refine x_dup hg dX8_opens_104 rfl rfl ?_
            refine get_X8_14 hg kM_0 fl_X8_127 dX8_opens_105 rfl ?_
            refine x_ic hg dX8_opens_108 ic_1 rfl ?_
            refine x_isub hg dX8_opens_109 rfl ?_
            refine put_X8_14 hg kM_0 fl_X8_127 dX8_opens_110 rfl hw (fun s7 hw => ?_)
            exact x_vret hg dX8_opens_113 hw
          · refine x_ic hg dX8_opens_94 ic_0 rfl ?_
            refine x_goto hg dX8_opens_95 (pc' := 99) (by decide) ?_
            refine x_iadd hg dX8_opens_99 rfl ?_
            refine put_X8_13 hg kM_0 fl_X8_105 dX8_opens_100 rfl hw (fun s6 hw => ?_)
            refine x_aload_0 hg dX8_opens_103 rfl ?_
            refine x_dup hg dX8_opens_104 rfl rfl ?_
            refine get_X8_14 hg kM_0 fl_X8_127 dX8_opens_105 rfl ?_
            refine x_ic hg dX8_opens_108 ic_1 rfl ?_
            refine x_isub hg dX8_opens_109 rfl ?_
            refine put_X8_14 hg kM_0 fl_X8_127 dX8_opens_110 rfl hw (fun s7 hw => ?_)
            exact x_vret hg dX8_opens_113 hw
        · refine x_ic hg dX8_opens_74 ic_1 rfl ?_
          refine x_goto hg dX8_opens_75 (pc' := 79) (by decide) ?_
          refine put_X8_15 hg kM_0 (by decide) fl_X8_119 dX8_opens_79 rfl hw (fun s5 hw => ?_)
          refine x_aload_0 hg dX8_opens_82 rfl ?_
          refine x_dup hg dX8_opens_83 rfl rfl ?_
          refine get_X8_13 hg kM_0 fl_X8_105 dX8_opens_84 rfl ?_
          refine x_aload_0 hg dX8_opens_87 rfl ?_
          refine get_X8_15 hg kM_0 fl_X8_119 dX8_opens_88 rfl ?_
          refine x_if_eq hg dX8_opens_91 (tg := 98) (by decide) rfl hw (fun hw => ?_) (fun hw => ?_)
          · refine x_ic hg dX8_opens_98 ic_1 rfl ?_
            refine x_iadd hg dX8_opens_99 rfl ?_
            refine put_X8_13 hg kM_0 fl_X8_105 dX8_opens_100 rfl hw (fun s6 hw => ?_)
            refine x_aload_0 hg dX8_opens_103 rfl ?_
            refine x_dup hg dX8_opens_104 rfl rfl ?_
            refine get_X8_14 hg kM_0 fl_X8_127 dX8_opens_105 rfl ?_
            refine x_ic hg dX8_opens_108 ic_1 rfl ?_
            refine x_isub hg dX8_opens_109 rfl ?_
            refine put_X8_14 hg kM_0 fl_X8_127 dX8_opens_110 rfl hw (fun s7 hw => ?_)
            exact x_vret hg dX8_opens_113 hw
          · refine x_ic hg dX8_opens_94 ic_0 rfl ?_
            refine x_goto hg dX8_opens_95 (pc' := 99) (by decide) ?_
            refine x_iadd hg dX8_opens_99 rfl ?_
            refine put_X8_13 hg kM_0 fl_X8_105 dX8_opens_100 rfl hw (fun s6 hw => ?_)
            refine x_aload_0 hg dX8_opens_103 rfl ?_
            refine x_dup hg dX8_opens_104 rfl rfl ?_
            refine get_X8_14 hg kM_0 fl_X8_127 dX8_opens_105 rfl ?_
            refine x_ic hg dX8_opens_108 ic_1 rfl ?_
            refine x_isub hg dX8_opens_109 rfl ?_
            refine put_X8_14 hg kM_0 fl_X8_127 dX8_opens_110 rfl hw (fun s7 hw => ?_)
            exact x_vret hg dX8_opens_113 hw
    · refine x_aload_0 hg dX8_opens_40 rfl ?_
      refine x_callVV hg (hrc5  _ _ hw) kM_0 (by decide) rfl im_X8_one se_X8_one mi_X8_one ml_X8_130 hDd rfl (As := []) rfl rfl rfl dX8_opens_41 rfl (fun s3 hw => ?_)
      refine x_aload_0 hg dX8_opens_44 rfl ?_
      refine x_ic hg dX8_opens_45 ic_3 rfl ?_
      refine x_ic hg dX8_opens_46 ic_0 rfl ?_
      refine x_callVV hg (xM_step (gL g)  hw) kM_0 (by decide) rfl im_X8_step se_X8_step mi_X8_step ml_X8_123 (ble_of (by omega)) rfl (As := [.int 3, .int 0]) rfl rfl rfl dX8_opens_47 rfl (fun s4 hw => ?_)
      refine x_goto hg dX8_opens_50 (pc' := 103) (by decide) ?_
      refine x_aload_0 hg dX8_opens_103 rfl ?_
      refine x_dup hg dX8_opens_104 rfl rfl ?_
      refine get_X8_14 hg kM_0 fl_X8_127 dX8_opens_105 rfl ?_
      refine x_ic hg dX8_opens_108 ic_1 rfl ?_
      refine x_isub hg dX8_opens_109 rfl ?_
      refine put_X8_14 hg kM_0 fl_X8_127 dX8_opens_110 rfl hw (fun s5 hw => ?_)
      exact x_vret hg dX8_opens_113 hw
  · refine x_aload_0 hg dX8_opens_8 rfl ?_
    refine x_ic hg dX8_opens_9 ic_1 rfl ?_
    refine put_X8_15 hg kM_0 (by decide) fl_X8_119 dX8_opens_10 rfl hw (fun s1 hw => ?_)
    exact x_vret hg dX8_opens_13 hw
set_option maxRecDepth 100000 in
set_option maxHeartbeats 4000000 in
def wGParse : Nat → Nat → List Int32 → Sg → (Int32 → Sg → Prop) → Prop
  | 0, _, _, _, _ => False
  | n + 1, q, as, s, P => match q with
    | 0 => wM_any (wGParse n)  s P
    | 1 => wM_all (wGParse n)  s P
    | 2 => wM_compares (wGParse n)  s P
    | 3 => wM_sum (wGParse n)  s P
    | 4 => wM_times (wGParse n)  s P
    | 5 => wM_one (wGParse n)  s P
    | _ => wM_opens (wGParse n) (as.getD 0 0) s P
set_option maxRecDepth 100000 in
set_option maxHeartbeats 4000000 in
theorem xGParse {w : Wc} (l : Launch) : ∀ n : Nat, (∀ (s : Sg) (R : Int32 → Sg → Prop), wGParse n 0 [] s R → CV shM w l (2 + n) (.code yX8_any cX8_any 1 none) yX8_any [.ref (ad w 0)] s (fun t => R 0 t)) ∧ (∀ (s : Sg) (R : Int32 → Sg → Prop), wGParse n 1 [] s R → CV shM w l (2 + n) (.code yX8_all cX8_all 1 none) yX8_all [.ref (ad w 0)] s (fun t => R 0 t)) ∧ (∀ (s : Sg) (R : Int32 → Sg → Prop), wGParse n 2 [] s R → CV shM w l (2 + n) (.code yX8_compares cX8_compares 2 none) yX8_compares [.ref (ad w 0)] s (fun t => R 0 t)) ∧ (∀ (s : Sg) (R : Int32 → Sg → Prop), wGParse n 3 [] s R → CV shM w l (2 + n) (.code yX8_sum cX8_sum 2 none) yX8_sum [.ref (ad w 0)] s (fun t => R 0 t)) ∧ (∀ (s : Sg) (R : Int32 → Sg → Prop), wGParse n 4 [] s R → CV shM w l (2 + n) (.code yX8_times cX8_times 2 none) yX8_times [.ref (ad w 0)] s (fun t => R 0 t)) ∧ (∀ (s : Sg) (R : Int32 → Sg → Prop), wGParse n 5 [] s R → CV shM w l (2 + n) (.code yX8_one cX8_one 3 none) yX8_one [.ref (ad w 0)] s (fun t => R 0 t)) ∧ (∀ (b1 : Int32) (s : Sg) (R : Int32 → Sg → Prop), wGParse n 6 [b1] s R → CV shM w l (2 + n) (.code yX8_opens cX8_opens 2 none) yX8_opens [.ref (ad w 0), .int b1] s (fun t => R 0 t)) := by
  intro n
  induction n with
  | zero => exact ⟨fun  _ _ h => h.elim, fun  _ _ h => h.elim, fun  _ _ h => h.elim, fun  _ _ h => h.elim, fun  _ _ h => h.elim, fun  _ _ h => h.elim, fun _ _ _ h => h.elim⟩
  | succ n ih =>
    obtain ⟨h0, h1, h2, h3, h4, h5, h6⟩ := ih
    have hd : 3 ≤ 2 + (n + 1) := by omega
    have hDd : Nat.ble (2 + n + 1) (2 + (n + 1)) = true := ble_of (by omega)
    exact ⟨fun  _ _ h => xbM_any (rc := wGParse n) hd hDd h0 h1 h2 h3 h4 h5 h6 h, fun  _ _ h => xbM_all (rc := wGParse n) hd hDd h0 h1 h2 h3 h4 h5 h6 h, fun  _ _ h => xbM_compares (rc := wGParse n) hd hDd h0 h1 h2 h3 h4 h5 h6 h, fun  _ _ h => xbM_sum (rc := wGParse n) hd hDd h0 h1 h2 h3 h4 h5 h6 h, fun  _ _ h => xbM_times (rc := wGParse n) hd hDd h0 h1 h2 h3 h4 h5 h6 h, fun  _ _ h => xbM_one (rc := wGParse n) hd hDd h0 h1 h2 h3 h4 h5 h6 h, fun _ _ _ h => xbM_opens (rc := wGParse n) hd hDd h0 h1 h2 h3 h4 h5 h6 h⟩
theorem xM_any {w : Wc} (l : Launch) (n : Nat) {s0 : Sg} {P : Int32 → Sg → Prop} (hw : wGParse n 0 [] s0 P) : CV shM w l (2 + n) (.code yX8_any cX8_any 1 none) yX8_any [.ref (ad w 0)] s0 (fun t => P 0 t) := (xGParse l n).1  _ _ hw
theorem xM_all {w : Wc} (l : Launch) (n : Nat) {s0 : Sg} {P : Int32 → Sg → Prop} (hw : wGParse n 1 [] s0 P) : CV shM w l (2 + n) (.code yX8_all cX8_all 1 none) yX8_all [.ref (ad w 0)] s0 (fun t => P 0 t) := (xGParse l n).2.1  _ _ hw
theorem xM_compares {w : Wc} (l : Launch) (n : Nat) {s0 : Sg} {P : Int32 → Sg → Prop} (hw : wGParse n 2 [] s0 P) : CV shM w l (2 + n) (.code yX8_compares cX8_compares 2 none) yX8_compares [.ref (ad w 0)] s0 (fun t => P 0 t) := (xGParse l n).2.2.1  _ _ hw
theorem xM_sum {w : Wc} (l : Launch) (n : Nat) {s0 : Sg} {P : Int32 → Sg → Prop} (hw : wGParse n 3 [] s0 P) : CV shM w l (2 + n) (.code yX8_sum cX8_sum 2 none) yX8_sum [.ref (ad w 0)] s0 (fun t => P 0 t) := (xGParse l n).2.2.2.1  _ _ hw
theorem xM_times {w : Wc} (l : Launch) (n : Nat) {s0 : Sg} {P : Int32 → Sg → Prop} (hw : wGParse n 4 [] s0 P) : CV shM w l (2 + n) (.code yX8_times cX8_times 2 none) yX8_times [.ref (ad w 0)] s0 (fun t => P 0 t) := (xGParse l n).2.2.2.2.1  _ _ hw
theorem xM_one {w : Wc} (l : Launch) (n : Nat) {s0 : Sg} {P : Int32 → Sg → Prop} (hw : wGParse n 5 [] s0 P) : CV shM w l (2 + n) (.code yX8_one cX8_one 3 none) yX8_one [.ref (ad w 0)] s0 (fun t => P 0 t) := (xGParse l n).2.2.2.2.2.1  _ _ hw
theorem xM_opens {w : Wc} (l : Launch) (n : Nat) (b1 : Int32) {s0 : Sg} {P : Int32 → Sg → Prop} (hw : wGParse n 6 [b1] s0 P) : CV shM w l (2 + n) (.code yX8_opens cX8_opens 2 none) yX8_opens [.ref (ad w 0), .int b1] s0 (fun t => P 0 t) := (xGParse l n).2.2.2.2.2.2 b1 _ _ hw
def wM_text_117 (f2 : Int32) (K164 : Sg → Prop) : Nat → Int32 → Sg → Prop
  | 0, _, _ => False
  | n + 1, a3, s0 => (((s0 0 12) ≤ a3 → K164  s0) ∧ (¬ (s0 0 12) ≤ a3 → (vp_in a3 60 ∧ (vp_in (((f2 + 1) + a3)) 379 ∧ ∀ s1 : Sg, s1 = u2 s0 1 (ix (((f2 + 1) + a3))) ((s0 8 (ix a3))) → (vp_in a3 60 ∧ (vp_in (((f2 + 61) + a3)) 379 ∧ ∀ s2 : Sg, s2 = u2 s1 1 (ix (((f2 + 61) + a3))) ((s1 9 (ix a3))) → wM_text_117 f2 K164 n ((a3 + 1)) s2))))))
def wM_text (a1 : Int32) (s0 : Sg) (P : Int32 → Sg → Prop) : Prop := (wM_in a1 0 1 s0 (fun (r1 : Int32) (s1 : Sg) => ((¬ r1 = 0 → (∀ s2 : Sg, s2 = u2 s1 0 16 a1 → (∀ s3 : Sg, s3 = u2 s2 0 12 0 → (∀ s4 : Sg, s4 = u2 s3 0 13 0 → (∀ s5 : Sg, s5 = u2 s4 0 14 0 → (∀ s6 : Sg, s6 = u2 s5 0 15 0 → (wGParse  50 0 [] s6 (fun (_z : Int32) (s7 : Sg) => ((¬ (s7 0 15) = 0 → (∀ s8 : Sg, s8 = u2 s7 0 15 1 → (∀ s9 : Sg, s9 = u2 s8 1 5 0 → (((s9 0 15) = 0 → (vp_in ((137 + (121 * a1))) 379 ∧ ∀ s10 : Sg, s10 = u2 s9 1 (ix ((137 + (121 * a1)))) ((s9 0 12)) → (∃ N1 : Nat, wM_text_117 ((137 + (121 * a1))) (fun  (s11 : Sg) => P 1 s11) N1 0 s10))) ∧ (¬ (s9 0 15) = 0 → P (((-10) - (s9 0 13))) s9))))) ∧ ((s7 0 15) = 0 → (((s7 1 5) ≤ (s7 0 13) → (∀ s8 : Sg, s8 = u2 s7 0 15 0 → (∀ s9 : Sg, s9 = u2 s8 1 5 0 → (((s9 0 15) = 0 → (vp_in ((137 + (121 * a1))) 379 ∧ ∀ s10 : Sg, s10 = u2 s9 1 (ix ((137 + (121 * a1)))) ((s9 0 12)) → (∃ N1 : Nat, wM_text_117 ((137 + (121 * a1))) (fun  (s11 : Sg) => P 1 s11) N1 0 s10))) ∧ (¬ (s9 0 15) = 0 → P (((-10) - (s9 0 13))) s9))))) ∧ (¬ (s7 1 5) ≤ (s7 0 13) → (∀ s8 : Sg, s8 = u2 s7 0 15 1 → (∀ s9 : Sg, s9 = u2 s8 1 5 0 → (((s9 0 15) = 0 → (vp_in ((137 + (121 * a1))) 379 ∧ ∀ s10 : Sg, s10 = u2 s9 1 (ix ((137 + (121 * a1)))) ((s9 0 12)) → (∃ N1 : Nat, wM_text_117 ((137 + (121 * a1))) (fun  (s11 : Sg) => P 1 s11) N1 0 s10))) ∧ (¬ (s9 0 15) = 0 → P (((-10) - (s9 0 13))) s9)))))))))))))))) ∧ (r1 = 0 → (wM_error ((-1000000001)) s1 (fun (r2 : Int32) (s2 : Sg) => P r2 s2))))))
set_option maxRecDepth 100000 in
set_option maxHeartbeats 4000000 in
theorem xM_text_117 {w : Wc} {g : Gx} {Q : State → Prop} {f2 : Int32} {K164 : Sg → Prop} (hg : OK shM w g 53 cX8_text "BagBottomModel" 4 (some .int)) (hK164 : ∀ (s0 : Sg), K164  s0 → X shM w g Q 164 [none, none, none, none] [] s0) : ∀ (n : Nat) (a3 : Int32) (s0 : Sg), wM_text_117 f2 K164 n a3 s0 → X shM w g Q 117 [some (.ref (ad w 0)), none, some (.int f2), some (.int a3)] [] s0 := by
  intro n
  induction n with
  | zero =>
    intro a3 s0 hw
    exact hw.elim
  | succ n ih =>
    intro a3 s0 hw
    rw [wM_text_117] at hw
    refine x_iload_3 hg dX8_text_117 rfl ?_
    refine x_aload_0 hg dX8_text_118 rfl ?_
    refine get_X8_12 hg kM_0 fl_X8_109 dX8_text_119 rfl ?_
    refine x_icmp_ge hg dX8_text_122 (tg := 164) (by decide) rfl hw (fun hw => ?_) (fun hw => ?_)
    · refine x_drop_0 ?_
      refine x_drop_2 ?_
      refine x_drop_3 ?_
      exact hK164  _ hw
    · refine x_aload_0 hg dX8_text_125 rfl ?_
      refine get_X8_0 hg kM_0 fl_X8_9 dX8_text_126 rfl (k2 := 1) rfl ?_
      refine x_iload_2 hg dX8_text_129 rfl ?_
      refine x_ic hg dX8_text_130 ic_1 rfl ?_
      refine x_iadd hg dX8_text_131 rfl ?_
      refine x_iload_3 hg dX8_text_132 rfl ?_
      refine x_iadd hg dX8_text_133 rfl ?_
      refine x_aload_0 hg dX8_text_134 rfl ?_
      refine get_X8_8 hg kM_0 fl_X8_31 dX8_text_135 rfl (k2 := 8) rfl ?_
      refine x_iload_3 hg dX8_text_138 rfl ?_
      refine x_iald hg kM_8 rfl dX8_text_139 rfl hw (fun hw => ?_)
      refine x_iast hg kM_1 rfl dX8_text_140 rfl hw (fun s1 hw => ?_)
      refine x_aload_0 hg dX8_text_141 rfl ?_
      refine get_X8_0 hg kM_0 fl_X8_9 dX8_text_142 rfl (k2 := 1) rfl ?_
      refine x_iload_2 hg dX8_text_145 rfl ?_
      refine x_bi hg dX8_text_146 bp_61 rfl ?_
      refine x_iadd hg dX8_text_148 rfl ?_
      refine x_iload_3 hg dX8_text_149 rfl ?_
      refine x_iadd hg dX8_text_150 rfl ?_
      refine x_aload_0 hg dX8_text_151 rfl ?_
      refine get_X8_9 hg kM_0 fl_X8_34 dX8_text_152 rfl (k2 := 9) rfl ?_
      refine x_iload_3 hg dX8_text_155 rfl ?_
      refine x_iald hg kM_9 rfl dX8_text_156 rfl hw (fun hw => ?_)
      refine x_iast hg kM_1 rfl dX8_text_157 rfl hw (fun s2 hw => ?_)
      refine x_iinc_3 hg dX8_text_158 ic_1 rfl rfl rfl ?_
      refine x_goto hg dX8_text_161 (pc' := 117) (by decide) ?_
      exact ih _ _ hw
set_option maxRecDepth 100000 in
set_option maxHeartbeats 4000000 in
theorem xM_text {w : Wc} (l : Launch) {a1 : Int32} {s0 : Sg} {P : Int32 → Sg → Prop} (hw : wM_text a1 s0 P) : CI shM w l 53 (.code yX8_text cX8_text 4 (some .int)) yX8_text [.ref (ad w 0), .int a1] s0 P := by
  refine ci_of_i (own := "BagBottomModel") (ls0 := [some (.ref (ad w 0)), some (.int a1), none, none]) rfl pn_X8 rfl rfl (fun g el hg => ?_)
  unfold wM_text at hw
  refine x_iload_1 hg dX8_text_0 rfl ?_
  refine x_ic hg dX8_text_1 ic_0 rfl ?_
  refine x_ic hg dX8_text_2 ic_1 rfl ?_
  refine x_callSI hg (xM_in (gL g)  hw) sm_X8_in mi_X8_in ml_X8_57 rfl rfl (As := [.int a1, .int 0, .int 1]) rfl rfl rfl dX8_text_3 rfl (fun r1 s1 hw => ?_)
  refine x_if_ne hg dX8_text_6 (tg := 16) (by decide) rfl hw (fun hw => ?_) (fun hw => ?_)
  · refine x_aload_0 hg dX8_text_16 rfl ?_
    refine x_iload_1 hg dX8_text_17 rfl ?_
    refine put_X8_16 hg kM_0 fl_X8_112 dX8_text_18 rfl hw (fun s2 hw => ?_)
    refine x_aload_0 hg dX8_text_21 rfl ?_
    refine x_ic hg dX8_text_22 ic_0 rfl ?_
    refine put_X8_12 hg kM_0 fl_X8_109 dX8_text_23 rfl hw (fun s3 hw => ?_)
    refine x_aload_0 hg dX8_text_26 rfl ?_
    refine x_ic hg dX8_text_27 ic_0 rfl ?_
    refine put_X8_13 hg kM_0 fl_X8_105 dX8_text_28 rfl hw (fun s4 hw => ?_)
    refine x_aload_0 hg dX8_text_31 rfl ?_
    refine x_ic hg dX8_text_32 ic_0 rfl ?_
    refine put_X8_14 hg kM_0 fl_X8_127 dX8_text_33 rfl hw (fun s5 hw => ?_)
    refine x_aload_0 hg dX8_text_36 rfl ?_
    refine x_ic hg dX8_text_37 ic_0 rfl ?_
    refine put_X8_15 hg kM_0 (by decide) fl_X8_119 dX8_text_38 rfl hw (fun s6 hw => ?_)
    refine x_aload_0 hg dX8_text_41 rfl ?_
    refine x_callVV hg (xM_any  (gL g) 50  hw) kM_0 (by decide) rfl im_X8_any se_X8_any mi_X8_any ml_X8_133 rfl rfl (As := []) rfl rfl rfl dX8_text_42 rfl (fun s7 hw => ?_)
    refine x_aload_0 hg dX8_text_45 rfl ?_
    refine x_aload_0 hg dX8_text_46 rfl ?_
    refine get_X8_15 hg kM_0 fl_X8_119 dX8_text_47 rfl ?_
    refine x_if_ne hg dX8_text_50 (tg := 66) (by decide) rfl hw (fun hw => ?_) (fun hw => ?_)
    · refine x_ic hg dX8_text_66 ic_1 rfl ?_
      refine x_goto hg dX8_text_67 (pc' := 71) (by decide) ?_
      refine put_X8_15 hg kM_0 (by decide) fl_X8_119 dX8_text_71 rfl hw (fun s8 hw => ?_)
      refine x_aload_0 hg dX8_text_74 rfl ?_
      refine get_X8_0 hg kM_0 fl_X8_9 dX8_text_75 rfl (k2 := 1) rfl ?_
      refine x_ic hg dX8_text_78 ic_5 rfl ?_
      refine x_ic hg dX8_text_79 ic_0 rfl ?_
      refine x_iastc hg kM_1 rfl vi_5_379 ix_5 dX8_text_80 rfl hw (fun s9 hw => ?_)
      refine x_aload_0 hg dX8_text_81 rfl ?_
      refine get_X8_15 hg kM_0 fl_X8_119 dX8_text_82 rfl ?_
      refine x_if_eq hg dX8_text_85 (tg := 96) (by decide) rfl hw (fun hw => ?_) (fun hw => ?_)
      · refine x_si hg dX8_text_96 sp_137 rfl ?_
        refine x_bi hg dX8_text_99 bp_121 rfl ?_
        refine x_iload_1 hg dX8_text_101 rfl ?_
        refine x_imul hg dX8_text_102 rfl ?_
        refine x_iadd hg dX8_text_103 rfl ?_
        refine x_istore_2 hg dX8_text_104 rfl rfl rfl ?_
        refine x_aload_0 hg dX8_text_105 rfl ?_
        refine get_X8_0 hg kM_0 fl_X8_9 dX8_text_106 rfl (k2 := 1) rfl ?_
        refine x_iload_2 hg dX8_text_109 rfl ?_
        refine x_aload_0 hg dX8_text_110 rfl ?_
        refine get_X8_12 hg kM_0 fl_X8_109 dX8_text_111 rfl ?_
        refine x_iast hg kM_1 rfl dX8_text_114 rfl hw (fun s10 hw => ?_)
        refine x_ic hg dX8_text_115 ic_0 rfl ?_
        refine x_istore_3 hg dX8_text_116 rfl rfl rfl ?_
        refine x_drop_1 ?_
        obtain ⟨N1, hw⟩ := hw
        refine xM_text_117 hg  (fun  s11 hw => ?_) _ _ _ hw
        · refine x_ic hg dX8_text_164 ic_1 rfl ?_
          exact x_ret hg dX8_text_165 hw
      · refine x_bi hg dX8_text_88 bp_m10 rfl ?_
        refine x_aload_0 hg dX8_text_90 rfl ?_
        refine get_X8_13 hg kM_0 fl_X8_105 dX8_text_91 rfl ?_
        refine x_isub hg dX8_text_94 rfl ?_
        exact x_ret hg dX8_text_95 hw
    · refine x_aload_0 hg dX8_text_53 rfl ?_
      refine get_X8_13 hg kM_0 fl_X8_105 dX8_text_54 rfl ?_
      refine x_aload_0 hg dX8_text_57 rfl ?_
      refine get_X8_0 hg kM_0 fl_X8_9 dX8_text_58 rfl (k2 := 1) rfl ?_
      refine x_ic hg dX8_text_61 ic_5 rfl ?_
      refine x_ialdc hg kM_1 rfl vi_5_379 ix_5 dX8_text_62 rfl ?_
      refine x_icmp_ge hg dX8_text_63 (tg := 70) (by decide) rfl hw (fun hw => ?_) (fun hw => ?_)
      · refine x_ic hg dX8_text_70 ic_0 rfl ?_
        refine put_X8_15 hg kM_0 (by decide) fl_X8_119 dX8_text_71 rfl hw (fun s8 hw => ?_)
        refine x_aload_0 hg dX8_text_74 rfl ?_
        refine get_X8_0 hg kM_0 fl_X8_9 dX8_text_75 rfl (k2 := 1) rfl ?_
        refine x_ic hg dX8_text_78 ic_5 rfl ?_
        refine x_ic hg dX8_text_79 ic_0 rfl ?_
        refine x_iastc hg kM_1 rfl vi_5_379 ix_5 dX8_text_80 rfl hw (fun s9 hw => ?_)
        refine x_aload_0 hg dX8_text_81 rfl ?_
        refine get_X8_15 hg kM_0 fl_X8_119 dX8_text_82 rfl ?_
        refine x_if_eq hg dX8_text_85 (tg := 96) (by decide) rfl hw (fun hw => ?_) (fun hw => ?_)
        · refine x_si hg dX8_text_96 sp_137 rfl ?_
          refine x_bi hg dX8_text_99 bp_121 rfl ?_
          refine x_iload_1 hg dX8_text_101 rfl ?_
          refine x_imul hg dX8_text_102 rfl ?_
          refine x_iadd hg dX8_text_103 rfl ?_
          refine x_istore_2 hg dX8_text_104 rfl rfl rfl ?_
          refine x_aload_0 hg dX8_text_105 rfl ?_
          refine get_X8_0 hg kM_0 fl_X8_9 dX8_text_106 rfl (k2 := 1) rfl ?_
          refine x_iload_2 hg dX8_text_109 rfl ?_
          refine x_aload_0 hg dX8_text_110 rfl ?_
          refine get_X8_12 hg kM_0 fl_X8_109 dX8_text_111 rfl ?_
          refine x_iast hg kM_1 rfl dX8_text_114 rfl hw (fun s10 hw => ?_)
          refine x_ic hg dX8_text_115 ic_0 rfl ?_
          refine x_istore_3 hg dX8_text_116 rfl rfl rfl ?_
          refine x_drop_1 ?_
          obtain ⟨N1, hw⟩ := hw
          refine xM_text_117 hg  (fun  s11 hw => ?_) _ _ _ hw
          · refine x_ic hg dX8_text_164 ic_1 rfl ?_
            exact x_ret hg dX8_text_165 hw
        · refine x_bi hg dX8_text_88 bp_m10 rfl ?_
          refine x_aload_0 hg dX8_text_90 rfl ?_
          refine get_X8_13 hg kM_0 fl_X8_105 dX8_text_91 rfl ?_
          refine x_isub hg dX8_text_94 rfl ?_
          exact x_ret hg dX8_text_95 hw
      · refine x_ic hg dX8_text_66 ic_1 rfl ?_
        refine x_goto hg dX8_text_67 (pc' := 71) (by decide) ?_
        refine put_X8_15 hg kM_0 (by decide) fl_X8_119 dX8_text_71 rfl hw (fun s8 hw => ?_)
        refine x_aload_0 hg dX8_text_74 rfl ?_
        refine get_X8_0 hg kM_0 fl_X8_9 dX8_text_75 rfl (k2 := 1) rfl ?_
        refine x_ic hg dX8_text_78 ic_5 rfl ?_
        refine x_ic hg dX8_text_79 ic_0 rfl ?_
        refine x_iastc hg kM_1 rfl vi_5_379 ix_5 dX8_text_80 rfl hw (fun s9 hw => ?_)
        refine x_aload_0 hg dX8_text_81 rfl ?_
        refine get_X8_15 hg kM_0 fl_X8_119 dX8_text_82 rfl ?_
        refine x_if_eq hg dX8_text_85 (tg := 96) (by decide) rfl hw (fun hw => ?_) (fun hw => ?_)
        · refine x_si hg dX8_text_96 sp_137 rfl ?_
          refine x_bi hg dX8_text_99 bp_121 rfl ?_
          refine x_iload_1 hg dX8_text_101 rfl ?_
          refine x_imul hg dX8_text_102 rfl ?_
          refine x_iadd hg dX8_text_103 rfl ?_
          refine x_istore_2 hg dX8_text_104 rfl rfl rfl ?_
          refine x_aload_0 hg dX8_text_105 rfl ?_
          refine get_X8_0 hg kM_0 fl_X8_9 dX8_text_106 rfl (k2 := 1) rfl ?_
          refine x_iload_2 hg dX8_text_109 rfl ?_
          refine x_aload_0 hg dX8_text_110 rfl ?_
          refine get_X8_12 hg kM_0 fl_X8_109 dX8_text_111 rfl ?_
          refine x_iast hg kM_1 rfl dX8_text_114 rfl hw (fun s10 hw => ?_)
          refine x_ic hg dX8_text_115 ic_0 rfl ?_
          refine x_istore_3 hg dX8_text_116 rfl rfl rfl ?_
          refine x_drop_1 ?_
          obtain ⟨N1, hw⟩ := hw
          refine xM_text_117 hg  (fun  s11 hw => ?_) _ _ _ hw
          · refine x_ic hg dX8_text_164 ic_1 rfl ?_
            exact x_ret hg dX8_text_165 hw
        · refine x_bi hg dX8_text_88 bp_m10 rfl ?_
          refine x_aload_0 hg dX8_text_90 rfl ?_
          refine get_X8_13 hg kM_0 fl_X8_105 dX8_text_91 rfl ?_
          refine x_isub hg dX8_text_94 rfl ?_
          exact x_ret hg dX8_text_95 hw
  · refine x_aload_0 hg dX8_text_9 rfl ?_
    refine x_ldc hg kc_X8_77 dX8_text_10 rfl ?_
    refine x_callVI hg (xM_error (gL g)  hw) kM_0 (by decide) rfl im_X8_error se_X8_error mi_X8_error ml_X8_78 rfl rfl (As := [.int (-1000000001)]) rfl rfl rfl dX8_text_12 rfl (fun r2 s2 hw => ?_)
    exact x_ret hg dX8_text_15 hw
def wM_untell (a1 : Int32) (s0 : Sg) (P : Int32 → Sg → Prop) : Prop := (wM_in a1 0 1 s0 (fun (r1 : Int32) (s1 : Sg) => ((¬ r1 = 0 → (wM_becomes ((137 + (121 * a1))) 0 s1 (fun (r2 : Int32) (s2 : Sg) => ((r2 ≤ 0 → P 0 s2) ∧ (¬ r2 ≤ 0 → P 1 s2))))) ∧ (r1 = 0 → (wM_error ((-1000000001)) s1 (fun (r2 : Int32) (s2 : Sg) => P r2 s2))))))
set_option maxRecDepth 100000 in
set_option maxHeartbeats 4000000 in
theorem xM_untell {w : Wc} (l : Launch) {a1 : Int32} {s0 : Sg} {P : Int32 → Sg → Prop} (hw : wM_untell a1 s0 P) : CI shM w l 2 (.code yX8_untell cX8_untell 2 (some .int)) yX8_untell [.ref (ad w 0), .int a1] s0 P := by
  refine ci_of_i (own := "BagBottomModel") (ls0 := [some (.ref (ad w 0)), some (.int a1)]) rfl pn_X8 rfl rfl (fun g el hg => ?_)
  unfold wM_untell at hw
  refine x_iload_1 hg dX8_untell_0 rfl ?_
  refine x_ic hg dX8_untell_1 ic_0 rfl ?_
  refine x_ic hg dX8_untell_2 ic_1 rfl ?_
  refine x_callSI hg (xM_in (gL g)  hw) sm_X8_in mi_X8_in ml_X8_57 rfl rfl (As := [.int a1, .int 0, .int 1]) rfl rfl rfl dX8_untell_3 rfl (fun r1 s1 hw => ?_)
  refine x_if_ne hg dX8_untell_6 (tg := 16) (by decide) rfl hw (fun hw => ?_) (fun hw => ?_)
  · refine x_aload_0 hg dX8_untell_16 rfl ?_
    refine x_si hg dX8_untell_17 sp_137 rfl ?_
    refine x_bi hg dX8_untell_20 bp_121 rfl ?_
    refine x_iload_1 hg dX8_untell_22 rfl ?_
    refine x_imul hg dX8_untell_23 rfl ?_
    refine x_iadd hg dX8_untell_24 rfl ?_
    refine x_ic hg dX8_untell_25 ic_0 rfl ?_
    refine x_callVI hg (xM_becomes (gL g)  hw) kM_0 (by decide) rfl im_X8_becomes se_X8_becomes mi_X8_becomes ml_X8_95 rfl rfl (As := [.int (137 + (121 * a1)), .int 0]) rfl rfl rfl dX8_untell_26 rfl (fun r2 s2 hw => ?_)
    refine x_if_le hg dX8_untell_29 (tg := 36) (by decide) rfl hw (fun hw => ?_) (fun hw => ?_)
    · refine x_ic hg dX8_untell_36 ic_0 rfl ?_
      exact x_ret hg dX8_untell_37 hw
    · refine x_ic hg dX8_untell_32 ic_1 rfl ?_
      refine x_goto hg dX8_untell_33 (pc' := 37) (by decide) ?_
      exact x_ret hg dX8_untell_37 hw
  · refine x_aload_0 hg dX8_untell_9 rfl ?_
    refine x_ldc hg kc_X8_77 dX8_untell_10 rfl ?_
    refine x_callVI hg (xM_error (gL g)  hw) kM_0 (by decide) rfl im_X8_error se_X8_error mi_X8_error ml_X8_78 rfl rfl (As := [.int (-1000000001)]) rfl rfl rfl dX8_untell_12 rfl (fun r2 s2 hw => ?_)
    exact x_ret hg dX8_untell_15 hw
def wM_twoOf (a0 : Int32) (a1 : Int32) (a2 : Int32) (s0 : Sg) (P : Int32 → Sg → Prop) : Prop := ((a0 = 37 → ((¬ a2 = 0 → (¬ a2 = 0 ∧ P ((a1 - a1 / a2 * a2)) s0)) ∧ (a2 = 0 → P 0 s0))) ∧ (¬ a0 = 37 → ((a0 = 38 → ((a1 = 0 → P 0 s0) ∧ (¬ a1 = 0 → ((a2 = 0 → P 0 s0) ∧ (¬ a2 = 0 → P 1 s0))))) ∧ (¬ a0 = 38 → ((a0 = 42 → P ((a1 * a2)) s0) ∧ (¬ a0 = 42 → ((a0 = 43 → P ((a1 + a2)) s0) ∧ (¬ a0 = 43 → ((a0 = 45 → P ((a1 - a2)) s0) ∧ (¬ a0 = 45 → ((a0 = 47 → ((¬ a2 = 0 → (¬ a2 = 0 ∧ P ((a1 / a2)) s0)) ∧ (a2 = 0 → P 0 s0))) ∧ (¬ a0 = 47 → ((a0 = 60 → ((a2 ≤ a1 → P 0 s0) ∧ (¬ a2 ≤ a1 → P 1 s0))) ∧ (¬ a0 = 60 → ((a0 = 61 → ((¬ a1 = a2 → P 0 s0) ∧ (a1 = a2 → P 1 s0))) ∧ (¬ a0 = 61 → ((a0 = 62 → ((a1 ≤ a2 → P 0 s0) ∧ (¬ a1 ≤ a2 → P 1 s0))) ∧ (¬ a0 = 62 → ((¬ a1 = 0 → P 1 s0) ∧ (a1 = 0 → ((a2 = 0 → P 0 s0) ∧ (¬ a2 = 0 → P 1 s0))))))))))))))))))))))
set_option maxRecDepth 100000 in
set_option maxHeartbeats 4000000 in
theorem xM_twoOf {w : Wc} (l : Launch) {a0 : Int32} {a1 : Int32} {a2 : Int32} {s0 : Sg} {P : Int32 → Sg → Prop} (hw : wM_twoOf a0 a1 a2 s0 P) : CI shM w l 1 (.code yX8_twoOf cX8_twoOf 3 (some .int)) yX8_twoOf [.int a0, .int a1, .int a2] s0 P := by
  refine ci_of_i (own := "BagBottomModel") (ls0 := [some (.int a0), some (.int a1), some (.int a2)]) rfl pn_X8 rfl rfl (fun g el hg => ?_)
  unfold wM_twoOf at hw
  refine x_iload_0 hg dX8_twoOf_0 rfl ?_
  refine x_br hw (fun h0 hw => ?_) (fun h0 hw => ?_)
  · refine x_tab hg dX8_twoOf_1 (ps := [(37, 143), (38, 188), (39, 202), (40, 202), (41, 202), (42, 127), (43, 119), (44, 202), (45, 123), (46, 202), (47, 131), (48, 202), (49, 202), (50, 202), (51, 202), (52, 202), (53, 202), (54, 202), (55, 202), (56, 202), (57, 202), (58, 202), (59, 202), (60, 155), (61, 166), (62, 177)]) rfl (tg := 144) (by rw [h0]; decide) ?_
    refine x_iload_2 hg dX8_twoOf_144 rfl ?_
    refine x_if_ne hg dX8_twoOf_145 (tg := 152) (by decide) rfl hw (fun hw => ?_) (fun hw => ?_)
    · refine x_iload_1 hg dX8_twoOf_152 rfl ?_
      refine x_iload_2 hg dX8_twoOf_153 rfl ?_
      obtain ⟨hne, hw⟩ := hw
      refine x_irem hg dX8_twoOf_154 hne rfl ?_
      exact x_ret hg dX8_twoOf_155 hw
    · refine x_ic hg dX8_twoOf_148 ic_0 rfl ?_
      refine x_goto hg dX8_twoOf_149 (pc' := 155) (by decide) ?_
      exact x_ret hg dX8_twoOf_155 hw
  · skip
    refine x_br hw (fun h1 hw => ?_) (fun h1 hw => ?_)
    · refine x_tab hg dX8_twoOf_1 (ps := [(37, 143), (38, 188), (39, 202), (40, 202), (41, 202), (42, 127), (43, 119), (44, 202), (45, 123), (46, 202), (47, 131), (48, 202), (49, 202), (50, 202), (51, 202), (52, 202), (53, 202), (54, 202), (55, 202), (56, 202), (57, 202), (58, 202), (59, 202), (60, 155), (61, 166), (62, 177)]) rfl (tg := 189) (by rw [h1]; decide) ?_
      refine x_iload_1 hg dX8_twoOf_189 rfl ?_
      refine x_if_eq hg dX8_twoOf_190 (tg := 201) (by decide) rfl hw (fun hw => ?_) (fun hw => ?_)
      · refine x_ic hg dX8_twoOf_201 ic_0 rfl ?_
        exact x_ret hg dX8_twoOf_202 hw
      · refine x_iload_2 hg dX8_twoOf_193 rfl ?_
        refine x_if_eq hg dX8_twoOf_194 (tg := 201) (by decide) rfl hw (fun hw => ?_) (fun hw => ?_)
        · refine x_ic hg dX8_twoOf_201 ic_0 rfl ?_
          exact x_ret hg dX8_twoOf_202 hw
        · refine x_ic hg dX8_twoOf_197 ic_1 rfl ?_
          refine x_goto hg dX8_twoOf_198 (pc' := 202) (by decide) ?_
          exact x_ret hg dX8_twoOf_202 hw
    · skip
      refine x_br hw (fun h2 hw => ?_) (fun h2 hw => ?_)
      · refine x_tab hg dX8_twoOf_1 (ps := [(37, 143), (38, 188), (39, 202), (40, 202), (41, 202), (42, 127), (43, 119), (44, 202), (45, 123), (46, 202), (47, 131), (48, 202), (49, 202), (50, 202), (51, 202), (52, 202), (53, 202), (54, 202), (55, 202), (56, 202), (57, 202), (58, 202), (59, 202), (60, 155), (61, 166), (62, 177)]) rfl (tg := 128) (by rw [h2]; decide) ?_
        refine x_iload_1 hg dX8_twoOf_128 rfl ?_
        refine x_iload_2 hg dX8_twoOf_129 rfl ?_
        refine x_imul hg dX8_twoOf_130 rfl ?_
        exact x_ret hg dX8_twoOf_131 hw
      · skip
        refine x_br hw (fun h3 hw => ?_) (fun h3 hw => ?_)
        · refine x_tab hg dX8_twoOf_1 (ps := [(37, 143), (38, 188), (39, 202), (40, 202), (41, 202), (42, 127), (43, 119), (44, 202), (45, 123), (46, 202), (47, 131), (48, 202), (49, 202), (50, 202), (51, 202), (52, 202), (53, 202), (54, 202), (55, 202), (56, 202), (57, 202), (58, 202), (59, 202), (60, 155), (61, 166), (62, 177)]) rfl (tg := 120) (by rw [h3]; decide) ?_
          refine x_iload_1 hg dX8_twoOf_120 rfl ?_
          refine x_iload_2 hg dX8_twoOf_121 rfl ?_
          refine x_iadd hg dX8_twoOf_122 rfl ?_
          exact x_ret hg dX8_twoOf_123 hw
        · skip
          refine x_br hw (fun h4 hw => ?_) (fun h4 hw => ?_)
          · refine x_tab hg dX8_twoOf_1 (ps := [(37, 143), (38, 188), (39, 202), (40, 202), (41, 202), (42, 127), (43, 119), (44, 202), (45, 123), (46, 202), (47, 131), (48, 202), (49, 202), (50, 202), (51, 202), (52, 202), (53, 202), (54, 202), (55, 202), (56, 202), (57, 202), (58, 202), (59, 202), (60, 155), (61, 166), (62, 177)]) rfl (tg := 124) (by rw [h4]; decide) ?_
            refine x_iload_1 hg dX8_twoOf_124 rfl ?_
            refine x_iload_2 hg dX8_twoOf_125 rfl ?_
            refine x_isub hg dX8_twoOf_126 rfl ?_
            exact x_ret hg dX8_twoOf_127 hw
          · skip
            refine x_br hw (fun h5 hw => ?_) (fun h5 hw => ?_)
            · refine x_tab hg dX8_twoOf_1 (ps := [(37, 143), (38, 188), (39, 202), (40, 202), (41, 202), (42, 127), (43, 119), (44, 202), (45, 123), (46, 202), (47, 131), (48, 202), (49, 202), (50, 202), (51, 202), (52, 202), (53, 202), (54, 202), (55, 202), (56, 202), (57, 202), (58, 202), (59, 202), (60, 155), (61, 166), (62, 177)]) rfl (tg := 132) (by rw [h5]; decide) ?_
              refine x_iload_2 hg dX8_twoOf_132 rfl ?_
              refine x_if_ne hg dX8_twoOf_133 (tg := 140) (by decide) rfl hw (fun hw => ?_) (fun hw => ?_)
              · refine x_iload_1 hg dX8_twoOf_140 rfl ?_
                refine x_iload_2 hg dX8_twoOf_141 rfl ?_
                obtain ⟨hne, hw⟩ := hw
                refine x_idiv hg dX8_twoOf_142 hne rfl ?_
                exact x_ret hg dX8_twoOf_143 hw
              · refine x_ic hg dX8_twoOf_136 ic_0 rfl ?_
                refine x_goto hg dX8_twoOf_137 (pc' := 143) (by decide) ?_
                exact x_ret hg dX8_twoOf_143 hw
            · skip
              refine x_br hw (fun h6 hw => ?_) (fun h6 hw => ?_)
              · refine x_tab hg dX8_twoOf_1 (ps := [(37, 143), (38, 188), (39, 202), (40, 202), (41, 202), (42, 127), (43, 119), (44, 202), (45, 123), (46, 202), (47, 131), (48, 202), (49, 202), (50, 202), (51, 202), (52, 202), (53, 202), (54, 202), (55, 202), (56, 202), (57, 202), (58, 202), (59, 202), (60, 155), (61, 166), (62, 177)]) rfl (tg := 156) (by rw [h6]; decide) ?_
                refine x_iload_1 hg dX8_twoOf_156 rfl ?_
                refine x_iload_2 hg dX8_twoOf_157 rfl ?_
                refine x_icmp_ge hg dX8_twoOf_158 (tg := 165) (by decide) rfl hw (fun hw => ?_) (fun hw => ?_)
                · refine x_ic hg dX8_twoOf_165 ic_0 rfl ?_
                  exact x_ret hg dX8_twoOf_166 hw
                · refine x_ic hg dX8_twoOf_161 ic_1 rfl ?_
                  refine x_goto hg dX8_twoOf_162 (pc' := 166) (by decide) ?_
                  exact x_ret hg dX8_twoOf_166 hw
              · skip
                refine x_br hw (fun h7 hw => ?_) (fun h7 hw => ?_)
                · refine x_tab hg dX8_twoOf_1 (ps := [(37, 143), (38, 188), (39, 202), (40, 202), (41, 202), (42, 127), (43, 119), (44, 202), (45, 123), (46, 202), (47, 131), (48, 202), (49, 202), (50, 202), (51, 202), (52, 202), (53, 202), (54, 202), (55, 202), (56, 202), (57, 202), (58, 202), (59, 202), (60, 155), (61, 166), (62, 177)]) rfl (tg := 167) (by rw [h7]; decide) ?_
                  refine x_iload_1 hg dX8_twoOf_167 rfl ?_
                  refine x_iload_2 hg dX8_twoOf_168 rfl ?_
                  refine x_icmp_ne hg dX8_twoOf_169 (tg := 176) (by decide) rfl hw (fun hw => ?_) (fun hw => ?_)
                  · refine x_ic hg dX8_twoOf_176 ic_0 rfl ?_
                    exact x_ret hg dX8_twoOf_177 hw
                  · refine x_ic hg dX8_twoOf_172 ic_1 rfl ?_
                    refine x_goto hg dX8_twoOf_173 (pc' := 177) (by decide) ?_
                    exact x_ret hg dX8_twoOf_177 hw
                · skip
                  refine x_br hw (fun h8 hw => ?_) (fun h8 hw => ?_)
                  · refine x_tab hg dX8_twoOf_1 (ps := [(37, 143), (38, 188), (39, 202), (40, 202), (41, 202), (42, 127), (43, 119), (44, 202), (45, 123), (46, 202), (47, 131), (48, 202), (49, 202), (50, 202), (51, 202), (52, 202), (53, 202), (54, 202), (55, 202), (56, 202), (57, 202), (58, 202), (59, 202), (60, 155), (61, 166), (62, 177)]) rfl (tg := 178) (by rw [h8]; decide) ?_
                    refine x_iload_1 hg dX8_twoOf_178 rfl ?_
                    refine x_iload_2 hg dX8_twoOf_179 rfl ?_
                    refine x_icmp_le hg dX8_twoOf_180 (tg := 187) (by decide) rfl hw (fun hw => ?_) (fun hw => ?_)
                    · refine x_ic hg dX8_twoOf_187 ic_0 rfl ?_
                      exact x_ret hg dX8_twoOf_188 hw
                    · refine x_ic hg dX8_twoOf_183 ic_1 rfl ?_
                      refine x_goto hg dX8_twoOf_184 (pc' := 188) (by decide) ?_
                      exact x_ret hg dX8_twoOf_188 hw
                  · skip
                    refine x_tab hg dX8_twoOf_1 (ps := [(37, 143), (38, 188), (39, 202), (40, 202), (41, 202), (42, 127), (43, 119), (44, 202), (45, 123), (46, 202), (47, 131), (48, 202), (49, 202), (50, 202), (51, 202), (52, 202), (53, 202), (54, 202), (55, 202), (56, 202), (57, 202), (58, 202), (59, 202), (60, 155), (61, 166), (62, 177)]) rfl (tg := 203) (by simp only [lk, if_neg h0, if_neg h1, if_neg h2, if_neg h3, if_neg h4, if_neg h5, if_neg h6, if_neg h7, if_neg h8, ite_self]; decide) ?_
                    refine x_iload_1 hg dX8_twoOf_203 rfl ?_
                    refine x_if_ne hg dX8_twoOf_204 (tg := 211) (by decide) rfl hw (fun hw => ?_) (fun hw => ?_)
                    · refine x_ic hg dX8_twoOf_211 ic_1 rfl ?_
                      refine x_goto hg dX8_twoOf_212 (pc' := 216) (by decide) ?_
                      exact x_ret hg dX8_twoOf_216 hw
                    · refine x_iload_2 hg dX8_twoOf_207 rfl ?_
                      refine x_if_eq hg dX8_twoOf_208 (tg := 215) (by decide) rfl hw (fun hw => ?_) (fun hw => ?_)
                      · refine x_ic hg dX8_twoOf_215 ic_0 rfl ?_
                        exact x_ret hg dX8_twoOf_216 hw
                      · refine x_ic hg dX8_twoOf_211 ic_1 rfl ?_
                        refine x_goto hg dX8_twoOf_212 (pc' := 216) (by decide) ?_
                        exact x_ret hg dX8_twoOf_216 hw
