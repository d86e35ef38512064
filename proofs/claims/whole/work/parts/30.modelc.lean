def wM_works_4 (f1 : Int32) (K155 : Sg → Prop) : Nat → Int32 → Int32 → Sg → Prop
  | 0, _, _, _ => False
  | n + 1, a2, a3, s0 => (vp_in f1 379 ∧ (((s0 1 (ix f1)) ≤ a3 → K155  s0) ∧ (¬ (s0 1 (ix f1)) ≤ a3 → (vp_in (((f1 + 1) + a3)) 379 ∧ (((s0 1 (ix (((f1 + 1) + a3)))) = 1 → ((¬ (s0 1 (ix (((f1 + 1) + a3)))) = 1 → (vp_in (((f1 + 61) + a3)) 379 ∧ (vp_in ((s0 1 (ix (((f1 + 61) + a3))))) 3 ∧ (vp_in a2 60 ∧ ∀ s1 : Sg, s1 = u2 s0 11 (ix a2) ((s0 10 (ix ((s0 1 (ix (((f1 + 61) + a3)))))))) → wM_works_4 f1 K155 n ((a2 + 1)) ((a3 + 1)) s1)))) ∧ ((s0 1 (ix (((f1 + 1) + a3)))) = 1 → (vp_in (((f1 + 61) + a3)) 379 ∧ (vp_in a2 60 ∧ ∀ s1 : Sg, s1 = u2 s0 11 (ix a2) ((s0 1 (ix (((f1 + 61) + a3))))) → wM_works_4 f1 K155 n ((a2 + 1)) ((a3 + 1)) s1))))) ∧ (¬ (s0 1 (ix (((f1 + 1) + a3)))) = 1 → ((¬ (s0 1 (ix (((f1 + 1) + a3)))) = 2 → ((¬ (s0 1 (ix (((f1 + 1) + a3)))) = 3 → (vp_in (((a2 + (-1)) - 1)) 60 ∧ (vp_in ((a2 + (-1))) 60 ∧ (wM_twoOf ((s0 1 (ix (((f1 + 1) + a3))))) ((s0 11 (ix (((a2 + (-1)) - 1))))) ((s0 11 (ix ((a2 + (-1)))))) s0 (fun (r1 : Int32) (s1 : Sg) => (vp_in (((a2 + (-1)) - 1)) 60 ∧ ∀ s2 : Sg, s2 = u2 s1 11 (ix (((a2 + (-1)) - 1))) r1 → wM_works_4 f1 K155 n ((a2 + (-1))) ((a3 + 1)) s2)))))) ∧ ((s0 1 (ix (((f1 + 1) + a3)))) = 3 → (vp_in ((a2 - 1)) 60 ∧ ((¬ (s0 11 (ix ((a2 - 1)))) = 0 → (vp_in ((a2 - 1)) 60 ∧ ∀ s1 : Sg, s1 = u2 s0 11 (ix ((a2 - 1))) 0 → wM_works_4 f1 K155 n a2 ((a3 + 1)) s1)) ∧ ((s0 11 (ix ((a2 - 1)))) = 0 → (vp_in ((a2 - 1)) 60 ∧ ∀ s1 : Sg, s1 = u2 s0 11 (ix ((a2 - 1))) 1 → wM_works_4 f1 K155 n a2 ((a3 + 1)) s1))))))) ∧ ((s0 1 (ix (((f1 + 1) + a3)))) = 2 → ((¬ (s0 1 (ix (((f1 + 1) + a3)))) = 1 → (vp_in (((f1 + 61) + a3)) 379 ∧ (vp_in ((s0 1 (ix (((f1 + 61) + a3))))) 3 ∧ (vp_in a2 60 ∧ ∀ s1 : Sg, s1 = u2 s0 11 (ix a2) ((s0 10 (ix ((s0 1 (ix (((f1 + 61) + a3)))))))) → wM_works_4 f1 K155 n ((a2 + 1)) ((a3 + 1)) s1)))) ∧ ((s0 1 (ix (((f1 + 1) + a3)))) = 1 → (vp_in (((f1 + 61) + a3)) 379 ∧ (vp_in a2 60 ∧ ∀ s1 : Sg, s1 = u2 s0 11 (ix a2) ((s0 1 (ix (((f1 + 61) + a3))))) → wM_works_4 f1 K155 n ((a2 + 1)) ((a3 + 1)) s1))))))))))))
def wM_works (a1 : Int32) (s0 : Sg) (P : Int32 → Sg → Prop) : Prop := (∃ N1 : Nat, wM_works_4 a1 (fun  (s1 : Sg) => P ((s1 11 0)) s1) N1 0 0 s0)
set_option maxRecDepth 100000 in
set_option maxHeartbeats 4000000 in
theorem xM_works_4 {w : Wc} {g : Gx} {Q : State → Prop} {f1 : Int32} {K155 : Sg → Prop} (hg : OK shM w g 2 cX8_works "BagBottomModel" 5 (some .int)) (hK155 : ∀ (s0 : Sg), K155  s0 → X shM w g Q 155 [some (.ref (ad w 0)), none, none, none, none] [] s0) : ∀ (n : Nat) (a2 a3 : Int32) (s0 : Sg), wM_works_4 f1 K155 n a2 a3 s0 → X shM w g Q 4 [some (.ref (ad w 0)), some (.int f1), some (.int a2), some (.int a3), none] [] s0 := by
  intro n
  induction n with
  | zero =>
    intro a2 a3 s0 hw
    exact hw.elim
  | succ n ih =>
    intro a2 a3 s0 hw
    rw [wM_works_4] at hw
    refine x_iload_3 hg dX8_works_4 rfl ?_
    refine x_aload_0 hg dX8_works_5 rfl ?_
    refine get_X8_0 hg kM_0 fl_X8_9 dX8_works_6 rfl (k2 := 1) rfl ?_
    refine x_iload_1 hg dX8_works_9 rfl ?_
    refine x_iald hg kM_1 rfl dX8_works_10 rfl hw (fun hw => ?_)
    refine x_icmp_ge hg dX8_works_11 (tg := 155) (by decide) rfl hw (fun hw => ?_) (fun hw => ?_)
    · refine x_drop_1 ?_
      refine x_drop_2 ?_
      refine x_drop_3 ?_
      exact hK155  _ hw
    · refine x_aload_0 hg dX8_works_14 rfl ?_
      refine get_X8_0 hg kM_0 fl_X8_9 dX8_works_15 rfl (k2 := 1) rfl ?_
      refine x_iload_1 hg dX8_works_18 rfl ?_
      refine x_ic hg dX8_works_19 ic_1 rfl ?_
      refine x_iadd hg dX8_works_20 rfl ?_
      refine x_iload_3 hg dX8_works_21 rfl ?_
      refine x_iadd hg dX8_works_22 rfl ?_
      refine x_iald hg kM_1 rfl dX8_works_23 rfl hw (fun hw => ?_)
      refine x_istore_4 hg dX8_works_24 rfl rfl rfl ?_
      refine x_iload_4 hg dX8_works_26 rfl ?_
      refine x_ic hg dX8_works_28 ic_1 rfl ?_
      refine x_icmp_eq hg dX8_works_29 (tg := 38) (by decide) rfl hw (fun hw => ?_) (fun hw => ?_)
      · refine x_aload_0 hg dX8_works_38 rfl ?_
        refine get_X8_11 hg kM_0 fl_X8_40 dX8_works_39 rfl (k2 := 11) rfl ?_
        refine x_iload_2 hg dX8_works_42 rfl ?_
        refine x_iload_4 hg dX8_works_43 rfl ?_
        refine x_ic hg dX8_works_45 ic_1 rfl ?_
        refine x_icmp_ne hg dX8_works_46 (tg := 63) (by decide) rfl hw (fun hw => ?_) (fun hw => ?_)
        · refine x_aload_0 hg dX8_works_63 rfl ?_
          refine get_X8_10 hg kM_0 fl_X8_37 dX8_works_64 rfl (k2 := 10) rfl ?_
          refine x_aload_0 hg dX8_works_67 rfl ?_
          refine get_X8_0 hg kM_0 fl_X8_9 dX8_works_68 rfl (k2 := 1) rfl ?_
          refine x_iload_1 hg dX8_works_71 rfl ?_
          refine x_bi hg dX8_works_72 bp_61 rfl ?_
          refine x_iadd hg dX8_works_74 rfl ?_
          refine x_iload_3 hg dX8_works_75 rfl ?_
          refine x_iadd hg dX8_works_76 rfl ?_
          refine x_iald hg kM_1 rfl dX8_works_77 rfl hw (fun hw => ?_)
          refine x_iald hg kM_10 rfl dX8_works_78 rfl hw (fun hw => ?_)
          refine x_iast hg kM_11 rfl dX8_works_79 rfl hw (fun s1 hw => ?_)
          refine x_iinc_2 hg dX8_works_80 ic_1 rfl rfl rfl ?_
          refine x_goto hg dX8_works_83 (pc' := 149) (by decide) ?_
          refine x_iinc_3 hg dX8_works_149 ic_1 rfl rfl rfl ?_
          refine x_goto hg dX8_works_152 (pc' := 4) (by decide) ?_
          refine x_drop_4 ?_
          exact ih _ _ _ hw
        · refine x_aload_0 hg dX8_works_49 rfl ?_
          refine get_X8_0 hg kM_0 fl_X8_9 dX8_works_50 rfl (k2 := 1) rfl ?_
          refine x_iload_1 hg dX8_works_53 rfl ?_
          refine x_bi hg dX8_works_54 bp_61 rfl ?_
          refine x_iadd hg dX8_works_56 rfl ?_
          refine x_iload_3 hg dX8_works_57 rfl ?_
          refine x_iadd hg dX8_works_58 rfl ?_
          refine x_iald hg kM_1 rfl dX8_works_59 rfl hw (fun hw => ?_)
          refine x_goto hg dX8_works_60 (pc' := 79) (by decide) ?_
          refine x_iast hg kM_11 rfl dX8_works_79 rfl hw (fun s1 hw => ?_)
          refine x_iinc_2 hg dX8_works_80 ic_1 rfl rfl rfl ?_
          refine x_goto hg dX8_works_83 (pc' := 149) (by decide) ?_
          refine x_iinc_3 hg dX8_works_149 ic_1 rfl rfl rfl ?_
          refine x_goto hg dX8_works_152 (pc' := 4) (by decide) ?_
          refine x_drop_4 ?_
          exact ih _ _ _ hw
      · refine x_iload_4 hg dX8_works_32 rfl ?_
        refine x_ic hg dX8_works_34 ic_2 rfl ?_
        refine x_icmp_ne hg dX8_works_35 (tg := 86) (by decide) rfl hw (fun hw => ?_) (fun hw => ?_)
        · refine x_iload_4 hg dX8_works_86 rfl ?_
          refine x_ic hg dX8_works_88 ic_3 rfl ?_
          refine x_icmp_ne hg dX8_works_89 (tg := 119) (by decide) rfl hw (fun hw => ?_) (fun hw => ?_)
          · refine x_iinc_2 hg dX8_works_119 ic_m1 rfl rfl rfl ?_
            refine x_aload_0 hg dX8_works_122 rfl ?_
            refine get_X8_11 hg kM_0 fl_X8_40 dX8_works_123 rfl (k2 := 11) rfl ?_
            refine x_iload_2 hg dX8_works_126 rfl ?_
            refine x_ic hg dX8_works_127 ic_1 rfl ?_
            refine x_isub hg dX8_works_128 rfl ?_
            refine x_iload_4 hg dX8_works_129 rfl ?_
            refine x_aload_0 hg dX8_works_131 rfl ?_
            refine get_X8_11 hg kM_0 fl_X8_40 dX8_works_132 rfl (k2 := 11) rfl ?_
            refine x_iload_2 hg dX8_works_135 rfl ?_
            refine x_ic hg dX8_works_136 ic_1 rfl ?_
            refine x_isub hg dX8_works_137 rfl ?_
            refine x_iald hg kM_11 rfl dX8_works_138 rfl hw (fun hw => ?_)
            refine x_aload_0 hg dX8_works_139 rfl ?_
            refine get_X8_11 hg kM_0 fl_X8_40 dX8_works_140 rfl (k2 := 11) rfl ?_
            refine x_iload_2 hg dX8_works_143 rfl ?_
            refine x_iald hg kM_11 rfl dX8_works_144 rfl hw (fun hw => ?_)
            refine x_callSI hg (xM_twoOf (gL g)  hw) sm_X8_twoOf mi_X8_twoOf ml_X8_157 rfl rfl (As := [.int (s0 1 (ix (((f1 + 1) + a3)))), .int (s0 11 (ix (((a2 + (-1)) - 1)))), .int (s0 11 (ix ((a2 + (-1)))))]) rfl rfl rfl dX8_works_145 rfl (fun r1 s1 hw => ?_)
            refine x_iast hg kM_11 rfl dX8_works_148 rfl hw (fun s2 hw => ?_)
            refine x_iinc_3 hg dX8_works_149 ic_1 rfl rfl rfl ?_
            refine x_goto hg dX8_works_152 (pc' := 4) (by decide) ?_
            refine x_drop_4 ?_
            exact ih _ _ _ hw
          · refine x_aload_0 hg dX8_works_92 rfl ?_
            refine get_X8_11 hg kM_0 fl_X8_40 dX8_works_93 rfl (k2 := 11) rfl ?_
            refine x_iload_2 hg dX8_works_96 rfl ?_
            refine x_ic hg dX8_works_97 ic_1 rfl ?_
            refine x_isub hg dX8_works_98 rfl ?_
            refine x_aload_0 hg dX8_works_99 rfl ?_
            refine get_X8_11 hg kM_0 fl_X8_40 dX8_works_100 rfl (k2 := 11) rfl ?_
            refine x_iload_2 hg dX8_works_103 rfl ?_
            refine x_ic hg dX8_works_104 ic_1 rfl ?_
            refine x_isub hg dX8_works_105 rfl ?_
            refine x_iald hg kM_11 rfl dX8_works_106 rfl hw (fun hw => ?_)
            refine x_if_ne hg dX8_works_107 (tg := 114) (by decide) rfl hw (fun hw => ?_) (fun hw => ?_)
            · refine x_ic hg dX8_works_114 ic_0 rfl ?_
              refine x_iast hg kM_11 rfl dX8_works_115 rfl hw (fun s1 hw => ?_)
              refine x_goto hg dX8_works_116 (pc' := 149) (by decide) ?_
              refine x_iinc_3 hg dX8_works_149 ic_1 rfl rfl rfl ?_
              refine x_goto hg dX8_works_152 (pc' := 4) (by decide) ?_
              refine x_drop_4 ?_
              exact ih _ _ _ hw
            · refine x_ic hg dX8_works_110 ic_1 rfl ?_
              refine x_goto hg dX8_works_111 (pc' := 115) (by decide) ?_
              refine x_iast hg kM_11 rfl dX8_works_115 rfl hw (fun s1 hw => ?_)
              refine x_goto hg dX8_works_116 (pc' := 149) (by decide) ?_
              refine x_iinc_3 hg dX8_works_149 ic_1 rfl rfl rfl ?_
              refine x_goto hg dX8_works_152 (pc' := 4) (by decide) ?_
              refine x_drop_4 ?_
              exact ih _ _ _ hw
        · refine x_aload_0 hg dX8_works_38 rfl ?_
          refine get_X8_11 hg kM_0 fl_X8_40 dX8_works_39 rfl (k2 := 11) rfl ?_
          refine x_iload_2 hg dX8_works_42 rfl ?_
          refine x_iload_4 hg dX8_works_43 rfl ?_
          refine x_ic hg dX8_works_45 ic_1 rfl ?_
          refine x_icmp_ne hg dX8_works_46 (tg := 63) (by decide) rfl hw (fun hw => ?_) (fun hw => ?_)
          · refine x_aload_0 hg dX8_works_63 rfl ?_
            refine get_X8_10 hg kM_0 fl_X8_37 dX8_works_64 rfl (k2 := 10) rfl ?_
            refine x_aload_0 hg dX8_works_67 rfl ?_
            refine get_X8_0 hg kM_0 fl_X8_9 dX8_works_68 rfl (k2 := 1) rfl ?_
            refine x_iload_1 hg dX8_works_71 rfl ?_
            refine x_bi hg dX8_works_72 bp_61 rfl ?_
            refine x_iadd hg dX8_works_74 rfl ?_
            refine x_iload_3 hg dX8_works_75 rfl ?_
            refine x_iadd hg dX8_works_76 rfl ?_
            refine x_iald hg kM_1 rfl dX8_works_77 rfl hw (fun hw => ?_)
            refine x_iald hg kM_10 rfl dX8_works_78 rfl hw (fun hw => ?_)
            refine x_iast hg kM_11 rfl dX8_works_79 rfl hw (fun s1 hw => ?_)
            refine x_iinc_2 hg dX8_works_80 ic_1 rfl rfl rfl ?_
            refine x_goto hg dX8_works_83 (pc' := 149) (by decide) ?_
            refine x_iinc_3 hg dX8_works_149 ic_1 rfl rfl rfl ?_
            refine x_goto hg dX8_works_152 (pc' := 4) (by decide) ?_
            refine x_drop_4 ?_
            exact ih _ _ _ hw
          · refine x_aload_0 hg dX8_works_49 rfl ?_
            refine get_X8_0 hg kM_0 fl_X8_9 dX8_works_50 rfl (k2 := 1) rfl ?_
            refine x_iload_1 hg dX8_works_53 rfl ?_
            refine x_bi hg dX8_works_54 bp_61 rfl ?_
            refine x_iadd hg dX8_works_56 rfl ?_
            refine x_iload_3 hg dX8_works_57 rfl ?_
            refine x_iadd hg dX8_works_58 rfl ?_
            refine x_iald hg kM_1 rfl dX8_works_59 rfl hw (fun hw => ?_)
            refine x_goto hg dX8_works_60 (pc' := 79) (by decide) ?_
            refine x_iast hg kM_11 rfl dX8_works_79 rfl hw (fun s1 hw => ?_)
            refine x_iinc_2 hg dX8_works_80 ic_1 rfl rfl rfl ?_
            refine x_goto hg dX8_works_83 (pc' := 149) (by decide) ?_
            refine x_iinc_3 hg dX8_works_149 ic_1 rfl rfl rfl ?_
            refine x_goto hg dX8_works_152 (pc' := 4) (by decide) ?_
            refine x_drop_4 ?_
            exact ih _ _ _ hw
set_option maxRecDepth 100000 in
set_option maxHeartbeats 4000000 in
theorem xM_works {w : Wc} (l : Launch) {a1 : Int32} {s0 : Sg} {P : Int32 → Sg → Prop} (hw : wM_works a1 s0 P) : CI shM w l 2 (.code yX8_works cX8_works 5 (some .int)) yX8_works [.ref (ad w 0), .int a1] s0 P := by
  refine ci_of_i (own := "BagBottomModel") (ls0 := [some (.ref (ad w 0)), some (.int a1), none, none, none]) rfl pn_X8 rfl rfl (fun g el hg => ?_)
  unfold wM_works at hw
  refine x_ic hg dX8_works_0 ic_0 rfl ?_
  refine x_istore_2 hg dX8_works_1 rfl rfl rfl ?_
  refine x_ic hg dX8_works_2 ic_0 rfl ?_
  refine x_istore_3 hg dX8_works_3 rfl rfl rfl ?_
  obtain ⟨N1, hw⟩ := hw
  refine xM_works_4 hg  (fun  s1 hw => ?_) _ _ _ _ hw
  · refine x_aload_0 hg dX8_works_155 rfl ?_
    refine get_X8_11 hg kM_0 fl_X8_40 dX8_works_156 rfl (k2 := 11) rfl ?_
    refine x_ic hg dX8_works_159 ic_0 rfl ?_
    refine x_ialdc hg kM_11 rfl vi_0_60 ix_0 dX8_works_160 rfl ?_
    exact x_ret hg dX8_works_161 hw
def wM_gives (a1 : Int32) (a2 : Int32) (a3 : Int32) (a4 : Int32) (s0 : Sg) (P : Int32 → Sg → Prop) : Prop := (∀ s1 : Sg, s1 = u2 s0 10 0 a2 → (∀ s2 : Sg, s2 = u2 s1 10 1 a3 → (∀ s3 : Sg, s3 = u2 s2 10 2 a4 → (vp_in ((137 + (121 * a1))) 379 ∧ (((s3 1 (ix ((137 + (121 * a1))))) ≤ 0 → ((¬ a1 = 0 → (wM_held a4 0 99 s3 (fun (r1 : Int32) (s4 : Sg) => P r1 s4))) ∧ (a1 = 0 → (wM_held ((a2 + a3)) 0 99 s3 (fun (r1 : Int32) (s4 : Sg) => P r1 s4))))) ∧ (¬ (s3 1 (ix ((137 + (121 * a1))))) ≤ 0 → (wM_works ((137 + (121 * a1))) s3 (fun (r1 : Int32) (s4 : Sg) => (wM_held r1 0 99 s4 (fun (r2 : Int32) (s5 : Sg) => P r2 s5))))))))))
set_option maxRecDepth 100000 in
set_option maxHeartbeats 4000000 in
theorem xM_gives {w : Wc} (l : Launch) {a1 : Int32} {a2 : Int32} {a3 : Int32} {a4 : Int32} {s0 : Sg} {P : Int32 → Sg → Prop} (hw : wM_gives a1 a2 a3 a4 s0 P) : CI shM w l 3 (.code yX8_gives cX8_gives 7 (some .int)) yX8_gives [.ref (ad w 0), .int a1, .int a2, .int a3, .int a4] s0 P := by
  refine ci_of_i (own := "BagBottomModel") (ls0 := [some (.ref (ad w 0)), some (.int a1), some (.int a2), some (.int a3), some (.int a4), none, none]) rfl pn_X8 rfl rfl (fun g el hg => ?_)
  unfold wM_gives at hw
  refine x_si hg dX8_gives_0 sp_137 rfl ?_
  refine x_bi hg dX8_gives_3 bp_121 rfl ?_
  refine x_iload_1 hg dX8_gives_5 rfl ?_
  refine x_imul hg dX8_gives_6 rfl ?_
  refine x_iadd hg dX8_gives_7 rfl ?_
  refine x_istore_5 hg dX8_gives_8 rfl rfl rfl ?_
  refine x_aload_0 hg dX8_gives_10 rfl ?_
  refine get_X8_10 hg kM_0 fl_X8_37 dX8_gives_11 rfl (k2 := 10) rfl ?_
  refine x_ic hg dX8_gives_14 ic_0 rfl ?_
  refine x_iload_2 hg dX8_gives_15 rfl ?_
  refine x_iastc hg kM_10 rfl vi_0_3 ix_0 dX8_gives_16 rfl hw (fun s1 hw => ?_)
  refine x_aload_0 hg dX8_gives_17 rfl ?_
  refine get_X8_10 hg kM_0 fl_X8_37 dX8_gives_18 rfl (k2 := 10) rfl ?_
  refine x_ic hg dX8_gives_21 ic_1 rfl ?_
  refine x_iload_3 hg dX8_gives_22 rfl ?_
  refine x_iastc hg kM_10 rfl vi_1_3 ix_1 dX8_gives_23 rfl hw (fun s2 hw => ?_)
  refine x_aload_0 hg dX8_gives_24 rfl ?_
  refine get_X8_10 hg kM_0 fl_X8_37 dX8_gives_25 rfl (k2 := 10) rfl ?_
  refine x_ic hg dX8_gives_28 ic_2 rfl ?_
  refine x_iload_4 hg dX8_gives_29 rfl ?_
  refine x_iastc hg kM_10 rfl vi_2_3 ix_2 dX8_gives_31 rfl hw (fun s3 hw => ?_)
  refine x_aload_0 hg dX8_gives_32 rfl ?_
  refine get_X8_0 hg kM_0 fl_X8_9 dX8_gives_33 rfl (k2 := 1) rfl ?_
  refine x_iload_5 hg dX8_gives_36 rfl ?_
  refine x_iald hg kM_1 rfl dX8_gives_38 rfl hw (fun hw => ?_)
  refine x_if_le hg dX8_gives_39 (tg := 51) (by decide) rfl hw (fun hw => ?_) (fun hw => ?_)
  · refine x_iload_1 hg dX8_gives_51 rfl ?_
    refine x_if_ne hg dX8_gives_52 (tg := 61) (by decide) rfl hw (fun hw => ?_) (fun hw => ?_)
    · refine x_iload_4 hg dX8_gives_61 rfl ?_
      refine x_istore_6 hg dX8_gives_63 rfl rfl rfl ?_
      refine x_iload_6 hg dX8_gives_65 rfl ?_
      refine x_ic hg dX8_gives_67 ic_0 rfl ?_
      refine x_bi hg dX8_gives_68 bp_99 rfl ?_
      refine x_callSI hg (xM_held (gL g)  hw) sm_X8_held mi_X8_held ml_X8_164 rfl rfl (As := [.int a4, .int 0, .int 99]) rfl rfl rfl dX8_gives_70 rfl (fun r1 s4 hw => ?_)
      exact x_ret hg dX8_gives_73 hw
    · refine x_iload_2 hg dX8_gives_55 rfl ?_
      refine x_iload_3 hg dX8_gives_56 rfl ?_
      refine x_iadd hg dX8_gives_57 rfl ?_
      refine x_goto hg dX8_gives_58 (pc' := 63) (by decide) ?_
      refine x_istore_6 hg dX8_gives_63 rfl rfl rfl ?_
      refine x_iload_6 hg dX8_gives_65 rfl ?_
      refine x_ic hg dX8_gives_67 ic_0 rfl ?_
      refine x_bi hg dX8_gives_68 bp_99 rfl ?_
      refine x_callSI hg (xM_held (gL g)  hw) sm_X8_held mi_X8_held ml_X8_164 rfl rfl (As := [.int (a2 + a3), .int 0, .int 99]) rfl rfl rfl dX8_gives_70 rfl (fun r1 s4 hw => ?_)
      exact x_ret hg dX8_gives_73 hw
  · refine x_aload_0 hg dX8_gives_42 rfl ?_
    refine x_iload_5 hg dX8_gives_43 rfl ?_
    refine x_callVI hg (xM_works (gL g)  hw) kM_0 (by decide) rfl im_X8_works se_X8_works mi_X8_works ml_X8_161 rfl rfl (As := [.int (137 + (121 * a1))]) rfl rfl rfl dX8_gives_45 rfl (fun r1 s4 hw => ?_)
    refine x_goto hg dX8_gives_48 (pc' := 63) (by decide) ?_
    refine x_istore_6 hg dX8_gives_63 rfl rfl rfl ?_
    refine x_iload_6 hg dX8_gives_65 rfl ?_
    refine x_ic hg dX8_gives_67 ic_0 rfl ?_
    refine x_bi hg dX8_gives_68 bp_99 rfl ?_
    refine x_callSI hg (xM_held (gL g)  hw) sm_X8_held mi_X8_held ml_X8_164 rfl rfl (As := [.int r1, .int 0, .int 99]) rfl rfl rfl dX8_gives_70 rfl (fun r2 s5 hw => ?_)
    exact x_ret hg dX8_gives_73 hw
def wM_law (a1 : Int32) (a2 : Int32) (a3 : Int32) (a4 : Int32) (s0 : Sg) (P : Int32 → Sg → Prop) : Prop := (wM_in a1 0 1 s0 (fun (r1 : Int32) (s1 : Sg) => ((r1 = 0 → (wM_error ((-1000000001)) s1 (fun (r2 : Int32) (s2 : Sg) => P r2 s2))) ∧ (¬ r1 = 0 → (wM_gives a1 a2 a3 a4 s1 (fun (r2 : Int32) (s2 : Sg) => P r2 s2))))))
set_option maxRecDepth 100000 in
set_option maxHeartbeats 4000000 in
theorem xM_law {w : Wc} (l : Launch) {a1 : Int32} {a2 : Int32} {a3 : Int32} {a4 : Int32} {s0 : Sg} {P : Int32 → Sg → Prop} (hw : wM_law a1 a2 a3 a4 s0 P) : CI shM w l 4 (.code yX8_law cX8_law 5 (some .int)) yX8_law [.ref (ad w 0), .int a1, .int a2, .int a3, .int a4] s0 P := by
  refine ci_of_i (own := "BagBottomModel") (ls0 := [some (.ref (ad w 0)), some (.int a1), some (.int a2), some (.int a3), some (.int a4)]) rfl pn_X8 rfl rfl (fun g el hg => ?_)
  unfold wM_law at hw
  refine x_iload_1 hg dX8_law_0 rfl ?_
  refine x_ic hg dX8_law_1 ic_0 rfl ?_
  refine x_ic hg dX8_law_2 ic_1 rfl ?_
  refine x_callSI hg (xM_in (gL g)  hw) sm_X8_in mi_X8_in ml_X8_57 rfl rfl (As := [.int a1, .int 0, .int 1]) rfl rfl rfl dX8_law_3 rfl (fun r1 s1 hw => ?_)
  refine x_if_eq hg dX8_law_6 (tg := 21) (by decide) rfl hw (fun hw => ?_) (fun hw => ?_)
  · refine x_aload_0 hg dX8_law_21 rfl ?_
    refine x_ldc hg kc_X8_77 dX8_law_22 rfl ?_
    refine x_callVI hg (xM_error (gL g)  hw) kM_0 (by decide) rfl im_X8_error se_X8_error mi_X8_error ml_X8_78 rfl rfl (As := [.int (-1000000001)]) rfl rfl rfl dX8_law_24 rfl (fun r2 s2 hw => ?_)
    exact x_ret hg dX8_law_27 hw
  · refine x_aload_0 hg dX8_law_9 rfl ?_
    refine x_iload_1 hg dX8_law_10 rfl ?_
    refine x_iload_2 hg dX8_law_11 rfl ?_
    refine x_iload_3 hg dX8_law_12 rfl ?_
    refine x_iload_4 hg dX8_law_13 rfl ?_
    refine x_callVI hg (xM_gives (gL g)  hw) kM_0 (by decide) rfl im_X8_gives se_X8_gives mi_X8_gives ml_X8_167 rfl rfl (As := [.int a1, .int a2, .int a3, .int a4]) rfl rfl rfl dX8_law_15 rfl (fun r2 s2 hw => ?_)
    refine x_goto hg dX8_law_18 (pc' := 27) (by decide) ?_
    exact x_ret hg dX8_law_27 hw
def wM_usedOf (a1 : Int32) (s0 : Sg) (P : Int32 → Sg → Prop) : Prop := (wM_of a1 0 s0 (fun (r1 : Int32) (s1 : Sg) => (wM_of a1 1 s1 (fun (r2 : Int32) (s2 : Sg) => (wM_gives 1 a1 r1 r2 s2 (fun (r3 : Int32) (s3 : Sg) => P r3 s3))))))
set_option maxRecDepth 100000 in
set_option maxHeartbeats 4000000 in
theorem xM_usedOf {w : Wc} (l : Launch) {a1 : Int32} {s0 : Sg} {P : Int32 → Sg → Prop} (hw : wM_usedOf a1 s0 P) : CI shM w l 4 (.code yX8_usedOf cX8_usedOf 2 (some .int)) yX8_usedOf [.ref (ad w 0), .int a1] s0 P := by
  refine ci_of_i (own := "BagBottomModel") (ls0 := [some (.ref (ad w 0)), some (.int a1)]) rfl pn_X8 rfl rfl (fun g el hg => ?_)
  unfold wM_usedOf at hw
  refine x_aload_0 hg dX8_usedOf_0 rfl ?_
  refine x_ic hg dX8_usedOf_1 ic_1 rfl ?_
  refine x_iload_1 hg dX8_usedOf_2 rfl ?_
  refine x_aload_0 hg dX8_usedOf_3 rfl ?_
  refine x_iload_1 hg dX8_usedOf_4 rfl ?_
  refine x_ic hg dX8_usedOf_5 ic_0 rfl ?_
  refine x_callVI hg (xM_of (gL g)  hw) kM_0 (by decide) rfl im_X8_of se_X8_of mi_X8_of ml_X8_61 rfl rfl (As := [.int a1, .int 0]) rfl rfl rfl dX8_usedOf_6 rfl (fun r1 s1 hw => ?_)
  refine x_aload_0 hg dX8_usedOf_9 rfl ?_
  refine x_iload_1 hg dX8_usedOf_10 rfl ?_
  refine x_ic hg dX8_usedOf_11 ic_1 rfl ?_
  refine x_callVI hg (xM_of (gL g)  hw) kM_0 (by decide) rfl im_X8_of se_X8_of mi_X8_of ml_X8_61 rfl rfl (As := [.int a1, .int 1]) rfl rfl rfl dX8_usedOf_12 rfl (fun r2 s2 hw => ?_)
  refine x_callVI hg (xM_gives (gL g)  hw) kM_0 (by decide) rfl im_X8_gives se_X8_gives mi_X8_gives ml_X8_167 rfl rfl (As := [.int 1, .int a1, .int r1, .int r2]) rfl rfl rfl dX8_usedOf_15 rfl (fun r3 s3 hw => ?_)
  exact x_ret hg dX8_usedOf_18 hw
def wM_feelingTo_4 (f1 : Int32) (K48 : Int32 → Sg → Prop) : Nat → Int32 → Int32 → Sg → Prop
  | 0, _, _, _ => False
  | n + 1, a2, a3, s0 => ((f1 < a3 → K48 a2 s0) ∧ (¬ f1 < a3 → (vp_in ((8 + a3)) 379 ∧ (wM_feelsOf ((s0 1 (ix ((8 + a3))))) s0 (fun (r1 : Int32) (s1 : Sg) => (wM_of ((s0 1 (ix ((8 + a3))))) 0 s1 (fun (r2 : Int32) (s2 : Sg) => (wM_gives 0 r1 a3 r2 s2 (fun (r3 : Int32) (s3 : Sg) => wM_feelingTo_4 f1 K48 n ((a2 + r3)) ((a3 + 1)) s3)))))))))
def wM_feelingTo (a1 : Int32) (s0 : Sg) (P : Int32 → Sg → Prop) : Prop := (∃ N1 : Nat, wM_feelingTo_4 a1 (fun (v1 : Int32) (s1 : Sg) => P v1 s1) N1 0 0 s0)
set_option maxRecDepth 100000 in
set_option maxHeartbeats 4000000 in
theorem xM_feelingTo_4 {w : Wc} {g : Gx} {Q : State → Prop} {f1 : Int32} {K48 : Int32 → Sg → Prop} (hg : OK shM w g 4 cX8_feelingTo "BagBottomModel" 5 (some .int)) (hK48 : ∀ (a2 : Int32) (s0 : Sg), K48 a2 s0 → X shM w g Q 48 [none, none, some (.int a2), none, none] [] s0) : ∀ (n : Nat) (a2 a3 : Int32) (s0 : Sg), wM_feelingTo_4 f1 K48 n a2 a3 s0 → X shM w g Q 4 [some (.ref (ad w 0)), some (.int f1), some (.int a2), some (.int a3), none] [] s0 := by
  intro n
  induction n with
  | zero =>
    intro a2 a3 s0 hw
    exact hw.elim
  | succ n ih =>
    intro a2 a3 s0 hw
    rw [wM_feelingTo_4] at hw
    refine x_iload_3 hg dX8_feelingTo_4 rfl ?_
    refine x_iload_1 hg dX8_feelingTo_5 rfl ?_
    refine x_icmp_gt hg dX8_feelingTo_6 (tg := 48) (by decide) rfl hw (fun hw => ?_) (fun hw => ?_)
    · refine x_drop_0 ?_
      refine x_drop_1 ?_
      refine x_drop_3 ?_
      exact hK48 _ _ hw
    · refine x_aload_0 hg dX8_feelingTo_9 rfl ?_
      refine get_X8_0 hg kM_0 fl_X8_9 dX8_feelingTo_10 rfl (k2 := 1) rfl ?_
      refine x_bi hg dX8_feelingTo_13 bp_8 rfl ?_
      refine x_iload_3 hg dX8_feelingTo_15 rfl ?_
      refine x_iadd hg dX8_feelingTo_16 rfl ?_
      refine x_iald hg kM_1 rfl dX8_feelingTo_17 rfl hw (fun hw => ?_)
      refine x_istore_4 hg dX8_feelingTo_18 rfl rfl rfl ?_
      refine x_iload_2 hg dX8_feelingTo_20 rfl ?_
      refine x_aload_0 hg dX8_feelingTo_21 rfl ?_
      refine x_ic hg dX8_feelingTo_22 ic_0 rfl ?_
      refine x_aload_0 hg dX8_feelingTo_23 rfl ?_
      refine x_iload_4 hg dX8_feelingTo_24 rfl ?_
      refine x_callVI hg (xM_feelsOf (gL g)  hw) kM_0 (by decide) rfl im_X8_feelsOf se_X8_feelsOf mi_X8_feelsOf ml_X8_92 rfl rfl (As := [.int (s0 1 (ix ((8 + a3))))]) rfl rfl rfl dX8_feelingTo_26 rfl (fun r1 s1 hw => ?_)
      refine x_iload_3 hg dX8_feelingTo_29 rfl ?_
      refine x_aload_0 hg dX8_feelingTo_30 rfl ?_
      refine x_iload_4 hg dX8_feelingTo_31 rfl ?_
      refine x_ic hg dX8_feelingTo_33 ic_0 rfl ?_
      refine x_callVI hg (xM_of (gL g)  hw) kM_0 (by decide) rfl im_X8_of se_X8_of mi_X8_of ml_X8_61 rfl rfl (As := [.int (s0 1 (ix ((8 + a3)))), .int 0]) rfl rfl rfl dX8_feelingTo_34 rfl (fun r2 s2 hw => ?_)
      refine x_callVI hg (xM_gives (gL g)  hw) kM_0 (by decide) rfl im_X8_gives se_X8_gives mi_X8_gives ml_X8_167 rfl rfl (As := [.int 0, .int r1, .int a3, .int r2]) rfl rfl rfl dX8_feelingTo_37 rfl (fun r3 s3 hw => ?_)
      refine x_iadd hg dX8_feelingTo_40 rfl ?_
      refine x_istore_2 hg dX8_feelingTo_41 rfl rfl rfl ?_
      refine x_iinc_3 hg dX8_feelingTo_42 ic_1 rfl rfl rfl ?_
      refine x_goto hg dX8_feelingTo_45 (pc' := 4) (by decide) ?_
      refine x_drop_4 ?_
      exact ih _ _ _ hw
set_option maxRecDepth 100000 in
set_option maxHeartbeats 4000000 in
theorem xM_feelingTo {w : Wc} (l : Launch) {a1 : Int32} {s0 : Sg} {P : Int32 → Sg → Prop} (hw : wM_feelingTo a1 s0 P) : CI shM w l 4 (.code yX8_feelingTo cX8_feelingTo 5 (some .int)) yX8_feelingTo [.ref (ad w 0), .int a1] s0 P := by
  refine ci_of_i (own := "BagBottomModel") (ls0 := [some (.ref (ad w 0)), some (.int a1), none, none, none]) rfl pn_X8 rfl rfl (fun g el hg => ?_)
  unfold wM_feelingTo at hw
  refine x_ic hg dX8_feelingTo_0 ic_0 rfl ?_
  refine x_istore_2 hg dX8_feelingTo_1 rfl rfl rfl ?_
  refine x_ic hg dX8_feelingTo_2 ic_0 rfl ?_
  refine x_istore_3 hg dX8_feelingTo_3 rfl rfl rfl ?_
  obtain ⟨N1, hw⟩ := hw
  refine xM_feelingTo_4 hg  (fun v1 s1 hw => ?_) _ _ _ _ hw
  · refine x_iload_2 hg dX8_feelingTo_48 rfl ?_
    exact x_ret hg dX8_feelingTo_49 hw
def wM_timeOf (a1 : Int32) (a2 : Int32) (s0 : Sg) (P : Int32 → Sg → Prop) : Prop := (wM_whereIs a1 s0 (fun (r1 : Int32) (s1 : Sg) => ((¬ r1 = (-1) → ((¬ a2 = 0 → ((¬ a2 = 1 → P ((9 + (2 * (s1 1 3)))) s1) ∧ (a2 = 1 → P ((3 + (2 * r1))) s1))) ∧ (a2 = 0 → (wM_feelingTo r1 s1 (fun (r2 : Int32) (s2 : Sg) => P r2 s2))))) ∧ (r1 = (-1) → P 4 s1))))
set_option maxRecDepth 100000 in
set_option maxHeartbeats 4000000 in
theorem xM_timeOf {w : Wc} (l : Launch) {a1 : Int32} {a2 : Int32} {s0 : Sg} {P : Int32 → Sg → Prop} (hw : wM_timeOf a1 a2 s0 P) : CI shM w l 5 (.code yX8_timeOf cX8_timeOf 4 (some .int)) yX8_timeOf [.ref (ad w 0), .int a1, .int a2] s0 P := by
  refine ci_of_i (own := "BagBottomModel") (ls0 := [some (.ref (ad w 0)), some (.int a1), some (.int a2), none]) rfl pn_X8 rfl rfl (fun g el hg => ?_)
  unfold wM_timeOf at hw
  refine x_aload_0 hg dX8_timeOf_0 rfl ?_
  refine x_iload_1 hg dX8_timeOf_1 rfl ?_
  refine x_callVI hg (xM_whereIs (gL g)  hw) kM_0 (by decide) rfl im_X8_whereIs se_X8_whereIs mi_X8_whereIs ml_X8_89 rfl rfl (As := [.int a1]) rfl rfl rfl dX8_timeOf_2 rfl (fun r1 s1 hw => ?_)
  refine x_istore_3 hg dX8_timeOf_5 rfl rfl rfl ?_
  refine x_iload_3 hg dX8_timeOf_6 rfl ?_
  refine x_ic hg dX8_timeOf_7 ic_m1 rfl ?_
  refine x_icmp_ne hg dX8_timeOf_8 (tg := 13) (by decide) rfl hw (fun hw => ?_) (fun hw => ?_)
  · refine x_iload_2 hg dX8_timeOf_13 rfl ?_
    refine x_if_ne hg dX8_timeOf_14 (tg := 25) (by decide) rfl hw (fun hw => ?_) (fun hw => ?_)
    · refine x_iload_2 hg dX8_timeOf_25 rfl ?_
      refine x_ic hg dX8_timeOf_26 ic_1 rfl ?_
      refine x_icmp_ne hg dX8_timeOf_27 (tg := 38) (by decide) rfl hw (fun hw => ?_) (fun hw => ?_)
      · refine x_bi hg dX8_timeOf_38 bp_9 rfl ?_
        refine x_ic hg dX8_timeOf_40 ic_2 rfl ?_
        refine x_aload_0 hg dX8_timeOf_41 rfl ?_
        refine get_X8_0 hg kM_0 fl_X8_9 dX8_timeOf_42 rfl (k2 := 1) rfl ?_
        refine x_ic hg dX8_timeOf_45 ic_3 rfl ?_
        refine x_ialdc hg kM_1 rfl vi_3_379 ix_3 dX8_timeOf_46 rfl ?_
        refine x_imul hg dX8_timeOf_47 rfl ?_
        refine x_iadd hg dX8_timeOf_48 rfl ?_
        exact x_ret hg dX8_timeOf_49 hw
      · refine x_ic hg dX8_timeOf_30 ic_3 rfl ?_
        refine x_ic hg dX8_timeOf_31 ic_2 rfl ?_
        refine x_iload_3 hg dX8_timeOf_32 rfl ?_
        refine x_imul hg dX8_timeOf_33 rfl ?_
        refine x_iadd hg dX8_timeOf_34 rfl ?_
        refine x_goto hg dX8_timeOf_35 (pc' := 49) (by decide) ?_
        exact x_ret hg dX8_timeOf_49 hw
    · refine x_aload_0 hg dX8_timeOf_17 rfl ?_
      refine x_iload_3 hg dX8_timeOf_18 rfl ?_
      refine x_callVI hg (xM_feelingTo (gL g)  hw) kM_0 (by decide) rfl im_X8_feelingTo se_X8_feelingTo mi_X8_feelingTo ml_X8_171 rfl rfl (As := [.int r1]) rfl rfl rfl dX8_timeOf_19 rfl (fun r2 s2 hw => ?_)
      refine x_goto hg dX8_timeOf_22 (pc' := 49) (by decide) ?_
      exact x_ret hg dX8_timeOf_49 hw
  · refine x_ic hg dX8_timeOf_11 ic_4 rfl ?_
    exact x_ret hg dX8_timeOf_12 hw
def wM_bestWay_4 (f1 : Int32) (K36 : Int32 → Sg → Prop) : Nat → Int32 → Int32 → Sg → Prop
  | 0, _, _, _ => False
  | n + 1, a2, a3, s0 => ((3 ≤ a3 → K36 a2 s0) ∧ (¬ 3 ≤ a3 → (wM_timeOf f1 a3 s0 (fun (r1 : Int32) (s1 : Sg) => (wM_timeOf f1 a2 s1 (fun (r2 : Int32) (s2 : Sg) => ((r2 ≤ r1 → wM_bestWay_4 f1 K36 n a2 ((a3 + 1)) s2) ∧ (¬ r2 ≤ r1 → wM_bestWay_4 f1 K36 n a3 ((a3 + 1)) s2))))))))
def wM_bestWay (a1 : Int32) (s0 : Sg) (P : Int32 → Sg → Prop) : Prop := (∃ N1 : Nat, wM_bestWay_4 a1 (fun (v1 : Int32) (s1 : Sg) => P v1 s1) N1 0 1 s0)
set_option maxRecDepth 100000 in
set_option maxHeartbeats 4000000 in
theorem xM_bestWay_4 {w : Wc} {g : Gx} {Q : State → Prop} {f1 : Int32} {K36 : Int32 → Sg → Prop} (hg : OK shM w g 6 cX8_bestWay "BagBottomModel" 4 (some .int)) (hK36 : ∀ (a2 : Int32) (s0 : Sg), K36 a2 s0 → X shM w g Q 36 [none, none, some (.int a2), none] [] s0) : ∀ (n : Nat) (a2 a3 : Int32) (s0 : Sg), wM_bestWay_4 f1 K36 n a2 a3 s0 → X shM w g Q 4 [some (.ref (ad w 0)), some (.int f1), some (.int a2), some (.int a3)] [] s0 := by
  intro n
  induction n with
  | zero =>
    intro a2 a3 s0 hw
    exact hw.elim
  | succ n ih =>
    intro a2 a3 s0 hw
    rw [wM_bestWay_4] at hw
    refine x_iload_3 hg dX8_bestWay_4 rfl ?_
    refine x_ic hg dX8_bestWay_5 ic_3 rfl ?_
    refine x_icmp_ge hg dX8_bestWay_6 (tg := 36) (by decide) rfl hw (fun hw => ?_) (fun hw => ?_)
    · refine x_drop_0 ?_
      refine x_drop_1 ?_
      refine x_drop_3 ?_
      exact hK36 _ _ hw
    · refine x_aload_0 hg dX8_bestWay_9 rfl ?_
      refine x_iload_1 hg dX8_bestWay_10 rfl ?_
      refine x_iload_3 hg dX8_bestWay_11 rfl ?_
      refine x_callVI hg (xM_timeOf (gL g)  hw) kM_0 (by decide) rfl im_X8_timeOf se_X8_timeOf mi_X8_timeOf ml_X8_174 rfl rfl (As := [.int f1, .int a3]) rfl rfl rfl dX8_bestWay_12 rfl (fun r1 s1 hw => ?_)
      refine x_aload_0 hg dX8_bestWay_15 rfl ?_
      refine x_iload_1 hg dX8_bestWay_16 rfl ?_
      refine x_iload_2 hg dX8_bestWay_17 rfl ?_
      refine x_callVI hg (xM_timeOf (gL g)  hw) kM_0 (by decide) rfl im_X8_timeOf se_X8_timeOf mi_X8_timeOf ml_X8_174 rfl rfl (As := [.int f1, .int a2]) rfl rfl rfl dX8_bestWay_18 rfl (fun r2 s2 hw => ?_)
      refine x_icmp_ge hg dX8_bestWay_21 (tg := 28) (by decide) rfl hw (fun hw => ?_) (fun hw => ?_)
      · refine x_iload_2 hg dX8_bestWay_28 rfl ?_
        refine x_istore_2 hg dX8_bestWay_29 rfl rfl rfl ?_
        refine x_iinc_3 hg dX8_bestWay_30 ic_1 rfl rfl rfl ?_
        refine x_goto hg dX8_bestWay_33 (pc' := 4) (by decide) ?_
        exact ih _ _ _ hw
      · refine x_iload_3 hg dX8_bestWay_24 rfl ?_
        refine x_goto hg dX8_bestWay_25 (pc' := 29) (by decide) ?_
        refine x_istore_2 hg dX8_bestWay_29 rfl rfl rfl ?_
        refine x_iinc_3 hg dX8_bestWay_30 ic_1 rfl rfl rfl ?_
        refine x_goto hg dX8_bestWay_33 (pc' := 4) (by decide) ?_
        exact ih _ _ _ hw
set_option maxRecDepth 100000 in
set_option maxHeartbeats 4000000 in
theorem xM_bestWay {w : Wc} (l : Launch) {a1 : Int32} {s0 : Sg} {P : Int32 → Sg → Prop} (hw : wM_bestWay a1 s0 P) : CI shM w l 6 (.code yX8_bestWay cX8_bestWay 4 (some .int)) yX8_bestWay [.ref (ad w 0), .int a1] s0 P := by
  refine ci_of_i (own := "BagBottomModel") (ls0 := [some (.ref (ad w 0)), some (.int a1), none, none]) rfl pn_X8 rfl rfl (fun g el hg => ?_)
  unfold wM_bestWay at hw
  refine x_ic hg dX8_bestWay_0 ic_0 rfl ?_
  refine x_istore_2 hg dX8_bestWay_1 rfl rfl rfl ?_
  refine x_ic hg dX8_bestWay_2 ic_1 rfl ?_
  refine x_istore_3 hg dX8_bestWay_3 rfl rfl rfl ?_
  obtain ⟨N1, hw⟩ := hw
  refine xM_bestWay_4 hg  (fun v1 s1 hw => ?_) _ _ _ _ hw
  · refine x_iload_2 hg dX8_bestWay_36 rfl ?_
    exact x_ret hg dX8_bestWay_37 hw
def wM_seconds (a1 : Int32) (a2 : Int32) (s0 : Sg) (P : Int32 → Sg → Prop) : Prop := (wM_isThing a1 s0 (fun (r1 : Int32) (s1 : Sg) => ((r1 = 0 → (wM_error ((-1000000001)) s1 (fun (r2 : Int32) (s2 : Sg) => P r2 s2))) ∧ (¬ r1 = 0 → (wM_in a2 0 2 s1 (fun (r2 : Int32) (s2 : Sg) => ((¬ r2 = 0 → (wM_whereIs a1 s2 (fun (r3 : Int32) (s3 : Sg) => ((¬ r3 = (-2) → (wM_timeOf a1 a2 s3 (fun (r4 : Int32) (s4 : Sg) => P r4 s4))) ∧ (r3 = (-2) → (wM_error ((-1000000003)) s3 (fun (r4 : Int32) (s4 : Sg) => P r4 s4))))))) ∧ (r2 = 0 → (wM_error ((-1000000001)) s2 (fun (r3 : Int32) (s3 : Sg) => P r3 s3))))))))))
set_option maxRecDepth 100000 in
set_option maxHeartbeats 4000000 in
theorem xM_seconds {w : Wc} (l : Launch) {a1 : Int32} {a2 : Int32} {s0 : Sg} {P : Int32 → Sg → Prop} (hw : wM_seconds a1 a2 s0 P) : CI shM w l 6 (.code yX8_seconds cX8_seconds 3 (some .int)) yX8_seconds [.ref (ad w 0), .int a1, .int a2] s0 P := by
  refine ci_of_i (own := "BagBottomModel") (ls0 := [some (.ref (ad w 0)), some (.int a1), some (.int a2)]) rfl pn_X8 rfl rfl (fun g el hg => ?_)
  unfold wM_seconds at hw
  refine x_aload_0 hg dX8_seconds_0 rfl ?_
  refine x_iload_1 hg dX8_seconds_1 rfl ?_
  refine x_callVI hg (xM_isThing (gL g)  hw) kM_0 (by decide) rfl im_X8_isThing se_X8_isThing mi_X8_isThing ml_X8_86 rfl rfl (As := [.int a1]) rfl rfl rfl dX8_seconds_2 rfl (fun r1 s1 hw => ?_)
  refine x_if_eq hg dX8_seconds_5 (tg := 17) (by decide) rfl hw (fun hw => ?_) (fun hw => ?_)
  · refine x_aload_0 hg dX8_seconds_17 rfl ?_
    refine x_ldc hg kc_X8_77 dX8_seconds_18 rfl ?_
    refine x_callVI hg (xM_error (gL g)  hw) kM_0 (by decide) rfl im_X8_error se_X8_error mi_X8_error ml_X8_78 rfl rfl (As := [.int (-1000000001)]) rfl rfl rfl dX8_seconds_20 rfl (fun r2 s2 hw => ?_)
    exact x_ret hg dX8_seconds_23 hw
  · refine x_iload_2 hg dX8_seconds_8 rfl ?_
    refine x_ic hg dX8_seconds_9 ic_0 rfl ?_
    refine x_ic hg dX8_seconds_10 ic_2 rfl ?_
    refine x_callSI hg (xM_in (gL g)  hw) sm_X8_in mi_X8_in ml_X8_57 rfl rfl (As := [.int a2, .int 0, .int 2]) rfl rfl rfl dX8_seconds_11 rfl (fun r2 s2 hw => ?_)
    refine x_if_ne hg dX8_seconds_14 (tg := 24) (by decide) rfl hw (fun hw => ?_) (fun hw => ?_)
    · refine x_aload_0 hg dX8_seconds_24 rfl ?_
      refine x_iload_1 hg dX8_seconds_25 rfl ?_
      refine x_callVI hg (xM_whereIs (gL g)  hw) kM_0 (by decide) rfl im_X8_whereIs se_X8_whereIs mi_X8_whereIs ml_X8_89 rfl rfl (As := [.int a1]) rfl rfl rfl dX8_seconds_26 rfl (fun r3 s3 hw => ?_)
      refine x_bi hg dX8_seconds_29 bp_m2 rfl ?_
      refine x_icmp_ne hg dX8_seconds_31 (tg := 43) (by decide) rfl hw (fun hw => ?_) (fun hw => ?_)
      · refine x_aload_0 hg dX8_seconds_43 rfl ?_
        refine x_iload_1 hg dX8_seconds_44 rfl ?_
        refine x_iload_2 hg dX8_seconds_45 rfl ?_
        refine x_callVI hg (xM_timeOf (gL g)  hw) kM_0 (by decide) rfl im_X8_timeOf se_X8_timeOf mi_X8_timeOf ml_X8_174 rfl rfl (As := [.int a1, .int a2]) rfl rfl rfl dX8_seconds_46 rfl (fun r4 s4 hw => ?_)
        exact x_ret hg dX8_seconds_49 hw
      · refine x_aload_0 hg dX8_seconds_34 rfl ?_
        refine x_ldc hg kc_X8_99 dX8_seconds_35 rfl ?_
        refine x_callVI hg (xM_error (gL g)  hw) kM_0 (by decide) rfl im_X8_error se_X8_error mi_X8_error ml_X8_78 rfl rfl (As := [.int (-1000000003)]) rfl rfl rfl dX8_seconds_37 rfl (fun r4 s4 hw => ?_)
        refine x_goto hg dX8_seconds_40 (pc' := 49) (by decide) ?_
        exact x_ret hg dX8_seconds_49 hw
    · refine x_aload_0 hg dX8_seconds_17 rfl ?_
      refine x_ldc hg kc_X8_77 dX8_seconds_18 rfl ?_
      refine x_callVI hg (xM_error (gL g)  hw) kM_0 (by decide) rfl im_X8_error se_X8_error mi_X8_error ml_X8_78 rfl rfl (As := [.int (-1000000001)]) rfl rfl rfl dX8_seconds_20 rfl (fun r3 s3 hw => ?_)
      exact x_ret hg dX8_seconds_23 hw
def wM_best (a1 : Int32) (a2 : Int32) (s0 : Sg) (P : Int32 → Sg → Prop) : Prop := (wM_isThing a1 s0 (fun (r1 : Int32) (s1 : Sg) => ((r1 = 0 → (wM_error ((-1000000001)) s1 (fun (r2 : Int32) (s2 : Sg) => P r2 s2))) ∧ (¬ r1 = 0 → (wM_in a2 0 1 s1 (fun (r2 : Int32) (s2 : Sg) => ((¬ r2 = 0 → (wM_whereIs a1 s2 (fun (r3 : Int32) (s3 : Sg) => ((¬ r3 = (-2) → (wM_bestWay a1 s3 (fun (r4 : Int32) (s4 : Sg) => ((¬ a2 = 0 → (wM_timeOf a1 r4 s4 (fun (r5 : Int32) (s5 : Sg) => P r5 s5))) ∧ (a2 = 0 → P r4 s4))))) ∧ (r3 = (-2) → (wM_error ((-1000000003)) s3 (fun (r4 : Int32) (s4 : Sg) => P r4 s4))))))) ∧ (r2 = 0 → (wM_error ((-1000000001)) s2 (fun (r3 : Int32) (s3 : Sg) => P r3 s3))))))))))
set_option maxRecDepth 100000 in
set_option maxHeartbeats 4000000 in
theorem xM_best {w : Wc} (l : Launch) {a1 : Int32} {a2 : Int32} {s0 : Sg} {P : Int32 → Sg → Prop} (hw : wM_best a1 a2 s0 P) : CI shM w l 7 (.code yX8_best cX8_best 4 (some .int)) yX8_best [.ref (ad w 0), .int a1, .int a2] s0 P := by
  refine ci_of_i (own := "BagBottomModel") (ls0 := [some (.ref (ad w 0)), some (.int a1), some (.int a2), none]) rfl pn_X8 rfl rfl (fun g el hg => ?_)
  unfold wM_best at hw
  refine x_aload_0 hg dX8_best_0 rfl ?_
  refine x_iload_1 hg dX8_best_1 rfl ?_
  refine x_callVI hg (xM_isThing (gL g)  hw) kM_0 (by decide) rfl im_X8_isThing se_X8_isThing mi_X8_isThing ml_X8_86 rfl rfl (As := [.int a1]) rfl rfl rfl dX8_best_2 rfl (fun r1 s1 hw => ?_)
  refine x_if_eq hg dX8_best_5 (tg := 17) (by decide) rfl hw (fun hw => ?_) (fun hw => ?_)
  · refine x_aload_0 hg dX8_best_17 rfl ?_
    refine x_ldc hg kc_X8_77 dX8_best_18 rfl ?_
    refine x_callVI hg (xM_error (gL g)  hw) kM_0 (by decide) rfl im_X8_error se_X8_error mi_X8_error ml_X8_78 rfl rfl (As := [.int (-1000000001)]) rfl rfl rfl dX8_best_20 rfl (fun r2 s2 hw => ?_)
    exact x_ret hg dX8_best_23 hw
  · refine x_iload_2 hg dX8_best_8 rfl ?_
    refine x_ic hg dX8_best_9 ic_0 rfl ?_
    refine x_ic hg dX8_best_10 ic_1 rfl ?_
    refine x_callSI hg (xM_in (gL g)  hw) sm_X8_in mi_X8_in ml_X8_57 rfl rfl (As := [.int a2, .int 0, .int 1]) rfl rfl rfl dX8_best_11 rfl (fun r2 s2 hw => ?_)
    refine x_if_ne hg dX8_best_14 (tg := 24) (by decide) rfl hw (fun hw => ?_) (fun hw => ?_)
    · refine x_aload_0 hg dX8_best_24 rfl ?_
      refine x_iload_1 hg dX8_best_25 rfl ?_
      refine x_callVI hg (xM_whereIs (gL g)  hw) kM_0 (by decide) rfl im_X8_whereIs se_X8_whereIs mi_X8_whereIs ml_X8_89 rfl rfl (As := [.int a1]) rfl rfl rfl dX8_best_26 rfl (fun r3 s3 hw => ?_)
      refine x_bi hg dX8_best_29 bp_m2 rfl ?_
      refine x_icmp_ne hg dX8_best_31 (tg := 41) (by decide) rfl hw (fun hw => ?_) (fun hw => ?_)
      · refine x_aload_0 hg dX8_best_41 rfl ?_
        refine x_iload_1 hg dX8_best_42 rfl ?_
        refine x_callVI hg (xM_bestWay (gL g)  hw) kM_0 (by decide) rfl im_X8_bestWay se_X8_bestWay mi_X8_bestWay ml_X8_177 rfl rfl (As := [.int a1]) rfl rfl rfl dX8_best_43 rfl (fun r4 s4 hw => ?_)
        refine x_istore_3 hg dX8_best_46 rfl rfl rfl ?_
        refine x_iload_2 hg dX8_best_47 rfl ?_
        refine x_if_ne hg dX8_best_48 (tg := 55) (by decide) rfl hw (fun hw => ?_) (fun hw => ?_)
        · refine x_aload_0 hg dX8_best_55 rfl ?_
          refine x_iload_1 hg dX8_best_56 rfl ?_
          refine x_iload_3 hg dX8_best_57 rfl ?_
          refine x_callVI hg (xM_timeOf (gL g)  hw) kM_0 (by decide) rfl im_X8_timeOf se_X8_timeOf mi_X8_timeOf ml_X8_174 rfl rfl (As := [.int a1, .int r4]) rfl rfl rfl dX8_best_58 rfl (fun r5 s5 hw => ?_)
          exact x_ret hg dX8_best_61 hw
        · refine x_iload_3 hg dX8_best_51 rfl ?_
          refine x_goto hg dX8_best_52 (pc' := 61) (by decide) ?_
          exact x_ret hg dX8_best_61 hw
      · refine x_aload_0 hg dX8_best_34 rfl ?_
        refine x_ldc hg kc_X8_99 dX8_best_35 rfl ?_
        refine x_callVI hg (xM_error (gL g)  hw) kM_0 (by decide) rfl im_X8_error se_X8_error mi_X8_error ml_X8_78 rfl rfl (As := [.int (-1000000003)]) rfl rfl rfl dX8_best_37 rfl (fun r4 s4 hw => ?_)
        exact x_ret hg dX8_best_40 hw
    · refine x_aload_0 hg dX8_best_17 rfl ?_
      refine x_ldc hg kc_X8_77 dX8_best_18 rfl ?_
      refine x_callVI hg (xM_error (gL g)  hw) kM_0 (by decide) rfl im_X8_error se_X8_error mi_X8_error ml_X8_78 rfl rfl (As := [.int (-1000000001)]) rfl rfl rfl dX8_best_20 rfl (fun r3 s3 hw => ?_)
      exact x_ret hg dX8_best_23 hw
def wM_turnsOver_9 (f1 : Int32) (K68 : Sg → Prop) : Nat → Int32 → Sg → Prop
  | 0, _, _ => False
  | n + 1, a2, s0 => (((f1 / 2) ≤ a2 → K68  s0) ∧ (¬ (f1 / 2) ≤ a2 → (vp_in ((8 + a2)) 379 ∧ (vp_in ((((8 + f1) - 1) - a2)) 379 ∧ (vp_in ((8 + a2)) 379 ∧ ∀ s1 : Sg, s1 = u2 s0 1 (ix ((8 + a2))) ((s0 1 (ix ((((8 + f1) - 1) - a2))))) → (vp_in ((((8 + f1) - 1) - a2)) 379 ∧ ∀ s2 : Sg, s2 = u2 s1 1 (ix ((((8 + f1) - 1) - a2))) ((s0 1 (ix ((8 + a2))))) → wM_turnsOver_9 f1 K68 n ((a2 + 1)) s2))))))
def wM_turnsOver (s0 : Sg) (P : Sg → Prop) : Prop := (∃ N1 : Nat, wM_turnsOver_9 ((s0 1 3)) (fun  (s1 : Sg) => P s1) N1 0 s0)
set_option maxRecDepth 100000 in
set_option maxHeartbeats 4000000 in
theorem xM_turnsOver_9 {w : Wc} {g : Gx} {Q : State → Prop} {f1 : Int32} {K68 : Sg → Prop} (hg : OK shM w g 1 cX8_turnsOver "BagBottomModel" 4 none) (hK68 : ∀ (s0 : Sg), K68  s0 → X shM w g Q 68 [none, none, none, none] [] s0) : ∀ (n : Nat) (a2 : Int32) (s0 : Sg), wM_turnsOver_9 f1 K68 n a2 s0 → X shM w g Q 9 [some (.ref (ad w 0)), some (.int f1), some (.int a2), none] [] s0 := by
  intro n
  induction n with
  | zero =>
    intro a2 s0 hw
    exact hw.elim
  | succ n ih =>
    intro a2 s0 hw
    rw [wM_turnsOver_9] at hw
    refine x_iload_2 hg dX8_turnsOver_9 rfl ?_
    refine x_iload_1 hg dX8_turnsOver_10 rfl ?_
    refine x_ic hg dX8_turnsOver_11 ic_2 rfl ?_
    refine x_idiv hg dX8_turnsOver_12 ne_2 rfl ?_
    refine x_icmp_ge hg dX8_turnsOver_13 (tg := 68) (by decide) rfl hw (fun hw => ?_) (fun hw => ?_)
    · refine x_drop_0 ?_
      refine x_drop_1 ?_
      refine x_drop_2 ?_
      exact hK68  _ hw
    · refine x_aload_0 hg dX8_turnsOver_16 rfl ?_
      refine get_X8_0 hg kM_0 fl_X8_9 dX8_turnsOver_17 rfl (k2 := 1) rfl ?_
      refine x_bi hg dX8_turnsOver_20 bp_8 rfl ?_
      refine x_iload_2 hg dX8_turnsOver_22 rfl ?_
      refine x_iadd hg dX8_turnsOver_23 rfl ?_
      refine x_iald hg kM_1 rfl dX8_turnsOver_24 rfl hw (fun hw => ?_)
      refine x_istore_3 hg dX8_turnsOver_25 rfl rfl rfl ?_
      refine x_aload_0 hg dX8_turnsOver_26 rfl ?_
      refine get_X8_0 hg kM_0 fl_X8_9 dX8_turnsOver_27 rfl (k2 := 1) rfl ?_
      refine x_bi hg dX8_turnsOver_30 bp_8 rfl ?_
      refine x_iload_2 hg dX8_turnsOver_32 rfl ?_
      refine x_iadd hg dX8_turnsOver_33 rfl ?_
      refine x_aload_0 hg dX8_turnsOver_34 rfl ?_
      refine get_X8_0 hg kM_0 fl_X8_9 dX8_turnsOver_35 rfl (k2 := 1) rfl ?_
      refine x_bi hg dX8_turnsOver_38 bp_8 rfl ?_
      refine x_iload_1 hg dX8_turnsOver_40 rfl ?_
      refine x_iadd hg dX8_turnsOver_41 rfl ?_
      refine x_ic hg dX8_turnsOver_42 ic_1 rfl ?_
      refine x_isub hg dX8_turnsOver_43 rfl ?_
      refine x_iload_2 hg dX8_turnsOver_44 rfl ?_
      refine x_isub hg dX8_turnsOver_45 rfl ?_
      refine x_iald hg kM_1 rfl dX8_turnsOver_46 rfl hw (fun hw => ?_)
      refine x_iast hg kM_1 rfl dX8_turnsOver_47 rfl hw (fun s1 hw => ?_)
      refine x_aload_0 hg dX8_turnsOver_48 rfl ?_
      refine get_X8_0 hg kM_0 fl_X8_9 dX8_turnsOver_49 rfl (k2 := 1) rfl ?_
      refine x_bi hg dX8_turnsOver_52 bp_8 rfl ?_
      refine x_iload_1 hg dX8_turnsOver_54 rfl ?_
      refine x_iadd hg dX8_turnsOver_55 rfl ?_
      refine x_ic hg dX8_turnsOver_56 ic_1 rfl ?_
      refine x_isub hg dX8_turnsOver_57 rfl ?_
      refine x_iload_2 hg dX8_turnsOver_58 rfl ?_
      refine x_isub hg dX8_turnsOver_59 rfl ?_
      refine x_iload_3 hg dX8_turnsOver_60 rfl ?_
      refine x_iast hg kM_1 rfl dX8_turnsOver_61 rfl hw (fun s2 hw => ?_)
      refine x_iinc_2 hg dX8_turnsOver_62 ic_1 rfl rfl rfl ?_
      refine x_goto hg dX8_turnsOver_65 (pc' := 9) (by decide) ?_
      refine x_drop_3 ?_
      exact ih _ _ hw
set_option maxRecDepth 100000 in
set_option maxHeartbeats 4000000 in
theorem xM_turnsOver {w : Wc} (l : Launch) {s0 : Sg} {P : Sg → Prop} (hw : wM_turnsOver  s0 P) : CV shM w l 1 (.code yX8_turnsOver cX8_turnsOver 4 none) yX8_turnsOver [.ref (ad w 0)] s0 P := by
  refine ci_of_v (own := "BagBottomModel") (ls0 := [some (.ref (ad w 0)), none, none, none]) rfl pn_X8 rfl rfl (fun g el hg => ?_)
  unfold wM_turnsOver at hw
  refine x_aload_0 hg dX8_turnsOver_0 rfl ?_
  refine get_X8_0 hg kM_0 fl_X8_9 dX8_turnsOver_1 rfl (k2 := 1) rfl ?_
  refine x_ic hg dX8_turnsOver_4 ic_3 rfl ?_
  refine x_ialdc hg kM_1 rfl vi_3_379 ix_3 dX8_turnsOver_5 rfl ?_
  refine x_istore_1 hg dX8_turnsOver_6 rfl rfl rfl ?_
  refine x_ic hg dX8_turnsOver_7 ic_0 rfl ?_
  refine x_istore_2 hg dX8_turnsOver_8 rfl rfl rfl ?_
  obtain ⟨N1, hw⟩ := hw
  refine xM_turnsOver_9 hg  (fun  s1 hw => ?_) _ _ _ hw
  · exact x_vret hg dX8_turnsOver_68 hw
def wM_taken (a1 : Int32) (a2 : Int32) (s0 : Sg) (P : Int32 → Sg → Prop) : Prop := (wM_timeOf a1 a2 s0 (fun (r1 : Int32) (s1 : Sg) => (wM_held (((s1 1 1) + r1)) 0 99999 s1 (fun (r2 : Int32) (s2 : Sg) => (∀ s3 : Sg, s3 = u2 s2 1 1 r2 → (wM_whereIs a1 s3 (fun (r3 : Int32) (s4 : Sg) => ((r3 < 0 → P r1 s4) ∧ (¬ r3 < 0 → ((¬ a2 = 2 → (wM_whereIs a1 s4 (fun (r4 : Int32) (s5 : Sg) => (wM_goesFrom r4 s5 (fun (s6 : Sg) => (wM_goesOnTop a1 s6 (fun (s7 : Sg) => P r1 s7))))))) ∧ (a2 = 2 → (wM_turnsOver  s4 (fun (s5 : Sg) => (wM_whereIs a1 s5 (fun (r4 : Int32) (s6 : Sg) => (wM_goesFrom r4 s6 (fun (s7 : Sg) => (wM_goesOnTop a1 s7 (fun (s8 : Sg) => P r1 s8)))))))))))))))))))
set_option maxRecDepth 100000 in
set_option maxHeartbeats 4000000 in
theorem xM_taken {w : Wc} (l : Launch) {a1 : Int32} {a2 : Int32} {s0 : Sg} {P : Int32 → Sg → Prop} (hw : wM_taken a1 a2 s0 P) : CI shM w l 6 (.code yX8_taken cX8_taken 4 (some .int)) yX8_taken [.ref (ad w 0), .int a1, .int a2] s0 P := by
  refine ci_of_i (own := "BagBottomModel") (ls0 := [some (.ref (ad w 0)), some (.int a1), some (.int a2), none]) rfl pn_X8 rfl rfl (fun g el hg => ?_)
  unfold wM_taken at hw
  refine x_aload_0 hg dX8_taken_0 rfl ?_
  refine x_iload_1 hg dX8_taken_1 rfl ?_
  refine x_iload_2 hg dX8_taken_2 rfl ?_
  refine x_callVI hg (xM_timeOf (gL g)  hw) kM_0 (by decide) rfl im_X8_timeOf se_X8_timeOf mi_X8_timeOf ml_X8_174 rfl rfl (As := [.int a1, .int a2]) rfl rfl rfl dX8_taken_3 rfl (fun r1 s1 hw => ?_)
  refine x_istore_3 hg dX8_taken_6 rfl rfl rfl ?_
  refine x_aload_0 hg dX8_taken_7 rfl ?_
  refine get_X8_0 hg kM_0 fl_X8_9 dX8_taken_8 rfl (k2 := 1) rfl ?_
  refine x_ic hg dX8_taken_11 ic_1 rfl ?_
  refine x_aload_0 hg dX8_taken_12 rfl ?_
  refine get_X8_0 hg kM_0 fl_X8_9 dX8_taken_13 rfl (k2 := 1) rfl ?_
  refine x_ic hg dX8_taken_16 ic_1 rfl ?_
  refine x_ialdc hg kM_1 rfl vi_1_379 ix_1 dX8_taken_17 rfl ?_
  refine x_iload_3 hg dX8_taken_18 rfl ?_
  refine x_iadd hg dX8_taken_19 rfl ?_
  refine x_ic hg dX8_taken_20 ic_0 rfl ?_
  refine x_ldc hg kc_X8_180 dX8_taken_21 rfl ?_
  refine x_callSI hg (xM_held (gL g)  hw) sm_X8_held mi_X8_held ml_X8_164 rfl rfl (As := [.int ((s1 1 1) + r1), .int 0, .int 99999]) rfl rfl rfl dX8_taken_23 rfl (fun r2 s2 hw => ?_)
  refine x_iastc hg kM_1 rfl vi_1_379 ix_1 dX8_taken_26 rfl hw (fun s3 hw => ?_)
  refine x_aload_0 hg dX8_taken_27 rfl ?_
  refine x_iload_1 hg dX8_taken_28 rfl ?_
  refine x_callVI hg (xM_whereIs (gL g)  hw) kM_0 (by decide) rfl im_X8_whereIs se_X8_whereIs mi_X8_whereIs ml_X8_89 rfl rfl (As := [.int a1]) rfl rfl rfl dX8_taken_29 rfl (fun r3 s4 hw => ?_)
  refine x_if_lt hg dX8_taken_32 (tg := 58) (by decide) rfl hw (fun hw => ?_) (fun hw => ?_)
  · refine x_iload_3 hg dX8_taken_58 rfl ?_
    exact x_ret hg dX8_taken_59 hw
  · refine x_iload_2 hg dX8_taken_35 rfl ?_
    refine x_ic hg dX8_taken_36 ic_2 rfl ?_
    refine x_icmp_ne hg dX8_taken_37 (tg := 44) (by decide) rfl hw (fun hw => ?_) (fun hw => ?_)
    · refine x_aload_0 hg dX8_taken_44 rfl ?_
      refine x_aload_0 hg dX8_taken_45 rfl ?_
      refine x_iload_1 hg dX8_taken_46 rfl ?_
      refine x_callVI hg (xM_whereIs (gL g)  hw) kM_0 (by decide) rfl im_X8_whereIs se_X8_whereIs mi_X8_whereIs ml_X8_89 rfl rfl (As := [.int a1]) rfl rfl rfl dX8_taken_47 rfl (fun r4 s5 hw => ?_)
      refine x_callVV hg (xM_goesFrom (gL g)  hw) kM_0 (by decide) rfl im_X8_goesFrom se_X8_goesFrom mi_X8_goesFrom ml_X8_100 rfl rfl (As := [.int r4]) rfl rfl rfl dX8_taken_50 rfl (fun s6 hw => ?_)
      refine x_aload_0 hg dX8_taken_53 rfl ?_
      refine x_iload_1 hg dX8_taken_54 rfl ?_
      refine x_callVV hg (xM_goesOnTop (gL g)  hw) kM_0 (by decide) rfl im_X8_goesOnTop se_X8_goesOnTop mi_X8_goesOnTop ml_X8_82 rfl rfl (As := [.int a1]) rfl rfl rfl dX8_taken_55 rfl (fun s7 hw => ?_)
      refine x_iload_3 hg dX8_taken_58 rfl ?_
      exact x_ret hg dX8_taken_59 hw
    · refine x_aload_0 hg dX8_taken_40 rfl ?_
      refine x_callVV hg (xM_turnsOver (gL g)  hw) kM_0 (by decide) rfl im_X8_turnsOver se_X8_turnsOver mi_X8_turnsOver ml_X8_181 rfl rfl (As := []) rfl rfl rfl dX8_taken_41 rfl (fun s5 hw => ?_)
      refine x_aload_0 hg dX8_taken_44 rfl ?_
      refine x_aload_0 hg dX8_taken_45 rfl ?_
      refine x_iload_1 hg dX8_taken_46 rfl ?_
      refine x_callVI hg (xM_whereIs (gL g)  hw) kM_0 (by decide) rfl im_X8_whereIs se_X8_whereIs mi_X8_whereIs ml_X8_89 rfl rfl (As := [.int a1]) rfl rfl rfl dX8_taken_47 rfl (fun r4 s6 hw => ?_)
      refine x_callVV hg (xM_goesFrom (gL g)  hw) kM_0 (by decide) rfl im_X8_goesFrom se_X8_goesFrom mi_X8_goesFrom ml_X8_100 rfl rfl (As := [.int r4]) rfl rfl rfl dX8_taken_50 rfl (fun s7 hw => ?_)
      refine x_aload_0 hg dX8_taken_53 rfl ?_
      refine x_iload_1 hg dX8_taken_54 rfl ?_
      refine x_callVV hg (xM_goesOnTop (gL g)  hw) kM_0 (by decide) rfl im_X8_goesOnTop se_X8_goesOnTop mi_X8_goesOnTop ml_X8_82 rfl rfl (As := [.int a1]) rfl rfl rfl dX8_taken_55 rfl (fun s8 hw => ?_)
      refine x_iload_3 hg dX8_taken_58 rfl ?_
      exact x_ret hg dX8_taken_59 hw
def wM_takes (a1 : Int32) (a2 : Int32) (s0 : Sg) (P : Int32 → Sg → Prop) : Prop := (wM_isThing a1 s0 (fun (r1 : Int32) (s1 : Sg) => ((r1 = 0 → (wM_error ((-1000000001)) s1 (fun (r2 : Int32) (s2 : Sg) => P r2 s2))) ∧ (¬ r1 = 0 → (wM_in a2 0 2 s1 (fun (r2 : Int32) (s2 : Sg) => ((¬ r2 = 0 → (wM_whereIs a1 s2 (fun (r3 : Int32) (s3 : Sg) => ((¬ r3 = (-2) → (wM_taken a1 a2 s3 (fun (r4 : Int32) (s4 : Sg) => P r4 s4))) ∧ (r3 = (-2) → (wM_error ((-1000000003)) s3 (fun (r4 : Int32) (s4 : Sg) => P r4 s4))))))) ∧ (r2 = 0 → (wM_error ((-1000000001)) s2 (fun (r3 : Int32) (s3 : Sg) => P r3 s3))))))))))
set_option maxRecDepth 100000 in
set_option maxHeartbeats 4000000 in
theorem xM_takes {w : Wc} (l : Launch) {a1 : Int32} {a2 : Int32} {s0 : Sg} {P : Int32 → Sg → Prop} (hw : wM_takes a1 a2 s0 P) : CI shM w l 7 (.code yX8_takes cX8_takes 3 (some .int)) yX8_takes [.ref (ad w 0), .int a1, .int a2] s0 P := by
  refine ci_of_i (own := "BagBottomModel") (ls0 := [some (.ref (ad w 0)), some (.int a1), some (.int a2)]) rfl pn_X8 rfl rfl (fun g el hg => ?_)
  unfold wM_takes at hw
  refine x_aload_0 hg dX8_takes_0 rfl ?_
  refine x_iload_1 hg dX8_takes_1 rfl ?_
  refine x_callVI hg (xM_isThing (gL g)  hw) kM_0 (by decide) rfl im_X8_isThing se_X8_isThing mi_X8_isThing ml_X8_86 rfl rfl (As := [.int a1]) rfl rfl rfl dX8_takes_2 rfl (fun r1 s1 hw => ?_)
  refine x_if_eq hg dX8_takes_5 (tg := 17) (by decide) rfl hw (fun hw => ?_) (fun hw => ?_)
  · refine x_aload_0 hg dX8_takes_17 rfl ?_
    refine x_ldc hg kc_X8_77 dX8_takes_18 rfl ?_
    refine x_callVI hg (xM_error (gL g)  hw) kM_0 (by decide) rfl im_X8_error se_X8_error mi_X8_error ml_X8_78 rfl rfl (As := [.int (-1000000001)]) rfl rfl rfl dX8_takes_20 rfl (fun r2 s2 hw => ?_)
    exact x_ret hg dX8_takes_23 hw
  · refine x_iload_2 hg dX8_takes_8 rfl ?_
    refine x_ic hg dX8_takes_9 ic_0 rfl ?_
    refine x_ic hg dX8_takes_10 ic_2 rfl ?_
    refine x_callSI hg (xM_in (gL g)  hw) sm_X8_in mi_X8_in ml_X8_57 rfl rfl (As := [.int a2, .int 0, .int 2]) rfl rfl rfl dX8_takes_11 rfl (fun r2 s2 hw => ?_)
    refine x_if_ne hg dX8_takes_14 (tg := 24) (by decide) rfl hw (fun hw => ?_) (fun hw => ?_)
    · refine x_aload_0 hg dX8_takes_24 rfl ?_
      refine x_iload_1 hg dX8_takes_25 rfl ?_
      refine x_callVI hg (xM_whereIs (gL g)  hw) kM_0 (by decide) rfl im_X8_whereIs se_X8_whereIs mi_X8_whereIs ml_X8_89 rfl rfl (As := [.int a1]) rfl rfl rfl dX8_takes_26 rfl (fun r3 s3 hw => ?_)
      refine x_bi hg dX8_takes_29 bp_m2 rfl ?_
      refine x_icmp_ne hg dX8_takes_31 (tg := 43) (by decide) rfl hw (fun hw => ?_) (fun hw => ?_)
      · refine x_aload_0 hg dX8_takes_43 rfl ?_
        refine x_iload_1 hg dX8_takes_44 rfl ?_
        refine x_iload_2 hg dX8_takes_45 rfl ?_
        refine x_callVI hg (xM_taken (gL g)  hw) kM_0 (by decide) rfl im_X8_taken se_X8_taken mi_X8_taken ml_X8_184 rfl rfl (As := [.int a1, .int a2]) rfl rfl rfl dX8_takes_46 rfl (fun r4 s4 hw => ?_)
        exact x_ret hg dX8_takes_49 hw
      · refine x_aload_0 hg dX8_takes_34 rfl ?_
        refine x_ldc hg kc_X8_99 dX8_takes_35 rfl ?_
        refine x_callVI hg (xM_error (gL g)  hw) kM_0 (by decide) rfl im_X8_error se_X8_error mi_X8_error ml_X8_78 rfl rfl (As := [.int (-1000000003)]) rfl rfl rfl dX8_takes_37 rfl (fun r4 s4 hw => ?_)
        refine x_goto hg dX8_takes_40 (pc' := 49) (by decide) ?_
        exact x_ret hg dX8_takes_49 hw
    · refine x_aload_0 hg dX8_takes_17 rfl ?_
      refine x_ldc hg kc_X8_77 dX8_takes_18 rfl ?_
      refine x_callVI hg (xM_error (gL g)  hw) kM_0 (by decide) rfl im_X8_error se_X8_error mi_X8_error ml_X8_78 rfl rfl (As := [.int (-1000000001)]) rfl rfl rfl dX8_takes_20 rfl (fun r3 s3 hw => ?_)
      exact x_ret hg dX8_takes_23 hw
def wM_walks (a1 : Int32) (s0 : Sg) (P : Int32 → Sg → Prop) : Prop := (wM_in a1 1 100 s0 (fun (r1 : Int32) (s1 : Sg) => ((¬ r1 = 0 → ((((s1 1 0) + a1) ≤ 9999 → (wM_steps a1 s1 (fun (s2 : Sg) => P ((s2 1 0)) s2))) ∧ (¬ ((s1 1 0) + a1) ≤ 9999 → (wM_error ((-1000000003)) s1 (fun (r2 : Int32) (s2 : Sg) => P r2 s2))))) ∧ (r1 = 0 → (wM_error ((-1000000001)) s1 (fun (r2 : Int32) (s2 : Sg) => P r2 s2))))))
set_option maxRecDepth 100000 in
set_option maxHeartbeats 4000000 in
theorem xM_walks {w : Wc} (l : Launch) {a1 : Int32} {s0 : Sg} {P : Int32 → Sg → Prop} (hw : wM_walks a1 s0 P) : CI shM w l 5 (.code yX8_walks cX8_walks 2 (some .int)) yX8_walks [.ref (ad w 0), .int a1] s0 P := by
  refine ci_of_i (own := "BagBottomModel") (ls0 := [some (.ref (ad w 0)), some (.int a1)]) rfl pn_X8 rfl rfl (fun g el hg => ?_)
  unfold wM_walks at hw
  refine x_iload_1 hg dX8_walks_0 rfl ?_
  refine x_ic hg dX8_walks_1 ic_1 rfl ?_
  refine x_bi hg dX8_walks_2 bp_100 rfl ?_
  refine x_callSI hg (xM_in (gL g)  hw) sm_X8_in mi_X8_in ml_X8_57 rfl rfl (As := [.int a1, .int 1, .int 100]) rfl rfl rfl dX8_walks_4 rfl (fun r1 s1 hw => ?_)
  refine x_if_ne hg dX8_walks_7 (tg := 17) (by decide) rfl hw (fun hw => ?_) (fun hw => ?_)
  · refine x_aload_0 hg dX8_walks_17 rfl ?_
    refine get_X8_0 hg kM_0 fl_X8_9 dX8_walks_18 rfl (k2 := 1) rfl ?_
    refine x_ic hg dX8_walks_21 ic_0 rfl ?_
    refine x_ialdc hg kM_1 rfl vi_0_379 ix_0 dX8_walks_22 rfl ?_
    refine x_iload_1 hg dX8_walks_23 rfl ?_
    refine x_iadd hg dX8_walks_24 rfl ?_
    refine x_si hg dX8_walks_25 sp_9999 rfl ?_
    refine x_icmp_le hg dX8_walks_28 (tg := 38) (by decide) rfl hw (fun hw => ?_) (fun hw => ?_)
    · refine x_aload_0 hg dX8_walks_38 rfl ?_
      refine x_iload_1 hg dX8_walks_39 rfl ?_
      refine x_callVV hg (xM_steps (gL g)  hw) kM_0 (by decide) rfl im_X8_steps se_X8_steps mi_X8_steps ml_X8_187 rfl rfl (As := [.int a1]) rfl rfl rfl dX8_walks_40 rfl (fun s2 hw => ?_)
      refine x_aload_0 hg dX8_walks_43 rfl ?_
      refine get_X8_0 hg kM_0 fl_X8_9 dX8_walks_44 rfl (k2 := 1) rfl ?_
      refine x_ic hg dX8_walks_47 ic_0 rfl ?_
      refine x_ialdc hg kM_1 rfl vi_0_379 ix_0 dX8_walks_48 rfl ?_
      exact x_ret hg dX8_walks_49 hw
    · refine x_aload_0 hg dX8_walks_31 rfl ?_
      refine x_ldc hg kc_X8_99 dX8_walks_32 rfl ?_
      refine x_callVI hg (xM_error (gL g)  hw) kM_0 (by decide) rfl im_X8_error se_X8_error mi_X8_error ml_X8_78 rfl rfl (As := [.int (-1000000003)]) rfl rfl rfl dX8_walks_34 rfl (fun r2 s2 hw => ?_)
      exact x_ret hg dX8_walks_37 hw
  · refine x_aload_0 hg dX8_walks_10 rfl ?_
    refine x_ldc hg kc_X8_77 dX8_walks_11 rfl ?_
    refine x_callVI hg (xM_error (gL g)  hw) kM_0 (by decide) rfl im_X8_error se_X8_error mi_X8_error ml_X8_78 rfl rfl (As := [.int (-1000000001)]) rfl rfl rfl dX8_walks_13 rfl (fun r2 s2 hw => ?_)
    exact x_ret hg dX8_walks_16 hw
def wM_draw (s0 : Sg) (P : Int32 → Sg → Prop) : Prop := (∀ s1 : Sg, s1 = u2 s0 1 7 ((((s0 1 7) * 1103515245) + 12345)) → P (((s1 1 7).toUInt32 >>> ((8 : Int32).toUInt32 &&& Int32.toUInt32 31)).toInt32) s1)
set_option maxRecDepth 100000 in
set_option maxHeartbeats 4000000 in
theorem xM_draw {w : Wc} (l : Launch) {s0 : Sg} {P : Int32 → Sg → Prop} (hw : wM_draw  s0 P) : CI shM w l 1 (.code yX8_draw cX8_draw 1 (some .int)) yX8_draw [.ref (ad w 0)] s0 P := by
  refine ci_of_i (own := "BagBottomModel") (ls0 := [some (.ref (ad w 0))]) rfl pn_X8 rfl rfl (fun g el hg => ?_)
  unfold wM_draw at hw
  refine x_aload_0 hg dX8_draw_0 rfl ?_
  refine get_X8_0 hg kM_0 fl_X8_9 dX8_draw_1 rfl (k2 := 1) rfl ?_
  refine x_bi hg dX8_draw_4 bp_7 rfl ?_
  refine x_aload_0 hg dX8_draw_6 rfl ?_
  refine get_X8_0 hg kM_0 fl_X8_9 dX8_draw_7 rfl (k2 := 1) rfl ?_
  refine x_bi hg dX8_draw_10 bp_7 rfl ?_
  refine x_ialdc hg kM_1 rfl vi_7_379 ix_7 dX8_draw_12 rfl ?_
  refine x_ldc hg kc_X8_190 dX8_draw_13 rfl ?_
  refine x_imul hg dX8_draw_15 rfl ?_
  refine x_si hg dX8_draw_16 sp_12345 rfl ?_
  refine x_iadd hg dX8_draw_19 rfl ?_
  refine x_iastc hg kM_1 rfl vi_7_379 ix_7 dX8_draw_20 rfl hw (fun s1 hw => ?_)
  refine x_aload_0 hg dX8_draw_21 rfl ?_
  refine get_X8_0 hg kM_0 fl_X8_9 dX8_draw_22 rfl (k2 := 1) rfl ?_
  refine x_bi hg dX8_draw_25 bp_7 rfl ?_
  refine x_ialdc hg kM_1 rfl vi_7_379 ix_7 dX8_draw_27 rfl ?_
  refine x_bi hg dX8_draw_28 bp_8 rfl ?_
  refine x_iushr hg dX8_draw_30 rfl ?_
  exact x_ret hg dX8_draw_31 hw
def wM_drawn (s0 : Sg) (P : Sg → Prop) : Prop := (((s0 1 2) ≤ 0 → (wM_draw  s0 (fun (r1 : Int32) (s1 : Sg) => (wM_steps ((1 + (r1 - r1 / 3 * 3))) s1 (fun (s2 : Sg) => P s2))))) ∧ (¬ (s0 1 2) ≤ 0 → (wM_draw  s0 (fun (r1 : Int32) (s1 : Sg) => (¬ (s1 1 2) = 0 ∧ (((r1 - r1 / (s1 1 2) * (s1 1 2)) < 0 → (wM_draw  s1 (fun (r2 : Int32) (s2 : Sg) => (wM_steps ((1 + (r2 - r2 / 3 * 3))) s2 (fun (s3 : Sg) => P s3))))) ∧ (¬ (r1 - r1 / (s1 1 2) * (s1 1 2)) < 0 → (wM_whereIs ((r1 - r1 / (s1 1 2) * (s1 1 2))) s1 (fun (r2 : Int32) (s2 : Sg) => ((r2 = (-2) → (wM_draw  s2 (fun (r3 : Int32) (s3 : Sg) => (wM_steps ((1 + (r3 - r3 / 3 * 3))) s3 (fun (s4 : Sg) => P s4))))) ∧ (¬ r2 = (-2) → (wM_bestWay ((r1 - r1 / (s1 1 2) * (s1 1 2))) s2 (fun (r3 : Int32) (s3 : Sg) => (wM_taken ((r1 - r1 / (s1 1 2) * (s1 1 2))) r3 s3 (fun (r4 : Int32) (s4 : Sg) => (wM_draw  s4 (fun (r5 : Int32) (s5 : Sg) => (wM_steps ((1 + (r5 - r5 / 3 * 3))) s5 (fun (s6 : Sg) => P s6)))))))))))))))))))
set_option maxRecDepth 100000 in
set_option maxHeartbeats 4000000 in
theorem xM_drawn {w : Wc} (l : Launch) {s0 : Sg} {P : Sg → Prop} (hw : wM_drawn  s0 P) : CV shM w l 7 (.code yX8_drawn cX8_drawn 3 none) yX8_drawn [.ref (ad w 0)] s0 P := by
  refine ci_of_v (own := "BagBottomModel") (ls0 := [some (.ref (ad w 0)), none, none]) rfl pn_X8 rfl rfl (fun g el hg => ?_)
  unfold wM_drawn at hw
  refine x_aload_0 hg dX8_drawn_0 rfl ?_
  refine get_X8_0 hg kM_0 fl_X8_9 dX8_drawn_1 rfl (k2 := 1) rfl ?_
  refine x_ic hg dX8_drawn_4 ic_2 rfl ?_
  refine x_ialdc hg kM_1 rfl vi_2_379 ix_2 dX8_drawn_5 rfl ?_
  refine x_if_le hg dX8_drawn_6 (tg := 23) (by decide) rfl hw (fun hw => ?_) (fun hw => ?_)
  · refine x_ic hg dX8_drawn_23 ic_m1 rfl ?_
    refine x_istore_1 hg dX8_drawn_24 rfl rfl rfl ?_
    refine x_iload_1 hg dX8_drawn_25 rfl ?_
    refine x_if_lt hg dX8_drawn_26 (tg := 50) (by decide) rfl ⟨fun _ => hw, fun h => (show False from absurd h (by decide))⟩ (fun hw => ?_) (fun hw => False.elim hw)
    refine x_aload_0 hg dX8_drawn_50 rfl ?_
    refine x_ic hg dX8_drawn_51 ic_1 rfl ?_
    refine x_aload_0 hg dX8_drawn_52 rfl ?_
    refine x_callVI hg (xM_draw (gL g)  hw) kM_0 (by decide) rfl im_X8_draw se_X8_draw mi_X8_draw ml_X8_191 rfl rfl (As := []) rfl rfl rfl dX8_drawn_53 rfl (fun r1 s1 hw => ?_)
    refine x_ic hg dX8_drawn_56 ic_3 rfl ?_
    refine x_irem hg dX8_drawn_57 ne_3 rfl ?_
    refine x_iadd hg dX8_drawn_58 rfl ?_
    refine x_callVV hg (xM_steps (gL g)  hw) kM_0 (by decide) rfl im_X8_steps se_X8_steps mi_X8_steps ml_X8_187 rfl rfl (As := [.int (1 + (r1 - r1 / 3 * 3))]) rfl rfl rfl dX8_drawn_59 rfl (fun s2 hw => ?_)
    exact x_vret hg dX8_drawn_62 hw
  · refine x_aload_0 hg dX8_drawn_9 rfl ?_
    refine x_callVI hg (xM_draw (gL g)  hw) kM_0 (by decide) rfl im_X8_draw se_X8_draw mi_X8_draw ml_X8_191 rfl rfl (As := []) rfl rfl rfl dX8_drawn_10 rfl (fun r1 s1 hw => ?_)
    refine x_aload_0 hg dX8_drawn_13 rfl ?_
    refine get_X8_0 hg kM_0 fl_X8_9 dX8_drawn_14 rfl (k2 := 1) rfl ?_
    refine x_ic hg dX8_drawn_17 ic_2 rfl ?_
    refine x_ialdc hg kM_1 rfl vi_2_379 ix_2 dX8_drawn_18 rfl ?_
    obtain ⟨hne, hw⟩ := hw
    refine x_irem hg dX8_drawn_19 hne rfl ?_
    refine x_goto hg dX8_drawn_20 (pc' := 24) (by decide) ?_
    refine x_istore_1 hg dX8_drawn_24 rfl rfl rfl ?_
    refine x_iload_1 hg dX8_drawn_25 rfl ?_
    refine x_if_lt hg dX8_drawn_26 (tg := 50) (by decide) rfl hw (fun hw => ?_) (fun hw => ?_)
    · refine x_aload_0 hg dX8_drawn_50 rfl ?_
      refine x_ic hg dX8_drawn_51 ic_1 rfl ?_
      refine x_aload_0 hg dX8_drawn_52 rfl ?_
      refine x_callVI hg (xM_draw (gL g)  hw) kM_0 (by decide) rfl im_X8_draw se_X8_draw mi_X8_draw ml_X8_191 rfl rfl (As := []) rfl rfl rfl dX8_drawn_53 rfl (fun r2 s2 hw => ?_)
      refine x_ic hg dX8_drawn_56 ic_3 rfl ?_
      refine x_irem hg dX8_drawn_57 ne_3 rfl ?_
      refine x_iadd hg dX8_drawn_58 rfl ?_
      refine x_callVV hg (xM_steps (gL g)  hw) kM_0 (by decide) rfl im_X8_steps se_X8_steps mi_X8_steps ml_X8_187 rfl rfl (As := [.int (1 + (r2 - r2 / 3 * 3))]) rfl rfl rfl dX8_drawn_59 rfl (fun s3 hw => ?_)
      exact x_vret hg dX8_drawn_62 hw
    · refine x_aload_0 hg dX8_drawn_29 rfl ?_
      refine x_iload_1 hg dX8_drawn_30 rfl ?_
      refine x_callVI hg (xM_whereIs (gL g)  hw) kM_0 (by decide) rfl im_X8_whereIs se_X8_whereIs mi_X8_whereIs ml_X8_89 rfl rfl (As := [.int (r1 - r1 / (s1 1 2) * (s1 1 2))]) rfl rfl rfl dX8_drawn_31 rfl (fun r2 s2 hw => ?_)
      refine x_bi hg dX8_drawn_34 bp_m2 rfl ?_
      refine x_icmp_eq hg dX8_drawn_36 (tg := 50) (by decide) rfl hw (fun hw => ?_) (fun hw => ?_)
      · refine x_aload_0 hg dX8_drawn_50 rfl ?_
        refine x_ic hg dX8_drawn_51 ic_1 rfl ?_
        refine x_aload_0 hg dX8_drawn_52 rfl ?_
        refine x_callVI hg (xM_draw (gL g)  hw) kM_0 (by decide) rfl im_X8_draw se_X8_draw mi_X8_draw ml_X8_191 rfl rfl (As := []) rfl rfl rfl dX8_drawn_53 rfl (fun r3 s3 hw => ?_)
        refine x_ic hg dX8_drawn_56 ic_3 rfl ?_
        refine x_irem hg dX8_drawn_57 ne_3 rfl ?_
        refine x_iadd hg dX8_drawn_58 rfl ?_
        refine x_callVV hg (xM_steps (gL g)  hw) kM_0 (by decide) rfl im_X8_steps se_X8_steps mi_X8_steps ml_X8_187 rfl rfl (As := [.int (1 + (r3 - r3 / 3 * 3))]) rfl rfl rfl dX8_drawn_59 rfl (fun s4 hw => ?_)
        exact x_vret hg dX8_drawn_62 hw
      · refine x_aload_0 hg dX8_drawn_39 rfl ?_
        refine x_iload_1 hg dX8_drawn_40 rfl ?_
        refine x_aload_0 hg dX8_drawn_41 rfl ?_
        refine x_iload_1 hg dX8_drawn_42 rfl ?_
        refine x_callVI hg (xM_bestWay (gL g)  hw) kM_0 (by decide) rfl im_X8_bestWay se_X8_bestWay mi_X8_bestWay ml_X8_177 rfl rfl (As := [.int (r1 - r1 / (s1 1 2) * (s1 1 2))]) rfl rfl rfl dX8_drawn_43 rfl (fun r3 s3 hw => ?_)
        refine x_callVI hg (xM_taken (gL g)  hw) kM_0 (by decide) rfl im_X8_taken se_X8_taken mi_X8_taken ml_X8_184 rfl rfl (As := [.int (r1 - r1 / (s1 1 2) * (s1 1 2)), .int r3]) rfl rfl rfl dX8_drawn_46 rfl (fun r4 s4 hw => ?_)
        refine x_istore_2 hg dX8_drawn_49 rfl rfl rfl ?_
        refine x_aload_0 hg dX8_drawn_50 rfl ?_
        refine x_ic hg dX8_drawn_51 ic_1 rfl ?_
        refine x_aload_0 hg dX8_drawn_52 rfl ?_
        refine x_callVI hg (xM_draw (gL g)  hw) kM_0 (by decide) rfl im_X8_draw se_X8_draw mi_X8_draw ml_X8_191 rfl rfl (As := []) rfl rfl rfl dX8_drawn_53 rfl (fun r5 s5 hw => ?_)
        refine x_ic hg dX8_drawn_56 ic_3 rfl ?_
        refine x_irem hg dX8_drawn_57 ne_3 rfl ?_
        refine x_iadd hg dX8_drawn_58 rfl ?_
        refine x_callVV hg (xM_steps (gL g)  hw) kM_0 (by decide) rfl im_X8_steps se_X8_steps mi_X8_steps ml_X8_187 rfl rfl (As := [.int (1 + (r5 - r5 / 3 * 3))]) rfl rfl rfl dX8_drawn_59 rfl (fun s6 hw => ?_)
        exact x_vret hg dX8_drawn_62 hw
def wM_loose_42 (f1 : Int32) (K57 : Sg → Prop) : Nat → Int32 → Sg → Prop
  | 0, _, _ => False
  | n + 1, a2, s0 => ((f1 ≤ a2 → K57  s0) ∧ (¬ f1 ≤ a2 → (wM_drawn  s0 (fun (s1 : Sg) => wM_loose_42 f1 K57 n ((a2 + 1)) s1))))
def wM_loose (a1 : Int32) (s0 : Sg) (P : Int32 → Sg → Prop) : Prop := (wM_in a1 1 20 s0 (fun (r1 : Int32) (s1 : Sg) => ((¬ r1 = 0 → ((((s1 1 0) + (3 * a1)) ≤ 9999 → (∃ N1 : Nat, wM_loose_42 a1 (fun  (s2 : Sg) => P ((s2 1 1)) s2) N1 0 s1)) ∧ (¬ ((s1 1 0) + (3 * a1)) ≤ 9999 → (wM_error ((-1000000003)) s1 (fun (r2 : Int32) (s2 : Sg) => P r2 s2))))) ∧ (r1 = 0 → (wM_error ((-1000000001)) s1 (fun (r2 : Int32) (s2 : Sg) => P r2 s2))))))
set_option maxRecDepth 100000 in
set_option maxHeartbeats 4000000 in
theorem xM_loose_42 {w : Wc} {g : Gx} {Q : State → Prop} {f1 : Int32} {K57 : Sg → Prop} (hg : OK shM w g 8 cX8_loose "BagBottomModel" 3 (some .int)) (hK57 : ∀ (s0 : Sg), K57  s0 → X shM w g Q 57 [some (.ref (ad w 0)), none, none] [] s0) : ∀ (n : Nat) (a2 : Int32) (s0 : Sg), wM_loose_42 f1 K57 n a2 s0 → X shM w g Q 42 [some (.ref (ad w 0)), some (.int f1), some (.int a2)] [] s0 := by
  intro n
  induction n with
  | zero =>
    intro a2 s0 hw
    exact hw.elim
  | succ n ih =>
    intro a2 s0 hw
    rw [wM_loose_42] at hw
    refine x_iload_2 hg dX8_loose_42 rfl ?_
    refine x_iload_1 hg dX8_loose_43 rfl ?_
    refine x_icmp_ge hg dX8_loose_44 (tg := 57) (by decide) rfl hw (fun hw => ?_) (fun hw => ?_)
    · refine x_drop_1 ?_
      refine x_drop_2 ?_
      exact hK57  _ hw
    · refine x_aload_0 hg dX8_loose_47 rfl ?_
      refine x_callVV hg (xM_drawn (gL g)  hw) kM_0 (by decide) rfl im_X8_drawn se_X8_drawn mi_X8_drawn ml_X8_194 rfl rfl (As := []) rfl rfl rfl dX8_loose_48 rfl (fun s1 hw => ?_)
      refine x_iinc_2 hg dX8_loose_51 ic_1 rfl rfl rfl ?_
      refine x_goto hg dX8_loose_54 (pc' := 42) (by decide) ?_
      exact ih _ _ hw
set_option maxRecDepth 100000 in
set_option maxHeartbeats 4000000 in
theorem xM_loose {w : Wc} (l : Launch) {a1 : Int32} {s0 : Sg} {P : Int32 → Sg → Prop} (hw : wM_loose a1 s0 P) : CI shM w l 8 (.code yX8_loose cX8_loose 3 (some .int)) yX8_loose [.ref (ad w 0), .int a1] s0 P := by
  refine ci_of_i (own := "BagBottomModel") (ls0 := [some (.ref (ad w 0)), some (.int a1), none]) rfl pn_X8 rfl rfl (fun g el hg => ?_)
  unfold wM_loose at hw
  refine x_iload_1 hg dX8_loose_0 rfl ?_
  refine x_ic hg dX8_loose_1 ic_1 rfl ?_
  refine x_bi hg dX8_loose_2 bp_20 rfl ?_
  refine x_callSI hg (xM_in (gL g)  hw) sm_X8_in mi_X8_in ml_X8_57 rfl rfl (As := [.int a1, .int 1, .int 20]) rfl rfl rfl dX8_loose_4 rfl (fun r1 s1 hw => ?_)
  refine x_if_ne hg dX8_loose_7 (tg := 17) (by decide) rfl hw (fun hw => ?_) (fun hw => ?_)
  · refine x_aload_0 hg dX8_loose_17 rfl ?_
    refine get_X8_0 hg kM_0 fl_X8_9 dX8_loose_18 rfl (k2 := 1) rfl ?_
    refine x_ic hg dX8_loose_21 ic_0 rfl ?_
    refine x_ialdc hg kM_1 rfl vi_0_379 ix_0 dX8_loose_22 rfl ?_
    refine x_ic hg dX8_loose_23 ic_3 rfl ?_
    refine x_iload_1 hg dX8_loose_24 rfl ?_
    refine x_imul hg dX8_loose_25 rfl ?_
    refine x_iadd hg dX8_loose_26 rfl ?_
    refine x_si hg dX8_loose_27 sp_9999 rfl ?_
    refine x_icmp_le hg dX8_loose_30 (tg := 40) (by decide) rfl hw (fun hw => ?_) (fun hw => ?_)
    · refine x_ic hg dX8_loose_40 ic_0 rfl ?_
      refine x_istore_2 hg dX8_loose_41 rfl rfl rfl ?_
      obtain ⟨N1, hw⟩ := hw
      refine xM_loose_42 hg  (fun  s2 hw => ?_) _ _ _ hw
      · refine x_aload_0 hg dX8_loose_57 rfl ?_
        refine get_X8_0 hg kM_0 fl_X8_9 dX8_loose_58 rfl (k2 := 1) rfl ?_
        refine x_ic hg dX8_loose_61 ic_1 rfl ?_
        refine x_ialdc hg kM_1 rfl vi_1_379 ix_1 dX8_loose_62 rfl ?_
        exact x_ret hg dX8_loose_63 hw
    · refine x_aload_0 hg dX8_loose_33 rfl ?_
      refine x_ldc hg kc_X8_99 dX8_loose_34 rfl ?_
      refine x_callVI hg (xM_error (gL g)  hw) kM_0 (by decide) rfl im_X8_error se_X8_error mi_X8_error ml_X8_78 rfl rfl (As := [.int (-1000000003)]) rfl rfl rfl dX8_loose_36 rfl (fun r2 s2 hw => ?_)
      exact x_ret hg dX8_loose_39 hw
  · refine x_aload_0 hg dX8_loose_10 rfl ?_
    refine x_ldc hg kc_X8_77 dX8_loose_11 rfl ?_
    refine x_callVI hg (xM_error (gL g)  hw) kM_0 (by decide) rfl im_X8_error se_X8_error mi_X8_error ml_X8_78 rfl rfl (As := [.int (-1000000001)]) rfl rfl rfl dX8_loose_13 rfl (fun r2 s2 hw => ?_)
    exact x_ret hg dX8_loose_16 hw
def wM_seed (a1 : Int32) (s0 : Sg) (P : Int32 → Sg → Prop) : Prop := (wM_becomes 7 a1 s0 (fun (r1 : Int32) (s1 : Sg) => P r1 s1))
set_option maxRecDepth 100000 in
set_option maxHeartbeats 4000000 in
theorem xM_seed {w : Wc} (l : Launch) {a1 : Int32} {s0 : Sg} {P : Int32 → Sg → Prop} (hw : wM_seed a1 s0 P) : CI shM w l 2 (.code yX8_seed cX8_seed 2 (some .int)) yX8_seed [.ref (ad w 0), .int a1] s0 P := by
  refine ci_of_i (own := "BagBottomModel") (ls0 := [some (.ref (ad w 0)), some (.int a1)]) rfl pn_X8 rfl rfl (fun g el hg => ?_)
  unfold wM_seed at hw
  refine x_aload_0 hg dX8_seed_0 rfl ?_
  refine x_bi hg dX8_seed_1 bp_7 rfl ?_
  refine x_iload_1 hg dX8_seed_3 rfl ?_
  refine x_callVI hg (xM_becomes (gL g)  hw) kM_0 (by decide) rfl im_X8_becomes se_X8_becomes mi_X8_becomes ml_X8_95 rfl rfl (As := [.int 7, .int a1]) rfl rfl rfl dX8_seed_4 rfl (fun r1 s1 hw => ?_)
  exact x_ret hg dX8_seed_7 hw
def wM_then (a1 : Int32) (a2 : Int32) (s0 : Sg) (P : Int32 → Sg → Prop) : Prop := (wM_isThing a1 s0 (fun (r1 : Int32) (s1 : Sg) => ((r1 = 0 → (wM_error ((-1000000001)) s1 (fun (r2 : Int32) (s2 : Sg) => P r2 s2))) ∧ (¬ r1 = 0 → (wM_in a2 0 100 s1 (fun (r2 : Int32) (s2 : Sg) => ((¬ r2 = 0 → (wM_thinks  s2 (fun (s3 : Sg) => (wM_steps a2 s3 (fun (s4 : Sg) => (wM_whereIs a1 s4 (fun (r3 : Int32) (s5 : Sg) => (wM_putsBack  s5 (fun (s6 : Sg) => P r3 s6))))))))) ∧ (r2 = 0 → (wM_error ((-1000000001)) s2 (fun (r3 : Int32) (s3 : Sg) => P r3 s3))))))))))
set_option maxRecDepth 100000 in
set_option maxHeartbeats 4000000 in
theorem xM_then {w : Wc} (l : Launch) {a1 : Int32} {a2 : Int32} {s0 : Sg} {P : Int32 → Sg → Prop} (hw : wM_then a1 a2 s0 P) : CI shM w l 5 (.code yX8_then cX8_then 4 (some .int)) yX8_then [.ref (ad w 0), .int a1, .int a2] s0 P := by
  refine ci_of_i (own := "BagBottomModel") (ls0 := [some (.ref (ad w 0)), some (.int a1), some (.int a2), none]) rfl pn_X8 rfl rfl (fun g el hg => ?_)
  unfold wM_then at hw
  refine x_aload_0 hg dX8_then_0 rfl ?_
  refine x_iload_1 hg dX8_then_1 rfl ?_
  refine x_callVI hg (xM_isThing (gL g)  hw) kM_0 (by decide) rfl im_X8_isThing se_X8_isThing mi_X8_isThing ml_X8_86 rfl rfl (As := [.int a1]) rfl rfl rfl dX8_then_2 rfl (fun r1 s1 hw => ?_)
  refine x_if_eq hg dX8_then_5 (tg := 18) (by decide) rfl hw (fun hw => ?_) (fun hw => ?_)
  · refine x_aload_0 hg dX8_then_18 rfl ?_
    refine x_ldc hg kc_X8_77 dX8_then_19 rfl ?_
    refine x_callVI hg (xM_error (gL g)  hw) kM_0 (by decide) rfl im_X8_error se_X8_error mi_X8_error ml_X8_78 rfl rfl (As := [.int (-1000000001)]) rfl rfl rfl dX8_then_21 rfl (fun r2 s2 hw => ?_)
    exact x_ret hg dX8_then_24 hw
  · refine x_iload_2 hg dX8_then_8 rfl ?_
    refine x_ic hg dX8_then_9 ic_0 rfl ?_
    refine x_bi hg dX8_then_10 bp_100 rfl ?_
    refine x_callSI hg (xM_in (gL g)  hw) sm_X8_in mi_X8_in ml_X8_57 rfl rfl (As := [.int a2, .int 0, .int 100]) rfl rfl rfl dX8_then_12 rfl (fun r2 s2 hw => ?_)
    refine x_if_ne hg dX8_then_15 (tg := 25) (by decide) rfl hw (fun hw => ?_) (fun hw => ?_)
    · refine x_aload_0 hg dX8_then_25 rfl ?_
      refine x_callVV hg (xM_thinks (gL g)  hw) kM_0 (by decide) rfl im_X8_thinks se_X8_thinks mi_X8_thinks ml_X8_197 rfl rfl (As := []) rfl rfl rfl dX8_then_26 rfl (fun s3 hw => ?_)
      refine x_aload_0 hg dX8_then_29 rfl ?_
      refine x_iload_2 hg dX8_then_30 rfl ?_
      refine x_callVV hg (xM_steps (gL g)  hw) kM_0 (by decide) rfl im_X8_steps se_X8_steps mi_X8_steps ml_X8_187 rfl rfl (As := [.int a2]) rfl rfl rfl dX8_then_31 rfl (fun s4 hw => ?_)
      refine x_aload_0 hg dX8_then_34 rfl ?_
      refine x_iload_1 hg dX8_then_35 rfl ?_
      refine x_callVI hg (xM_whereIs (gL g)  hw) kM_0 (by decide) rfl im_X8_whereIs se_X8_whereIs mi_X8_whereIs ml_X8_89 rfl rfl (As := [.int a1]) rfl rfl rfl dX8_then_36 rfl (fun r3 s5 hw => ?_)
      refine x_istore_3 hg dX8_then_39 rfl rfl rfl ?_
      refine x_aload_0 hg dX8_then_40 rfl ?_
      refine x_callVV hg (xM_putsBack (gL g)  hw) kM_0 (by decide) rfl im_X8_putsBack se_X8_putsBack mi_X8_putsBack ml_X8_200 rfl rfl (As := []) rfl rfl rfl dX8_then_41 rfl (fun s6 hw => ?_)
      refine x_iload_3 hg dX8_then_44 rfl ?_
      exact x_ret hg dX8_then_45 hw
    · refine x_aload_0 hg dX8_then_18 rfl ?_
      refine x_ldc hg kc_X8_77 dX8_then_19 rfl ?_
      refine x_callVI hg (xM_error (gL g)  hw) kM_0 (by decide) rfl im_X8_error se_X8_error mi_X8_error ml_X8_78 rfl rfl (As := [.int (-1000000001)]) rfl rfl rfl dX8_then_21 rfl (fun r3 s3 hw => ?_)
      exact x_ret hg dX8_then_24 hw
def wM_settles_6 (K25 : Int32 → Sg → Prop) : Nat → Int32 → Sg → Prop
  | 0, _, _ => False
  | n + 1, a1, s0 => ((99 < a1 → K25 a1 s0) ∧ (¬ 99 < a1 → (wM_aStep  s0 (fun (r1 : Int32) (s1 : Sg) => ((r1 = 0 → K25 a1 s1) ∧ (¬ r1 = 0 → wM_settles_6 K25 n ((a1 + 1)) s1))))))
def wM_settles (s0 : Sg) (P : Int32 → Sg → Prop) : Prop := (wM_thinks  s0 (fun (s1 : Sg) => (∃ N1 : Nat, wM_settles_6 (fun (v1 : Int32) (s2 : Sg) => (wM_putsBack  s2 (fun (s3 : Sg) => ((v1 ≤ 99 → P v1 s3) ∧ (¬ v1 ≤ 99 → (wM_error ((-1000000002)) s3 (fun (r1 : Int32) (s4 : Sg) => P r1 s4))))))) N1 0 s1)))
set_option maxRecDepth 100000 in
set_option maxHeartbeats 4000000 in
theorem xM_settles_6 {w : Wc} {g : Gx} {Q : State → Prop} {K25 : Int32 → Sg → Prop} (hg : OK shM w g 4 cX8_settles "BagBottomModel" 2 (some .int)) (hK25 : ∀ (a1 : Int32) (s0 : Sg), K25 a1 s0 → X shM w g Q 25 [some (.ref (ad w 0)), some (.int a1)] [] s0) : ∀ (n : Nat) (a1 : Int32) (s0 : Sg), wM_settles_6 K25 n a1 s0 → X shM w g Q 6 [some (.ref (ad w 0)), some (.int a1)] [] s0 := by
  intro n
  induction n with
  | zero =>
    intro a1 s0 hw
    exact hw.elim
  | succ n ih =>
    intro a1 s0 hw
    rw [wM_settles_6] at hw
    refine x_iload_1 hg dX8_settles_6 rfl ?_
    refine x_bi hg dX8_settles_7 bp_99 rfl ?_
    refine x_icmp_gt hg dX8_settles_9 (tg := 25) (by decide) rfl hw (fun hw => ?_) (fun hw => ?_)
    · exact hK25 _ _ hw
    · refine x_aload_0 hg dX8_settles_12 rfl ?_
      refine x_callVI hg (xM_aStep (gL g)  hw) kM_0 (by decide) rfl im_X8_aStep se_X8_aStep mi_X8_aStep ml_X8_69 rfl rfl (As := []) rfl rfl rfl dX8_settles_13 rfl (fun r1 s1 hw => ?_)
      refine x_if_eq hg dX8_settles_16 (tg := 25) (by decide) rfl hw (fun hw => ?_) (fun hw => ?_)
      · exact hK25 _ _ hw
      · refine x_iinc_1 hg dX8_settles_19 ic_1 rfl rfl rfl ?_
        refine x_goto hg dX8_settles_22 (pc' := 6) (by decide) ?_
        exact ih _ _ hw
set_option maxRecDepth 100000 in
set_option maxHeartbeats 4000000 in
theorem xM_settles {w : Wc} (l : Launch) {s0 : Sg} {P : Int32 → Sg → Prop} (hw : wM_settles  s0 P) : CI shM w l 4 (.code yX8_settles cX8_settles 2 (some .int)) yX8_settles [.ref (ad w 0)] s0 P := by
  refine ci_of_i (own := "BagBottomModel") (ls0 := [some (.ref (ad w 0)), none]) rfl pn_X8 rfl rfl (fun g el hg => ?_)
  unfold wM_settles at hw
  refine x_aload_0 hg dX8_settles_0 rfl ?_
  refine x_callVV hg (xM_thinks (gL g)  hw) kM_0 (by decide) rfl im_X8_thinks se_X8_thinks mi_X8_thinks ml_X8_197 rfl rfl (As := []) rfl rfl rfl dX8_settles_1 rfl (fun s1 hw => ?_)
  refine x_ic hg dX8_settles_4 ic_0 rfl ?_
  refine x_istore_1 hg dX8_settles_5 rfl rfl rfl ?_
  obtain ⟨N1, hw⟩ := hw
  refine xM_settles_6 hg  (fun v1 s2 hw => ?_) _ _ _ hw
  · refine x_aload_0 hg dX8_settles_25 rfl ?_
    refine x_callVV hg (xM_putsBack (gL g)  hw) kM_0 (by decide) rfl im_X8_putsBack se_X8_putsBack mi_X8_putsBack ml_X8_200 rfl rfl (As := []) rfl rfl rfl dX8_settles_26 rfl (fun s3 hw => ?_)
    refine x_iload_1 hg dX8_settles_29 rfl ?_
    refine x_bi hg dX8_settles_30 bp_99 rfl ?_
    refine x_icmp_le hg dX8_settles_32 (tg := 44) (by decide) rfl hw (fun hw => ?_) (fun hw => ?_)
    · refine x_iload_1 hg dX8_settles_44 rfl ?_
      exact x_ret hg dX8_settles_45 hw
    · refine x_aload_0 hg dX8_settles_35 rfl ?_
      refine x_ldc hg kc_X8_203 dX8_settles_36 rfl ?_
      refine x_callVI hg (xM_error (gL g)  hw) kM_0 (by decide) rfl im_X8_error se_X8_error mi_X8_error ml_X8_78 rfl rfl (As := [.int (-1000000002)]) rfl rfl rfl dX8_settles_38 rfl (fun r1 s4 hw => ?_)
      refine x_goto hg dX8_settles_41 (pc' := 45) (by decide) ?_
      exact x_ret hg dX8_settles_45 hw
def wM_packing_9 (f1 : Int32) (f2 : Int32) (K40 : Sg → Prop) : Nat → Int32 → Sg → Prop
  | 0, _, _ => False
  | n + 1, a3, s0 => (((s0 1 3) ≤ a3 → K40  s0) ∧ (¬ (s0 1 3) ≤ a3 → (vp_in a3 6 ∧ (vp_in ((8 + a3)) 379 ∧ ∀ s1 : Sg, s1 = u2 s0 1 (ix ((8 + a3))) ((s0 13 (ix a3))) → wM_packing_9 f1 f2 K40 n ((a3 + 1)) s1))))
def wM_packing_50 (f2 : Int32) (K91 : Int32 → Sg → Prop) : Nat → Int32 → Int32 → Sg → Prop
  | 0, _, _, _ => False
  | n + 1, a3, a4, s0 => (((s0 1 3) ≤ a4 → K91 a3 s0) ∧ (¬ (s0 1 3) ≤ a4 → (vp_in ((8 + a4)) 379 ∧ (wM_usedOf ((s0 1 (ix ((8 + a4))))) s0 (fun (r1 : Int32) (s1 : Sg) => (wM_feelingTo a4 s1 (fun (r2 : Int32) (s2 : Sg) => wM_packing_50 f2 K91 n ((a3 + (r1 * r2))) ((a4 + 1)) s2)))))))
def wM_packing (a1 : Int32) (s0 : Sg) (P : Int32 → Sg → Prop) : Prop := (∃ N1 : Nat, wM_packing_9 a1 ((s0 1 0)) (fun  (s1 : Sg) => (wM_steps a1 s1 (fun (s2 : Sg) => (∃ N2 : Nat, wM_packing_50 ((s0 1 0)) (fun (v1 : Int32) (s3 : Sg) => (∀ s4 : Sg, s4 = u2 s3 1 0 ((s0 1 0)) → P v1 s4)) N2 0 0 s2)))) N1 0 s0)
set_option maxRecDepth 100000 in
set_option maxHeartbeats 4000000 in
theorem xM_packing_9 {w : Wc} {g : Gx} {Q : State → Prop} {f1 : Int32} {f2 : Int32} {K40 : Sg → Prop} (hg : OK shM w g 5 cX8_packing "BagBottomModel" 5 (some .int)) (hK40 : ∀ (s0 : Sg), K40  s0 → X shM w g Q 40 [some (.ref (ad w 0)), some (.int f1), some (.int f2), none, none] [] s0) : ∀ (n : Nat) (a3 : Int32) (s0 : Sg), wM_packing_9 f1 f2 K40 n a3 s0 → X shM w g Q 9 [some (.ref (ad w 0)), some (.int f1), some (.int f2), some (.int a3), none] [] s0 := by
  intro n
  induction n with
  | zero =>
    intro a3 s0 hw
    exact hw.elim
  | succ n ih =>
    intro a3 s0 hw
    rw [wM_packing_9] at hw
    refine x_iload_3 hg dX8_packing_9 rfl ?_
    refine x_aload_0 hg dX8_packing_10 rfl ?_
    refine get_X8_0 hg kM_0 fl_X8_9 dX8_packing_11 rfl (k2 := 1) rfl ?_
    refine x_ic hg dX8_packing_14 ic_3 rfl ?_
    refine x_ialdc hg kM_1 rfl vi_3_379 ix_3 dX8_packing_15 rfl ?_
    refine x_icmp_ge hg dX8_packing_16 (tg := 40) (by decide) rfl hw (fun hw => ?_) (fun hw => ?_)
    · refine x_drop_3 ?_
      exact hK40  _ hw
    · refine x_aload_0 hg dX8_packing_19 rfl ?_
      refine get_X8_0 hg kM_0 fl_X8_9 dX8_packing_20 rfl (k2 := 1) rfl ?_
      refine x_bi hg dX8_packing_23 bp_8 rfl ?_
      refine x_iload_3 hg dX8_packing_25 rfl ?_
      refine x_iadd hg dX8_packing_26 rfl ?_
      refine x_aload_0 hg dX8_packing_27 rfl ?_
      refine get_X8_19 hg kM_0 fl_X8_46 dX8_packing_28 rfl (k2 := 13) rfl ?_
      refine x_iload_3 hg dX8_packing_31 rfl ?_
      refine x_iald hg kM_13 rfl dX8_packing_32 rfl hw (fun hw => ?_)
      refine x_iast hg kM_1 rfl dX8_packing_33 rfl hw (fun s1 hw => ?_)
      refine x_iinc_3 hg dX8_packing_34 ic_1 rfl rfl rfl ?_
      refine x_goto hg dX8_packing_37 (pc' := 9) (by decide) ?_
      exact ih _ _ hw
set_option maxRecDepth 100000 in
set_option maxHeartbeats 4000000 in
theorem xM_packing_50 {w : Wc} {g : Gx} {Q : State → Prop} {f2 : Int32} {K91 : Int32 → Sg → Prop} (hg : OK shM w g 5 cX8_packing "BagBottomModel" 5 (some .int)) (hK91 : ∀ (a3 : Int32) (s0 : Sg), K91 a3 s0 → X shM w g Q 91 [some (.ref (ad w 0)), none, some (.int f2), some (.int a3), none] [] s0) : ∀ (n : Nat) (a3 a4 : Int32) (s0 : Sg), wM_packing_50 f2 K91 n a3 a4 s0 → X shM w g Q 50 [some (.ref (ad w 0)), none, some (.int f2), some (.int a3), some (.int a4)] [] s0 := by
  intro n
  induction n with
  | zero =>
    intro a3 a4 s0 hw
    exact hw.elim
  | succ n ih =>
    intro a3 a4 s0 hw
    rw [wM_packing_50] at hw
    refine x_iload_4 hg dX8_packing_50 rfl ?_
    refine x_aload_0 hg dX8_packing_52 rfl ?_
    refine get_X8_0 hg kM_0 fl_X8_9 dX8_packing_53 rfl (k2 := 1) rfl ?_
    refine x_ic hg dX8_packing_56 ic_3 rfl ?_
    refine x_ialdc hg kM_1 rfl vi_3_379 ix_3 dX8_packing_57 rfl ?_
    refine x_icmp_ge hg dX8_packing_58 (tg := 91) (by decide) rfl hw (fun hw => ?_) (fun hw => ?_)
    · refine x_drop_4 ?_
      exact hK91 _ _ hw
    · refine x_iload_3 hg dX8_packing_61 rfl ?_
      refine x_aload_0 hg dX8_packing_62 rfl ?_
      refine x_aload_0 hg dX8_packing_63 rfl ?_
      refine get_X8_0 hg kM_0 fl_X8_9 dX8_packing_64 rfl (k2 := 1) rfl ?_
      refine x_bi hg dX8_packing_67 bp_8 rfl ?_
      refine x_iload_4 hg dX8_packing_69 rfl ?_
      refine x_iadd hg dX8_packing_71 rfl ?_
      refine x_iald hg kM_1 rfl dX8_packing_72 rfl hw (fun hw => ?_)
      refine x_callVI hg (xM_usedOf (gL g)  hw) kM_0 (by decide) rfl im_X8_usedOf se_X8_usedOf mi_X8_usedOf ml_X8_204 rfl rfl (As := [.int (s0 1 (ix ((8 + a4))))]) rfl rfl rfl dX8_packing_73 rfl (fun r1 s1 hw => ?_)
      refine x_aload_0 hg dX8_packing_76 rfl ?_
      refine x_iload_4 hg dX8_packing_77 rfl ?_
      refine x_callVI hg (xM_feelingTo (gL g)  hw) kM_0 (by decide) rfl im_X8_feelingTo se_X8_feelingTo mi_X8_feelingTo ml_X8_171 rfl rfl (As := [.int a4]) rfl rfl rfl dX8_packing_79 rfl (fun r2 s2 hw => ?_)
      refine x_imul hg dX8_packing_82 rfl ?_
      refine x_iadd hg dX8_packing_83 rfl ?_
      refine x_istore_3 hg dX8_packing_84 rfl rfl rfl ?_
      refine x_iinc_4 hg dX8_packing_85 ic_1 rfl rfl rfl ?_
      refine x_goto hg dX8_packing_88 (pc' := 50) (by decide) ?_
      exact ih _ _ _ hw
set_option maxRecDepth 100000 in
set_option maxHeartbeats 4000000 in
theorem xM_packing {w : Wc} (l : Launch) {a1 : Int32} {s0 : Sg} {P : Int32 → Sg → Prop} (hw : wM_packing a1 s0 P) : CI shM w l 5 (.code yX8_packing cX8_packing 5 (some .int)) yX8_packing [.ref (ad w 0), .int a1] s0 P := by
  refine ci_of_i (own := "BagBottomModel") (ls0 := [some (.ref (ad w 0)), some (.int a1), none, none, none]) rfl pn_X8 rfl rfl (fun g el hg => ?_)
  unfold wM_packing at hw
  refine x_aload_0 hg dX8_packing_0 rfl ?_
  refine get_X8_0 hg kM_0 fl_X8_9 dX8_packing_1 rfl (k2 := 1) rfl ?_
  refine x_ic hg dX8_packing_4 ic_0 rfl ?_
  refine x_ialdc hg kM_1 rfl vi_0_379 ix_0 dX8_packing_5 rfl ?_
  refine x_istore_2 hg dX8_packing_6 rfl rfl rfl ?_
  refine x_ic hg dX8_packing_7 ic_0 rfl ?_
  refine x_istore_3 hg dX8_packing_8 rfl rfl rfl ?_
  obtain ⟨N1, hw⟩ := hw
  refine xM_packing_9 hg  (fun  s1 hw => ?_) _ _ _ hw
  · refine x_aload_0 hg dX8_packing_40 rfl ?_
    refine x_iload_1 hg dX8_packing_41 rfl ?_
    refine x_callVV hg (xM_steps (gL g)  hw) kM_0 (by decide) rfl im_X8_steps se_X8_steps mi_X8_steps ml_X8_187 rfl rfl (As := [.int a1]) rfl rfl rfl dX8_packing_42 rfl (fun s2 hw => ?_)
    refine x_ic hg dX8_packing_45 ic_0 rfl ?_
    refine x_istore_3 hg dX8_packing_46 rfl rfl rfl ?_
    refine x_ic hg dX8_packing_47 ic_0 rfl ?_
    refine x_istore_4 hg dX8_packing_48 rfl rfl rfl ?_
    refine x_drop_1 ?_
    obtain ⟨N2, hw⟩ := hw
    refine xM_packing_50 hg  (fun v1 s3 hw => ?_) _ _ _ _ hw
    · refine x_aload_0 hg dX8_packing_91 rfl ?_
      refine get_X8_0 hg kM_0 fl_X8_9 dX8_packing_92 rfl (k2 := 1) rfl ?_
      refine x_ic hg dX8_packing_95 ic_0 rfl ?_
      refine x_iload_2 hg dX8_packing_96 rfl ?_
      refine x_iastc hg kM_1 rfl vi_0_379 ix_0 dX8_packing_97 rfl hw (fun s4 hw => ?_)
      refine x_iload_3 hg dX8_packing_98 rfl ?_
      exact x_ret hg dX8_packing_99 hw
def wM_packs_72 (rc : Nat → List Int32 → Sg → (Int32 → Sg → Prop) → Prop) (f1 : Int32) (f2 : Int32) (f3 : Int32) (K123 : Sg → Prop) : Nat → Int32 → Sg → Prop
  | 0, _, _ => False
  | n + 1, a4, s0 => (((s0 1 2) ≤ a4 → K123  s0) ∧ (¬ (s0 1 2) ≤ a4 → ((¬ ((f2 >>> (a4 &&& 31)) &&& 1) = 1 → wM_packs_72 rc f1 f2 f3 K123 n ((a4 + 1)) s0) ∧ (((f2 >>> (a4 &&& 31)) &&& 1) = 1 → (vp_in f1 6 ∧ ∀ s1 : Sg, s1 = u2 s0 13 (ix f1) a4 → (rc 0 [((f1 + 1)), ((f2 &&& ((1 <<< (a4 &&& 31)) ^^^ (-1)))), f3] s1 (fun (_z : Int32) (s2 : Sg) => wM_packs_72 rc f1 f2 f3 K123 n ((a4 + 1)) s2)))))))
def wM_packs_42 (rc : Nat → List Int32 → Sg → (Int32 → Sg → Prop) → Prop) (f1 : Int32) (K68 : Sg → Prop) : Nat → Int32 → Sg → Prop
  | 0, _, _ => False
  | n + 1, a5, s0 => ((f1 ≤ a5 → K68  s0) ∧ (¬ f1 ≤ a5 → (vp_in a5 6 ∧ (vp_in a5 6 ∧ ∀ s1 : Sg, s1 = u2 s0 12 (ix a5) ((s0 13 (ix a5))) → wM_packs_42 rc f1 K68 n ((a5 + 1)) s1))))
def wM_packs (rc : Nat → List Int32 → Sg → (Int32 → Sg → Prop) → Prop) (a1 : Int32) (a2 : Int32) (a3 : Int32) (s0 : Sg) (P : Int32 → Sg → Prop) : Prop := ((¬ a1 = (s0 1 3) → (∃ N1 : Nat, wM_packs_72 rc a1 a2 a3 (fun  (s1 : Sg) => P 0 s1) N1 0 s0)) ∧ (a1 = (s0 1 3) → (wM_packing a3 s0 (fun (r1 : Int32) (s1 : Sg) => (((s1 0 18) < 0 → (∀ s2 : Sg, s2 = u2 s1 0 18 r1 → (∃ N1 : Nat, wM_packs_42 rc a1 (fun  (s3 : Sg) => P 0 s3) N1 0 s2))) ∧ (¬ (s1 0 18) < 0 → (((s1 0 18) ≤ r1 → P 0 s1) ∧ (¬ (s1 0 18) ≤ r1 → (∀ s2 : Sg, s2 = u2 s1 0 18 r1 → (∃ N1 : Nat, wM_packs_42 rc a1 (fun  (s3 : Sg) => P 0 s3) N1 0 s2))))))))))
set_option maxRecDepth 100000 in
set_option maxHeartbeats 4000000 in
theorem xM_packs_72 {w : Wc} {g : Gx} {d : Nat} {Q : State → Prop} {D : Nat} {rc : Nat → List Int32 → Sg → (Int32 → Sg → Prop) → Prop} {f1 : Int32} {f2 : Int32} {f3 : Int32} {K123 : Sg → Prop} (hg : OK shM w g d cX8_packs "BagBottomModel" 6 none) (hd : 6 ≤ d) (hDd : Nat.ble (D + 1) d = true) (hrc0 : ∀ (b1 b2 b3 : Int32) (s : Sg) (R : Int32 → Sg → Prop), rc 0 [b1, b2, b3] s R → CV shM w (gL g) D (.code yX8_packs cX8_packs 6 none) yX8_packs [.ref (ad w 0), .int b1, .int b2, .int b3] s (fun t => R 0 t)) (hK123 : ∀ (s0 : Sg), K123  s0 → X shM w g Q 123 [none, none, none, none, none, none] [] s0) : ∀ (n : Nat) (a4 : Int32) (s0 : Sg), wM_packs_72 rc f1 f2 f3 K123 n a4 s0 → X shM w g Q 72 [some (.ref (ad w 0)), some (.int f1), some (.int f2), some (.int f3), some (.int a4), none] [] s0 := by
  intro n
  induction n with
  | zero =>
    intro a4 s0 hw
    exact hw.elim
  | succ n ih =>
    intro a4 s0 hw
    rw [wM_packs_72] at hw
    refine x_iload_4 hg dX8_packs_72 rfl ?_
    refine x_aload_0 hg dX8_packs_74 rfl ?_
    refine get_X8_0 hg kM_0 fl_X8_9 dX8_packs_75 rfl (k2 := 1) rfl ?_
    refine x_ic hg dX8_packs_78 ic_2 rfl ?_
    refine x_ialdc hg kM_1 rfl vi_2_379 ix_2 dX8_packs_79 rfl ?_
    refine x_icmp_ge hg dX8_packs_80 (tg := 123) (by decide) rfl hw (fun hw => ?_) (fun hw => ?_)
    · refine x_drop_0 ?_
      refine x_drop_1 ?_
      refine x_drop_2 ?_
      refine x_drop_3 ?_
      refine x_drop_4 ?_
      exact hK123  _ hw
    · refine x_iload_2 hg dX8_packs_83 rfl ?_
      refine x_iload_4 hg dX8_packs_84 rfl ?_
      refine x_ishr hg dX8_packs_86 rfl ?_
      refine x_ic hg dX8_packs_87 ic_1 rfl ?_
      refine x_iand hg dX8_packs_88 rfl ?_
      refine x_ic hg dX8_packs_89 ic_1 rfl ?_
      refine x_icmp_ne hg dX8_packs_90 (tg := 117) (by decide) rfl hw (fun hw => ?_) (fun hw => ?_)
      · refine x_iinc_4 hg dX8_packs_117 ic_1 rfl rfl rfl ?_
        refine x_goto hg dX8_packs_120 (pc' := 72) (by decide) ?_
        exact ih _ _ hw
      · refine x_aload_0 hg dX8_packs_93 rfl ?_
        refine get_X8_19 hg kM_0 fl_X8_46 dX8_packs_94 rfl (k2 := 13) rfl ?_
        refine x_iload_1 hg dX8_packs_97 rfl ?_
        refine x_iload_4 hg dX8_packs_98 rfl ?_
        refine x_iast hg kM_13 rfl dX8_packs_100 rfl hw (fun s1 hw => ?_)
        refine x_aload_0 hg dX8_packs_101 rfl ?_
        refine x_iload_1 hg dX8_packs_102 rfl ?_
        refine x_ic hg dX8_packs_103 ic_1 rfl ?_
        refine x_iadd hg dX8_packs_104 rfl ?_
        refine x_iload_2 hg dX8_packs_105 rfl ?_
        refine x_ic hg dX8_packs_106 ic_1 rfl ?_
        refine x_iload_4 hg dX8_packs_107 rfl ?_
        refine x_ishl hg dX8_packs_109 rfl ?_
        refine x_ic hg dX8_packs_110 ic_m1 rfl ?_
        refine x_ixor hg dX8_packs_111 rfl ?_
        refine x_iand hg dX8_packs_112 rfl ?_
        refine x_iload_3 hg dX8_packs_113 rfl ?_
        refine x_callVV hg (hrc0 _ _ _ _ _ hw) kM_0 (by decide) rfl im_X8_packs se_X8_packs mi_X8_packs ml_X8_213 hDd rfl (As := [.int (f1 + 1), .int (f2 &&& ((1 <<< (a4 &&& 31)) ^^^ (-1))), .int f3]) rfl rfl rfl dX8_packs_114 rfl (fun s2 hw => ?_)
        refine x_iinc_4 hg dX8_packs_117 ic_1 rfl rfl rfl ?_
        refine x_goto hg dX8_packs_120 (pc' := 72) (by decide) ?_
        exact ih _ _ hw
set_option maxRecDepth 100000 in
set_option maxHeartbeats 4000000 in
theorem xM_packs_42 {w : Wc} {g : Gx} {d : Nat} {Q : State → Prop} {D : Nat} {rc : Nat → List Int32 → Sg → (Int32 → Sg → Prop) → Prop} {f1 : Int32} {K68 : Sg → Prop} (hg : OK shM w g d cX8_packs "BagBottomModel" 6 none) (hd : 6 ≤ d) (hDd : Nat.ble (D + 1) d = true) (hrc0 : ∀ (b1 b2 b3 : Int32) (s : Sg) (R : Int32 → Sg → Prop), rc 0 [b1, b2, b3] s R → CV shM w (gL g) D (.code yX8_packs cX8_packs 6 none) yX8_packs [.ref (ad w 0), .int b1, .int b2, .int b3] s (fun t => R 0 t)) (hK68 : ∀ (s0 : Sg), K68  s0 → X shM w g Q 68 [none, none, none, none, none, none] [] s0) : ∀ (n : Nat) (a5 : Int32) (s0 : Sg), wM_packs_42 rc f1 K68 n a5 s0 → X shM w g Q 42 [some (.ref (ad w 0)), some (.int f1), none, none, none, some (.int a5)] [] s0 := by
  intro n
  induction n with
  | zero =>
    intro a5 s0 hw
    exact hw.elim
  | succ n ih =>
    intro a5 s0 hw
    rw [wM_packs_42] at hw
    refine x_iload_5 hg dX8_packs_42 rfl ?_
    refine x_iload_1 hg dX8_packs_44 rfl ?_
    refine x_icmp_ge hg dX8_packs_45 (tg := 68) (by decide) rfl hw (fun hw => ?_) (fun hw => ?_)
    · refine x_drop_0 ?_
      refine x_drop_1 ?_
      refine x_drop_5 ?_
      exact hK68  _ hw
    · refine x_aload_0 hg dX8_packs_48 rfl ?_
      refine get_X8_17 hg kM_0 fl_X8_43 dX8_packs_49 rfl (k2 := 12) rfl ?_
      refine x_iload_5 hg dX8_packs_52 rfl ?_
      refine x_aload_0 hg dX8_packs_54 rfl ?_
      refine get_X8_19 hg kM_0 fl_X8_46 dX8_packs_55 rfl (k2 := 13) rfl ?_
      refine x_iload_5 hg dX8_packs_58 rfl ?_
      refine x_iald hg kM_13 rfl dX8_packs_60 rfl hw (fun hw => ?_)
      refine x_iast hg kM_12 rfl dX8_packs_61 rfl hw (fun s1 hw => ?_)
      refine x_iinc_5 hg dX8_packs_62 ic_1 rfl rfl rfl ?_
      refine x_goto hg dX8_packs_65 (pc' := 42) (by decide) ?_
      exact ih _ _ hw
set_option maxRecDepth 100000 in
set_option maxHeartbeats 4000000 in
theorem xbM_packs {w : Wc} {l : Launch} {d : Nat} {D : Nat} {rc : Nat → List Int32 → Sg → (Int32 → Sg → Prop) → Prop} {a1 : Int32} {a2 : Int32} {a3 : Int32} (hd : 6 ≤ d) (hDd : Nat.ble (D + 1) d = true) (hrc0 : ∀ (b1 b2 b3 : Int32) (s : Sg) (R : Int32 → Sg → Prop), rc 0 [b1, b2, b3] s R → CV shM w l D (.code yX8_packs cX8_packs 6 none) yX8_packs [.ref (ad w 0), .int b1, .int b2, .int b3] s (fun t => R 0 t)) {s0 : Sg} {P : Int32 → Sg → Prop} (hw : wM_packs rc a1 a2 a3 s0 P) : CV shM w l d (.code yX8_packs cX8_packs 6 none) yX8_packs [.ref (ad w 0), .int a1, .int a2, .int a3] s0 (fun t => P 0 t) := by
  refine ci_of_v (own := "BagBottomModel") (ls0 := [some (.ref (ad w 0)), some (.int a1), some (.int a2), some (.int a3), none, none]) rfl pn_X8 rfl rfl (fun g el hg => ?_)
  subst el
  unfold wM_packs at hw
  refine x_iload_1 hg dX8_packs_0 rfl ?_
  refine x_aload_0 hg dX8_packs_1 rfl ?_
  refine get_X8_0 hg kM_0 fl_X8_9 dX8_packs_2 rfl (k2 := 1) rfl ?_
  refine x_ic hg dX8_packs_5 ic_3 rfl ?_
  refine x_ialdc hg kM_1 rfl vi_3_379 ix_3 dX8_packs_6 rfl ?_
  refine x_icmp_ne hg dX8_packs_7 (tg := 69) (by decide) rfl hw (fun hw => ?_) (fun hw => ?_)
  · refine x_ic hg dX8_packs_69 ic_0 rfl ?_
    refine x_istore_4 hg dX8_packs_70 rfl rfl rfl ?_
    obtain ⟨N1, hw⟩ := hw
    refine xM_packs_72 hg hd hDd hrc0 (fun  s1 hw => ?_) _ _ _ hw
    · exact x_vret hg dX8_packs_123 hw
  · refine x_aload_0 hg dX8_packs_10 rfl ?_
    refine x_iload_3 hg dX8_packs_11 rfl ?_
    refine x_callVI hg (xM_packing (gL g)  hw) kM_0 (by decide) rfl im_X8_packing se_X8_packing mi_X8_packing ml_X8_207 (ble_of (by omega)) rfl (As := [.int a3]) rfl rfl rfl dX8_packs_12 rfl (fun r1 s1 hw => ?_)
    refine x_istore_4 hg dX8_packs_15 rfl rfl rfl ?_
    refine x_aload_0 hg dX8_packs_17 rfl ?_
    refine get_X8_18 hg kM_0 fl_X8_210 dX8_packs_18 rfl ?_
    refine x_if_lt hg dX8_packs_21 (tg := 33) (by decide) rfl hw (fun hw => ?_) (fun hw => ?_)
    · refine x_aload_0 hg dX8_packs_33 rfl ?_
      refine x_iload_4 hg dX8_packs_34 rfl ?_
      refine put_X8_18 hg kM_0 fl_X8_210 dX8_packs_36 rfl hw (fun s2 hw => ?_)
      refine x_ic hg dX8_packs_39 ic_0 rfl ?_
      refine x_istore_5 hg dX8_packs_40 rfl rfl rfl ?_
      refine x_drop_2 ?_
      refine x_drop_3 ?_
      refine x_drop_4 ?_
      obtain ⟨N1, hw⟩ := hw
      refine xM_packs_42 hg hd hDd hrc0 (fun  s3 hw => ?_) _ _ _ hw
      · exact x_vret hg dX8_packs_68 hw
    · refine x_iload_4 hg dX8_packs_24 rfl ?_
      refine x_aload_0 hg dX8_packs_26 rfl ?_
      refine get_X8_18 hg kM_0 fl_X8_210 dX8_packs_27 rfl ?_
      refine x_icmp_ge hg dX8_packs_30 (tg := 68) (by decide) rfl hw (fun hw => ?_) (fun hw => ?_)
      · exact x_vret hg dX8_packs_68 hw
      · refine x_aload_0 hg dX8_packs_33 rfl ?_
        refine x_iload_4 hg dX8_packs_34 rfl ?_
        refine put_X8_18 hg kM_0 fl_X8_210 dX8_packs_36 rfl hw (fun s2 hw => ?_)
        refine x_ic hg dX8_packs_39 ic_0 rfl ?_
        refine x_istore_5 hg dX8_packs_40 rfl rfl rfl ?_
        refine x_drop_2 ?_
        refine x_drop_3 ?_
        refine x_drop_4 ?_
        obtain ⟨N1, hw⟩ := hw
        refine xM_packs_42 hg hd hDd hrc0 (fun  s3 hw => ?_) _ _ _ hw
        · exact x_vret hg dX8_packs_68 hw
set_option maxRecDepth 100000 in
set_option maxHeartbeats 4000000 in
def wGPacks : Nat → Nat → List Int32 → Sg → (Int32 → Sg → Prop) → Prop
  | 0, _, _, _, _ => False
  | n + 1, q, as, s, P => match q with
    | _ => wM_packs (wGPacks n) (as.getD 0 0) (as.getD 1 0) (as.getD 2 0) s P
set_option maxRecDepth 100000 in
set_option maxHeartbeats 4000000 in
theorem xGPacks {w : Wc} (l : Launch) : ∀ n : Nat, (∀ (b1 b2 b3 : Int32) (s : Sg) (R : Int32 → Sg → Prop), wGPacks n 0 [b1, b2, b3] s R → CV shM w l (5 + n) (.code yX8_packs cX8_packs 6 none) yX8_packs [.ref (ad w 0), .int b1, .int b2, .int b3] s (fun t => R 0 t)) := by
  intro n
  induction n with
  | zero => exact fun _ _ _ _ _ h => h.elim
  | succ n ih =>
    have h0 := ih
    have hd : 6 ≤ 5 + (n + 1) := by omega
    have hDd : Nat.ble (5 + n + 1) (5 + (n + 1)) = true := ble_of (by omega)
    exact fun _ _ _ _ _ h => xbM_packs (rc := wGPacks n) hd hDd h0 h
theorem xM_packs {w : Wc} (l : Launch) (n : Nat) (b1 b2 b3 : Int32) {s0 : Sg} {P : Int32 → Sg → Prop} (hw : wGPacks n 0 [b1, b2, b3] s0 P) : CV shM w l (5 + n) (.code yX8_packs cX8_packs 6 none) yX8_packs [.ref (ad w 0), .int b1, .int b2, .int b3] s0 (fun t => P 0 t) := (xGPacks l n) b1 b2 b3 _ _ hw
def wM_inside_4 (K34 : Int32 → Sg → Prop) : Nat → Int32 → Int32 → Sg → Prop
  | 0, _, _, _ => False
  | n + 1, a1, a2, s0 => (((s0 1 3) ≤ a2 → K34 a1 s0) ∧ (¬ (s0 1 3) ≤ a2 → (vp_in ((8 + a2)) 379 ∧ wM_inside_4 K34 n ((a1 ||| (1 <<< ((s0 1 (ix ((8 + a2)))) &&& 31)))) ((a2 + 1)) s0)))
def wM_inside (s0 : Sg) (P : Int32 → Sg → Prop) : Prop := (∃ N1 : Nat, wM_inside_4 (fun (v1 : Int32) (s1 : Sg) => P v1 s1) N1 0 0 s0)
set_option maxRecDepth 100000 in
set_option maxHeartbeats 4000000 in
theorem xM_inside_4 {w : Wc} {g : Gx} {Q : State → Prop} {K34 : Int32 → Sg → Prop} (hg : OK shM w g 1 cX8_inside "BagBottomModel" 3 (some .int)) (hK34 : ∀ (a1 : Int32) (s0 : Sg), K34 a1 s0 → X shM w g Q 34 [none, some (.int a1), none] [] s0) : ∀ (n : Nat) (a1 a2 : Int32) (s0 : Sg), wM_inside_4 K34 n a1 a2 s0 → X shM w g Q 4 [some (.ref (ad w 0)), some (.int a1), some (.int a2)] [] s0 := by
  intro n
  induction n with
  | zero =>
    intro a1 a2 s0 hw
    exact hw.elim
  | succ n ih =>
    intro a1 a2 s0 hw
    rw [wM_inside_4] at hw
    refine x_iload_2 hg dX8_inside_4 rfl ?_
    refine x_aload_0 hg dX8_inside_5 rfl ?_
    refine get_X8_0 hg kM_0 fl_X8_9 dX8_inside_6 rfl (k2 := 1) rfl ?_
    refine x_ic hg dX8_inside_9 ic_3 rfl ?_
    refine x_ialdc hg kM_1 rfl vi_3_379 ix_3 dX8_inside_10 rfl ?_
    refine x_icmp_ge hg dX8_inside_11 (tg := 34) (by decide) rfl hw (fun hw => ?_) (fun hw => ?_)
    · refine x_drop_0 ?_
      refine x_drop_2 ?_
      exact hK34 _ _ hw
    · refine x_iload_1 hg dX8_inside_14 rfl ?_
      refine x_ic hg dX8_inside_15 ic_1 rfl ?_
      refine x_aload_0 hg dX8_inside_16 rfl ?_
      refine get_X8_0 hg kM_0 fl_X8_9 dX8_inside_17 rfl (k2 := 1) rfl ?_
      refine x_bi hg dX8_inside_20 bp_8 rfl ?_
      refine x_iload_2 hg dX8_inside_22 rfl ?_
      refine x_iadd hg dX8_inside_23 rfl ?_
      refine x_iald hg kM_1 rfl dX8_inside_24 rfl hw (fun hw => ?_)
      refine x_ishl hg dX8_inside_25 rfl ?_
      refine x_ior hg dX8_inside_26 rfl ?_
      refine x_istore_1 hg dX8_inside_27 rfl rfl rfl ?_
      refine x_iinc_2 hg dX8_inside_28 ic_1 rfl rfl rfl ?_
      refine x_goto hg dX8_inside_31 (pc' := 4) (by decide) ?_
      exact ih _ _ _ hw
set_option maxRecDepth 100000 in
set_option maxHeartbeats 4000000 in
theorem xM_inside {w : Wc} (l : Launch) {s0 : Sg} {P : Int32 → Sg → Prop} (hw : wM_inside  s0 P) : CI shM w l 1 (.code yX8_inside cX8_inside 3 (some .int)) yX8_inside [.ref (ad w 0)] s0 P := by
  refine ci_of_i (own := "BagBottomModel") (ls0 := [some (.ref (ad w 0)), none, none]) rfl pn_X8 rfl rfl (fun g el hg => ?_)
  unfold wM_inside at hw
  refine x_ic hg dX8_inside_0 ic_0 rfl ?_
  refine x_istore_1 hg dX8_inside_1 rfl rfl rfl ?_
  refine x_ic hg dX8_inside_2 ic_0 rfl ?_
  refine x_istore_2 hg dX8_inside_3 rfl rfl rfl ?_
  obtain ⟨N1, hw⟩ := hw
  refine xM_inside_4 hg  (fun v1 s1 hw => ?_) _ _ _ _ hw
  · refine x_iload_1 hg dX8_inside_34 rfl ?_
    exact x_ret hg dX8_inside_35 hw
def wM_pack (a1 : Int32) (a2 : Int32) (s0 : Sg) (P : Int32 → Sg → Prop) : Prop := (wM_in a1 0 20 s0 (fun (r1 : Int32) (s1 : Sg) => ((r1 = 0 → (wM_error ((-1000000001)) s1 (fun (r2 : Int32) (s2 : Sg) => P r2 s2))) ∧ (¬ r1 = 0 → (wM_in a2 ((-1)) 5 s1 (fun (r2 : Int32) (s2 : Sg) => ((¬ r2 = 0 → (((s2 1 3) ≤ 6 → ((a2 < (s2 1 3) → (wM_thinks  s2 (fun (s3 : Sg) => (∀ s4 : Sg, s4 = u2 s3 0 18 ((-1)) → (wM_inside  s4 (fun (r3 : Int32) (s5 : Sg) => (wGPacks  8 0 [0, r3, a1] s5 (fun (_z : Int32) (s6 : Sg) => (wM_putsBack  s6 (fun (s7 : Sg) => ((0 ≤ a2 → (vp_in a2 6 ∧ P ((s7 12 (ix a2))) s7)) ∧ (¬ 0 ≤ a2 → P ((s7 0 18)) s7)))))))))))) ∧ (¬ a2 < (s2 1 3) → (wM_error ((-1000000002)) s2 (fun (r3 : Int32) (s3 : Sg) => P r3 s3))))) ∧ (¬ (s2 1 3) ≤ 6 → (wM_error ((-1000000003)) s2 (fun (r3 : Int32) (s3 : Sg) => P r3 s3))))) ∧ (r2 = 0 → (wM_error ((-1000000001)) s2 (fun (r3 : Int32) (s3 : Sg) => P r3 s3))))))))))
set_option maxRecDepth 100000 in
set_option maxHeartbeats 4000000 in
theorem xM_pack {w : Wc} (l : Launch) {a1 : Int32} {a2 : Int32} {s0 : Sg} {P : Int32 → Sg → Prop} (hw : wM_pack a1 a2 s0 P) : CI shM w l 14 (.code yX8_pack cX8_pack 3 (some .int)) yX8_pack [.ref (ad w 0), .int a1, .int a2] s0 P := by
  refine ci_of_i (own := "BagBottomModel") (ls0 := [some (.ref (ad w 0)), some (.int a1), some (.int a2)]) rfl pn_X8 rfl rfl (fun g el hg => ?_)
  unfold wM_pack at hw
  refine x_iload_1 hg dX8_pack_0 rfl ?_
  refine x_ic hg dX8_pack_1 ic_0 rfl ?_
  refine x_bi hg dX8_pack_2 bp_20 rfl ?_
  refine x_callSI hg (xM_in (gL g)  hw) sm_X8_in mi_X8_in ml_X8_57 rfl rfl (As := [.int a1, .int 0, .int 20]) rfl rfl rfl dX8_pack_4 rfl (fun r1 s1 hw => ?_)
  refine x_if_eq hg dX8_pack_7 (tg := 19) (by decide) rfl hw (fun hw => ?_) (fun hw => ?_)
  · refine x_aload_0 hg dX8_pack_19 rfl ?_
    refine x_ldc hg kc_X8_77 dX8_pack_20 rfl ?_
    refine x_callVI hg (xM_error (gL g)  hw) kM_0 (by decide) rfl im_X8_error se_X8_error mi_X8_error ml_X8_78 rfl rfl (As := [.int (-1000000001)]) rfl rfl rfl dX8_pack_22 rfl (fun r2 s2 hw => ?_)
    exact x_ret hg dX8_pack_25 hw
  · refine x_iload_2 hg dX8_pack_10 rfl ?_
    refine x_ic hg dX8_pack_11 ic_m1 rfl ?_
    refine x_ic hg dX8_pack_12 ic_5 rfl ?_
    refine x_callSI hg (xM_in (gL g)  hw) sm_X8_in mi_X8_in ml_X8_57 rfl rfl (As := [.int a2, .int (-1), .int 5]) rfl rfl rfl dX8_pack_13 rfl (fun r2 s2 hw => ?_)
    refine x_if_ne hg dX8_pack_16 (tg := 26) (by decide) rfl hw (fun hw => ?_) (fun hw => ?_)
    · refine x_aload_0 hg dX8_pack_26 rfl ?_
      refine get_X8_0 hg kM_0 fl_X8_9 dX8_pack_27 rfl (k2 := 1) rfl ?_
      refine x_ic hg dX8_pack_30 ic_3 rfl ?_
      refine x_ialdc hg kM_1 rfl vi_3_379 ix_3 dX8_pack_31 rfl ?_
      refine x_bi hg dX8_pack_32 bp_6 rfl ?_
      refine x_icmp_le hg dX8_pack_34 (tg := 44) (by decide) rfl hw (fun hw => ?_) (fun hw => ?_)
      · refine x_iload_2 hg dX8_pack_44 rfl ?_
        refine x_aload_0 hg dX8_pack_45 rfl ?_
        refine get_X8_0 hg kM_0 fl_X8_9 dX8_pack_46 rfl (k2 := 1) rfl ?_
        refine x_ic hg dX8_pack_49 ic_3 rfl ?_
        refine x_ialdc hg kM_1 rfl vi_3_379 ix_3 dX8_pack_50 rfl ?_
        refine x_icmp_lt hg dX8_pack_51 (tg := 61) (by decide) rfl hw (fun hw => ?_) (fun hw => ?_)
        · refine x_aload_0 hg dX8_pack_61 rfl ?_
          refine x_callVV hg (xM_thinks (gL g)  hw) kM_0 (by decide) rfl im_X8_thinks se_X8_thinks mi_X8_thinks ml_X8_197 rfl rfl (As := []) rfl rfl rfl dX8_pack_62 rfl (fun s3 hw => ?_)
          refine x_aload_0 hg dX8_pack_65 rfl ?_
          refine x_ic hg dX8_pack_66 ic_m1 rfl ?_
          refine put_X8_18 hg kM_0 fl_X8_210 dX8_pack_67 rfl hw (fun s4 hw => ?_)
          refine x_aload_0 hg dX8_pack_70 rfl ?_
          refine x_ic hg dX8_pack_71 ic_0 rfl ?_
          refine x_aload_0 hg dX8_pack_72 rfl ?_
          refine x_callVI hg (xM_inside (gL g)  hw) kM_0 (by decide) rfl im_X8_inside se_X8_inside mi_X8_inside ml_X8_217 rfl rfl (As := []) rfl rfl rfl dX8_pack_73 rfl (fun r3 s5 hw => ?_)
          refine x_iload_1 hg dX8_pack_76 rfl ?_
          refine x_callVV hg (xM_packs  (gL g) 8 _ _ _ hw) kM_0 (by decide) rfl im_X8_packs se_X8_packs mi_X8_packs ml_X8_213 rfl rfl (As := [.int 0, .int r3, .int a1]) rfl rfl rfl dX8_pack_77 rfl (fun s6 hw => ?_)
          refine x_aload_0 hg dX8_pack_80 rfl ?_
          refine x_callVV hg (xM_putsBack (gL g)  hw) kM_0 (by decide) rfl im_X8_putsBack se_X8_putsBack mi_X8_putsBack ml_X8_200 rfl rfl (As := []) rfl rfl rfl dX8_pack_81 rfl (fun s7 hw => ?_)
          refine x_iload_2 hg dX8_pack_84 rfl ?_
          refine x_if_ge hg dX8_pack_85 (tg := 95) (by decide) rfl hw (fun hw => ?_) (fun hw => ?_)
          · refine x_aload_0 hg dX8_pack_95 rfl ?_
            refine get_X8_17 hg kM_0 fl_X8_43 dX8_pack_96 rfl (k2 := 12) rfl ?_
            refine x_iload_2 hg dX8_pack_99 rfl ?_
            refine x_iald hg kM_12 rfl dX8_pack_100 rfl hw (fun hw => ?_)
            exact x_ret hg dX8_pack_101 hw
          · refine x_aload_0 hg dX8_pack_88 rfl ?_
            refine get_X8_18 hg kM_0 fl_X8_210 dX8_pack_89 rfl ?_
            refine x_goto hg dX8_pack_92 (pc' := 101) (by decide) ?_
            exact x_ret hg dX8_pack_101 hw
        · refine x_aload_0 hg dX8_pack_54 rfl ?_
          refine x_ldc hg kc_X8_203 dX8_pack_55 rfl ?_
          refine x_callVI hg (xM_error (gL g)  hw) kM_0 (by decide) rfl im_X8_error se_X8_error mi_X8_error ml_X8_78 rfl rfl (As := [.int (-1000000002)]) rfl rfl rfl dX8_pack_57 rfl (fun r3 s3 hw => ?_)
          exact x_ret hg dX8_pack_60 hw
      · refine x_aload_0 hg dX8_pack_37 rfl ?_
        refine x_ldc hg kc_X8_99 dX8_pack_38 rfl ?_
        refine x_callVI hg (xM_error (gL g)  hw) kM_0 (by decide) rfl im_X8_error se_X8_error mi_X8_error ml_X8_78 rfl rfl (As := [.int (-1000000003)]) rfl rfl rfl dX8_pack_40 rfl (fun r3 s3 hw => ?_)
        exact x_ret hg dX8_pack_43 hw
    · refine x_aload_0 hg dX8_pack_19 rfl ?_
      refine x_ldc hg kc_X8_77 dX8_pack_20 rfl ?_
      refine x_callVI hg (xM_error (gL g)  hw) kM_0 (by decide) rfl im_X8_error se_X8_error mi_X8_error ml_X8_78 rfl rfl (As := [.int (-1000000001)]) rfl rfl rfl dX8_pack_22 rfl (fun r3 s3 hw => ?_)
      exact x_ret hg dX8_pack_25 hw
