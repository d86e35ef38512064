def wM_out_117 (f1 : Int32) (f2 : Int32) (f3 : Int32) (f4 : Int32) (f5 : Int32) (f6 : Int32) (K153 : Sg → Prop) : Nat → Int32 → Sg → Prop
  | 0, _, _ => False
  | n + 1, a7, s0 => ((a7 < 0 → K153  s0) ∧ (¬ a7 < 0 → (vp_in ((8 + a7)) 379 ∧ ((¬ ((f6 >>> ((s0 1 (ix ((8 + a7)))) &&& 31)) &&& 1) = 1 → wM_out_117 f1 f2 f3 f4 f5 f6 K153 n ((a7 + (-1))) s0) ∧ (((f6 >>> ((s0 1 (ix ((8 + a7)))) &&& 31)) &&& 1) = 1 → (wM_goesFrom a7 s0 (fun (s1 : Sg) => wM_out_117 f1 f2 f3 f4 f5 f6 K153 n ((a7 + (-1))) s1)))))))
def wM_out_72 (f1 : Int32) (f2 : Int32) (f3 : Int32) (f4 : Int32) (K182 : Int32 → Sg → Prop) : Nat → Int32 → Int32 → Sg → Prop
  | 0, _, _, _ => False
  | n + 1, a5, a6, s0 => ((f4 < a6 → K182 a5 s0) ∧ (¬ f4 < a6 → ((¬ (a6 &&& (f4 ^^^ (-1))) = 0 → wM_out_72 f1 f2 f3 f4 K182 n a5 ((a6 + 1)) s0) ∧ ((a6 &&& (f4 ^^^ (-1))) = 0 → ((a5 < 0 → (∃ N1 : Nat, wM_out_117 f1 f2 f3 f4 a5 a6 (fun  (s1 : Sg) => (wM_timeOf f1 0 s1 (fun (r1 : Int32) (s2 : Sg) => ((f2 < r1 → (wM_putsBack  s2 (fun (s3 : Sg) => wM_out_72 f1 f2 f3 f4 K182 n a5 ((a6 + 1)) s3))) ∧ (¬ f2 < r1 → (wM_putsBack  s2 (fun (s3 : Sg) => wM_out_72 f1 f2 f3 f4 K182 n a6 ((a6 + 1)) s3))))))) N1 (((s0 1 3) - 1)) s0)) ∧ (¬ a5 < 0 → (wM_bits a6 s0 (fun (r1 : Int32) (s1 : Sg) => (wM_bits a5 s1 (fun (r2 : Int32) (s2 : Sg) => ((r2 ≤ r1 → wM_out_72 f1 f2 f3 f4 K182 n a5 ((a6 + 1)) s2) ∧ (¬ r2 ≤ r1 → (∃ N1 : Nat, wM_out_117 f1 f2 f3 f4 a5 a6 (fun  (s3 : Sg) => (wM_timeOf f1 0 s3 (fun (r3 : Int32) (s4 : Sg) => ((f2 < r3 → (wM_putsBack  s4 (fun (s5 : Sg) => wM_out_72 f1 f2 f3 f4 K182 n a5 ((a6 + 1)) s5))) ∧ (¬ f2 < r3 → (wM_putsBack  s4 (fun (s5 : Sg) => wM_out_72 f1 f2 f3 f4 K182 n a6 ((a6 + 1)) s5))))))) N1 (((s2 1 3) - 1)) s2)))))))))))))
def wM_out (a1 : Int32) (a2 : Int32) (a3 : Int32) (s0 : Sg) (P : Int32 → Sg → Prop) : Prop := (wM_isThing a1 s0 (fun (r1 : Int32) (s1 : Sg) => ((r1 = 0 → (wM_error ((-1000000001)) s1 (fun (r2 : Int32) (s2 : Sg) => P r2 s2))) ∧ (¬ r1 = 0 → (wM_in a2 0 999 s1 (fun (r2 : Int32) (s2 : Sg) => ((r2 = 0 → (wM_error ((-1000000001)) s2 (fun (r3 : Int32) (s3 : Sg) => P r3 s3))) ∧ (¬ r2 = 0 → (wM_in a3 0 1 s2 (fun (r3 : Int32) (s3 : Sg) => ((¬ r3 = 0 → (wM_whereIs a1 s3 (fun (r4 : Int32) (s4 : Sg) => ((0 ≤ r4 → (wM_inside  s4 (fun (r5 : Int32) (s5 : Sg) => (wM_thinks  s5 (fun (s6 : Sg) => (∃ N1 : Nat, wM_out_72 a1 a2 a3 ((r5 &&& ((1 <<< (a1 &&& 31)) ^^^ (-1)))) (fun (v1 : Int32) (s7 : Sg) => ((0 ≤ v1 → ((¬ a3 = 0 → P v1 s7) ∧ (a3 = 0 → (wM_bits v1 s7 (fun (r6 : Int32) (s8 : Sg) => P r6 s8))))) ∧ (¬ 0 ≤ v1 → (wM_error ((-1000000002)) s7 (fun (r6 : Int32) (s8 : Sg) => P r6 s8))))) N1 ((-1)) 0 s6)))))) ∧ (¬ 0 ≤ r4 → (wM_error ((-1000000003)) s4 (fun (r5 : Int32) (s5 : Sg) => P r5 s5))))))) ∧ (r3 = 0 → (wM_error ((-1000000001)) s3 (fun (r4 : Int32) (s4 : Sg) => P r4 s4))))))))))))))
set_option maxRecDepth 100000 in
set_option maxHeartbeats 4000000 in
theorem xM_out_117 {w : Wc} {g : Gx} {Q : State → Prop} {f1 : Int32} {f2 : Int32} {f3 : Int32} {f4 : Int32} {f5 : Int32} {f6 : Int32} {K153 : Sg → Prop} (hg : OK shM w g 6 cX8_out "BagBottomModel" 8 (some .int)) (hK153 : ∀ (s0 : Sg), K153  s0 → X shM w g Q 153 [some (.ref (ad w 0)), some (.int f1), some (.int f2), some (.int f3), some (.int f4), some (.int f5), some (.int f6), none] [] s0) : ∀ (n : Nat) (a7 : Int32) (s0 : Sg), wM_out_117 f1 f2 f3 f4 f5 f6 K153 n a7 s0 → X shM w g Q 117 [some (.ref (ad w 0)), some (.int f1), some (.int f2), some (.int f3), some (.int f4), some (.int f5), some (.int f6), some (.int a7)] [] s0 := by
  intro n
  induction n with
  | zero =>
    intro a7 s0 hw
    exact hw.elim
  | succ n ih =>
    intro a7 s0 hw
    rw [wM_out_117] at hw
    refine x_iload_7 hg dX8_out_117 rfl ?_
    refine x_if_lt hg dX8_out_119 (tg := 153) (by decide) rfl hw (fun hw => ?_) (fun hw => ?_)
    · refine x_drop_7 ?_
      exact hK153  _ hw
    · refine x_iload_6 hg dX8_out_122 rfl ?_
      refine x_aload_0 hg dX8_out_124 rfl ?_
      refine get_X8_0 hg kM_0 fl_X8_9 dX8_out_125 rfl (k2 := 1) rfl ?_
      refine x_bi hg dX8_out_128 bp_8 rfl ?_
      refine x_iload_7 hg dX8_out_130 rfl ?_
      refine x_iadd hg dX8_out_132 rfl ?_
      refine x_iald hg kM_1 rfl dX8_out_133 rfl hw (fun hw => ?_)
      refine x_ishr hg dX8_out_134 rfl ?_
      refine x_ic hg dX8_out_135 ic_1 rfl ?_
      refine x_iand hg dX8_out_136 rfl ?_
      refine x_ic hg dX8_out_137 ic_1 rfl ?_
      refine x_icmp_ne hg dX8_out_138 (tg := 147) (by decide) rfl hw (fun hw => ?_) (fun hw => ?_)
      · refine x_iinc_7 hg dX8_out_147 ic_m1 rfl rfl rfl ?_
        refine x_goto hg dX8_out_150 (pc' := 117) (by decide) ?_
        exact ih _ _ hw
      · refine x_aload_0 hg dX8_out_141 rfl ?_
        refine x_iload_7 hg dX8_out_142 rfl ?_
        refine x_callVV hg (xM_goesFrom (gL g)  hw) kM_0 (by decide) rfl im_X8_goesFrom se_X8_goesFrom mi_X8_goesFrom ml_X8_100 rfl rfl (As := [.int a7]) rfl rfl rfl dX8_out_144 rfl (fun s1 hw => ?_)
        refine x_iinc_7 hg dX8_out_147 ic_m1 rfl rfl rfl ?_
        refine x_goto hg dX8_out_150 (pc' := 117) (by decide) ?_
        exact ih _ _ hw
set_option maxRecDepth 100000 in
set_option maxHeartbeats 4000000 in
theorem xM_out_72 {w : Wc} {g : Gx} {Q : State → Prop} {f1 : Int32} {f2 : Int32} {f3 : Int32} {f4 : Int32} {K182 : Int32 → Sg → Prop} (hg : OK shM w g 6 cX8_out "BagBottomModel" 8 (some .int)) (hK182 : ∀ (a5 : Int32) (s0 : Sg), K182 a5 s0 → X shM w g Q 182 [some (.ref (ad w 0)), none, none, some (.int f3), none, some (.int a5), none, none] [] s0) : ∀ (n : Nat) (a5 a6 : Int32) (s0 : Sg), wM_out_72 f1 f2 f3 f4 K182 n a5 a6 s0 → X shM w g Q 72 [some (.ref (ad w 0)), some (.int f1), some (.int f2), some (.int f3), some (.int f4), some (.int a5), some (.int a6), none] [] s0 := by
  intro n
  induction n with
  | zero =>
    intro a5 a6 s0 hw
    exact hw.elim
  | succ n ih =>
    intro a5 a6 s0 hw
    rw [wM_out_72] at hw
    refine x_iload_6 hg dX8_out_72 rfl ?_
    refine x_iload_4 hg dX8_out_74 rfl ?_
    refine x_icmp_gt hg dX8_out_76 (tg := 182) (by decide) rfl hw (fun hw => ?_) (fun hw => ?_)
    · refine x_drop_1 ?_
      refine x_drop_2 ?_
      refine x_drop_4 ?_
      refine x_drop_6 ?_
      exact hK182 _ _ hw
    · refine x_iload_6 hg dX8_out_79 rfl ?_
      refine x_iload_4 hg dX8_out_81 rfl ?_
      refine x_ic hg dX8_out_83 ic_m1 rfl ?_
      refine x_ixor hg dX8_out_84 rfl ?_
      refine x_iand hg dX8_out_85 rfl ?_
      refine x_if_ne hg dX8_out_86 (tg := 176) (by decide) rfl hw (fun hw => ?_) (fun hw => ?_)
      · refine x_iinc_6 hg dX8_out_176 ic_1 rfl rfl rfl ?_
        refine x_goto hg dX8_out_179 (pc' := 72) (by decide) ?_
        exact ih _ _ _ hw
      · refine x_iload_5 hg dX8_out_89 rfl ?_
        refine x_if_lt hg dX8_out_91 (tg := 107) (by decide) rfl hw (fun hw => ?_) (fun hw => ?_)
        · refine x_aload_0 hg dX8_out_107 rfl ?_
          refine get_X8_0 hg kM_0 fl_X8_9 dX8_out_108 rfl (k2 := 1) rfl ?_
          refine x_ic hg dX8_out_111 ic_3 rfl ?_
          refine x_ialdc hg kM_1 rfl vi_3_379 ix_3 dX8_out_112 rfl ?_
          refine x_ic hg dX8_out_113 ic_1 rfl ?_
          refine x_isub hg dX8_out_114 rfl ?_
          refine x_istore_7 hg dX8_out_115 rfl rfl rfl ?_
          obtain ⟨N1, hw⟩ := hw
          refine xM_out_117 hg  (fun  s1 hw => ?_) _ _ _ hw
          · refine x_aload_0 hg dX8_out_153 rfl ?_
            refine x_iload_1 hg dX8_out_154 rfl ?_
            refine x_ic hg dX8_out_155 ic_0 rfl ?_
            refine x_callVI hg (xM_timeOf (gL g)  hw) kM_0 (by decide) rfl im_X8_timeOf se_X8_timeOf mi_X8_timeOf ml_X8_174 rfl rfl (As := [.int f1, .int 0]) rfl rfl rfl dX8_out_156 rfl (fun r1 s2 hw => ?_)
            refine x_iload_2 hg dX8_out_159 rfl ?_
            refine x_icmp_gt hg dX8_out_160 (tg := 168) (by decide) rfl hw (fun hw => ?_) (fun hw => ?_)
            · refine x_iload_5 hg dX8_out_168 rfl ?_
              refine x_istore_5 hg dX8_out_170 rfl rfl rfl ?_
              refine x_aload_0 hg dX8_out_172 rfl ?_
              refine x_callVV hg (xM_putsBack (gL g)  hw) kM_0 (by decide) rfl im_X8_putsBack se_X8_putsBack mi_X8_putsBack ml_X8_200 rfl rfl (As := []) rfl rfl rfl dX8_out_173 rfl (fun s3 hw => ?_)
              refine x_iinc_6 hg dX8_out_176 ic_1 rfl rfl rfl ?_
              refine x_goto hg dX8_out_179 (pc' := 72) (by decide) ?_
              exact ih _ _ _ hw
            · refine x_iload_6 hg dX8_out_163 rfl ?_
              refine x_goto hg dX8_out_165 (pc' := 170) (by decide) ?_
              refine x_istore_5 hg dX8_out_170 rfl rfl rfl ?_
              refine x_aload_0 hg dX8_out_172 rfl ?_
              refine x_callVV hg (xM_putsBack (gL g)  hw) kM_0 (by decide) rfl im_X8_putsBack se_X8_putsBack mi_X8_putsBack ml_X8_200 rfl rfl (As := []) rfl rfl rfl dX8_out_173 rfl (fun s3 hw => ?_)
              refine x_iinc_6 hg dX8_out_176 ic_1 rfl rfl rfl ?_
              refine x_goto hg dX8_out_179 (pc' := 72) (by decide) ?_
              exact ih _ _ _ hw
        · refine x_iload_6 hg dX8_out_94 rfl ?_
          refine x_callSI hg (xM_bits (gL g)  hw) sm_X8_bits mi_X8_bits ml_X8_220 rfl rfl (As := [.int a6]) rfl rfl rfl dX8_out_96 rfl (fun r1 s1 hw => ?_)
          refine x_iload_5 hg dX8_out_99 rfl ?_
          refine x_callSI hg (xM_bits (gL g)  hw) sm_X8_bits mi_X8_bits ml_X8_220 rfl rfl (As := [.int a5]) rfl rfl rfl dX8_out_101 rfl (fun r2 s2 hw => ?_)
          refine x_icmp_ge hg dX8_out_104 (tg := 176) (by decide) rfl hw (fun hw => ?_) (fun hw => ?_)
          · refine x_iinc_6 hg dX8_out_176 ic_1 rfl rfl rfl ?_
            refine x_goto hg dX8_out_179 (pc' := 72) (by decide) ?_
            exact ih _ _ _ hw
          · refine x_aload_0 hg dX8_out_107 rfl ?_
            refine get_X8_0 hg kM_0 fl_X8_9 dX8_out_108 rfl (k2 := 1) rfl ?_
            refine x_ic hg dX8_out_111 ic_3 rfl ?_
            refine x_ialdc hg kM_1 rfl vi_3_379 ix_3 dX8_out_112 rfl ?_
            refine x_ic hg dX8_out_113 ic_1 rfl ?_
            refine x_isub hg dX8_out_114 rfl ?_
            refine x_istore_7 hg dX8_out_115 rfl rfl rfl ?_
            obtain ⟨N1, hw⟩ := hw
            refine xM_out_117 hg  (fun  s3 hw => ?_) _ _ _ hw
            · refine x_aload_0 hg dX8_out_153 rfl ?_
              refine x_iload_1 hg dX8_out_154 rfl ?_
              refine x_ic hg dX8_out_155 ic_0 rfl ?_
              refine x_callVI hg (xM_timeOf (gL g)  hw) kM_0 (by decide) rfl im_X8_timeOf se_X8_timeOf mi_X8_timeOf ml_X8_174 rfl rfl (As := [.int f1, .int 0]) rfl rfl rfl dX8_out_156 rfl (fun r3 s4 hw => ?_)
              refine x_iload_2 hg dX8_out_159 rfl ?_
              refine x_icmp_gt hg dX8_out_160 (tg := 168) (by decide) rfl hw (fun hw => ?_) (fun hw => ?_)
              · refine x_iload_5 hg dX8_out_168 rfl ?_
                refine x_istore_5 hg dX8_out_170 rfl rfl rfl ?_
                refine x_aload_0 hg dX8_out_172 rfl ?_
                refine x_callVV hg (xM_putsBack (gL g)  hw) kM_0 (by decide) rfl im_X8_putsBack se_X8_putsBack mi_X8_putsBack ml_X8_200 rfl rfl (As := []) rfl rfl rfl dX8_out_173 rfl (fun s5 hw => ?_)
                refine x_iinc_6 hg dX8_out_176 ic_1 rfl rfl rfl ?_
                refine x_goto hg dX8_out_179 (pc' := 72) (by decide) ?_
                exact ih _ _ _ hw
              · refine x_iload_6 hg dX8_out_163 rfl ?_
                refine x_goto hg dX8_out_165 (pc' := 170) (by decide) ?_
                refine x_istore_5 hg dX8_out_170 rfl rfl rfl ?_
                refine x_aload_0 hg dX8_out_172 rfl ?_
                refine x_callVV hg (xM_putsBack (gL g)  hw) kM_0 (by decide) rfl im_X8_putsBack se_X8_putsBack mi_X8_putsBack ml_X8_200 rfl rfl (As := []) rfl rfl rfl dX8_out_173 rfl (fun s5 hw => ?_)
                refine x_iinc_6 hg dX8_out_176 ic_1 rfl rfl rfl ?_
                refine x_goto hg dX8_out_179 (pc' := 72) (by decide) ?_
                exact ih _ _ _ hw
set_option maxRecDepth 100000 in
set_option maxHeartbeats 4000000 in
theorem xM_out {w : Wc} (l : Launch) {a1 : Int32} {a2 : Int32} {a3 : Int32} {s0 : Sg} {P : Int32 → Sg → Prop} (hw : wM_out a1 a2 a3 s0 P) : CI shM w l 6 (.code yX8_out cX8_out 8 (some .int)) yX8_out [.ref (ad w 0), .int a1, .int a2, .int a3] s0 P := by
  refine ci_of_i (own := "BagBottomModel") (ls0 := [some (.ref (ad w 0)), some (.int a1), some (.int a2), some (.int a3), none, none, none, none]) rfl pn_X8 rfl rfl (fun g el hg => ?_)
  unfold wM_out at hw
  refine x_aload_0 hg dX8_out_0 rfl ?_
  refine x_iload_1 hg dX8_out_1 rfl ?_
  refine x_callVI hg (xM_isThing (gL g)  hw) kM_0 (by decide) rfl im_X8_isThing se_X8_isThing mi_X8_isThing ml_X8_86 rfl rfl (As := [.int a1]) rfl rfl rfl dX8_out_2 rfl (fun r1 s1 hw => ?_)
  refine x_if_eq hg dX8_out_5 (tg := 28) (by decide) rfl hw (fun hw => ?_) (fun hw => ?_)
  · refine x_aload_0 hg dX8_out_28 rfl ?_
    refine x_ldc hg kc_X8_77 dX8_out_29 rfl ?_
    refine x_callVI hg (xM_error (gL g)  hw) kM_0 (by decide) rfl im_X8_error se_X8_error mi_X8_error ml_X8_78 rfl rfl (As := [.int (-1000000001)]) rfl rfl rfl dX8_out_31 rfl (fun r2 s2 hw => ?_)
    exact x_ret hg dX8_out_34 hw
  · refine x_iload_2 hg dX8_out_8 rfl ?_
    refine x_ic hg dX8_out_9 ic_0 rfl ?_
    refine x_si hg dX8_out_10 sp_999 rfl ?_
    refine x_callSI hg (xM_in (gL g)  hw) sm_X8_in mi_X8_in ml_X8_57 rfl rfl (As := [.int a2, .int 0, .int 999]) rfl rfl rfl dX8_out_13 rfl (fun r2 s2 hw => ?_)
    refine x_if_eq hg dX8_out_16 (tg := 28) (by decide) rfl hw (fun hw => ?_) (fun hw => ?_)
    · refine x_aload_0 hg dX8_out_28 rfl ?_
      refine x_ldc hg kc_X8_77 dX8_out_29 rfl ?_
      refine x_callVI hg (xM_error (gL g)  hw) kM_0 (by decide) rfl im_X8_error se_X8_error mi_X8_error ml_X8_78 rfl rfl (As := [.int (-1000000001)]) rfl rfl rfl dX8_out_31 rfl (fun r3 s3 hw => ?_)
      exact x_ret hg dX8_out_34 hw
    · refine x_iload_3 hg dX8_out_19 rfl ?_
      refine x_ic hg dX8_out_20 ic_0 rfl ?_
      refine x_ic hg dX8_out_21 ic_1 rfl ?_
      refine x_callSI hg (xM_in (gL g)  hw) sm_X8_in mi_X8_in ml_X8_57 rfl rfl (As := [.int a3, .int 0, .int 1]) rfl rfl rfl dX8_out_22 rfl (fun r3 s3 hw => ?_)
      refine x_if_ne hg dX8_out_25 (tg := 35) (by decide) rfl hw (fun hw => ?_) (fun hw => ?_)
      · refine x_aload_0 hg dX8_out_35 rfl ?_
        refine x_iload_1 hg dX8_out_36 rfl ?_
        refine x_callVI hg (xM_whereIs (gL g)  hw) kM_0 (by decide) rfl im_X8_whereIs se_X8_whereIs mi_X8_whereIs ml_X8_89 rfl rfl (As := [.int a1]) rfl rfl rfl dX8_out_37 rfl (fun r4 s4 hw => ?_)
        refine x_if_ge hg dX8_out_40 (tg := 50) (by decide) rfl hw (fun hw => ?_) (fun hw => ?_)
        · refine x_aload_0 hg dX8_out_50 rfl ?_
          refine x_callVI hg (xM_inside (gL g)  hw) kM_0 (by decide) rfl im_X8_inside se_X8_inside mi_X8_inside ml_X8_217 rfl rfl (As := []) rfl rfl rfl dX8_out_51 rfl (fun r5 s5 hw => ?_)
          refine x_ic hg dX8_out_54 ic_1 rfl ?_
          refine x_iload_1 hg dX8_out_55 rfl ?_
          refine x_ishl hg dX8_out_56 rfl ?_
          refine x_ic hg dX8_out_57 ic_m1 rfl ?_
          refine x_ixor hg dX8_out_58 rfl ?_
          refine x_iand hg dX8_out_59 rfl ?_
          refine x_istore_4 hg dX8_out_60 rfl rfl rfl ?_
          refine x_aload_0 hg dX8_out_62 rfl ?_
          refine x_callVV hg (xM_thinks (gL g)  hw) kM_0 (by decide) rfl im_X8_thinks se_X8_thinks mi_X8_thinks ml_X8_197 rfl rfl (As := []) rfl rfl rfl dX8_out_63 rfl (fun s6 hw => ?_)
          refine x_ic hg dX8_out_66 ic_m1 rfl ?_
          refine x_istore_5 hg dX8_out_67 rfl rfl rfl ?_
          refine x_ic hg dX8_out_69 ic_0 rfl ?_
          refine x_istore_6 hg dX8_out_70 rfl rfl rfl ?_
          obtain ⟨N1, hw⟩ := hw
          refine xM_out_72 hg  (fun v1 s7 hw => ?_) _ _ _ _ hw
          · refine x_iload_5 hg dX8_out_182 rfl ?_
            refine x_if_ge hg dX8_out_184 (tg := 196) (by decide) rfl hw (fun hw => ?_) (fun hw => ?_)
            · refine x_iload_3 hg dX8_out_196 rfl ?_
              refine x_if_ne hg dX8_out_197 (tg := 208) (by decide) rfl hw (fun hw => ?_) (fun hw => ?_)
              · refine x_iload_5 hg dX8_out_208 rfl ?_
                exact x_ret hg dX8_out_210 hw
              · refine x_iload_5 hg dX8_out_200 rfl ?_
                refine x_callSI hg (xM_bits (gL g)  hw) sm_X8_bits mi_X8_bits ml_X8_220 rfl rfl (As := [.int v1]) rfl rfl rfl dX8_out_202 rfl (fun r6 s8 hw => ?_)
                refine x_goto hg dX8_out_205 (pc' := 210) (by decide) ?_
                exact x_ret hg dX8_out_210 hw
            · refine x_aload_0 hg dX8_out_187 rfl ?_
              refine x_ldc hg kc_X8_203 dX8_out_188 rfl ?_
              refine x_callVI hg (xM_error (gL g)  hw) kM_0 (by decide) rfl im_X8_error se_X8_error mi_X8_error ml_X8_78 rfl rfl (As := [.int (-1000000002)]) rfl rfl rfl dX8_out_190 rfl (fun r6 s8 hw => ?_)
              refine x_goto hg dX8_out_193 (pc' := 210) (by decide) ?_
              exact x_ret hg dX8_out_210 hw
        · refine x_aload_0 hg dX8_out_43 rfl ?_
          refine x_ldc hg kc_X8_99 dX8_out_44 rfl ?_
          refine x_callVI hg (xM_error (gL g)  hw) kM_0 (by decide) rfl im_X8_error se_X8_error mi_X8_error ml_X8_78 rfl rfl (As := [.int (-1000000003)]) rfl rfl rfl dX8_out_46 rfl (fun r5 s5 hw => ?_)
          exact x_ret hg dX8_out_49 hw
      · refine x_aload_0 hg dX8_out_28 rfl ?_
        refine x_ldc hg kc_X8_77 dX8_out_29 rfl ?_
        refine x_callVI hg (xM_error (gL g)  hw) kM_0 (by decide) rfl im_X8_error se_X8_error mi_X8_error ml_X8_78 rfl rfl (As := [.int (-1000000001)]) rfl rfl rfl dX8_out_31 rfl (fun r4 s4 hw => ?_)
        exact x_ret hg dX8_out_34 hw
def wM_odds_35 (f1 : Int32) (f2 : Int32) (K103 : Int32 → Int32 → Sg → Prop) : Nat → Int32 → Int32 → Int32 → Sg → Prop
  | 0, _, _, _, _ => False
  | n + 1, a3, a4, a5, s0 => (((s0 1 2) ≤ a5 → K103 a3 a4 s0) ∧ (¬ (s0 1 2) ≤ a5 → (wM_whereIs a5 s0 (fun (r1 : Int32) (s1 : Sg) => ((r1 = (-2) → wM_odds_35 f1 f2 K103 n a3 a4 ((a5 + 1)) s1) ∧ (¬ r1 = (-2) → (wM_usedOf a5 s1 (fun (r2 : Int32) (s2 : Sg) => (wM_bestWay a5 s2 (fun (r3 : Int32) (s3 : Sg) => (wM_timeOf a5 r3 s3 (fun (r4 : Int32) (s4 : Sg) => ((f1 < r4 → wM_odds_35 f1 f2 K103 n ((a3 + 0)) ((a4 + r2)) ((a5 + 1)) s4) ∧ (¬ f1 < r4 → wM_odds_35 f1 f2 K103 n ((a3 + r2)) ((a4 + r2)) ((a5 + 1)) s4))))))))))))))
def wM_odds_122 (f2 : Int32) (f3 : Int32) (f4 : Int32) (K145 : Int32 → Sg → Prop) : Nat → Int32 → Int32 → Sg → Prop
  | 0, _, _, _ => False
  | n + 1, a5, a6, s0 => ((a5 = 0 → K145 a6 s0) ∧ (¬ a5 = 0 → (¬ a5 = 0 ∧ wM_odds_122 f2 f3 f4 K145 n ((a6 - a6 / a5 * a5)) a5 s0)))
def wM_odds (a1 : Int32) (a2 : Int32) (s0 : Sg) (P : Int32 → Sg → Prop) : Prop := (wM_in a1 0 999 s0 (fun (r1 : Int32) (s1 : Sg) => ((r1 = 0 → (wM_error ((-1000000001)) s1 (fun (r2 : Int32) (s2 : Sg) => P r2 s2))) ∧ (¬ r1 = 0 → (wM_in a2 0 1 s1 (fun (r2 : Int32) (s2 : Sg) => ((¬ r2 = 0 → (∃ N1 : Nat, wM_odds_35 a1 a2 (fun (v1 : Int32) (v2 : Int32) (s3 : Sg) => ((¬ v2 = 0 → (∃ N2 : Nat, wM_odds_122 a2 v1 v2 (fun (v3 : Int32) (s4 : Sg) => ((¬ a2 = 0 → (¬ v3 = 0 ∧ P ((v2 / v3)) s4)) ∧ (a2 = 0 → (¬ v3 = 0 ∧ P ((v1 / v3)) s4)))) N2 v1 v2 s3)) ∧ (v2 = 0 → (wM_error ((-1000000003)) s3 (fun (r3 : Int32) (s4 : Sg) => P r3 s4))))) N1 0 0 0 s2)) ∧ (r2 = 0 → (wM_error ((-1000000001)) s2 (fun (r3 : Int32) (s3 : Sg) => P r3 s3))))))))))
set_option maxRecDepth 100000 in
set_option maxHeartbeats 4000000 in
theorem xM_odds_35 {w : Wc} {g : Gx} {Q : State → Prop} {f1 : Int32} {f2 : Int32} {K103 : Int32 → Int32 → Sg → Prop} (hg : OK shM w g 7 cX8_odds "BagBottomModel" 8 (some .int)) (hK103 : ∀ (a3 a4 : Int32) (s0 : Sg), K103 a3 a4 s0 → X shM w g Q 103 [some (.ref (ad w 0)), none, some (.int f2), some (.int a3), some (.int a4), none, none, none] [] s0) : ∀ (n : Nat) (a3 a4 a5 : Int32) (s0 : Sg), wM_odds_35 f1 f2 K103 n a3 a4 a5 s0 → X shM w g Q 35 [some (.ref (ad w 0)), some (.int f1), some (.int f2), some (.int a3), some (.int a4), some (.int a5), none, none] [] s0 := by
  intro n
  induction n with
  | zero =>
    intro a3 a4 a5 s0 hw
    exact hw.elim
  | succ n ih =>
    intro a3 a4 a5 s0 hw
    rw [wM_odds_35] at hw
    refine x_iload_5 hg dX8_odds_35 rfl ?_
    refine x_aload_0 hg dX8_odds_37 rfl ?_
    refine get_X8_0 hg kM_0 fl_X8_9 dX8_odds_38 rfl (k2 := 1) rfl ?_
    refine x_ic hg dX8_odds_41 ic_2 rfl ?_
    refine x_ialdc hg kM_1 rfl vi_2_379 ix_2 dX8_odds_42 rfl ?_
    refine x_icmp_ge hg dX8_odds_43 (tg := 103) (by decide) rfl hw (fun hw => ?_) (fun hw => ?_)
    · refine x_drop_1 ?_
      refine x_drop_5 ?_
      exact hK103 _ _ _ hw
    · refine x_aload_0 hg dX8_odds_46 rfl ?_
      refine x_iload_5 hg dX8_odds_47 rfl ?_
      refine x_callVI hg (xM_whereIs (gL g)  hw) kM_0 (by decide) rfl im_X8_whereIs se_X8_whereIs mi_X8_whereIs ml_X8_89 rfl rfl (As := [.int a5]) rfl rfl rfl dX8_odds_49 rfl (fun r1 s1 hw => ?_)
      refine x_bi hg dX8_odds_52 bp_m2 rfl ?_
      refine x_icmp_eq hg dX8_odds_54 (tg := 97) (by decide) rfl hw (fun hw => ?_) (fun hw => ?_)
      · refine x_iinc_5 hg dX8_odds_97 ic_1 rfl rfl rfl ?_
        refine x_goto hg dX8_odds_100 (pc' := 35) (by decide) ?_
        exact ih _ _ _ _ hw
      · refine x_aload_0 hg dX8_odds_57 rfl ?_
        refine x_iload_5 hg dX8_odds_58 rfl ?_
        refine x_callVI hg (xM_usedOf (gL g)  hw) kM_0 (by decide) rfl im_X8_usedOf se_X8_usedOf mi_X8_usedOf ml_X8_204 rfl rfl (As := [.int a5]) rfl rfl rfl dX8_odds_60 rfl (fun r2 s2 hw => ?_)
        refine x_istore_6 hg dX8_odds_63 rfl rfl rfl ?_
        refine x_iload_4 hg dX8_odds_65 rfl ?_
        refine x_iload_6 hg dX8_odds_67 rfl ?_
        refine x_iadd hg dX8_odds_69 rfl ?_
        refine x_istore_4 hg dX8_odds_70 rfl rfl rfl ?_
        refine x_iload_3 hg dX8_odds_72 rfl ?_
        refine x_aload_0 hg dX8_odds_73 rfl ?_
        refine x_iload_5 hg dX8_odds_74 rfl ?_
        refine x_aload_0 hg dX8_odds_76 rfl ?_
        refine x_iload_5 hg dX8_odds_77 rfl ?_
        refine x_callVI hg (xM_bestWay (gL g)  hw) kM_0 (by decide) rfl im_X8_bestWay se_X8_bestWay mi_X8_bestWay ml_X8_177 rfl rfl (As := [.int a5]) rfl rfl rfl dX8_odds_79 rfl (fun r3 s3 hw => ?_)
        refine x_callVI hg (xM_timeOf (gL g)  hw) kM_0 (by decide) rfl im_X8_timeOf se_X8_timeOf mi_X8_timeOf ml_X8_174 rfl rfl (As := [.int a5, .int r3]) rfl rfl rfl dX8_odds_82 rfl (fun r4 s4 hw => ?_)
        refine x_iload_1 hg dX8_odds_85 rfl ?_
        refine x_icmp_gt hg dX8_odds_86 (tg := 94) (by decide) rfl hw (fun hw => ?_) (fun hw => ?_)
        · refine x_ic hg dX8_odds_94 ic_0 rfl ?_
          refine x_iadd hg dX8_odds_95 rfl ?_
          refine x_istore_3 hg dX8_odds_96 rfl rfl rfl ?_
          refine x_iinc_5 hg dX8_odds_97 ic_1 rfl rfl rfl ?_
          refine x_goto hg dX8_odds_100 (pc' := 35) (by decide) ?_
          refine x_drop_6 ?_
          exact ih _ _ _ _ hw
        · refine x_iload_6 hg dX8_odds_89 rfl ?_
          refine x_goto hg dX8_odds_91 (pc' := 95) (by decide) ?_
          refine x_iadd hg dX8_odds_95 rfl ?_
          refine x_istore_3 hg dX8_odds_96 rfl rfl rfl ?_
          refine x_iinc_5 hg dX8_odds_97 ic_1 rfl rfl rfl ?_
          refine x_goto hg dX8_odds_100 (pc' := 35) (by decide) ?_
          refine x_drop_6 ?_
          exact ih _ _ _ _ hw
set_option maxRecDepth 100000 in
set_option maxHeartbeats 4000000 in
theorem xM_odds_122 {w : Wc} {g : Gx} {Q : State → Prop} {f2 : Int32} {f3 : Int32} {f4 : Int32} {K145 : Int32 → Sg → Prop} (hg : OK shM w g 7 cX8_odds "BagBottomModel" 8 (some .int)) (hK145 : ∀ (a6 : Int32) (s0 : Sg), K145 a6 s0 → X shM w g Q 145 [none, none, some (.int f2), some (.int f3), some (.int f4), none, some (.int a6), none] [] s0) : ∀ (n : Nat) (a5 a6 : Int32) (s0 : Sg), wM_odds_122 f2 f3 f4 K145 n a5 a6 s0 → X shM w g Q 122 [none, none, some (.int f2), some (.int f3), some (.int f4), some (.int a5), some (.int a6), none] [] s0 := by
  intro n
  induction n with
  | zero =>
    intro a5 a6 s0 hw
    exact hw.elim
  | succ n ih =>
    intro a5 a6 s0 hw
    rw [wM_odds_122] at hw
    refine x_iload_5 hg dX8_odds_122 rfl ?_
    refine x_if_eq hg dX8_odds_124 (tg := 145) (by decide) rfl hw (fun hw => ?_) (fun hw => ?_)
    · refine x_drop_5 ?_
      exact hK145 _ _ hw
    · refine x_iload_6 hg dX8_odds_127 rfl ?_
      refine x_iload_5 hg dX8_odds_129 rfl ?_
      obtain ⟨hne, hw⟩ := hw
      refine x_irem hg dX8_odds_131 hne rfl ?_
      refine x_istore_7 hg dX8_odds_132 rfl rfl rfl ?_
      refine x_iload_5 hg dX8_odds_134 rfl ?_
      refine x_istore_6 hg dX8_odds_136 rfl rfl rfl ?_
      refine x_iload_7 hg dX8_odds_138 rfl ?_
      refine x_istore_5 hg dX8_odds_140 rfl rfl rfl ?_
      refine x_goto hg dX8_odds_142 (pc' := 122) (by decide) ?_
      refine x_drop_7 ?_
      exact ih _ _ _ hw
set_option maxRecDepth 100000 in
set_option maxHeartbeats 4000000 in
theorem xM_odds {w : Wc} (l : Launch) {a1 : Int32} {a2 : Int32} {s0 : Sg} {P : Int32 → Sg → Prop} (hw : wM_odds a1 a2 s0 P) : CI shM w l 7 (.code yX8_odds cX8_odds 8 (some .int)) yX8_odds [.ref (ad w 0), .int a1, .int a2] s0 P := by
  refine ci_of_i (own := "BagBottomModel") (ls0 := [some (.ref (ad w 0)), some (.int a1), some (.int a2), none, none, none, none, none]) rfl pn_X8 rfl rfl (fun g el hg => ?_)
  unfold wM_odds at hw
  refine x_iload_1 hg dX8_odds_0 rfl ?_
  refine x_ic hg dX8_odds_1 ic_0 rfl ?_
  refine x_si hg dX8_odds_2 sp_999 rfl ?_
  refine x_callSI hg (xM_in (gL g)  hw) sm_X8_in mi_X8_in ml_X8_57 rfl rfl (As := [.int a1, .int 0, .int 999]) rfl rfl rfl dX8_odds_5 rfl (fun r1 s1 hw => ?_)
  refine x_if_eq hg dX8_odds_8 (tg := 20) (by decide) rfl hw (fun hw => ?_) (fun hw => ?_)
  · refine x_aload_0 hg dX8_odds_20 rfl ?_
    refine x_ldc hg kc_X8_77 dX8_odds_21 rfl ?_
    refine x_callVI hg (xM_error (gL g)  hw) kM_0 (by decide) rfl im_X8_error se_X8_error mi_X8_error ml_X8_78 rfl rfl (As := [.int (-1000000001)]) rfl rfl rfl dX8_odds_23 rfl (fun r2 s2 hw => ?_)
    exact x_ret hg dX8_odds_26 hw
  · refine x_iload_2 hg dX8_odds_11 rfl ?_
    refine x_ic hg dX8_odds_12 ic_0 rfl ?_
    refine x_ic hg dX8_odds_13 ic_1 rfl ?_
    refine x_callSI hg (xM_in (gL g)  hw) sm_X8_in mi_X8_in ml_X8_57 rfl rfl (As := [.int a2, .int 0, .int 1]) rfl rfl rfl dX8_odds_14 rfl (fun r2 s2 hw => ?_)
    refine x_if_ne hg dX8_odds_17 (tg := 27) (by decide) rfl hw (fun hw => ?_) (fun hw => ?_)
    · refine x_ic hg dX8_odds_27 ic_0 rfl ?_
      refine x_istore_3 hg dX8_odds_28 rfl rfl rfl ?_
      refine x_ic hg dX8_odds_29 ic_0 rfl ?_
      refine x_istore_4 hg dX8_odds_30 rfl rfl rfl ?_
      refine x_ic hg dX8_odds_32 ic_0 rfl ?_
      refine x_istore_5 hg dX8_odds_33 rfl rfl rfl ?_
      obtain ⟨N1, hw⟩ := hw
      refine xM_odds_35 hg  (fun v1 v2 s3 hw => ?_) _ _ _ _ _ hw
      · refine x_iload_4 hg dX8_odds_103 rfl ?_
        refine x_if_ne hg dX8_odds_105 (tg := 115) (by decide) rfl hw (fun hw => ?_) (fun hw => ?_)
        · refine x_iload_3 hg dX8_odds_115 rfl ?_
          refine x_istore_5 hg dX8_odds_116 rfl rfl rfl ?_
          refine x_iload_4 hg dX8_odds_118 rfl ?_
          refine x_istore_6 hg dX8_odds_120 rfl rfl rfl ?_
          refine x_drop_0 ?_
          obtain ⟨N2, hw⟩ := hw
          refine xM_odds_122 hg  (fun v3 s4 hw => ?_) _ _ _ _ hw
          · refine x_iload_2 hg dX8_odds_145 rfl ?_
            refine x_if_ne hg dX8_odds_146 (tg := 156) (by decide) rfl hw (fun hw => ?_) (fun hw => ?_)
            · refine x_iload_4 hg dX8_odds_156 rfl ?_
              refine x_iload_6 hg dX8_odds_158 rfl ?_
              obtain ⟨hne, hw⟩ := hw
              refine x_idiv hg dX8_odds_160 hne rfl ?_
              exact x_ret hg dX8_odds_161 hw
            · refine x_iload_3 hg dX8_odds_149 rfl ?_
              refine x_iload_6 hg dX8_odds_150 rfl ?_
              obtain ⟨hne, hw⟩ := hw
              refine x_idiv hg dX8_odds_152 hne rfl ?_
              refine x_goto hg dX8_odds_153 (pc' := 161) (by decide) ?_
              exact x_ret hg dX8_odds_161 hw
        · refine x_aload_0 hg dX8_odds_108 rfl ?_
          refine x_ldc hg kc_X8_99 dX8_odds_109 rfl ?_
          refine x_callVI hg (xM_error (gL g)  hw) kM_0 (by decide) rfl im_X8_error se_X8_error mi_X8_error ml_X8_78 rfl rfl (As := [.int (-1000000003)]) rfl rfl rfl dX8_odds_111 rfl (fun r3 s4 hw => ?_)
          exact x_ret hg dX8_odds_114 hw
    · refine x_aload_0 hg dX8_odds_20 rfl ?_
      refine x_ldc hg kc_X8_77 dX8_odds_21 rfl ?_
      refine x_callVI hg (xM_error (gL g)  hw) kM_0 (by decide) rfl im_X8_error se_X8_error mi_X8_error ml_X8_78 rfl rfl (As := [.int (-1000000001)]) rfl rfl rfl dX8_odds_23 rfl (fun r3 s3 hw => ?_)
      exact x_ret hg dX8_odds_26 hw
def wM_rightOf_2 (f1 : Int32) (K51 : Int32 → Sg → Prop) : Nat → Int32 → Sg → Prop
  | 0, _, _ => False
  | n + 1, a2, s0 => (vp_in f1 4 ∧ (((s0 6 (ix f1)) ≤ a2 → K51 a2 s0) ∧ (¬ (s0 6 (ix f1)) ≤ a2 → (((s0 1 3) ≤ a2 → K51 a2 s0) ∧ (¬ (s0 1 3) ≤ a2 → (vp_in (((24 * f1) + a2)) 96 ∧ (vp_in ((8 + a2)) 379 ∧ ((¬ (s0 7 (ix (((24 * f1) + a2)))) = (s0 1 (ix ((8 + a2)))) → K51 a2 s0) ∧ ((s0 7 (ix (((24 * f1) + a2)))) = (s0 1 (ix ((8 + a2)))) → wM_rightOf_2 f1 K51 n ((a2 + 1)) s0)))))))))
def wM_rightOf (a1 : Int32) (s0 : Sg) (P : Int32 → Sg → Prop) : Prop := (∃ N1 : Nat, wM_rightOf_2 a1 (fun (v1 : Int32) (s1 : Sg) => P v1 s1) N1 0 s0)
set_option maxRecDepth 100000 in
set_option maxHeartbeats 4000000 in
theorem xM_rightOf_2 {w : Wc} {g : Gx} {Q : State → Prop} {f1 : Int32} {K51 : Int32 → Sg → Prop} (hg : OK shM w g 1 cX8_rightOf "BagBottomModel" 3 (some .int)) (hK51 : ∀ (a2 : Int32) (s0 : Sg), K51 a2 s0 → X shM w g Q 51 [none, none, some (.int a2)] [] s0) : ∀ (n : Nat) (a2 : Int32) (s0 : Sg), wM_rightOf_2 f1 K51 n a2 s0 → X shM w g Q 2 [some (.ref (ad w 0)), some (.int f1), some (.int a2)] [] s0 := by
  intro n
  induction n with
  | zero =>
    intro a2 s0 hw
    exact hw.elim
  | succ n ih =>
    intro a2 s0 hw
    rw [wM_rightOf_2] at hw
    refine x_iload_2 hg dX8_rightOf_2 rfl ?_
    refine x_aload_0 hg dX8_rightOf_3 rfl ?_
    refine get_X8_6 hg kM_0 fl_X8_25 dX8_rightOf_4 rfl (k2 := 6) rfl ?_
    refine x_iload_1 hg dX8_rightOf_7 rfl ?_
    refine x_iald hg kM_6 rfl dX8_rightOf_8 rfl hw (fun hw => ?_)
    refine x_icmp_ge hg dX8_rightOf_9 (tg := 51) (by decide) rfl hw (fun hw => ?_) (fun hw => ?_)
    · refine x_drop_0 ?_
      refine x_drop_1 ?_
      exact hK51 _ _ hw
    · refine x_iload_2 hg dX8_rightOf_12 rfl ?_
      refine x_aload_0 hg dX8_rightOf_13 rfl ?_
      refine get_X8_0 hg kM_0 fl_X8_9 dX8_rightOf_14 rfl (k2 := 1) rfl ?_
      refine x_ic hg dX8_rightOf_17 ic_3 rfl ?_
      refine x_ialdc hg kM_1 rfl vi_3_379 ix_3 dX8_rightOf_18 rfl ?_
      refine x_icmp_ge hg dX8_rightOf_19 (tg := 51) (by decide) rfl hw (fun hw => ?_) (fun hw => ?_)
      · refine x_drop_0 ?_
        refine x_drop_1 ?_
        exact hK51 _ _ hw
      · refine x_aload_0 hg dX8_rightOf_22 rfl ?_
        refine get_X8_7 hg kM_0 fl_X8_28 dX8_rightOf_23 rfl (k2 := 7) rfl ?_
        refine x_bi hg dX8_rightOf_26 bp_24 rfl ?_
        refine x_iload_1 hg dX8_rightOf_28 rfl ?_
        refine x_imul hg dX8_rightOf_29 rfl ?_
        refine x_iload_2 hg dX8_rightOf_30 rfl ?_
        refine x_iadd hg dX8_rightOf_31 rfl ?_
        refine x_iald hg kM_7 rfl dX8_rightOf_32 rfl hw (fun hw => ?_)
        refine x_aload_0 hg dX8_rightOf_33 rfl ?_
        refine get_X8_0 hg kM_0 fl_X8_9 dX8_rightOf_34 rfl (k2 := 1) rfl ?_
        refine x_bi hg dX8_rightOf_37 bp_8 rfl ?_
        refine x_iload_2 hg dX8_rightOf_39 rfl ?_
        refine x_iadd hg dX8_rightOf_40 rfl ?_
        refine x_iald hg kM_1 rfl dX8_rightOf_41 rfl hw (fun hw => ?_)
        refine x_icmp_ne hg dX8_rightOf_42 (tg := 51) (by decide) rfl hw (fun hw => ?_) (fun hw => ?_)
        · refine x_drop_0 ?_
          refine x_drop_1 ?_
          exact hK51 _ _ hw
        · refine x_iinc_2 hg dX8_rightOf_45 ic_1 rfl rfl rfl ?_
          refine x_goto hg dX8_rightOf_48 (pc' := 2) (by decide) ?_
          exact ih _ _ hw
set_option maxRecDepth 100000 in
set_option maxHeartbeats 4000000 in
theorem xM_rightOf {w : Wc} (l : Launch) {a1 : Int32} {s0 : Sg} {P : Int32 → Sg → Prop} (hw : wM_rightOf a1 s0 P) : CI shM w l 1 (.code yX8_rightOf cX8_rightOf 3 (some .int)) yX8_rightOf [.ref (ad w 0), .int a1] s0 P := by
  refine ci_of_i (own := "BagBottomModel") (ls0 := [some (.ref (ad w 0)), some (.int a1), none]) rfl pn_X8 rfl rfl (fun g el hg => ?_)
  unfold wM_rightOf at hw
  refine x_ic hg dX8_rightOf_0 ic_0 rfl ?_
  refine x_istore_2 hg dX8_rightOf_1 rfl rfl rfl ?_
  obtain ⟨N1, hw⟩ := hw
  refine xM_rightOf_2 hg  (fun v1 s1 hw => ?_) _ _ _ hw
  · refine x_iload_2 hg dX8_rightOf_51 rfl ?_
    exact x_ret hg dX8_rightOf_52 hw
def wM_isSheet (a0 : Int32) (s0 : Sg) (P : Int32 → Sg → Prop) : Prop := (wM_in a0 0 3 s0 (fun (r1 : Int32) (s1 : Sg) => ((r1 = 0 ∨ r1 = 1) ∧ P r1 s1)))
set_option maxRecDepth 100000 in
set_option maxHeartbeats 4000000 in
theorem xM_isSheet {w : Wc} (l : Launch) {a0 : Int32} {s0 : Sg} {P : Int32 → Sg → Prop} (hw : wM_isSheet a0 s0 P) : CI shM w l 2 (.code yX8_isSheet cX8_isSheet 1 (some .boolean)) yX8_isSheet [.int a0] s0 P := by
  refine ci_of_z (own := "BagBottomModel") (ls0 := [some (.int a0)]) rfl pn_X8 rfl rfl (fun g el hg => ?_)
  unfold wM_isSheet at hw
  refine x_iload_0 hg dX8_isSheet_0 rfl ?_
  refine x_ic hg dX8_isSheet_1 ic_0 rfl ?_
  refine x_ic hg dX8_isSheet_2 ic_3 rfl ?_
  refine x_callSI hg (xM_in (gL g)  hw) sm_X8_in mi_X8_in ml_X8_57 rfl rfl (As := [.int a0, .int 0, .int 3]) rfl rfl rfl dX8_isSheet_3 rfl (fun r1 s1 hw => ?_)
  exact x_zret hg dX8_isSheet_6 hw.1 hw.2
def wM_notThere (a1 : Int32) (s0 : Sg) (P : Int32 → Sg → Prop) : Prop := (wM_isSheet a1 s0 (fun (r1 : Int32) (s1 : Sg) => ((¬ r1 = 0 → (vp_in a1 4 ∧ ((¬ (s1 5 (ix a1)) = 0 → P 0 s1) ∧ ((s1 5 (ix a1)) = 0 → P ((-1000000002)) s1)))) ∧ (r1 = 0 → P ((-1000000001)) s1))))
set_option maxRecDepth 100000 in
set_option maxHeartbeats 4000000 in
theorem xM_notThere {w : Wc} (l : Launch) {a1 : Int32} {s0 : Sg} {P : Int32 → Sg → Prop} (hw : wM_notThere a1 s0 P) : CI shM w l 3 (.code yX8_notThere cX8_notThere 2 (some .int)) yX8_notThere [.ref (ad w 0), .int a1] s0 P := by
  refine ci_of_i (own := "BagBottomModel") (ls0 := [some (.ref (ad w 0)), some (.int a1)]) rfl pn_X8 rfl rfl (fun g el hg => ?_)
  unfold wM_notThere at hw
  refine x_iload_1 hg dX8_notThere_0 rfl ?_
  refine x_callSI hg (xM_isSheet (gL g)  hw) sm_X8_isSheet mi_X8_isSheet ml_X8_269 rfl rfl (As := [.int a1]) rfl rfl rfl dX8_notThere_1 rfl (fun r1 s1 hw => ?_)
  refine x_if_ne hg dX8_notThere_4 (tg := 12) (by decide) rfl hw (fun hw => ?_) (fun hw => ?_)
  · refine x_aload_0 hg dX8_notThere_12 rfl ?_
    refine get_X8_5 hg kM_0 fl_X8_22 dX8_notThere_13 rfl (k2 := 5) rfl ?_
    refine x_iload_1 hg dX8_notThere_16 rfl ?_
    refine x_iald hg kM_5 rfl dX8_notThere_17 rfl hw (fun hw => ?_)
    refine x_if_ne hg dX8_notThere_18 (tg := 26) (by decide) rfl hw (fun hw => ?_) (fun hw => ?_)
    · refine x_ic hg dX8_notThere_26 ic_0 rfl ?_
      exact x_ret hg dX8_notThere_27 hw
    · refine x_ldc hg kc_X8_203 dX8_notThere_21 rfl ?_
      refine x_goto hg dX8_notThere_23 (pc' := 27) (by decide) ?_
      exact x_ret hg dX8_notThere_27 hw
  · refine x_ldc hg kc_X8_77 dX8_notThere_7 rfl ?_
    refine x_goto hg dX8_notThere_9 (pc' := 27) (by decide) ?_
    exact x_ret hg dX8_notThere_27 hw
def wM_fits_44 (f1 : Int32) (K75 : Int32 → Sg → Prop) : Nat → Int32 → Sg → Prop
  | 0, _, _ => False
  | n + 1, a3, s0 => ((99 < a3 → K75 a3 s0) ∧ (¬ 99 < a3 → (wM_rightOf f1 s0 (fun (r1 : Int32) (s1 : Sg) => (vp_in f1 4 ∧ (((s1 6 (ix f1)) ≤ r1 → K75 a3 s1) ∧ (¬ (s1 6 (ix f1)) ≤ r1 → (wM_steps 1 s1 (fun (s2 : Sg) => wM_fits_44 f1 K75 n ((a3 + 1)) s2)))))))))
def wM_fits (a1 : Int32) (s0 : Sg) (P : Int32 → Sg → Prop) : Prop := (wM_notThere a1 s0 (fun (r1 : Int32) (s1 : Sg) => ((r1 = 0 → (vp_in a1 4 ∧ (((s1 6 (ix a1)) = (s1 1 3) → (wM_thinks  s1 (fun (s2 : Sg) => (∃ N1 : Nat, wM_fits_44 a1 (fun (v1 : Int32) (s3 : Sg) => (wM_putsBack  s3 (fun (s4 : Sg) => ((v1 ≤ 99 → P v1 s4) ∧ (¬ v1 ≤ 99 → (wM_error ((-1000000002)) s4 (fun (r2 : Int32) (s5 : Sg) => P r2 s5))))))) N1 0 s2)))) ∧ (¬ (s1 6 (ix a1)) = (s1 1 3) → (wM_error ((-1000000002)) s1 (fun (r2 : Int32) (s2 : Sg) => P r2 s2)))))) ∧ (¬ r1 = 0 → (wM_error r1 s1 (fun (r2 : Int32) (s2 : Sg) => P r2 s2))))))
set_option maxRecDepth 100000 in
set_option maxHeartbeats 4000000 in
theorem xM_fits_44 {w : Wc} {g : Gx} {Q : State → Prop} {f1 : Int32} {K75 : Int32 → Sg → Prop} (hg : OK shM w g 5 cX8_fits "BagBottomModel" 4 (some .int)) (hK75 : ∀ (a3 : Int32) (s0 : Sg), K75 a3 s0 → X shM w g Q 75 [some (.ref (ad w 0)), none, none, some (.int a3)] [] s0) : ∀ (n : Nat) (a3 : Int32) (s0 : Sg), wM_fits_44 f1 K75 n a3 s0 → X shM w g Q 44 [some (.ref (ad w 0)), some (.int f1), none, some (.int a3)] [] s0 := by
  intro n
  induction n with
  | zero =>
    intro a3 s0 hw
    exact hw.elim
  | succ n ih =>
    intro a3 s0 hw
    rw [wM_fits_44] at hw
    refine x_iload_3 hg dX8_fits_44 rfl ?_
    refine x_bi hg dX8_fits_45 bp_99 rfl ?_
    refine x_icmp_gt hg dX8_fits_47 (tg := 75) (by decide) rfl hw (fun hw => ?_) (fun hw => ?_)
    · refine x_drop_1 ?_
      exact hK75 _ _ hw
    · refine x_aload_0 hg dX8_fits_50 rfl ?_
      refine x_iload_1 hg dX8_fits_51 rfl ?_
      refine x_callVI hg (xM_rightOf (gL g)  hw) kM_0 (by decide) rfl im_X8_rightOf se_X8_rightOf mi_X8_rightOf ml_X8_226 rfl rfl (As := [.int f1]) rfl rfl rfl dX8_fits_52 rfl (fun r1 s1 hw => ?_)
      refine x_aload_0 hg dX8_fits_55 rfl ?_
      refine get_X8_6 hg kM_0 fl_X8_25 dX8_fits_56 rfl (k2 := 6) rfl ?_
      refine x_iload_1 hg dX8_fits_59 rfl ?_
      refine x_iald hg kM_6 rfl dX8_fits_60 rfl hw (fun hw => ?_)
      refine x_icmp_ge hg dX8_fits_61 (tg := 75) (by decide) rfl hw (fun hw => ?_) (fun hw => ?_)
      · refine x_drop_1 ?_
        exact hK75 _ _ hw
      · refine x_aload_0 hg dX8_fits_64 rfl ?_
        refine x_ic hg dX8_fits_65 ic_1 rfl ?_
        refine x_callVV hg (xM_steps (gL g)  hw) kM_0 (by decide) rfl im_X8_steps se_X8_steps mi_X8_steps ml_X8_187 rfl rfl (As := [.int 1]) rfl rfl rfl dX8_fits_66 rfl (fun s2 hw => ?_)
        refine x_iinc_3 hg dX8_fits_69 ic_1 rfl rfl rfl ?_
        refine x_goto hg dX8_fits_72 (pc' := 44) (by decide) ?_
        exact ih _ _ hw
set_option maxRecDepth 100000 in
set_option maxHeartbeats 4000000 in
theorem xM_fits {w : Wc} (l : Launch) {a1 : Int32} {s0 : Sg} {P : Int32 → Sg → Prop} (hw : wM_fits a1 s0 P) : CI shM w l 5 (.code yX8_fits cX8_fits 4 (some .int)) yX8_fits [.ref (ad w 0), .int a1] s0 P := by
  refine ci_of_i (own := "BagBottomModel") (ls0 := [some (.ref (ad w 0)), some (.int a1), none, none]) rfl pn_X8 rfl rfl (fun g el hg => ?_)
  unfold wM_fits at hw
  refine x_aload_0 hg dX8_fits_0 rfl ?_
  refine x_iload_1 hg dX8_fits_1 rfl ?_
  refine x_callVI hg (xM_notThere (gL g)  hw) kM_0 (by decide) rfl im_X8_notThere se_X8_notThere mi_X8_notThere ml_X8_223 rfl rfl (As := [.int a1]) rfl rfl rfl dX8_fits_2 rfl (fun r1 s1 hw => ?_)
  refine x_istore_2 hg dX8_fits_5 rfl rfl rfl ?_
  refine x_iload_2 hg dX8_fits_6 rfl ?_
  refine x_if_eq hg dX8_fits_7 (tg := 16) (by decide) rfl hw (fun hw => ?_) (fun hw => ?_)
  · refine x_aload_0 hg dX8_fits_16 rfl ?_
    refine get_X8_6 hg kM_0 fl_X8_25 dX8_fits_17 rfl (k2 := 6) rfl ?_
    refine x_iload_1 hg dX8_fits_20 rfl ?_
    refine x_iald hg kM_6 rfl dX8_fits_21 rfl hw (fun hw => ?_)
    refine x_aload_0 hg dX8_fits_22 rfl ?_
    refine get_X8_0 hg kM_0 fl_X8_9 dX8_fits_23 rfl (k2 := 1) rfl ?_
    refine x_ic hg dX8_fits_26 ic_3 rfl ?_
    refine x_ialdc hg kM_1 rfl vi_3_379 ix_3 dX8_fits_27 rfl ?_
    refine x_icmp_eq hg dX8_fits_28 (tg := 38) (by decide) rfl hw (fun hw => ?_) (fun hw => ?_)
    · refine x_aload_0 hg dX8_fits_38 rfl ?_
      refine x_callVV hg (xM_thinks (gL g)  hw) kM_0 (by decide) rfl im_X8_thinks se_X8_thinks mi_X8_thinks ml_X8_197 rfl rfl (As := []) rfl rfl rfl dX8_fits_39 rfl (fun s2 hw => ?_)
      refine x_ic hg dX8_fits_42 ic_0 rfl ?_
      refine x_istore_3 hg dX8_fits_43 rfl rfl rfl ?_
      refine x_drop_2 ?_
      obtain ⟨N1, hw⟩ := hw
      refine xM_fits_44 hg  (fun v1 s3 hw => ?_) _ _ _ hw
      · refine x_aload_0 hg dX8_fits_75 rfl ?_
        refine x_callVV hg (xM_putsBack (gL g)  hw) kM_0 (by decide) rfl im_X8_putsBack se_X8_putsBack mi_X8_putsBack ml_X8_200 rfl rfl (As := []) rfl rfl rfl dX8_fits_76 rfl (fun s4 hw => ?_)
        refine x_iload_3 hg dX8_fits_79 rfl ?_
        refine x_bi hg dX8_fits_80 bp_99 rfl ?_
        refine x_icmp_le hg dX8_fits_82 (tg := 94) (by decide) rfl hw (fun hw => ?_) (fun hw => ?_)
        · refine x_iload_3 hg dX8_fits_94 rfl ?_
          exact x_ret hg dX8_fits_95 hw
        · refine x_aload_0 hg dX8_fits_85 rfl ?_
          refine x_ldc hg kc_X8_203 dX8_fits_86 rfl ?_
          refine x_callVI hg (xM_error (gL g)  hw) kM_0 (by decide) rfl im_X8_error se_X8_error mi_X8_error ml_X8_78 rfl rfl (As := [.int (-1000000002)]) rfl rfl rfl dX8_fits_88 rfl (fun r2 s5 hw => ?_)
          refine x_goto hg dX8_fits_91 (pc' := 95) (by decide) ?_
          exact x_ret hg dX8_fits_95 hw
    · refine x_aload_0 hg dX8_fits_31 rfl ?_
      refine x_ldc hg kc_X8_203 dX8_fits_32 rfl ?_
      refine x_callVI hg (xM_error (gL g)  hw) kM_0 (by decide) rfl im_X8_error se_X8_error mi_X8_error ml_X8_78 rfl rfl (As := [.int (-1000000002)]) rfl rfl rfl dX8_fits_34 rfl (fun r2 s2 hw => ?_)
      exact x_ret hg dX8_fits_37 hw
  · refine x_aload_0 hg dX8_fits_10 rfl ?_
    refine x_iload_2 hg dX8_fits_11 rfl ?_
    refine x_callVI hg (xM_error (gL g)  hw) kM_0 (by decide) rfl im_X8_error se_X8_error mi_X8_error ml_X8_78 rfl rfl (As := [.int r1]) rfl rfl rfl dX8_fits_12 rfl (fun r2 s2 hw => ?_)
    exact x_ret hg dX8_fits_15 hw
def wM_begins (a1 : Int32) (s0 : Sg) (P : Sg → Prop) : Prop := ((30 ≤ (s0 0 21) → P s0) ∧ (¬ 30 ≤ (s0 0 21) → (vp_in ((s0 0 21)) 30 ∧ ∀ s1 : Sg, s1 = u2 s0 14 (ix ((s0 0 21))) a1 → (∀ s2 : Sg, s2 = u2 s1 0 21 (((s1 0 21) + 1)) → P s2))))
set_option maxRecDepth 100000 in
set_option maxHeartbeats 4000000 in
theorem xM_begins {w : Wc} (l : Launch) {a1 : Int32} {s0 : Sg} {P : Sg → Prop} (hw : wM_begins a1 s0 P) : CV shM w l 1 (.code yX8_begins cX8_begins 2 none) yX8_begins [.ref (ad w 0), .int a1] s0 P := by
  refine ci_of_v (own := "BagBottomModel") (ls0 := [some (.ref (ad w 0)), some (.int a1)]) rfl pn_X8 rfl rfl (fun g el hg => ?_)
  unfold wM_begins at hw
  refine x_aload_0 hg dX8_begins_0 rfl ?_
  refine get_X8_21 hg kM_0 fl_X8_229 dX8_begins_1 rfl ?_
  refine x_bi hg dX8_begins_4 bp_30 rfl ?_
  refine x_icmp_ge hg dX8_begins_6 (tg := 29) (by decide) rfl hw (fun hw => ?_) (fun hw => ?_)
  · exact x_vret hg dX8_begins_29 hw
  · refine x_aload_0 hg dX8_begins_9 rfl ?_
    refine get_X8_20 hg kM_0 fl_X8_49 dX8_begins_10 rfl (k2 := 14) rfl ?_
    refine x_aload_0 hg dX8_begins_13 rfl ?_
    refine get_X8_21 hg kM_0 fl_X8_229 dX8_begins_14 rfl ?_
    refine x_iload_1 hg dX8_begins_17 rfl ?_
    refine x_iast hg kM_14 rfl dX8_begins_18 rfl hw (fun s1 hw => ?_)
    refine x_aload_0 hg dX8_begins_19 rfl ?_
    refine x_dup hg dX8_begins_20 rfl rfl ?_
    refine get_X8_21 hg kM_0 fl_X8_229 dX8_begins_21 rfl ?_
    refine x_ic hg dX8_begins_24 ic_1 rfl ?_
    refine x_iadd hg dX8_begins_25 rfl ?_
    refine put_X8_21 hg kM_0 fl_X8_229 dX8_begins_26 rfl hw (fun s2 hw => ?_)
    exact x_vret hg dX8_begins_29 hw
def wM_plainRattles (a1 : Int32) (a2 : Int32) (s0 : Sg) (P : Int32 → Sg → Prop) : Prop := (wM_begins 10 s0 (fun (s1 : Sg) => P ((a2 + a1)) s1))
set_option maxRecDepth 100000 in
set_option maxHeartbeats 4000000 in
theorem xM_plainRattles {w : Wc} (l : Launch) {a1 : Int32} {a2 : Int32} {s0 : Sg} {P : Int32 → Sg → Prop} (hw : wM_plainRattles a1 a2 s0 P) : CI shM w l 2 (.code yX8_plainRattles cX8_plainRattles 3 (some .int)) yX8_plainRattles [.ref (ad w 0), .int a1, .int a2] s0 P := by
  refine ci_of_i (own := "BagBottomModel") (ls0 := [some (.ref (ad w 0)), some (.int a1), some (.int a2)]) rfl pn_X8 rfl rfl (fun g el hg => ?_)
  unfold wM_plainRattles at hw
  refine x_aload_0 hg dX8_plainRattles_0 rfl ?_
  refine x_bi hg dX8_plainRattles_1 bp_10 rfl ?_
  refine x_callVV hg (xM_begins (gL g)  hw) kM_0 (by decide) rfl im_X8_begins se_X8_begins mi_X8_begins ml_X8_232 rfl rfl (As := [.int 10]) rfl rfl rfl dX8_plainRattles_3 rfl (fun s1 hw => ?_)
  refine x_iload_2 hg dX8_plainRattles_6 rfl ?_
  refine x_iload_1 hg dX8_plainRattles_7 rfl ?_
  refine x_iadd hg dX8_plainRattles_8 rfl ?_
  exact x_ret hg dX8_plainRattles_9 hw
def wM_keysRattles (a1 : Int32) (a2 : Int32) (s0 : Sg) (P : Int32 → Sg → Prop) : Prop := (wM_begins 20 s0 (fun (s1 : Sg) => (wM_plainRattles a1 a2 s1 (fun (r1 : Int32) (s2 : Sg) => P ((r1 - 4)) s2))))
set_option maxRecDepth 100000 in
set_option maxHeartbeats 4000000 in
theorem xM_keysRattles {w : Wc} (l : Launch) {a1 : Int32} {a2 : Int32} {s0 : Sg} {P : Int32 → Sg → Prop} (hw : wM_keysRattles a1 a2 s0 P) : CI shM w l 3 (.code yX8_keysRattles cX8_keysRattles 3 (some .int)) yX8_keysRattles [.ref (ad w 0), .int a1, .int a2] s0 P := by
  refine ci_of_i (own := "BagBottomModel") (ls0 := [some (.ref (ad w 0)), some (.int a1), some (.int a2)]) rfl pn_X8 rfl rfl (fun g el hg => ?_)
  unfold wM_keysRattles at hw
  refine x_aload_0 hg dX8_keysRattles_0 rfl ?_
  refine x_bi hg dX8_keysRattles_1 bp_20 rfl ?_
  refine x_callVV hg (xM_begins (gL g)  hw) kM_0 (by decide) rfl im_X8_begins se_X8_begins mi_X8_begins ml_X8_232 rfl rfl (As := [.int 20]) rfl rfl rfl dX8_keysRattles_3 rfl (fun s1 hw => ?_)
  refine x_aload_0 hg dX8_keysRattles_6 rfl ?_
  refine x_iload_1 hg dX8_keysRattles_7 rfl ?_
  refine x_iload_2 hg dX8_keysRattles_8 rfl ?_
  refine x_callVI hg (xM_plainRattles (gL g)  hw) kM_0 (by decide) rfl im_X8_plainRattles se_X8_plainRattles mi_X8_plainRattles ml_X8_235 rfl rfl (As := [.int a1, .int a2]) rfl rfl rfl dX8_keysRattles_9 rfl (fun r1 s2 hw => ?_)
  refine x_ic hg dX8_keysRattles_12 ic_4 rfl ?_
  refine x_isub hg dX8_keysRattles_13 rfl ?_
  exact x_ret hg dX8_keysRattles_14 hw
def wM_rattles (a1 : Int32) (a2 : Int32) (s0 : Sg) (P : Int32 → Sg → Prop) : Prop := (wM_of a1 0 s0 (fun (r1 : Int32) (s1 : Sg) => ((r1 = 1 → (wM_keysRattles a1 a2 s1 (fun (r2 : Int32) (s2 : Sg) => P r2 s2))) ∧ (¬ r1 = 1 → ((r1 = 4 → (wM_begins 50 s1 (fun (s2 : Sg) => (wM_keysRattles a1 a2 s2 (fun (r2 : Int32) (s3 : Sg) => P ((r2 * 3)) s3))))) ∧ (¬ r1 = 4 → ((r1 = 6 → (wM_begins 70 s1 (fun (s2 : Sg) => P 9 s2))) ∧ (¬ r1 = 6 → (wM_plainRattles a1 a2 s1 (fun (r2 : Int32) (s2 : Sg) => P r2 s2))))))))))
set_option maxRecDepth 100000 in
set_option maxHeartbeats 4000000 in
theorem xM_rattles {w : Wc} (l : Launch) {a1 : Int32} {a2 : Int32} {s0 : Sg} {P : Int32 → Sg → Prop} (hw : wM_rattles a1 a2 s0 P) : CI shM w l 4 (.code yX8_rattles cX8_rattles 3 (some .int)) yX8_rattles [.ref (ad w 0), .int a1, .int a2] s0 P := by
  refine ci_of_i (own := "BagBottomModel") (ls0 := [some (.ref (ad w 0)), some (.int a1), some (.int a2)]) rfl pn_X8 rfl rfl (fun g el hg => ?_)
  unfold wM_rattles at hw
  refine x_aload_0 hg dX8_rattles_0 rfl ?_
  refine x_iload_1 hg dX8_rattles_1 rfl ?_
  refine x_ic hg dX8_rattles_2 ic_0 rfl ?_
  refine x_callVI hg (xM_of (gL g)  hw) kM_0 (by decide) rfl im_X8_of se_X8_of mi_X8_of ml_X8_61 rfl rfl (As := [.int a1, .int 0]) rfl rfl rfl dX8_rattles_3 rfl (fun r1 s1 hw => ?_)
  refine x_br hw (fun h0 hw => ?_) (fun h0 hw => ?_)
  · refine x_lkp hg dX8_rattles_6 (ps := [(1, 34), (4, 41), (6, 56)]) rfl (tg := 40) (by rw [h0]; decide) ?_
    refine x_aload_0 hg dX8_rattles_40 rfl ?_
    refine x_iload_1 hg dX8_rattles_41 rfl ?_
    refine x_iload_2 hg dX8_rattles_42 rfl ?_
    refine x_callVI hg (xM_keysRattles (gL g)  hw) kM_0 (by decide) rfl im_X8_keysRattles se_X8_keysRattles mi_X8_keysRattles ml_X8_238 rfl rfl (As := [.int a1, .int a2]) rfl rfl rfl dX8_rattles_43 rfl (fun r2 s2 hw => ?_)
    exact x_ret hg dX8_rattles_46 hw
  · skip
    refine x_br hw (fun h1 hw => ?_) (fun h1 hw => ?_)
    · refine x_lkp hg dX8_rattles_6 (ps := [(1, 34), (4, 41), (6, 56)]) rfl (tg := 47) (by rw [h1]; decide) ?_
      refine x_aload_0 hg dX8_rattles_47 rfl ?_
      refine x_bi hg dX8_rattles_48 bp_50 rfl ?_
      refine x_callVV hg (xM_begins (gL g)  hw) kM_0 (by decide) rfl im_X8_begins se_X8_begins mi_X8_begins ml_X8_232 rfl rfl (As := [.int 50]) rfl rfl rfl dX8_rattles_50 rfl (fun s2 hw => ?_)
      refine x_aload_0 hg dX8_rattles_53 rfl ?_
      refine x_iload_1 hg dX8_rattles_54 rfl ?_
      refine x_iload_2 hg dX8_rattles_55 rfl ?_
      refine x_callVI hg (xM_keysRattles (gL g)  hw) kM_0 (by decide) rfl im_X8_keysRattles se_X8_keysRattles mi_X8_keysRattles ml_X8_238 rfl rfl (As := [.int a1, .int a2]) rfl rfl rfl dX8_rattles_56 rfl (fun r2 s3 hw => ?_)
      refine x_ic hg dX8_rattles_59 ic_3 rfl ?_
      refine x_imul hg dX8_rattles_60 rfl ?_
      exact x_ret hg dX8_rattles_61 hw
    · skip
      refine x_br hw (fun h2 hw => ?_) (fun h2 hw => ?_)
      · refine x_lkp hg dX8_rattles_6 (ps := [(1, 34), (4, 41), (6, 56)]) rfl (tg := 62) (by rw [h2]; decide) ?_
        refine x_aload_0 hg dX8_rattles_62 rfl ?_
        refine x_bi hg dX8_rattles_63 bp_70 rfl ?_
        refine x_callVV hg (xM_begins (gL g)  hw) kM_0 (by decide) rfl im_X8_begins se_X8_begins mi_X8_begins ml_X8_232 rfl rfl (As := [.int 70]) rfl rfl rfl dX8_rattles_65 rfl (fun s2 hw => ?_)
        refine x_bi hg dX8_rattles_68 bp_9 rfl ?_
        exact x_ret hg dX8_rattles_70 hw
      · skip
        refine x_lkp hg dX8_rattles_6 (ps := [(1, 34), (4, 41), (6, 56)]) rfl (tg := 71) (by simp only [lk, if_neg h0, if_neg h1, if_neg h2, ite_self]; decide) ?_
        refine x_aload_0 hg dX8_rattles_71 rfl ?_
        refine x_iload_1 hg dX8_rattles_72 rfl ?_
        refine x_iload_2 hg dX8_rattles_73 rfl ?_
        refine x_callVI hg (xM_plainRattles (gL g)  hw) kM_0 (by decide) rfl im_X8_plainRattles se_X8_plainRattles mi_X8_plainRattles ml_X8_235 rfl rfl (As := [.int a1, .int a2]) rfl rfl rfl dX8_rattles_74 rfl (fun r2 s2 hw => ?_)
        exact x_ret hg dX8_rattles_77 hw
def wM_plainRustles (a1 : Int32) (a2 : Int32) (s0 : Sg) (P : Int32 → Sg → Prop) : Prop := (wM_begins 11 s0 (fun (s1 : Sg) => (wM_rattles a1 a2 s1 (fun (r1 : Int32) (s2 : Sg) => P ((r1 * 2)) s2))))
set_option maxRecDepth 100000 in
set_option maxHeartbeats 4000000 in
theorem xM_plainRustles {w : Wc} (l : Launch) {a1 : Int32} {a2 : Int32} {s0 : Sg} {P : Int32 → Sg → Prop} (hw : wM_plainRustles a1 a2 s0 P) : CI shM w l 5 (.code yX8_plainRustles cX8_plainRustles 3 (some .int)) yX8_plainRustles [.ref (ad w 0), .int a1, .int a2] s0 P := by
  refine ci_of_i (own := "BagBottomModel") (ls0 := [some (.ref (ad w 0)), some (.int a1), some (.int a2)]) rfl pn_X8 rfl rfl (fun g el hg => ?_)
  unfold wM_plainRustles at hw
  refine x_aload_0 hg dX8_plainRustles_0 rfl ?_
  refine x_bi hg dX8_plainRustles_1 bp_11 rfl ?_
  refine x_callVV hg (xM_begins (gL g)  hw) kM_0 (by decide) rfl im_X8_begins se_X8_begins mi_X8_begins ml_X8_232 rfl rfl (As := [.int 11]) rfl rfl rfl dX8_plainRustles_3 rfl (fun s1 hw => ?_)
  refine x_aload_0 hg dX8_plainRustles_6 rfl ?_
  refine x_iload_1 hg dX8_plainRustles_7 rfl ?_
  refine x_iload_2 hg dX8_plainRustles_8 rfl ?_
  refine x_callVI hg (xM_rattles (gL g)  hw) kM_0 (by decide) rfl im_X8_rattles se_X8_rattles mi_X8_rattles ml_X8_241 rfl rfl (As := [.int a1, .int a2]) rfl rfl rfl dX8_plainRustles_9 rfl (fun r1 s2 hw => ?_)
  refine x_ic hg dX8_plainRustles_12 ic_2 rfl ?_
  refine x_imul hg dX8_plainRustles_13 rfl ?_
  exact x_ret hg dX8_plainRustles_14 hw
def wM_paperRustles (a1 : Int32) (a2 : Int32) (s0 : Sg) (P : Int32 → Sg → Prop) : Prop := (wM_begins 30 s0 (fun (s1 : Sg) => (wM_plainRustles a1 a2 s1 (fun (r1 : Int32) (s2 : Sg) => P ((-r1)) s2))))
set_option maxRecDepth 100000 in
set_option maxHeartbeats 4000000 in
theorem xM_paperRustles {w : Wc} (l : Launch) {a1 : Int32} {a2 : Int32} {s0 : Sg} {P : Int32 → Sg → Prop} (hw : wM_paperRustles a1 a2 s0 P) : CI shM w l 6 (.code yX8_paperRustles cX8_paperRustles 3 (some .int)) yX8_paperRustles [.ref (ad w 0), .int a1, .int a2] s0 P := by
  refine ci_of_i (own := "BagBottomModel") (ls0 := [some (.ref (ad w 0)), some (.int a1), some (.int a2)]) rfl pn_X8 rfl rfl (fun g el hg => ?_)
  unfold wM_paperRustles at hw
  refine x_aload_0 hg dX8_paperRustles_0 rfl ?_
  refine x_bi hg dX8_paperRustles_1 bp_30 rfl ?_
  refine x_callVV hg (xM_begins (gL g)  hw) kM_0 (by decide) rfl im_X8_begins se_X8_begins mi_X8_begins ml_X8_232 rfl rfl (As := [.int 30]) rfl rfl rfl dX8_paperRustles_3 rfl (fun s1 hw => ?_)
  refine x_aload_0 hg dX8_paperRustles_6 rfl ?_
  refine x_iload_1 hg dX8_paperRustles_7 rfl ?_
  refine x_iload_2 hg dX8_paperRustles_8 rfl ?_
  refine x_callVI hg (xM_plainRustles (gL g)  hw) kM_0 (by decide) rfl im_X8_plainRustles se_X8_plainRustles mi_X8_plainRustles ml_X8_244 rfl rfl (As := [.int a1, .int a2]) rfl rfl rfl dX8_paperRustles_9 rfl (fun r1 s2 hw => ?_)
  refine x_ineg hg dX8_paperRustles_12 rfl ?_
  exact x_ret hg dX8_paperRustles_13 hw
def wM_rustles (a1 : Int32) (a2 : Int32) (s0 : Sg) (P : Int32 → Sg → Prop) : Prop := (wM_of a1 0 s0 (fun (r1 : Int32) (s1 : Sg) => ((r1 = 2 → (wM_paperRustles a1 a2 s1 (fun (r2 : Int32) (s2 : Sg) => P r2 s2))) ∧ (¬ r1 = 2 → ((r1 = 5 → (wM_begins 60 s1 (fun (s2 : Sg) => (wM_paperRustles a1 ((a2 + 1)) s2 (fun (r2 : Int32) (s3 : Sg) => P r2 s3))))) ∧ (¬ r1 = 5 → ((r1 = 6 → (wM_begins 71 s1 (fun (s2 : Sg) => (wM_plainRustles a1 a2 s2 (fun (r2 : Int32) (s3 : Sg) => (wM_of a1 1 s3 (fun (r3 : Int32) (s4 : Sg) => P ((r2 + r3)) s4))))))) ∧ (¬ r1 = 6 → (wM_plainRustles a1 a2 s1 (fun (r2 : Int32) (s2 : Sg) => P r2 s2))))))))))
set_option maxRecDepth 100000 in
set_option maxHeartbeats 4000000 in
theorem xM_rustles {w : Wc} (l : Launch) {a1 : Int32} {a2 : Int32} {s0 : Sg} {P : Int32 → Sg → Prop} (hw : wM_rustles a1 a2 s0 P) : CI shM w l 7 (.code yX8_rustles cX8_rustles 3 (some .int)) yX8_rustles [.ref (ad w 0), .int a1, .int a2] s0 P := by
  refine ci_of_i (own := "BagBottomModel") (ls0 := [some (.ref (ad w 0)), some (.int a1), some (.int a2)]) rfl pn_X8 rfl rfl (fun g el hg => ?_)
  unfold wM_rustles at hw
  refine x_aload_0 hg dX8_rustles_0 rfl ?_
  refine x_iload_1 hg dX8_rustles_1 rfl ?_
  refine x_ic hg dX8_rustles_2 ic_0 rfl ?_
  refine x_callVI hg (xM_of (gL g)  hw) kM_0 (by decide) rfl im_X8_of se_X8_of mi_X8_of ml_X8_61 rfl rfl (As := [.int a1, .int 0]) rfl rfl rfl dX8_rustles_3 rfl (fun r1 s1 hw => ?_)
  refine x_br hw (fun h0 hw => ?_) (fun h0 hw => ?_)
  · refine x_tab hg dX8_rustles_6 (ps := [(2, 34), (3, 76), (4, 76), (5, 41), (6, 56)]) rfl (tg := 40) (by rw [h0]; decide) ?_
    refine x_aload_0 hg dX8_rustles_40 rfl ?_
    refine x_iload_1 hg dX8_rustles_41 rfl ?_
    refine x_iload_2 hg dX8_rustles_42 rfl ?_
    refine x_callVI hg (xM_paperRustles (gL g)  hw) kM_0 (by decide) rfl im_X8_paperRustles se_X8_paperRustles mi_X8_paperRustles ml_X8_247 rfl rfl (As := [.int a1, .int a2]) rfl rfl rfl dX8_rustles_43 rfl (fun r2 s2 hw => ?_)
    exact x_ret hg dX8_rustles_46 hw
  · skip
    refine x_br hw (fun h1 hw => ?_) (fun h1 hw => ?_)
    · refine x_tab hg dX8_rustles_6 (ps := [(2, 34), (3, 76), (4, 76), (5, 41), (6, 56)]) rfl (tg := 47) (by rw [h1]; decide) ?_
      refine x_aload_0 hg dX8_rustles_47 rfl ?_
      refine x_bi hg dX8_rustles_48 bp_60 rfl ?_
      refine x_callVV hg (xM_begins (gL g)  hw) kM_0 (by decide) rfl im_X8_begins se_X8_begins mi_X8_begins ml_X8_232 rfl rfl (As := [.int 60]) rfl rfl rfl dX8_rustles_50 rfl (fun s2 hw => ?_)
      refine x_aload_0 hg dX8_rustles_53 rfl ?_
      refine x_iload_1 hg dX8_rustles_54 rfl ?_
      refine x_iload_2 hg dX8_rustles_55 rfl ?_
      refine x_ic hg dX8_rustles_56 ic_1 rfl ?_
      refine x_iadd hg dX8_rustles_57 rfl ?_
      refine x_callVI hg (xM_paperRustles (gL g)  hw) kM_0 (by decide) rfl im_X8_paperRustles se_X8_paperRustles mi_X8_paperRustles ml_X8_247 rfl rfl (As := [.int a1, .int (a2 + 1)]) rfl rfl rfl dX8_rustles_58 rfl (fun r2 s3 hw => ?_)
      exact x_ret hg dX8_rustles_61 hw
    · skip
      refine x_br hw (fun h2 hw => ?_) (fun h2 hw => ?_)
      · refine x_tab hg dX8_rustles_6 (ps := [(2, 34), (3, 76), (4, 76), (5, 41), (6, 56)]) rfl (tg := 62) (by rw [h2]; decide) ?_
        refine x_aload_0 hg dX8_rustles_62 rfl ?_
        refine x_bi hg dX8_rustles_63 bp_71 rfl ?_
        refine x_callVV hg (xM_begins (gL g)  hw) kM_0 (by decide) rfl im_X8_begins se_X8_begins mi_X8_begins ml_X8_232 rfl rfl (As := [.int 71]) rfl rfl rfl dX8_rustles_65 rfl (fun s2 hw => ?_)
        refine x_aload_0 hg dX8_rustles_68 rfl ?_
        refine x_iload_1 hg dX8_rustles_69 rfl ?_
        refine x_iload_2 hg dX8_rustles_70 rfl ?_
        refine x_callVI hg (xM_plainRustles (gL g)  hw) kM_0 (by decide) rfl im_X8_plainRustles se_X8_plainRustles mi_X8_plainRustles ml_X8_244 rfl rfl (As := [.int a1, .int a2]) rfl rfl rfl dX8_rustles_71 rfl (fun r2 s3 hw => ?_)
        refine x_aload_0 hg dX8_rustles_74 rfl ?_
        refine x_iload_1 hg dX8_rustles_75 rfl ?_
        refine x_ic hg dX8_rustles_76 ic_1 rfl ?_
        refine x_callVI hg (xM_of (gL g)  hw) kM_0 (by decide) rfl im_X8_of se_X8_of mi_X8_of ml_X8_61 rfl rfl (As := [.int a1, .int 1]) rfl rfl rfl dX8_rustles_77 rfl (fun r3 s4 hw => ?_)
        refine x_iadd hg dX8_rustles_80 rfl ?_
        exact x_ret hg dX8_rustles_81 hw
      · skip
        refine x_tab hg dX8_rustles_6 (ps := [(2, 34), (3, 76), (4, 76), (5, 41), (6, 56)]) rfl (tg := 82) (by simp only [lk, if_neg h0, if_neg h1, if_neg h2, ite_self]; decide) ?_
        refine x_aload_0 hg dX8_rustles_82 rfl ?_
        refine x_iload_1 hg dX8_rustles_83 rfl ?_
        refine x_iload_2 hg dX8_rustles_84 rfl ?_
        refine x_callVI hg (xM_plainRustles (gL g)  hw) kM_0 (by decide) rfl im_X8_plainRustles se_X8_plainRustles mi_X8_plainRustles ml_X8_244 rfl rfl (As := [.int a1, .int a2]) rfl rfl rfl dX8_rustles_85 rfl (fun r2 s2 hw => ?_)
        exact x_ret hg dX8_rustles_88 hw
def wM_plainRings (a1 : Int32) (a2 : Int32) (s0 : Sg) (P : Int32 → Sg → Prop) : Prop := (wM_begins 12 s0 (fun (s1 : Sg) => (wM_rustles a1 a2 s1 (fun (r1 : Int32) (s2 : Sg) => (wM_of a1 1 s2 (fun (r2 : Int32) (s3 : Sg) => P ((r1 - r2)) s3))))))
set_option maxRecDepth 100000 in
set_option maxHeartbeats 4000000 in
theorem xM_plainRings {w : Wc} (l : Launch) {a1 : Int32} {a2 : Int32} {s0 : Sg} {P : Int32 → Sg → Prop} (hw : wM_plainRings a1 a2 s0 P) : CI shM w l 8 (.code yX8_plainRings cX8_plainRings 3 (some .int)) yX8_plainRings [.ref (ad w 0), .int a1, .int a2] s0 P := by
  refine ci_of_i (own := "BagBottomModel") (ls0 := [some (.ref (ad w 0)), some (.int a1), some (.int a2)]) rfl pn_X8 rfl rfl (fun g el hg => ?_)
  unfold wM_plainRings at hw
  refine x_aload_0 hg dX8_plainRings_0 rfl ?_
  refine x_bi hg dX8_plainRings_1 bp_12 rfl ?_
  refine x_callVV hg (xM_begins (gL g)  hw) kM_0 (by decide) rfl im_X8_begins se_X8_begins mi_X8_begins ml_X8_232 rfl rfl (As := [.int 12]) rfl rfl rfl dX8_plainRings_3 rfl (fun s1 hw => ?_)
  refine x_aload_0 hg dX8_plainRings_6 rfl ?_
  refine x_iload_1 hg dX8_plainRings_7 rfl ?_
  refine x_iload_2 hg dX8_plainRings_8 rfl ?_
  refine x_callVI hg (xM_rustles (gL g)  hw) kM_0 (by decide) rfl im_X8_rustles se_X8_rustles mi_X8_rustles ml_X8_250 rfl rfl (As := [.int a1, .int a2]) rfl rfl rfl dX8_plainRings_9 rfl (fun r1 s2 hw => ?_)
  refine x_aload_0 hg dX8_plainRings_12 rfl ?_
  refine x_iload_1 hg dX8_plainRings_13 rfl ?_
  refine x_ic hg dX8_plainRings_14 ic_1 rfl ?_
  refine x_callVI hg (xM_of (gL g)  hw) kM_0 (by decide) rfl im_X8_of se_X8_of mi_X8_of ml_X8_61 rfl rfl (As := [.int a1, .int 1]) rfl rfl rfl dX8_plainRings_15 rfl (fun r2 s3 hw => ?_)
  refine x_isub hg dX8_plainRings_18 rfl ?_
  exact x_ret hg dX8_plainRings_19 hw
def wM_rings (a1 : Int32) (a2 : Int32) (s0 : Sg) (P : Int32 → Sg → Prop) : Prop := (wM_of a1 0 s0 (fun (r1 : Int32) (s1 : Sg) => ((r1 = 3 → (wM_begins 40 s1 (fun (s2 : Sg) => (wM_plainRings a1 ((a2 / 2)) s2 (fun (r2 : Int32) (s3 : Sg) => P r2 s3))))) ∧ (¬ r1 = 3 → ((r1 = 4 → (wM_begins 51 s1 (fun (s2 : Sg) => (wM_plainRings a1 a2 s2 (fun (r2 : Int32) (s3 : Sg) => P ((r2 ^^^ a1)) s3))))) ∧ (¬ r1 = 4 → (wM_plainRings a1 a2 s1 (fun (r2 : Int32) (s2 : Sg) => P r2 s2))))))))
set_option maxRecDepth 100000 in
set_option maxHeartbeats 4000000 in
theorem xM_rings {w : Wc} (l : Launch) {a1 : Int32} {a2 : Int32} {s0 : Sg} {P : Int32 → Sg → Prop} (hw : wM_rings a1 a2 s0 P) : CI shM w l 9 (.code yX8_rings cX8_rings 3 (some .int)) yX8_rings [.ref (ad w 0), .int a1, .int a2] s0 P := by
  refine ci_of_i (own := "BagBottomModel") (ls0 := [some (.ref (ad w 0)), some (.int a1), some (.int a2)]) rfl pn_X8 rfl rfl (fun g el hg => ?_)
  unfold wM_rings at hw
  refine x_aload_0 hg dX8_rings_0 rfl ?_
  refine x_iload_1 hg dX8_rings_1 rfl ?_
  refine x_ic hg dX8_rings_2 ic_0 rfl ?_
  refine x_callVI hg (xM_of (gL g)  hw) kM_0 (by decide) rfl im_X8_of se_X8_of mi_X8_of ml_X8_61 rfl rfl (As := [.int a1, .int 0]) rfl rfl rfl dX8_rings_3 rfl (fun r1 s1 hw => ?_)
  refine x_br hw (fun h0 hw => ?_) (fun h0 hw => ?_)
  · refine x_lkp hg dX8_rings_6 (ps := [(3, 26), (4, 41)]) rfl (tg := 32) (by rw [h0]; decide) ?_
    refine x_aload_0 hg dX8_rings_32 rfl ?_
    refine x_bi hg dX8_rings_33 bp_40 rfl ?_
    refine x_callVV hg (xM_begins (gL g)  hw) kM_0 (by decide) rfl im_X8_begins se_X8_begins mi_X8_begins ml_X8_232 rfl rfl (As := [.int 40]) rfl rfl rfl dX8_rings_35 rfl (fun s2 hw => ?_)
    refine x_aload_0 hg dX8_rings_38 rfl ?_
    refine x_iload_1 hg dX8_rings_39 rfl ?_
    refine x_iload_2 hg dX8_rings_40 rfl ?_
    refine x_ic hg dX8_rings_41 ic_2 rfl ?_
    refine x_idiv hg dX8_rings_42 ne_2 rfl ?_
    refine x_callVI hg (xM_plainRings (gL g)  hw) kM_0 (by decide) rfl im_X8_plainRings se_X8_plainRings mi_X8_plainRings ml_X8_253 rfl rfl (As := [.int a1, .int (a2 / 2)]) rfl rfl rfl dX8_rings_43 rfl (fun r2 s3 hw => ?_)
    exact x_ret hg dX8_rings_46 hw
  · skip
    refine x_br hw (fun h1 hw => ?_) (fun h1 hw => ?_)
    · refine x_lkp hg dX8_rings_6 (ps := [(3, 26), (4, 41)]) rfl (tg := 47) (by rw [h1]; decide) ?_
      refine x_aload_0 hg dX8_rings_47 rfl ?_
      refine x_bi hg dX8_rings_48 bp_51 rfl ?_
      refine x_callVV hg (xM_begins (gL g)  hw) kM_0 (by decide) rfl im_X8_begins se_X8_begins mi_X8_begins ml_X8_232 rfl rfl (As := [.int 51]) rfl rfl rfl dX8_rings_50 rfl (fun s2 hw => ?_)
      refine x_aload_0 hg dX8_rings_53 rfl ?_
      refine x_iload_1 hg dX8_rings_54 rfl ?_
      refine x_iload_2 hg dX8_rings_55 rfl ?_
      refine x_callVI hg (xM_plainRings (gL g)  hw) kM_0 (by decide) rfl im_X8_plainRings se_X8_plainRings mi_X8_plainRings ml_X8_253 rfl rfl (As := [.int a1, .int a2]) rfl rfl rfl dX8_rings_56 rfl (fun r2 s3 hw => ?_)
      refine x_iload_1 hg dX8_rings_59 rfl ?_
      refine x_ixor hg dX8_rings_60 rfl ?_
      exact x_ret hg dX8_rings_61 hw
    · skip
      refine x_lkp hg dX8_rings_6 (ps := [(3, 26), (4, 41)]) rfl (tg := 62) (by simp only [lk, if_neg h0, if_neg h1, ite_self]; decide) ?_
      refine x_aload_0 hg dX8_rings_62 rfl ?_
      refine x_iload_1 hg dX8_rings_63 rfl ?_
      refine x_iload_2 hg dX8_rings_64 rfl ?_
      refine x_callVI hg (xM_plainRings (gL g)  hw) kM_0 (by decide) rfl im_X8_plainRings se_X8_plainRings mi_X8_plainRings ml_X8_253 rfl rfl (As := [.int a1, .int a2]) rfl rfl rfl dX8_rings_65 rfl (fun r2 s2 hw => ?_)
      exact x_ret hg dX8_rings_68 hw
def wM_plainParts (a1 : Int32) (a2 : Int32) (s0 : Sg) (P : Int32 → Sg → Prop) : Prop := (wM_begins 13 s0 (fun (s1 : Sg) => (wM_of a1 1 s1 (fun (r1 : Int32) (s2 : Sg) => ((¬ (r1 - a1) = 0 → (∀ s3 : Sg, s3 = u2 s2 0 22 0 → (((s3 0 22) = 0 → (¬ (r1 - a1) = 0 ∧ P ((a2 / (r1 - a1))) s3)) ∧ (¬ (s3 0 22) = 0 → P 0 s3)))) ∧ ((r1 - a1) = 0 → (∀ s3 : Sg, s3 = u2 s2 0 22 1 → (((s3 0 22) = 0 → (¬ (r1 - a1) = 0 ∧ P ((a2 / (r1 - a1))) s3)) ∧ (¬ (s3 0 22) = 0 → P 0 s3)))))))))
set_option maxRecDepth 100000 in
set_option maxHeartbeats 4000000 in
theorem xM_plainParts {w : Wc} (l : Launch) {a1 : Int32} {a2 : Int32} {s0 : Sg} {P : Int32 → Sg → Prop} (hw : wM_plainParts a1 a2 s0 P) : CI shM w l 2 (.code yX8_plainParts cX8_plainParts 4 (some .int)) yX8_plainParts [.ref (ad w 0), .int a1, .int a2] s0 P := by
  refine ci_of_i (own := "BagBottomModel") (ls0 := [some (.ref (ad w 0)), some (.int a1), some (.int a2), none]) rfl pn_X8 rfl rfl (fun g el hg => ?_)
  unfold wM_plainParts at hw
  refine x_aload_0 hg dX8_plainParts_0 rfl ?_
  refine x_bi hg dX8_plainParts_1 bp_13 rfl ?_
  refine x_callVV hg (xM_begins (gL g)  hw) kM_0 (by decide) rfl im_X8_begins se_X8_begins mi_X8_begins ml_X8_232 rfl rfl (As := [.int 13]) rfl rfl rfl dX8_plainParts_3 rfl (fun s1 hw => ?_)
  refine x_aload_0 hg dX8_plainParts_6 rfl ?_
  refine x_iload_1 hg dX8_plainParts_7 rfl ?_
  refine x_ic hg dX8_plainParts_8 ic_1 rfl ?_
  refine x_callVI hg (xM_of (gL g)  hw) kM_0 (by decide) rfl im_X8_of se_X8_of mi_X8_of ml_X8_61 rfl rfl (As := [.int a1, .int 1]) rfl rfl rfl dX8_plainParts_9 rfl (fun r1 s2 hw => ?_)
  refine x_iload_1 hg dX8_plainParts_12 rfl ?_
  refine x_isub hg dX8_plainParts_13 rfl ?_
  refine x_istore_3 hg dX8_plainParts_14 rfl rfl rfl ?_
  refine x_aload_0 hg dX8_plainParts_15 rfl ?_
  refine x_iload_3 hg dX8_plainParts_16 rfl ?_
  refine x_if_ne hg dX8_plainParts_17 (tg := 24) (by decide) rfl hw (fun hw => ?_) (fun hw => ?_)
  · refine x_ic hg dX8_plainParts_24 ic_0 rfl ?_
    refine put_X8_22 hg kM_0 (by decide) fl_X8_256 dX8_plainParts_25 rfl hw (fun s3 hw => ?_)
    refine x_aload_0 hg dX8_plainParts_28 rfl ?_
    refine get_X8_22 hg kM_0 fl_X8_256 dX8_plainParts_29 rfl ?_
    refine x_if_eq hg dX8_plainParts_32 (tg := 39) (by decide) rfl hw (fun hw => ?_) (fun hw => ?_)
    · refine x_iload_2 hg dX8_plainParts_39 rfl ?_
      refine x_iload_3 hg dX8_plainParts_40 rfl ?_
      obtain ⟨hne, hw⟩ := hw
      refine x_idiv hg dX8_plainParts_41 hne rfl ?_
      exact x_ret hg dX8_plainParts_42 hw
    · refine x_ic hg dX8_plainParts_35 ic_0 rfl ?_
      refine x_goto hg dX8_plainParts_36 (pc' := 42) (by decide) ?_
      exact x_ret hg dX8_plainParts_42 hw
  · refine x_ic hg dX8_plainParts_20 ic_1 rfl ?_
    refine x_goto hg dX8_plainParts_21 (pc' := 25) (by decide) ?_
    refine put_X8_22 hg kM_0 (by decide) fl_X8_256 dX8_plainParts_25 rfl hw (fun s3 hw => ?_)
    refine x_aload_0 hg dX8_plainParts_28 rfl ?_
    refine get_X8_22 hg kM_0 fl_X8_256 dX8_plainParts_29 rfl ?_
    refine x_if_eq hg dX8_plainParts_32 (tg := 39) (by decide) rfl hw (fun hw => ?_) (fun hw => ?_)
    · refine x_iload_2 hg dX8_plainParts_39 rfl ?_
      refine x_iload_3 hg dX8_plainParts_40 rfl ?_
      obtain ⟨hne, hw⟩ := hw
      refine x_idiv hg dX8_plainParts_41 hne rfl ?_
      exact x_ret hg dX8_plainParts_42 hw
    · refine x_ic hg dX8_plainParts_35 ic_0 rfl ?_
      refine x_goto hg dX8_plainParts_36 (pc' := 42) (by decide) ?_
      exact x_ret hg dX8_plainParts_42 hw
def wM_parts (a1 : Int32) (a2 : Int32) (s0 : Sg) (P : Int32 → Sg → Prop) : Prop := (wM_of a1 0 s0 (fun (r1 : Int32) (s1 : Sg) => ((r1 = 1 → (wM_begins 21 s1 (fun (s2 : Sg) => (wM_plainParts a1 a2 s2 (fun (r2 : Int32) (s3 : Sg) => (((s3 0 22) = 0 → (wM_rustles a1 1 s3 (fun (r3 : Int32) (s4 : Sg) => P ((r2 + r3)) s4))) ∧ (¬ (s3 0 22) = 0 → P 0 s3))))))) ∧ (¬ r1 = 1 → (wM_of a1 0 s1 (fun (r2 : Int32) (s2 : Sg) => ((¬ r2 = 4 → (wM_plainParts a1 a2 s2 (fun (r3 : Int32) (s3 : Sg) => P r3 s3))) ∧ (r2 = 4 → (wM_begins 21 s2 (fun (s3 : Sg) => (wM_plainParts a1 a2 s3 (fun (r3 : Int32) (s4 : Sg) => (((s4 0 22) = 0 → (wM_rustles a1 1 s4 (fun (r4 : Int32) (s5 : Sg) => P ((r3 + r4)) s5))) ∧ (¬ (s4 0 22) = 0 → P 0 s4))))))))))))))
set_option maxRecDepth 100000 in
set_option maxHeartbeats 4000000 in
theorem xM_parts {w : Wc} (l : Launch) {a1 : Int32} {a2 : Int32} {s0 : Sg} {P : Int32 → Sg → Prop} (hw : wM_parts a1 a2 s0 P) : CI shM w l 8 (.code yX8_parts cX8_parts 4 (some .int)) yX8_parts [.ref (ad w 0), .int a1, .int a2] s0 P := by
  refine ci_of_i (own := "BagBottomModel") (ls0 := [some (.ref (ad w 0)), some (.int a1), some (.int a2), none]) rfl pn_X8 rfl rfl (fun g el hg => ?_)
  unfold wM_parts at hw
  refine x_aload_0 hg dX8_parts_0 rfl ?_
  refine x_iload_1 hg dX8_parts_1 rfl ?_
  refine x_ic hg dX8_parts_2 ic_0 rfl ?_
  refine x_callVI hg (xM_of (gL g)  hw) kM_0 (by decide) rfl im_X8_of se_X8_of mi_X8_of ml_X8_61 rfl rfl (As := [.int a1, .int 0]) rfl rfl rfl dX8_parts_3 rfl (fun r1 s1 hw => ?_)
  refine x_ic hg dX8_parts_6 ic_1 rfl ?_
  refine x_icmp_eq hg dX8_parts_7 (tg := 20) (by decide) rfl hw (fun hw => ?_) (fun hw => ?_)
  · refine x_aload_0 hg dX8_parts_20 rfl ?_
    refine x_bi hg dX8_parts_21 bp_21 rfl ?_
    refine x_callVV hg (xM_begins (gL g)  hw) kM_0 (by decide) rfl im_X8_begins se_X8_begins mi_X8_begins ml_X8_232 rfl rfl (As := [.int 21]) rfl rfl rfl dX8_parts_23 rfl (fun s2 hw => ?_)
    refine x_aload_0 hg dX8_parts_26 rfl ?_
    refine x_iload_1 hg dX8_parts_27 rfl ?_
    refine x_iload_2 hg dX8_parts_28 rfl ?_
    refine x_callVI hg (xM_plainParts (gL g)  hw) kM_0 (by decide) rfl im_X8_plainParts se_X8_plainParts mi_X8_plainParts ml_X8_259 rfl rfl (As := [.int a1, .int a2]) rfl rfl rfl dX8_parts_29 rfl (fun r2 s3 hw => ?_)
    refine x_istore_3 hg dX8_parts_32 rfl rfl rfl ?_
    refine x_aload_0 hg dX8_parts_33 rfl ?_
    refine get_X8_22 hg kM_0 fl_X8_256 dX8_parts_34 rfl ?_
    refine x_if_eq hg dX8_parts_37 (tg := 44) (by decide) rfl hw (fun hw => ?_) (fun hw => ?_)
    · refine x_iload_3 hg dX8_parts_44 rfl ?_
      refine x_aload_0 hg dX8_parts_45 rfl ?_
      refine x_iload_1 hg dX8_parts_46 rfl ?_
      refine x_ic hg dX8_parts_47 ic_1 rfl ?_
      refine x_callVI hg (xM_rustles (gL g)  hw) kM_0 (by decide) rfl im_X8_rustles se_X8_rustles mi_X8_rustles ml_X8_250 rfl rfl (As := [.int a1, .int 1]) rfl rfl rfl dX8_parts_48 rfl (fun r3 s4 hw => ?_)
      refine x_iadd hg dX8_parts_51 rfl ?_
      exact x_ret hg dX8_parts_52 hw
    · refine x_ic hg dX8_parts_40 ic_0 rfl ?_
      refine x_goto hg dX8_parts_41 (pc' := 52) (by decide) ?_
      exact x_ret hg dX8_parts_52 hw
  · refine x_aload_0 hg dX8_parts_10 rfl ?_
    refine x_iload_1 hg dX8_parts_11 rfl ?_
    refine x_ic hg dX8_parts_12 ic_0 rfl ?_
    refine x_callVI hg (xM_of (gL g)  hw) kM_0 (by decide) rfl im_X8_of se_X8_of mi_X8_of ml_X8_61 rfl rfl (As := [.int a1, .int 0]) rfl rfl rfl dX8_parts_13 rfl (fun r2 s2 hw => ?_)
    refine x_ic hg dX8_parts_16 ic_4 rfl ?_
    refine x_icmp_ne hg dX8_parts_17 (tg := 53) (by decide) rfl hw (fun hw => ?_) (fun hw => ?_)
    · refine x_aload_0 hg dX8_parts_53 rfl ?_
      refine x_iload_1 hg dX8_parts_54 rfl ?_
      refine x_iload_2 hg dX8_parts_55 rfl ?_
      refine x_callVI hg (xM_plainParts (gL g)  hw) kM_0 (by decide) rfl im_X8_plainParts se_X8_plainParts mi_X8_plainParts ml_X8_259 rfl rfl (As := [.int a1, .int a2]) rfl rfl rfl dX8_parts_56 rfl (fun r3 s3 hw => ?_)
      exact x_ret hg dX8_parts_59 hw
    · refine x_aload_0 hg dX8_parts_20 rfl ?_
      refine x_bi hg dX8_parts_21 bp_21 rfl ?_
      refine x_callVV hg (xM_begins (gL g)  hw) kM_0 (by decide) rfl im_X8_begins se_X8_begins mi_X8_begins ml_X8_232 rfl rfl (As := [.int 21]) rfl rfl rfl dX8_parts_23 rfl (fun s3 hw => ?_)
      refine x_aload_0 hg dX8_parts_26 rfl ?_
      refine x_iload_1 hg dX8_parts_27 rfl ?_
      refine x_iload_2 hg dX8_parts_28 rfl ?_
      refine x_callVI hg (xM_plainParts (gL g)  hw) kM_0 (by decide) rfl im_X8_plainParts se_X8_plainParts mi_X8_plainParts ml_X8_259 rfl rfl (As := [.int a1, .int a2]) rfl rfl rfl dX8_parts_29 rfl (fun r3 s4 hw => ?_)
      refine x_istore_3 hg dX8_parts_32 rfl rfl rfl ?_
      refine x_aload_0 hg dX8_parts_33 rfl ?_
      refine get_X8_22 hg kM_0 fl_X8_256 dX8_parts_34 rfl ?_
      refine x_if_eq hg dX8_parts_37 (tg := 44) (by decide) rfl hw (fun hw => ?_) (fun hw => ?_)
      · refine x_iload_3 hg dX8_parts_44 rfl ?_
        refine x_aload_0 hg dX8_parts_45 rfl ?_
        refine x_iload_1 hg dX8_parts_46 rfl ?_
        refine x_ic hg dX8_parts_47 ic_1 rfl ?_
        refine x_callVI hg (xM_rustles (gL g)  hw) kM_0 (by decide) rfl im_X8_rustles se_X8_rustles mi_X8_rustles ml_X8_250 rfl rfl (As := [.int a1, .int 1]) rfl rfl rfl dX8_parts_48 rfl (fun r4 s5 hw => ?_)
        refine x_iadd hg dX8_parts_51 rfl ?_
        exact x_ret hg dX8_parts_52 hw
      · refine x_ic hg dX8_parts_40 ic_0 rfl ?_
        refine x_goto hg dX8_parts_41 (pc' := 52) (by decide) ?_
        exact x_ret hg dX8_parts_52 hw
def wM_voice (a1 : Int32) (a2 : Int32) (a3 : Int32) (s0 : Sg) (P : Int32 → Sg → Prop) : Prop := (wM_isThing a1 s0 (fun (r1 : Int32) (s1 : Sg) => ((r1 = 0 → (wM_error ((-1000000001)) s1 (fun (r2 : Int32) (s2 : Sg) => P r2 s2))) ∧ (¬ r1 = 0 → (wM_in a2 0 3 s1 (fun (r2 : Int32) (s2 : Sg) => ((¬ r2 = 0 → (∀ s3 : Sg, s3 = u2 s2 0 21 0 → (∀ s4 : Sg, s4 = u2 s3 0 22 0 → ((¬ a2 = 0 → ((¬ a2 = 1 → ((¬ a2 = 2 → (wM_parts a1 a3 s4 (fun (r3 : Int32) (s5 : Sg) => (((s5 0 22) = 0 → P r3 s5) ∧ (¬ (s5 0 22) = 0 → (wM_error ((-1000000006)) s5 (fun (r4 : Int32) (s6 : Sg) => P r4 s6))))))) ∧ (a2 = 2 → (wM_rings a1 a3 s4 (fun (r3 : Int32) (s5 : Sg) => (((s5 0 22) = 0 → P r3 s5) ∧ (¬ (s5 0 22) = 0 → (wM_error ((-1000000006)) s5 (fun (r4 : Int32) (s6 : Sg) => P r4 s6))))))))) ∧ (a2 = 1 → (wM_rustles a1 a3 s4 (fun (r3 : Int32) (s5 : Sg) => (((s5 0 22) = 0 → P r3 s5) ∧ (¬ (s5 0 22) = 0 → (wM_error ((-1000000006)) s5 (fun (r4 : Int32) (s6 : Sg) => P r4 s6))))))))) ∧ (a2 = 0 → (wM_rattles a1 a3 s4 (fun (r3 : Int32) (s5 : Sg) => (((s5 0 22) = 0 → P r3 s5) ∧ (¬ (s5 0 22) = 0 → (wM_error ((-1000000006)) s5 (fun (r4 : Int32) (s6 : Sg) => P r4 s6))))))))))) ∧ (r2 = 0 → (wM_error ((-1000000001)) s2 (fun (r3 : Int32) (s3 : Sg) => P r3 s3))))))))))
set_option maxRecDepth 100000 in
set_option maxHeartbeats 4000000 in
theorem xM_voice {w : Wc} (l : Launch) {a1 : Int32} {a2 : Int32} {a3 : Int32} {s0 : Sg} {P : Int32 → Sg → Prop} (hw : wM_voice a1 a2 a3 s0 P) : CI shM w l 10 (.code yX8_voice cX8_voice 5 (some .int)) yX8_voice [.ref (ad w 0), .int a1, .int a2, .int a3] s0 P := by
  refine ci_of_i (own := "BagBottomModel") (ls0 := [some (.ref (ad w 0)), some (.int a1), some (.int a2), some (.int a3), none]) rfl pn_X8 rfl rfl (fun g el hg => ?_)
  unfold wM_voice at hw
  refine x_aload_0 hg dX8_voice_0 rfl ?_
  refine x_iload_1 hg dX8_voice_1 rfl ?_
  refine x_callVI hg (xM_isThing (gL g)  hw) kM_0 (by decide) rfl im_X8_isThing se_X8_isThing mi_X8_isThing ml_X8_86 rfl rfl (As := [.int a1]) rfl rfl rfl dX8_voice_2 rfl (fun r1 s1 hw => ?_)
  refine x_if_eq hg dX8_voice_5 (tg := 17) (by decide) rfl hw (fun hw => ?_) (fun hw => ?_)
  · refine x_aload_0 hg dX8_voice_17 rfl ?_
    refine x_ldc hg kc_X8_77 dX8_voice_18 rfl ?_
    refine x_callVI hg (xM_error (gL g)  hw) kM_0 (by decide) rfl im_X8_error se_X8_error mi_X8_error ml_X8_78 rfl rfl (As := [.int (-1000000001)]) rfl rfl rfl dX8_voice_20 rfl (fun r2 s2 hw => ?_)
    exact x_ret hg dX8_voice_23 hw
  · refine x_iload_2 hg dX8_voice_8 rfl ?_
    refine x_ic hg dX8_voice_9 ic_0 rfl ?_
    refine x_ic hg dX8_voice_10 ic_3 rfl ?_
    refine x_callSI hg (xM_in (gL g)  hw) sm_X8_in mi_X8_in ml_X8_57 rfl rfl (As := [.int a2, .int 0, .int 3]) rfl rfl rfl dX8_voice_11 rfl (fun r2 s2 hw => ?_)
    refine x_if_ne hg dX8_voice_14 (tg := 24) (by decide) rfl hw (fun hw => ?_) (fun hw => ?_)
    · refine x_aload_0 hg dX8_voice_24 rfl ?_
      refine x_ic hg dX8_voice_25 ic_0 rfl ?_
      refine put_X8_21 hg kM_0 fl_X8_229 dX8_voice_26 rfl hw (fun s3 hw => ?_)
      refine x_aload_0 hg dX8_voice_29 rfl ?_
      refine x_ic hg dX8_voice_30 ic_0 rfl ?_
      refine put_X8_22 hg kM_0 (by decide) fl_X8_256 dX8_voice_31 rfl hw (fun s4 hw => ?_)
      refine x_iload_2 hg dX8_voice_34 rfl ?_
      refine x_if_ne hg dX8_voice_35 (tg := 47) (by decide) rfl hw (fun hw => ?_) (fun hw => ?_)
      · refine x_iload_2 hg dX8_voice_47 rfl ?_
        refine x_ic hg dX8_voice_48 ic_1 rfl ?_
        refine x_icmp_ne hg dX8_voice_49 (tg := 61) (by decide) rfl hw (fun hw => ?_) (fun hw => ?_)
        · refine x_iload_2 hg dX8_voice_61 rfl ?_
          refine x_ic hg dX8_voice_62 ic_2 rfl ?_
          refine x_icmp_ne hg dX8_voice_63 (tg := 75) (by decide) rfl hw (fun hw => ?_) (fun hw => ?_)
          · refine x_aload_0 hg dX8_voice_75 rfl ?_
            refine x_iload_1 hg dX8_voice_76 rfl ?_
            refine x_iload_3 hg dX8_voice_77 rfl ?_
            refine x_callVI hg (xM_parts (gL g)  hw) kM_0 (by decide) rfl im_X8_parts se_X8_parts mi_X8_parts ml_X8_265 rfl rfl (As := [.int a1, .int a3]) rfl rfl rfl dX8_voice_78 rfl (fun r3 s5 hw => ?_)
            refine x_istore_4 hg dX8_voice_81 rfl rfl rfl ?_
            refine x_aload_0 hg dX8_voice_83 rfl ?_
            refine get_X8_22 hg kM_0 fl_X8_256 dX8_voice_84 rfl ?_
            refine x_if_eq hg dX8_voice_87 (tg := 100) (by decide) rfl hw (fun hw => ?_) (fun hw => ?_)
            · refine x_iload_4 hg dX8_voice_100 rfl ?_
              exact x_ret hg dX8_voice_102 hw
            · refine x_aload_0 hg dX8_voice_90 rfl ?_
              refine x_ldcw hg kc_X8_268 dX8_voice_91 rfl ?_
              refine x_callVI hg (xM_error (gL g)  hw) kM_0 (by decide) rfl im_X8_error se_X8_error mi_X8_error ml_X8_78 rfl rfl (As := [.int (-1000000006)]) rfl rfl rfl dX8_voice_94 rfl (fun r4 s6 hw => ?_)
              refine x_goto hg dX8_voice_97 (pc' := 102) (by decide) ?_
              exact x_ret hg dX8_voice_102 hw
          · refine x_aload_0 hg dX8_voice_66 rfl ?_
            refine x_iload_1 hg dX8_voice_67 rfl ?_
            refine x_iload_3 hg dX8_voice_68 rfl ?_
            refine x_callVI hg (xM_rings (gL g)  hw) kM_0 (by decide) rfl im_X8_rings se_X8_rings mi_X8_rings ml_X8_262 rfl rfl (As := [.int a1, .int a3]) rfl rfl rfl dX8_voice_69 rfl (fun r3 s5 hw => ?_)
            refine x_goto hg dX8_voice_72 (pc' := 81) (by decide) ?_
            refine x_istore_4 hg dX8_voice_81 rfl rfl rfl ?_
            refine x_aload_0 hg dX8_voice_83 rfl ?_
            refine get_X8_22 hg kM_0 fl_X8_256 dX8_voice_84 rfl ?_
            refine x_if_eq hg dX8_voice_87 (tg := 100) (by decide) rfl hw (fun hw => ?_) (fun hw => ?_)
            · refine x_iload_4 hg dX8_voice_100 rfl ?_
              exact x_ret hg dX8_voice_102 hw
            · refine x_aload_0 hg dX8_voice_90 rfl ?_
              refine x_ldcw hg kc_X8_268 dX8_voice_91 rfl ?_
              refine x_callVI hg (xM_error (gL g)  hw) kM_0 (by decide) rfl im_X8_error se_X8_error mi_X8_error ml_X8_78 rfl rfl (As := [.int (-1000000006)]) rfl rfl rfl dX8_voice_94 rfl (fun r4 s6 hw => ?_)
              refine x_goto hg dX8_voice_97 (pc' := 102) (by decide) ?_
              exact x_ret hg dX8_voice_102 hw
        · refine x_aload_0 hg dX8_voice_52 rfl ?_
          refine x_iload_1 hg dX8_voice_53 rfl ?_
          refine x_iload_3 hg dX8_voice_54 rfl ?_
          refine x_callVI hg (xM_rustles (gL g)  hw) kM_0 (by decide) rfl im_X8_rustles se_X8_rustles mi_X8_rustles ml_X8_250 rfl rfl (As := [.int a1, .int a3]) rfl rfl rfl dX8_voice_55 rfl (fun r3 s5 hw => ?_)
          refine x_goto hg dX8_voice_58 (pc' := 81) (by decide) ?_
          refine x_istore_4 hg dX8_voice_81 rfl rfl rfl ?_
          refine x_aload_0 hg dX8_voice_83 rfl ?_
          refine get_X8_22 hg kM_0 fl_X8_256 dX8_voice_84 rfl ?_
          refine x_if_eq hg dX8_voice_87 (tg := 100) (by decide) rfl hw (fun hw => ?_) (fun hw => ?_)
          · refine x_iload_4 hg dX8_voice_100 rfl ?_
            exact x_ret hg dX8_voice_102 hw
          · refine x_aload_0 hg dX8_voice_90 rfl ?_
            refine x_ldcw hg kc_X8_268 dX8_voice_91 rfl ?_
            refine x_callVI hg (xM_error (gL g)  hw) kM_0 (by decide) rfl im_X8_error se_X8_error mi_X8_error ml_X8_78 rfl rfl (As := [.int (-1000000006)]) rfl rfl rfl dX8_voice_94 rfl (fun r4 s6 hw => ?_)
            refine x_goto hg dX8_voice_97 (pc' := 102) (by decide) ?_
            exact x_ret hg dX8_voice_102 hw
      · refine x_aload_0 hg dX8_voice_38 rfl ?_
        refine x_iload_1 hg dX8_voice_39 rfl ?_
        refine x_iload_3 hg dX8_voice_40 rfl ?_
        refine x_callVI hg (xM_rattles (gL g)  hw) kM_0 (by decide) rfl im_X8_rattles se_X8_rattles mi_X8_rattles ml_X8_241 rfl rfl (As := [.int a1, .int a3]) rfl rfl rfl dX8_voice_41 rfl (fun r3 s5 hw => ?_)
        refine x_goto hg dX8_voice_44 (pc' := 81) (by decide) ?_
        refine x_istore_4 hg dX8_voice_81 rfl rfl rfl ?_
        refine x_aload_0 hg dX8_voice_83 rfl ?_
        refine get_X8_22 hg kM_0 fl_X8_256 dX8_voice_84 rfl ?_
        refine x_if_eq hg dX8_voice_87 (tg := 100) (by decide) rfl hw (fun hw => ?_) (fun hw => ?_)
        · refine x_iload_4 hg dX8_voice_100 rfl ?_
          exact x_ret hg dX8_voice_102 hw
        · refine x_aload_0 hg dX8_voice_90 rfl ?_
          refine x_ldcw hg kc_X8_268 dX8_voice_91 rfl ?_
          refine x_callVI hg (xM_error (gL g)  hw) kM_0 (by decide) rfl im_X8_error se_X8_error mi_X8_error ml_X8_78 rfl rfl (As := [.int (-1000000006)]) rfl rfl rfl dX8_voice_94 rfl (fun r4 s6 hw => ?_)
          refine x_goto hg dX8_voice_97 (pc' := 102) (by decide) ?_
          exact x_ret hg dX8_voice_102 hw
    · refine x_aload_0 hg dX8_voice_17 rfl ?_
      refine x_ldc hg kc_X8_77 dX8_voice_18 rfl ?_
      refine x_callVI hg (xM_error (gL g)  hw) kM_0 (by decide) rfl im_X8_error se_X8_error mi_X8_error ml_X8_78 rfl rfl (As := [.int (-1000000001)]) rfl rfl rfl dX8_voice_20 rfl (fun r3 s3 hw => ?_)
      exact x_ret hg dX8_voice_23 hw
def wM_body (a1 : Int32) (s0 : Sg) (P : Int32 → Sg → Prop) : Prop := (wM_in a1 0 (((s0 0 21) - 1)) s0 (fun (r1 : Int32) (s1 : Sg) => ((r1 = 0 → (wM_error ((-1000000002)) s1 (fun (r2 : Int32) (s2 : Sg) => P r2 s2))) ∧ (¬ r1 = 0 → (vp_in a1 30 ∧ P ((s1 14 (ix a1))) s1)))))
set_option maxRecDepth 100000 in
set_option maxHeartbeats 4000000 in
theorem xM_body {w : Wc} (l : Launch) {a1 : Int32} {s0 : Sg} {P : Int32 → Sg → Prop} (hw : wM_body a1 s0 P) : CI shM w l 2 (.code yX8_body cX8_body 2 (some .int)) yX8_body [.ref (ad w 0), .int a1] s0 P := by
  refine ci_of_i (own := "BagBottomModel") (ls0 := [some (.ref (ad w 0)), some (.int a1)]) rfl pn_X8 rfl rfl (fun g el hg => ?_)
  unfold wM_body at hw
  refine x_iload_1 hg dX8_body_0 rfl ?_
  refine x_ic hg dX8_body_1 ic_0 rfl ?_
  refine x_aload_0 hg dX8_body_2 rfl ?_
  refine get_X8_21 hg kM_0 fl_X8_229 dX8_body_3 rfl ?_
  refine x_ic hg dX8_body_6 ic_1 rfl ?_
  refine x_isub hg dX8_body_7 rfl ?_
  refine x_callSI hg (xM_in (gL g)  hw) sm_X8_in mi_X8_in ml_X8_57 rfl rfl (As := [.int a1, .int 0, .int ((s0 0 21) - 1)]) rfl rfl rfl dX8_body_8 rfl (fun r1 s1 hw => ?_)
  refine x_if_eq hg dX8_body_11 (tg := 23) (by decide) rfl hw (fun hw => ?_) (fun hw => ?_)
  · refine x_aload_0 hg dX8_body_23 rfl ?_
    refine x_ldc hg kc_X8_203 dX8_body_24 rfl ?_
    refine x_callVI hg (xM_error (gL g)  hw) kM_0 (by decide) rfl im_X8_error se_X8_error mi_X8_error ml_X8_78 rfl rfl (As := [.int (-1000000002)]) rfl rfl rfl dX8_body_26 rfl (fun r2 s2 hw => ?_)
    exact x_ret hg dX8_body_29 hw
  · refine x_aload_0 hg dX8_body_14 rfl ?_
    refine get_X8_20 hg kM_0 fl_X8_49 dX8_body_15 rfl (k2 := 14) rfl ?_
    refine x_iload_1 hg dX8_body_18 rfl ?_
    refine x_iald hg kM_14 rfl dX8_body_19 rfl hw (fun hw => ?_)
    refine x_goto hg dX8_body_20 (pc' := 29) (by decide) ?_
    exact x_ret hg dX8_body_29 hw
