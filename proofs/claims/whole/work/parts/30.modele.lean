def wM_sheet_93 (f1 : Int32) (K119 : Sg → Prop) : Nat → Int32 → Sg → Prop
  | 0, _, _ => False
  | n + 1, a4, s0 => ((24 ≤ a4 → K119  s0) ∧ (¬ 24 ≤ a4 → (vp_in (((24 * f1) + a4)) 96 ∧ ∀ s1 : Sg, s1 = u2 s0 7 (ix (((24 * f1) + a4))) 0 → wM_sheet_93 f1 K119 n ((a4 + 1)) s1)))
def wM_sheet (a1 : Int32) (a2 : Int32) (a3 : Int32) (s0 : Sg) (P : Int32 → Sg → Prop) : Prop := (wM_isSheet a1 s0 (fun (r1 : Int32) (s1 : Sg) => ((r1 = 0 → (wM_error ((-1000000001)) s1 (fun (r2 : Int32) (s2 : Sg) => P r2 s2))) ∧ (¬ r1 = 0 → ((a2 = 0 → ((a2 ≤ 0 → ((a2 ≤ 0 → (vp_in a1 4 ∧ ∀ s2 : Sg, s2 = u2 s1 5 (ix a1) a2 → ((¬ a2 = 0 → (vp_in a1 4 ∧ ∀ s3 : Sg, s3 = u2 s2 6 (ix a1) a3 → (∃ N1 : Nat, wM_sheet_93 a1 (fun  (s4 : Sg) => P 1 s4) N1 0 s3))) ∧ (a2 = 0 → (vp_in a1 4 ∧ ∀ s3 : Sg, s3 = u2 s2 6 (ix a1) 0 → (∃ N1 : Nat, wM_sheet_93 a1 (fun  (s4 : Sg) => P 1 s4) N1 0 s3)))))) ∧ (¬ a2 ≤ 0 → ((a3 ≤ 24 → (vp_in a1 4 ∧ ∀ s2 : Sg, s2 = u2 s1 5 (ix a1) a2 → ((¬ a2 = 0 → (vp_in a1 4 ∧ ∀ s3 : Sg, s3 = u2 s2 6 (ix a1) a3 → (∃ N1 : Nat, wM_sheet_93 a1 (fun  (s4 : Sg) => P 1 s4) N1 0 s3))) ∧ (a2 = 0 → (vp_in a1 4 ∧ ∀ s3 : Sg, s3 = u2 s2 6 (ix a1) 0 → (∃ N1 : Nat, wM_sheet_93 a1 (fun  (s4 : Sg) => P 1 s4) N1 0 s3)))))) ∧ (¬ a3 ≤ 24 → (wM_error ((-1000000001)) s1 (fun (r2 : Int32) (s2 : Sg) => P r2 s2))))))) ∧ (¬ a2 ≤ 0 → ((0 ≤ a3 → ((a2 ≤ 0 → (vp_in a1 4 ∧ ∀ s2 : Sg, s2 = u2 s1 5 (ix a1) a2 → ((¬ a2 = 0 → (vp_in a1 4 ∧ ∀ s3 : Sg, s3 = u2 s2 6 (ix a1) a3 → (∃ N1 : Nat, wM_sheet_93 a1 (fun  (s4 : Sg) => P 1 s4) N1 0 s3))) ∧ (a2 = 0 → (vp_in a1 4 ∧ ∀ s3 : Sg, s3 = u2 s2 6 (ix a1) 0 → (∃ N1 : Nat, wM_sheet_93 a1 (fun  (s4 : Sg) => P 1 s4) N1 0 s3)))))) ∧ (¬ a2 ≤ 0 → ((a3 ≤ 24 → (vp_in a1 4 ∧ ∀ s2 : Sg, s2 = u2 s1 5 (ix a1) a2 → ((¬ a2 = 0 → (vp_in a1 4 ∧ ∀ s3 : Sg, s3 = u2 s2 6 (ix a1) a3 → (∃ N1 : Nat, wM_sheet_93 a1 (fun  (s4 : Sg) => P 1 s4) N1 0 s3))) ∧ (a2 = 0 → (vp_in a1 4 ∧ ∀ s3 : Sg, s3 = u2 s2 6 (ix a1) 0 → (∃ N1 : Nat, wM_sheet_93 a1 (fun  (s4 : Sg) => P 1 s4) N1 0 s3)))))) ∧ (¬ a3 ≤ 24 → (wM_error ((-1000000001)) s1 (fun (r2 : Int32) (s2 : Sg) => P r2 s2))))))) ∧ (¬ 0 ≤ a3 → (wM_error ((-1000000003)) s1 (fun (r2 : Int32) (s2 : Sg) => P r2 s2))))))) ∧ (¬ a2 = 0 → ((a2 = 8 → ((a2 ≤ 0 → ((a2 ≤ 0 → (vp_in a1 4 ∧ ∀ s2 : Sg, s2 = u2 s1 5 (ix a1) a2 → ((¬ a2 = 0 → (vp_in a1 4 ∧ ∀ s3 : Sg, s3 = u2 s2 6 (ix a1) a3 → (∃ N1 : Nat, wM_sheet_93 a1 (fun  (s4 : Sg) => P 1 s4) N1 0 s3))) ∧ (a2 = 0 → (vp_in a1 4 ∧ ∀ s3 : Sg, s3 = u2 s2 6 (ix a1) 0 → (∃ N1 : Nat, wM_sheet_93 a1 (fun  (s4 : Sg) => P 1 s4) N1 0 s3)))))) ∧ (¬ a2 ≤ 0 → ((a3 ≤ 24 → (vp_in a1 4 ∧ ∀ s2 : Sg, s2 = u2 s1 5 (ix a1) a2 → ((¬ a2 = 0 → (vp_in a1 4 ∧ ∀ s3 : Sg, s3 = u2 s2 6 (ix a1) a3 → (∃ N1 : Nat, wM_sheet_93 a1 (fun  (s4 : Sg) => P 1 s4) N1 0 s3))) ∧ (a2 = 0 → (vp_in a1 4 ∧ ∀ s3 : Sg, s3 = u2 s2 6 (ix a1) 0 → (∃ N1 : Nat, wM_sheet_93 a1 (fun  (s4 : Sg) => P 1 s4) N1 0 s3)))))) ∧ (¬ a3 ≤ 24 → (wM_error ((-1000000001)) s1 (fun (r2 : Int32) (s2 : Sg) => P r2 s2))))))) ∧ (¬ a2 ≤ 0 → ((0 ≤ a3 → ((a2 ≤ 0 → (vp_in a1 4 ∧ ∀ s2 : Sg, s2 = u2 s1 5 (ix a1) a2 → ((¬ a2 = 0 → (vp_in a1 4 ∧ ∀ s3 : Sg, s3 = u2 s2 6 (ix a1) a3 → (∃ N1 : Nat, wM_sheet_93 a1 (fun  (s4 : Sg) => P 1 s4) N1 0 s3))) ∧ (a2 = 0 → (vp_in a1 4 ∧ ∀ s3 : Sg, s3 = u2 s2 6 (ix a1) 0 → (∃ N1 : Nat, wM_sheet_93 a1 (fun  (s4 : Sg) => P 1 s4) N1 0 s3)))))) ∧ (¬ a2 ≤ 0 → ((a3 ≤ 24 → (vp_in a1 4 ∧ ∀ s2 : Sg, s2 = u2 s1 5 (ix a1) a2 → ((¬ a2 = 0 → (vp_in a1 4 ∧ ∀ s3 : Sg, s3 = u2 s2 6 (ix a1) a3 → (∃ N1 : Nat, wM_sheet_93 a1 (fun  (s4 : Sg) => P 1 s4) N1 0 s3))) ∧ (a2 = 0 → (vp_in a1 4 ∧ ∀ s3 : Sg, s3 = u2 s2 6 (ix a1) 0 → (∃ N1 : Nat, wM_sheet_93 a1 (fun  (s4 : Sg) => P 1 s4) N1 0 s3)))))) ∧ (¬ a3 ≤ 24 → (wM_error ((-1000000001)) s1 (fun (r2 : Int32) (s2 : Sg) => P r2 s2))))))) ∧ (¬ 0 ≤ a3 → (wM_error ((-1000000003)) s1 (fun (r2 : Int32) (s2 : Sg) => P r2 s2))))))) ∧ (¬ a2 = 8 → ((a2 = 16 → ((a2 ≤ 0 → ((a2 ≤ 0 → (vp_in a1 4 ∧ ∀ s2 : Sg, s2 = u2 s1 5 (ix a1) a2 → ((¬ a2 = 0 → (vp_in a1 4 ∧ ∀ s3 : Sg, s3 = u2 s2 6 (ix a1) a3 → (∃ N1 : Nat, wM_sheet_93 a1 (fun  (s4 : Sg) => P 1 s4) N1 0 s3))) ∧ (a2 = 0 → (vp_in a1 4 ∧ ∀ s3 : Sg, s3 = u2 s2 6 (ix a1) 0 → (∃ N1 : Nat, wM_sheet_93 a1 (fun  (s4 : Sg) => P 1 s4) N1 0 s3)))))) ∧ (¬ a2 ≤ 0 → ((a3 ≤ 24 → (vp_in a1 4 ∧ ∀ s2 : Sg, s2 = u2 s1 5 (ix a1) a2 → ((¬ a2 = 0 → (vp_in a1 4 ∧ ∀ s3 : Sg, s3 = u2 s2 6 (ix a1) a3 → (∃ N1 : Nat, wM_sheet_93 a1 (fun  (s4 : Sg) => P 1 s4) N1 0 s3))) ∧ (a2 = 0 → (vp_in a1 4 ∧ ∀ s3 : Sg, s3 = u2 s2 6 (ix a1) 0 → (∃ N1 : Nat, wM_sheet_93 a1 (fun  (s4 : Sg) => P 1 s4) N1 0 s3)))))) ∧ (¬ a3 ≤ 24 → (wM_error ((-1000000001)) s1 (fun (r2 : Int32) (s2 : Sg) => P r2 s2))))))) ∧ (¬ a2 ≤ 0 → ((0 ≤ a3 → ((a2 ≤ 0 → (vp_in a1 4 ∧ ∀ s2 : Sg, s2 = u2 s1 5 (ix a1) a2 → ((¬ a2 = 0 → (vp_in a1 4 ∧ ∀ s3 : Sg, s3 = u2 s2 6 (ix a1) a3 → (∃ N1 : Nat, wM_sheet_93 a1 (fun  (s4 : Sg) => P 1 s4) N1 0 s3))) ∧ (a2 = 0 → (vp_in a1 4 ∧ ∀ s3 : Sg, s3 = u2 s2 6 (ix a1) 0 → (∃ N1 : Nat, wM_sheet_93 a1 (fun  (s4 : Sg) => P 1 s4) N1 0 s3)))))) ∧ (¬ a2 ≤ 0 → ((a3 ≤ 24 → (vp_in a1 4 ∧ ∀ s2 : Sg, s2 = u2 s1 5 (ix a1) a2 → ((¬ a2 = 0 → (vp_in a1 4 ∧ ∀ s3 : Sg, s3 = u2 s2 6 (ix a1) a3 → (∃ N1 : Nat, wM_sheet_93 a1 (fun  (s4 : Sg) => P 1 s4) N1 0 s3))) ∧ (a2 = 0 → (vp_in a1 4 ∧ ∀ s3 : Sg, s3 = u2 s2 6 (ix a1) 0 → (∃ N1 : Nat, wM_sheet_93 a1 (fun  (s4 : Sg) => P 1 s4) N1 0 s3)))))) ∧ (¬ a3 ≤ 24 → (wM_error ((-1000000001)) s1 (fun (r2 : Int32) (s2 : Sg) => P r2 s2))))))) ∧ (¬ 0 ≤ a3 → (wM_error ((-1000000003)) s1 (fun (r2 : Int32) (s2 : Sg) => P r2 s2))))))) ∧ (¬ a2 = 16 → ((a2 = 32 → ((a2 ≤ 0 → ((a2 ≤ 0 → (vp_in a1 4 ∧ ∀ s2 : Sg, s2 = u2 s1 5 (ix a1) a2 → ((¬ a2 = 0 → (vp_in a1 4 ∧ ∀ s3 : Sg, s3 = u2 s2 6 (ix a1) a3 → (∃ N1 : Nat, wM_sheet_93 a1 (fun  (s4 : Sg) => P 1 s4) N1 0 s3))) ∧ (a2 = 0 → (vp_in a1 4 ∧ ∀ s3 : Sg, s3 = u2 s2 6 (ix a1) 0 → (∃ N1 : Nat, wM_sheet_93 a1 (fun  (s4 : Sg) => P 1 s4) N1 0 s3)))))) ∧ (¬ a2 ≤ 0 → ((a3 ≤ 24 → (vp_in a1 4 ∧ ∀ s2 : Sg, s2 = u2 s1 5 (ix a1) a2 → ((¬ a2 = 0 → (vp_in a1 4 ∧ ∀ s3 : Sg, s3 = u2 s2 6 (ix a1) a3 → (∃ N1 : Nat, wM_sheet_93 a1 (fun  (s4 : Sg) => P 1 s4) N1 0 s3))) ∧ (a2 = 0 → (vp_in a1 4 ∧ ∀ s3 : Sg, s3 = u2 s2 6 (ix a1) 0 → (∃ N1 : Nat, wM_sheet_93 a1 (fun  (s4 : Sg) => P 1 s4) N1 0 s3)))))) ∧ (¬ a3 ≤ 24 → (wM_error ((-1000000001)) s1 (fun (r2 : Int32) (s2 : Sg) => P r2 s2))))))) ∧ (¬ a2 ≤ 0 → ((0 ≤ a3 → ((a2 ≤ 0 → (vp_in a1 4 ∧ ∀ s2 : Sg, s2 = u2 s1 5 (ix a1) a2 → ((¬ a2 = 0 → (vp_in a1 4 ∧ ∀ s3 : Sg, s3 = u2 s2 6 (ix a1) a3 → (∃ N1 : Nat, wM_sheet_93 a1 (fun  (s4 : Sg) => P 1 s4) N1 0 s3))) ∧ (a2 = 0 → (vp_in a1 4 ∧ ∀ s3 : Sg, s3 = u2 s2 6 (ix a1) 0 → (∃ N1 : Nat, wM_sheet_93 a1 (fun  (s4 : Sg) => P 1 s4) N1 0 s3)))))) ∧ (¬ a2 ≤ 0 → ((a3 ≤ 24 → (vp_in a1 4 ∧ ∀ s2 : Sg, s2 = u2 s1 5 (ix a1) a2 → ((¬ a2 = 0 → (vp_in a1 4 ∧ ∀ s3 : Sg, s3 = u2 s2 6 (ix a1) a3 → (∃ N1 : Nat, wM_sheet_93 a1 (fun  (s4 : Sg) => P 1 s4) N1 0 s3))) ∧ (a2 = 0 → (vp_in a1 4 ∧ ∀ s3 : Sg, s3 = u2 s2 6 (ix a1) 0 → (∃ N1 : Nat, wM_sheet_93 a1 (fun  (s4 : Sg) => P 1 s4) N1 0 s3)))))) ∧ (¬ a3 ≤ 24 → (wM_error ((-1000000001)) s1 (fun (r2 : Int32) (s2 : Sg) => P r2 s2))))))) ∧ (¬ 0 ≤ a3 → (wM_error ((-1000000003)) s1 (fun (r2 : Int32) (s2 : Sg) => P r2 s2))))))) ∧ (¬ a2 = 32 → (wM_error ((-1000000001)) s1 (fun (r2 : Int32) (s2 : Sg) => P r2 s2))))))))))))))
set_option maxRecDepth 100000 in
set_option maxHeartbeats 4000000 in
theorem xM_sheet_93 {w : Wc} {g : Gx} {Q : State → Prop} {f1 : Int32} {K119 : Sg → Prop} (hg : OK shM w g 3 cX8_sheet "BagBottomModel" 5 (some .int)) (hK119 : ∀ (s0 : Sg), K119  s0 → X shM w g Q 119 [none, none, none, none, none] [] s0) : ∀ (n : Nat) (a4 : Int32) (s0 : Sg), wM_sheet_93 f1 K119 n a4 s0 → X shM w g Q 93 [some (.ref (ad w 0)), some (.int f1), none, none, some (.int a4)] [] s0 := by
  intro n
  induction n with
  | zero =>
    intro a4 s0 hw
    exact hw.elim
  | succ n ih =>
    intro a4 s0 hw
    rw [wM_sheet_93] at hw
    refine x_iload_4 hg dX8_sheet_93 rfl ?_
    refine x_bi hg dX8_sheet_95 bp_24 rfl ?_
    refine x_icmp_ge hg dX8_sheet_97 (tg := 119) (by decide) rfl hw (fun hw => ?_) (fun hw => ?_)
    · refine x_drop_0 ?_
      refine x_drop_1 ?_
      refine x_drop_4 ?_
      exact hK119  _ hw
    · refine x_aload_0 hg dX8_sheet_100 rfl ?_
      refine get_X8_7 hg kM_0 fl_X8_28 dX8_sheet_101 rfl (k2 := 7) rfl ?_
      refine x_bi hg dX8_sheet_104 bp_24 rfl ?_
      refine x_iload_1 hg dX8_sheet_106 rfl ?_
      refine x_imul hg dX8_sheet_107 rfl ?_
      refine x_iload_4 hg dX8_sheet_108 rfl ?_
      refine x_iadd hg dX8_sheet_110 rfl ?_
      refine x_ic hg dX8_sheet_111 ic_0 rfl ?_
      refine x_iast hg kM_7 rfl dX8_sheet_112 rfl hw (fun s1 hw => ?_)
      refine x_iinc_4 hg dX8_sheet_113 ic_1 rfl rfl rfl ?_
      refine x_goto hg dX8_sheet_116 (pc' := 93) (by decide) ?_
      exact ih _ _ hw
set_option maxRecDepth 100000 in
set_option maxHeartbeats 4000000 in
theorem xM_sheet {w : Wc} (l : Launch) {a1 : Int32} {a2 : Int32} {a3 : Int32} {s0 : Sg} {P : Int32 → Sg → Prop} (hw : wM_sheet a1 a2 a3 s0 P) : CI shM w l 3 (.code yX8_sheet cX8_sheet 5 (some .int)) yX8_sheet [.ref (ad w 0), .int a1, .int a2, .int a3] s0 P := by
  refine ci_of_i (own := "BagBottomModel") (ls0 := [some (.ref (ad w 0)), some (.int a1), some (.int a2), some (.int a3), none]) rfl pn_X8 rfl rfl (fun g el hg => ?_)
  unfold wM_sheet at hw
  refine x_iload_1 hg dX8_sheet_0 rfl ?_
  refine x_callSI hg (xM_isSheet (gL g)  hw) sm_X8_isSheet mi_X8_isSheet ml_X8_269 rfl rfl (As := [.int a1]) rfl rfl rfl dX8_sheet_1 rfl (fun r1 s1 hw => ?_)
  refine x_if_eq hg dX8_sheet_4 (tg := 29) (by decide) rfl hw (fun hw => ?_) (fun hw => ?_)
  · refine x_aload_0 hg dX8_sheet_29 rfl ?_
    refine x_ldc hg kc_X8_77 dX8_sheet_30 rfl ?_
    refine x_callVI hg (xM_error (gL g)  hw) kM_0 (by decide) rfl im_X8_error se_X8_error mi_X8_error ml_X8_78 rfl rfl (As := [.int (-1000000001)]) rfl rfl rfl dX8_sheet_32 rfl (fun r2 s2 hw => ?_)
    exact x_ret hg dX8_sheet_35 hw
  · refine x_iload_2 hg dX8_sheet_7 rfl ?_
    refine x_if_eq hg dX8_sheet_8 (tg := 36) (by decide) rfl hw (fun hw => ?_) (fun hw => ?_)
    · refine x_iload_2 hg dX8_sheet_36 rfl ?_
      refine x_if_le hg dX8_sheet_37 (tg := 51) (by decide) rfl hw (fun hw => ?_) (fun hw => ?_)
      · refine x_iload_2 hg dX8_sheet_51 rfl ?_
        refine x_if_le hg dX8_sheet_52 (tg := 68) (by decide) rfl hw (fun hw => ?_) (fun hw => ?_)
        · refine x_aload_0 hg dX8_sheet_68 rfl ?_
          refine get_X8_5 hg kM_0 fl_X8_22 dX8_sheet_69 rfl (k2 := 5) rfl ?_
          refine x_iload_1 hg dX8_sheet_72 rfl ?_
          refine x_iload_2 hg dX8_sheet_73 rfl ?_
          refine x_iast hg kM_5 rfl dX8_sheet_74 rfl hw (fun s2 hw => ?_)
          refine x_aload_0 hg dX8_sheet_75 rfl ?_
          refine get_X8_6 hg kM_0 fl_X8_25 dX8_sheet_76 rfl (k2 := 6) rfl ?_
          refine x_iload_1 hg dX8_sheet_79 rfl ?_
          refine x_iload_2 hg dX8_sheet_80 rfl ?_
          refine x_if_ne hg dX8_sheet_81 (tg := 88) (by decide) rfl hw (fun hw => ?_) (fun hw => ?_)
          · refine x_iload_3 hg dX8_sheet_88 rfl ?_
            refine x_iast hg kM_6 rfl dX8_sheet_89 rfl hw (fun s3 hw => ?_)
            refine x_ic hg dX8_sheet_90 ic_0 rfl ?_
            refine x_istore_4 hg dX8_sheet_91 rfl rfl rfl ?_
            refine x_drop_2 ?_
            refine x_drop_3 ?_
            obtain ⟨N1, hw⟩ := hw
            refine xM_sheet_93 hg  (fun  s4 hw => ?_) _ _ _ hw
            · refine x_ic hg dX8_sheet_119 ic_1 rfl ?_
              exact x_ret hg dX8_sheet_120 hw
          · refine x_ic hg dX8_sheet_84 ic_0 rfl ?_
            refine x_goto hg dX8_sheet_85 (pc' := 89) (by decide) ?_
            refine x_iast hg kM_6 rfl dX8_sheet_89 rfl hw (fun s3 hw => ?_)
            refine x_ic hg dX8_sheet_90 ic_0 rfl ?_
            refine x_istore_4 hg dX8_sheet_91 rfl rfl rfl ?_
            refine x_drop_2 ?_
            refine x_drop_3 ?_
            obtain ⟨N1, hw⟩ := hw
            refine xM_sheet_93 hg  (fun  s4 hw => ?_) _ _ _ hw
            · refine x_ic hg dX8_sheet_119 ic_1 rfl ?_
              exact x_ret hg dX8_sheet_120 hw
        · refine x_iload_3 hg dX8_sheet_55 rfl ?_
          refine x_bi hg dX8_sheet_56 bp_24 rfl ?_
          refine x_icmp_le hg dX8_sheet_58 (tg := 68) (by decide) rfl hw (fun hw => ?_) (fun hw => ?_)
          · refine x_aload_0 hg dX8_sheet_68 rfl ?_
            refine get_X8_5 hg kM_0 fl_X8_22 dX8_sheet_69 rfl (k2 := 5) rfl ?_
            refine x_iload_1 hg dX8_sheet_72 rfl ?_
            refine x_iload_2 hg dX8_sheet_73 rfl ?_
            refine x_iast hg kM_5 rfl dX8_sheet_74 rfl hw (fun s2 hw => ?_)
            refine x_aload_0 hg dX8_sheet_75 rfl ?_
            refine get_X8_6 hg kM_0 fl_X8_25 dX8_sheet_76 rfl (k2 := 6) rfl ?_
            refine x_iload_1 hg dX8_sheet_79 rfl ?_
            refine x_iload_2 hg dX8_sheet_80 rfl ?_
            refine x_if_ne hg dX8_sheet_81 (tg := 88) (by decide) rfl hw (fun hw => ?_) (fun hw => ?_)
            · refine x_iload_3 hg dX8_sheet_88 rfl ?_
              refine x_iast hg kM_6 rfl dX8_sheet_89 rfl hw (fun s3 hw => ?_)
              refine x_ic hg dX8_sheet_90 ic_0 rfl ?_
              refine x_istore_4 hg dX8_sheet_91 rfl rfl rfl ?_
              refine x_drop_2 ?_
              refine x_drop_3 ?_
              obtain ⟨N1, hw⟩ := hw
              refine xM_sheet_93 hg  (fun  s4 hw => ?_) _ _ _ hw
              · refine x_ic hg dX8_sheet_119 ic_1 rfl ?_
                exact x_ret hg dX8_sheet_120 hw
            · refine x_ic hg dX8_sheet_84 ic_0 rfl ?_
              refine x_goto hg dX8_sheet_85 (pc' := 89) (by decide) ?_
              refine x_iast hg kM_6 rfl dX8_sheet_89 rfl hw (fun s3 hw => ?_)
              refine x_ic hg dX8_sheet_90 ic_0 rfl ?_
              refine x_istore_4 hg dX8_sheet_91 rfl rfl rfl ?_
              refine x_drop_2 ?_
              refine x_drop_3 ?_
              obtain ⟨N1, hw⟩ := hw
              refine xM_sheet_93 hg  (fun  s4 hw => ?_) _ _ _ hw
              · refine x_ic hg dX8_sheet_119 ic_1 rfl ?_
                exact x_ret hg dX8_sheet_120 hw
          · refine x_aload_0 hg dX8_sheet_61 rfl ?_
            refine x_ldc hg kc_X8_77 dX8_sheet_62 rfl ?_
            refine x_callVI hg (xM_error (gL g)  hw) kM_0 (by decide) rfl im_X8_error se_X8_error mi_X8_error ml_X8_78 rfl rfl (As := [.int (-1000000001)]) rfl rfl rfl dX8_sheet_64 rfl (fun r2 s2 hw => ?_)
            exact x_ret hg dX8_sheet_67 hw
      · refine x_iload_3 hg dX8_sheet_40 rfl ?_
        refine x_if_ge hg dX8_sheet_41 (tg := 51) (by decide) rfl hw (fun hw => ?_) (fun hw => ?_)
        · refine x_iload_2 hg dX8_sheet_51 rfl ?_
          refine x_if_le hg dX8_sheet_52 (tg := 68) (by decide) rfl hw (fun hw => ?_) (fun hw => ?_)
          · refine x_aload_0 hg dX8_sheet_68 rfl ?_
            refine get_X8_5 hg kM_0 fl_X8_22 dX8_sheet_69 rfl (k2 := 5) rfl ?_
            refine x_iload_1 hg dX8_sheet_72 rfl ?_
            refine x_iload_2 hg dX8_sheet_73 rfl ?_
            refine x_iast hg kM_5 rfl dX8_sheet_74 rfl hw (fun s2 hw => ?_)
            refine x_aload_0 hg dX8_sheet_75 rfl ?_
            refine get_X8_6 hg kM_0 fl_X8_25 dX8_sheet_76 rfl (k2 := 6) rfl ?_
            refine x_iload_1 hg dX8_sheet_79 rfl ?_
            refine x_iload_2 hg dX8_sheet_80 rfl ?_
            refine x_if_ne hg dX8_sheet_81 (tg := 88) (by decide) rfl hw (fun hw => ?_) (fun hw => ?_)
            · refine x_iload_3 hg dX8_sheet_88 rfl ?_
              refine x_iast hg kM_6 rfl dX8_sheet_89 rfl hw (fun s3 hw => ?_)
              refine x_ic hg dX8_sheet_90 ic_0 rfl ?_
              refine x_istore_4 hg dX8_sheet_91 rfl rfl rfl ?_
              refine x_drop_2 ?_
              refine x_drop_3 ?_
              obtain ⟨N1, hw⟩ := hw
              refine xM_sheet_93 hg  (fun  s4 hw => ?_) _ _ _ hw
              · refine x_ic hg dX8_sheet_119 ic_1 rfl ?_
                exact x_ret hg dX8_sheet_120 hw
            · refine x_ic hg dX8_sheet_84 ic_0 rfl ?_
              refine x_goto hg dX8_sheet_85 (pc' := 89) (by decide) ?_
              refine x_iast hg kM_6 rfl dX8_sheet_89 rfl hw (fun s3 hw => ?_)
              refine x_ic hg dX8_sheet_90 ic_0 rfl ?_
              refine x_istore_4 hg dX8_sheet_91 rfl rfl rfl ?_
              refine x_drop_2 ?_
              refine x_drop_3 ?_
              obtain ⟨N1, hw⟩ := hw
              refine xM_sheet_93 hg  (fun  s4 hw => ?_) _ _ _ hw
              · refine x_ic hg dX8_sheet_119 ic_1 rfl ?_
                exact x_ret hg dX8_sheet_120 hw
          · refine x_iload_3 hg dX8_sheet_55 rfl ?_
            refine x_bi hg dX8_sheet_56 bp_24 rfl ?_
            refine x_icmp_le hg dX8_sheet_58 (tg := 68) (by decide) rfl hw (fun hw => ?_) (fun hw => ?_)
            · refine x_aload_0 hg dX8_sheet_68 rfl ?_
              refine get_X8_5 hg kM_0 fl_X8_22 dX8_sheet_69 rfl (k2 := 5) rfl ?_
              refine x_iload_1 hg dX8_sheet_72 rfl ?_
              refine x_iload_2 hg dX8_sheet_73 rfl ?_
              refine x_iast hg kM_5 rfl dX8_sheet_74 rfl hw (fun s2 hw => ?_)
              refine x_aload_0 hg dX8_sheet_75 rfl ?_
              refine get_X8_6 hg kM_0 fl_X8_25 dX8_sheet_76 rfl (k2 := 6) rfl ?_
              refine x_iload_1 hg dX8_sheet_79 rfl ?_
              refine x_iload_2 hg dX8_sheet_80 rfl ?_
              refine x_if_ne hg dX8_sheet_81 (tg := 88) (by decide) rfl hw (fun hw => ?_) (fun hw => ?_)
              · refine x_iload_3 hg dX8_sheet_88 rfl ?_
                refine x_iast hg kM_6 rfl dX8_sheet_89 rfl hw (fun s3 hw => ?_)
                refine x_ic hg dX8_sheet_90 ic_0 rfl ?_
                refine x_istore_4 hg dX8_sheet_91 rfl rfl rfl ?_
                refine x_drop_2 ?_
                refine x_drop_3 ?_
                obtain ⟨N1, hw⟩ := hw
                refine xM_sheet_93 hg  (fun  s4 hw => ?_) _ _ _ hw
                · refine x_ic hg dX8_sheet_119 ic_1 rfl ?_
                  exact x_ret hg dX8_sheet_120 hw
              · refine x_ic hg dX8_sheet_84 ic_0 rfl ?_
                refine x_goto hg dX8_sheet_85 (pc' := 89) (by decide) ?_
                refine x_iast hg kM_6 rfl dX8_sheet_89 rfl hw (fun s3 hw => ?_)
                refine x_ic hg dX8_sheet_90 ic_0 rfl ?_
                refine x_istore_4 hg dX8_sheet_91 rfl rfl rfl ?_
                refine x_drop_2 ?_
                refine x_drop_3 ?_
                obtain ⟨N1, hw⟩ := hw
                refine xM_sheet_93 hg  (fun  s4 hw => ?_) _ _ _ hw
                · refine x_ic hg dX8_sheet_119 ic_1 rfl ?_
                  exact x_ret hg dX8_sheet_120 hw
            · refine x_aload_0 hg dX8_sheet_61 rfl ?_
              refine x_ldc hg kc_X8_77 dX8_sheet_62 rfl ?_
              refine x_callVI hg (xM_error (gL g)  hw) kM_0 (by decide) rfl im_X8_error se_X8_error mi_X8_error ml_X8_78 rfl rfl (As := [.int (-1000000001)]) rfl rfl rfl dX8_sheet_64 rfl (fun r2 s2 hw => ?_)
              exact x_ret hg dX8_sheet_67 hw
        · refine x_aload_0 hg dX8_sheet_44 rfl ?_
          refine x_ldc hg kc_X8_99 dX8_sheet_45 rfl ?_
          refine x_callVI hg (xM_error (gL g)  hw) kM_0 (by decide) rfl im_X8_error se_X8_error mi_X8_error ml_X8_78 rfl rfl (As := [.int (-1000000003)]) rfl rfl rfl dX8_sheet_47 rfl (fun r2 s2 hw => ?_)
          exact x_ret hg dX8_sheet_50 hw
    · refine x_iload_2 hg dX8_sheet_11 rfl ?_
      refine x_bi hg dX8_sheet_12 bp_8 rfl ?_
      refine x_icmp_eq hg dX8_sheet_14 (tg := 36) (by decide) rfl hw (fun hw => ?_) (fun hw => ?_)
      · refine x_iload_2 hg dX8_sheet_36 rfl ?_
        refine x_if_le hg dX8_sheet_37 (tg := 51) (by decide) rfl hw (fun hw => ?_) (fun hw => ?_)
        · refine x_iload_2 hg dX8_sheet_51 rfl ?_
          refine x_if_le hg dX8_sheet_52 (tg := 68) (by decide) rfl hw (fun hw => ?_) (fun hw => ?_)
          · refine x_aload_0 hg dX8_sheet_68 rfl ?_
            refine get_X8_5 hg kM_0 fl_X8_22 dX8_sheet_69 rfl (k2 := 5) rfl ?_
            refine x_iload_1 hg dX8_sheet_72 rfl ?_
            refine x_iload_2 hg dX8_sheet_73 rfl ?_
            refine x_iast hg kM_5 rfl dX8_sheet_74 rfl hw (fun s2 hw => ?_)
            refine x_aload_0 hg dX8_sheet_75 rfl ?_
            refine get_X8_6 hg kM_0 fl_X8_25 dX8_sheet_76 rfl (k2 := 6) rfl ?_
            refine x_iload_1 hg dX8_sheet_79 rfl ?_
            refine x_iload_2 hg dX8_sheet_80 rfl ?_
            refine x_if_ne hg dX8_sheet_81 (tg := 88) (by decide) rfl hw (fun hw => ?_) (fun hw => ?_)
            · refine x_iload_3 hg dX8_sheet_88 rfl ?_
              refine x_iast hg kM_6 rfl dX8_sheet_89 rfl hw (fun s3 hw => ?_)
              refine x_ic hg dX8_sheet_90 ic_0 rfl ?_
              refine x_istore_4 hg dX8_sheet_91 rfl rfl rfl ?_
              refine x_drop_2 ?_
              refine x_drop_3 ?_
              obtain ⟨N1, hw⟩ := hw
              refine xM_sheet_93 hg  (fun  s4 hw => ?_) _ _ _ hw
              · refine x_ic hg dX8_sheet_119 ic_1 rfl ?_
                exact x_ret hg dX8_sheet_120 hw
            · refine x_ic hg dX8_sheet_84 ic_0 rfl ?_
              refine x_goto hg dX8_sheet_85 (pc' := 89) (by decide) ?_
              refine x_iast hg kM_6 rfl dX8_sheet_89 rfl hw (fun s3 hw => ?_)
              refine x_ic hg dX8_sheet_90 ic_0 rfl ?_
              refine x_istore_4 hg dX8_sheet_91 rfl rfl rfl ?_
              refine x_drop_2 ?_
              refine x_drop_3 ?_
              obtain ⟨N1, hw⟩ := hw
              refine xM_sheet_93 hg  (fun  s4 hw => ?_) _ _ _ hw
              · refine x_ic hg dX8_sheet_119 ic_1 rfl ?_
                exact x_ret hg dX8_sheet_120 hw
          · refine x_iload_3 hg dX8_sheet_55 rfl ?_
            refine x_bi hg dX8_sheet_56 bp_24 rfl ?_
            refine x_icmp_le hg dX8_sheet_58 (tg := 68) (by decide) rfl hw (fun hw => ?_) (fun hw => ?_)
            · refine x_aload_0 hg dX8_sheet_68 rfl ?_
              refine get_X8_5 hg kM_0 fl_X8_22 dX8_sheet_69 rfl (k2 := 5) rfl ?_
              refine x_iload_1 hg dX8_sheet_72 rfl ?_
              refine x_iload_2 hg dX8_sheet_73 rfl ?_
              refine x_iast hg kM_5 rfl dX8_sheet_74 rfl hw (fun s2 hw => ?_)
              refine x_aload_0 hg dX8_sheet_75 rfl ?_
              refine get_X8_6 hg kM_0 fl_X8_25 dX8_sheet_76 rfl (k2 := 6) rfl ?_
              refine x_iload_1 hg dX8_sheet_79 rfl ?_
              refine x_iload_2 hg dX8_sheet_80 rfl ?_
              refine x_if_ne hg dX8_sheet_81 (tg := 88) (by decide) rfl hw (fun hw => ?_) (fun hw => ?_)
              · refine x_iload_3 hg dX8_sheet_88 rfl ?_
                refine x_iast hg kM_6 rfl dX8_sheet_89 rfl hw (fun s3 hw => ?_)
                refine x_ic hg dX8_sheet_90 ic_0 rfl ?_
                refine x_istore_4 hg dX8_sheet_91 rfl rfl rfl ?_
                refine x_drop_2 ?_
                refine x_drop_3 ?_
                obtain ⟨N1, hw⟩ := hw
                refine xM_sheet_93 hg  (fun  s4 hw => ?_) _ _ _ hw
                · refine x_ic hg dX8_sheet_119 ic_1 rfl ?_
                  exact x_ret hg dX8_sheet_120 hw
              · refine x_ic hg dX8_sheet_84 ic_0 rfl ?_
                refine x_goto hg dX8_sheet_85 (pc' := 89) (by decide) ?_
                refine x_iast hg kM_6 rfl dX8_sheet_89 rfl hw (fun s3 hw => ?_)
                refine x_ic hg dX8_sheet_90 ic_0 rfl ?_
                refine x_istore_4 hg dX8_sheet_91 rfl rfl rfl ?_
                refine x_drop_2 ?_
                refine x_drop_3 ?_
                obtain ⟨N1, hw⟩ := hw
                refine xM_sheet_93 hg  (fun  s4 hw => ?_) _ _ _ hw
                · refine x_ic hg dX8_sheet_119 ic_1 rfl ?_
                  exact x_ret hg dX8_sheet_120 hw
            · refine x_aload_0 hg dX8_sheet_61 rfl ?_
              refine x_ldc hg kc_X8_77 dX8_sheet_62 rfl ?_
              refine x_callVI hg (xM_error (gL g)  hw) kM_0 (by decide) rfl im_X8_error se_X8_error mi_X8_error ml_X8_78 rfl rfl (As := [.int (-1000000001)]) rfl rfl rfl dX8_sheet_64 rfl (fun r2 s2 hw => ?_)
              exact x_ret hg dX8_sheet_67 hw
        · refine x_iload_3 hg dX8_sheet_40 rfl ?_
          refine x_if_ge hg dX8_sheet_41 (tg := 51) (by decide) rfl hw (fun hw => ?_) (fun hw => ?_)
          · refine x_iload_2 hg dX8_sheet_51 rfl ?_
            refine x_if_le hg dX8_sheet_52 (tg := 68) (by decide) rfl hw (fun hw => ?_) (fun hw => ?_)
            · refine x_aload_0 hg dX8_sheet_68 rfl ?_
              refine get_X8_5 hg kM_0 fl_X8_22 dX8_sheet_69 rfl (k2 := 5) rfl ?_
              refine x_iload_1 hg dX8_sheet_72 rfl ?_
              refine x_iload_2 hg dX8_sheet_73 rfl ?_
              refine x_iast hg kM_5 rfl dX8_sheet_74 rfl hw (fun s2 hw => ?_)
              refine x_aload_0 hg dX8_sheet_75 rfl ?_
              refine get_X8_6 hg kM_0 fl_X8_25 dX8_sheet_76 rfl (k2 := 6) rfl ?_
              refine x_iload_1 hg dX8_sheet_79 rfl ?_
              refine x_iload_2 hg dX8_sheet_80 rfl ?_
              refine x_if_ne hg dX8_sheet_81 (tg := 88) (by decide) rfl hw (fun hw => ?_) (fun hw => ?_)
              · refine x_iload_3 hg dX8_sheet_88 rfl ?_
                refine x_iast hg kM_6 rfl dX8_sheet_89 rfl hw (fun s3 hw => ?_)
                refine x_ic hg dX8_sheet_90 ic_0 rfl ?_
                refine x_istore_4 hg dX8_sheet_91 rfl rfl rfl ?_
                refine x_drop_2 ?_
                refine x_drop_3 ?_
                obtain ⟨N1, hw⟩ := hw
                refine xM_sheet_93 hg  (fun  s4 hw => ?_) _ _ _ hw
                · refine x_ic hg dX8_sheet_119 ic_1 rfl ?_
                  exact x_ret hg dX8_sheet_120 hw
              · refine x_ic hg dX8_sheet_84 ic_0 rfl ?_
                refine x_goto hg dX8_sheet_85 (pc' := 89) (by decide) ?_
                refine x_iast hg kM_6 rfl dX8_sheet_89 rfl hw (fun s3 hw => ?_)
                refine x_ic hg dX8_sheet_90 ic_0 rfl ?_
                refine x_istore_4 hg dX8_sheet_91 rfl rfl rfl ?_
                refine x_drop_2 ?_
                refine x_drop_3 ?_
                obtain ⟨N1, hw⟩ := hw
                refine xM_sheet_93 hg  (fun  s4 hw => ?_) _ _ _ hw
                · refine x_ic hg dX8_sheet_119 ic_1 rfl ?_
                  exact x_ret hg dX8_sheet_120 hw
            · refine x_iload_3 hg dX8_sheet_55 rfl ?_
              refine x_bi hg dX8_sheet_56 bp_24 rfl ?_
              refine x_icmp_le hg dX8_sheet_58 (tg := 68) (by decide) rfl hw (fun hw => ?_) (fun hw => ?_)
              · refine x_aload_0 hg dX8_sheet_68 rfl ?_
                refine get_X8_5 hg kM_0 fl_X8_22 dX8_sheet_69 rfl (k2 := 5) rfl ?_
                refine x_iload_1 hg dX8_sheet_72 rfl ?_
                refine x_iload_2 hg dX8_sheet_73 rfl ?_
                refine x_iast hg kM_5 rfl dX8_sheet_74 rfl hw (fun s2 hw => ?_)
                refine x_aload_0 hg dX8_sheet_75 rfl ?_
                refine get_X8_6 hg kM_0 fl_X8_25 dX8_sheet_76 rfl (k2 := 6) rfl ?_
                refine x_iload_1 hg dX8_sheet_79 rfl ?_
                refine x_iload_2 hg dX8_sheet_80 rfl ?_
                refine x_if_ne hg dX8_sheet_81 (tg := 88) (by decide) rfl hw (fun hw => ?_) (fun hw => ?_)
                · refine x_iload_3 hg dX8_sheet_88 rfl ?_
                  refine x_iast hg kM_6 rfl dX8_sheet_89 rfl hw (fun s3 hw => ?_)
                  refine x_ic hg dX8_sheet_90 ic_0 rfl ?_
                  refine x_istore_4 hg dX8_sheet_91 rfl rfl rfl ?_
                  refine x_drop_2 ?_
                  refine x_drop_3 ?_
                  obtain ⟨N1, hw⟩ := hw
                  refine xM_sheet_93 hg  (fun  s4 hw => ?_) _ _ _ hw
                  · refine x_ic hg dX8_sheet_119 ic_1 rfl ?_
                    exact x_ret hg dX8_sheet_120 hw
                · refine x_ic hg dX8_sheet_84 ic_0 rfl ?_
                  refine x_goto hg dX8_sheet_85 (pc' := 89) (by decide) ?_
                  refine x_iast hg kM_6 rfl dX8_sheet_89 rfl hw (fun s3 hw => ?_)
                  refine x_ic hg dX8_sheet_90 ic_0 rfl ?_
                  refine x_istore_4 hg dX8_sheet_91 rfl rfl rfl ?_
                  refine x_drop_2 ?_
                  refine x_drop_3 ?_
                  obtain ⟨N1, hw⟩ := hw
                  refine xM_sheet_93 hg  (fun  s4 hw => ?_) _ _ _ hw
                  · refine x_ic hg dX8_sheet_119 ic_1 rfl ?_
                    exact x_ret hg dX8_sheet_120 hw
              · refine x_aload_0 hg dX8_sheet_61 rfl ?_
                refine x_ldc hg kc_X8_77 dX8_sheet_62 rfl ?_
                refine x_callVI hg (xM_error (gL g)  hw) kM_0 (by decide) rfl im_X8_error se_X8_error mi_X8_error ml_X8_78 rfl rfl (As := [.int (-1000000001)]) rfl rfl rfl dX8_sheet_64 rfl (fun r2 s2 hw => ?_)
                exact x_ret hg dX8_sheet_67 hw
          · refine x_aload_0 hg dX8_sheet_44 rfl ?_
            refine x_ldc hg kc_X8_99 dX8_sheet_45 rfl ?_
            refine x_callVI hg (xM_error (gL g)  hw) kM_0 (by decide) rfl im_X8_error se_X8_error mi_X8_error ml_X8_78 rfl rfl (As := [.int (-1000000003)]) rfl rfl rfl dX8_sheet_47 rfl (fun r2 s2 hw => ?_)
            exact x_ret hg dX8_sheet_50 hw
      · refine x_iload_2 hg dX8_sheet_17 rfl ?_
        refine x_bi hg dX8_sheet_18 bp_16 rfl ?_
        refine x_icmp_eq hg dX8_sheet_20 (tg := 36) (by decide) rfl hw (fun hw => ?_) (fun hw => ?_)
        · refine x_iload_2 hg dX8_sheet_36 rfl ?_
          refine x_if_le hg dX8_sheet_37 (tg := 51) (by decide) rfl hw (fun hw => ?_) (fun hw => ?_)
          · refine x_iload_2 hg dX8_sheet_51 rfl ?_
            refine x_if_le hg dX8_sheet_52 (tg := 68) (by decide) rfl hw (fun hw => ?_) (fun hw => ?_)
            · refine x_aload_0 hg dX8_sheet_68 rfl ?_
              refine get_X8_5 hg kM_0 fl_X8_22 dX8_sheet_69 rfl (k2 := 5) rfl ?_
              refine x_iload_1 hg dX8_sheet_72 rfl ?_
              refine x_iload_2 hg dX8_sheet_73 rfl ?_
              refine x_iast hg kM_5 rfl dX8_sheet_74 rfl hw (fun s2 hw => ?_)
              refine x_aload_0 hg dX8_sheet_75 rfl ?_
              refine get_X8_6 hg kM_0 fl_X8_25 dX8_sheet_76 rfl (k2 := 6) rfl ?_
              refine x_iload_1 hg dX8_sheet_79 rfl ?_
              refine x_iload_2 hg dX8_sheet_80 rfl ?_
              refine x_if_ne hg dX8_sheet_81 (tg := 88) (by decide) rfl hw (fun hw => ?_) (fun hw => ?_)
              · refine x_iload_3 hg dX8_sheet_88 rfl ?_
                refine x_iast hg kM_6 rfl dX8_sheet_89 rfl hw (fun s3 hw => ?_)
                refine x_ic hg dX8_sheet_90 ic_0 rfl ?_
                refine x_istore_4 hg dX8_sheet_91 rfl rfl rfl ?_
                refine x_drop_2 ?_
                refine x_drop_3 ?_
                obtain ⟨N1, hw⟩ := hw
                refine xM_sheet_93 hg  (fun  s4 hw => ?_) _ _ _ hw
                · refine x_ic hg dX8_sheet_119 ic_1 rfl ?_
                  exact x_ret hg dX8_sheet_120 hw
              · refine x_ic hg dX8_sheet_84 ic_0 rfl ?_
                refine x_goto hg dX8_sheet_85 (pc' := 89) (by decide) ?_
                refine x_iast hg kM_6 rfl dX8_sheet_89 rfl hw (fun s3 hw => ?_)
                refine x_ic hg dX8_sheet_90 ic_0 rfl ?_
                refine x_istore_4 hg dX8_sheet_91 rfl rfl rfl ?_
                refine x_drop_2 ?_
                refine x_drop_3 ?_
                obtain ⟨N1, hw⟩ := hw
                refine xM_sheet_93 hg  (fun  s4 hw => ?_) _ _ _ hw
                · refine x_ic hg dX8_sheet_119 ic_1 rfl ?_
                  exact x_ret hg dX8_sheet_120 hw
            · refine x_iload_3 hg dX8_sheet_55 rfl ?_
              refine x_bi hg dX8_sheet_56 bp_24 rfl ?_
              refine x_icmp_le hg dX8_sheet_58 (tg := 68) (by decide) rfl hw (fun hw => ?_) (fun hw => ?_)
              · refine x_aload_0 hg dX8_sheet_68 rfl ?_
                refine get_X8_5 hg kM_0 fl_X8_22 dX8_sheet_69 rfl (k2 := 5) rfl ?_
                refine x_iload_1 hg dX8_sheet_72 rfl ?_
                refine x_iload_2 hg dX8_sheet_73 rfl ?_
                refine x_iast hg kM_5 rfl dX8_sheet_74 rfl hw (fun s2 hw => ?_)
                refine x_aload_0 hg dX8_sheet_75 rfl ?_
                refine get_X8_6 hg kM_0 fl_X8_25 dX8_sheet_76 rfl (k2 := 6) rfl ?_
                refine x_iload_1 hg dX8_sheet_79 rfl ?_
                refine x_iload_2 hg dX8_sheet_80 rfl ?_
                refine x_if_ne hg dX8_sheet_81 (tg := 88) (by decide) rfl hw (fun hw => ?_) (fun hw => ?_)
                · refine x_iload_3 hg dX8_sheet_88 rfl ?_
                  refine x_iast hg kM_6 rfl dX8_sheet_89 rfl hw (fun s3 hw => ?_)
                  refine x_ic hg dX8_sheet_90 ic_0 rfl ?_
                  refine x_istore_4 hg dX8_sheet_91 rfl rfl rfl ?_
                  refine x_drop_2 ?_
                  refine x_drop_3 ?_
                  obtain ⟨N1, hw⟩ := hw
                  refine xM_sheet_93 hg  (fun  s4 hw => ?_) _ _ _ hw
                  · refine x_ic hg dX8_sheet_119 ic_1 rfl ?_
                    exact x_ret hg dX8_sheet_120 hw
                · refine x_ic hg dX8_sheet_84 ic_0 rfl ?_
                  refine x_goto hg dX8_sheet_85 (pc' := 89) (by decide) ?_
                  refine x_iast hg kM_6 rfl dX8_sheet_89 rfl hw (fun s3 hw => ?_)
                  refine x_ic hg dX8_sheet_90 ic_0 rfl ?_
                  refine x_istore_4 hg dX8_sheet_91 rfl rfl rfl ?_
                  refine x_drop_2 ?_
                  refine x_drop_3 ?_
                  obtain ⟨N1, hw⟩ := hw
                  refine xM_sheet_93 hg  (fun  s4 hw => ?_) _ _ _ hw
                  · refine x_ic hg dX8_sheet_119 ic_1 rfl ?_
                    exact x_ret hg dX8_sheet_120 hw
              · refine x_aload_0 hg dX8_sheet_61 rfl ?_
                refine x_ldc hg kc_X8_77 dX8_sheet_62 rfl ?_
                refine x_callVI hg (xM_error (gL g)  hw) kM_0 (by decide) rfl im_X8_error se_X8_error mi_X8_error ml_X8_78 rfl rfl (As := [.int (-1000000001)]) rfl rfl rfl dX8_sheet_64 rfl (fun r2 s2 hw => ?_)
                exact x_ret hg dX8_sheet_67 hw
          · refine x_iload_3 hg dX8_sheet_40 rfl ?_
            refine x_if_ge hg dX8_sheet_41 (tg := 51) (by decide) rfl hw (fun hw => ?_) (fun hw => ?_)
            · refine x_iload_2 hg dX8_sheet_51 rfl ?_
              refine x_if_le hg dX8_sheet_52 (tg := 68) (by decide) rfl hw (fun hw => ?_) (fun hw => ?_)
              · refine x_aload_0 hg dX8_sheet_68 rfl ?_
                refine get_X8_5 hg kM_0 fl_X8_22 dX8_sheet_69 rfl (k2 := 5) rfl ?_
                refine x_iload_1 hg dX8_sheet_72 rfl ?_
                refine x_iload_2 hg dX8_sheet_73 rfl ?_
                refine x_iast hg kM_5 rfl dX8_sheet_74 rfl hw (fun s2 hw => ?_)
                refine x_aload_0 hg dX8_sheet_75 rfl ?_
                refine get_X8_6 hg kM_0 fl_X8_25 dX8_sheet_76 rfl (k2 := 6) rfl ?_
                refine x_iload_1 hg dX8_sheet_79 rfl ?_
                refine x_iload_2 hg dX8_sheet_80 rfl ?_
                refine x_if_ne hg dX8_sheet_81 (tg := 88) (by decide) rfl hw (fun hw => ?_) (fun hw => ?_)
                · refine x_iload_3 hg dX8_sheet_88 rfl ?_
                  refine x_iast hg kM_6 rfl dX8_sheet_89 rfl hw (fun s3 hw => ?_)
                  refine x_ic hg dX8_sheet_90 ic_0 rfl ?_
                  refine x_istore_4 hg dX8_sheet_91 rfl rfl rfl ?_
                  refine x_drop_2 ?_
                  refine x_drop_3 ?_
                  obtain ⟨N1, hw⟩ := hw
                  refine xM_sheet_93 hg  (fun  s4 hw => ?_) _ _ _ hw
                  · refine x_ic hg dX8_sheet_119 ic_1 rfl ?_
                    exact x_ret hg dX8_sheet_120 hw
                · refine x_ic hg dX8_sheet_84 ic_0 rfl ?_
                  refine x_goto hg dX8_sheet_85 (pc' := 89) (by decide) ?_
                  refine x_iast hg kM_6 rfl dX8_sheet_89 rfl hw (fun s3 hw => ?_)
                  refine x_ic hg dX8_sheet_90 ic_0 rfl ?_
                  refine x_istore_4 hg dX8_sheet_91 rfl rfl rfl ?_
                  refine x_drop_2 ?_
                  refine x_drop_3 ?_
                  obtain ⟨N1, hw⟩ := hw
                  refine xM_sheet_93 hg  (fun  s4 hw => ?_) _ _ _ hw
                  · refine x_ic hg dX8_sheet_119 ic_1 rfl ?_
                    exact x_ret hg dX8_sheet_120 hw
              · refine x_iload_3 hg dX8_sheet_55 rfl ?_
                refine x_bi hg dX8_sheet_56 bp_24 rfl ?_
                refine x_icmp_le hg dX8_sheet_58 (tg := 68) (by decide) rfl hw (fun hw => ?_) (fun hw => ?_)
                · refine x_aload_0 hg dX8_sheet_68 rfl ?_
                  refine get_X8_5 hg kM_0 fl_X8_22 dX8_sheet_69 rfl (k2 := 5) rfl ?_
                  refine x_iload_1 hg dX8_sheet_72 rfl ?_
                  refine x_iload_2 hg dX8_sheet_73 rfl ?_
                  refine x_iast hg kM_5 rfl dX8_sheet_74 rfl hw (fun s2 hw => ?_)
                  refine x_aload_0 hg dX8_sheet_75 rfl ?_
                  refine get_X8_6 hg kM_0 fl_X8_25 dX8_sheet_76 rfl (k2 := 6) rfl ?_
                  refine x_iload_1 hg dX8_sheet_79 rfl ?_
                  refine x_iload_2 hg dX8_sheet_80 rfl ?_
                  refine x_if_ne hg dX8_sheet_81 (tg := 88) (by decide) rfl hw (fun hw => ?_) (fun hw => ?_)
                  · refine x_iload_3 hg dX8_sheet_88 rfl ?_
                    refine x_iast hg kM_6 rfl dX8_sheet_89 rfl hw (fun s3 hw => ?_)
                    refine x_ic hg dX8_sheet_90 ic_0 rfl ?_
                    refine x_istore_4 hg dX8_sheet_91 rfl rfl rfl ?_
                    refine x_drop_2 ?_
                    refine x_drop_3 ?_
                    obtain ⟨N1, hw⟩ := hw
                    refine xM_sheet_93 hg  (fun  s4 hw => ?_) _ _ _ hw
                    · refine x_ic hg dX8_sheet_119 ic_1 rfl ?_
                      exact x_ret hg dX8_sheet_120 hw
                  · refine x_ic hg dX8_sheet_84 ic_0 rfl ?_
                    refine x_goto hg dX8_sheet_85 (pc' := 89) (by decide) ?_
                    refine x_iast hg kM_6 rfl dX8_sheet_89 rfl hw (fun s3 hw => ?_)
                    refine x_ic hg dX8_sheet_90 ic_0 rfl ?_
                    refine x_istore_4 hg dX8_sheet_91 rfl rfl rfl ?_
                    refine x_drop_2 ?_
                    refine x_drop_3 ?_
                    obtain ⟨N1, hw⟩ := hw
                    refine xM_sheet_93 hg  (fun  s4 hw => ?_) _ _ _ hw
                    · refine x_ic hg dX8_sheet_119 ic_1 rfl ?_
                      exact x_ret hg dX8_sheet_120 hw
                · refine x_aload_0 hg dX8_sheet_61 rfl ?_
                  refine x_ldc hg kc_X8_77 dX8_sheet_62 rfl ?_
                  refine x_callVI hg (xM_error (gL g)  hw) kM_0 (by decide) rfl im_X8_error se_X8_error mi_X8_error ml_X8_78 rfl rfl (As := [.int (-1000000001)]) rfl rfl rfl dX8_sheet_64 rfl (fun r2 s2 hw => ?_)
                  exact x_ret hg dX8_sheet_67 hw
            · refine x_aload_0 hg dX8_sheet_44 rfl ?_
              refine x_ldc hg kc_X8_99 dX8_sheet_45 rfl ?_
              refine x_callVI hg (xM_error (gL g)  hw) kM_0 (by decide) rfl im_X8_error se_X8_error mi_X8_error ml_X8_78 rfl rfl (As := [.int (-1000000003)]) rfl rfl rfl dX8_sheet_47 rfl (fun r2 s2 hw => ?_)
              exact x_ret hg dX8_sheet_50 hw
        · refine x_iload_2 hg dX8_sheet_23 rfl ?_
          refine x_bi hg dX8_sheet_24 bp_32 rfl ?_
          refine x_icmp_eq hg dX8_sheet_26 (tg := 36) (by decide) rfl hw (fun hw => ?_) (fun hw => ?_)
          · refine x_iload_2 hg dX8_sheet_36 rfl ?_
            refine x_if_le hg dX8_sheet_37 (tg := 51) (by decide) rfl hw (fun hw => ?_) (fun hw => ?_)
            · refine x_iload_2 hg dX8_sheet_51 rfl ?_
              refine x_if_le hg dX8_sheet_52 (tg := 68) (by decide) rfl hw (fun hw => ?_) (fun hw => ?_)
              · refine x_aload_0 hg dX8_sheet_68 rfl ?_
                refine get_X8_5 hg kM_0 fl_X8_22 dX8_sheet_69 rfl (k2 := 5) rfl ?_
                refine x_iload_1 hg dX8_sheet_72 rfl ?_
                refine x_iload_2 hg dX8_sheet_73 rfl ?_
                refine x_iast hg kM_5 rfl dX8_sheet_74 rfl hw (fun s2 hw => ?_)
                refine x_aload_0 hg dX8_sheet_75 rfl ?_
                refine get_X8_6 hg kM_0 fl_X8_25 dX8_sheet_76 rfl (k2 := 6) rfl ?_
                refine x_iload_1 hg dX8_sheet_79 rfl ?_
                refine x_iload_2 hg dX8_sheet_80 rfl ?_
                refine x_if_ne hg dX8_sheet_81 (tg := 88) (by decide) rfl hw (fun hw => ?_) (fun hw => ?_)
                · refine x_iload_3 hg dX8_sheet_88 rfl ?_
                  refine x_iast hg kM_6 rfl dX8_sheet_89 rfl hw (fun s3 hw => ?_)
                  refine x_ic hg dX8_sheet_90 ic_0 rfl ?_
                  refine x_istore_4 hg dX8_sheet_91 rfl rfl rfl ?_
                  refine x_drop_2 ?_
                  refine x_drop_3 ?_
                  obtain ⟨N1, hw⟩ := hw
                  refine xM_sheet_93 hg  (fun  s4 hw => ?_) _ _ _ hw
                  · refine x_ic hg dX8_sheet_119 ic_1 rfl ?_
                    exact x_ret hg dX8_sheet_120 hw
                · refine x_ic hg dX8_sheet_84 ic_0 rfl ?_
                  refine x_goto hg dX8_sheet_85 (pc' := 89) (by decide) ?_
                  refine x_iast hg kM_6 rfl dX8_sheet_89 rfl hw (fun s3 hw => ?_)
                  refine x_ic hg dX8_sheet_90 ic_0 rfl ?_
                  refine x_istore_4 hg dX8_sheet_91 rfl rfl rfl ?_
                  refine x_drop_2 ?_
                  refine x_drop_3 ?_
                  obtain ⟨N1, hw⟩ := hw
                  refine xM_sheet_93 hg  (fun  s4 hw => ?_) _ _ _ hw
                  · refine x_ic hg dX8_sheet_119 ic_1 rfl ?_
                    exact x_ret hg dX8_sheet_120 hw
              · refine x_iload_3 hg dX8_sheet_55 rfl ?_
                refine x_bi hg dX8_sheet_56 bp_24 rfl ?_
                refine x_icmp_le hg dX8_sheet_58 (tg := 68) (by decide) rfl hw (fun hw => ?_) (fun hw => ?_)
                · refine x_aload_0 hg dX8_sheet_68 rfl ?_
                  refine get_X8_5 hg kM_0 fl_X8_22 dX8_sheet_69 rfl (k2 := 5) rfl ?_
                  refine x_iload_1 hg dX8_sheet_72 rfl ?_
                  refine x_iload_2 hg dX8_sheet_73 rfl ?_
                  refine x_iast hg kM_5 rfl dX8_sheet_74 rfl hw (fun s2 hw => ?_)
                  refine x_aload_0 hg dX8_sheet_75 rfl ?_
                  refine get_X8_6 hg kM_0 fl_X8_25 dX8_sheet_76 rfl (k2 := 6) rfl ?_
                  refine x_iload_1 hg dX8_sheet_79 rfl ?_
                  refine x_iload_2 hg dX8_sheet_80 rfl ?_
                  refine x_if_ne hg dX8_sheet_81 (tg := 88) (by decide) rfl hw (fun hw => ?_) (fun hw => ?_)
                  · refine x_iload_3 hg dX8_sheet_88 rfl ?_
                    refine x_iast hg kM_6 rfl dX8_sheet_89 rfl hw (fun s3 hw => ?_)
                    refine x_ic hg dX8_sheet_90 ic_0 rfl ?_
                    refine x_istore_4 hg dX8_sheet_91 rfl rfl rfl ?_
                    refine x_drop_2 ?_
                    refine x_drop_3 ?_
                    obtain ⟨N1, hw⟩ := hw
                    refine xM_sheet_93 hg  (fun  s4 hw => ?_) _ _ _ hw
                    · refine x_ic hg dX8_sheet_119 ic_1 rfl ?_
                      exact x_ret hg dX8_sheet_120 hw
                  · refine x_ic hg dX8_sheet_84 ic_0 rfl ?_
                    refine x_goto hg dX8_sheet_85 (pc' := 89) (by decide) ?_
                    refine x_iast hg kM_6 rfl dX8_sheet_89 rfl hw (fun s3 hw => ?_)
                    refine x_ic hg dX8_sheet_90 ic_0 rfl ?_
                    refine x_istore_4 hg dX8_sheet_91 rfl rfl rfl ?_
                    refine x_drop_2 ?_
                    refine x_drop_3 ?_
                    obtain ⟨N1, hw⟩ := hw
                    refine xM_sheet_93 hg  (fun  s4 hw => ?_) _ _ _ hw
                    · refine x_ic hg dX8_sheet_119 ic_1 rfl ?_
                      exact x_ret hg dX8_sheet_120 hw
                · refine x_aload_0 hg dX8_sheet_61 rfl ?_
                  refine x_ldc hg kc_X8_77 dX8_sheet_62 rfl ?_
                  refine x_callVI hg (xM_error (gL g)  hw) kM_0 (by decide) rfl im_X8_error se_X8_error mi_X8_error ml_X8_78 rfl rfl (As := [.int (-1000000001)]) rfl rfl rfl dX8_sheet_64 rfl (fun r2 s2 hw => ?_)
                  exact x_ret hg dX8_sheet_67 hw
            · refine x_iload_3 hg dX8_sheet_40 rfl ?_
              refine x_if_ge hg dX8_sheet_41 (tg := 51) (by decide) rfl hw (fun hw => ?_) (fun hw => ?_)
              · refine x_iload_2 hg dX8_sheet_51 rfl ?_
                refine x_if_le hg dX8_sheet_52 (tg := 68) (by decide) rfl hw (fun hw => ?_) (fun hw => ?_)
                · refine x_aload_0 hg dX8_sheet_68 rfl ?_
                  refine get_X8_5 hg kM_0 fl_X8_22 dX8_sheet_69 rfl (k2 := 5) rfl ?_
                  refine x_iload_1 hg dX8_sheet_72 rfl ?_
                  refine x_iload_2 hg dX8_sheet_73 rfl ?_
                  refine x_iast hg kM_5 rfl dX8_sheet_74 rfl hw (fun s2 hw => ?_)
                  refine x_aload_0 hg dX8_sheet_75 rfl ?_
                  refine get_X8_6 hg kM_0 fl_X8_25 dX8_sheet_76 rfl (k2 := 6) rfl ?_
                  refine x_iload_1 hg dX8_sheet_79 rfl ?_
                  refine x_iload_2 hg dX8_sheet_80 rfl ?_
                  refine x_if_ne hg dX8_sheet_81 (tg := 88) (by decide) rfl hw (fun hw => ?_) (fun hw => ?_)
                  · refine x_iload_3 hg dX8_sheet_88 rfl ?_
                    refine x_iast hg kM_6 rfl dX8_sheet_89 rfl hw (fun s3 hw => ?_)
                    refine x_ic hg dX8_sheet_90 ic_0 rfl ?_
                    refine x_istore_4 hg dX8_sheet_91 rfl rfl rfl ?_
                    refine x_drop_2 ?_
                    refine x_drop_3 ?_
                    obtain ⟨N1, hw⟩ := hw
                    refine xM_sheet_93 hg  (fun  s4 hw => ?_) _ _ _ hw
                    · refine x_ic hg dX8_sheet_119 ic_1 rfl ?_
                      exact x_ret hg dX8_sheet_120 hw
                  · refine x_ic hg dX8_sheet_84 ic_0 rfl ?_
                    refine x_goto hg dX8_sheet_85 (pc' := 89) (by decide) ?_
                    refine x_iast hg kM_6 rfl dX8_sheet_89 rfl hw (fun s3 hw => ?_)
                    refine x_ic hg dX8_sheet_90 ic_0 rfl ?_
                    refine x_istore_4 hg dX8_sheet_91 rfl rfl rfl ?_
                    refine x_drop_2 ?_
                    refine x_drop_3 ?_
                    obtain ⟨N1, hw⟩ := hw
                    refine xM_sheet_93 hg  (fun  s4 hw => ?_) _ _ _ hw
                    · refine x_ic hg dX8_sheet_119 ic_1 rfl ?_
                      exact x_ret hg dX8_sheet_120 hw
                · refine x_iload_3 hg dX8_sheet_55 rfl ?_
                  refine x_bi hg dX8_sheet_56 bp_24 rfl ?_
                  refine x_icmp_le hg dX8_sheet_58 (tg := 68) (by decide) rfl hw (fun hw => ?_) (fun hw => ?_)
                  · refine x_aload_0 hg dX8_sheet_68 rfl ?_
                    refine get_X8_5 hg kM_0 fl_X8_22 dX8_sheet_69 rfl (k2 := 5) rfl ?_
                    refine x_iload_1 hg dX8_sheet_72 rfl ?_
                    refine x_iload_2 hg dX8_sheet_73 rfl ?_
                    refine x_iast hg kM_5 rfl dX8_sheet_74 rfl hw (fun s2 hw => ?_)
                    refine x_aload_0 hg dX8_sheet_75 rfl ?_
                    refine get_X8_6 hg kM_0 fl_X8_25 dX8_sheet_76 rfl (k2 := 6) rfl ?_
                    refine x_iload_1 hg dX8_sheet_79 rfl ?_
                    refine x_iload_2 hg dX8_sheet_80 rfl ?_
                    refine x_if_ne hg dX8_sheet_81 (tg := 88) (by decide) rfl hw (fun hw => ?_) (fun hw => ?_)
                    · refine x_iload_3 hg dX8_sheet_88 rfl ?_
                      refine x_iast hg kM_6 rfl dX8_sheet_89 rfl hw (fun s3 hw => ?_)
                      refine x_ic hg dX8_sheet_90 ic_0 rfl ?_
                      refine x_istore_4 hg dX8_sheet_91 rfl rfl rfl ?_
                      refine x_drop_2 ?_
                      refine x_drop_3 ?_
                      obtain ⟨N1, hw⟩ := hw
                      refine xM_sheet_93 hg  (fun  s4 hw => ?_) _ _ _ hw
                      · refine x_ic hg dX8_sheet_119 ic_1 rfl ?_
                        exact x_ret hg dX8_sheet_120 hw
                    · refine x_ic hg dX8_sheet_84 ic_0 rfl ?_
                      refine x_goto hg dX8_sheet_85 (pc' := 89) (by decide) ?_
                      refine x_iast hg kM_6 rfl dX8_sheet_89 rfl hw (fun s3 hw => ?_)
                      refine x_ic hg dX8_sheet_90 ic_0 rfl ?_
                      refine x_istore_4 hg dX8_sheet_91 rfl rfl rfl ?_
                      refine x_drop_2 ?_
                      refine x_drop_3 ?_
                      obtain ⟨N1, hw⟩ := hw
                      refine xM_sheet_93 hg  (fun  s4 hw => ?_) _ _ _ hw
                      · refine x_ic hg dX8_sheet_119 ic_1 rfl ?_
                        exact x_ret hg dX8_sheet_120 hw
                  · refine x_aload_0 hg dX8_sheet_61 rfl ?_
                    refine x_ldc hg kc_X8_77 dX8_sheet_62 rfl ?_
                    refine x_callVI hg (xM_error (gL g)  hw) kM_0 (by decide) rfl im_X8_error se_X8_error mi_X8_error ml_X8_78 rfl rfl (As := [.int (-1000000001)]) rfl rfl rfl dX8_sheet_64 rfl (fun r2 s2 hw => ?_)
                    exact x_ret hg dX8_sheet_67 hw
              · refine x_aload_0 hg dX8_sheet_44 rfl ?_
                refine x_ldc hg kc_X8_99 dX8_sheet_45 rfl ?_
                refine x_callVI hg (xM_error (gL g)  hw) kM_0 (by decide) rfl im_X8_error se_X8_error mi_X8_error ml_X8_78 rfl rfl (As := [.int (-1000000003)]) rfl rfl rfl dX8_sheet_47 rfl (fun r2 s2 hw => ?_)
                exact x_ret hg dX8_sheet_50 hw
          · refine x_aload_0 hg dX8_sheet_29 rfl ?_
            refine x_ldc hg kc_X8_77 dX8_sheet_30 rfl ?_
            refine x_callVI hg (xM_error (gL g)  hw) kM_0 (by decide) rfl im_X8_error se_X8_error mi_X8_error ml_X8_78 rfl rfl (As := [.int (-1000000001)]) rfl rfl rfl dX8_sheet_32 rfl (fun r2 s2 hw => ?_)
            exact x_ret hg dX8_sheet_35 hw
def wM_put (a1 : Int32) (a2 : Int32) (a3 : Int32) (s0 : Sg) (P : Int32 → Sg → Prop) : Prop := (wM_notThere a1 s0 (fun (r1 : Int32) (s1 : Sg) => ((¬ r1 = 0 → ((r1 = 0 → (vp_in a1 4 ∧ ((¬ (s1 5 (ix a1)) = 8 → (vp_in a1 4 ∧ ((¬ (s1 5 (ix a1)) = 16 → (vp_in (((24 * a1) + a2)) 96 ∧ ∀ s2 : Sg, s2 = u2 s1 7 (ix (((24 * a1) + a2))) a3 → P 1 s2)) ∧ ((s1 5 (ix a1)) = 16 → (vp_in (((24 * a1) + a2)) 96 ∧ ∀ s2 : Sg, s2 = u2 s1 7 (ix (((24 * a1) + a2))) ((Int16.toInt32 (Int32.toInt16 a3))) → P 1 s2))))) ∧ ((s1 5 (ix a1)) = 8 → (vp_in (((24 * a1) + a2)) 96 ∧ ∀ s2 : Sg, s2 = u2 s1 7 (ix (((24 * a1) + a2))) ((Int8.toInt32 (Int32.toInt8 a3))) → P 1 s2))))) ∧ (¬ r1 = 0 → (wM_error r1 s1 (fun (r2 : Int32) (s2 : Sg) => P r2 s2))))) ∧ (r1 = 0 → (vp_in a1 4 ∧ (wM_in a2 0 (((s1 6 (ix a1)) - 1)) s1 (fun (r2 : Int32) (s2 : Sg) => ((¬ r2 = 0 → ((r1 = 0 → (vp_in a1 4 ∧ ((¬ (s2 5 (ix a1)) = 8 → (vp_in a1 4 ∧ ((¬ (s2 5 (ix a1)) = 16 → (vp_in (((24 * a1) + a2)) 96 ∧ ∀ s3 : Sg, s3 = u2 s2 7 (ix (((24 * a1) + a2))) a3 → P 1 s3)) ∧ ((s2 5 (ix a1)) = 16 → (vp_in (((24 * a1) + a2)) 96 ∧ ∀ s3 : Sg, s3 = u2 s2 7 (ix (((24 * a1) + a2))) ((Int16.toInt32 (Int32.toInt16 a3))) → P 1 s3))))) ∧ ((s2 5 (ix a1)) = 8 → (vp_in (((24 * a1) + a2)) 96 ∧ ∀ s3 : Sg, s3 = u2 s2 7 (ix (((24 * a1) + a2))) ((Int8.toInt32 (Int32.toInt8 a3))) → P 1 s3))))) ∧ (¬ r1 = 0 → (wM_error r1 s2 (fun (r3 : Int32) (s3 : Sg) => P r3 s3))))) ∧ (r2 = 0 → (wM_error ((-1000000001)) s2 (fun (r3 : Int32) (s3 : Sg) => P r3 s3)))))))))))
set_option maxRecDepth 100000 in
set_option maxHeartbeats 4000000 in
theorem xM_put {w : Wc} (l : Launch) {a1 : Int32} {a2 : Int32} {a3 : Int32} {s0 : Sg} {P : Int32 → Sg → Prop} (hw : wM_put a1 a2 a3 s0 P) : CI shM w l 4 (.code yX8_put cX8_put 5 (some .int)) yX8_put [.ref (ad w 0), .int a1, .int a2, .int a3] s0 P := by
  refine ci_of_i (own := "BagBottomModel") (ls0 := [some (.ref (ad w 0)), some (.int a1), some (.int a2), some (.int a3), none]) rfl pn_X8 rfl rfl (fun g el hg => ?_)
  unfold wM_put at hw
  refine x_aload_0 hg dX8_put_0 rfl ?_
  refine x_iload_1 hg dX8_put_1 rfl ?_
  refine x_callVI hg (xM_notThere (gL g)  hw) kM_0 (by decide) rfl im_X8_notThere se_X8_notThere mi_X8_notThere ml_X8_223 rfl rfl (As := [.int a1]) rfl rfl rfl dX8_put_2 rfl (fun r1 s1 hw => ?_)
  refine x_istore_4 hg dX8_put_5 rfl rfl rfl ?_
  refine x_iload_4 hg dX8_put_7 rfl ?_
  refine x_if_ne hg dX8_put_9 (tg := 33) (by decide) rfl hw (fun hw => ?_) (fun hw => ?_)
  · refine x_iload_4 hg dX8_put_33 rfl ?_
    refine x_istore_4 hg dX8_put_35 rfl rfl rfl ?_
    refine x_iload_4 hg dX8_put_37 rfl ?_
    refine x_if_eq hg dX8_put_39 (tg := 49) (by decide) rfl hw (fun hw => ?_) (fun hw => ?_)
    · refine x_aload_0 hg dX8_put_49 rfl ?_
      refine get_X8_7 hg kM_0 fl_X8_28 dX8_put_50 rfl (k2 := 7) rfl ?_
      refine x_bi hg dX8_put_53 bp_24 rfl ?_
      refine x_iload_1 hg dX8_put_55 rfl ?_
      refine x_imul hg dX8_put_56 rfl ?_
      refine x_iload_2 hg dX8_put_57 rfl ?_
      refine x_iadd hg dX8_put_58 rfl ?_
      refine x_aload_0 hg dX8_put_59 rfl ?_
      refine get_X8_5 hg kM_0 fl_X8_22 dX8_put_60 rfl (k2 := 5) rfl ?_
      refine x_iload_1 hg dX8_put_63 rfl ?_
      refine x_iald hg kM_5 rfl dX8_put_64 rfl hw (fun hw => ?_)
      refine x_bi hg dX8_put_65 bp_8 rfl ?_
      refine x_icmp_ne hg dX8_put_67 (tg := 75) (by decide) rfl hw (fun hw => ?_) (fun hw => ?_)
      · refine x_aload_0 hg dX8_put_75 rfl ?_
        refine get_X8_5 hg kM_0 fl_X8_22 dX8_put_76 rfl (k2 := 5) rfl ?_
        refine x_iload_1 hg dX8_put_79 rfl ?_
        refine x_iald hg kM_5 rfl dX8_put_80 rfl hw (fun hw => ?_)
        refine x_bi hg dX8_put_81 bp_16 rfl ?_
        refine x_icmp_ne hg dX8_put_83 (tg := 91) (by decide) rfl hw (fun hw => ?_) (fun hw => ?_)
        · refine x_iload_3 hg dX8_put_91 rfl ?_
          refine x_iast hg kM_7 rfl dX8_put_92 rfl hw (fun s2 hw => ?_)
          refine x_ic hg dX8_put_93 ic_1 rfl ?_
          exact x_ret hg dX8_put_94 hw
        · refine x_iload_3 hg dX8_put_86 rfl ?_
          refine x_i2s hg dX8_put_87 rfl ?_
          refine x_goto hg dX8_put_88 (pc' := 92) (by decide) ?_
          refine x_iast hg kM_7 rfl dX8_put_92 rfl hw (fun s2 hw => ?_)
          refine x_ic hg dX8_put_93 ic_1 rfl ?_
          exact x_ret hg dX8_put_94 hw
      · refine x_iload_3 hg dX8_put_70 rfl ?_
        refine x_i2b hg dX8_put_71 rfl ?_
        refine x_goto hg dX8_put_72 (pc' := 92) (by decide) ?_
        refine x_iast hg kM_7 rfl dX8_put_92 rfl hw (fun s2 hw => ?_)
        refine x_ic hg dX8_put_93 ic_1 rfl ?_
        exact x_ret hg dX8_put_94 hw
    · refine x_aload_0 hg dX8_put_42 rfl ?_
      refine x_iload_4 hg dX8_put_43 rfl ?_
      refine x_callVI hg (xM_error (gL g)  hw) kM_0 (by decide) rfl im_X8_error se_X8_error mi_X8_error ml_X8_78 rfl rfl (As := [.int r1]) rfl rfl rfl dX8_put_45 rfl (fun r2 s2 hw => ?_)
      exact x_ret hg dX8_put_48 hw
  · refine x_iload_2 hg dX8_put_12 rfl ?_
    refine x_ic hg dX8_put_13 ic_0 rfl ?_
    refine x_aload_0 hg dX8_put_14 rfl ?_
    refine get_X8_6 hg kM_0 fl_X8_25 dX8_put_15 rfl (k2 := 6) rfl ?_
    refine x_iload_1 hg dX8_put_18 rfl ?_
    refine x_iald hg kM_6 rfl dX8_put_19 rfl hw (fun hw => ?_)
    refine x_ic hg dX8_put_20 ic_1 rfl ?_
    refine x_isub hg dX8_put_21 rfl ?_
    refine x_callSI hg (xM_in (gL g)  hw) sm_X8_in mi_X8_in ml_X8_57 rfl rfl (As := [.int a2, .int 0, .int ((s1 6 (ix a1)) - 1)]) rfl rfl rfl dX8_put_22 rfl (fun r2 s2 hw => ?_)
    refine x_if_ne hg dX8_put_25 (tg := 33) (by decide) rfl hw (fun hw => ?_) (fun hw => ?_)
    · refine x_iload_4 hg dX8_put_33 rfl ?_
      refine x_istore_4 hg dX8_put_35 rfl rfl rfl ?_
      refine x_iload_4 hg dX8_put_37 rfl ?_
      refine x_if_eq hg dX8_put_39 (tg := 49) (by decide) rfl hw (fun hw => ?_) (fun hw => ?_)
      · refine x_aload_0 hg dX8_put_49 rfl ?_
        refine get_X8_7 hg kM_0 fl_X8_28 dX8_put_50 rfl (k2 := 7) rfl ?_
        refine x_bi hg dX8_put_53 bp_24 rfl ?_
        refine x_iload_1 hg dX8_put_55 rfl ?_
        refine x_imul hg dX8_put_56 rfl ?_
        refine x_iload_2 hg dX8_put_57 rfl ?_
        refine x_iadd hg dX8_put_58 rfl ?_
        refine x_aload_0 hg dX8_put_59 rfl ?_
        refine get_X8_5 hg kM_0 fl_X8_22 dX8_put_60 rfl (k2 := 5) rfl ?_
        refine x_iload_1 hg dX8_put_63 rfl ?_
        refine x_iald hg kM_5 rfl dX8_put_64 rfl hw (fun hw => ?_)
        refine x_bi hg dX8_put_65 bp_8 rfl ?_
        refine x_icmp_ne hg dX8_put_67 (tg := 75) (by decide) rfl hw (fun hw => ?_) (fun hw => ?_)
        · refine x_aload_0 hg dX8_put_75 rfl ?_
          refine get_X8_5 hg kM_0 fl_X8_22 dX8_put_76 rfl (k2 := 5) rfl ?_
          refine x_iload_1 hg dX8_put_79 rfl ?_
          refine x_iald hg kM_5 rfl dX8_put_80 rfl hw (fun hw => ?_)
          refine x_bi hg dX8_put_81 bp_16 rfl ?_
          refine x_icmp_ne hg dX8_put_83 (tg := 91) (by decide) rfl hw (fun hw => ?_) (fun hw => ?_)
          · refine x_iload_3 hg dX8_put_91 rfl ?_
            refine x_iast hg kM_7 rfl dX8_put_92 rfl hw (fun s3 hw => ?_)
            refine x_ic hg dX8_put_93 ic_1 rfl ?_
            exact x_ret hg dX8_put_94 hw
          · refine x_iload_3 hg dX8_put_86 rfl ?_
            refine x_i2s hg dX8_put_87 rfl ?_
            refine x_goto hg dX8_put_88 (pc' := 92) (by decide) ?_
            refine x_iast hg kM_7 rfl dX8_put_92 rfl hw (fun s3 hw => ?_)
            refine x_ic hg dX8_put_93 ic_1 rfl ?_
            exact x_ret hg dX8_put_94 hw
        · refine x_iload_3 hg dX8_put_70 rfl ?_
          refine x_i2b hg dX8_put_71 rfl ?_
          refine x_goto hg dX8_put_72 (pc' := 92) (by decide) ?_
          refine x_iast hg kM_7 rfl dX8_put_92 rfl hw (fun s3 hw => ?_)
          refine x_ic hg dX8_put_93 ic_1 rfl ?_
          exact x_ret hg dX8_put_94 hw
      · refine x_aload_0 hg dX8_put_42 rfl ?_
        refine x_iload_4 hg dX8_put_43 rfl ?_
        refine x_callVI hg (xM_error (gL g)  hw) kM_0 (by decide) rfl im_X8_error se_X8_error mi_X8_error ml_X8_78 rfl rfl (As := [.int r1]) rfl rfl rfl dX8_put_45 rfl (fun r3 s3 hw => ?_)
        exact x_ret hg dX8_put_48 hw
    · refine x_ldc hg kc_X8_77 dX8_put_28 rfl ?_
      refine x_goto hg dX8_put_30 (pc' := 35) (by decide) ?_
      refine x_istore_4 hg dX8_put_35 rfl rfl rfl ?_
      refine x_iload_4 hg dX8_put_37 rfl ?_
      refine x_if_eq hg dX8_put_39 (tg := 49) (by decide) rfl ⟨fun h => (show False from absurd h (by decide)), fun _ => hw⟩ (fun hw => False.elim hw) (fun hw => ?_)
      refine x_aload_0 hg dX8_put_42 rfl ?_
      refine x_iload_4 hg dX8_put_43 rfl ?_
      refine x_callVI hg (xM_error (gL g)  hw) kM_0 (by decide) rfl im_X8_error se_X8_error mi_X8_error ml_X8_78 rfl rfl (As := [.int (-1000000001)]) rfl rfl rfl dX8_put_45 rfl (fun r3 s3 hw => ?_)
      exact x_ret hg dX8_put_48 hw
def wM_notMoved (a1 : Int32) (a2 : Int32) (a3 : Int32) (a4 : Int32) (a5 : Int32) (s0 : Sg) (P : Int32 → Sg → Prop) : Prop := (wM_isSheet a1 s0 (fun (r1 : Int32) (s1 : Sg) => ((r1 = 0 → P ((-1000000001)) s1) ∧ (¬ r1 = 0 → (wM_isSheet a3 s1 (fun (r2 : Int32) (s2 : Sg) => ((¬ r2 = 0 → (vp_in a1 4 ∧ (((s2 5 (ix a1)) = 0 → P ((-1000000002)) s2) ∧ (¬ (s2 5 (ix a1)) = 0 → (vp_in a3 4 ∧ ((¬ (s2 5 (ix a3)) = 0 → (vp_in a1 4 ∧ (vp_in a3 4 ∧ (((s2 5 (ix a1)) = (s2 5 (ix a3)) → ((a5 < 0 → P ((-1000000001)) s2) ∧ (¬ a5 < 0 → ((a2 < 0 → P ((-1000000001)) s2) ∧ (¬ a2 < 0 → ((a4 < 0 → P ((-1000000001)) s2) ∧ (¬ a4 < 0 → (vp_in a1 4 ∧ ((((s2 6 (ix a1)) - a2) < a5 → P ((-1000000001)) s2) ∧ (¬ ((s2 6 (ix a1)) - a2) < a5 → (vp_in a3 4 ∧ ((((s2 6 (ix a3)) - a4) < a5 → P ((-1000000001)) s2) ∧ (¬ ((s2 6 (ix a3)) - a4) < a5 → P 0 s2))))))))))))) ∧ (¬ (s2 5 (ix a1)) = (s2 5 (ix a3)) → P ((-1000000005)) s2))))) ∧ ((s2 5 (ix a3)) = 0 → P ((-1000000002)) s2))))))) ∧ (r2 = 0 → P ((-1000000001)) s2))))))))
set_option maxRecDepth 100000 in
set_option maxHeartbeats 4000000 in
theorem xM_notMoved {w : Wc} (l : Launch) {a1 : Int32} {a2 : Int32} {a3 : Int32} {a4 : Int32} {a5 : Int32} {s0 : Sg} {P : Int32 → Sg → Prop} (hw : wM_notMoved a1 a2 a3 a4 a5 s0 P) : CI shM w l 3 (.code yX8_notMoved cX8_notMoved 7 (some .int)) yX8_notMoved [.ref (ad w 0), .int a1, .int a2, .int a3, .int a4, .int a5] s0 P := by
  refine ci_of_i (own := "BagBottomModel") (ls0 := [some (.ref (ad w 0)), some (.int a1), some (.int a2), some (.int a3), some (.int a4), some (.int a5), none]) rfl pn_X8 rfl rfl (fun g el hg => ?_)
  unfold wM_notMoved at hw
  refine x_iload_1 hg dX8_notMoved_0 rfl ?_
  refine x_callSI hg (xM_isSheet (gL g)  hw) sm_X8_isSheet mi_X8_isSheet ml_X8_269 rfl rfl (As := [.int a1]) rfl rfl rfl dX8_notMoved_1 rfl (fun r1 s1 hw => ?_)
  refine x_if_eq hg dX8_notMoved_4 (tg := 14) (by decide) rfl hw (fun hw => ?_) (fun hw => ?_)
  · refine x_ldc hg kc_X8_77 dX8_notMoved_14 rfl ?_
    exact x_ret hg dX8_notMoved_16 hw
  · refine x_iload_3 hg dX8_notMoved_7 rfl ?_
    refine x_callSI hg (xM_isSheet (gL g)  hw) sm_X8_isSheet mi_X8_isSheet ml_X8_269 rfl rfl (As := [.int a3]) rfl rfl rfl dX8_notMoved_8 rfl (fun r2 s2 hw => ?_)
    refine x_if_ne hg dX8_notMoved_11 (tg := 17) (by decide) rfl hw (fun hw => ?_) (fun hw => ?_)
    · refine x_aload_0 hg dX8_notMoved_17 rfl ?_
      refine get_X8_5 hg kM_0 fl_X8_22 dX8_notMoved_18 rfl (k2 := 5) rfl ?_
      refine x_iload_1 hg dX8_notMoved_21 rfl ?_
      refine x_iald hg kM_5 rfl dX8_notMoved_22 rfl hw (fun hw => ?_)
      refine x_if_eq hg dX8_notMoved_23 (tg := 35) (by decide) rfl hw (fun hw => ?_) (fun hw => ?_)
      · refine x_ldc hg kc_X8_203 dX8_notMoved_35 rfl ?_
        exact x_ret hg dX8_notMoved_37 hw
      · refine x_aload_0 hg dX8_notMoved_26 rfl ?_
        refine get_X8_5 hg kM_0 fl_X8_22 dX8_notMoved_27 rfl (k2 := 5) rfl ?_
        refine x_iload_3 hg dX8_notMoved_30 rfl ?_
        refine x_iald hg kM_5 rfl dX8_notMoved_31 rfl hw (fun hw => ?_)
        refine x_if_ne hg dX8_notMoved_32 (tg := 38) (by decide) rfl hw (fun hw => ?_) (fun hw => ?_)
        · refine x_aload_0 hg dX8_notMoved_38 rfl ?_
          refine get_X8_5 hg kM_0 fl_X8_22 dX8_notMoved_39 rfl (k2 := 5) rfl ?_
          refine x_iload_1 hg dX8_notMoved_42 rfl ?_
          refine x_iald hg kM_5 rfl dX8_notMoved_43 rfl hw (fun hw => ?_)
          refine x_aload_0 hg dX8_notMoved_44 rfl ?_
          refine get_X8_5 hg kM_0 fl_X8_22 dX8_notMoved_45 rfl (k2 := 5) rfl ?_
          refine x_iload_3 hg dX8_notMoved_48 rfl ?_
          refine x_iald hg kM_5 rfl dX8_notMoved_49 rfl hw (fun hw => ?_)
          refine x_icmp_eq hg dX8_notMoved_50 (tg := 56) (by decide) rfl hw (fun hw => ?_) (fun hw => ?_)
          · refine x_iload_5 hg dX8_notMoved_56 rfl ?_
            refine x_if_lt hg dX8_notMoved_58 (tg := 101) (by decide) rfl hw (fun hw => ?_) (fun hw => ?_)
            · refine x_ic hg dX8_notMoved_101 ic_0 rfl ?_
              refine x_istore_6 hg dX8_notMoved_102 rfl rfl rfl ?_
              refine x_iload_6 hg dX8_notMoved_104 rfl ?_
              refine x_if_eq hg dX8_notMoved_106 (tg := 113) (by decide) rfl ⟨fun _ => hw, fun h => (show False from absurd h (by decide))⟩ (fun hw => ?_) (fun hw => False.elim hw)
              refine x_ldc hg kc_X8_77 dX8_notMoved_113 rfl ?_
              exact x_ret hg dX8_notMoved_115 hw
            · refine x_iload_2 hg dX8_notMoved_61 rfl ?_
              refine x_if_lt hg dX8_notMoved_62 (tg := 101) (by decide) rfl hw (fun hw => ?_) (fun hw => ?_)
              · refine x_ic hg dX8_notMoved_101 ic_0 rfl ?_
                refine x_istore_6 hg dX8_notMoved_102 rfl rfl rfl ?_
                refine x_iload_6 hg dX8_notMoved_104 rfl ?_
                refine x_if_eq hg dX8_notMoved_106 (tg := 113) (by decide) rfl ⟨fun _ => hw, fun h => (show False from absurd h (by decide))⟩ (fun hw => ?_) (fun hw => False.elim hw)
                refine x_ldc hg kc_X8_77 dX8_notMoved_113 rfl ?_
                exact x_ret hg dX8_notMoved_115 hw
              · refine x_iload_4 hg dX8_notMoved_65 rfl ?_
                refine x_if_lt hg dX8_notMoved_67 (tg := 101) (by decide) rfl hw (fun hw => ?_) (fun hw => ?_)
                · refine x_ic hg dX8_notMoved_101 ic_0 rfl ?_
                  refine x_istore_6 hg dX8_notMoved_102 rfl rfl rfl ?_
                  refine x_iload_6 hg dX8_notMoved_104 rfl ?_
                  refine x_if_eq hg dX8_notMoved_106 (tg := 113) (by decide) rfl ⟨fun _ => hw, fun h => (show False from absurd h (by decide))⟩ (fun hw => ?_) (fun hw => False.elim hw)
                  refine x_ldc hg kc_X8_77 dX8_notMoved_113 rfl ?_
                  exact x_ret hg dX8_notMoved_115 hw
                · refine x_iload_5 hg dX8_notMoved_70 rfl ?_
                  refine x_aload_0 hg dX8_notMoved_72 rfl ?_
                  refine get_X8_6 hg kM_0 fl_X8_25 dX8_notMoved_73 rfl (k2 := 6) rfl ?_
                  refine x_iload_1 hg dX8_notMoved_76 rfl ?_
                  refine x_iald hg kM_6 rfl dX8_notMoved_77 rfl hw (fun hw => ?_)
                  refine x_iload_2 hg dX8_notMoved_78 rfl ?_
                  refine x_isub hg dX8_notMoved_79 rfl ?_
                  refine x_icmp_gt hg dX8_notMoved_80 (tg := 101) (by decide) rfl hw (fun hw => ?_) (fun hw => ?_)
                  · refine x_ic hg dX8_notMoved_101 ic_0 rfl ?_
                    refine x_istore_6 hg dX8_notMoved_102 rfl rfl rfl ?_
                    refine x_iload_6 hg dX8_notMoved_104 rfl ?_
                    refine x_if_eq hg dX8_notMoved_106 (tg := 113) (by decide) rfl ⟨fun _ => hw, fun h => (show False from absurd h (by decide))⟩ (fun hw => ?_) (fun hw => False.elim hw)
                    refine x_ldc hg kc_X8_77 dX8_notMoved_113 rfl ?_
                    exact x_ret hg dX8_notMoved_115 hw
                  · refine x_iload_5 hg dX8_notMoved_83 rfl ?_
                    refine x_aload_0 hg dX8_notMoved_85 rfl ?_
                    refine get_X8_6 hg kM_0 fl_X8_25 dX8_notMoved_86 rfl (k2 := 6) rfl ?_
                    refine x_iload_3 hg dX8_notMoved_89 rfl ?_
                    refine x_iald hg kM_6 rfl dX8_notMoved_90 rfl hw (fun hw => ?_)
                    refine x_iload_4 hg dX8_notMoved_91 rfl ?_
                    refine x_isub hg dX8_notMoved_93 rfl ?_
                    refine x_icmp_gt hg dX8_notMoved_94 (tg := 101) (by decide) rfl hw (fun hw => ?_) (fun hw => ?_)
                    · refine x_ic hg dX8_notMoved_101 ic_0 rfl ?_
                      refine x_istore_6 hg dX8_notMoved_102 rfl rfl rfl ?_
                      refine x_iload_6 hg dX8_notMoved_104 rfl ?_
                      refine x_if_eq hg dX8_notMoved_106 (tg := 113) (by decide) rfl ⟨fun _ => hw, fun h => (show False from absurd h (by decide))⟩ (fun hw => ?_) (fun hw => False.elim hw)
                      refine x_ldc hg kc_X8_77 dX8_notMoved_113 rfl ?_
                      exact x_ret hg dX8_notMoved_115 hw
                    · refine x_ic hg dX8_notMoved_97 ic_1 rfl ?_
                      refine x_goto hg dX8_notMoved_98 (pc' := 102) (by decide) ?_
                      refine x_istore_6 hg dX8_notMoved_102 rfl rfl rfl ?_
                      refine x_iload_6 hg dX8_notMoved_104 rfl ?_
                      refine x_if_eq hg dX8_notMoved_106 (tg := 113) (by decide) rfl ⟨fun h => (show False from absurd h (by decide)), fun _ => hw⟩ (fun hw => False.elim hw) (fun hw => ?_)
                      refine x_ic hg dX8_notMoved_109 ic_0 rfl ?_
                      refine x_goto hg dX8_notMoved_110 (pc' := 115) (by decide) ?_
                      exact x_ret hg dX8_notMoved_115 hw
          · refine x_ldc hg kc_X8_98 dX8_notMoved_53 rfl ?_
            exact x_ret hg dX8_notMoved_55 hw
        · refine x_ldc hg kc_X8_203 dX8_notMoved_35 rfl ?_
          exact x_ret hg dX8_notMoved_37 hw
    · refine x_ldc hg kc_X8_77 dX8_notMoved_14 rfl ?_
      exact x_ret hg dX8_notMoved_16 hw
def wM_move_28 (f1 : Int32) (f2 : Int32) (f3 : Int32) (f4 : Int32) (f5 : Int32) (K90 : Sg → Prop) : Nat → Int32 → Sg → Prop
  | 0, _, _ => False
  | n + 1, a7, s0 => ((f5 ≤ a7 → K90  s0) ∧ (¬ f5 ≤ a7 → ((f4 ≤ f2 → (vp_in ((((24 * f1) + f2) + a7)) 96 ∧ (vp_in ((((24 * f3) + f4) + a7)) 96 ∧ ∀ s1 : Sg, s1 = u2 s0 7 (ix ((((24 * f3) + f4) + a7))) ((s0 7 (ix ((((24 * f1) + f2) + a7))))) → wM_move_28 f1 f2 f3 f4 f5 K90 n ((a7 + 1)) s1))) ∧ (¬ f4 ≤ f2 → (vp_in ((((24 * f1) + f2) + ((f5 - 1) - a7))) 96 ∧ (vp_in ((((24 * f3) + f4) + ((f5 - 1) - a7))) 96 ∧ ∀ s1 : Sg, s1 = u2 s0 7 (ix ((((24 * f3) + f4) + ((f5 - 1) - a7)))) ((s0 7 (ix ((((24 * f1) + f2) + ((f5 - 1) - a7)))))) → wM_move_28 f1 f2 f3 f4 f5 K90 n ((a7 + 1)) s1))))))
def wM_move (a1 : Int32) (a2 : Int32) (a3 : Int32) (a4 : Int32) (a5 : Int32) (s0 : Sg) (P : Int32 → Sg → Prop) : Prop := (wM_notMoved a1 a2 a3 a4 a5 s0 (fun (r1 : Int32) (s1 : Sg) => ((r1 = 0 → (∃ N1 : Nat, wM_move_28 a1 a2 a3 a4 a5 (fun  (s2 : Sg) => P a5 s2) N1 0 s1)) ∧ (¬ r1 = 0 → (wM_error r1 s1 (fun (r2 : Int32) (s2 : Sg) => P r2 s2))))))
set_option maxRecDepth 100000 in
set_option maxHeartbeats 4000000 in
theorem xM_move_28 {w : Wc} {g : Gx} {Q : State → Prop} {f1 : Int32} {f2 : Int32} {f3 : Int32} {f4 : Int32} {f5 : Int32} {K90 : Sg → Prop} (hg : OK shM w g 4 cX8_move "BagBottomModel" 9 (some .int)) (hK90 : ∀ (s0 : Sg), K90  s0 → X shM w g Q 90 [none, none, none, none, none, some (.int f5), none, none, none] [] s0) : ∀ (n : Nat) (a7 : Int32) (s0 : Sg), wM_move_28 f1 f2 f3 f4 f5 K90 n a7 s0 → X shM w g Q 28 [some (.ref (ad w 0)), some (.int f1), some (.int f2), some (.int f3), some (.int f4), some (.int f5), none, some (.int a7), none] [] s0 := by
  intro n
  induction n with
  | zero =>
    intro a7 s0 hw
    exact hw.elim
  | succ n ih =>
    intro a7 s0 hw
    rw [wM_move_28] at hw
    refine x_iload_7 hg dX8_move_28 rfl ?_
    refine x_iload_5 hg dX8_move_30 rfl ?_
    refine x_icmp_ge hg dX8_move_32 (tg := 90) (by decide) rfl hw (fun hw => ?_) (fun hw => ?_)
    · refine x_drop_0 ?_
      refine x_drop_1 ?_
      refine x_drop_2 ?_
      refine x_drop_3 ?_
      refine x_drop_4 ?_
      refine x_drop_7 ?_
      exact hK90  _ hw
    · refine x_iload_2 hg dX8_move_35 rfl ?_
      refine x_iload_4 hg dX8_move_36 rfl ?_
      refine x_icmp_ge hg dX8_move_38 (tg := 51) (by decide) rfl hw (fun hw => ?_) (fun hw => ?_)
      · refine x_iload_7 hg dX8_move_51 rfl ?_
        refine x_istore_8 hg dX8_move_53 rfl rfl rfl ?_
        refine x_aload_0 hg dX8_move_55 rfl ?_
        refine get_X8_7 hg kM_0 fl_X8_28 dX8_move_56 rfl (k2 := 7) rfl ?_
        refine x_bi hg dX8_move_59 bp_24 rfl ?_
        refine x_iload_3 hg dX8_move_61 rfl ?_
        refine x_imul hg dX8_move_62 rfl ?_
        refine x_iload_4 hg dX8_move_63 rfl ?_
        refine x_iadd hg dX8_move_65 rfl ?_
        refine x_iload_8 hg dX8_move_66 rfl ?_
        refine x_iadd hg dX8_move_68 rfl ?_
        refine x_aload_0 hg dX8_move_69 rfl ?_
        refine get_X8_7 hg kM_0 fl_X8_28 dX8_move_70 rfl (k2 := 7) rfl ?_
        refine x_bi hg dX8_move_73 bp_24 rfl ?_
        refine x_iload_1 hg dX8_move_75 rfl ?_
        refine x_imul hg dX8_move_76 rfl ?_
        refine x_iload_2 hg dX8_move_77 rfl ?_
        refine x_iadd hg dX8_move_78 rfl ?_
        refine x_iload_8 hg dX8_move_79 rfl ?_
        refine x_iadd hg dX8_move_81 rfl ?_
        refine x_iald hg kM_7 rfl dX8_move_82 rfl hw (fun hw => ?_)
        refine x_iast hg kM_7 rfl dX8_move_83 rfl hw (fun s1 hw => ?_)
        refine x_iinc_7 hg dX8_move_84 ic_1 rfl rfl rfl ?_
        refine x_goto hg dX8_move_87 (pc' := 28) (by decide) ?_
        refine x_drop_8 ?_
        exact ih _ _ hw
      · refine x_iload_5 hg dX8_move_41 rfl ?_
        refine x_ic hg dX8_move_43 ic_1 rfl ?_
        refine x_isub hg dX8_move_44 rfl ?_
        refine x_iload_7 hg dX8_move_45 rfl ?_
        refine x_isub hg dX8_move_47 rfl ?_
        refine x_goto hg dX8_move_48 (pc' := 53) (by decide) ?_
        refine x_istore_8 hg dX8_move_53 rfl rfl rfl ?_
        refine x_aload_0 hg dX8_move_55 rfl ?_
        refine get_X8_7 hg kM_0 fl_X8_28 dX8_move_56 rfl (k2 := 7) rfl ?_
        refine x_bi hg dX8_move_59 bp_24 rfl ?_
        refine x_iload_3 hg dX8_move_61 rfl ?_
        refine x_imul hg dX8_move_62 rfl ?_
        refine x_iload_4 hg dX8_move_63 rfl ?_
        refine x_iadd hg dX8_move_65 rfl ?_
        refine x_iload_8 hg dX8_move_66 rfl ?_
        refine x_iadd hg dX8_move_68 rfl ?_
        refine x_aload_0 hg dX8_move_69 rfl ?_
        refine get_X8_7 hg kM_0 fl_X8_28 dX8_move_70 rfl (k2 := 7) rfl ?_
        refine x_bi hg dX8_move_73 bp_24 rfl ?_
        refine x_iload_1 hg dX8_move_75 rfl ?_
        refine x_imul hg dX8_move_76 rfl ?_
        refine x_iload_2 hg dX8_move_77 rfl ?_
        refine x_iadd hg dX8_move_78 rfl ?_
        refine x_iload_8 hg dX8_move_79 rfl ?_
        refine x_iadd hg dX8_move_81 rfl ?_
        refine x_iald hg kM_7 rfl dX8_move_82 rfl hw (fun hw => ?_)
        refine x_iast hg kM_7 rfl dX8_move_83 rfl hw (fun s1 hw => ?_)
        refine x_iinc_7 hg dX8_move_84 ic_1 rfl rfl rfl ?_
        refine x_goto hg dX8_move_87 (pc' := 28) (by decide) ?_
        refine x_drop_8 ?_
        exact ih _ _ hw
set_option maxRecDepth 100000 in
set_option maxHeartbeats 4000000 in
theorem xM_move {w : Wc} (l : Launch) {a1 : Int32} {a2 : Int32} {a3 : Int32} {a4 : Int32} {a5 : Int32} {s0 : Sg} {P : Int32 → Sg → Prop} (hw : wM_move a1 a2 a3 a4 a5 s0 P) : CI shM w l 4 (.code yX8_move cX8_move 9 (some .int)) yX8_move [.ref (ad w 0), .int a1, .int a2, .int a3, .int a4, .int a5] s0 P := by
  refine ci_of_i (own := "BagBottomModel") (ls0 := [some (.ref (ad w 0)), some (.int a1), some (.int a2), some (.int a3), some (.int a4), some (.int a5), none, none, none]) rfl pn_X8 rfl rfl (fun g el hg => ?_)
  unfold wM_move at hw
  refine x_aload_0 hg dX8_move_0 rfl ?_
  refine x_iload_1 hg dX8_move_1 rfl ?_
  refine x_iload_2 hg dX8_move_2 rfl ?_
  refine x_iload_3 hg dX8_move_3 rfl ?_
  refine x_iload_4 hg dX8_move_4 rfl ?_
  refine x_iload_5 hg dX8_move_6 rfl ?_
  refine x_callVI hg (xM_notMoved (gL g)  hw) kM_0 (by decide) rfl im_X8_notMoved se_X8_notMoved mi_X8_notMoved ml_X8_272 rfl rfl (As := [.int a1, .int a2, .int a3, .int a4, .int a5]) rfl rfl rfl dX8_move_8 rfl (fun r1 s1 hw => ?_)
  refine x_istore_6 hg dX8_move_11 rfl rfl rfl ?_
  refine x_iload_6 hg dX8_move_13 rfl ?_
  refine x_if_eq hg dX8_move_15 (tg := 25) (by decide) rfl hw (fun hw => ?_) (fun hw => ?_)
  · refine x_ic hg dX8_move_25 ic_0 rfl ?_
    refine x_istore_7 hg dX8_move_26 rfl rfl rfl ?_
    refine x_drop_6 ?_
    obtain ⟨N1, hw⟩ := hw
    refine xM_move_28 hg  (fun  s2 hw => ?_) _ _ _ hw
    · refine x_iload_5 hg dX8_move_90 rfl ?_
      exact x_ret hg dX8_move_92 hw
  · refine x_aload_0 hg dX8_move_18 rfl ?_
    refine x_iload_6 hg dX8_move_19 rfl ?_
    refine x_callVI hg (xM_error (gL g)  hw) kM_0 (by decide) rfl im_X8_error se_X8_error mi_X8_error ml_X8_78 rfl rfl (As := [.int r1]) rfl rfl rfl dX8_move_21 rfl (fun r2 s2 hw => ?_)
    exact x_ret hg dX8_move_24 hw
def wM_weights_18 (f1 : Int32) (K88 : Int32 → Sg → Prop) : Nat → Int32 → Sg → Prop
  | 0, _, _ => False
  | n + 1, a3, s0 => (vp_in f1 4 ∧ (((s0 6 (ix f1)) ≤ a3 → K88 a3 s0) ∧ (¬ (s0 6 (ix f1)) ≤ a3 → (((s0 1 2) ≤ a3 → K88 a3 s0) ∧ (¬ (s0 1 2) ≤ a3 → (vp_in (((24 * f1) + a3)) 96 ∧ (wM_in ((s0 7 (ix (((24 * f1) + a3))))) 0 99 s0 (fun (r1 : Int32) (s1 : Sg) => ((r1 = 0 → K88 a3 s1) ∧ (¬ r1 = 0 → (vp_in (((24 * f1) + a3)) 96 ∧ (vp_in (((17 + (4 * a3)) + 2)) 379 ∧ ∀ s2 : Sg, s2 = u2 s1 1 (ix (((17 + (4 * a3)) + 2))) ((s1 7 (ix (((24 * f1) + a3))))) → wM_weights_18 f1 K88 n ((a3 + 1)) s2))))))))))))
def wM_weights (a1 : Int32) (s0 : Sg) (P : Int32 → Sg → Prop) : Prop := (wM_notThere a1 s0 (fun (r1 : Int32) (s1 : Sg) => ((r1 = 0 → (∃ N1 : Nat, wM_weights_18 a1 (fun (v1 : Int32) (s2 : Sg) => P v1 s2) N1 0 s1)) ∧ (¬ r1 = 0 → (wM_error r1 s1 (fun (r2 : Int32) (s2 : Sg) => P r2 s2))))))
set_option maxRecDepth 100000 in
set_option maxHeartbeats 4000000 in
theorem xM_weights_18 {w : Wc} {g : Gx} {Q : State → Prop} {f1 : Int32} {K88 : Int32 → Sg → Prop} (hg : OK shM w g 4 cX8_weights "BagBottomModel" 4 (some .int)) (hK88 : ∀ (a3 : Int32) (s0 : Sg), K88 a3 s0 → X shM w g Q 88 [none, none, none, some (.int a3)] [] s0) : ∀ (n : Nat) (a3 : Int32) (s0 : Sg), wM_weights_18 f1 K88 n a3 s0 → X shM w g Q 18 [some (.ref (ad w 0)), some (.int f1), none, some (.int a3)] [] s0 := by
  intro n
  induction n with
  | zero =>
    intro a3 s0 hw
    exact hw.elim
  | succ n ih =>
    intro a3 s0 hw
    rw [wM_weights_18] at hw
    refine x_iload_3 hg dX8_weights_18 rfl ?_
    refine x_aload_0 hg dX8_weights_19 rfl ?_
    refine get_X8_6 hg kM_0 fl_X8_25 dX8_weights_20 rfl (k2 := 6) rfl ?_
    refine x_iload_1 hg dX8_weights_23 rfl ?_
    refine x_iald hg kM_6 rfl dX8_weights_24 rfl hw (fun hw => ?_)
    refine x_icmp_ge hg dX8_weights_25 (tg := 88) (by decide) rfl hw (fun hw => ?_) (fun hw => ?_)
    · refine x_drop_0 ?_
      refine x_drop_1 ?_
      exact hK88 _ _ hw
    · refine x_iload_3 hg dX8_weights_28 rfl ?_
      refine x_aload_0 hg dX8_weights_29 rfl ?_
      refine get_X8_0 hg kM_0 fl_X8_9 dX8_weights_30 rfl (k2 := 1) rfl ?_
      refine x_ic hg dX8_weights_33 ic_2 rfl ?_
      refine x_ialdc hg kM_1 rfl vi_2_379 ix_2 dX8_weights_34 rfl ?_
      refine x_icmp_ge hg dX8_weights_35 (tg := 88) (by decide) rfl hw (fun hw => ?_) (fun hw => ?_)
      · refine x_drop_0 ?_
        refine x_drop_1 ?_
        exact hK88 _ _ hw
      · refine x_aload_0 hg dX8_weights_38 rfl ?_
        refine get_X8_7 hg kM_0 fl_X8_28 dX8_weights_39 rfl (k2 := 7) rfl ?_
        refine x_bi hg dX8_weights_42 bp_24 rfl ?_
        refine x_iload_1 hg dX8_weights_44 rfl ?_
        refine x_imul hg dX8_weights_45 rfl ?_
        refine x_iload_3 hg dX8_weights_46 rfl ?_
        refine x_iadd hg dX8_weights_47 rfl ?_
        refine x_iald hg kM_7 rfl dX8_weights_48 rfl hw (fun hw => ?_)
        refine x_ic hg dX8_weights_49 ic_0 rfl ?_
        refine x_bi hg dX8_weights_50 bp_99 rfl ?_
        refine x_callSI hg (xM_in (gL g)  hw) sm_X8_in mi_X8_in ml_X8_57 rfl rfl (As := [.int (s0 7 (ix (((24 * f1) + a3)))), .int 0, .int 99]) rfl rfl rfl dX8_weights_52 rfl (fun r1 s1 hw => ?_)
        refine x_if_eq hg dX8_weights_55 (tg := 88) (by decide) rfl hw (fun hw => ?_) (fun hw => ?_)
        · refine x_drop_0 ?_
          refine x_drop_1 ?_
          exact hK88 _ _ hw
        · refine x_aload_0 hg dX8_weights_58 rfl ?_
          refine get_X8_0 hg kM_0 fl_X8_9 dX8_weights_59 rfl (k2 := 1) rfl ?_
          refine x_bi hg dX8_weights_62 bp_17 rfl ?_
          refine x_ic hg dX8_weights_64 ic_4 rfl ?_
          refine x_iload_3 hg dX8_weights_65 rfl ?_
          refine x_imul hg dX8_weights_66 rfl ?_
          refine x_iadd hg dX8_weights_67 rfl ?_
          refine x_ic hg dX8_weights_68 ic_2 rfl ?_
          refine x_iadd hg dX8_weights_69 rfl ?_
          refine x_aload_0 hg dX8_weights_70 rfl ?_
          refine get_X8_7 hg kM_0 fl_X8_28 dX8_weights_71 rfl (k2 := 7) rfl ?_
          refine x_bi hg dX8_weights_74 bp_24 rfl ?_
          refine x_iload_1 hg dX8_weights_76 rfl ?_
          refine x_imul hg dX8_weights_77 rfl ?_
          refine x_iload_3 hg dX8_weights_78 rfl ?_
          refine x_iadd hg dX8_weights_79 rfl ?_
          refine x_iald hg kM_7 rfl dX8_weights_80 rfl hw (fun hw => ?_)
          refine x_iast hg kM_1 rfl dX8_weights_81 rfl hw (fun s2 hw => ?_)
          refine x_iinc_3 hg dX8_weights_82 ic_1 rfl rfl rfl ?_
          refine x_goto hg dX8_weights_85 (pc' := 18) (by decide) ?_
          exact ih _ _ hw
set_option maxRecDepth 100000 in
set_option maxHeartbeats 4000000 in
theorem xM_weights {w : Wc} (l : Launch) {a1 : Int32} {s0 : Sg} {P : Int32 → Sg → Prop} (hw : wM_weights a1 s0 P) : CI shM w l 4 (.code yX8_weights cX8_weights 4 (some .int)) yX8_weights [.ref (ad w 0), .int a1] s0 P := by
  refine ci_of_i (own := "BagBottomModel") (ls0 := [some (.ref (ad w 0)), some (.int a1), none, none]) rfl pn_X8 rfl rfl (fun g el hg => ?_)
  unfold wM_weights at hw
  refine x_aload_0 hg dX8_weights_0 rfl ?_
  refine x_iload_1 hg dX8_weights_1 rfl ?_
  refine x_callVI hg (xM_notThere (gL g)  hw) kM_0 (by decide) rfl im_X8_notThere se_X8_notThere mi_X8_notThere ml_X8_223 rfl rfl (As := [.int a1]) rfl rfl rfl dX8_weights_2 rfl (fun r1 s1 hw => ?_)
  refine x_istore_2 hg dX8_weights_5 rfl rfl rfl ?_
  refine x_iload_2 hg dX8_weights_6 rfl ?_
  refine x_if_eq hg dX8_weights_7 (tg := 16) (by decide) rfl hw (fun hw => ?_) (fun hw => ?_)
  · refine x_ic hg dX8_weights_16 ic_0 rfl ?_
    refine x_istore_3 hg dX8_weights_17 rfl rfl rfl ?_
    refine x_drop_2 ?_
    obtain ⟨N1, hw⟩ := hw
    refine xM_weights_18 hg  (fun v1 s2 hw => ?_) _ _ _ hw
    · refine x_iload_3 hg dX8_weights_88 rfl ?_
      exact x_ret hg dX8_weights_89 hw
  · refine x_aload_0 hg dX8_weights_10 rfl ?_
    refine x_iload_2 hg dX8_weights_11 rfl ?_
    refine x_callVI hg (xM_error (gL g)  hw) kM_0 (by decide) rfl im_X8_error se_X8_error mi_X8_error ml_X8_78 rfl rfl (As := [.int r1]) rfl rfl rfl dX8_weights_12 rfl (fun r2 s2 hw => ?_)
    exact x_ret hg dX8_weights_15 hw
def wM_judge (a1 : Int32) (s0 : Sg) (P : Int32 → Sg → Prop) : Prop := (wM_notThere a1 s0 (fun (r1 : Int32) (s1 : Sg) => ((r1 = 0 → (wM_rightOf a1 s1 (fun (r2 : Int32) (s2 : Sg) => P r2 s2))) ∧ (¬ r1 = 0 → (wM_error r1 s1 (fun (r2 : Int32) (s2 : Sg) => P r2 s2))))))
set_option maxRecDepth 100000 in
set_option maxHeartbeats 4000000 in
theorem xM_judge {w : Wc} (l : Launch) {a1 : Int32} {s0 : Sg} {P : Int32 → Sg → Prop} (hw : wM_judge a1 s0 P) : CI shM w l 4 (.code yX8_judge cX8_judge 3 (some .int)) yX8_judge [.ref (ad w 0), .int a1] s0 P := by
  refine ci_of_i (own := "BagBottomModel") (ls0 := [some (.ref (ad w 0)), some (.int a1), none]) rfl pn_X8 rfl rfl (fun g el hg => ?_)
  unfold wM_judge at hw
  refine x_aload_0 hg dX8_judge_0 rfl ?_
  refine x_iload_1 hg dX8_judge_1 rfl ?_
  refine x_callVI hg (xM_notThere (gL g)  hw) kM_0 (by decide) rfl im_X8_notThere se_X8_notThere mi_X8_notThere ml_X8_223 rfl rfl (As := [.int a1]) rfl rfl rfl dX8_judge_2 rfl (fun r1 s1 hw => ?_)
  refine x_istore_2 hg dX8_judge_5 rfl rfl rfl ?_
  refine x_iload_2 hg dX8_judge_6 rfl ?_
  refine x_if_eq hg dX8_judge_7 (tg := 18) (by decide) rfl hw (fun hw => ?_) (fun hw => ?_)
  · refine x_aload_0 hg dX8_judge_18 rfl ?_
    refine x_iload_1 hg dX8_judge_19 rfl ?_
    refine x_callVI hg (xM_rightOf (gL g)  hw) kM_0 (by decide) rfl im_X8_rightOf se_X8_rightOf mi_X8_rightOf ml_X8_226 rfl rfl (As := [.int a1]) rfl rfl rfl dX8_judge_20 rfl (fun r2 s2 hw => ?_)
    exact x_ret hg dX8_judge_23 hw
  · refine x_aload_0 hg dX8_judge_10 rfl ?_
    refine x_iload_2 hg dX8_judge_11 rfl ?_
    refine x_callVI hg (xM_error (gL g)  hw) kM_0 (by decide) rfl im_X8_error se_X8_error mi_X8_error ml_X8_78 rfl rfl (As := [.int r1]) rfl rfl rfl dX8_judge_12 rfl (fun r2 s2 hw => ?_)
    refine x_goto hg dX8_judge_15 (pc' := 23) (by decide) ?_
    exact x_ret hg dX8_judge_23 hw
def wM_image (s0 : Sg) (P : Int32 → Sg → Prop) : Prop := (wM_copyAll 1 2 s0 (fun (s1 : Sg) => (∀ s2 : Sg, s2 = u2 s1 0 3 (((s1 0 3) + 1)) → P ((s2 0 3)) s2)))
set_option maxRecDepth 100000 in
set_option maxHeartbeats 4000000 in
theorem xM_image {w : Wc} (l : Launch) {s0 : Sg} {P : Int32 → Sg → Prop} (hw : wM_image  s0 P) : CI shM w l 2 (.code yX8_image cX8_image 1 (some .int)) yX8_image [.ref (ad w 0)] s0 P := by
  refine ci_of_i (own := "BagBottomModel") (ls0 := [some (.ref (ad w 0))]) rfl pn_X8 rfl rfl (fun g el hg => ?_)
  unfold wM_image at hw
  refine x_aload_0 hg dX8_image_0 rfl ?_
  refine get_X8_0 hg kM_0 fl_X8_9 dX8_image_1 rfl (k2 := 1) rfl ?_
  refine x_aload_0 hg dX8_image_4 rfl ?_
  refine get_X8_1 hg kM_0 fl_X8_13 dX8_image_5 rfl (k2 := 2) rfl ?_
  refine x_callSV hg (xM_copyAll (gL g) kM_1 rfl kM_2 rfl hw) sm_X8_copyAll mi_X8_copyAll ml_X8_53 rfl rfl (As := [.ref (ad w 1), .ref (ad w 2)]) rfl rfl rfl dX8_image_8 rfl (fun s1 hw => ?_)
  refine x_aload_0 hg dX8_image_11 rfl ?_
  refine x_dup hg dX8_image_12 rfl rfl ?_
  refine get_X8_3 hg kM_0 fl_X8_276 dX8_image_13 rfl ?_
  refine x_ic hg dX8_image_16 ic_1 rfl ?_
  refine x_iadd hg dX8_image_17 rfl ?_
  refine put_X8_3 hg kM_0 fl_X8_276 dX8_image_18 rfl hw (fun s2 hw => ?_)
  refine x_aload_0 hg dX8_image_21 rfl ?_
  refine get_X8_3 hg kM_0 fl_X8_276 dX8_image_22 rfl ?_
  exact x_ret hg dX8_image_25 hw
def wM_restore (s0 : Sg) (P : Int32 → Sg → Prop) : Prop := ((¬ (s0 0 3) = 0 → (wM_copyAll 2 1 s0 (fun (s1 : Sg) => P ((s1 1 0)) s1))) ∧ ((s0 0 3) = 0 → (wM_error ((-1000000002)) s0 (fun (r1 : Int32) (s1 : Sg) => P r1 s1))))
set_option maxRecDepth 100000 in
set_option maxHeartbeats 4000000 in
theorem xM_restore {w : Wc} (l : Launch) {s0 : Sg} {P : Int32 → Sg → Prop} (hw : wM_restore  s0 P) : CI shM w l 2 (.code yX8_restore cX8_restore 1 (some .int)) yX8_restore [.ref (ad w 0)] s0 P := by
  refine ci_of_i (own := "BagBottomModel") (ls0 := [some (.ref (ad w 0))]) rfl pn_X8 rfl rfl (fun g el hg => ?_)
  unfold wM_restore at hw
  refine x_aload_0 hg dX8_restore_0 rfl ?_
  refine get_X8_3 hg kM_0 fl_X8_276 dX8_restore_1 rfl ?_
  refine x_if_ne hg dX8_restore_4 (tg := 14) (by decide) rfl hw (fun hw => ?_) (fun hw => ?_)
  · refine x_aload_0 hg dX8_restore_14 rfl ?_
    refine get_X8_1 hg kM_0 fl_X8_13 dX8_restore_15 rfl (k2 := 2) rfl ?_
    refine x_aload_0 hg dX8_restore_18 rfl ?_
    refine get_X8_0 hg kM_0 fl_X8_9 dX8_restore_19 rfl (k2 := 1) rfl ?_
    refine x_callSV hg (xM_copyAll (gL g) kM_2 rfl kM_1 rfl hw) sm_X8_copyAll mi_X8_copyAll ml_X8_53 rfl rfl (As := [.ref (ad w 2), .ref (ad w 1)]) rfl rfl rfl dX8_restore_22 rfl (fun s1 hw => ?_)
    refine x_aload_0 hg dX8_restore_25 rfl ?_
    refine get_X8_0 hg kM_0 fl_X8_9 dX8_restore_26 rfl (k2 := 1) rfl ?_
    refine x_ic hg dX8_restore_29 ic_0 rfl ?_
    refine x_ialdc hg kM_1 rfl vi_0_379 ix_0 dX8_restore_30 rfl ?_
    exact x_ret hg dX8_restore_31 hw
  · refine x_aload_0 hg dX8_restore_7 rfl ?_
    refine x_ldc hg kc_X8_203 dX8_restore_8 rfl ?_
    refine x_callVI hg (xM_error (gL g)  hw) kM_0 (by decide) rfl im_X8_error se_X8_error mi_X8_error ml_X8_78 rfl rfl (As := [.int (-1000000002)]) rfl rfl rfl dX8_restore_10 rfl (fun r1 s1 hw => ?_)
    exact x_ret hg dX8_restore_13 hw
def wM_tell (a1 : Int32) (s0 : Sg) (P : Int32 → Sg → Prop) : Prop := ((¬ (s0 1 6) = 24 → (vp_in ((113 + (s0 1 6))) 379 ∧ ∀ s1 : Sg, s1 = u2 s0 1 (ix ((113 + (s0 1 6)))) a1 → (∀ s2 : Sg, s2 = u2 s1 1 6 (((s1 1 6) + 1)) → P ((s2 1 6)) s2))) ∧ ((s0 1 6) = 24 → (wM_error ((-1000000004)) s0 (fun (r1 : Int32) (s1 : Sg) => P r1 s1))))
set_option maxRecDepth 100000 in
set_option maxHeartbeats 4000000 in
theorem xM_tell {w : Wc} (l : Launch) {a1 : Int32} {s0 : Sg} {P : Int32 → Sg → Prop} (hw : wM_tell a1 s0 P) : CI shM w l 2 (.code yX8_tell cX8_tell 2 (some .int)) yX8_tell [.ref (ad w 0), .int a1] s0 P := by
  refine ci_of_i (own := "BagBottomModel") (ls0 := [some (.ref (ad w 0)), some (.int a1)]) rfl pn_X8 rfl rfl (fun g el hg => ?_)
  unfold wM_tell at hw
  refine x_aload_0 hg dX8_tell_0 rfl ?_
  refine get_X8_0 hg kM_0 fl_X8_9 dX8_tell_1 rfl (k2 := 1) rfl ?_
  refine x_bi hg dX8_tell_4 bp_6 rfl ?_
  refine x_ialdc hg kM_1 rfl vi_6_379 ix_6 dX8_tell_6 rfl ?_
  refine x_bi hg dX8_tell_7 bp_24 rfl ?_
  refine x_icmp_ne hg dX8_tell_9 (tg := 19) (by decide) rfl hw (fun hw => ?_) (fun hw => ?_)
  · refine x_aload_0 hg dX8_tell_19 rfl ?_
    refine get_X8_0 hg kM_0 fl_X8_9 dX8_tell_20 rfl (k2 := 1) rfl ?_
    refine x_bi hg dX8_tell_23 bp_113 rfl ?_
    refine x_aload_0 hg dX8_tell_25 rfl ?_
    refine get_X8_0 hg kM_0 fl_X8_9 dX8_tell_26 rfl (k2 := 1) rfl ?_
    refine x_bi hg dX8_tell_29 bp_6 rfl ?_
    refine x_ialdc hg kM_1 rfl vi_6_379 ix_6 dX8_tell_31 rfl ?_
    refine x_iadd hg dX8_tell_32 rfl ?_
    refine x_iload_1 hg dX8_tell_33 rfl ?_
    refine x_iast hg kM_1 rfl dX8_tell_34 rfl hw (fun s1 hw => ?_)
    refine x_aload_0 hg dX8_tell_35 rfl ?_
    refine get_X8_0 hg kM_0 fl_X8_9 dX8_tell_36 rfl (k2 := 1) rfl ?_
    refine x_bi hg dX8_tell_39 bp_6 rfl ?_
    refine x_dup2 hg dX8_tell_41 rfl rfl rfl ?_
    refine x_ialdc hg kM_1 rfl vi_6_379 ix_6 dX8_tell_42 rfl ?_
    refine x_ic hg dX8_tell_43 ic_1 rfl ?_
    refine x_iadd hg dX8_tell_44 rfl ?_
    refine x_iastc hg kM_1 rfl vi_6_379 ix_6 dX8_tell_45 rfl hw (fun s2 hw => ?_)
    refine x_aload_0 hg dX8_tell_46 rfl ?_
    refine get_X8_0 hg kM_0 fl_X8_9 dX8_tell_47 rfl (k2 := 1) rfl ?_
    refine x_bi hg dX8_tell_50 bp_6 rfl ?_
    refine x_ialdc hg kM_1 rfl vi_6_379 ix_6 dX8_tell_52 rfl ?_
    exact x_ret hg dX8_tell_53 hw
  · refine x_aload_0 hg dX8_tell_12 rfl ?_
    refine x_ldc hg kc_X8_81 dX8_tell_13 rfl ?_
    refine x_callVI hg (xM_error (gL g)  hw) kM_0 (by decide) rfl im_X8_error se_X8_error mi_X8_error ml_X8_78 rfl rfl (As := [.int (-1000000004)]) rfl rfl rfl dX8_tell_15 rfl (fun r1 s1 hw => ?_)
    exact x_ret hg dX8_tell_18 hw
def wM_check_18 (f1 : Int32) (P : Int32 → Sg → Prop) (K64 : Sg → Prop) : Nat → Int32 → Sg → Prop
  | 0, _, _ => False
  | n + 1, a2, s0 => ((f1 ≤ a2 → K64  s0) ∧ (¬ f1 ≤ a2 → (((s0 1 3) ≤ a2 → P ((1 + a2)) s0) ∧ (¬ (s0 1 3) ≤ a2 → (vp_in ((113 + a2)) 379 ∧ (vp_in ((8 + a2)) 379 ∧ (((s0 1 (ix ((113 + a2)))) = (s0 1 (ix ((8 + a2)))) → wM_check_18 f1 P K64 n ((a2 + 1)) s0) ∧ (¬ (s0 1 (ix ((113 + a2)))) = (s0 1 (ix ((8 + a2)))) → P ((1 + a2)) s0))))))))
def wM_check (s0 : Sg) (P : Int32 → Sg → Prop) : Prop := (∀ s1 : Sg, s1 = u2 s0 1 6 0 → (∃ N1 : Nat, wM_check_18 ((s0 1 6)) P (fun  (s2 : Sg) => P 0 s2) N1 0 s1))
set_option maxRecDepth 100000 in
set_option maxHeartbeats 4000000 in
theorem xM_check_18 {w : Wc} {g : Gx} {Q : State → Prop} {f1 : Int32} {P : Int32 → Sg → Prop} {K64 : Sg → Prop} (hg : OK shM w g 1 cX8_check "BagBottomModel" 3 (some .int)) (hQ : Q = QI shM w g P) (hK64 : ∀ (s0 : Sg), K64  s0 → X shM w g Q 64 [none, none, none] [] s0) : ∀ (n : Nat) (a2 : Int32) (s0 : Sg), wM_check_18 f1 P K64 n a2 s0 → X shM w g Q 18 [some (.ref (ad w 0)), some (.int f1), some (.int a2)] [] s0 := by
  subst hQ
  intro n
  induction n with
  | zero =>
    intro a2 s0 hw
    exact hw.elim
  | succ n ih =>
    intro a2 s0 hw
    rw [wM_check_18] at hw
    refine x_iload_2 hg dX8_check_18 rfl ?_
    refine x_iload_1 hg dX8_check_19 rfl ?_
    refine x_icmp_ge hg dX8_check_20 (tg := 64) (by decide) rfl hw (fun hw => ?_) (fun hw => ?_)
    · refine x_drop_0 ?_
      refine x_drop_1 ?_
      refine x_drop_2 ?_
      exact hK64  _ hw
    · refine x_iload_2 hg dX8_check_23 rfl ?_
      refine x_aload_0 hg dX8_check_24 rfl ?_
      refine get_X8_0 hg kM_0 fl_X8_9 dX8_check_25 rfl (k2 := 1) rfl ?_
      refine x_ic hg dX8_check_28 ic_3 rfl ?_
      refine x_ialdc hg kM_1 rfl vi_3_379 ix_3 dX8_check_29 rfl ?_
      refine x_icmp_ge hg dX8_check_30 (tg := 54) (by decide) rfl hw (fun hw => ?_) (fun hw => ?_)
      · refine x_ic hg dX8_check_54 ic_1 rfl ?_
        refine x_iload_2 hg dX8_check_55 rfl ?_
        refine x_iadd hg dX8_check_56 rfl ?_
        exact x_ret hg dX8_check_57 hw
      · refine x_aload_0 hg dX8_check_33 rfl ?_
        refine get_X8_0 hg kM_0 fl_X8_9 dX8_check_34 rfl (k2 := 1) rfl ?_
        refine x_bi hg dX8_check_37 bp_113 rfl ?_
        refine x_iload_2 hg dX8_check_39 rfl ?_
        refine x_iadd hg dX8_check_40 rfl ?_
        refine x_iald hg kM_1 rfl dX8_check_41 rfl hw (fun hw => ?_)
        refine x_aload_0 hg dX8_check_42 rfl ?_
        refine get_X8_0 hg kM_0 fl_X8_9 dX8_check_43 rfl (k2 := 1) rfl ?_
        refine x_bi hg dX8_check_46 bp_8 rfl ?_
        refine x_iload_2 hg dX8_check_48 rfl ?_
        refine x_iadd hg dX8_check_49 rfl ?_
        refine x_iald hg kM_1 rfl dX8_check_50 rfl hw (fun hw => ?_)
        refine x_icmp_eq hg dX8_check_51 (tg := 58) (by decide) rfl hw (fun hw => ?_) (fun hw => ?_)
        · refine x_iinc_2 hg dX8_check_58 ic_1 rfl rfl rfl ?_
          refine x_goto hg dX8_check_61 (pc' := 18) (by decide) ?_
          exact ih _ _ hw
        · refine x_ic hg dX8_check_54 ic_1 rfl ?_
          refine x_iload_2 hg dX8_check_55 rfl ?_
          refine x_iadd hg dX8_check_56 rfl ?_
          exact x_ret hg dX8_check_57 hw
set_option maxRecDepth 100000 in
set_option maxHeartbeats 4000000 in
theorem xM_check {w : Wc} (l : Launch) {s0 : Sg} {P : Int32 → Sg → Prop} (hw : wM_check  s0 P) : CI shM w l 1 (.code yX8_check cX8_check 3 (some .int)) yX8_check [.ref (ad w 0)] s0 P := by
  refine ci_of_i (own := "BagBottomModel") (ls0 := [some (.ref (ad w 0)), none, none]) rfl pn_X8 rfl rfl (fun g el hg => ?_)
  unfold wM_check at hw
  refine x_aload_0 hg dX8_check_0 rfl ?_
  refine get_X8_0 hg kM_0 fl_X8_9 dX8_check_1 rfl (k2 := 1) rfl ?_
  refine x_bi hg dX8_check_4 bp_6 rfl ?_
  refine x_ialdc hg kM_1 rfl vi_6_379 ix_6 dX8_check_6 rfl ?_
  refine x_istore_1 hg dX8_check_7 rfl rfl rfl ?_
  refine x_aload_0 hg dX8_check_8 rfl ?_
  refine get_X8_0 hg kM_0 fl_X8_9 dX8_check_9 rfl (k2 := 1) rfl ?_
  refine x_bi hg dX8_check_12 bp_6 rfl ?_
  refine x_ic hg dX8_check_14 ic_0 rfl ?_
  refine x_iastc hg kM_1 rfl vi_6_379 ix_6 dX8_check_15 rfl hw (fun s1 hw => ?_)
  refine x_ic hg dX8_check_16 ic_0 rfl ?_
  refine x_istore_2 hg dX8_check_17 rfl rfl rfl ?_
  obtain ⟨N1, hw⟩ := hw
  refine xM_check_18 hg  rfl (fun  s2 hw => ?_) _ _ _ hw
  · refine x_ic hg dX8_check_64 ic_0 rfl ?_
    exact x_ret hg dX8_check_65 hw
def wM_count (a1 : Int32) (s0 : Sg) (P : Int32 → Sg → Prop) : Prop := ((a1 = 0 → P ((s0 1 2)) s0) ∧ (¬ a1 = 0 → ((a1 = 1 → P ((s0 1 3)) s0) ∧ (¬ a1 = 1 → ((a1 = 2 → P ((s0 1 0)) s0) ∧ (¬ a1 = 2 → ((a1 = 3 → P ((s0 1 1)) s0) ∧ (¬ a1 = 3 → ((a1 = 4 → P ((s0 1 4)) s0) ∧ (¬ a1 = 4 → ((a1 = 5 → P ((s0 1 5)) s0) ∧ (¬ a1 = 5 → ((a1 = 6 → P ((s0 1 6)) s0) ∧ (¬ a1 = 6 → ((a1 = 7 → P ((s0 0 21)) s0) ∧ (¬ a1 = 7 → ((a1 = 8 → P ((s0 1 7)) s0) ∧ (¬ a1 = 8 → (wM_error ((-1000000001)) s0 (fun (r1 : Int32) (s1 : Sg) => P r1 s1))))))))))))))))))))
set_option maxRecDepth 100000 in
set_option maxHeartbeats 4000000 in
theorem xM_count {w : Wc} (l : Launch) {a1 : Int32} {s0 : Sg} {P : Int32 → Sg → Prop} (hw : wM_count a1 s0 P) : CI shM w l 2 (.code yX8_count cX8_count 2 (some .int)) yX8_count [.ref (ad w 0), .int a1] s0 P := by
  refine ci_of_i (own := "BagBottomModel") (ls0 := [some (.ref (ad w 0)), some (.int a1)]) rfl pn_X8 rfl rfl (fun g el hg => ?_)
  unfold wM_count at hw
  refine x_iload_1 hg dX8_count_0 rfl ?_
  refine x_br hw (fun h0 hw => ?_) (fun h0 hw => ?_)
  · refine x_tab hg dX8_count_1 (ps := [(0, 51), (1, 58), (2, 65), (3, 72), (4, 79), (5, 86), (6, 93), (7, 101), (8, 106)]) rfl (tg := 52) (by rw [h0]; decide) ?_
    refine x_aload_0 hg dX8_count_52 rfl ?_
    refine get_X8_0 hg kM_0 fl_X8_9 dX8_count_53 rfl (k2 := 1) rfl ?_
    refine x_ic hg dX8_count_56 ic_2 rfl ?_
    refine x_ialdc hg kM_1 rfl vi_2_379 ix_2 dX8_count_57 rfl ?_
    exact x_ret hg dX8_count_58 hw
  · skip
    refine x_br hw (fun h1 hw => ?_) (fun h1 hw => ?_)
    · refine x_tab hg dX8_count_1 (ps := [(0, 51), (1, 58), (2, 65), (3, 72), (4, 79), (5, 86), (6, 93), (7, 101), (8, 106)]) rfl (tg := 59) (by rw [h1]; decide) ?_
      refine x_aload_0 hg dX8_count_59 rfl ?_
      refine get_X8_0 hg kM_0 fl_X8_9 dX8_count_60 rfl (k2 := 1) rfl ?_
      refine x_ic hg dX8_count_63 ic_3 rfl ?_
      refine x_ialdc hg kM_1 rfl vi_3_379 ix_3 dX8_count_64 rfl ?_
      exact x_ret hg dX8_count_65 hw
    · skip
      refine x_br hw (fun h2 hw => ?_) (fun h2 hw => ?_)
      · refine x_tab hg dX8_count_1 (ps := [(0, 51), (1, 58), (2, 65), (3, 72), (4, 79), (5, 86), (6, 93), (7, 101), (8, 106)]) rfl (tg := 66) (by rw [h2]; decide) ?_
        refine x_aload_0 hg dX8_count_66 rfl ?_
        refine get_X8_0 hg kM_0 fl_X8_9 dX8_count_67 rfl (k2 := 1) rfl ?_
        refine x_ic hg dX8_count_70 ic_0 rfl ?_
        refine x_ialdc hg kM_1 rfl vi_0_379 ix_0 dX8_count_71 rfl ?_
        exact x_ret hg dX8_count_72 hw
      · skip
        refine x_br hw (fun h3 hw => ?_) (fun h3 hw => ?_)
        · refine x_tab hg dX8_count_1 (ps := [(0, 51), (1, 58), (2, 65), (3, 72), (4, 79), (5, 86), (6, 93), (7, 101), (8, 106)]) rfl (tg := 73) (by rw [h3]; decide) ?_
          refine x_aload_0 hg dX8_count_73 rfl ?_
          refine get_X8_0 hg kM_0 fl_X8_9 dX8_count_74 rfl (k2 := 1) rfl ?_
          refine x_ic hg dX8_count_77 ic_1 rfl ?_
          refine x_ialdc hg kM_1 rfl vi_1_379 ix_1 dX8_count_78 rfl ?_
          exact x_ret hg dX8_count_79 hw
        · skip
          refine x_br hw (fun h4 hw => ?_) (fun h4 hw => ?_)
          · refine x_tab hg dX8_count_1 (ps := [(0, 51), (1, 58), (2, 65), (3, 72), (4, 79), (5, 86), (6, 93), (7, 101), (8, 106)]) rfl (tg := 80) (by rw [h4]; decide) ?_
            refine x_aload_0 hg dX8_count_80 rfl ?_
            refine get_X8_0 hg kM_0 fl_X8_9 dX8_count_81 rfl (k2 := 1) rfl ?_
            refine x_ic hg dX8_count_84 ic_4 rfl ?_
            refine x_ialdc hg kM_1 rfl vi_4_379 ix_4 dX8_count_85 rfl ?_
            exact x_ret hg dX8_count_86 hw
          · skip
            refine x_br hw (fun h5 hw => ?_) (fun h5 hw => ?_)
            · refine x_tab hg dX8_count_1 (ps := [(0, 51), (1, 58), (2, 65), (3, 72), (4, 79), (5, 86), (6, 93), (7, 101), (8, 106)]) rfl (tg := 87) (by rw [h5]; decide) ?_
              refine x_aload_0 hg dX8_count_87 rfl ?_
              refine get_X8_0 hg kM_0 fl_X8_9 dX8_count_88 rfl (k2 := 1) rfl ?_
              refine x_ic hg dX8_count_91 ic_5 rfl ?_
              refine x_ialdc hg kM_1 rfl vi_5_379 ix_5 dX8_count_92 rfl ?_
              exact x_ret hg dX8_count_93 hw
            · skip
              refine x_br hw (fun h6 hw => ?_) (fun h6 hw => ?_)
              · refine x_tab hg dX8_count_1 (ps := [(0, 51), (1, 58), (2, 65), (3, 72), (4, 79), (5, 86), (6, 93), (7, 101), (8, 106)]) rfl (tg := 94) (by rw [h6]; decide) ?_
                refine x_aload_0 hg dX8_count_94 rfl ?_
                refine get_X8_0 hg kM_0 fl_X8_9 dX8_count_95 rfl (k2 := 1) rfl ?_
                refine x_bi hg dX8_count_98 bp_6 rfl ?_
                refine x_ialdc hg kM_1 rfl vi_6_379 ix_6 dX8_count_100 rfl ?_
                exact x_ret hg dX8_count_101 hw
              · skip
                refine x_br hw (fun h7 hw => ?_) (fun h7 hw => ?_)
                · refine x_tab hg dX8_count_1 (ps := [(0, 51), (1, 58), (2, 65), (3, 72), (4, 79), (5, 86), (6, 93), (7, 101), (8, 106)]) rfl (tg := 102) (by rw [h7]; decide) ?_
                  refine x_aload_0 hg dX8_count_102 rfl ?_
                  refine get_X8_21 hg kM_0 fl_X8_229 dX8_count_103 rfl ?_
                  exact x_ret hg dX8_count_106 hw
                · skip
                  refine x_br hw (fun h8 hw => ?_) (fun h8 hw => ?_)
                  · refine x_tab hg dX8_count_1 (ps := [(0, 51), (1, 58), (2, 65), (3, 72), (4, 79), (5, 86), (6, 93), (7, 101), (8, 106)]) rfl (tg := 107) (by rw [h8]; decide) ?_
                    refine x_aload_0 hg dX8_count_107 rfl ?_
                    refine get_X8_0 hg kM_0 fl_X8_9 dX8_count_108 rfl (k2 := 1) rfl ?_
                    refine x_bi hg dX8_count_111 bp_7 rfl ?_
                    refine x_ialdc hg kM_1 rfl vi_7_379 ix_7 dX8_count_113 rfl ?_
                    exact x_ret hg dX8_count_114 hw
                  · skip
                    refine x_tab hg dX8_count_1 (ps := [(0, 51), (1, 58), (2, 65), (3, 72), (4, 79), (5, 86), (6, 93), (7, 101), (8, 106)]) rfl (tg := 115) (by simp only [lk, if_neg h0, if_neg h1, if_neg h2, if_neg h3, if_neg h4, if_neg h5, if_neg h6, if_neg h7, if_neg h8, ite_self]; decide) ?_
                    refine x_aload_0 hg dX8_count_115 rfl ?_
                    refine x_ldc hg kc_X8_77 dX8_count_116 rfl ?_
                    refine x_callVI hg (xM_error (gL g)  hw) kM_0 (by decide) rfl im_X8_error se_X8_error mi_X8_error ml_X8_78 rfl rfl (As := [.int (-1000000001)]) rfl rfl rfl dX8_count_118 rfl (fun r1 s1 hw => ?_)
                    exact x_ret hg dX8_count_121 hw
def wM_told (a1 : Int32) (s0 : Sg) (P : Int32 → Sg → Prop) : Prop := (wM_in a1 1 6 s0 (fun (r1 : Int32) (s1 : Sg) => ((r1 = 0 → (wM_error ((-1000000001)) s1 (fun (r2 : Int32) (s2 : Sg) => P r2 s2))) ∧ (¬ r1 = 0 → (vp_in a1 7 ∧ P ((s1 4 (ix a1))) s1)))))
set_option maxRecDepth 100000 in
set_option maxHeartbeats 4000000 in
theorem xM_told {w : Wc} (l : Launch) {a1 : Int32} {s0 : Sg} {P : Int32 → Sg → Prop} (hw : wM_told a1 s0 P) : CI shM w l 2 (.code yX8_told cX8_told 2 (some .int)) yX8_told [.ref (ad w 0), .int a1] s0 P := by
  refine ci_of_i (own := "BagBottomModel") (ls0 := [some (.ref (ad w 0)), some (.int a1)]) rfl pn_X8 rfl rfl (fun g el hg => ?_)
  unfold wM_told at hw
  refine x_iload_1 hg dX8_told_0 rfl ?_
  refine x_ic hg dX8_told_1 ic_1 rfl ?_
  refine x_bi hg dX8_told_2 bp_6 rfl ?_
  refine x_callSI hg (xM_in (gL g)  hw) sm_X8_in mi_X8_in ml_X8_57 rfl rfl (As := [.int a1, .int 1, .int 6]) rfl rfl rfl dX8_told_4 rfl (fun r1 s1 hw => ?_)
  refine x_if_eq hg dX8_told_7 (tg := 19) (by decide) rfl hw (fun hw => ?_) (fun hw => ?_)
  · refine x_aload_0 hg dX8_told_19 rfl ?_
    refine x_ldc hg kc_X8_77 dX8_told_20 rfl ?_
    refine x_callVI hg (xM_error (gL g)  hw) kM_0 (by decide) rfl im_X8_error se_X8_error mi_X8_error ml_X8_78 rfl rfl (As := [.int (-1000000001)]) rfl rfl rfl dX8_told_22 rfl (fun r2 s2 hw => ?_)
    exact x_ret hg dX8_told_25 hw
  · refine x_aload_0 hg dX8_told_10 rfl ?_
    refine get_X8_4 hg kM_0 fl_X8_19 dX8_told_11 rfl (k2 := 4) rfl ?_
    refine x_iload_1 hg dX8_told_14 rfl ?_
    refine x_iald hg kM_4 rfl dX8_told_15 rfl hw (fun hw => ?_)
    refine x_goto hg dX8_told_16 (pc' := 25) (by decide) ?_
    exact x_ret hg dX8_told_25 hw
