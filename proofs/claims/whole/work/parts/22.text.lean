def wText_here (k : Nat) (s0 : Sg) (P : Int32 → Sg → Prop) : Prop := ((s0 k 3 = 0 → P ((-1)) s0) ∧ (¬ s0 k 3 = 0 → ((s0 k 3 = 0 → False) ∧ (¬ s0 k 3 = 0 → (wRow_has 5 ((s0 k 5)) s0 (fun (r1 : Int32) (s1 : Sg) => ((r1 = 0 → P ((-1)) s1) ∧ (¬ r1 = 0 → ((s1 k 3 = 0 → False) ∧ (¬ s1 k 3 = 0 → (vp_in ((s1 k 5)) 60 ∧ P ((s1 6 (ix ((s1 k 5))))) s1)))))))))))
set_option maxRecDepth 100000 in
set_option maxHeartbeats 4000000 in
theorem xText_here {w : Wc} (l : Launch) {k : Nat} (hk : kd shC k = 4) {s0 : Sg} {P : Int32 → Sg → Prop} (hw : wText_here k s0 P) : CI shC w l 2 (.code yX3_here cX3_here 1 (some .int)) yX3_here [.ref (ad w k)] s0 P := by
  refine ci_of_i (own := "BagBottom$Text") (ls0 := [some (.ref (ad w k))]) rfl pn_X3 rfl rfl (fun g el hg => ?_)
  unfold wText_here at hw
  refine x_aload_0 hg dX3_here_0 rfl ?_
  refine get_X3_3 hg hk fl_X3_37 dX3_here_1 rfl hw (fun hw => ?_) (fun hw => ?_)
  · refine x_ifnullN hg dX3_here_4 (pc' := 36) (by decide) ?_
    refine x_ic hg dX3_here_36 ic_m1 rfl ?_
    exact x_ret hg dX3_here_37 hw
  · refine x_ifnullR hg dX3_here_4 rfl ?_
    refine x_aload_0 hg dX3_here_7 rfl ?_
    refine get_X3_3 hg hk fl_X3_37 dX3_here_8 rfl hw (fun hw => ?_) (fun hw => ?_)
    · refine x_aload_0 hg dX3_here_11 rfl ?_
      refine get_X3_5 hg hk fl_X3_40 dX3_here_12 rfl ?_
      exact hw.elim
    · refine x_aload_0 hg dX3_here_11 rfl ?_
      refine get_X3_5 hg hk fl_X3_40 dX3_here_12 rfl ?_
      refine x_callVI hg (xRow_has (gL g) kC_5 hw) kC_5 (by decide) rfl im_X1_has se_X1_has mi_X1_has ml_X3_93 rfl rfl (As := [.int (s0 k 5)]) rfl rfl rfl dX3_here_15 rfl (fun r1 s1 hw => ?_)
      refine x_if_eq hg dX3_here_18 (tg := 36) (by decide) rfl hw (fun hw => ?_) (fun hw => ?_)
      · refine x_ic hg dX3_here_36 ic_m1 rfl ?_
        exact x_ret hg dX3_here_37 hw
      · refine x_aload_0 hg dX3_here_21 rfl ?_
        refine get_X3_3 hg hk fl_X3_37 dX3_here_22 rfl hw (fun hw => ?_) (fun hw => ?_)
        · exact hw.elim
        · refine get_X1_0 hg kC_5 fl_X3_96 dX3_here_25 rfl (k2 := 6) rfl ?_
          refine x_aload_0 hg dX3_here_28 rfl ?_
          refine get_X3_5 hg hk fl_X3_40 dX3_here_29 rfl ?_
          refine x_iald hg kC_6 rfl dX3_here_32 rfl hw (fun hw => ?_)
          refine x_goto hg dX3_here_33 (pc' := 37) (by decide) ?_
          exact x_ret hg dX3_here_37 hw
def wText_signsOf (a0 : Int32) (s0 : Sg) (P : Int32 → Sg → Prop) : Prop := ((a0 = 0 → P 5 s0) ∧ (¬ a0 = 0 → ((a0 = 1 → P 6 s0) ∧ (¬ a0 = 1 → ((a0 = 2 → P 7 s0) ∧ (¬ a0 = 2 → ((a0 = 3 → P 8 s0) ∧ (¬ a0 = 3 → P 9 s0))))))))
set_option maxRecDepth 100000 in
set_option maxHeartbeats 4000000 in
theorem xText_signsOf {w : Wc} (l : Launch) {a0 : Int32} {s0 : Sg} {P : Int32 → Sg → Prop} (hw : wText_signsOf a0 s0 P) : CR shC w l 1 (.code yX3_signsOf cX3_signsOf 1 (some (.object "java/lang/String"))) yX3_signsOf [.int a0] s0 P := by
  refine ci_of_s (own := "BagBottom$Text") (ls0 := [some (.int a0)]) rfl pn_X3 rfl rfl (fun g el hg => ?_)
  unfold wText_signsOf at hw
  refine x_iload_0 hg dX3_signsOf_0 rfl ?_
  refine x_br hw (fun h0 hw => ?_) (fun h0 hw => ?_)
  · refine x_tab hg dX3_signsOf_1 (ps := [(0, 31), (1, 34), (2, 37), (3, 40)]) rfl (tg := 32) (by rw [h0]; decide) ?_
    refine x_ldcS (w := w) hg 5 rfl dX3_signsOf_32 rfl ?_
    exact x_sret hg dX3_signsOf_34 hw
  · skip
    refine x_br hw (fun h1 hw => ?_) (fun h1 hw => ?_)
    · refine x_tab hg dX3_signsOf_1 (ps := [(0, 31), (1, 34), (2, 37), (3, 40)]) rfl (tg := 35) (by rw [h1]; decide) ?_
      refine x_ldcS (w := w) hg 6 rfl dX3_signsOf_35 rfl ?_
      exact x_sret hg dX3_signsOf_37 hw
    · skip
      refine x_br hw (fun h2 hw => ?_) (fun h2 hw => ?_)
      · refine x_tab hg dX3_signsOf_1 (ps := [(0, 31), (1, 34), (2, 37), (3, 40)]) rfl (tg := 38) (by rw [h2]; decide) ?_
        refine x_ldcS (w := w) hg 7 rfl dX3_signsOf_38 rfl ?_
        exact x_sret hg dX3_signsOf_40 hw
      · skip
        refine x_br hw (fun h3 hw => ?_) (fun h3 hw => ?_)
        · refine x_tab hg dX3_signsOf_1 (ps := [(0, 31), (1, 34), (2, 37), (3, 40)]) rfl (tg := 41) (by rw [h3]; decide) ?_
          refine x_ldcS (w := w) hg 8 rfl dX3_signsOf_41 rfl ?_
          exact x_sret hg dX3_signsOf_43 hw
        · skip
          refine x_tab hg dX3_signsOf_1 (ps := [(0, 31), (1, 34), (2, 37), (3, 40)]) rfl (tg := 44) (by simp only [lk, if_neg h0, if_neg h1, if_neg h2, if_neg h3, ite_self]; decide) ?_
          refine x_ldcS (w := w) hg 9 rfl dX3_signsOf_44 rfl ?_
          exact x_sret hg dX3_signsOf_46 hw
def wText_standsIn (k : Nat) (a1 : Int32) (s0 : Sg) (P : Int32 → Sg → Prop) : Prop := (wText_here k s0 (fun (r1 : Int32) (s1 : Sg) => ((r1 < 0 → P 0 s1) ∧ (¬ r1 < 0 → (vp_in a1 10 ∧ (((sIx a1 ((UInt32.toInt32 (Int32.toUInt32 r1 % 65536)))) < 0 → P 0 s1) ∧ (¬ (sIx a1 ((UInt32.toInt32 (Int32.toUInt32 r1 % 65536)))) < 0 → P 1 s1)))))))
set_option maxRecDepth 100000 in
set_option maxHeartbeats 4000000 in
theorem xText_standsIn {w : Wc} (l : Launch) {k : Nat} {a1 : Int32} (hk : kd shC k = 4) {s0 : Sg} {P : Int32 → Sg → Prop} (hw : wText_standsIn k a1 s0 P) : CI shC w l 5 (.code yX3_standsIn cX3_standsIn 3 (some .boolean)) yX3_standsIn [.ref (ad w k), .ref (sa w a1)] s0 P := by
  refine ci_of_z (own := "BagBottom$Text") (ls0 := [some (.ref (ad w k)), some (.ref (sa w a1)), none]) rfl pn_X3 rfl rfl (fun g el hg => ?_)
  unfold wText_standsIn at hw
  refine x_aload_0 hg dX3_standsIn_0 rfl ?_
  refine x_callVI hg (xText_here (gL g) hk hw) hk (by decide) rfl im_X3_here se_X3_here mi_X3_here ml_X3_63 rfl rfl (As := []) rfl rfl rfl dX3_standsIn_1 rfl (fun r1 s1 hw => ?_)
  refine x_istore_2 hg dX3_standsIn_4 rfl rfl rfl ?_
  refine x_iload_2 hg dX3_standsIn_5 rfl ?_
  refine x_if_lt hg dX3_standsIn_6 (tg := 22) (by decide) rfl hw (fun hw => ?_) (fun hw => ?_)
  · refine x_ic hg dX3_standsIn_22 ic_0 rfl ?_
    exact x_zret hg dX3_standsIn_23 (by decide) hw
  · refine x_aload_1 hg dX3_standsIn_9 rfl ?_
    refine x_iload_2 hg dX3_standsIn_10 rfl ?_
    refine x_i2c hg dX3_standsIn_11 rfl ?_
    refine x_indexOf hg ml_X3_75 rfl rfl dX3_standsIn_12 rfl hw (fun hw => ?_)
    refine x_if_lt hg dX3_standsIn_15 (tg := 22) (by decide) rfl hw (fun hw => ?_) (fun hw => ?_)
    · refine x_ic hg dX3_standsIn_22 ic_0 rfl ?_
      exact x_zret hg dX3_standsIn_23 (by decide) hw
    · refine x_ic hg dX3_standsIn_18 ic_1 rfl ?_
      refine x_goto hg dX3_standsIn_19 (pc' := 23) (by decide) ?_
      exact x_zret hg dX3_standsIn_23 (by decide) hw
def wText_readNumber_4 (k : Nat) (K47 : Int32 → Sg → Prop) : Nat → Int32 → Int32 → Sg → Prop
  | 0, _, _, _ => False
  | n + 1, a1, a2, s0 => ((4 ≤ a2 → K47 a1 s0) ∧ (¬ 4 ≤ a2 → (wText_standsIn k 3 s0 (fun (r1 : Int32) (s1 : Sg) => ((r1 = 0 → K47 a1 s1) ∧ (¬ r1 = 0 → (wText_here k s1 (fun (r2 : Int32) (s2 : Sg) => (∀ s3 : Sg, s3 = u2 s2 k 5 (((s2 k 5) + 1)) → wText_readNumber_4 k K47 n ((((10 * a1) + r2) - 48)) ((a2 + 1)) s3)))))))))
def wText_readNumber (k : Nat) (s0 : Sg) (P : Sg → Prop) : Prop := (∃ N1 : Nat, wText_readNumber_4 k (fun (v1 : Int32) (s1 : Sg) => (wRow_add ((k + 3)) v1 s1 (fun (s2 : Sg) => P s2))) N1 0 0 s0)
set_option maxRecDepth 100000 in
set_option maxHeartbeats 4000000 in
theorem xText_readNumber_4 {w : Wc} {g : Gx} {Q : State → Prop} {k : Nat} {K47 : Int32 → Sg → Prop} (hg : OK shC w g 6 cX3_readNumber "BagBottom$Text" 3 none) (hk : kd shC k = 4) (hK47 : ∀ (a1 : Int32) (s0 : Sg), K47 a1 s0 → X shC w g Q 47 [some (.ref (ad w k)), some (.int a1), none] [] s0) : ∀ (n : Nat) (a1 a2 : Int32) (s0 : Sg), wText_readNumber_4 k K47 n a1 a2 s0 → X shC w g Q 4 [some (.ref (ad w k)), some (.int a1), some (.int a2)] [] s0 := by
  intro n
  induction n with
  | zero =>
    intro a1 a2 s0 hw
    exact hw.elim
  | succ n ih =>
    intro a1 a2 s0 hw
    rw [wText_readNumber_4] at hw
    refine x_iload_2 hg dX3_readNumber_4 rfl ?_
    refine x_ic hg dX3_readNumber_5 ic_4 rfl ?_
    refine x_icmp_ge hg dX3_readNumber_6 (tg := 47) (by decide) rfl hw (fun hw => ?_) (fun hw => ?_)
    · refine x_drop_2 ?_
      exact hK47 _ _ hw
    · refine x_aload_0 hg dX3_readNumber_9 rfl ?_
      refine x_ldcS (w := w) hg 3 rfl dX3_readNumber_10 rfl ?_
      refine x_callVI hg (xText_standsIn (gL g) hk hw) hk (by decide) rfl im_X3_standsIn se_X3_standsIn mi_X3_standsIn ml_X3_59 rfl rfl (As := [.ref (sa w 3)]) rfl rfl rfl dX3_readNumber_12 rfl (fun r1 s1 hw => ?_)
      refine x_if_eq hg dX3_readNumber_15 (tg := 47) (by decide) rfl hw (fun hw => ?_) (fun hw => ?_)
      · refine x_drop_2 ?_
        exact hK47 _ _ hw
      · refine x_bi hg dX3_readNumber_18 bp_10 rfl ?_
        refine x_iload_1 hg dX3_readNumber_20 rfl ?_
        refine x_imul hg dX3_readNumber_21 rfl ?_
        refine x_aload_0 hg dX3_readNumber_22 rfl ?_
        refine x_callVI hg (xText_here (gL g) hk hw) hk (by decide) rfl im_X3_here se_X3_here mi_X3_here ml_X3_63 rfl rfl (As := []) rfl rfl rfl dX3_readNumber_23 rfl (fun r2 s2 hw => ?_)
        refine x_iadd hg dX3_readNumber_26 rfl ?_
        refine x_bi hg dX3_readNumber_27 bp_48 rfl ?_
        refine x_isub hg dX3_readNumber_29 rfl ?_
        refine x_istore_1 hg dX3_readNumber_30 rfl rfl rfl ?_
        refine x_aload_0 hg dX3_readNumber_31 rfl ?_
        refine x_dup hg dX3_readNumber_32 rfl rfl ?_
        refine get_X3_5 hg hk fl_X3_40 dX3_readNumber_33 rfl ?_
        refine x_ic hg dX3_readNumber_36 ic_1 rfl ?_
        refine x_iadd hg dX3_readNumber_37 rfl ?_
        refine put_X3_5 hg hk fl_X3_40 dX3_readNumber_38 rfl hw (fun s3 hw => ?_)
        refine x_iinc_2 hg dX3_readNumber_41 ic_1 rfl rfl rfl ?_
        refine x_goto hg dX3_readNumber_44 (pc' := 4) (by decide) ?_
        exact ih _ _ _ hw
set_option maxRecDepth 100000 in
set_option maxHeartbeats 4000000 in
theorem xText_readNumber {w : Wc} (l : Launch) {k : Nat} (hk : kd shC k = 4) {s0 : Sg} {P : Sg → Prop} (hw : wText_readNumber k s0 P) : CV shC w l 6 (.code yX3_readNumber cX3_readNumber 3 none) yX3_readNumber [.ref (ad w k)] s0 P := by
  refine ci_of_v (own := "BagBottom$Text") (ls0 := [some (.ref (ad w k)), none, none]) rfl pn_X3 rfl rfl (fun g el hg => ?_)
  unfold wText_readNumber at hw
  refine x_ic hg dX3_readNumber_0 ic_0 rfl ?_
  refine x_istore_1 hg dX3_readNumber_1 rfl rfl rfl ?_
  refine x_ic hg dX3_readNumber_2 ic_0 rfl ?_
  refine x_istore_2 hg dX3_readNumber_3 rfl rfl rfl ?_
  obtain ⟨N1, hw⟩ := hw
  refine xText_readNumber_4 hg hk (fun v1 s1 hw => ?_) _ _ _ _ hw
  · refine x_aload_0 hg dX3_readNumber_47 rfl ?_
    refine get_X3_1 hg hk fl_X3_20 dX3_readNumber_48 rfl (k2 := (k + 3)) rfl ?_
    refine x_iload_1 hg dX3_readNumber_51 rfl ?_
    refine x_callVV hg (xRow_add (gL g) (kTextW hk) hw) (kTextW hk) (by decide) rfl im_X1_add se_X1_add mi_X1_add ml_X3_67 rfl rfl (As := [.int v1]) rfl rfl rfl dX3_readNumber_52 rfl (fun s2 hw => ?_)
    exact x_vret hg dX3_readNumber_55 hw
def wText_reads_26 (rc : Nat → List Int32 → Sg → (Int32 → Sg → Prop) → Prop) (k : Nat) (f1 : Int32) (f2 : Int32) (P : Int32 → Sg → Prop) (K95 : Sg → Prop) : Nat → Int32 → Sg → Prop
  | 0, _, _ => False
  | n + 1, a3, s0 => ((60 ≤ a3 → K95  s0) ∧ (¬ 60 ≤ a3 → (wText_signsOf f1 s0 (fun (r1 : Int32) (s1 : Sg) => (wText_standsIn k r1 s1 (fun (r2 : Int32) (s2 : Sg) => ((r2 = 0 → K95  s2) ∧ (¬ r2 = 0 → (wText_here k s2 (fun (r3 : Int32) (s3 : Sg) => (∀ s4 : Sg, s4 = u2 s3 k 5 (((s3 k 5) + 1)) → (rc 0 [((f1 + 1)), f2] s4 (fun (r4 : Int32) (s5 : Sg) => ((¬ r4 = 0 → (wRow_add ((k + 3)) ((-r3)) s5 (fun (s6 : Sg) => ((¬ f1 = 2 → wText_reads_26 rc k f1 f2 P K95 n ((a3 + 1)) s6) ∧ (f1 = 2 → P 1 s6))))) ∧ (r4 = 0 → P 0 s5)))))))))))))))
def wText_reads (rc : Nat → List Int32 → Sg → (Int32 → Sg → Prop) → Prop) (k : Nat) (a1 : Int32) (a2 : Int32) (s0 : Sg) (P : Int32 → Sg → Prop) : Prop := ((a1 < 5 → (rc 0 [((a1 + 1)), a2] s0 (fun (r1 : Int32) (s1 : Sg) => ((¬ r1 = 0 → (∃ N1 : Nat, wText_reads_26 rc k a1 a2 P (fun  (s2 : Sg) => P 1 s2) N1 0 s1)) ∧ (r1 = 0 → P 0 s1))))) ∧ (¬ a1 < 5 → (rc 1 [a2] s0 (fun (r1 : Int32) (s1 : Sg) => ((r1 = 0 ∨ r1 = 1) ∧ P r1 s1)))))
set_option maxRecDepth 100000 in
set_option maxHeartbeats 4000000 in
theorem xText_reads_26 {w : Wc} {g : Gx} {d : Nat} {Q : State → Prop} {D : Nat} {rc : Nat → List Int32 → Sg → (Int32 → Sg → Prop) → Prop} {k : Nat} {f1 : Int32} {f2 : Int32} {P : Int32 → Sg → Prop} {K95 : Sg → Prop} (hg : OK shC w g d cX3_reads "BagBottom$Text" 5 (some .boolean)) (hd : 7 ≤ d) (hDd : Nat.ble (D + 1) d = true) (hrc0 : ∀ (b1 b2 : Int32) (s : Sg) (R : Int32 → Sg → Prop), rc 0 [b1, b2] s R → CI shC w (gL g) D (.code yX3_reads cX3_reads 5 (some .boolean)) yX3_reads [.ref (ad w k), .int b1, .int b2] s R) (hrc1 : ∀ (b1 : Int32) (s : Sg) (R : Int32 → Sg → Prop), rc 1 [b1] s R → CI shC w (gL g) D (.code yX3_readsSingle cX3_readsSingle 4 (some .boolean)) yX3_readsSingle [.ref (ad w k), .int b1] s R) (hk : kd shC k = 4) (hQ : Q = QI shC w g P) (hK95 : ∀ (s0 : Sg), K95  s0 → X shC w g Q 95 [none, none, none, none, none] [] s0) : ∀ (n : Nat) (a3 : Int32) (s0 : Sg), wText_reads_26 rc k f1 f2 P K95 n a3 s0 → X shC w g Q 26 [some (.ref (ad w k)), some (.int f1), some (.int f2), some (.int a3), none] [] s0 := by
  subst hQ
  intro n
  induction n with
  | zero =>
    intro a3 s0 hw
    exact hw.elim
  | succ n ih =>
    intro a3 s0 hw
    rw [wText_reads_26] at hw
    refine x_iload_3 hg dX3_reads_26 rfl ?_
    refine x_bi hg dX3_reads_27 bp_60 rfl ?_
    refine x_icmp_ge hg dX3_reads_29 (tg := 95) (by decide) rfl hw (fun hw => ?_) (fun hw => ?_)
    · refine x_drop_0 ?_
      refine x_drop_1 ?_
      refine x_drop_2 ?_
      refine x_drop_3 ?_
      exact hK95  _ hw
    · refine x_aload_0 hg dX3_reads_32 rfl ?_
      refine x_iload_1 hg dX3_reads_33 rfl ?_
      refine x_callSR hg (xText_signsOf (gL g)  hw) sm_X3_signsOf mi_X3_signsOf ml_X3_55 (ble_of (by omega)) rfl (As := [.int f1]) rfl rfl rfl dX3_reads_34 rfl (fun r1 s1 hw => ?_)
      refine x_callVI hg (xText_standsIn (gL g) hk hw) hk (by decide) rfl im_X3_standsIn se_X3_standsIn mi_X3_standsIn ml_X3_59 (ble_of (by omega)) rfl (As := [.ref (sa w r1)]) rfl rfl rfl dX3_reads_37 rfl (fun r2 s2 hw => ?_)
      refine x_if_eq hg dX3_reads_40 (tg := 95) (by decide) rfl hw (fun hw => ?_) (fun hw => ?_)
      · refine x_drop_0 ?_
        refine x_drop_1 ?_
        refine x_drop_2 ?_
        refine x_drop_3 ?_
        exact hK95  _ hw
      · refine x_aload_0 hg dX3_reads_43 rfl ?_
        refine x_callVI hg (xText_here (gL g) hk hw) hk (by decide) rfl im_X3_here se_X3_here mi_X3_here ml_X3_63 (ble_of (by omega)) rfl (As := []) rfl rfl rfl dX3_reads_44 rfl (fun r3 s3 hw => ?_)
        refine x_istore_4 hg dX3_reads_47 rfl rfl rfl ?_
        refine x_aload_0 hg dX3_reads_49 rfl ?_
        refine x_dup hg dX3_reads_50 rfl rfl ?_
        refine get_X3_5 hg hk fl_X3_40 dX3_reads_51 rfl ?_
        refine x_ic hg dX3_reads_54 ic_1 rfl ?_
        refine x_iadd hg dX3_reads_55 rfl ?_
        refine put_X3_5 hg hk fl_X3_40 dX3_reads_56 rfl hw (fun s4 hw => ?_)
        refine x_aload_0 hg dX3_reads_59 rfl ?_
        refine x_iload_1 hg dX3_reads_60 rfl ?_
        refine x_ic hg dX3_reads_61 ic_1 rfl ?_
        refine x_iadd hg dX3_reads_62 rfl ?_
        refine x_iload_2 hg dX3_reads_63 rfl ?_
        refine x_callVI hg (hrc0 _ _ _ _ hw) hk (by decide) rfl im_X3_reads se_X3_reads mi_X3_reads ml_X3_43 hDd rfl (As := [.int (f1 + 1), .int f2]) rfl rfl rfl dX3_reads_64 rfl (fun r4 s5 hw => ?_)
        refine x_if_ne hg dX3_reads_67 (tg := 72) (by decide) rfl hw (fun hw => ?_) (fun hw => ?_)
        · refine x_aload_0 hg dX3_reads_72 rfl ?_
          refine get_X3_1 hg hk fl_X3_20 dX3_reads_73 rfl (k2 := (k + 3)) rfl ?_
          refine x_iload_4 hg dX3_reads_76 rfl ?_
          refine x_ineg hg dX3_reads_78 rfl ?_
          refine x_callVV hg (xRow_add (gL g) (kTextW hk) hw) (kTextW hk) (by decide) rfl im_X1_add se_X1_add mi_X1_add ml_X3_67 (ble_of (by omega)) rfl (As := [.int (-r3)]) rfl rfl rfl dX3_reads_79 rfl (fun s6 hw => ?_)
          refine x_iload_1 hg dX3_reads_82 rfl ?_
          refine x_ic hg dX3_reads_83 ic_2 rfl ?_
          refine x_icmp_ne hg dX3_reads_84 (tg := 89) (by decide) rfl hw (fun hw => ?_) (fun hw => ?_)
          · refine x_iinc_3 hg dX3_reads_89 ic_1 rfl rfl rfl ?_
            refine x_goto hg dX3_reads_92 (pc' := 26) (by decide) ?_
            refine x_drop_4 ?_
            exact ih _ _ hw
          · refine x_ic hg dX3_reads_87 ic_1 rfl ?_
            exact x_zret hg dX3_reads_88 (by decide) hw
        · refine x_ic hg dX3_reads_70 ic_0 rfl ?_
          exact x_zret hg dX3_reads_71 (by decide) hw
set_option maxRecDepth 100000 in
set_option maxHeartbeats 4000000 in
theorem xbText_reads {w : Wc} {l : Launch} {d : Nat} {D : Nat} {rc : Nat → List Int32 → Sg → (Int32 → Sg → Prop) → Prop} {k : Nat} {a1 : Int32} {a2 : Int32} (hd : 7 ≤ d) (hDd : Nat.ble (D + 1) d = true) (hrc0 : ∀ (b1 b2 : Int32) (s : Sg) (R : Int32 → Sg → Prop), rc 0 [b1, b2] s R → CI shC w l D (.code yX3_reads cX3_reads 5 (some .boolean)) yX3_reads [.ref (ad w k), .int b1, .int b2] s R) (hrc1 : ∀ (b1 : Int32) (s : Sg) (R : Int32 → Sg → Prop), rc 1 [b1] s R → CI shC w l D (.code yX3_readsSingle cX3_readsSingle 4 (some .boolean)) yX3_readsSingle [.ref (ad w k), .int b1] s R) (hk : kd shC k = 4) {s0 : Sg} {P : Int32 → Sg → Prop} (hw : wText_reads rc k a1 a2 s0 P) : CI shC w l d (.code yX3_reads cX3_reads 5 (some .boolean)) yX3_reads [.ref (ad w k), .int a1, .int a2] s0 P := by
  refine ci_of_z (own := "BagBottom$Text") (ls0 := [some (.ref (ad w k)), some (.int a1), some (.int a2), none, none]) rfl pn_X3 rfl rfl (fun g el hg => ?_)
  subst el
  unfold wText_reads at hw
  refine x_iload_1 hg dX3_reads_0 rfl ?_
  refine x_ic hg dX3_reads_1 ic_5 rfl ?_
  refine x_icmp_lt hg dX3_reads_2 (tg := 11) (by decide) rfl hw (fun hw => ?_) (fun hw => ?_)
  · refine x_aload_0 hg dX3_reads_11 rfl ?_
    refine x_iload_1 hg dX3_reads_12 rfl ?_
    refine x_ic hg dX3_reads_13 ic_1 rfl ?_
    refine x_iadd hg dX3_reads_14 rfl ?_
    refine x_iload_2 hg dX3_reads_15 rfl ?_
    refine x_callVI hg (hrc0 _ _ _ _ hw) hk (by decide) rfl im_X3_reads se_X3_reads mi_X3_reads ml_X3_43 hDd rfl (As := [.int (a1 + 1), .int a2]) rfl rfl rfl dX3_reads_16 rfl (fun r1 s1 hw => ?_)
    refine x_if_ne hg dX3_reads_19 (tg := 24) (by decide) rfl hw (fun hw => ?_) (fun hw => ?_)
    · refine x_ic hg dX3_reads_24 ic_0 rfl ?_
      refine x_istore_3 hg dX3_reads_25 rfl rfl rfl ?_
      obtain ⟨N1, hw⟩ := hw
      refine xText_reads_26 hg hd hDd hrc0 hrc1 hk rfl (fun  s2 hw => ?_) _ _ _ hw
      · refine x_ic hg dX3_reads_95 ic_1 rfl ?_
        exact x_zret hg dX3_reads_96 (by decide) hw
    · refine x_ic hg dX3_reads_22 ic_0 rfl ?_
      exact x_zret hg dX3_reads_23 (by decide) hw
  · refine x_aload_0 hg dX3_reads_5 rfl ?_
    refine x_iload_2 hg dX3_reads_6 rfl ?_
    refine x_callVI hg (hrc1 _ _ _ hw) hk (by decide) rfl im_X3_readsSingle se_X3_readsSingle mi_X3_readsSingle ml_X3_51 hDd rfl (As := [.int a2]) rfl rfl rfl dX3_reads_7 rfl (fun r1 s1 hw => ?_)
    exact x_zret hg dX3_reads_10 hw.1 hw.2
def wText_readsSingle (rc : Nat → List Int32 → Sg → (Int32 → Sg → Prop) → Prop) (k : Nat) (a1 : Int32) (s0 : Sg) (P : Int32 → Sg → Prop) : Prop := (wText_standsIn k 3 s0 (fun (r1 : Int32) (s1 : Sg) => ((r1 = 0 → (wText_standsIn k ((s1 k 4)) s1 (fun (r2 : Int32) (s2 : Sg) => ((r2 = 0 → ((5 ≤ a1 → P 0 s2) ∧ (¬ 5 ≤ a1 → (wText_standsIn k 4 s2 (fun (r3 : Int32) (s3 : Sg) => ((¬ r3 = 0 → (wText_here k s3 (fun (r4 : Int32) (s4 : Sg) => ((¬ r4 = 33 → (∀ s5 : Sg, s5 = u2 s4 k 5 (((s4 k 5) + 1)) → (rc 0 [0, ((a1 + 1))] s5 (fun (r5 : Int32) (s6 : Sg) => ((r5 = 0 → P 0 s6) ∧ (¬ r5 = 0 → (wText_here k s6 (fun (r6 : Int32) (s7 : Sg) => ((r6 = 41 → (∀ s8 : Sg, s8 = u2 s7 k 5 (((s7 k 5) + 1)) → P 1 s8)) ∧ (¬ r6 = 41 → P 0 s7)))))))))) ∧ (r4 = 33 → (∀ s5 : Sg, s5 = u2 s4 k 5 (((s4 k 5) + 1)) → (rc 1 [((a1 + 1))] s5 (fun (r5 : Int32) (s6 : Sg) => (wRow_add ((k + 3)) ((-33)) s6 (fun (s7 : Sg) => ((r5 = 0 ∨ r5 = 1) ∧ P r5 s7))))))))))) ∧ (r3 = 0 → P 0 s3))))))) ∧ (¬ r2 = 0 → (wText_here k s2 (fun (r3 : Int32) (s3 : Sg) => (vp_in ((s2 k 4)) 10 ∧ (wRow_add ((k + 3)) (((-1) - (sIx ((s2 k 4)) ((UInt32.toInt32 (Int32.toUInt32 r3 % 65536)))))) s3 (fun (s4 : Sg) => (∀ s5 : Sg, s5 = u2 s4 k 5 (((s4 k 5) + 1)) → P 1 s5))))))))))) ∧ (¬ r1 = 0 → (wText_readNumber k s1 (fun (s2 : Sg) => P 1 s2))))))
set_option maxRecDepth 100000 in
set_option maxHeartbeats 4000000 in
theorem xbText_readsSingle {w : Wc} {l : Launch} {d : Nat} {D : Nat} {rc : Nat → List Int32 → Sg → (Int32 → Sg → Prop) → Prop} {k : Nat} {a1 : Int32} (hd : 7 ≤ d) (hDd : Nat.ble (D + 1) d = true) (hrc0 : ∀ (b1 b2 : Int32) (s : Sg) (R : Int32 → Sg → Prop), rc 0 [b1, b2] s R → CI shC w l D (.code yX3_reads cX3_reads 5 (some .boolean)) yX3_reads [.ref (ad w k), .int b1, .int b2] s R) (hrc1 : ∀ (b1 : Int32) (s : Sg) (R : Int32 → Sg → Prop), rc 1 [b1] s R → CI shC w l D (.code yX3_readsSingle cX3_readsSingle 4 (some .boolean)) yX3_readsSingle [.ref (ad w k), .int b1] s R) (hk : kd shC k = 4) {s0 : Sg} {P : Int32 → Sg → Prop} (hw : wText_readsSingle rc k a1 s0 P) : CI shC w l d (.code yX3_readsSingle cX3_readsSingle 4 (some .boolean)) yX3_readsSingle [.ref (ad w k), .int a1] s0 P := by
  refine ci_of_z (own := "BagBottom$Text") (ls0 := [some (.ref (ad w k)), some (.int a1), none, none]) rfl pn_X3 rfl rfl (fun g el hg => ?_)
  subst el
  unfold wText_readsSingle at hw
  refine x_aload_0 hg dX3_readsSingle_0 rfl ?_
  refine x_ldcS (w := w) hg 3 rfl dX3_readsSingle_1 rfl ?_
  refine x_callVI hg (xText_standsIn (gL g) hk hw) hk (by decide) rfl im_X3_standsIn se_X3_standsIn mi_X3_standsIn ml_X3_59 (ble_of (by omega)) rfl (As := [.ref (sa w 3)]) rfl rfl rfl dX3_readsSingle_3 rfl (fun r1 s1 hw => ?_)
  refine x_if_eq hg dX3_readsSingle_6 (tg := 15) (by decide) rfl hw (fun hw => ?_) (fun hw => ?_)
  · refine x_aload_0 hg dX3_readsSingle_15 rfl ?_
    refine x_aload_0 hg dX3_readsSingle_16 rfl ?_
    refine get_X3_4 hg hk fl_X3_29 dX3_readsSingle_17 rfl ?_
    refine x_callVI hg (xText_standsIn (gL g) hk hw) hk (by decide) rfl im_X3_standsIn se_X3_standsIn mi_X3_standsIn ml_X3_59 (ble_of (by omega)) rfl (As := [.ref (sa w (s1 k 4))]) rfl rfl rfl dX3_readsSingle_20 rfl (fun r2 s2 hw => ?_)
    refine x_if_eq hg dX3_readsSingle_23 (tg := 59) (by decide) rfl hw (fun hw => ?_) (fun hw => ?_)
    · refine x_iload_1 hg dX3_readsSingle_59 rfl ?_
      refine x_ic hg dX3_readsSingle_60 ic_5 rfl ?_
      refine x_icmp_ge hg dX3_readsSingle_61 (tg := 73) (by decide) rfl hw (fun hw => ?_) (fun hw => ?_)
      · refine x_ic hg dX3_readsSingle_73 ic_0 rfl ?_
        exact x_zret hg dX3_readsSingle_74 (by decide) hw
      · refine x_aload_0 hg dX3_readsSingle_64 rfl ?_
        refine x_ldcS (w := w) hg 4 rfl dX3_readsSingle_65 rfl ?_
        refine x_callVI hg (xText_standsIn (gL g) hk hw) hk (by decide) rfl im_X3_standsIn se_X3_standsIn mi_X3_standsIn ml_X3_59 (ble_of (by omega)) rfl (As := [.ref (sa w 4)]) rfl rfl rfl dX3_readsSingle_67 rfl (fun r3 s3 hw => ?_)
        refine x_if_ne hg dX3_readsSingle_70 (tg := 75) (by decide) rfl hw (fun hw => ?_) (fun hw => ?_)
        · refine x_aload_0 hg dX3_readsSingle_75 rfl ?_
          refine x_callVI hg (xText_here (gL g) hk hw) hk (by decide) rfl im_X3_here se_X3_here mi_X3_here ml_X3_63 (ble_of (by omega)) rfl (As := []) rfl rfl rfl dX3_readsSingle_76 rfl (fun r4 s4 hw => ?_)
          refine x_bi hg dX3_readsSingle_79 bp_33 rfl ?_
          refine x_icmp_ne hg dX3_readsSingle_81 (tg := 88) (by decide) rfl hw (fun hw => ?_) (fun hw => ?_)
          · refine x_ic hg dX3_readsSingle_88 ic_0 rfl ?_
            refine x_istore_2 hg dX3_readsSingle_89 rfl rfl rfl ?_
            refine x_aload_0 hg dX3_readsSingle_90 rfl ?_
            refine x_dup hg dX3_readsSingle_91 rfl rfl ?_
            refine get_X3_5 hg hk fl_X3_40 dX3_readsSingle_92 rfl ?_
            refine x_ic hg dX3_readsSingle_95 ic_1 rfl ?_
            refine x_iadd hg dX3_readsSingle_96 rfl ?_
            refine put_X3_5 hg hk fl_X3_40 dX3_readsSingle_97 rfl hw (fun s5 hw => ?_)
            refine x_iload_2 hg dX3_readsSingle_100 rfl ?_
            refine x_if_eq hg dX3_readsSingle_101 (tg := 123) (by decide) rfl ⟨fun _ => hw, fun h => (show False from absurd h (by decide))⟩ (fun hw => ?_) (fun hw => False.elim hw)
            refine x_aload_0 hg dX3_readsSingle_123 rfl ?_
            refine x_ic hg dX3_readsSingle_124 ic_0 rfl ?_
            refine x_iload_1 hg dX3_readsSingle_125 rfl ?_
            refine x_ic hg dX3_readsSingle_126 ic_1 rfl ?_
            refine x_iadd hg dX3_readsSingle_127 rfl ?_
            refine x_callVI hg (hrc0 _ _ _ _ hw) hk (by decide) rfl im_X3_reads se_X3_reads mi_X3_reads ml_X3_43 hDd rfl (As := [.int 0, .int (a1 + 1)]) rfl rfl rfl dX3_readsSingle_128 rfl (fun r5 s6 hw => ?_)
            refine x_if_eq hg dX3_readsSingle_131 (tg := 143) (by decide) rfl hw (fun hw => ?_) (fun hw => ?_)
            · refine x_ic hg dX3_readsSingle_143 ic_0 rfl ?_
              exact x_zret hg dX3_readsSingle_144 (by decide) hw
            · refine x_aload_0 hg dX3_readsSingle_134 rfl ?_
              refine x_callVI hg (xText_here (gL g) hk hw) hk (by decide) rfl im_X3_here se_X3_here mi_X3_here ml_X3_63 (ble_of (by omega)) rfl (As := []) rfl rfl rfl dX3_readsSingle_135 rfl (fun r6 s7 hw => ?_)
              refine x_bi hg dX3_readsSingle_138 bp_41 rfl ?_
              refine x_icmp_eq hg dX3_readsSingle_140 (tg := 145) (by decide) rfl hw (fun hw => ?_) (fun hw => ?_)
              · refine x_aload_0 hg dX3_readsSingle_145 rfl ?_
                refine x_dup hg dX3_readsSingle_146 rfl rfl ?_
                refine get_X3_5 hg hk fl_X3_40 dX3_readsSingle_147 rfl ?_
                refine x_ic hg dX3_readsSingle_150 ic_1 rfl ?_
                refine x_iadd hg dX3_readsSingle_151 rfl ?_
                refine put_X3_5 hg hk fl_X3_40 dX3_readsSingle_152 rfl hw (fun s8 hw => ?_)
                refine x_ic hg dX3_readsSingle_155 ic_1 rfl ?_
                exact x_zret hg dX3_readsSingle_156 (by decide) hw
              · refine x_ic hg dX3_readsSingle_143 ic_0 rfl ?_
                exact x_zret hg dX3_readsSingle_144 (by decide) hw
          · refine x_ic hg dX3_readsSingle_84 ic_1 rfl ?_
            refine x_goto hg dX3_readsSingle_85 (pc' := 89) (by decide) ?_
            refine x_istore_2 hg dX3_readsSingle_89 rfl rfl rfl ?_
            refine x_aload_0 hg dX3_readsSingle_90 rfl ?_
            refine x_dup hg dX3_readsSingle_91 rfl rfl ?_
            refine get_X3_5 hg hk fl_X3_40 dX3_readsSingle_92 rfl ?_
            refine x_ic hg dX3_readsSingle_95 ic_1 rfl ?_
            refine x_iadd hg dX3_readsSingle_96 rfl ?_
            refine put_X3_5 hg hk fl_X3_40 dX3_readsSingle_97 rfl hw (fun s5 hw => ?_)
            refine x_iload_2 hg dX3_readsSingle_100 rfl ?_
            refine x_if_eq hg dX3_readsSingle_101 (tg := 123) (by decide) rfl ⟨fun h => (show False from absurd h (by decide)), fun _ => hw⟩ (fun hw => False.elim hw) (fun hw => ?_)
            refine x_aload_0 hg dX3_readsSingle_104 rfl ?_
            refine x_iload_1 hg dX3_readsSingle_105 rfl ?_
            refine x_ic hg dX3_readsSingle_106 ic_1 rfl ?_
            refine x_iadd hg dX3_readsSingle_107 rfl ?_
            refine x_callVI hg (hrc1 _ _ _ hw) hk (by decide) rfl im_X3_readsSingle se_X3_readsSingle mi_X3_readsSingle ml_X3_51 hDd rfl (As := [.int (a1 + 1)]) rfl rfl rfl dX3_readsSingle_108 rfl (fun r5 s6 hw => ?_)
            refine x_istore_3 hg dX3_readsSingle_111 rfl rfl rfl ?_
            refine x_aload_0 hg dX3_readsSingle_112 rfl ?_
            refine get_X3_1 hg hk fl_X3_20 dX3_readsSingle_113 rfl (k2 := (k + 3)) rfl ?_
            refine x_bi hg dX3_readsSingle_116 bp_m33 rfl ?_
            refine x_callVV hg (xRow_add (gL g) (kTextW hk) hw) (kTextW hk) (by decide) rfl im_X1_add se_X1_add mi_X1_add ml_X3_67 (ble_of (by omega)) rfl (As := [.int (-33)]) rfl rfl rfl dX3_readsSingle_118 rfl (fun s7 hw => ?_)
            refine x_iload_3 hg dX3_readsSingle_121 rfl ?_
            exact x_zret hg dX3_readsSingle_122 hw.1 hw.2
        · refine x_ic hg dX3_readsSingle_73 ic_0 rfl ?_
          exact x_zret hg dX3_readsSingle_74 (by decide) hw
    · refine x_aload_0 hg dX3_readsSingle_26 rfl ?_
      refine get_X3_1 hg hk fl_X3_20 dX3_readsSingle_27 rfl (k2 := (k + 3)) rfl ?_
      refine x_ic hg dX3_readsSingle_30 ic_m1 rfl ?_
      refine x_aload_0 hg dX3_readsSingle_31 rfl ?_
      refine get_X3_4 hg hk fl_X3_29 dX3_readsSingle_32 rfl ?_
      refine x_aload_0 hg dX3_readsSingle_35 rfl ?_
      refine x_callVI hg (xText_here (gL g) hk hw) hk (by decide) rfl im_X3_here se_X3_here mi_X3_here ml_X3_63 (ble_of (by omega)) rfl (As := []) rfl rfl rfl dX3_readsSingle_36 rfl (fun r3 s3 hw => ?_)
      refine x_i2c hg dX3_readsSingle_39 rfl ?_
      refine x_indexOf hg ml_X3_75 (ble_of (by omega)) rfl dX3_readsSingle_40 rfl hw (fun hw => ?_)
      refine x_isub hg dX3_readsSingle_43 rfl ?_
      refine x_callVV hg (xRow_add (gL g) (kTextW hk) hw) (kTextW hk) (by decide) rfl im_X1_add se_X1_add mi_X1_add ml_X3_67 (ble_of (by omega)) rfl (As := [.int ((-1) - (sIx ((s2 k 4)) ((UInt32.toInt32 (Int32.toUInt32 r3 % 65536)))))]) rfl rfl rfl dX3_readsSingle_44 rfl (fun s4 hw => ?_)
      refine x_aload_0 hg dX3_readsSingle_47 rfl ?_
      refine x_dup hg dX3_readsSingle_48 rfl rfl ?_
      refine get_X3_5 hg hk fl_X3_40 dX3_readsSingle_49 rfl ?_
      refine x_ic hg dX3_readsSingle_52 ic_1 rfl ?_
      refine x_iadd hg dX3_readsSingle_53 rfl ?_
      refine put_X3_5 hg hk fl_X3_40 dX3_readsSingle_54 rfl hw (fun s5 hw => ?_)
      refine x_ic hg dX3_readsSingle_57 ic_1 rfl ?_
      exact x_zret hg dX3_readsSingle_58 (by decide) hw
  · refine x_aload_0 hg dX3_readsSingle_9 rfl ?_
    refine x_callVV hg (xText_readNumber (gL g) hk hw) hk (by decide) rfl im_X3_readNumber se_X3_readNumber mi_X3_readNumber ml_X3_72 (ble_of (by omega)) rfl (As := []) rfl rfl rfl dX3_readsSingle_10 rfl (fun s2 hw => ?_)
    refine x_ic hg dX3_readsSingle_13 ic_1 rfl ?_
    exact x_zret hg dX3_readsSingle_14 (by decide) hw
set_option maxRecDepth 100000 in
set_option maxHeartbeats 4000000 in
def wGText (k : Nat) : Nat → Nat → List Int32 → Sg → (Int32 → Sg → Prop) → Prop
  | 0, _, _, _, _ => False
  | n + 1, q, as, s, P => match q with
    | 0 => wText_reads (wGText k n) k (as.getD 0 0) (as.getD 1 0) s P
    | _ => wText_readsSingle (wGText k n) k (as.getD 0 0) s P
set_option maxRecDepth 100000 in
set_option maxHeartbeats 4000000 in
theorem xGText {w : Wc} (l : Launch) {k : Nat} (hk : kd shC k = 4) : ∀ n : Nat, (∀ (b1 b2 : Int32) (s : Sg) (R : Int32 → Sg → Prop), wGText k n 0 [b1, b2] s R → CI shC w l (6 + n) (.code yX3_reads cX3_reads 5 (some .boolean)) yX3_reads [.ref (ad w k), .int b1, .int b2] s R) ∧ (∀ (b1 : Int32) (s : Sg) (R : Int32 → Sg → Prop), wGText k n 1 [b1] s R → CI shC w l (6 + n) (.code yX3_readsSingle cX3_readsSingle 4 (some .boolean)) yX3_readsSingle [.ref (ad w k), .int b1] s R) := by
  intro n
  induction n with
  | zero => exact ⟨fun _ _ _ _ h => h.elim, fun _ _ _ h => h.elim⟩
  | succ n ih =>
    obtain ⟨h0, h1⟩ := ih
    have hd : 7 ≤ 6 + (n + 1) := by omega
    have hDd : Nat.ble (6 + n + 1) (6 + (n + 1)) = true := ble_of (by omega)
    exact ⟨fun _ _ _ _ h => xbText_reads (rc := wGText k n) hd hDd h0 h1 hk h, fun _ _ _ h => xbText_readsSingle (rc := wGText k n) hd hDd h0 h1 hk h⟩
theorem xText_reads {w : Wc} {k : Nat} (hk : kd shC k = 4) (l : Launch) (n : Nat) (b1 b2 : Int32) {s0 : Sg} {P : Int32 → Sg → Prop} (hw : wGText k n 0 [b1, b2] s0 P) : CI shC w l (6 + n) (.code yX3_reads cX3_reads 5 (some .boolean)) yX3_reads [.ref (ad w k), .int b1, .int b2] s0 P := (xGText l hk n).1 b1 b2 _ _ hw
theorem xText_readsSingle {w : Wc} {k : Nat} (hk : kd shC k = 4) (l : Launch) (n : Nat) (b1 : Int32) {s0 : Sg} {P : Int32 → Sg → Prop} (hw : wGText k n 1 [b1] s0 P) : CI shC w l (6 + n) (.code yX3_readsSingle cX3_readsSingle 4 (some .boolean)) yX3_readsSingle [.ref (ad w k), .int b1] s0 P := (xGText l hk n).2 b1 _ _ hw
def wText_read (k : Nat) (a2 : Int32) (s0 : Sg) (P : Int32 → Sg → Prop) : Prop := (∀ s1 : Sg, s1 = u2 s0 k 3 1 → (∀ s2 : Sg, s2 = u2 s1 k 4 a2 → (∀ s3 : Sg, s3 = u2 s2 k 5 0 → (∀ s4 : Sg, s4 = u2 s3 ((k + 3)) 1 0 → (wGText k 45 0 [0, 0] s4 (fun (r1 : Int32) (s5 : Sg) => ((r1 = 0 → P ((s5 k 5)) s5) ∧ (¬ r1 = 0 → (((s5 5 1) ≤ (s5 k 5) → (wRow_copy ((k + 1)) ((k + 3)) s5 (fun (s6 : Sg) => P ((-1)) s6))) ∧ (¬ (s5 5 1) ≤ (s5 k 5) → P ((s5 k 5)) s5))))))))))
set_option maxRecDepth 100000 in
set_option maxHeartbeats 4000000 in
theorem xText_read {w : Wc} (l : Launch) {k : Nat} {a2 : Int32} (hk : kd shC k = 4) {s0 : Sg} {P : Int32 → Sg → Prop} (hw : wText_read k a2 s0 P) : CI shC w l 52 (.code yX3_read cX3_read 3 (some .int)) yX3_read [.ref (ad w k), .ref (ad w 5), .ref (sa w a2)] s0 P := by
  refine ci_of_i (own := "BagBottom$Text") (ls0 := [some (.ref (ad w k)), some (.ref (ad w 5)), some (.ref (sa w a2))]) rfl pn_X3 rfl rfl (fun g el hg => ?_)
  unfold wText_read at hw
  refine x_aload_0 hg dX3_read_0 rfl ?_
  refine x_aload_1 hg dX3_read_1 rfl ?_
  refine put_X3_3 hg hk fl_X3_37 dX3_read_2 rfl hw (fun s1 hw => ?_)
  refine x_aload_0 hg dX3_read_5 rfl ?_
  refine x_aload_2 hg dX3_read_6 rfl ?_
  refine put_X3_4 hg hk fl_X3_29 dX3_read_7 rfl hw (fun s2 hw => ?_)
  refine x_aload_0 hg dX3_read_10 rfl ?_
  refine x_ic hg dX3_read_11 ic_0 rfl ?_
  refine put_X3_5 hg hk fl_X3_40 dX3_read_12 rfl hw (fun s3 hw => ?_)
  refine x_aload_0 hg dX3_read_15 rfl ?_
  refine get_X3_1 hg hk fl_X3_20 dX3_read_16 rfl (k2 := (k + 3)) rfl ?_
  refine x_ic hg dX3_read_19 ic_0 rfl ?_
  refine put_X1_1 hg (kTextW hk) fl_X3_33 dX3_read_20 rfl hw (fun s4 hw => ?_)
  refine x_aload_0 hg dX3_read_23 rfl ?_
  refine x_ic hg dX3_read_24 ic_0 rfl ?_
  refine x_ic hg dX3_read_25 ic_0 rfl ?_
  refine x_callVI hg (xText_reads hk (gL g) 45 _ _ hw) hk (by decide) rfl im_X3_reads se_X3_reads mi_X3_reads ml_X3_43 rfl rfl (As := [.int 0, .int 0]) rfl rfl rfl dX3_read_26 rfl (fun r1 s5 hw => ?_)
  refine x_if_eq hg dX3_read_29 (tg := 43) (by decide) rfl hw (fun hw => ?_) (fun hw => ?_)
  · refine x_aload_0 hg dX3_read_43 rfl ?_
    refine get_X3_5 hg hk fl_X3_40 dX3_read_44 rfl ?_
    exact x_ret hg dX3_read_47 hw
  · refine x_aload_0 hg dX3_read_32 rfl ?_
    refine get_X3_5 hg hk fl_X3_40 dX3_read_33 rfl ?_
    refine x_aload_1 hg dX3_read_36 rfl ?_
    refine get_X1_1 hg kC_5 fl_X3_33 dX3_read_37 rfl ?_
    refine x_icmp_ge hg dX3_read_40 (tg := 48) (by decide) rfl hw (fun hw => ?_) (fun hw => ?_)
    · refine x_aload_0 hg dX3_read_48 rfl ?_
      refine get_X3_0 hg hk fl_X3_14 dX3_read_49 rfl (k2 := (k + 1)) rfl ?_
      refine x_aload_0 hg dX3_read_52 rfl ?_
      refine get_X3_1 hg hk fl_X3_20 dX3_read_53 rfl (k2 := (k + 3)) rfl ?_
      refine x_callVV hg (xRow_copy (gL g) (kTextC hk) (kTextW hk) hw) (kTextC hk) (by decide) rfl im_X1_copy se_X1_copy mi_X1_copy ml_X3_47 rfl rfl (As := [.ref (ad w (k + 3))]) rfl rfl rfl dX3_read_56 rfl (fun s6 hw => ?_)
      refine x_ic hg dX3_read_59 ic_m1 rfl ?_
      exact x_ret hg dX3_read_60 hw
    · refine x_aload_0 hg dX3_read_43 rfl ?_
      refine get_X3_5 hg hk fl_X3_40 dX3_read_44 rfl ?_
      exact x_ret hg dX3_read_47 hw
def wText_isThere (k : Nat) (s0 : Sg) (P : Int32 → Sg → Prop) : Prop := (((s0 ((k + 1)) 1) ≤ 0 → P 0 s0) ∧ (¬ (s0 ((k + 1)) 1) ≤ 0 → P 1 s0))
set_option maxRecDepth 100000 in
set_option maxHeartbeats 4000000 in
theorem xText_isThere {w : Wc} (l : Launch) {k : Nat} (hk : kd shC k = 4) {s0 : Sg} {P : Int32 → Sg → Prop} (hw : wText_isThere k s0 P) : CI shC w l 1 (.code yX3_isThere cX3_isThere 1 (some .boolean)) yX3_isThere [.ref (ad w k)] s0 P := by
  refine ci_of_z (own := "BagBottom$Text") (ls0 := [some (.ref (ad w k))]) rfl pn_X3 rfl rfl (fun g el hg => ?_)
  unfold wText_isThere at hw
  refine x_aload_0 hg dX3_isThere_0 rfl ?_
  refine get_X3_0 hg hk fl_X3_14 dX3_isThere_1 rfl (k2 := (k + 1)) rfl ?_
  refine get_X1_1 hg (kTextC hk) fl_X3_33 dX3_isThere_4 rfl ?_
  refine x_if_le hg dX3_isThere_7 (tg := 14) (by decide) rfl hw (fun hw => ?_) (fun hw => ?_)
  · refine x_ic hg dX3_isThere_14 ic_0 rfl ?_
    exact x_zret hg dX3_isThere_15 (by decide) hw
  · refine x_ic hg dX3_isThere_10 ic_1 rfl ?_
    refine x_goto hg dX3_isThere_11 (pc' := 15) (by decide) ?_
    exact x_zret hg dX3_isThere_15 (by decide) hw
def wText_joined (a0 : Int32) (a1 : Int32) (a2 : Int32) (s0 : Sg) (P : Int32 → Sg → Prop) : Prop := ((a0 = 38 → ((a1 = 0 → P 0 s0) ∧ (¬ a1 = 0 → ((a2 = 0 → P 0 s0) ∧ (¬ a2 = 0 → P 1 s0))))) ∧ (¬ a0 = 38 → ((a0 = 42 → P ((a1 * a2)) s0) ∧ (¬ a0 = 42 → ((a0 = 43 → P ((a1 + a2)) s0) ∧ (¬ a0 = 43 → ((a0 = 45 → P ((a1 - a2)) s0) ∧ (¬ a0 = 45 → ((a0 = 47 → ((¬ a2 = 0 → (¬ a2 = 0 ∧ P ((a1 / a2)) s0)) ∧ (a2 = 0 → P 0 s0))) ∧ (¬ a0 = 47 → ((a0 = 60 → ((a2 ≤ a1 → P 0 s0) ∧ (¬ a2 ≤ a1 → P 1 s0))) ∧ (¬ a0 = 60 → ((a0 = 61 → ((¬ a1 = a2 → P 0 s0) ∧ (a1 = a2 → P 1 s0))) ∧ (¬ a0 = 61 → ((a0 = 62 → ((a1 ≤ a2 → P 0 s0) ∧ (¬ a1 ≤ a2 → P 1 s0))) ∧ (¬ a0 = 62 → ((a0 = 124 → ((¬ a1 = 0 → P 1 s0) ∧ (a1 = 0 → ((a2 = 0 → P 0 s0) ∧ (¬ a2 = 0 → P 1 s0))))) ∧ (¬ a0 = 124 → ((¬ a2 = 0 → (¬ a2 = 0 ∧ P ((a1 - a1 / a2 * a2)) s0)) ∧ (a2 = 0 → P 0 s0))))))))))))))))))))
set_option maxRecDepth 100000 in
set_option maxHeartbeats 4000000 in
theorem xText_joined {w : Wc} (l : Launch) {a0 : Int32} {a1 : Int32} {a2 : Int32} {s0 : Sg} {P : Int32 → Sg → Prop} (hw : wText_joined a0 a1 a2 s0 P) : CI shC w l 1 (.code yX3_joined cX3_joined 3 (some .int)) yX3_joined [.int a0, .int a1, .int a2] s0 P := by
  refine ci_of_i (own := "BagBottom$Text") (ls0 := [some (.int a0), some (.int a1), some (.int a2)]) rfl pn_X3 rfl rfl (fun g el hg => ?_)
  unfold wText_joined at hw
  refine x_iload_0 hg dX3_joined_0 rfl ?_
  refine x_br hw (fun h0 hw => ?_) (fun h0 hw => ?_)
  · refine x_lkp hg dX3_joined_1 (ps := [(38, 97), (42, 152), (43, 144), (45, 148), (47, 156), (60, 111), (61, 122), (62, 133), (124, 83)]) rfl (tg := 98) (by rw [h0]; decide) ?_
    refine x_iload_1 hg dX3_joined_98 rfl ?_
    refine x_if_eq hg dX3_joined_99 (tg := 110) (by decide) rfl hw (fun hw => ?_) (fun hw => ?_)
    · refine x_ic hg dX3_joined_110 ic_0 rfl ?_
      exact x_ret hg dX3_joined_111 hw
    · refine x_iload_2 hg dX3_joined_102 rfl ?_
      refine x_if_eq hg dX3_joined_103 (tg := 110) (by decide) rfl hw (fun hw => ?_) (fun hw => ?_)
      · refine x_ic hg dX3_joined_110 ic_0 rfl ?_
        exact x_ret hg dX3_joined_111 hw
      · refine x_ic hg dX3_joined_106 ic_1 rfl ?_
        refine x_goto hg dX3_joined_107 (pc' := 111) (by decide) ?_
        exact x_ret hg dX3_joined_111 hw
  · skip
    refine x_br hw (fun h1 hw => ?_) (fun h1 hw => ?_)
    · refine x_lkp hg dX3_joined_1 (ps := [(38, 97), (42, 152), (43, 144), (45, 148), (47, 156), (60, 111), (61, 122), (62, 133), (124, 83)]) rfl (tg := 153) (by rw [h1]; decide) ?_
      refine x_iload_1 hg dX3_joined_153 rfl ?_
      refine x_iload_2 hg dX3_joined_154 rfl ?_
      refine x_imul hg dX3_joined_155 rfl ?_
      exact x_ret hg dX3_joined_156 hw
    · skip
      refine x_br hw (fun h2 hw => ?_) (fun h2 hw => ?_)
      · refine x_lkp hg dX3_joined_1 (ps := [(38, 97), (42, 152), (43, 144), (45, 148), (47, 156), (60, 111), (61, 122), (62, 133), (124, 83)]) rfl (tg := 145) (by rw [h2]; decide) ?_
        refine x_iload_1 hg dX3_joined_145 rfl ?_
        refine x_iload_2 hg dX3_joined_146 rfl ?_
        refine x_iadd hg dX3_joined_147 rfl ?_
        exact x_ret hg dX3_joined_148 hw
      · skip
        refine x_br hw (fun h3 hw => ?_) (fun h3 hw => ?_)
        · refine x_lkp hg dX3_joined_1 (ps := [(38, 97), (42, 152), (43, 144), (45, 148), (47, 156), (60, 111), (61, 122), (62, 133), (124, 83)]) rfl (tg := 149) (by rw [h3]; decide) ?_
          refine x_iload_1 hg dX3_joined_149 rfl ?_
          refine x_iload_2 hg dX3_joined_150 rfl ?_
          refine x_isub hg dX3_joined_151 rfl ?_
          exact x_ret hg dX3_joined_152 hw
        · skip
          refine x_br hw (fun h4 hw => ?_) (fun h4 hw => ?_)
          · refine x_lkp hg dX3_joined_1 (ps := [(38, 97), (42, 152), (43, 144), (45, 148), (47, 156), (60, 111), (61, 122), (62, 133), (124, 83)]) rfl (tg := 157) (by rw [h4]; decide) ?_
            refine x_iload_2 hg dX3_joined_157 rfl ?_
            refine x_if_ne hg dX3_joined_158 (tg := 165) (by decide) rfl hw (fun hw => ?_) (fun hw => ?_)
            · refine x_iload_1 hg dX3_joined_165 rfl ?_
              refine x_iload_2 hg dX3_joined_166 rfl ?_
              obtain ⟨hne, hw⟩ := hw
              refine x_idiv hg dX3_joined_167 hne rfl ?_
              exact x_ret hg dX3_joined_168 hw
            · refine x_ic hg dX3_joined_161 ic_0 rfl ?_
              refine x_goto hg dX3_joined_162 (pc' := 168) (by decide) ?_
              exact x_ret hg dX3_joined_168 hw
          · skip
            refine x_br hw (fun h5 hw => ?_) (fun h5 hw => ?_)
            · refine x_lkp hg dX3_joined_1 (ps := [(38, 97), (42, 152), (43, 144), (45, 148), (47, 156), (60, 111), (61, 122), (62, 133), (124, 83)]) rfl (tg := 112) (by rw [h5]; decide) ?_
              refine x_iload_1 hg dX3_joined_112 rfl ?_
              refine x_iload_2 hg dX3_joined_113 rfl ?_
              refine x_icmp_ge hg dX3_joined_114 (tg := 121) (by decide) rfl hw (fun hw => ?_) (fun hw => ?_)
              · refine x_ic hg dX3_joined_121 ic_0 rfl ?_
                exact x_ret hg dX3_joined_122 hw
              · refine x_ic hg dX3_joined_117 ic_1 rfl ?_
                refine x_goto hg dX3_joined_118 (pc' := 122) (by decide) ?_
                exact x_ret hg dX3_joined_122 hw
            · skip
              refine x_br hw (fun h6 hw => ?_) (fun h6 hw => ?_)
              · refine x_lkp hg dX3_joined_1 (ps := [(38, 97), (42, 152), (43, 144), (45, 148), (47, 156), (60, 111), (61, 122), (62, 133), (124, 83)]) rfl (tg := 123) (by rw [h6]; decide) ?_
                refine x_iload_1 hg dX3_joined_123 rfl ?_
                refine x_iload_2 hg dX3_joined_124 rfl ?_
                refine x_icmp_ne hg dX3_joined_125 (tg := 132) (by decide) rfl hw (fun hw => ?_) (fun hw => ?_)
                · refine x_ic hg dX3_joined_132 ic_0 rfl ?_
                  exact x_ret hg dX3_joined_133 hw
                · refine x_ic hg dX3_joined_128 ic_1 rfl ?_
                  refine x_goto hg dX3_joined_129 (pc' := 133) (by decide) ?_
                  exact x_ret hg dX3_joined_133 hw
              · skip
                refine x_br hw (fun h7 hw => ?_) (fun h7 hw => ?_)
                · refine x_lkp hg dX3_joined_1 (ps := [(38, 97), (42, 152), (43, 144), (45, 148), (47, 156), (60, 111), (61, 122), (62, 133), (124, 83)]) rfl (tg := 134) (by rw [h7]; decide) ?_
                  refine x_iload_1 hg dX3_joined_134 rfl ?_
                  refine x_iload_2 hg dX3_joined_135 rfl ?_
                  refine x_icmp_le hg dX3_joined_136 (tg := 143) (by decide) rfl hw (fun hw => ?_) (fun hw => ?_)
                  · refine x_ic hg dX3_joined_143 ic_0 rfl ?_
                    exact x_ret hg dX3_joined_144 hw
                  · refine x_ic hg dX3_joined_139 ic_1 rfl ?_
                    refine x_goto hg dX3_joined_140 (pc' := 144) (by decide) ?_
                    exact x_ret hg dX3_joined_144 hw
                · skip
                  refine x_br hw (fun h8 hw => ?_) (fun h8 hw => ?_)
                  · refine x_lkp hg dX3_joined_1 (ps := [(38, 97), (42, 152), (43, 144), (45, 148), (47, 156), (60, 111), (61, 122), (62, 133), (124, 83)]) rfl (tg := 84) (by rw [h8]; decide) ?_
                    refine x_iload_1 hg dX3_joined_84 rfl ?_
                    refine x_if_ne hg dX3_joined_85 (tg := 92) (by decide) rfl hw (fun hw => ?_) (fun hw => ?_)
                    · refine x_ic hg dX3_joined_92 ic_1 rfl ?_
                      refine x_goto hg dX3_joined_93 (pc' := 97) (by decide) ?_
                      exact x_ret hg dX3_joined_97 hw
                    · refine x_iload_2 hg dX3_joined_88 rfl ?_
                      refine x_if_eq hg dX3_joined_89 (tg := 96) (by decide) rfl hw (fun hw => ?_) (fun hw => ?_)
                      · refine x_ic hg dX3_joined_96 ic_0 rfl ?_
                        exact x_ret hg dX3_joined_97 hw
                      · refine x_ic hg dX3_joined_92 ic_1 rfl ?_
                        refine x_goto hg dX3_joined_93 (pc' := 97) (by decide) ?_
                        exact x_ret hg dX3_joined_97 hw
                  · skip
                    refine x_lkp hg dX3_joined_1 (ps := [(38, 97), (42, 152), (43, 144), (45, 148), (47, 156), (60, 111), (61, 122), (62, 133), (124, 83)]) rfl (tg := 169) (by simp only [lk, if_neg h0, if_neg h1, if_neg h2, if_neg h3, if_neg h4, if_neg h5, if_neg h6, if_neg h7, if_neg h8, ite_self]; decide) ?_
                    refine x_iload_2 hg dX3_joined_169 rfl ?_
                    refine x_if_ne hg dX3_joined_170 (tg := 177) (by decide) rfl hw (fun hw => ?_) (fun hw => ?_)
                    · refine x_iload_1 hg dX3_joined_177 rfl ?_
                      refine x_iload_2 hg dX3_joined_178 rfl ?_
                      obtain ⟨hne, hw⟩ := hw
                      refine x_irem hg dX3_joined_179 hne rfl ?_
                      exact x_ret hg dX3_joined_180 hw
                    · refine x_ic hg dX3_joined_173 ic_0 rfl ?_
                      refine x_goto hg dX3_joined_174 (pc' := 180) (by decide) ?_
                      exact x_ret hg dX3_joined_180 hw
def wText_value_6 (k : Nat) (f1 : Int32) (f2 : Int32) (f3 : Int32) (P : Int32 → Sg → Prop) (K186 : Int32 → Sg → Prop) : Nat → Int32 → Int32 → Sg → Prop
  | 0, _, _, _ => False
  | n + 1, a4, a5, s0 => (((s0 ((k + 1)) 1) ≤ a5 → K186 a4 s0) ∧ (¬ (s0 ((k + 1)) 1) ≤ a5 → (vp_in a5 (ln shC ((k + 1) + 1)) ∧ (((s0 (((k + 1) + 1)) (ix a5)) < (-3) → ((¬ (s0 (((k + 1) + 1)) (ix a5)) = (-33) → ((2 ≤ a4 → (vp_in (((a4 + (-1)) - 1)) 60 ∧ (vp_in ((a4 + (-1))) 60 ∧ (wText_joined ((-(s0 (((k + 1) + 1)) (ix a5)))) ((s0 ((k + 5)) (ix (((a4 + (-1)) - 1))))) ((s0 ((k + 5)) (ix ((a4 + (-1)))))) s0 (fun (r1 : Int32) (s1 : Sg) => (vp_in (((a4 + (-1)) - 1)) 60 ∧ ∀ s2 : Sg, s2 = u2 s1 ((k + 5)) (ix (((a4 + (-1)) - 1))) r1 → wText_value_6 k f1 f2 f3 P K186 n ((a4 + (-1))) ((a5 + 1)) s2)))))) ∧ (¬ 2 ≤ a4 → P 0 s0))) ∧ ((s0 (((k + 1) + 1)) (ix a5)) = (-33) → ((1 ≤ a4 → (vp_in ((a4 - 1)) 60 ∧ ((¬ (s0 ((k + 5)) (ix ((a4 - 1)))) = 0 → (vp_in ((a4 - 1)) 60 ∧ ∀ s1 : Sg, s1 = u2 s0 ((k + 5)) (ix ((a4 - 1))) 0 → wText_value_6 k f1 f2 f3 P K186 n a4 ((a5 + 1)) s1)) ∧ ((s0 ((k + 5)) (ix ((a4 - 1)))) = 0 → (vp_in ((a4 - 1)) 60 ∧ ∀ s1 : Sg, s1 = u2 s0 ((k + 5)) (ix ((a4 - 1))) 1 → wText_value_6 k f1 f2 f3 P K186 n a4 ((a5 + 1)) s1))))) ∧ (¬ 1 ≤ a4 → P 0 s0))))) ∧ (¬ (s0 (((k + 1) + 1)) (ix a5)) < (-3) → ((a4 < 60 → (((s0 (((k + 1) + 1)) (ix a5)) < 0 → ((¬ (s0 (((k + 1) + 1)) (ix a5)) = (-1) → ((¬ (s0 (((k + 1) + 1)) (ix a5)) = (-2) → (vp_in a4 60 ∧ ∀ s1 : Sg, s1 = u2 s0 ((k + 5)) (ix a4) f3 → wText_value_6 k f1 f2 f3 P K186 n ((a4 + 1)) ((a5 + 1)) s1)) ∧ ((s0 (((k + 1) + 1)) (ix a5)) = (-2) → (vp_in a4 60 ∧ ∀ s1 : Sg, s1 = u2 s0 ((k + 5)) (ix a4) f2 → wText_value_6 k f1 f2 f3 P K186 n ((a4 + 1)) ((a5 + 1)) s1)))) ∧ ((s0 (((k + 1) + 1)) (ix a5)) = (-1) → (vp_in a4 60 ∧ ∀ s1 : Sg, s1 = u2 s0 ((k + 5)) (ix a4) f1 → wText_value_6 k f1 f2 f3 P K186 n ((a4 + 1)) ((a5 + 1)) s1)))) ∧ (¬ (s0 (((k + 1) + 1)) (ix a5)) < 0 → (vp_in a4 60 ∧ ∀ s1 : Sg, s1 = u2 s0 ((k + 5)) (ix a4) ((s0 (((k + 1) + 1)) (ix a5))) → wText_value_6 k f1 f2 f3 P K186 n ((a4 + 1)) ((a5 + 1)) s1)))) ∧ (¬ a4 < 60 → P 0 s0)))))))
def wText_value (k : Nat) (a1 : Int32) (a2 : Int32) (a3 : Int32) (s0 : Sg) (P : Int32 → Sg → Prop) : Prop := (∃ N1 : Nat, wText_value_6 k a1 a2 a3 P (fun (v1 : Int32) (s1 : Sg) => ((v1 ≤ 0 → P 0 s1) ∧ (¬ v1 ≤ 0 → P ((s1 ((k + 5)) 0)) s1))) N1 0 0 s0)
set_option maxRecDepth 100000 in
set_option maxHeartbeats 4000000 in
theorem xText_value_6 {w : Wc} {g : Gx} {Q : State → Prop} {k : Nat} {f1 : Int32} {f2 : Int32} {f3 : Int32} {P : Int32 → Sg → Prop} {K186 : Int32 → Sg → Prop} (hg : OK shC w g 2 cX3_value "BagBottom$Text" 7 (some .int)) (hk : kd shC k = 4) (hQ : Q = QI shC w g P) (hK186 : ∀ (a4 : Int32) (s0 : Sg), K186 a4 s0 → X shC w g Q 186 [some (.ref (ad w k)), none, none, none, some (.int a4), none, none] [] s0) : ∀ (n : Nat) (a4 a5 : Int32) (s0 : Sg), wText_value_6 k f1 f2 f3 P K186 n a4 a5 s0 → X shC w g Q 6 [some (.ref (ad w k)), some (.int f1), some (.int f2), some (.int f3), some (.int a4), some (.int a5), none] [] s0 := by
  subst hQ
  intro n
  induction n with
  | zero =>
    intro a4 a5 s0 hw
    exact hw.elim
  | succ n ih =>
    intro a4 a5 s0 hw
    rw [wText_value_6] at hw
    refine x_iload_5 hg dX3_value_6 rfl ?_
    refine x_aload_0 hg dX3_value_8 rfl ?_
    refine get_X3_0 hg hk fl_X3_14 dX3_value_9 rfl (k2 := (k + 1)) rfl ?_
    refine get_X1_1 hg (kTextC hk) fl_X3_33 dX3_value_12 rfl ?_
    refine x_icmp_ge hg dX3_value_15 (tg := 186) (by decide) rfl hw (fun hw => ?_) (fun hw => ?_)
    · refine x_drop_1 ?_
      refine x_drop_2 ?_
      refine x_drop_3 ?_
      refine x_drop_5 ?_
      exact hK186 _ _ hw
    · refine x_aload_0 hg dX3_value_18 rfl ?_
      refine get_X3_0 hg hk fl_X3_14 dX3_value_19 rfl (k2 := (k + 1)) rfl ?_
      refine get_X1_0 hg (kTextC hk) fl_X3_96 dX3_value_22 rfl (k2 := ((k + 1) + 1)) rfl ?_
      refine x_iload_5 hg dX3_value_25 rfl ?_
      refine x_iald hg (kRow (kTextC hk)) rfl dX3_value_27 rfl hw (fun hw => ?_)
      refine x_istore_6 hg dX3_value_28 rfl rfl rfl ?_
      refine x_iload_6 hg dX3_value_30 rfl ?_
      refine x_bi hg dX3_value_32 bp_m3 rfl ?_
      refine x_icmp_lt hg dX3_value_34 (tg := 94) (by decide) rfl hw (fun hw => ?_) (fun hw => ?_)
      · refine x_iload_6 hg dX3_value_94 rfl ?_
        refine x_bi hg dX3_value_96 bp_m33 rfl ?_
        refine x_icmp_ne hg dX3_value_98 (tg := 138) (by decide) rfl hw (fun hw => ?_) (fun hw => ?_)
        · refine x_iload_4 hg dX3_value_138 rfl ?_
          refine x_ic hg dX3_value_140 ic_2 rfl ?_
          refine x_icmp_ge hg dX3_value_141 (tg := 146) (by decide) rfl hw (fun hw => ?_) (fun hw => ?_)
          · refine x_iinc_4 hg dX3_value_146 ic_m1 rfl rfl rfl ?_
            refine x_aload_0 hg dX3_value_149 rfl ?_
            refine get_X3_2 hg hk fl_X3_23 dX3_value_150 rfl (k2 := (k + 5)) rfl ?_
            refine x_iload_4 hg dX3_value_153 rfl ?_
            refine x_ic hg dX3_value_155 ic_1 rfl ?_
            refine x_isub hg dX3_value_156 rfl ?_
            refine x_iload_6 hg dX3_value_157 rfl ?_
            refine x_ineg hg dX3_value_159 rfl ?_
            refine x_aload_0 hg dX3_value_160 rfl ?_
            refine get_X3_2 hg hk fl_X3_23 dX3_value_161 rfl (k2 := (k + 5)) rfl ?_
            refine x_iload_4 hg dX3_value_164 rfl ?_
            refine x_ic hg dX3_value_166 ic_1 rfl ?_
            refine x_isub hg dX3_value_167 rfl ?_
            refine x_iald hg (kTextS hk) (lnTextS hk) dX3_value_168 rfl hw (fun hw => ?_)
            refine x_aload_0 hg dX3_value_169 rfl ?_
            refine get_X3_2 hg hk fl_X3_23 dX3_value_170 rfl (k2 := (k + 5)) rfl ?_
            refine x_iload_4 hg dX3_value_173 rfl ?_
            refine x_iald hg (kTextS hk) (lnTextS hk) dX3_value_175 rfl hw (fun hw => ?_)
            refine x_callSI hg (xText_joined (gL g)  hw) sm_X3_joined mi_X3_joined ml_X3_99 rfl rfl (As := [.int (-(s0 (((k + 1) + 1)) (ix a5))), .int (s0 ((k + 5)) (ix (((a4 + (-1)) - 1)))), .int (s0 ((k + 5)) (ix ((a4 + (-1)))))]) rfl rfl rfl dX3_value_176 rfl (fun r1 s1 hw => ?_)
            refine x_iast hg (kTextS hk) (lnTextS hk) dX3_value_179 rfl hw (fun s2 hw => ?_)
            refine x_iinc_5 hg dX3_value_180 ic_1 rfl rfl rfl ?_
            refine x_goto hg dX3_value_183 (pc' := 6) (by decide) ?_
            refine x_drop_6 ?_
            exact ih _ _ _ hw
          · refine x_ic hg dX3_value_144 ic_0 rfl ?_
            exact x_ret hg dX3_value_145 hw
        · refine x_iload_4 hg dX3_value_101 rfl ?_
          refine x_ic hg dX3_value_103 ic_1 rfl ?_
          refine x_icmp_ge hg dX3_value_104 (tg := 109) (by decide) rfl hw (fun hw => ?_) (fun hw => ?_)
          · refine x_aload_0 hg dX3_value_109 rfl ?_
            refine get_X3_2 hg hk fl_X3_23 dX3_value_110 rfl (k2 := (k + 5)) rfl ?_
            refine x_iload_4 hg dX3_value_113 rfl ?_
            refine x_ic hg dX3_value_115 ic_1 rfl ?_
            refine x_isub hg dX3_value_116 rfl ?_
            refine x_aload_0 hg dX3_value_117 rfl ?_
            refine get_X3_2 hg hk fl_X3_23 dX3_value_118 rfl (k2 := (k + 5)) rfl ?_
            refine x_iload_4 hg dX3_value_121 rfl ?_
            refine x_ic hg dX3_value_123 ic_1 rfl ?_
            refine x_isub hg dX3_value_124 rfl ?_
            refine x_iald hg (kTextS hk) (lnTextS hk) dX3_value_125 rfl hw (fun hw => ?_)
            refine x_if_ne hg dX3_value_126 (tg := 133) (by decide) rfl hw (fun hw => ?_) (fun hw => ?_)
            · refine x_ic hg dX3_value_133 ic_0 rfl ?_
              refine x_iast hg (kTextS hk) (lnTextS hk) dX3_value_134 rfl hw (fun s1 hw => ?_)
              refine x_goto hg dX3_value_135 (pc' := 180) (by decide) ?_
              refine x_iinc_5 hg dX3_value_180 ic_1 rfl rfl rfl ?_
              refine x_goto hg dX3_value_183 (pc' := 6) (by decide) ?_
              refine x_drop_6 ?_
              exact ih _ _ _ hw
            · refine x_ic hg dX3_value_129 ic_1 rfl ?_
              refine x_goto hg dX3_value_130 (pc' := 134) (by decide) ?_
              refine x_iast hg (kTextS hk) (lnTextS hk) dX3_value_134 rfl hw (fun s1 hw => ?_)
              refine x_goto hg dX3_value_135 (pc' := 180) (by decide) ?_
              refine x_iinc_5 hg dX3_value_180 ic_1 rfl rfl rfl ?_
              refine x_goto hg dX3_value_183 (pc' := 6) (by decide) ?_
              refine x_drop_6 ?_
              exact ih _ _ _ hw
          · refine x_ic hg dX3_value_107 ic_0 rfl ?_
            exact x_ret hg dX3_value_108 hw
      · refine x_iload_4 hg dX3_value_37 rfl ?_
        refine x_aload_0 hg dX3_value_39 rfl ?_
        refine get_X3_2 hg hk fl_X3_23 dX3_value_40 rfl (k2 := (k + 5)) rfl ?_
        refine x_alen hg (kTextS hk) (lnTextS hk) an_60 dX3_value_43 rfl ?_
        refine x_icmp_lt hg dX3_value_44 (tg := 49) (by decide) rfl hw (fun hw => ?_) (fun hw => ?_)
        · refine x_aload_0 hg dX3_value_49 rfl ?_
          refine get_X3_2 hg hk fl_X3_23 dX3_value_50 rfl (k2 := (k + 5)) rfl ?_
          refine x_iload_4 hg dX3_value_53 rfl ?_
          refine x_iload_6 hg dX3_value_55 rfl ?_
          refine x_if_lt hg dX3_value_57 (tg := 65) (by decide) rfl hw (fun hw => ?_) (fun hw => ?_)
          · refine x_iload_6 hg dX3_value_65 rfl ?_
            refine x_ic hg dX3_value_67 ic_m1 rfl ?_
            refine x_icmp_ne hg dX3_value_68 (tg := 75) (by decide) rfl hw (fun hw => ?_) (fun hw => ?_)
            · refine x_iload_6 hg dX3_value_75 rfl ?_
              refine x_bi hg dX3_value_77 bp_m2 rfl ?_
              refine x_icmp_ne hg dX3_value_79 (tg := 86) (by decide) rfl hw (fun hw => ?_) (fun hw => ?_)
              · refine x_iload_3 hg dX3_value_86 rfl ?_
                refine x_iast hg (kTextS hk) (lnTextS hk) dX3_value_87 rfl hw (fun s1 hw => ?_)
                refine x_iinc_4 hg dX3_value_88 ic_1 rfl rfl rfl ?_
                refine x_goto hg dX3_value_91 (pc' := 180) (by decide) ?_
                refine x_iinc_5 hg dX3_value_180 ic_1 rfl rfl rfl ?_
                refine x_goto hg dX3_value_183 (pc' := 6) (by decide) ?_
                refine x_drop_6 ?_
                exact ih _ _ _ hw
              · refine x_iload_2 hg dX3_value_82 rfl ?_
                refine x_goto hg dX3_value_83 (pc' := 87) (by decide) ?_
                refine x_iast hg (kTextS hk) (lnTextS hk) dX3_value_87 rfl hw (fun s1 hw => ?_)
                refine x_iinc_4 hg dX3_value_88 ic_1 rfl rfl rfl ?_
                refine x_goto hg dX3_value_91 (pc' := 180) (by decide) ?_
                refine x_iinc_5 hg dX3_value_180 ic_1 rfl rfl rfl ?_
                refine x_goto hg dX3_value_183 (pc' := 6) (by decide) ?_
                refine x_drop_6 ?_
                exact ih _ _ _ hw
            · refine x_iload_1 hg dX3_value_71 rfl ?_
              refine x_goto hg dX3_value_72 (pc' := 87) (by decide) ?_
              refine x_iast hg (kTextS hk) (lnTextS hk) dX3_value_87 rfl hw (fun s1 hw => ?_)
              refine x_iinc_4 hg dX3_value_88 ic_1 rfl rfl rfl ?_
              refine x_goto hg dX3_value_91 (pc' := 180) (by decide) ?_
              refine x_iinc_5 hg dX3_value_180 ic_1 rfl rfl rfl ?_
              refine x_goto hg dX3_value_183 (pc' := 6) (by decide) ?_
              refine x_drop_6 ?_
              exact ih _ _ _ hw
          · refine x_iload_6 hg dX3_value_60 rfl ?_
            refine x_goto hg dX3_value_62 (pc' := 87) (by decide) ?_
            refine x_iast hg (kTextS hk) (lnTextS hk) dX3_value_87 rfl hw (fun s1 hw => ?_)
            refine x_iinc_4 hg dX3_value_88 ic_1 rfl rfl rfl ?_
            refine x_goto hg dX3_value_91 (pc' := 180) (by decide) ?_
            refine x_iinc_5 hg dX3_value_180 ic_1 rfl rfl rfl ?_
            refine x_goto hg dX3_value_183 (pc' := 6) (by decide) ?_
            refine x_drop_6 ?_
            exact ih _ _ _ hw
        · refine x_ic hg dX3_value_47 ic_0 rfl ?_
          exact x_ret hg dX3_value_48 hw
set_option maxRecDepth 100000 in
set_option maxHeartbeats 4000000 in
theorem xText_value {w : Wc} (l : Launch) {k : Nat} {a1 : Int32} {a2 : Int32} {a3 : Int32} (hk : kd shC k = 4) {s0 : Sg} {P : Int32 → Sg → Prop} (hw : wText_value k a1 a2 a3 s0 P) : CI shC w l 2 (.code yX3_value cX3_value 7 (some .int)) yX3_value [.ref (ad w k), .int a1, .int a2, .int a3] s0 P := by
  refine ci_of_i (own := "BagBottom$Text") (ls0 := [some (.ref (ad w k)), some (.int a1), some (.int a2), some (.int a3), none, none, none]) rfl pn_X3 rfl rfl (fun g el hg => ?_)
  unfold wText_value at hw
  refine x_ic hg dX3_value_0 ic_0 rfl ?_
  refine x_istore_4 hg dX3_value_1 rfl rfl rfl ?_
  refine x_ic hg dX3_value_3 ic_0 rfl ?_
  refine x_istore_5 hg dX3_value_4 rfl rfl rfl ?_
  obtain ⟨N1, hw⟩ := hw
  refine xText_value_6 hg hk rfl (fun v1 s1 hw => ?_) _ _ _ _ hw
  · refine x_iload_4 hg dX3_value_186 rfl ?_
    refine x_if_le hg dX3_value_188 (tg := 200) (by decide) rfl hw (fun hw => ?_) (fun hw => ?_)
    · refine x_ic hg dX3_value_200 ic_0 rfl ?_
      exact x_ret hg dX3_value_201 hw
    · refine x_aload_0 hg dX3_value_191 rfl ?_
      refine get_X3_2 hg hk fl_X3_23 dX3_value_192 rfl (k2 := (k + 5)) rfl ?_
      refine x_ic hg dX3_value_195 ic_0 rfl ?_
      refine x_ialdc hg (kTextS hk) (lnTextS hk) vi_0_60 ix_0 dX3_value_196 rfl ?_
      refine x_goto hg dX3_value_197 (pc' := 201) (by decide) ?_
      exact x_ret hg dX3_value_201 hw
def wText_copy (k : Nat) (k1 : Nat) (s0 : Sg) (P : Sg → Prop) : Prop := (wRow_copy ((k + 1)) ((k1 + 1)) s0 (fun (s1 : Sg) => P s1))
set_option maxRecDepth 100000 in
set_option maxHeartbeats 4000000 in
theorem xText_copy {w : Wc} (l : Launch) {k : Nat} {k1 : Nat} (hk : kd shC k = 4) (hk1 : kd shC k1 = 4) {s0 : Sg} {P : Sg → Prop} (hw : wText_copy k k1 s0 P) : CV shC w l 2 (.code yX3_copy cX3_copy 2 none) yX3_copy [.ref (ad w k), .ref (ad w k1)] s0 P := by
  refine ci_of_v (own := "BagBottom$Text") (ls0 := [some (.ref (ad w k)), some (.ref (ad w k1))]) rfl pn_X3 rfl rfl (fun g el hg => ?_)
  unfold wText_copy at hw
  refine x_aload_0 hg dX3_copy_0 rfl ?_
  refine get_X3_0 hg hk fl_X3_14 dX3_copy_1 rfl (k2 := (k + 1)) rfl ?_
  refine x_aload_1 hg dX3_copy_4 rfl ?_
  refine get_X3_0 hg hk1 fl_X3_14 dX3_copy_5 rfl (k2 := (k1 + 1)) rfl ?_
  refine x_callVV hg (xRow_copy (gL g) (kTextC hk) (kTextC hk1) hw) (kTextC hk) (by decide) rfl im_X1_copy se_X1_copy mi_X1_copy ml_X3_47 rfl rfl (As := [.ref (ad w (k1 + 1))]) rfl rfl rfl dX3_copy_8 rfl (fun s1 hw => ?_)
  exact x_vret hg dX3_copy_11 hw
