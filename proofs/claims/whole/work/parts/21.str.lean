def wJL1_canEncode (a0 : Int32) (s0 : Sg) (P : Int32 → Sg → Prop) : Prop := ((a0 < 0 → P 0 s0) ∧ (¬ a0 < 0 → ((255 < a0 → P 0 s0) ∧ (¬ 255 < a0 → P 1 s0))))
set_option maxRecDepth 100000 in
set_option maxHeartbeats 4000000 in
theorem xJL1_canEncode {w : Wc} (l : Launch) {a0 : Int32} {s0 : Sg} {P : Int32 → Sg → Prop} (hw : wJL1_canEncode a0 s0 P) : CI shC w l 1 (.code yJ1_canEncode_9a6ad cJ1_canEncode_9a6ad 1 (some .boolean)) yJ1_canEncode_9a6ad [.int a0] s0 P := by
  refine ci_of_z (own := "java/lang/StringLatin1") (ls0 := [some (.int a0)]) rfl pn_J1 rfl rfl (fun g el hg => ?_)
  unfold wJL1_canEncode at hw
  refine x_iload_0 hg dJ1_canEncode_9a6ad_0 rfl ?_
  refine x_if_lt hg dJ1_canEncode_9a6ad_1 (tg := 15) (by decide) rfl hw (fun hw => ?_) (fun hw => ?_)
  · refine x_ic hg dJ1_canEncode_9a6ad_15 ic_0 rfl ?_
    exact x_zret hg dJ1_canEncode_9a6ad_16 (by decide) hw
  · refine x_iload_0 hg dJ1_canEncode_9a6ad_4 rfl ?_
    refine x_si hg dJ1_canEncode_9a6ad_5 sp_255 rfl ?_
    refine x_icmp_gt hg dJ1_canEncode_9a6ad_8 (tg := 15) (by decide) rfl hw (fun hw => ?_) (fun hw => ?_)
    · refine x_ic hg dJ1_canEncode_9a6ad_15 ic_0 rfl ?_
      exact x_zret hg dJ1_canEncode_9a6ad_16 (by decide) hw
    · refine x_ic hg dJ1_canEncode_9a6ad_11 ic_1 rfl ?_
      refine x_goto hg dJ1_canEncode_9a6ad_12 (pc' := 16) (by decide) ?_
      exact x_zret hg dJ1_canEncode_9a6ad_16 (by decide) hw
def wJL1_indexOfChar_7 (f0 : Int32) (f3 : Int32) (f4 : Int32) (P : Int32 → Sg → Prop) (K31 : Sg → Prop) : Nat → Int32 → Sg → Prop
  | 0, _, _ => False
  | n + 1, a5, s0 => ((f3 ≤ a5 → K31  s0) ∧ (¬ f3 ≤ a5 → (vp_in a5 (txN.getD (ix f0) 0) ∧ ((¬ ((txB.getD (ix f0) []).getD (ix a5) 0) = f4 → wJL1_indexOfChar_7 f0 f3 f4 P K31 n ((a5 + 1)) s0) ∧ (((txB.getD (ix f0) []).getD (ix a5) 0) = f4 → P a5 s0)))))
def wJL1_indexOfChar (k0 : Int32) (a1 : Int32) (a2 : Int32) (a3 : Int32) (s0 : Sg) (P : Int32 → Sg → Prop) : Prop := (∃ N1 : Nat, wJL1_indexOfChar_7 k0 a3 ((Int8.toInt32 (Int32.toInt8 a1))) P (fun  (s1 : Sg) => P ((-1)) s1) N1 a2 s0)
set_option maxRecDepth 100000 in
set_option maxHeartbeats 4000000 in
theorem xJL1_indexOfChar_7 {w : Wc} {g : Gx} {Q : State → Prop} {f0 : Int32} {f3 : Int32} {f4 : Int32} {P : Int32 → Sg → Prop} {K31 : Sg → Prop} (hg : OK shC w g 1 cJ1_indexOfChar_4cfef "java/lang/StringLatin1" 6 (some .int)) (hf0 : vp_in f0 10) (hQ : Q = QI shC w g P) (hK31 : ∀ (s0 : Sg), K31  s0 → X shC w g Q 31 [none, none, none, none, none, none] [] s0) : ∀ (n : Nat) (a5 : Int32) (s0 : Sg), wJL1_indexOfChar_7 f0 f3 f4 P K31 n a5 s0 → X shC w g Q 7 [some (.ref (sV w (ix f0))), none, none, some (.int f3), some (.int f4), some (.int a5)] [] s0 := by
  subst hQ
  intro n
  induction n with
  | zero =>
    intro a5 s0 hw
    exact hw.elim
  | succ n ih =>
    intro a5 s0 hw
    rw [wJL1_indexOfChar_7] at hw
    refine x_iload_5 hg dJ1_indexOfChar_4cfef_7 rfl ?_
    refine x_iload_3 hg dJ1_indexOfChar_4cfef_9 rfl ?_
    refine x_icmp_ge hg dJ1_indexOfChar_4cfef_10 (tg := 31) (by decide) rfl hw (fun hw => ?_) (fun hw => ?_)
    · refine x_drop_0 ?_
      refine x_drop_3 ?_
      refine x_drop_4 ?_
      refine x_drop_5 ?_
      exact hK31  _ hw
    · refine x_aload_0 hg dJ1_indexOfChar_4cfef_13 rfl ?_
      refine x_iload_5 hg dJ1_indexOfChar_4cfef_14 rfl ?_
      refine x_bald hg hf0 dJ1_indexOfChar_4cfef_16 rfl hw (fun hw => ?_)
      refine x_iload_4 hg dJ1_indexOfChar_4cfef_17 rfl ?_
      refine x_icmp_ne hg dJ1_indexOfChar_4cfef_19 (tg := 25) (by decide) rfl hw (fun hw => ?_) (fun hw => ?_)
      · refine x_iinc_5 hg dJ1_indexOfChar_4cfef_25 ic_1 rfl rfl rfl ?_
        refine x_goto hg dJ1_indexOfChar_4cfef_28 (pc' := 7) (by decide) ?_
        exact ih _ _ hw
      · refine x_iload_5 hg dJ1_indexOfChar_4cfef_22 rfl ?_
        exact x_ret hg dJ1_indexOfChar_4cfef_24 hw
set_option maxRecDepth 100000 in
set_option maxHeartbeats 4000000 in
theorem xJL1_indexOfChar {w : Wc} (l : Launch) {k0 : Int32} {a1 : Int32} {a2 : Int32} {a3 : Int32} (hk0 : vp_in k0 10) {s0 : Sg} {P : Int32 → Sg → Prop} (hw : wJL1_indexOfChar k0 a1 a2 a3 s0 P) : CI shC w l 1 (.code yJ1_indexOfChar_4cfef cJ1_indexOfChar_4cfef 6 (some .int)) yJ1_indexOfChar_4cfef [.ref (sV w (ix k0)), .int a1, .int a2, .int a3] s0 P := by
  refine ci_of_i (own := "java/lang/StringLatin1") (ls0 := [some (.ref (sV w (ix k0))), some (.int a1), some (.int a2), some (.int a3), none, none]) rfl pn_J1 rfl rfl (fun g el hg => ?_)
  unfold wJL1_indexOfChar at hw
  refine x_iload_1 hg dJ1_indexOfChar_4cfef_0 rfl ?_
  refine x_i2b hg dJ1_indexOfChar_4cfef_1 rfl ?_
  refine x_istore_4 hg dJ1_indexOfChar_4cfef_2 rfl rfl rfl ?_
  refine x_iload_2 hg dJ1_indexOfChar_4cfef_4 rfl ?_
  refine x_istore_5 hg dJ1_indexOfChar_4cfef_5 rfl rfl rfl ?_
  refine x_drop_1 ?_
  refine x_drop_2 ?_
  obtain ⟨N1, hw⟩ := hw
  refine xJL1_indexOfChar_7 hg  hk0 rfl (fun  s1 hw => ?_) _ _ _ hw
  · refine x_ic hg dJ1_indexOfChar_4cfef_31 ic_m1 rfl ?_
    exact x_ret hg dJ1_indexOfChar_4cfef_32 hw
def wJL1_indexOf (k0 : Int32) (a1 : Int32) (a2 : Int32) (a3 : Int32) (s0 : Sg) (P : Int32 → Sg → Prop) : Prop := (wJL1_canEncode a1 s0 (fun (r1 : Int32) (s1 : Sg) => ((¬ r1 = 0 → (∀ x1 : Int32, x1 = (if (nI (txN.getD (ix k0) 0)) < a3 then (nI (txN.getD (ix k0) 0)) else a3) → (((if a2 < 0 then 0 else a2) < x1 → (wJL1_indexOfChar k0 a1 ((if a2 < 0 then 0 else a2)) x1 s1 (fun (r2 : Int32) (s2 : Sg) => P r2 s2))) ∧ (¬ (if a2 < 0 then 0 else a2) < x1 → P ((-1)) s1)))) ∧ (r1 = 0 → P ((-1)) s1))))
set_option maxRecDepth 100000 in
set_option maxHeartbeats 4000000 in
theorem xJL1_indexOf {w : Wc} (l : Launch) {k0 : Int32} {a1 : Int32} {a2 : Int32} {a3 : Int32} (hk0 : vp_in k0 10) {s0 : Sg} {P : Int32 → Sg → Prop} (hw : wJL1_indexOf k0 a1 a2 a3 s0 P) : CI shC w l 2 (.code yJ1_indexOf_4cfef cJ1_indexOf_4cfef 4 (some .int)) yJ1_indexOf_4cfef [.ref (sV w (ix k0)), .int a1, .int a2, .int a3] s0 P := by
  refine ci_of_i (own := "java/lang/StringLatin1") (ls0 := [some (.ref (sV w (ix k0))), some (.int a1), some (.int a2), some (.int a3)]) rfl pn_J1 rfl rfl (fun g el hg => ?_)
  unfold wJL1_indexOf at hw
  refine x_iload_1 hg dJ1_indexOf_4cfef_0 rfl ?_
  refine x_callSI hg (xJL1_canEncode (gL g)  hw) sm_J1_canEncode_9a6ad mi_J1_canEncode_9a6ad ml_J1_88 rfl rfl (As := [.int a1]) rfl rfl rfl dJ1_indexOf_4cfef_1 rfl (fun r1 s1 hw => ?_)
  refine x_if_ne hg dJ1_indexOf_4cfef_4 (tg := 9) (by decide) rfl hw (fun hw => ?_) (fun hw => ?_)
  · refine x_iload_2 hg dJ1_indexOf_4cfef_9 rfl ?_
    refine x_ic hg dJ1_indexOf_4cfef_10 ic_0 rfl ?_
    refine x_mmax hg ml_J1_92 rfl rfl dJ1_indexOf_4cfef_11 rfl ?_
    refine x_istore_2 hg dJ1_indexOf_4cfef_14 rfl rfl rfl ?_
    refine x_iload_3 hg dJ1_indexOf_4cfef_15 rfl ?_
    refine x_aload_0 hg dJ1_indexOf_4cfef_16 rfl ?_
    refine x_blen hg hk0 dJ1_indexOf_4cfef_17 rfl ?_
    refine x_mmin hg ml_J1_38 rfl rfl dJ1_indexOf_4cfef_18 rfl ?_
    refine x_nm hw (fun x1 hw => ?_)
    refine x_istore_3 hg dJ1_indexOf_4cfef_21 rfl rfl rfl ?_
    refine x_iload_2 hg dJ1_indexOf_4cfef_22 rfl ?_
    refine x_iload_3 hg dJ1_indexOf_4cfef_23 rfl ?_
    refine x_icmp_lt hg dJ1_indexOf_4cfef_24 (tg := 29) (by decide) rfl hw (fun hw => ?_) (fun hw => ?_)
    · refine x_aload_0 hg dJ1_indexOf_4cfef_29 rfl ?_
      refine x_iload_1 hg dJ1_indexOf_4cfef_30 rfl ?_
      refine x_iload_2 hg dJ1_indexOf_4cfef_31 rfl ?_
      refine x_iload_3 hg dJ1_indexOf_4cfef_32 rfl ?_
      refine x_callSI hg (xJL1_indexOfChar (gL g) hk0 hw) sm_J1_indexOfChar_4cfef mi_J1_indexOfChar_4cfef ml_J1_95 rfl rfl (As := [.ref (sV w (ix k0)), .int a1, .int (if a2 < 0 then 0 else a2), .int x1]) rfl rfl rfl dJ1_indexOf_4cfef_33 rfl (fun r2 s2 hw => ?_)
      exact x_ret hg dJ1_indexOf_4cfef_36 hw
    · refine x_ic hg dJ1_indexOf_4cfef_27 ic_m1 rfl ?_
      exact x_ret hg dJ1_indexOf_4cfef_28 hw
  · refine x_ic hg dJ1_indexOf_4cfef_7 ic_m1 rfl ?_
    exact x_ret hg dJ1_indexOf_4cfef_8 hw
def wJStr_isLatin1 (k : Int32) (s0 : Sg) (P : Int32 → Sg → Prop) : Prop := P 1 s0
set_option maxRecDepth 100000 in
set_option maxHeartbeats 4000000 in
theorem xJStr_isLatin1 {w : Wc} (l : Launch) {k : Int32} (hk : vp_in k 10) {s0 : Sg} {P : Int32 → Sg → Prop} (hw : wJStr_isLatin1 k s0 P) : CI shC w l 1 (.code yJ0_isLatin1_aae02 cJ0_isLatin1_aae02 1 (some .boolean)) yJ0_isLatin1_aae02 [.ref (sa w k)] s0 P := by
  refine ci_of_z (own := "java/lang/String") (ls0 := [some (.ref (sa w k))]) rfl pn_J0 rfl rfl (fun g el hg => ?_)
  unfold wJStr_isLatin1 at hw
  refine x_getsC hg fl_J0_38 dJ0_isLatin1_aae02_0 rfl ?_
  refine x_if_eq hg dJ0_isLatin1_aae02_3 (tg := 17) (by decide) rfl ⟨fun h => (show False from absurd h (by decide)), fun _ => hw⟩ (fun hw => False.elim hw) (fun hw => ?_)
  refine x_aload_0 hg dJ0_isLatin1_aae02_6 rfl ?_
  refine x_scod hg hk fl_J0_15 dJ0_isLatin1_aae02_7 rfl ?_
  refine x_if_ne hg dJ0_isLatin1_aae02_10 (tg := 17) (by decide) rfl ⟨fun h => (show False from absurd h (by decide)), fun _ => hw⟩ (fun hw => False.elim hw) (fun hw => ?_)
  refine x_ic hg dJ0_isLatin1_aae02_13 ic_1 rfl ?_
  refine x_goto hg dJ0_isLatin1_aae02_14 (pc' := 18) (by decide) ?_
  exact x_zret hg dJ0_isLatin1_aae02_18 (by decide) hw
def wJStr_coder (k : Int32) (s0 : Sg) (P : Int32 → Sg → Prop) : Prop := P 0 s0
set_option maxRecDepth 100000 in
set_option maxHeartbeats 4000000 in
theorem xJStr_coder {w : Wc} (l : Launch) {k : Int32} (hk : vp_in k 10) {s0 : Sg} {P : Int32 → Sg → Prop} (hw : wJStr_coder k s0 P) : CI shC w l 1 (.code yJ0_coder_7d493 cJ0_coder_7d493 1 (some .byte)) yJ0_coder_7d493 [.ref (sa w k)] s0 P := by
  refine ci_of_b (own := "java/lang/String") (ls0 := [some (.ref (sa w k))]) rfl pn_J0 rfl rfl (fun g el hg => ?_)
  unfold wJStr_coder at hw
  refine x_getsC hg fl_J0_38 dJ0_coder_7d493_0 rfl ?_
  refine x_if_eq hg dJ0_coder_7d493_3 (tg := 13) (by decide) rfl ⟨fun h => (show False from absurd h (by decide)), fun _ => hw⟩ (fun hw => False.elim hw) (fun hw => ?_)
  refine x_aload_0 hg dJ0_coder_7d493_6 rfl ?_
  refine x_scod hg hk fl_J0_15 dJ0_coder_7d493_7 rfl ?_
  refine x_goto hg dJ0_coder_7d493_10 (pc' := 14) (by decide) ?_
  exact x_bret hg dJ0_coder_7d493_14 rfl hw
def wJStr_length (k : Int32) (s0 : Sg) (P : Int32 → Sg → Prop) : Prop := (wJStr_coder k s0 (fun (r1 : Int32) (s1 : Sg) => P (((nI (txN.getD (ix k) 0)) >>> (r1 &&& 31))) s1))
set_option maxRecDepth 100000 in
set_option maxHeartbeats 4000000 in
theorem xJStr_length {w : Wc} (l : Launch) {k : Int32} (hk : vp_in k 10) {s0 : Sg} {P : Int32 → Sg → Prop} (hw : wJStr_length k s0 P) : CI shC w l 2 (.code yJ0_length_8abf5 cJ0_length_8abf5 1 (some .int)) yJ0_length_8abf5 [.ref (sa w k)] s0 P := by
  refine ci_of_i (own := "java/lang/String") (ls0 := [some (.ref (sa w k))]) rfl pn_J0 rfl rfl (fun g el hg => ?_)
  unfold wJStr_length at hw
  refine x_aload_0 hg dJ0_length_8abf5_0 rfl ?_
  refine x_sval hg hk fl_J0_9 dJ0_length_8abf5_1 rfl ?_
  refine x_blen hg hk dJ0_length_8abf5_4 rfl ?_
  refine x_aload_0 hg dJ0_length_8abf5_5 rfl ?_
  refine x_callTI hg (xJStr_coder (gL g) hk hw) hk im_J0_coder_7d493 se_J0_coder_7d493 mi_J0_coder_7d493 ml_J0_335 rfl rfl (As := []) rfl rfl rfl dJ0_length_8abf5_6 rfl (fun r1 s1 hw => ?_)
  refine x_ishr hg dJ0_length_8abf5_9 rfl ?_
  exact x_ret hg dJ0_length_8abf5_10 hw
def wJStr_indexOf2 (k : Int32) (a1 : Int32) (a2 : Int32) (s0 : Sg) (P : Int32 → Sg → Prop) : Prop := (wJStr_isLatin1 k s0 (fun (r1 : Int32) (s1 : Sg) => ((r1 = 0 → (wJStr_length k s1 (fun (r2 : Int32) (s2 : Sg) => False))) ∧ (¬ r1 = 0 → (wJStr_length k s1 (fun (r2 : Int32) (s2 : Sg) => (wJL1_indexOf k a1 a2 r2 s2 (fun (r3 : Int32) (s3 : Sg) => P r3 s3))))))))
set_option maxRecDepth 100000 in
set_option maxHeartbeats 4000000 in
theorem xJStr_indexOf2 {w : Wc} (l : Launch) {k : Int32} {a1 : Int32} {a2 : Int32} (hk : vp_in k 10) {s0 : Sg} {P : Int32 → Sg → Prop} (hw : wJStr_indexOf2 k a1 a2 s0 P) : CI shC w l 3 (.code yJ0_indexOf_7cf53 cJ0_indexOf_7cf53 3 (some .int)) yJ0_indexOf_7cf53 [.ref (sa w k), .int a1, .int a2] s0 P := by
  refine ci_of_i (own := "java/lang/String") (ls0 := [some (.ref (sa w k)), some (.int a1), some (.int a2)]) rfl pn_J0 rfl rfl (fun g el hg => ?_)
  unfold wJStr_indexOf2 at hw
  refine x_aload_0 hg dJ0_indexOf_7cf53_0 rfl ?_
  refine x_callTI hg (xJStr_isLatin1 (gL g) hk hw) hk im_J0_isLatin1_aae02 se_J0_isLatin1_aae02 mi_J0_isLatin1_aae02 ml_J0_492 rfl rfl (As := []) rfl rfl rfl dJ0_indexOf_7cf53_1 rfl (fun r1 s1 hw => ?_)
  refine x_if_eq hg dJ0_indexOf_7cf53_4 (tg := 23) (by decide) rfl hw (fun hw => ?_) (fun hw => ?_)
  · refine x_aload_0 hg dJ0_indexOf_7cf53_23 rfl ?_
    refine x_sval hg hk fl_J0_9 dJ0_indexOf_7cf53_24 rfl ?_
    refine x_iload_1 hg dJ0_indexOf_7cf53_27 rfl ?_
    refine x_iload_2 hg dJ0_indexOf_7cf53_28 rfl ?_
    refine x_aload_0 hg dJ0_indexOf_7cf53_29 rfl ?_
    refine x_callTI hg (xJStr_length (gL g) hk hw) hk im_J0_length_8abf5 se_J0_length_8abf5 mi_J0_length_8abf5 ml_J0_505 rfl rfl (As := []) rfl rfl rfl dJ0_indexOf_7cf53_30 rfl (fun r2 s2 hw => ?_)
    exact hw.elim
  · refine x_aload_0 hg dJ0_indexOf_7cf53_7 rfl ?_
    refine x_sval hg hk fl_J0_9 dJ0_indexOf_7cf53_8 rfl ?_
    refine x_iload_1 hg dJ0_indexOf_7cf53_11 rfl ?_
    refine x_iload_2 hg dJ0_indexOf_7cf53_12 rfl ?_
    refine x_aload_0 hg dJ0_indexOf_7cf53_13 rfl ?_
    refine x_callTI hg (xJStr_length (gL g) hk hw) hk im_J0_length_8abf5 se_J0_length_8abf5 mi_J0_length_8abf5 ml_J0_505 rfl rfl (As := []) rfl rfl rfl dJ0_indexOf_7cf53_14 rfl (fun r2 s2 hw => ?_)
    refine x_callSI hg (xJL1_indexOf (gL g) hk hw) sm_J1_indexOf_4cfef mi_J1_indexOf_4cfef ml_J0_637 rfl rfl (As := [.ref (sV w (ix k)), .int a1, .int a2, .int r2]) rfl rfl rfl dJ0_indexOf_7cf53_17 rfl (fun r3 s3 hw => ?_)
    refine x_goto hg dJ0_indexOf_7cf53_20 (pc' := 36) (by decide) ?_
    exact x_ret hg dJ0_indexOf_7cf53_36 hw
def wJStr_indexOf (k : Int32) (a1 : Int32) (s0 : Sg) (P : Int32 → Sg → Prop) : Prop := (wJStr_indexOf2 k a1 0 s0 (fun (r1 : Int32) (s1 : Sg) => P r1 s1))
set_option maxRecDepth 100000 in
set_option maxHeartbeats 4000000 in
theorem xJStr_indexOf {w : Wc} (l : Launch) {k : Int32} {a1 : Int32} (hk : vp_in k 10) {s0 : Sg} {P : Int32 → Sg → Prop} (hw : wJStr_indexOf k a1 s0 P) : CI shC w l 4 (.code yJ0_indexOf_0f7a4 cJ0_indexOf_0f7a4 2 (some .int)) yJ0_indexOf_0f7a4 [.ref (sa w k), .int a1] s0 P := by
  refine ci_of_i (own := "java/lang/String") (ls0 := [some (.ref (sa w k)), some (.int a1)]) rfl pn_J0 rfl rfl (fun g el hg => ?_)
  unfold wJStr_indexOf at hw
  refine x_aload_0 hg dJ0_indexOf_0f7a4_0 rfl ?_
  refine x_iload_1 hg dJ0_indexOf_0f7a4_1 rfl ?_
  refine x_ic hg dJ0_indexOf_0f7a4_2 ic_0 rfl ?_
  refine x_callTI hg (xJStr_indexOf2 (gL g) hk hw) hk im_J0_indexOf_7cf53 se_J0_indexOf_7cf53 mi_J0_indexOf_7cf53 ml_J0_633 rfl rfl (As := [.int a1, .int 0]) rfl rfl rfl dJ0_indexOf_0f7a4_3 rfl (fun r1 s1 hw => ?_)
  exact x_ret hg dJ0_indexOf_0f7a4_6 hw
