def wM_error (a1 : Int32) (s0 : Sg) (P : Int32 → Sg → Prop) : Prop := (vp_in (((-1000000000) - a1)) 7 ∧ (vp_in (((-1000000000) - a1)) 7 ∧ ∀ s1 : Sg, s1 = u2 s0 4 (ix (((-1000000000) - a1))) (((s0 4 (ix (((-1000000000) - a1)))) + 1)) → P a1 s1))
set_option maxRecDepth 100000 in
set_option maxHeartbeats 4000000 in
theorem xM_error {w : Wc} (l : Launch) {a1 : Int32} {s0 : Sg} {P : Int32 → Sg → Prop} (hw : wM_error a1 s0 P) : CI shM w l 1 (.code yX8_error cX8_error 2 (some .int)) yX8_error [.ref (ad w 0), .int a1] s0 P := by
  refine ci_of_i (own := "BagBottomModel") (ls0 := [some (.ref (ad w 0)), some (.int a1)]) rfl pn_X8 rfl rfl (fun g el hg => ?_)
  unfold wM_error at hw
  refine x_aload_0 hg dX8_error_0 rfl ?_
  refine get_X8_4 hg kM_0 fl_X8_19 dX8_error_1 rfl (k2 := 4) rfl ?_
  refine x_ldc hg kc_X8_52 dX8_error_4 rfl ?_
  refine x_iload_1 hg dX8_error_6 rfl ?_
  refine x_isub hg dX8_error_7 rfl ?_
  refine x_dup2 hg dX8_error_8 rfl rfl rfl ?_
  refine x_iald hg kM_4 rfl dX8_error_9 rfl hw (fun hw => ?_)
  refine x_ic hg dX8_error_10 ic_1 rfl ?_
  refine x_iadd hg dX8_error_11 rfl ?_
  refine x_iast hg kM_4 rfl dX8_error_12 rfl hw (fun s1 hw => ?_)
  refine x_iload_1 hg dX8_error_13 rfl ?_
  exact x_ret hg dX8_error_14 hw
def wM_in (a0 : Int32) (a1 : Int32) (a2 : Int32) (s0 : Sg) (P : Int32 → Sg → Prop) : Prop := ((a0 < a1 → P 0 s0) ∧ (¬ a0 < a1 → ((a2 < a0 → P 0 s0) ∧ (¬ a2 < a0 → P 1 s0))))
set_option maxRecDepth 100000 in
set_option maxHeartbeats 4000000 in
theorem xM_in {w : Wc} (l : Launch) {a0 : Int32} {a1 : Int32} {a2 : Int32} {s0 : Sg} {P : Int32 → Sg → Prop} (hw : wM_in a0 a1 a2 s0 P) : CI shM w l 1 (.code yX8_in cX8_in 3 (some .boolean)) yX8_in [.int a0, .int a1, .int a2] s0 P := by
  refine ci_of_z (own := "BagBottomModel") (ls0 := [some (.int a0), some (.int a1), some (.int a2)]) rfl pn_X8 rfl rfl (fun g el hg => ?_)
  unfold wM_in at hw
  refine x_iload_0 hg dX8_in_0 rfl ?_
  refine x_iload_1 hg dX8_in_1 rfl ?_
  refine x_icmp_lt hg dX8_in_2 (tg := 14) (by decide) rfl hw (fun hw => ?_) (fun hw => ?_)
  · refine x_ic hg dX8_in_14 ic_0 rfl ?_
    exact x_zret hg dX8_in_15 (by decide) hw
  · refine x_iload_0 hg dX8_in_5 rfl ?_
    refine x_iload_2 hg dX8_in_6 rfl ?_
    refine x_icmp_gt hg dX8_in_7 (tg := 14) (by decide) rfl hw (fun hw => ?_) (fun hw => ?_)
    · refine x_ic hg dX8_in_14 ic_0 rfl ?_
      exact x_zret hg dX8_in_15 (by decide) hw
    · refine x_ic hg dX8_in_10 ic_1 rfl ?_
      refine x_goto hg dX8_in_11 (pc' := 15) (by decide) ?_
      exact x_zret hg dX8_in_15 (by decide) hw
def wM_held (a0 : Int32) (a1 : Int32) (a2 : Int32) (s0 : Sg) (P : Int32 → Sg → Prop) : Prop := ((a1 ≤ a0 → ((a0 ≤ a2 → P a0 s0) ∧ (¬ a0 ≤ a2 → P a2 s0))) ∧ (¬ a1 ≤ a0 → P a1 s0))
set_option maxRecDepth 100000 in
set_option maxHeartbeats 4000000 in
theorem xM_held {w : Wc} (l : Launch) {a0 : Int32} {a1 : Int32} {a2 : Int32} {s0 : Sg} {P : Int32 → Sg → Prop} (hw : wM_held a0 a1 a2 s0 P) : CI shM w l 1 (.code yX8_held cX8_held 3 (some .int)) yX8_held [.int a0, .int a1, .int a2] s0 P := by
  refine ci_of_i (own := "BagBottomModel") (ls0 := [some (.int a0), some (.int a1), some (.int a2)]) rfl pn_X8 rfl rfl (fun g el hg => ?_)
  unfold wM_held at hw
  refine x_iload_0 hg dX8_held_0 rfl ?_
  refine x_iload_1 hg dX8_held_1 rfl ?_
  refine x_icmp_ge hg dX8_held_2 (tg := 9) (by decide) rfl hw (fun hw => ?_) (fun hw => ?_)
  · refine x_iload_0 hg dX8_held_9 rfl ?_
    refine x_iload_2 hg dX8_held_10 rfl ?_
    refine x_icmp_le hg dX8_held_11 (tg := 18) (by decide) rfl hw (fun hw => ?_) (fun hw => ?_)
    · refine x_iload_0 hg dX8_held_18 rfl ?_
      exact x_ret hg dX8_held_19 hw
    · refine x_iload_2 hg dX8_held_14 rfl ?_
      refine x_goto hg dX8_held_15 (pc' := 19) (by decide) ?_
      exact x_ret hg dX8_held_19 hw
  · refine x_iload_1 hg dX8_held_5 rfl ?_
    refine x_goto hg dX8_held_6 (pc' := 19) (by decide) ?_
    exact x_ret hg dX8_held_19 hw
def wM_copyAll_2 (k0 : Nat) (k1 : Nat) (K21 : Sg → Prop) : Nat → Int32 → Sg → Prop
  | 0, _, _ => False
  | n + 1, a2, s0 => ((379 ≤ a2 → K21  s0) ∧ (¬ 379 ≤ a2 → (vp_in a2 379 ∧ (vp_in a2 379 ∧ ∀ s1 : Sg, s1 = u2 s0 k1 (ix a2) ((s0 k0 (ix a2))) → wM_copyAll_2 k0 k1 K21 n ((a2 + 1)) s1))))
def wM_copyAll (k0 : Nat) (k1 : Nat) (s0 : Sg) (P : Sg → Prop) : Prop := (∃ N1 : Nat, wM_copyAll_2 k0 k1 (fun  (s1 : Sg) => P s1) N1 0 s0)
set_option maxRecDepth 100000 in
set_option maxHeartbeats 4000000 in
theorem xM_copyAll_2 {w : Wc} {g : Gx} {Q : State → Prop} {k0 : Nat} {k1 : Nat} {K21 : Sg → Prop} (hg : OK shM w g 1 cX8_copyAll "BagBottomModel" 3 none) (hk0 : kd shM k0 = 20) (hlk0 : ln shM k0 = 379) (hk1 : kd shM k1 = 20) (hlk1 : ln shM k1 = 379) (hK21 : ∀ (s0 : Sg), K21  s0 → X shM w g Q 21 [none, none, none] [] s0) : ∀ (n : Nat) (a2 : Int32) (s0 : Sg), wM_copyAll_2 k0 k1 K21 n a2 s0 → X shM w g Q 2 [some (.ref (ad w k0)), some (.ref (ad w k1)), some (.int a2)] [] s0 := by
  intro n
  induction n with
  | zero =>
    intro a2 s0 hw
    exact hw.elim
  | succ n ih =>
    intro a2 s0 hw
    rw [wM_copyAll_2] at hw
    refine x_iload_2 hg dX8_copyAll_2 rfl ?_
    refine x_si hg dX8_copyAll_3 sp_379 rfl ?_
    refine x_icmp_ge hg dX8_copyAll_6 (tg := 21) (by decide) rfl hw (fun hw => ?_) (fun hw => ?_)
    · refine x_drop_0 ?_
      refine x_drop_1 ?_
      refine x_drop_2 ?_
      exact hK21  _ hw
    · refine x_aload_1 hg dX8_copyAll_9 rfl ?_
      refine x_iload_2 hg dX8_copyAll_10 rfl ?_
      refine x_aload_0 hg dX8_copyAll_11 rfl ?_
      refine x_iload_2 hg dX8_copyAll_12 rfl ?_
      refine x_iald hg hk0 hlk0 dX8_copyAll_13 rfl hw (fun hw => ?_)
      refine x_iast hg hk1 hlk1 dX8_copyAll_14 rfl hw (fun s1 hw => ?_)
      refine x_iinc_2 hg dX8_copyAll_15 ic_1 rfl rfl rfl ?_
      refine x_goto hg dX8_copyAll_18 (pc' := 2) (by decide) ?_
      exact ih _ _ hw
set_option maxRecDepth 100000 in
set_option maxHeartbeats 4000000 in
theorem xM_copyAll {w : Wc} (l : Launch) {k0 : Nat} {k1 : Nat} (hk0 : kd shM k0 = 20) (hlk0 : ln shM k0 = 379) (hk1 : kd shM k1 = 20) (hlk1 : ln shM k1 = 379) {s0 : Sg} {P : Sg → Prop} (hw : wM_copyAll k0 k1 s0 P) : CV shM w l 1 (.code yX8_copyAll cX8_copyAll 3 none) yX8_copyAll [.ref (ad w k0), .ref (ad w k1)] s0 P := by
  refine ci_of_v (own := "BagBottomModel") (ls0 := [some (.ref (ad w k0)), some (.ref (ad w k1)), none]) rfl pn_X8 rfl rfl (fun g el hg => ?_)
  unfold wM_copyAll at hw
  refine x_ic hg dX8_copyAll_0 ic_0 rfl ?_
  refine x_istore_2 hg dX8_copyAll_1 rfl rfl rfl ?_
  obtain ⟨N1, hw⟩ := hw
  refine xM_copyAll_2 hg hk0 hlk0 hk1 hlk1 (fun  s1 hw => ?_) _ _ _ hw
  · exact x_vret hg dX8_copyAll_21 hw
def wM_thinks (s0 : Sg) (P : Sg → Prop) : Prop := (wM_copyAll 1 3 s0 (fun (s1 : Sg) => P s1))
set_option maxRecDepth 100000 in
set_option maxHeartbeats 4000000 in
theorem xM_thinks {w : Wc} (l : Launch) {s0 : Sg} {P : Sg → Prop} (hw : wM_thinks  s0 P) : CV shM w l 2 (.code yX8_thinks cX8_thinks 1 none) yX8_thinks [.ref (ad w 0)] s0 P := by
  refine ci_of_v (own := "BagBottomModel") (ls0 := [some (.ref (ad w 0))]) rfl pn_X8 rfl rfl (fun g el hg => ?_)
  unfold wM_thinks at hw
  refine x_aload_0 hg dX8_thinks_0 rfl ?_
  refine get_X8_0 hg kM_0 fl_X8_9 dX8_thinks_1 rfl (k2 := 1) rfl ?_
  refine x_aload_0 hg dX8_thinks_4 rfl ?_
  refine get_X8_2 hg kM_0 fl_X8_16 dX8_thinks_5 rfl (k2 := 3) rfl ?_
  refine x_callSV hg (xM_copyAll (gL g) kM_1 rfl kM_3 rfl hw) sm_X8_copyAll mi_X8_copyAll ml_X8_53 rfl rfl (As := [.ref (ad w 1), .ref (ad w 3)]) rfl rfl rfl dX8_thinks_8 rfl (fun s1 hw => ?_)
  exact x_vret hg dX8_thinks_11 hw
def wM_putsBack (s0 : Sg) (P : Sg → Prop) : Prop := (wM_copyAll 3 1 s0 (fun (s1 : Sg) => P s1))
set_option maxRecDepth 100000 in
set_option maxHeartbeats 4000000 in
theorem xM_putsBack {w : Wc} (l : Launch) {s0 : Sg} {P : Sg → Prop} (hw : wM_putsBack  s0 P) : CV shM w l 2 (.code yX8_putsBack cX8_putsBack 1 none) yX8_putsBack [.ref (ad w 0)] s0 P := by
  refine ci_of_v (own := "BagBottomModel") (ls0 := [some (.ref (ad w 0))]) rfl pn_X8 rfl rfl (fun g el hg => ?_)
  unfold wM_putsBack at hw
  refine x_aload_0 hg dX8_putsBack_0 rfl ?_
  refine get_X8_2 hg kM_0 fl_X8_16 dX8_putsBack_1 rfl (k2 := 3) rfl ?_
  refine x_aload_0 hg dX8_putsBack_4 rfl ?_
  refine get_X8_0 hg kM_0 fl_X8_9 dX8_putsBack_5 rfl (k2 := 1) rfl ?_
  refine x_callSV hg (xM_copyAll (gL g) kM_3 rfl kM_1 rfl hw) sm_X8_copyAll mi_X8_copyAll ml_X8_53 rfl rfl (As := [.ref (ad w 3), .ref (ad w 1)]) rfl rfl rfl dX8_putsBack_8 rfl (fun s1 hw => ?_)
  exact x_vret hg dX8_putsBack_11 hw
def wM_bits_4 (K20 : Int32 → Sg → Prop) : Nat → Int32 → Int32 → Sg → Prop
  | 0, _, _, _ => False
  | n + 1, a1, a2, s0 => ((a2 = 0 → K20 a1 s0) ∧ (¬ a2 = 0 → wM_bits_4 K20 n ((a1 + 1)) ((a2 &&& (a2 - 1))) s0))
def wM_bits (a0 : Int32) (s0 : Sg) (P : Int32 → Sg → Prop) : Prop := (∃ N1 : Nat, wM_bits_4 (fun (v1 : Int32) (s1 : Sg) => P v1 s1) N1 0 a0 s0)
set_option maxRecDepth 100000 in
set_option maxHeartbeats 4000000 in
theorem xM_bits_4 {w : Wc} {g : Gx} {Q : State → Prop} {K20 : Int32 → Sg → Prop} (hg : OK shM w g 1 cX8_bits "BagBottomModel" 3 (some .int)) (hK20 : ∀ (a1 : Int32) (s0 : Sg), K20 a1 s0 → X shM w g Q 20 [none, some (.int a1), none] [] s0) : ∀ (n : Nat) (a1 a2 : Int32) (s0 : Sg), wM_bits_4 K20 n a1 a2 s0 → X shM w g Q 4 [none, some (.int a1), some (.int a2)] [] s0 := by
  intro n
  induction n with
  | zero =>
    intro a1 a2 s0 hw
    exact hw.elim
  | succ n ih =>
    intro a1 a2 s0 hw
    rw [wM_bits_4] at hw
    refine x_iload_2 hg dX8_bits_4 rfl ?_
    refine x_if_eq hg dX8_bits_5 (tg := 20) (by decide) rfl hw (fun hw => ?_) (fun hw => ?_)
    · refine x_drop_2 ?_
      exact hK20 _ _ hw
    · refine x_iinc_1 hg dX8_bits_8 ic_1 rfl rfl rfl ?_
      refine x_iload_2 hg dX8_bits_11 rfl ?_
      refine x_iload_2 hg dX8_bits_12 rfl ?_
      refine x_ic hg dX8_bits_13 ic_1 rfl ?_
      refine x_isub hg dX8_bits_14 rfl ?_
      refine x_iand hg dX8_bits_15 rfl ?_
      refine x_istore_2 hg dX8_bits_16 rfl rfl rfl ?_
      refine x_goto hg dX8_bits_17 (pc' := 4) (by decide) ?_
      exact ih _ _ _ hw
set_option maxRecDepth 100000 in
set_option maxHeartbeats 4000000 in
theorem xM_bits {w : Wc} (l : Launch) {a0 : Int32} {s0 : Sg} {P : Int32 → Sg → Prop} (hw : wM_bits a0 s0 P) : CI shM w l 1 (.code yX8_bits cX8_bits 3 (some .int)) yX8_bits [.int a0] s0 P := by
  refine ci_of_i (own := "BagBottomModel") (ls0 := [some (.int a0), none, none]) rfl pn_X8 rfl rfl (fun g el hg => ?_)
  unfold wM_bits at hw
  refine x_ic hg dX8_bits_0 ic_0 rfl ?_
  refine x_istore_1 hg dX8_bits_1 rfl rfl rfl ?_
  refine x_iload_0 hg dX8_bits_2 rfl ?_
  refine x_istore_2 hg dX8_bits_3 rfl rfl rfl ?_
  refine x_drop_0 ?_
  obtain ⟨N1, hw⟩ := hw
  refine xM_bits_4 hg  (fun v1 s1 hw => ?_) _ _ _ _ hw
  · refine x_iload_1 hg dX8_bits_20 rfl ?_
    exact x_ret hg dX8_bits_21 hw
def wM_isThing (a1 : Int32) (s0 : Sg) (P : Int32 → Sg → Prop) : Prop := (wM_in a1 0 (((s0 1 2) - 1)) s0 (fun (r1 : Int32) (s1 : Sg) => ((r1 = 0 ∨ r1 = 1) ∧ P r1 s1)))
set_option maxRecDepth 100000 in
set_option maxHeartbeats 4000000 in
theorem xM_isThing {w : Wc} (l : Launch) {a1 : Int32} {s0 : Sg} {P : Int32 → Sg → Prop} (hw : wM_isThing a1 s0 P) : CI shM w l 2 (.code yX8_isThing cX8_isThing 2 (some .boolean)) yX8_isThing [.ref (ad w 0), .int a1] s0 P := by
  refine ci_of_z (own := "BagBottomModel") (ls0 := [some (.ref (ad w 0)), some (.int a1)]) rfl pn_X8 rfl rfl (fun g el hg => ?_)
  unfold wM_isThing at hw
  refine x_iload_1 hg dX8_isThing_0 rfl ?_
  refine x_ic hg dX8_isThing_1 ic_0 rfl ?_
  refine x_aload_0 hg dX8_isThing_2 rfl ?_
  refine get_X8_0 hg kM_0 fl_X8_9 dX8_isThing_3 rfl (k2 := 1) rfl ?_
  refine x_ic hg dX8_isThing_6 ic_2 rfl ?_
  refine x_ialdc hg kM_1 rfl vi_2_379 ix_2 dX8_isThing_7 rfl ?_
  refine x_ic hg dX8_isThing_8 ic_1 rfl ?_
  refine x_isub hg dX8_isThing_9 rfl ?_
  refine x_callSI hg (xM_in (gL g)  hw) sm_X8_in mi_X8_in ml_X8_57 rfl rfl (As := [.int a1, .int 0, .int ((s0 1 2) - 1)]) rfl rfl rfl dX8_isThing_10 rfl (fun r1 s1 hw => ?_)
  exact x_zret hg dX8_isThing_13 hw.1 hw.2
def wM_becomes (a1 : Int32) (a2 : Int32) (s0 : Sg) (P : Int32 → Sg → Prop) : Prop := (vp_in a1 379 ∧ (vp_in a1 379 ∧ ∀ s1 : Sg, s1 = u2 s0 1 (ix a1) a2 → P ((s0 1 (ix a1))) s1))
set_option maxRecDepth 100000 in
set_option maxHeartbeats 4000000 in
theorem xM_becomes {w : Wc} (l : Launch) {a1 : Int32} {a2 : Int32} {s0 : Sg} {P : Int32 → Sg → Prop} (hw : wM_becomes a1 a2 s0 P) : CI shM w l 1 (.code yX8_becomes cX8_becomes 4 (some .int)) yX8_becomes [.ref (ad w 0), .int a1, .int a2] s0 P := by
  refine ci_of_i (own := "BagBottomModel") (ls0 := [some (.ref (ad w 0)), some (.int a1), some (.int a2), none]) rfl pn_X8 rfl rfl (fun g el hg => ?_)
  unfold wM_becomes at hw
  refine x_aload_0 hg dX8_becomes_0 rfl ?_
  refine get_X8_0 hg kM_0 fl_X8_9 dX8_becomes_1 rfl (k2 := 1) rfl ?_
  refine x_iload_1 hg dX8_becomes_4 rfl ?_
  refine x_iald hg kM_1 rfl dX8_becomes_5 rfl hw (fun hw => ?_)
  refine x_istore_3 hg dX8_becomes_6 rfl rfl rfl ?_
  refine x_aload_0 hg dX8_becomes_7 rfl ?_
  refine get_X8_0 hg kM_0 fl_X8_9 dX8_becomes_8 rfl (k2 := 1) rfl ?_
  refine x_iload_1 hg dX8_becomes_11 rfl ?_
  refine x_iload_2 hg dX8_becomes_12 rfl ?_
  refine x_iast hg kM_1 rfl dX8_becomes_13 rfl hw (fun s1 hw => ?_)
  refine x_iload_3 hg dX8_becomes_14 rfl ?_
  exact x_ret hg dX8_becomes_15 hw
def wM_of (a1 : Int32) (a2 : Int32) (s0 : Sg) (P : Int32 → Sg → Prop) : Prop := (vp_in (((17 + (4 * a1)) + a2)) 379 ∧ P ((s0 1 (ix (((17 + (4 * a1)) + a2))))) s0)
set_option maxRecDepth 100000 in
set_option maxHeartbeats 4000000 in
theorem xM_of {w : Wc} (l : Launch) {a1 : Int32} {a2 : Int32} {s0 : Sg} {P : Int32 → Sg → Prop} (hw : wM_of a1 a2 s0 P) : CI shM w l 1 (.code yX8_of cX8_of 3 (some .int)) yX8_of [.ref (ad w 0), .int a1, .int a2] s0 P := by
  refine ci_of_i (own := "BagBottomModel") (ls0 := [some (.ref (ad w 0)), some (.int a1), some (.int a2)]) rfl pn_X8 rfl rfl (fun g el hg => ?_)
  unfold wM_of at hw
  refine x_aload_0 hg dX8_of_0 rfl ?_
  refine get_X8_0 hg kM_0 fl_X8_9 dX8_of_1 rfl (k2 := 1) rfl ?_
  refine x_bi hg dX8_of_4 bp_17 rfl ?_
  refine x_ic hg dX8_of_6 ic_4 rfl ?_
  refine x_iload_1 hg dX8_of_7 rfl ?_
  refine x_imul hg dX8_of_8 rfl ?_
  refine x_iadd hg dX8_of_9 rfl ?_
  refine x_iload_2 hg dX8_of_10 rfl ?_
  refine x_iadd hg dX8_of_11 rfl ?_
  refine x_iald hg kM_1 rfl dX8_of_12 rfl hw (fun hw => ?_)
  exact x_ret hg dX8_of_13 hw
def wM_sinksOf (a1 : Int32) (s0 : Sg) (P : Int32 → Sg → Prop) : Prop := (wM_of a1 2 s0 (fun (r1 : Int32) (s1 : Sg) => (wM_of a1 0 s1 (fun (r2 : Int32) (s2 : Sg) => ((r2 = 1 → (wM_of a1 1 s2 (fun (r3 : Int32) (s3 : Sg) => P ((r1 + r3)) s3))) ∧ (¬ r2 = 1 → ((r2 = 2 → P ((r1 / 2)) s2) ∧ (¬ r2 = 2 → ((r2 = 3 → (wM_of a1 3 s2 (fun (r3 : Int32) (s3 : Sg) => P (((r1 + 9) - r3)) s3))) ∧ (¬ r2 = 3 → ((r2 = 4 → ((¬ ((s2 1 0) - (s2 1 0) / 2 * 2) = 0 → P 0 s2) ∧ (((s2 1 0) - (s2 1 0) / 2 * 2) = 0 → (wM_of a1 1 s2 (fun (r3 : Int32) (s3 : Sg) => P ((r1 + r3)) s3))))) ∧ (¬ r2 = 4 → ((r2 = 5 → P (((r1 / 2) + ((s2 1 0) - (s2 1 0) / 3 * 3))) s2) ∧ (¬ r2 = 5 → P r1 s2))))))))))))))
set_option maxRecDepth 100000 in
set_option maxHeartbeats 4000000 in
theorem xM_sinksOf {w : Wc} (l : Launch) {a1 : Int32} {s0 : Sg} {P : Int32 → Sg → Prop} (hw : wM_sinksOf a1 s0 P) : CI shM w l 2 (.code yX8_sinksOf cX8_sinksOf 3 (some .int)) yX8_sinksOf [.ref (ad w 0), .int a1] s0 P := by
  refine ci_of_i (own := "BagBottomModel") (ls0 := [some (.ref (ad w 0)), some (.int a1), none]) rfl pn_X8 rfl rfl (fun g el hg => ?_)
  unfold wM_sinksOf at hw
  refine x_aload_0 hg dX8_sinksOf_0 rfl ?_
  refine x_iload_1 hg dX8_sinksOf_1 rfl ?_
  refine x_ic hg dX8_sinksOf_2 ic_2 rfl ?_
  refine x_callVI hg (xM_of (gL g)  hw) kM_0 (by decide) rfl im_X8_of se_X8_of mi_X8_of ml_X8_61 rfl rfl (As := [.int a1, .int 2]) rfl rfl rfl dX8_sinksOf_3 rfl (fun r1 s1 hw => ?_)
  refine x_istore_2 hg dX8_sinksOf_6 rfl rfl rfl ?_
  refine x_aload_0 hg dX8_sinksOf_7 rfl ?_
  refine x_iload_1 hg dX8_sinksOf_8 rfl ?_
  refine x_ic hg dX8_sinksOf_9 ic_0 rfl ?_
  refine x_callVI hg (xM_of (gL g)  hw) kM_0 (by decide) rfl im_X8_of se_X8_of mi_X8_of ml_X8_61 rfl rfl (As := [.int a1, .int 0]) rfl rfl rfl dX8_sinksOf_10 rfl (fun r2 s2 hw => ?_)
  refine x_br hw (fun h0 hw => ?_) (fun h0 hw => ?_)
  · refine x_tab hg dX8_sinksOf_13 (ps := [(1, 35), (2, 44), (3, 48), (4, 60), (5, 84)]) rfl (tg := 48) (by rw [h0]; decide) ?_
    refine x_iload_2 hg dX8_sinksOf_48 rfl ?_
    refine x_aload_0 hg dX8_sinksOf_49 rfl ?_
    refine x_iload_1 hg dX8_sinksOf_50 rfl ?_
    refine x_ic hg dX8_sinksOf_51 ic_1 rfl ?_
    refine x_callVI hg (xM_of (gL g)  hw) kM_0 (by decide) rfl im_X8_of se_X8_of mi_X8_of ml_X8_61 rfl rfl (As := [.int a1, .int 1]) rfl rfl rfl dX8_sinksOf_52 rfl (fun r3 s3 hw => ?_)
    refine x_iadd hg dX8_sinksOf_55 rfl ?_
    exact x_ret hg dX8_sinksOf_56 hw
  · skip
    refine x_br hw (fun h1 hw => ?_) (fun h1 hw => ?_)
    · refine x_tab hg dX8_sinksOf_13 (ps := [(1, 35), (2, 44), (3, 48), (4, 60), (5, 84)]) rfl (tg := 57) (by rw [h1]; decide) ?_
      refine x_iload_2 hg dX8_sinksOf_57 rfl ?_
      refine x_ic hg dX8_sinksOf_58 ic_2 rfl ?_
      refine x_idiv hg dX8_sinksOf_59 ne_2 rfl ?_
      exact x_ret hg dX8_sinksOf_60 hw
    · skip
      refine x_br hw (fun h2 hw => ?_) (fun h2 hw => ?_)
      · refine x_tab hg dX8_sinksOf_13 (ps := [(1, 35), (2, 44), (3, 48), (4, 60), (5, 84)]) rfl (tg := 61) (by rw [h2]; decide) ?_
        refine x_iload_2 hg dX8_sinksOf_61 rfl ?_
        refine x_bi hg dX8_sinksOf_62 bp_9 rfl ?_
        refine x_iadd hg dX8_sinksOf_64 rfl ?_
        refine x_aload_0 hg dX8_sinksOf_65 rfl ?_
        refine x_iload_1 hg dX8_sinksOf_66 rfl ?_
        refine x_ic hg dX8_sinksOf_67 ic_3 rfl ?_
        refine x_callVI hg (xM_of (gL g)  hw) kM_0 (by decide) rfl im_X8_of se_X8_of mi_X8_of ml_X8_61 rfl rfl (As := [.int a1, .int 3]) rfl rfl rfl dX8_sinksOf_68 rfl (fun r3 s3 hw => ?_)
        refine x_isub hg dX8_sinksOf_71 rfl ?_
        exact x_ret hg dX8_sinksOf_72 hw
      · skip
        refine x_br hw (fun h3 hw => ?_) (fun h3 hw => ?_)
        · refine x_tab hg dX8_sinksOf_13 (ps := [(1, 35), (2, 44), (3, 48), (4, 60), (5, 84)]) rfl (tg := 73) (by rw [h3]; decide) ?_
          refine x_aload_0 hg dX8_sinksOf_73 rfl ?_
          refine get_X8_0 hg kM_0 fl_X8_9 dX8_sinksOf_74 rfl (k2 := 1) rfl ?_
          refine x_ic hg dX8_sinksOf_77 ic_0 rfl ?_
          refine x_ialdc hg kM_1 rfl vi_0_379 ix_0 dX8_sinksOf_78 rfl ?_
          refine x_ic hg dX8_sinksOf_79 ic_2 rfl ?_
          refine x_irem hg dX8_sinksOf_80 ne_2 rfl ?_
          refine x_if_ne hg dX8_sinksOf_81 (tg := 95) (by decide) rfl hw (fun hw => ?_) (fun hw => ?_)
          · refine x_ic hg dX8_sinksOf_95 ic_0 rfl ?_
            exact x_ret hg dX8_sinksOf_96 hw
          · refine x_iload_2 hg dX8_sinksOf_84 rfl ?_
            refine x_aload_0 hg dX8_sinksOf_85 rfl ?_
            refine x_iload_1 hg dX8_sinksOf_86 rfl ?_
            refine x_ic hg dX8_sinksOf_87 ic_1 rfl ?_
            refine x_callVI hg (xM_of (gL g)  hw) kM_0 (by decide) rfl im_X8_of se_X8_of mi_X8_of ml_X8_61 rfl rfl (As := [.int a1, .int 1]) rfl rfl rfl dX8_sinksOf_88 rfl (fun r3 s3 hw => ?_)
            refine x_iadd hg dX8_sinksOf_91 rfl ?_
            refine x_goto hg dX8_sinksOf_92 (pc' := 96) (by decide) ?_
            exact x_ret hg dX8_sinksOf_96 hw
        · skip
          refine x_br hw (fun h4 hw => ?_) (fun h4 hw => ?_)
          · refine x_tab hg dX8_sinksOf_13 (ps := [(1, 35), (2, 44), (3, 48), (4, 60), (5, 84)]) rfl (tg := 97) (by rw [h4]; decide) ?_
            refine x_iload_2 hg dX8_sinksOf_97 rfl ?_
            refine x_ic hg dX8_sinksOf_98 ic_2 rfl ?_
            refine x_idiv hg dX8_sinksOf_99 ne_2 rfl ?_
            refine x_aload_0 hg dX8_sinksOf_100 rfl ?_
            refine get_X8_0 hg kM_0 fl_X8_9 dX8_sinksOf_101 rfl (k2 := 1) rfl ?_
            refine x_ic hg dX8_sinksOf_104 ic_0 rfl ?_
            refine x_ialdc hg kM_1 rfl vi_0_379 ix_0 dX8_sinksOf_105 rfl ?_
            refine x_ic hg dX8_sinksOf_106 ic_3 rfl ?_
            refine x_irem hg dX8_sinksOf_107 ne_3 rfl ?_
            refine x_iadd hg dX8_sinksOf_108 rfl ?_
            exact x_ret hg dX8_sinksOf_109 hw
          · skip
            refine x_tab hg dX8_sinksOf_13 (ps := [(1, 35), (2, 44), (3, 48), (4, 60), (5, 84)]) rfl (tg := 110) (by simp only [lk, if_neg h0, if_neg h1, if_neg h2, if_neg h3, if_neg h4, ite_self]; decide) ?_
            refine x_iload_2 hg dX8_sinksOf_110 rfl ?_
            exact x_ret hg dX8_sinksOf_111 hw
def wM_feelsOf (a1 : Int32) (s0 : Sg) (P : Int32 → Sg → Prop) : Prop := (wM_of a1 3 s0 (fun (r1 : Int32) (s1 : Sg) => (wM_of a1 1 s1 (fun (r2 : Int32) (s2 : Sg) => (wM_of a1 0 s2 (fun (r3 : Int32) (s3 : Sg) => ((r3 = 1 → P ((r1 / 2)) s3) ∧ (¬ r3 = 1 → ((r3 = 2 → P ((r1 + r2)) s3) ∧ (¬ r3 = 2 → ((r3 = 4 → ((4 ≤ r1 → P (((r1 / 2) - 1)) s3) ∧ (¬ 4 ≤ r1 → P 0 s3))) ∧ (¬ r3 = 4 → ((r3 = 5 → P ((2 * (r1 + r2))) s3) ∧ (¬ r3 = 5 → ((r3 = 6 → P r2 s3) ∧ (¬ r3 = 6 → P r1 s3))))))))))))))))
set_option maxRecDepth 100000 in
set_option maxHeartbeats 4000000 in
theorem xM_feelsOf {w : Wc} (l : Launch) {a1 : Int32} {s0 : Sg} {P : Int32 → Sg → Prop} (hw : wM_feelsOf a1 s0 P) : CI shM w l 2 (.code yX8_feelsOf cX8_feelsOf 4 (some .int)) yX8_feelsOf [.ref (ad w 0), .int a1] s0 P := by
  refine ci_of_i (own := "BagBottomModel") (ls0 := [some (.ref (ad w 0)), some (.int a1), none, none]) rfl pn_X8 rfl rfl (fun g el hg => ?_)
  unfold wM_feelsOf at hw
  refine x_aload_0 hg dX8_feelsOf_0 rfl ?_
  refine x_iload_1 hg dX8_feelsOf_1 rfl ?_
  refine x_ic hg dX8_feelsOf_2 ic_3 rfl ?_
  refine x_callVI hg (xM_of (gL g)  hw) kM_0 (by decide) rfl im_X8_of se_X8_of mi_X8_of ml_X8_61 rfl rfl (As := [.int a1, .int 3]) rfl rfl rfl dX8_feelsOf_3 rfl (fun r1 s1 hw => ?_)
  refine x_istore_2 hg dX8_feelsOf_6 rfl rfl rfl ?_
  refine x_aload_0 hg dX8_feelsOf_7 rfl ?_
  refine x_iload_1 hg dX8_feelsOf_8 rfl ?_
  refine x_ic hg dX8_feelsOf_9 ic_1 rfl ?_
  refine x_callVI hg (xM_of (gL g)  hw) kM_0 (by decide) rfl im_X8_of se_X8_of mi_X8_of ml_X8_61 rfl rfl (As := [.int a1, .int 1]) rfl rfl rfl dX8_feelsOf_10 rfl (fun r2 s2 hw => ?_)
  refine x_istore_3 hg dX8_feelsOf_13 rfl rfl rfl ?_
  refine x_aload_0 hg dX8_feelsOf_14 rfl ?_
  refine x_iload_1 hg dX8_feelsOf_15 rfl ?_
  refine x_ic hg dX8_feelsOf_16 ic_0 rfl ?_
  refine x_callVI hg (xM_of (gL g)  hw) kM_0 (by decide) rfl im_X8_of se_X8_of mi_X8_of ml_X8_61 rfl rfl (As := [.int a1, .int 0]) rfl rfl rfl dX8_feelsOf_17 rfl (fun r3 s3 hw => ?_)
  refine x_br hw (fun h0 hw => ?_) (fun h0 hw => ?_)
  · refine x_tab hg dX8_feelsOf_20 (ps := [(1, 40), (2, 44), (3, 71), (4, 48), (5, 63), (6, 69)]) rfl (tg := 60) (by rw [h0]; decide) ?_
    refine x_iload_2 hg dX8_feelsOf_60 rfl ?_
    refine x_ic hg dX8_feelsOf_61 ic_2 rfl ?_
    refine x_idiv hg dX8_feelsOf_62 ne_2 rfl ?_
    exact x_ret hg dX8_feelsOf_63 hw
  · skip
    refine x_br hw (fun h1 hw => ?_) (fun h1 hw => ?_)
    · refine x_tab hg dX8_feelsOf_20 (ps := [(1, 40), (2, 44), (3, 71), (4, 48), (5, 63), (6, 69)]) rfl (tg := 64) (by rw [h1]; decide) ?_
      refine x_iload_2 hg dX8_feelsOf_64 rfl ?_
      refine x_iload_3 hg dX8_feelsOf_65 rfl ?_
      refine x_iadd hg dX8_feelsOf_66 rfl ?_
      exact x_ret hg dX8_feelsOf_67 hw
    · skip
      refine x_br hw (fun h2 hw => ?_) (fun h2 hw => ?_)
      · refine x_tab hg dX8_feelsOf_20 (ps := [(1, 40), (2, 44), (3, 71), (4, 48), (5, 63), (6, 69)]) rfl (tg := 68) (by rw [h2]; decide) ?_
        refine x_iload_2 hg dX8_feelsOf_68 rfl ?_
        refine x_ic hg dX8_feelsOf_69 ic_4 rfl ?_
        refine x_icmp_ge hg dX8_feelsOf_70 (tg := 77) (by decide) rfl hw (fun hw => ?_) (fun hw => ?_)
        · refine x_iload_2 hg dX8_feelsOf_77 rfl ?_
          refine x_ic hg dX8_feelsOf_78 ic_2 rfl ?_
          refine x_idiv hg dX8_feelsOf_79 ne_2 rfl ?_
          refine x_ic hg dX8_feelsOf_80 ic_1 rfl ?_
          refine x_isub hg dX8_feelsOf_81 rfl ?_
          exact x_ret hg dX8_feelsOf_82 hw
        · refine x_ic hg dX8_feelsOf_73 ic_0 rfl ?_
          refine x_goto hg dX8_feelsOf_74 (pc' := 82) (by decide) ?_
          exact x_ret hg dX8_feelsOf_82 hw
      · skip
        refine x_br hw (fun h3 hw => ?_) (fun h3 hw => ?_)
        · refine x_tab hg dX8_feelsOf_20 (ps := [(1, 40), (2, 44), (3, 71), (4, 48), (5, 63), (6, 69)]) rfl (tg := 83) (by rw [h3]; decide) ?_
          refine x_ic hg dX8_feelsOf_83 ic_2 rfl ?_
          refine x_iload_2 hg dX8_feelsOf_84 rfl ?_
          refine x_iload_3 hg dX8_feelsOf_85 rfl ?_
          refine x_iadd hg dX8_feelsOf_86 rfl ?_
          refine x_imul hg dX8_feelsOf_87 rfl ?_
          exact x_ret hg dX8_feelsOf_88 hw
        · skip
          refine x_br hw (fun h4 hw => ?_) (fun h4 hw => ?_)
          · refine x_tab hg dX8_feelsOf_20 (ps := [(1, 40), (2, 44), (3, 71), (4, 48), (5, 63), (6, 69)]) rfl (tg := 89) (by rw [h4]; decide) ?_
            refine x_iload_3 hg dX8_feelsOf_89 rfl ?_
            exact x_ret hg dX8_feelsOf_90 hw
          · skip
            refine x_tab hg dX8_feelsOf_20 (ps := [(1, 40), (2, 44), (3, 71), (4, 48), (5, 63), (6, 69)]) rfl (tg := 91) (by simp only [lk, if_neg h0, if_neg h1, if_neg h2, if_neg h3, if_neg h4, ite_self]; decide) ?_
            refine x_iload_2 hg dX8_feelsOf_91 rfl ?_
            exact x_ret hg dX8_feelsOf_92 hw
def wM_whereIs_2 (f1 : Int32) (P : Int32 → Sg → Prop) (K33 : Sg → Prop) : Nat → Int32 → Sg → Prop
  | 0, _, _ => False
  | n + 1, a2, s0 => (((s0 1 3) ≤ a2 → K33  s0) ∧ (¬ (s0 1 3) ≤ a2 → (vp_in ((8 + a2)) 379 ∧ ((¬ (s0 1 (ix ((8 + a2)))) = f1 → wM_whereIs_2 f1 P K33 n ((a2 + 1)) s0) ∧ ((s0 1 (ix ((8 + a2)))) = f1 → P a2 s0)))))
def wM_whereIs (a1 : Int32) (s0 : Sg) (P : Int32 → Sg → Prop) : Prop := (∃ N1 : Nat, wM_whereIs_2 a1 P (fun  (s1 : Sg) => ((¬ (s1 1 4) = a1 → P ((-2)) s1) ∧ ((s1 1 4) = a1 → P ((-1)) s1))) N1 0 s0)
set_option maxRecDepth 100000 in
set_option maxHeartbeats 4000000 in
theorem xM_whereIs_2 {w : Wc} {g : Gx} {Q : State → Prop} {f1 : Int32} {P : Int32 → Sg → Prop} {K33 : Sg → Prop} (hg : OK shM w g 1 cX8_whereIs "BagBottomModel" 3 (some .int)) (hQ : Q = QI shM w g P) (hK33 : ∀ (s0 : Sg), K33  s0 → X shM w g Q 33 [some (.ref (ad w 0)), some (.int f1), none] [] s0) : ∀ (n : Nat) (a2 : Int32) (s0 : Sg), wM_whereIs_2 f1 P K33 n a2 s0 → X shM w g Q 2 [some (.ref (ad w 0)), some (.int f1), some (.int a2)] [] s0 := by
  subst hQ
  intro n
  induction n with
  | zero =>
    intro a2 s0 hw
    exact hw.elim
  | succ n ih =>
    intro a2 s0 hw
    rw [wM_whereIs_2] at hw
    refine x_iload_2 hg dX8_whereIs_2 rfl ?_
    refine x_aload_0 hg dX8_whereIs_3 rfl ?_
    refine get_X8_0 hg kM_0 fl_X8_9 dX8_whereIs_4 rfl (k2 := 1) rfl ?_
    refine x_ic hg dX8_whereIs_7 ic_3 rfl ?_
    refine x_ialdc hg kM_1 rfl vi_3_379 ix_3 dX8_whereIs_8 rfl ?_
    refine x_icmp_ge hg dX8_whereIs_9 (tg := 33) (by decide) rfl hw (fun hw => ?_) (fun hw => ?_)
    · refine x_drop_2 ?_
      exact hK33  _ hw
    · refine x_aload_0 hg dX8_whereIs_12 rfl ?_
      refine get_X8_0 hg kM_0 fl_X8_9 dX8_whereIs_13 rfl (k2 := 1) rfl ?_
      refine x_bi hg dX8_whereIs_16 bp_8 rfl ?_
      refine x_iload_2 hg dX8_whereIs_18 rfl ?_
      refine x_iadd hg dX8_whereIs_19 rfl ?_
      refine x_iald hg kM_1 rfl dX8_whereIs_20 rfl hw (fun hw => ?_)
      refine x_iload_1 hg dX8_whereIs_21 rfl ?_
      refine x_icmp_ne hg dX8_whereIs_22 (tg := 27) (by decide) rfl hw (fun hw => ?_) (fun hw => ?_)
      · refine x_iinc_2 hg dX8_whereIs_27 ic_1 rfl rfl rfl ?_
        refine x_goto hg dX8_whereIs_30 (pc' := 2) (by decide) ?_
        exact ih _ _ hw
      · refine x_iload_2 hg dX8_whereIs_25 rfl ?_
        exact x_ret hg dX8_whereIs_26 hw
set_option maxRecDepth 100000 in
set_option maxHeartbeats 4000000 in
theorem xM_whereIs {w : Wc} (l : Launch) {a1 : Int32} {s0 : Sg} {P : Int32 → Sg → Prop} (hw : wM_whereIs a1 s0 P) : CI shM w l 1 (.code yX8_whereIs cX8_whereIs 3 (some .int)) yX8_whereIs [.ref (ad w 0), .int a1] s0 P := by
  refine ci_of_i (own := "BagBottomModel") (ls0 := [some (.ref (ad w 0)), some (.int a1), none]) rfl pn_X8 rfl rfl (fun g el hg => ?_)
  unfold wM_whereIs at hw
  refine x_ic hg dX8_whereIs_0 ic_0 rfl ?_
  refine x_istore_2 hg dX8_whereIs_1 rfl rfl rfl ?_
  obtain ⟨N1, hw⟩ := hw
  refine xM_whereIs_2 hg  rfl (fun  s1 hw => ?_) _ _ _ hw
  · refine x_aload_0 hg dX8_whereIs_33 rfl ?_
    refine get_X8_0 hg kM_0 fl_X8_9 dX8_whereIs_34 rfl (k2 := 1) rfl ?_
    refine x_ic hg dX8_whereIs_37 ic_4 rfl ?_
    refine x_ialdc hg kM_1 rfl vi_4_379 ix_4 dX8_whereIs_38 rfl ?_
    refine x_iload_1 hg dX8_whereIs_39 rfl ?_
    refine x_icmp_ne hg dX8_whereIs_40 (tg := 47) (by decide) rfl hw (fun hw => ?_) (fun hw => ?_)
    · refine x_bi hg dX8_whereIs_47 bp_m2 rfl ?_
      exact x_ret hg dX8_whereIs_49 hw
    · refine x_ic hg dX8_whereIs_43 ic_m1 rfl ?_
      refine x_goto hg dX8_whereIs_44 (pc' := 49) (by decide) ?_
      exact x_ret hg dX8_whereIs_49 hw
def wM_goesFrom_12 (K48 : Sg → Prop) : Nat → Int32 → Sg → Prop
  | 0, _, _ => False
  | n + 1, a2, s0 => (((s0 1 3) ≤ a2 → K48  s0) ∧ (¬ (s0 1 3) ≤ a2 → (vp_in (((8 + a2) + 1)) 379 ∧ (vp_in ((8 + a2)) 379 ∧ ∀ s1 : Sg, s1 = u2 s0 1 (ix ((8 + a2))) ((s0 1 (ix (((8 + a2) + 1))))) → wM_goesFrom_12 K48 n ((a2 + 1)) s1))))
def wM_goesFrom (a1 : Int32) (s0 : Sg) (P : Sg → Prop) : Prop := (∀ s1 : Sg, s1 = u2 s0 1 3 (((s0 1 3) - 1)) → (∃ N1 : Nat, wM_goesFrom_12 (fun  (s2 : Sg) => P s2) N1 a1 s1))
set_option maxRecDepth 100000 in
set_option maxHeartbeats 4000000 in
theorem xM_goesFrom_12 {w : Wc} {g : Gx} {Q : State → Prop} {K48 : Sg → Prop} (hg : OK shM w g 1 cX8_goesFrom "BagBottomModel" 3 none) (hK48 : ∀ (s0 : Sg), K48  s0 → X shM w g Q 48 [none, none, none] [] s0) : ∀ (n : Nat) (a2 : Int32) (s0 : Sg), wM_goesFrom_12 K48 n a2 s0 → X shM w g Q 12 [some (.ref (ad w 0)), none, some (.int a2)] [] s0 := by
  intro n
  induction n with
  | zero =>
    intro a2 s0 hw
    exact hw.elim
  | succ n ih =>
    intro a2 s0 hw
    rw [wM_goesFrom_12] at hw
    refine x_iload_2 hg dX8_goesFrom_12 rfl ?_
    refine x_aload_0 hg dX8_goesFrom_13 rfl ?_
    refine get_X8_0 hg kM_0 fl_X8_9 dX8_goesFrom_14 rfl (k2 := 1) rfl ?_
    refine x_ic hg dX8_goesFrom_17 ic_3 rfl ?_
    refine x_ialdc hg kM_1 rfl vi_3_379 ix_3 dX8_goesFrom_18 rfl ?_
    refine x_icmp_ge hg dX8_goesFrom_19 (tg := 48) (by decide) rfl hw (fun hw => ?_) (fun hw => ?_)
    · refine x_drop_0 ?_
      refine x_drop_2 ?_
      exact hK48  _ hw
    · refine x_aload_0 hg dX8_goesFrom_22 rfl ?_
      refine get_X8_0 hg kM_0 fl_X8_9 dX8_goesFrom_23 rfl (k2 := 1) rfl ?_
      refine x_bi hg dX8_goesFrom_26 bp_8 rfl ?_
      refine x_iload_2 hg dX8_goesFrom_28 rfl ?_
      refine x_iadd hg dX8_goesFrom_29 rfl ?_
      refine x_aload_0 hg dX8_goesFrom_30 rfl ?_
      refine get_X8_0 hg kM_0 fl_X8_9 dX8_goesFrom_31 rfl (k2 := 1) rfl ?_
      refine x_bi hg dX8_goesFrom_34 bp_8 rfl ?_
      refine x_iload_2 hg dX8_goesFrom_36 rfl ?_
      refine x_iadd hg dX8_goesFrom_37 rfl ?_
      refine x_ic hg dX8_goesFrom_38 ic_1 rfl ?_
      refine x_iadd hg dX8_goesFrom_39 rfl ?_
      refine x_iald hg kM_1 rfl dX8_goesFrom_40 rfl hw (fun hw => ?_)
      refine x_iast hg kM_1 rfl dX8_goesFrom_41 rfl hw (fun s1 hw => ?_)
      refine x_iinc_2 hg dX8_goesFrom_42 ic_1 rfl rfl rfl ?_
      refine x_goto hg dX8_goesFrom_45 (pc' := 12) (by decide) ?_
      exact ih _ _ hw
set_option maxRecDepth 100000 in
set_option maxHeartbeats 4000000 in
theorem xM_goesFrom {w : Wc} (l : Launch) {a1 : Int32} {s0 : Sg} {P : Sg → Prop} (hw : wM_goesFrom a1 s0 P) : CV shM w l 1 (.code yX8_goesFrom cX8_goesFrom 3 none) yX8_goesFrom [.ref (ad w 0), .int a1] s0 P := by
  refine ci_of_v (own := "BagBottomModel") (ls0 := [some (.ref (ad w 0)), some (.int a1), none]) rfl pn_X8 rfl rfl (fun g el hg => ?_)
  unfold wM_goesFrom at hw
  refine x_aload_0 hg dX8_goesFrom_0 rfl ?_
  refine get_X8_0 hg kM_0 fl_X8_9 dX8_goesFrom_1 rfl (k2 := 1) rfl ?_
  refine x_ic hg dX8_goesFrom_4 ic_3 rfl ?_
  refine x_dup2 hg dX8_goesFrom_5 rfl rfl rfl ?_
  refine x_ialdc hg kM_1 rfl vi_3_379 ix_3 dX8_goesFrom_6 rfl ?_
  refine x_ic hg dX8_goesFrom_7 ic_1 rfl ?_
  refine x_isub hg dX8_goesFrom_8 rfl ?_
  refine x_iastc hg kM_1 rfl vi_3_379 ix_3 dX8_goesFrom_9 rfl hw (fun s1 hw => ?_)
  refine x_iload_1 hg dX8_goesFrom_10 rfl ?_
  refine x_istore_2 hg dX8_goesFrom_11 rfl rfl rfl ?_
  refine x_drop_1 ?_
  obtain ⟨N1, hw⟩ := hw
  refine xM_goesFrom_12 hg  (fun  s2 hw => ?_) _ _ _ hw
  · exact x_vret hg dX8_goesFrom_48 hw
def wM_goesOnTop_7 (f1 : Int32) (K37 : Sg → Prop) : Nat → Int32 → Sg → Prop
  | 0, _, _ => False
  | n + 1, a2, s0 => ((a2 ≤ 0 → K37  s0) ∧ (¬ a2 ≤ 0 → (vp_in (((8 + a2) - 1)) 379 ∧ (vp_in ((8 + a2)) 379 ∧ ∀ s1 : Sg, s1 = u2 s0 1 (ix ((8 + a2))) ((s0 1 (ix (((8 + a2) - 1))))) → wM_goesOnTop_7 f1 K37 n ((a2 + (-1))) s1))))
def wM_goesOnTop (a1 : Int32) (s0 : Sg) (P : Sg → Prop) : Prop := (∃ N1 : Nat, wM_goesOnTop_7 a1 (fun  (s1 : Sg) => (∀ s2 : Sg, s2 = u2 s1 1 8 a1 → (∀ s3 : Sg, s3 = u2 s2 1 3 (((s2 1 3) + 1)) → P s3))) N1 ((s0 1 3)) s0)
set_option maxRecDepth 100000 in
set_option maxHeartbeats 4000000 in
theorem xM_goesOnTop_7 {w : Wc} {g : Gx} {Q : State → Prop} {f1 : Int32} {K37 : Sg → Prop} (hg : OK shM w g 1 cX8_goesOnTop "BagBottomModel" 3 none) (hK37 : ∀ (s0 : Sg), K37  s0 → X shM w g Q 37 [some (.ref (ad w 0)), some (.int f1), none] [] s0) : ∀ (n : Nat) (a2 : Int32) (s0 : Sg), wM_goesOnTop_7 f1 K37 n a2 s0 → X shM w g Q 7 [some (.ref (ad w 0)), some (.int f1), some (.int a2)] [] s0 := by
  intro n
  induction n with
  | zero =>
    intro a2 s0 hw
    exact hw.elim
  | succ n ih =>
    intro a2 s0 hw
    rw [wM_goesOnTop_7] at hw
    refine x_iload_2 hg dX8_goesOnTop_7 rfl ?_
    refine x_if_le hg dX8_goesOnTop_8 (tg := 37) (by decide) rfl hw (fun hw => ?_) (fun hw => ?_)
    · refine x_drop_2 ?_
      exact hK37  _ hw
    · refine x_aload_0 hg dX8_goesOnTop_11 rfl ?_
      refine get_X8_0 hg kM_0 fl_X8_9 dX8_goesOnTop_12 rfl (k2 := 1) rfl ?_
      refine x_bi hg dX8_goesOnTop_15 bp_8 rfl ?_
      refine x_iload_2 hg dX8_goesOnTop_17 rfl ?_
      refine x_iadd hg dX8_goesOnTop_18 rfl ?_
      refine x_aload_0 hg dX8_goesOnTop_19 rfl ?_
      refine get_X8_0 hg kM_0 fl_X8_9 dX8_goesOnTop_20 rfl (k2 := 1) rfl ?_
      refine x_bi hg dX8_goesOnTop_23 bp_8 rfl ?_
      refine x_iload_2 hg dX8_goesOnTop_25 rfl ?_
      refine x_iadd hg dX8_goesOnTop_26 rfl ?_
      refine x_ic hg dX8_goesOnTop_27 ic_1 rfl ?_
      refine x_isub hg dX8_goesOnTop_28 rfl ?_
      refine x_iald hg kM_1 rfl dX8_goesOnTop_29 rfl hw (fun hw => ?_)
      refine x_iast hg kM_1 rfl dX8_goesOnTop_30 rfl hw (fun s1 hw => ?_)
      refine x_iinc_2 hg dX8_goesOnTop_31 ic_m1 rfl rfl rfl ?_
      refine x_goto hg dX8_goesOnTop_34 (pc' := 7) (by decide) ?_
      exact ih _ _ hw
set_option maxRecDepth 100000 in
set_option maxHeartbeats 4000000 in
theorem xM_goesOnTop {w : Wc} (l : Launch) {a1 : Int32} {s0 : Sg} {P : Sg → Prop} (hw : wM_goesOnTop a1 s0 P) : CV shM w l 1 (.code yX8_goesOnTop cX8_goesOnTop 3 none) yX8_goesOnTop [.ref (ad w 0), .int a1] s0 P := by
  refine ci_of_v (own := "BagBottomModel") (ls0 := [some (.ref (ad w 0)), some (.int a1), none]) rfl pn_X8 rfl rfl (fun g el hg => ?_)
  unfold wM_goesOnTop at hw
  refine x_aload_0 hg dX8_goesOnTop_0 rfl ?_
  refine get_X8_0 hg kM_0 fl_X8_9 dX8_goesOnTop_1 rfl (k2 := 1) rfl ?_
  refine x_ic hg dX8_goesOnTop_4 ic_3 rfl ?_
  refine x_ialdc hg kM_1 rfl vi_3_379 ix_3 dX8_goesOnTop_5 rfl ?_
  refine x_istore_2 hg dX8_goesOnTop_6 rfl rfl rfl ?_
  obtain ⟨N1, hw⟩ := hw
  refine xM_goesOnTop_7 hg  (fun  s1 hw => ?_) _ _ _ hw
  · refine x_aload_0 hg dX8_goesOnTop_37 rfl ?_
    refine get_X8_0 hg kM_0 fl_X8_9 dX8_goesOnTop_38 rfl (k2 := 1) rfl ?_
    refine x_bi hg dX8_goesOnTop_41 bp_8 rfl ?_
    refine x_iload_1 hg dX8_goesOnTop_43 rfl ?_
    refine x_iastc hg kM_1 rfl vi_8_379 ix_8 dX8_goesOnTop_44 rfl hw (fun s2 hw => ?_)
    refine x_aload_0 hg dX8_goesOnTop_45 rfl ?_
    refine get_X8_0 hg kM_0 fl_X8_9 dX8_goesOnTop_46 rfl (k2 := 1) rfl ?_
    refine x_ic hg dX8_goesOnTop_49 ic_3 rfl ?_
    refine x_dup2 hg dX8_goesOnTop_50 rfl rfl rfl ?_
    refine x_ialdc hg kM_1 rfl vi_3_379 ix_3 dX8_goesOnTop_51 rfl ?_
    refine x_ic hg dX8_goesOnTop_52 ic_1 rfl ?_
    refine x_iadd hg dX8_goesOnTop_53 rfl ?_
    refine x_iastc hg kM_1 rfl vi_3_379 ix_3 dX8_goesOnTop_54 rfl hw (fun s3 hw => ?_)
    exact x_vret hg dX8_goesOnTop_55 hw
def wM_aStep_4 (K84 : Int32 → Sg → Prop) : Nat → Int32 → Int32 → Sg → Prop
  | 0, _, _, _ => False
  | n + 1, a1, a2, s0 => ((((s0 1 3) - 1) ≤ a2 → K84 a1 s0) ∧ (¬ ((s0 1 3) - 1) ≤ a2 → (vp_in ((8 + a2)) 379 ∧ (vp_in (((8 + a2) + 1)) 379 ∧ (wM_sinksOf ((s0 1 (ix ((8 + a2))))) s0 (fun (r1 : Int32) (s1 : Sg) => (wM_sinksOf ((s0 1 (ix (((8 + a2) + 1))))) s1 (fun (r2 : Int32) (s2 : Sg) => ((r1 ≤ r2 → wM_aStep_4 K84 n a1 ((a2 + 1)) s2) ∧ (¬ r1 ≤ r2 → (vp_in ((8 + a2)) 379 ∧ ∀ s3 : Sg, s3 = u2 s2 1 (ix ((8 + a2))) ((s0 1 (ix (((8 + a2) + 1))))) → (vp_in (((8 + a2) + 1)) 379 ∧ ∀ s4 : Sg, s4 = u2 s3 1 (ix (((8 + a2) + 1))) ((s0 1 (ix ((8 + a2))))) → wM_aStep_4 K84 n 1 ((a2 + 1)) s4))))))))))))
def wM_aStep (s0 : Sg) (P : Int32 → Sg → Prop) : Prop := (∃ N1 : Nat, wM_aStep_4 (fun (v1 : Int32) (s1 : Sg) => (∀ s2 : Sg, s2 = u2 s1 1 0 (((s1 1 0) + 1)) → ((v1 = 0 ∨ v1 = 1) ∧ P v1 s2))) N1 0 0 s0)
set_option maxRecDepth 100000 in
set_option maxHeartbeats 4000000 in
theorem xM_aStep_4 {w : Wc} {g : Gx} {Q : State → Prop} {K84 : Int32 → Sg → Prop} (hg : OK shM w g 3 cX8_aStep "BagBottomModel" 5 (some .boolean)) (hK84 : ∀ (a1 : Int32) (s0 : Sg), K84 a1 s0 → X shM w g Q 84 [some (.ref (ad w 0)), some (.int a1), none, none, none] [] s0) : ∀ (n : Nat) (a1 a2 : Int32) (s0 : Sg), wM_aStep_4 K84 n a1 a2 s0 → X shM w g Q 4 [some (.ref (ad w 0)), some (.int a1), some (.int a2), none, none] [] s0 := by
  intro n
  induction n with
  | zero =>
    intro a1 a2 s0 hw
    exact hw.elim
  | succ n ih =>
    intro a1 a2 s0 hw
    rw [wM_aStep_4] at hw
    refine x_iload_2 hg dX8_aStep_4 rfl ?_
    refine x_aload_0 hg dX8_aStep_5 rfl ?_
    refine get_X8_0 hg kM_0 fl_X8_9 dX8_aStep_6 rfl (k2 := 1) rfl ?_
    refine x_ic hg dX8_aStep_9 ic_3 rfl ?_
    refine x_ialdc hg kM_1 rfl vi_3_379 ix_3 dX8_aStep_10 rfl ?_
    refine x_ic hg dX8_aStep_11 ic_1 rfl ?_
    refine x_isub hg dX8_aStep_12 rfl ?_
    refine x_icmp_ge hg dX8_aStep_13 (tg := 84) (by decide) rfl hw (fun hw => ?_) (fun hw => ?_)
    · refine x_drop_2 ?_
      exact hK84 _ _ hw
    · refine x_aload_0 hg dX8_aStep_16 rfl ?_
      refine get_X8_0 hg kM_0 fl_X8_9 dX8_aStep_17 rfl (k2 := 1) rfl ?_
      refine x_bi hg dX8_aStep_20 bp_8 rfl ?_
      refine x_iload_2 hg dX8_aStep_22 rfl ?_
      refine x_iadd hg dX8_aStep_23 rfl ?_
      refine x_iald hg kM_1 rfl dX8_aStep_24 rfl hw (fun hw => ?_)
      refine x_istore_3 hg dX8_aStep_25 rfl rfl rfl ?_
      refine x_aload_0 hg dX8_aStep_26 rfl ?_
      refine get_X8_0 hg kM_0 fl_X8_9 dX8_aStep_27 rfl (k2 := 1) rfl ?_
      refine x_bi hg dX8_aStep_30 bp_8 rfl ?_
      refine x_iload_2 hg dX8_aStep_32 rfl ?_
      refine x_iadd hg dX8_aStep_33 rfl ?_
      refine x_ic hg dX8_aStep_34 ic_1 rfl ?_
      refine x_iadd hg dX8_aStep_35 rfl ?_
      refine x_iald hg kM_1 rfl dX8_aStep_36 rfl hw (fun hw => ?_)
      refine x_istore_4 hg dX8_aStep_37 rfl rfl rfl ?_
      refine x_aload_0 hg dX8_aStep_39 rfl ?_
      refine x_iload_3 hg dX8_aStep_40 rfl ?_
      refine x_callVI hg (xM_sinksOf (gL g)  hw) kM_0 (by decide) rfl im_X8_sinksOf se_X8_sinksOf mi_X8_sinksOf ml_X8_65 rfl rfl (As := [.int (s0 1 (ix ((8 + a2))))]) rfl rfl rfl dX8_aStep_41 rfl (fun r1 s1 hw => ?_)
      refine x_aload_0 hg dX8_aStep_44 rfl ?_
      refine x_iload_4 hg dX8_aStep_45 rfl ?_
      refine x_callVI hg (xM_sinksOf (gL g)  hw) kM_0 (by decide) rfl im_X8_sinksOf se_X8_sinksOf mi_X8_sinksOf ml_X8_65 rfl rfl (As := [.int (s0 1 (ix (((8 + a2) + 1))))]) rfl rfl rfl dX8_aStep_47 rfl (fun r2 s2 hw => ?_)
      refine x_icmp_le hg dX8_aStep_50 (tg := 78) (by decide) rfl hw (fun hw => ?_) (fun hw => ?_)
      · refine x_iinc_2 hg dX8_aStep_78 ic_1 rfl rfl rfl ?_
        refine x_goto hg dX8_aStep_81 (pc' := 4) (by decide) ?_
        refine x_drop_3 ?_
        refine x_drop_4 ?_
        exact ih _ _ _ hw
      · refine x_aload_0 hg dX8_aStep_53 rfl ?_
        refine get_X8_0 hg kM_0 fl_X8_9 dX8_aStep_54 rfl (k2 := 1) rfl ?_
        refine x_bi hg dX8_aStep_57 bp_8 rfl ?_
        refine x_iload_2 hg dX8_aStep_59 rfl ?_
        refine x_iadd hg dX8_aStep_60 rfl ?_
        refine x_iload_4 hg dX8_aStep_61 rfl ?_
        refine x_iast hg kM_1 rfl dX8_aStep_63 rfl hw (fun s3 hw => ?_)
        refine x_aload_0 hg dX8_aStep_64 rfl ?_
        refine get_X8_0 hg kM_0 fl_X8_9 dX8_aStep_65 rfl (k2 := 1) rfl ?_
        refine x_bi hg dX8_aStep_68 bp_8 rfl ?_
        refine x_iload_2 hg dX8_aStep_70 rfl ?_
        refine x_iadd hg dX8_aStep_71 rfl ?_
        refine x_ic hg dX8_aStep_72 ic_1 rfl ?_
        refine x_iadd hg dX8_aStep_73 rfl ?_
        refine x_iload_3 hg dX8_aStep_74 rfl ?_
        refine x_iast hg kM_1 rfl dX8_aStep_75 rfl hw (fun s4 hw => ?_)
        refine x_ic hg dX8_aStep_76 ic_1 rfl ?_
        refine x_istore_1 hg dX8_aStep_77 rfl rfl rfl ?_
        refine x_iinc_2 hg dX8_aStep_78 ic_1 rfl rfl rfl ?_
        refine x_goto hg dX8_aStep_81 (pc' := 4) (by decide) ?_
        refine x_drop_3 ?_
        refine x_drop_4 ?_
        exact ih _ _ _ hw
set_option maxRecDepth 100000 in
set_option maxHeartbeats 4000000 in
theorem xM_aStep {w : Wc} (l : Launch) {s0 : Sg} {P : Int32 → Sg → Prop} (hw : wM_aStep  s0 P) : CI shM w l 3 (.code yX8_aStep cX8_aStep 5 (some .boolean)) yX8_aStep [.ref (ad w 0)] s0 P := by
  refine ci_of_z (own := "BagBottomModel") (ls0 := [some (.ref (ad w 0)), none, none, none, none]) rfl pn_X8 rfl rfl (fun g el hg => ?_)
  unfold wM_aStep at hw
  refine x_ic hg dX8_aStep_0 ic_0 rfl ?_
  refine x_istore_1 hg dX8_aStep_1 rfl rfl rfl ?_
  refine x_ic hg dX8_aStep_2 ic_0 rfl ?_
  refine x_istore_2 hg dX8_aStep_3 rfl rfl rfl ?_
  obtain ⟨N1, hw⟩ := hw
  refine xM_aStep_4 hg  (fun v1 s1 hw => ?_) _ _ _ _ hw
  · refine x_aload_0 hg dX8_aStep_84 rfl ?_
    refine get_X8_0 hg kM_0 fl_X8_9 dX8_aStep_85 rfl (k2 := 1) rfl ?_
    refine x_ic hg dX8_aStep_88 ic_0 rfl ?_
    refine x_dup2 hg dX8_aStep_89 rfl rfl rfl ?_
    refine x_ialdc hg kM_1 rfl vi_0_379 ix_0 dX8_aStep_90 rfl ?_
    refine x_ic hg dX8_aStep_91 ic_1 rfl ?_
    refine x_iadd hg dX8_aStep_92 rfl ?_
    refine x_iastc hg kM_1 rfl vi_0_379 ix_0 dX8_aStep_93 rfl hw (fun s2 hw => ?_)
    refine x_iload_1 hg dX8_aStep_94 rfl ?_
    exact x_zret hg dX8_aStep_95 hw.1 hw.2
def wM_steps_2 (f1 : Int32) (K18 : Sg → Prop) : Nat → Int32 → Sg → Prop
  | 0, _, _ => False
  | n + 1, a2, s0 => ((f1 ≤ a2 → K18  s0) ∧ (¬ f1 ≤ a2 → (wM_aStep  s0 (fun (r1 : Int32) (s1 : Sg) => wM_steps_2 f1 K18 n ((a2 + 1)) s1))))
def wM_steps (a1 : Int32) (s0 : Sg) (P : Sg → Prop) : Prop := (∃ N1 : Nat, wM_steps_2 a1 (fun  (s1 : Sg) => P s1) N1 0 s0)
set_option maxRecDepth 100000 in
set_option maxHeartbeats 4000000 in
theorem xM_steps_2 {w : Wc} {g : Gx} {Q : State → Prop} {f1 : Int32} {K18 : Sg → Prop} (hg : OK shM w g 4 cX8_steps "BagBottomModel" 4 none) (hK18 : ∀ (s0 : Sg), K18  s0 → X shM w g Q 18 [none, none, none, none] [] s0) : ∀ (n : Nat) (a2 : Int32) (s0 : Sg), wM_steps_2 f1 K18 n a2 s0 → X shM w g Q 2 [some (.ref (ad w 0)), some (.int f1), some (.int a2), none] [] s0 := by
  intro n
  induction n with
  | zero =>
    intro a2 s0 hw
    exact hw.elim
  | succ n ih =>
    intro a2 s0 hw
    rw [wM_steps_2] at hw
    refine x_iload_2 hg dX8_steps_2 rfl ?_
    refine x_iload_1 hg dX8_steps_3 rfl ?_
    refine x_icmp_ge hg dX8_steps_4 (tg := 18) (by decide) rfl hw (fun hw => ?_) (fun hw => ?_)
    · refine x_drop_0 ?_
      refine x_drop_1 ?_
      refine x_drop_2 ?_
      exact hK18  _ hw
    · refine x_aload_0 hg dX8_steps_7 rfl ?_
      refine x_callVI hg (xM_aStep (gL g)  hw) kM_0 (by decide) rfl im_X8_aStep se_X8_aStep mi_X8_aStep ml_X8_69 rfl rfl (As := []) rfl rfl rfl dX8_steps_8 rfl (fun r1 s1 hw => ?_)
      refine x_istore_3 hg dX8_steps_11 rfl rfl rfl ?_
      refine x_iinc_2 hg dX8_steps_12 ic_1 rfl rfl rfl ?_
      refine x_goto hg dX8_steps_15 (pc' := 2) (by decide) ?_
      refine x_drop_3 ?_
      exact ih _ _ hw
set_option maxRecDepth 100000 in
set_option maxHeartbeats 4000000 in
theorem xM_steps {w : Wc} (l : Launch) {a1 : Int32} {s0 : Sg} {P : Sg → Prop} (hw : wM_steps a1 s0 P) : CV shM w l 4 (.code yX8_steps cX8_steps 4 none) yX8_steps [.ref (ad w 0), .int a1] s0 P := by
  refine ci_of_v (own := "BagBottomModel") (ls0 := [some (.ref (ad w 0)), some (.int a1), none, none]) rfl pn_X8 rfl rfl (fun g el hg => ?_)
  unfold wM_steps at hw
  refine x_ic hg dX8_steps_0 ic_0 rfl ?_
  refine x_istore_2 hg dX8_steps_1 rfl rfl rfl ?_
  obtain ⟨N1, hw⟩ := hw
  refine xM_steps_2 hg  (fun  s1 hw => ?_) _ _ _ hw
  · exact x_vret hg dX8_steps_18 hw
def wM_isKm (a0 : Int32) (s0 : Sg) (P : Int32 → Sg → Prop) : Prop := (wM_in a0 0 69 s0 (fun (r1 : Int32) (s1 : Sg) => ((r1 = 0 ∨ r1 = 1) ∧ P r1 s1)))
set_option maxRecDepth 100000 in
set_option maxHeartbeats 4000000 in
theorem xM_isKm {w : Wc} (l : Launch) {a0 : Int32} {s0 : Sg} {P : Int32 → Sg → Prop} (hw : wM_isKm a0 s0 P) : CI shM w l 2 (.code yX8_isKm cX8_isKm 1 (some .boolean)) yX8_isKm [.int a0] s0 P := by
  refine ci_of_z (own := "BagBottomModel") (ls0 := [some (.int a0)]) rfl pn_X8 rfl rfl (fun g el hg => ?_)
  unfold wM_isKm at hw
  refine x_iload_0 hg dX8_isKm_0 rfl ?_
  refine x_ic hg dX8_isKm_1 ic_0 rfl ?_
  refine x_bi hg dX8_isKm_2 bp_69 rfl ?_
  refine x_callSI hg (xM_in (gL g)  hw) sm_X8_in mi_X8_in ml_X8_57 rfl rfl (As := [.int a0, .int 0, .int 69]) rfl rfl rfl dX8_isKm_4 rfl (fun r1 s1 hw => ?_)
  exact x_zret hg dX8_isKm_7 hw.1 hw.2
def wM_thing (a1 : Int32) (a2 : Int32) (a3 : Int32) (s0 : Sg) (P : Int32 → Sg → Prop) : Prop := (wM_isKm a1 s0 (fun (r1 : Int32) (s1 : Sg) => ((r1 = 0 → (wM_error ((-1000000001)) s1 (fun (r2 : Int32) (s2 : Sg) => P r2 s2))) ∧ (¬ r1 = 0 → (wM_in a2 0 99 s1 (fun (r2 : Int32) (s2 : Sg) => ((r2 = 0 → (wM_error ((-1000000001)) s2 (fun (r3 : Int32) (s3 : Sg) => P r3 s3))) ∧ (¬ r2 = 0 → (wM_in a3 1 9 s2 (fun (r3 : Int32) (s3 : Sg) => ((¬ r3 = 0 → ((¬ (s3 1 2) = 9 → (∀ s4 : Sg, s4 = u2 s3 1 2 (((s3 1 2) + 1)) → (vp_in ((17 + (4 * (s3 1 2)))) 379 ∧ ∀ s5 : Sg, s5 = u2 s4 1 (ix ((17 + (4 * (s3 1 2))))) ((a1 / 10)) → (vp_in (((17 + (4 * (s3 1 2))) + 1)) 379 ∧ ∀ s6 : Sg, s6 = u2 s5 1 (ix (((17 + (4 * (s3 1 2))) + 1))) ((a1 - a1 / 10 * 10)) → (vp_in (((17 + (4 * (s3 1 2))) + 2)) 379 ∧ ∀ s7 : Sg, s7 = u2 s6 1 (ix (((17 + (4 * (s3 1 2))) + 2))) a2 → (vp_in (((17 + (4 * (s3 1 2))) + 3)) 379 ∧ ∀ s8 : Sg, s8 = u2 s7 1 (ix (((17 + (4 * (s3 1 2))) + 3))) a3 → (wM_goesOnTop ((s3 1 2)) s8 (fun (s9 : Sg) => P ((s3 1 2)) s9)))))))) ∧ ((s3 1 2) = 9 → (wM_error ((-1000000004)) s3 (fun (r4 : Int32) (s4 : Sg) => P r4 s4))))) ∧ (r3 = 0 → (wM_error ((-1000000001)) s3 (fun (r4 : Int32) (s4 : Sg) => P r4 s4))))))))))))))
set_option maxRecDepth 100000 in
set_option maxHeartbeats 4000000 in
theorem xM_thing {w : Wc} (l : Launch) {a1 : Int32} {a2 : Int32} {a3 : Int32} {s0 : Sg} {P : Int32 → Sg → Prop} (hw : wM_thing a1 a2 a3 s0 P) : CI shM w l 3 (.code yX8_thing cX8_thing 5 (some .int)) yX8_thing [.ref (ad w 0), .int a1, .int a2, .int a3] s0 P := by
  refine ci_of_i (own := "BagBottomModel") (ls0 := [some (.ref (ad w 0)), some (.int a1), some (.int a2), some (.int a3), none]) rfl pn_X8 rfl rfl (fun g el hg => ?_)
  unfold wM_thing at hw
  refine x_iload_1 hg dX8_thing_0 rfl ?_
  refine x_callSI hg (xM_isKm (gL g)  hw) sm_X8_isKm mi_X8_isKm ml_X8_73 rfl rfl (As := [.int a1]) rfl rfl rfl dX8_thing_1 rfl (fun r1 s1 hw => ?_)
  refine x_if_eq hg dX8_thing_4 (tg := 27) (by decide) rfl hw (fun hw => ?_) (fun hw => ?_)
  · refine x_aload_0 hg dX8_thing_27 rfl ?_
    refine x_ldc hg kc_X8_77 dX8_thing_28 rfl ?_
    refine x_callVI hg (xM_error (gL g)  hw) kM_0 (by decide) rfl im_X8_error se_X8_error mi_X8_error ml_X8_78 rfl rfl (As := [.int (-1000000001)]) rfl rfl rfl dX8_thing_30 rfl (fun r2 s2 hw => ?_)
    exact x_ret hg dX8_thing_33 hw
  · refine x_iload_2 hg dX8_thing_7 rfl ?_
    refine x_ic hg dX8_thing_8 ic_0 rfl ?_
    refine x_bi hg dX8_thing_9 bp_99 rfl ?_
    refine x_callSI hg (xM_in (gL g)  hw) sm_X8_in mi_X8_in ml_X8_57 rfl rfl (As := [.int a2, .int 0, .int 99]) rfl rfl rfl dX8_thing_11 rfl (fun r2 s2 hw => ?_)
    refine x_if_eq hg dX8_thing_14 (tg := 27) (by decide) rfl hw (fun hw => ?_) (fun hw => ?_)
    · refine x_aload_0 hg dX8_thing_27 rfl ?_
      refine x_ldc hg kc_X8_77 dX8_thing_28 rfl ?_
      refine x_callVI hg (xM_error (gL g)  hw) kM_0 (by decide) rfl im_X8_error se_X8_error mi_X8_error ml_X8_78 rfl rfl (As := [.int (-1000000001)]) rfl rfl rfl dX8_thing_30 rfl (fun r3 s3 hw => ?_)
      exact x_ret hg dX8_thing_33 hw
    · refine x_iload_3 hg dX8_thing_17 rfl ?_
      refine x_ic hg dX8_thing_18 ic_1 rfl ?_
      refine x_bi hg dX8_thing_19 bp_9 rfl ?_
      refine x_callSI hg (xM_in (gL g)  hw) sm_X8_in mi_X8_in ml_X8_57 rfl rfl (As := [.int a3, .int 1, .int 9]) rfl rfl rfl dX8_thing_21 rfl (fun r3 s3 hw => ?_)
      refine x_if_ne hg dX8_thing_24 (tg := 34) (by decide) rfl hw (fun hw => ?_) (fun hw => ?_)
      · refine x_aload_0 hg dX8_thing_34 rfl ?_
        refine get_X8_0 hg kM_0 fl_X8_9 dX8_thing_35 rfl (k2 := 1) rfl ?_
        refine x_ic hg dX8_thing_38 ic_2 rfl ?_
        refine x_ialdc hg kM_1 rfl vi_2_379 ix_2 dX8_thing_39 rfl ?_
        refine x_istore_4 hg dX8_thing_40 rfl rfl rfl ?_
        refine x_iload_4 hg dX8_thing_42 rfl ?_
        refine x_bi hg dX8_thing_44 bp_9 rfl ?_
        refine x_icmp_ne hg dX8_thing_46 (tg := 56) (by decide) rfl hw (fun hw => ?_) (fun hw => ?_)
        · refine x_aload_0 hg dX8_thing_56 rfl ?_
          refine get_X8_0 hg kM_0 fl_X8_9 dX8_thing_57 rfl (k2 := 1) rfl ?_
          refine x_ic hg dX8_thing_60 ic_2 rfl ?_
          refine x_dup2 hg dX8_thing_61 rfl rfl rfl ?_
          refine x_ialdc hg kM_1 rfl vi_2_379 ix_2 dX8_thing_62 rfl ?_
          refine x_ic hg dX8_thing_63 ic_1 rfl ?_
          refine x_iadd hg dX8_thing_64 rfl ?_
          refine x_iastc hg kM_1 rfl vi_2_379 ix_2 dX8_thing_65 rfl hw (fun s4 hw => ?_)
          refine x_aload_0 hg dX8_thing_66 rfl ?_
          refine get_X8_0 hg kM_0 fl_X8_9 dX8_thing_67 rfl (k2 := 1) rfl ?_
          refine x_bi hg dX8_thing_70 bp_17 rfl ?_
          refine x_ic hg dX8_thing_72 ic_4 rfl ?_
          refine x_iload_4 hg dX8_thing_73 rfl ?_
          refine x_imul hg dX8_thing_75 rfl ?_
          refine x_iadd hg dX8_thing_76 rfl ?_
          refine x_iload_1 hg dX8_thing_77 rfl ?_
          refine x_bi hg dX8_thing_78 bp_10 rfl ?_
          refine x_idiv hg dX8_thing_80 ne_10 rfl ?_
          refine x_iast hg kM_1 rfl dX8_thing_81 rfl hw (fun s5 hw => ?_)
          refine x_aload_0 hg dX8_thing_82 rfl ?_
          refine get_X8_0 hg kM_0 fl_X8_9 dX8_thing_83 rfl (k2 := 1) rfl ?_
          refine x_bi hg dX8_thing_86 bp_17 rfl ?_
          refine x_ic hg dX8_thing_88 ic_4 rfl ?_
          refine x_iload_4 hg dX8_thing_89 rfl ?_
          refine x_imul hg dX8_thing_91 rfl ?_
          refine x_iadd hg dX8_thing_92 rfl ?_
          refine x_ic hg dX8_thing_93 ic_1 rfl ?_
          refine x_iadd hg dX8_thing_94 rfl ?_
          refine x_iload_1 hg dX8_thing_95 rfl ?_
          refine x_bi hg dX8_thing_96 bp_10 rfl ?_
          refine x_irem hg dX8_thing_98 ne_10 rfl ?_
          refine x_iast hg kM_1 rfl dX8_thing_99 rfl hw (fun s6 hw => ?_)
          refine x_aload_0 hg dX8_thing_100 rfl ?_
          refine get_X8_0 hg kM_0 fl_X8_9 dX8_thing_101 rfl (k2 := 1) rfl ?_
          refine x_bi hg dX8_thing_104 bp_17 rfl ?_
          refine x_ic hg dX8_thing_106 ic_4 rfl ?_
          refine x_iload_4 hg dX8_thing_107 rfl ?_
          refine x_imul hg dX8_thing_109 rfl ?_
          refine x_iadd hg dX8_thing_110 rfl ?_
          refine x_ic hg dX8_thing_111 ic_2 rfl ?_
          refine x_iadd hg dX8_thing_112 rfl ?_
          refine x_iload_2 hg dX8_thing_113 rfl ?_
          refine x_iast hg kM_1 rfl dX8_thing_114 rfl hw (fun s7 hw => ?_)
          refine x_aload_0 hg dX8_thing_115 rfl ?_
          refine get_X8_0 hg kM_0 fl_X8_9 dX8_thing_116 rfl (k2 := 1) rfl ?_
          refine x_bi hg dX8_thing_119 bp_17 rfl ?_
          refine x_ic hg dX8_thing_121 ic_4 rfl ?_
          refine x_iload_4 hg dX8_thing_122 rfl ?_
          refine x_imul hg dX8_thing_124 rfl ?_
          refine x_iadd hg dX8_thing_125 rfl ?_
          refine x_ic hg dX8_thing_126 ic_3 rfl ?_
          refine x_iadd hg dX8_thing_127 rfl ?_
          refine x_iload_3 hg dX8_thing_128 rfl ?_
          refine x_iast hg kM_1 rfl dX8_thing_129 rfl hw (fun s8 hw => ?_)
          refine x_aload_0 hg dX8_thing_130 rfl ?_
          refine x_iload_4 hg dX8_thing_131 rfl ?_
          refine x_callVV hg (xM_goesOnTop (gL g)  hw) kM_0 (by decide) rfl im_X8_goesOnTop se_X8_goesOnTop mi_X8_goesOnTop ml_X8_82 rfl rfl (As := [.int (s3 1 2)]) rfl rfl rfl dX8_thing_133 rfl (fun s9 hw => ?_)
          refine x_iload_4 hg dX8_thing_136 rfl ?_
          exact x_ret hg dX8_thing_138 hw
        · refine x_aload_0 hg dX8_thing_49 rfl ?_
          refine x_ldc hg kc_X8_81 dX8_thing_50 rfl ?_
          refine x_callVI hg (xM_error (gL g)  hw) kM_0 (by decide) rfl im_X8_error se_X8_error mi_X8_error ml_X8_78 rfl rfl (As := [.int (-1000000004)]) rfl rfl rfl dX8_thing_52 rfl (fun r4 s4 hw => ?_)
          exact x_ret hg dX8_thing_55 hw
      · refine x_aload_0 hg dX8_thing_27 rfl ?_
        refine x_ldc hg kc_X8_77 dX8_thing_28 rfl ?_
        refine x_callVI hg (xM_error (gL g)  hw) kM_0 (by decide) rfl im_X8_error se_X8_error mi_X8_error ml_X8_78 rfl rfl (As := [.int (-1000000001)]) rfl rfl rfl dX8_thing_30 rfl (fun r4 s4 hw => ?_)
        exact x_ret hg dX8_thing_33 hw
def wM_thingIs (a1 : Int32) (a2 : Int32) (s0 : Sg) (P : Int32 → Sg → Prop) : Prop := (wM_isThing a1 s0 (fun (r1 : Int32) (s1 : Sg) => ((r1 = 0 → (wM_error ((-1000000001)) s1 (fun (r2 : Int32) (s2 : Sg) => P r2 s2))) ∧ (¬ r1 = 0 → (wM_in a2 0 6 s1 (fun (r2 : Int32) (s2 : Sg) => ((¬ r2 = 0 → ((4 ≤ a2 → ((¬ a2 = 4 → ((¬ a2 = 5 → (wM_feelsOf a1 s2 (fun (r3 : Int32) (s3 : Sg) => P r3 s3))) ∧ (a2 = 5 → (wM_sinksOf a1 s2 (fun (r3 : Int32) (s3 : Sg) => P r3 s3))))) ∧ (a2 = 4 → (wM_whereIs a1 s2 (fun (r3 : Int32) (s3 : Sg) => P r3 s3))))) ∧ (¬ 4 ≤ a2 → (wM_of a1 a2 s2 (fun (r3 : Int32) (s3 : Sg) => P r3 s3))))) ∧ (r2 = 0 → (wM_error ((-1000000001)) s2 (fun (r3 : Int32) (s3 : Sg) => P r3 s3))))))))))
set_option maxRecDepth 100000 in
set_option maxHeartbeats 4000000 in
theorem xM_thingIs {w : Wc} (l : Launch) {a1 : Int32} {a2 : Int32} {s0 : Sg} {P : Int32 → Sg → Prop} (hw : wM_thingIs a1 a2 s0 P) : CI shM w l 3 (.code yX8_thingIs cX8_thingIs 3 (some .int)) yX8_thingIs [.ref (ad w 0), .int a1, .int a2] s0 P := by
  refine ci_of_i (own := "BagBottomModel") (ls0 := [some (.ref (ad w 0)), some (.int a1), some (.int a2)]) rfl pn_X8 rfl rfl (fun g el hg => ?_)
  unfold wM_thingIs at hw
  refine x_aload_0 hg dX8_thingIs_0 rfl ?_
  refine x_iload_1 hg dX8_thingIs_1 rfl ?_
  refine x_callVI hg (xM_isThing (gL g)  hw) kM_0 (by decide) rfl im_X8_isThing se_X8_isThing mi_X8_isThing ml_X8_86 rfl rfl (As := [.int a1]) rfl rfl rfl dX8_thingIs_2 rfl (fun r1 s1 hw => ?_)
  refine x_if_eq hg dX8_thingIs_5 (tg := 18) (by decide) rfl hw (fun hw => ?_) (fun hw => ?_)
  · refine x_aload_0 hg dX8_thingIs_18 rfl ?_
    refine x_ldc hg kc_X8_77 dX8_thingIs_19 rfl ?_
    refine x_callVI hg (xM_error (gL g)  hw) kM_0 (by decide) rfl im_X8_error se_X8_error mi_X8_error ml_X8_78 rfl rfl (As := [.int (-1000000001)]) rfl rfl rfl dX8_thingIs_21 rfl (fun r2 s2 hw => ?_)
    exact x_ret hg dX8_thingIs_24 hw
  · refine x_iload_2 hg dX8_thingIs_8 rfl ?_
    refine x_ic hg dX8_thingIs_9 ic_0 rfl ?_
    refine x_bi hg dX8_thingIs_10 bp_6 rfl ?_
    refine x_callSI hg (xM_in (gL g)  hw) sm_X8_in mi_X8_in ml_X8_57 rfl rfl (As := [.int a2, .int 0, .int 6]) rfl rfl rfl dX8_thingIs_12 rfl (fun r2 s2 hw => ?_)
    refine x_if_ne hg dX8_thingIs_15 (tg := 25) (by decide) rfl hw (fun hw => ?_) (fun hw => ?_)
    · refine x_iload_2 hg dX8_thingIs_25 rfl ?_
      refine x_ic hg dX8_thingIs_26 ic_4 rfl ?_
      refine x_icmp_ge hg dX8_thingIs_27 (tg := 39) (by decide) rfl hw (fun hw => ?_) (fun hw => ?_)
      · refine x_iload_2 hg dX8_thingIs_39 rfl ?_
        refine x_ic hg dX8_thingIs_40 ic_4 rfl ?_
        refine x_icmp_ne hg dX8_thingIs_41 (tg := 52) (by decide) rfl hw (fun hw => ?_) (fun hw => ?_)
        · refine x_iload_2 hg dX8_thingIs_52 rfl ?_
          refine x_ic hg dX8_thingIs_53 ic_5 rfl ?_
          refine x_icmp_ne hg dX8_thingIs_54 (tg := 65) (by decide) rfl hw (fun hw => ?_) (fun hw => ?_)
          · refine x_aload_0 hg dX8_thingIs_65 rfl ?_
            refine x_iload_1 hg dX8_thingIs_66 rfl ?_
            refine x_callVI hg (xM_feelsOf (gL g)  hw) kM_0 (by decide) rfl im_X8_feelsOf se_X8_feelsOf mi_X8_feelsOf ml_X8_92 rfl rfl (As := [.int a1]) rfl rfl rfl dX8_thingIs_67 rfl (fun r3 s3 hw => ?_)
            exact x_ret hg dX8_thingIs_70 hw
          · refine x_aload_0 hg dX8_thingIs_57 rfl ?_
            refine x_iload_1 hg dX8_thingIs_58 rfl ?_
            refine x_callVI hg (xM_sinksOf (gL g)  hw) kM_0 (by decide) rfl im_X8_sinksOf se_X8_sinksOf mi_X8_sinksOf ml_X8_65 rfl rfl (As := [.int a1]) rfl rfl rfl dX8_thingIs_59 rfl (fun r3 s3 hw => ?_)
            refine x_goto hg dX8_thingIs_62 (pc' := 70) (by decide) ?_
            exact x_ret hg dX8_thingIs_70 hw
        · refine x_aload_0 hg dX8_thingIs_44 rfl ?_
          refine x_iload_1 hg dX8_thingIs_45 rfl ?_
          refine x_callVI hg (xM_whereIs (gL g)  hw) kM_0 (by decide) rfl im_X8_whereIs se_X8_whereIs mi_X8_whereIs ml_X8_89 rfl rfl (As := [.int a1]) rfl rfl rfl dX8_thingIs_46 rfl (fun r3 s3 hw => ?_)
          refine x_goto hg dX8_thingIs_49 (pc' := 70) (by decide) ?_
          exact x_ret hg dX8_thingIs_70 hw
      · refine x_aload_0 hg dX8_thingIs_30 rfl ?_
        refine x_iload_1 hg dX8_thingIs_31 rfl ?_
        refine x_iload_2 hg dX8_thingIs_32 rfl ?_
        refine x_callVI hg (xM_of (gL g)  hw) kM_0 (by decide) rfl im_X8_of se_X8_of mi_X8_of ml_X8_61 rfl rfl (As := [.int a1, .int a2]) rfl rfl rfl dX8_thingIs_33 rfl (fun r3 s3 hw => ?_)
        refine x_goto hg dX8_thingIs_36 (pc' := 70) (by decide) ?_
        exact x_ret hg dX8_thingIs_70 hw
    · refine x_aload_0 hg dX8_thingIs_18 rfl ?_
      refine x_ldc hg kc_X8_77 dX8_thingIs_19 rfl ?_
      refine x_callVI hg (xM_error (gL g)  hw) kM_0 (by decide) rfl im_X8_error se_X8_error mi_X8_error ml_X8_78 rfl rfl (As := [.int (-1000000001)]) rfl rfl rfl dX8_thingIs_21 rfl (fun r3 s3 hw => ?_)
      exact x_ret hg dX8_thingIs_24 hw
def wM_become (a1 : Int32) (a2 : Int32) (s0 : Sg) (P : Int32 → Sg → Prop) : Prop := (wM_isThing a1 s0 (fun (r1 : Int32) (s1 : Sg) => ((r1 = 0 → (wM_error ((-1000000001)) s1 (fun (r2 : Int32) (s2 : Sg) => P r2 s2))) ∧ (¬ r1 = 0 → (wM_isKm a2 s1 (fun (r2 : Int32) (s2 : Sg) => ((¬ r2 = 0 → (vp_in (((17 + (4 * a1)) + 1)) 379 ∧ ∀ s3 : Sg, s3 = u2 s2 1 (ix (((17 + (4 * a1)) + 1))) ((a2 - a2 / 10 * 10)) → (wM_becomes ((17 + (4 * a1))) ((a2 / 10)) s3 (fun (r3 : Int32) (s4 : Sg) => P r3 s4)))) ∧ (r2 = 0 → (wM_error ((-1000000001)) s2 (fun (r3 : Int32) (s3 : Sg) => P r3 s3))))))))))
set_option maxRecDepth 100000 in
set_option maxHeartbeats 4000000 in
theorem xM_become {w : Wc} (l : Launch) {a1 : Int32} {a2 : Int32} {s0 : Sg} {P : Int32 → Sg → Prop} (hw : wM_become a1 a2 s0 P) : CI shM w l 3 (.code yX8_become cX8_become 3 (some .int)) yX8_become [.ref (ad w 0), .int a1, .int a2] s0 P := by
  refine ci_of_i (own := "BagBottomModel") (ls0 := [some (.ref (ad w 0)), some (.int a1), some (.int a2)]) rfl pn_X8 rfl rfl (fun g el hg => ?_)
  unfold wM_become at hw
  refine x_aload_0 hg dX8_become_0 rfl ?_
  refine x_iload_1 hg dX8_become_1 rfl ?_
  refine x_callVI hg (xM_isThing (gL g)  hw) kM_0 (by decide) rfl im_X8_isThing se_X8_isThing mi_X8_isThing ml_X8_86 rfl rfl (As := [.int a1]) rfl rfl rfl dX8_become_2 rfl (fun r1 s1 hw => ?_)
  refine x_if_eq hg dX8_become_5 (tg := 15) (by decide) rfl hw (fun hw => ?_) (fun hw => ?_)
  · refine x_aload_0 hg dX8_become_15 rfl ?_
    refine x_ldc hg kc_X8_77 dX8_become_16 rfl ?_
    refine x_callVI hg (xM_error (gL g)  hw) kM_0 (by decide) rfl im_X8_error se_X8_error mi_X8_error ml_X8_78 rfl rfl (As := [.int (-1000000001)]) rfl rfl rfl dX8_become_18 rfl (fun r2 s2 hw => ?_)
    exact x_ret hg dX8_become_21 hw
  · refine x_iload_2 hg dX8_become_8 rfl ?_
    refine x_callSI hg (xM_isKm (gL g)  hw) sm_X8_isKm mi_X8_isKm ml_X8_73 rfl rfl (As := [.int a2]) rfl rfl rfl dX8_become_9 rfl (fun r2 s2 hw => ?_)
    refine x_if_ne hg dX8_become_12 (tg := 22) (by decide) rfl hw (fun hw => ?_) (fun hw => ?_)
    · refine x_aload_0 hg dX8_become_22 rfl ?_
      refine get_X8_0 hg kM_0 fl_X8_9 dX8_become_23 rfl (k2 := 1) rfl ?_
      refine x_bi hg dX8_become_26 bp_17 rfl ?_
      refine x_ic hg dX8_become_28 ic_4 rfl ?_
      refine x_iload_1 hg dX8_become_29 rfl ?_
      refine x_imul hg dX8_become_30 rfl ?_
      refine x_iadd hg dX8_become_31 rfl ?_
      refine x_ic hg dX8_become_32 ic_1 rfl ?_
      refine x_iadd hg dX8_become_33 rfl ?_
      refine x_iload_2 hg dX8_become_34 rfl ?_
      refine x_bi hg dX8_become_35 bp_10 rfl ?_
      refine x_irem hg dX8_become_37 ne_10 rfl ?_
      refine x_iast hg kM_1 rfl dX8_become_38 rfl hw (fun s3 hw => ?_)
      refine x_aload_0 hg dX8_become_39 rfl ?_
      refine x_bi hg dX8_become_40 bp_17 rfl ?_
      refine x_ic hg dX8_become_42 ic_4 rfl ?_
      refine x_iload_1 hg dX8_become_43 rfl ?_
      refine x_imul hg dX8_become_44 rfl ?_
      refine x_iadd hg dX8_become_45 rfl ?_
      refine x_iload_2 hg dX8_become_46 rfl ?_
      refine x_bi hg dX8_become_47 bp_10 rfl ?_
      refine x_idiv hg dX8_become_49 ne_10 rfl ?_
      refine x_callVI hg (xM_becomes (gL g)  hw) kM_0 (by decide) rfl im_X8_becomes se_X8_becomes mi_X8_becomes ml_X8_95 rfl rfl (As := [.int (17 + (4 * a1)), .int (a2 / 10)]) rfl rfl rfl dX8_become_50 rfl (fun r3 s4 hw => ?_)
      exact x_ret hg dX8_become_53 hw
    · refine x_aload_0 hg dX8_become_15 rfl ?_
      refine x_ldc hg kc_X8_77 dX8_become_16 rfl ?_
      refine x_callVI hg (xM_error (gL g)  hw) kM_0 (by decide) rfl im_X8_error se_X8_error mi_X8_error ml_X8_78 rfl rfl (As := [.int (-1000000001)]) rfl rfl rfl dX8_become_18 rfl (fun r3 s3 hw => ?_)
      exact x_ret hg dX8_become_21 hw
def wM_as (a1 : Int32) (a2 : Int32) (s0 : Sg) (P : Int32 → Sg → Prop) : Prop := (wM_isThing a1 s0 (fun (r1 : Int32) (s1 : Sg) => ((r1 = 0 → (wM_error ((-1000000001)) s1 (fun (r2 : Int32) (s2 : Sg) => P r2 s2))) ∧ (¬ r1 = 0 → (wM_in a2 0 6 s1 (fun (r2 : Int32) (s2 : Sg) => ((¬ r2 = 0 → (wM_of a1 0 s2 (fun (r3 : Int32) (s3 : Sg) => ((a2 = 0 → (wM_of a1 1 s3 (fun (r4 : Int32) (s4 : Sg) => P r4 s4))) ∧ (¬ a2 = 0 → ((a2 = r3 → (wM_of a1 1 s3 (fun (r4 : Int32) (s4 : Sg) => P r4 s4))) ∧ (¬ a2 = r3 → ((¬ a2 = 1 → ((¬ a2 = 2 → (wM_error ((-1000000005)) s3 (fun (r4 : Int32) (s4 : Sg) => P r4 s4))) ∧ (a2 = 2 → ((¬ r3 = 5 → (wM_error ((-1000000005)) s3 (fun (r4 : Int32) (s4 : Sg) => P r4 s4))) ∧ (r3 = 5 → (wM_of a1 1 s3 (fun (r4 : Int32) (s4 : Sg) => P r4 s4))))))) ∧ (a2 = 1 → ((r3 = 4 → (wM_of a1 1 s3 (fun (r4 : Int32) (s4 : Sg) => P r4 s4))) ∧ (¬ r3 = 4 → ((¬ a2 = 2 → (wM_error ((-1000000005)) s3 (fun (r4 : Int32) (s4 : Sg) => P r4 s4))) ∧ (a2 = 2 → ((¬ r3 = 5 → (wM_error ((-1000000005)) s3 (fun (r4 : Int32) (s4 : Sg) => P r4 s4))) ∧ (r3 = 5 → (wM_of a1 1 s3 (fun (r4 : Int32) (s4 : Sg) => P r4 s4))))))))))))))))) ∧ (r2 = 0 → (wM_error ((-1000000001)) s2 (fun (r3 : Int32) (s3 : Sg) => P r3 s3))))))))))
set_option maxRecDepth 100000 in
set_option maxHeartbeats 4000000 in
theorem xM_as {w : Wc} (l : Launch) {a1 : Int32} {a2 : Int32} {s0 : Sg} {P : Int32 → Sg → Prop} (hw : wM_as a1 a2 s0 P) : CI shM w l 3 (.code yX8_as cX8_as 5 (some .int)) yX8_as [.ref (ad w 0), .int a1, .int a2] s0 P := by
  refine ci_of_i (own := "BagBottomModel") (ls0 := [some (.ref (ad w 0)), some (.int a1), some (.int a2), none, none]) rfl pn_X8 rfl rfl (fun g el hg => ?_)
  unfold wM_as at hw
  refine x_aload_0 hg dX8_as_0 rfl ?_
  refine x_iload_1 hg dX8_as_1 rfl ?_
  refine x_callVI hg (xM_isThing (gL g)  hw) kM_0 (by decide) rfl im_X8_isThing se_X8_isThing mi_X8_isThing ml_X8_86 rfl rfl (As := [.int a1]) rfl rfl rfl dX8_as_2 rfl (fun r1 s1 hw => ?_)
  refine x_if_eq hg dX8_as_5 (tg := 18) (by decide) rfl hw (fun hw => ?_) (fun hw => ?_)
  · refine x_aload_0 hg dX8_as_18 rfl ?_
    refine x_ldc hg kc_X8_77 dX8_as_19 rfl ?_
    refine x_callVI hg (xM_error (gL g)  hw) kM_0 (by decide) rfl im_X8_error se_X8_error mi_X8_error ml_X8_78 rfl rfl (As := [.int (-1000000001)]) rfl rfl rfl dX8_as_21 rfl (fun r2 s2 hw => ?_)
    exact x_ret hg dX8_as_24 hw
  · refine x_iload_2 hg dX8_as_8 rfl ?_
    refine x_ic hg dX8_as_9 ic_0 rfl ?_
    refine x_bi hg dX8_as_10 bp_6 rfl ?_
    refine x_callSI hg (xM_in (gL g)  hw) sm_X8_in mi_X8_in ml_X8_57 rfl rfl (As := [.int a2, .int 0, .int 6]) rfl rfl rfl dX8_as_12 rfl (fun r2 s2 hw => ?_)
    refine x_if_ne hg dX8_as_15 (tg := 25) (by decide) rfl hw (fun hw => ?_) (fun hw => ?_)
    · refine x_aload_0 hg dX8_as_25 rfl ?_
      refine x_iload_1 hg dX8_as_26 rfl ?_
      refine x_ic hg dX8_as_27 ic_0 rfl ?_
      refine x_callVI hg (xM_of (gL g)  hw) kM_0 (by decide) rfl im_X8_of se_X8_of mi_X8_of ml_X8_61 rfl rfl (As := [.int a1, .int 0]) rfl rfl rfl dX8_as_28 rfl (fun r3 s3 hw => ?_)
      refine x_istore_3 hg dX8_as_31 rfl rfl rfl ?_
      refine x_iload_2 hg dX8_as_32 rfl ?_
      refine x_if_eq hg dX8_as_33 (tg := 61) (by decide) rfl hw (fun hw => ?_) (fun hw => ?_)
      · refine x_ic hg dX8_as_61 ic_1 rfl ?_
        refine x_goto hg dX8_as_62 (pc' := 66) (by decide) ?_
        refine x_istore_4 hg dX8_as_66 rfl rfl rfl ?_
        refine x_iload_4 hg dX8_as_68 rfl ?_
        refine x_if_eq hg dX8_as_70 (tg := 82) (by decide) rfl ⟨fun h => (show False from absurd h (by decide)), fun _ => hw⟩ (fun hw => False.elim hw) (fun hw => ?_)
        refine x_aload_0 hg dX8_as_73 rfl ?_
        refine x_iload_1 hg dX8_as_74 rfl ?_
        refine x_ic hg dX8_as_75 ic_1 rfl ?_
        refine x_callVI hg (xM_of (gL g)  hw) kM_0 (by decide) rfl im_X8_of se_X8_of mi_X8_of ml_X8_61 rfl rfl (As := [.int a1, .int 1]) rfl rfl rfl dX8_as_76 rfl (fun r4 s4 hw => ?_)
        refine x_goto hg dX8_as_79 (pc' := 88) (by decide) ?_
        exact x_ret hg dX8_as_88 hw
      · refine x_iload_2 hg dX8_as_36 rfl ?_
        refine x_iload_3 hg dX8_as_37 rfl ?_
        refine x_icmp_eq hg dX8_as_38 (tg := 61) (by decide) rfl hw (fun hw => ?_) (fun hw => ?_)
        · refine x_ic hg dX8_as_61 ic_1 rfl ?_
          refine x_goto hg dX8_as_62 (pc' := 66) (by decide) ?_
          refine x_istore_4 hg dX8_as_66 rfl rfl rfl ?_
          refine x_iload_4 hg dX8_as_68 rfl ?_
          refine x_if_eq hg dX8_as_70 (tg := 82) (by decide) rfl ⟨fun h => (show False from absurd h (by decide)), fun _ => hw⟩ (fun hw => False.elim hw) (fun hw => ?_)
          refine x_aload_0 hg dX8_as_73 rfl ?_
          refine x_iload_1 hg dX8_as_74 rfl ?_
          refine x_ic hg dX8_as_75 ic_1 rfl ?_
          refine x_callVI hg (xM_of (gL g)  hw) kM_0 (by decide) rfl im_X8_of se_X8_of mi_X8_of ml_X8_61 rfl rfl (As := [.int a1, .int 1]) rfl rfl rfl dX8_as_76 rfl (fun r4 s4 hw => ?_)
          refine x_goto hg dX8_as_79 (pc' := 88) (by decide) ?_
          exact x_ret hg dX8_as_88 hw
        · refine x_iload_2 hg dX8_as_41 rfl ?_
          refine x_ic hg dX8_as_42 ic_1 rfl ?_
          refine x_icmp_ne hg dX8_as_43 (tg := 51) (by decide) rfl hw (fun hw => ?_) (fun hw => ?_)
          · refine x_iload_2 hg dX8_as_51 rfl ?_
            refine x_ic hg dX8_as_52 ic_2 rfl ?_
            refine x_icmp_ne hg dX8_as_53 (tg := 65) (by decide) rfl hw (fun hw => ?_) (fun hw => ?_)
            · refine x_ic hg dX8_as_65 ic_0 rfl ?_
              refine x_istore_4 hg dX8_as_66 rfl rfl rfl ?_
              refine x_iload_4 hg dX8_as_68 rfl ?_
              refine x_if_eq hg dX8_as_70 (tg := 82) (by decide) rfl ⟨fun _ => hw, fun h => (show False from absurd h (by decide))⟩ (fun hw => ?_) (fun hw => False.elim hw)
              refine x_aload_0 hg dX8_as_82 rfl ?_
              refine x_ldc hg kc_X8_98 dX8_as_83 rfl ?_
              refine x_callVI hg (xM_error (gL g)  hw) kM_0 (by decide) rfl im_X8_error se_X8_error mi_X8_error ml_X8_78 rfl rfl (As := [.int (-1000000005)]) rfl rfl rfl dX8_as_85 rfl (fun r4 s4 hw => ?_)
              exact x_ret hg dX8_as_88 hw
            · refine x_iload_3 hg dX8_as_56 rfl ?_
              refine x_ic hg dX8_as_57 ic_5 rfl ?_
              refine x_icmp_ne hg dX8_as_58 (tg := 65) (by decide) rfl hw (fun hw => ?_) (fun hw => ?_)
              · refine x_ic hg dX8_as_65 ic_0 rfl ?_
                refine x_istore_4 hg dX8_as_66 rfl rfl rfl ?_
                refine x_iload_4 hg dX8_as_68 rfl ?_
                refine x_if_eq hg dX8_as_70 (tg := 82) (by decide) rfl ⟨fun _ => hw, fun h => (show False from absurd h (by decide))⟩ (fun hw => ?_) (fun hw => False.elim hw)
                refine x_aload_0 hg dX8_as_82 rfl ?_
                refine x_ldc hg kc_X8_98 dX8_as_83 rfl ?_
                refine x_callVI hg (xM_error (gL g)  hw) kM_0 (by decide) rfl im_X8_error se_X8_error mi_X8_error ml_X8_78 rfl rfl (As := [.int (-1000000005)]) rfl rfl rfl dX8_as_85 rfl (fun r4 s4 hw => ?_)
                exact x_ret hg dX8_as_88 hw
              · refine x_ic hg dX8_as_61 ic_1 rfl ?_
                refine x_goto hg dX8_as_62 (pc' := 66) (by decide) ?_
                refine x_istore_4 hg dX8_as_66 rfl rfl rfl ?_
                refine x_iload_4 hg dX8_as_68 rfl ?_
                refine x_if_eq hg dX8_as_70 (tg := 82) (by decide) rfl ⟨fun h => (show False from absurd h (by decide)), fun _ => hw⟩ (fun hw => False.elim hw) (fun hw => ?_)
                refine x_aload_0 hg dX8_as_73 rfl ?_
                refine x_iload_1 hg dX8_as_74 rfl ?_
                refine x_ic hg dX8_as_75 ic_1 rfl ?_
                refine x_callVI hg (xM_of (gL g)  hw) kM_0 (by decide) rfl im_X8_of se_X8_of mi_X8_of ml_X8_61 rfl rfl (As := [.int a1, .int 1]) rfl rfl rfl dX8_as_76 rfl (fun r4 s4 hw => ?_)
                refine x_goto hg dX8_as_79 (pc' := 88) (by decide) ?_
                exact x_ret hg dX8_as_88 hw
          · refine x_iload_3 hg dX8_as_46 rfl ?_
            refine x_ic hg dX8_as_47 ic_4 rfl ?_
            refine x_icmp_eq hg dX8_as_48 (tg := 61) (by decide) rfl hw (fun hw => ?_) (fun hw => ?_)
            · refine x_ic hg dX8_as_61 ic_1 rfl ?_
              refine x_goto hg dX8_as_62 (pc' := 66) (by decide) ?_
              refine x_istore_4 hg dX8_as_66 rfl rfl rfl ?_
              refine x_iload_4 hg dX8_as_68 rfl ?_
              refine x_if_eq hg dX8_as_70 (tg := 82) (by decide) rfl ⟨fun h => (show False from absurd h (by decide)), fun _ => hw⟩ (fun hw => False.elim hw) (fun hw => ?_)
              refine x_aload_0 hg dX8_as_73 rfl ?_
              refine x_iload_1 hg dX8_as_74 rfl ?_
              refine x_ic hg dX8_as_75 ic_1 rfl ?_
              refine x_callVI hg (xM_of (gL g)  hw) kM_0 (by decide) rfl im_X8_of se_X8_of mi_X8_of ml_X8_61 rfl rfl (As := [.int a1, .int 1]) rfl rfl rfl dX8_as_76 rfl (fun r4 s4 hw => ?_)
              refine x_goto hg dX8_as_79 (pc' := 88) (by decide) ?_
              exact x_ret hg dX8_as_88 hw
            · refine x_iload_2 hg dX8_as_51 rfl ?_
              refine x_ic hg dX8_as_52 ic_2 rfl ?_
              refine x_icmp_ne hg dX8_as_53 (tg := 65) (by decide) rfl hw (fun hw => ?_) (fun hw => ?_)
              · refine x_ic hg dX8_as_65 ic_0 rfl ?_
                refine x_istore_4 hg dX8_as_66 rfl rfl rfl ?_
                refine x_iload_4 hg dX8_as_68 rfl ?_
                refine x_if_eq hg dX8_as_70 (tg := 82) (by decide) rfl ⟨fun _ => hw, fun h => (show False from absurd h (by decide))⟩ (fun hw => ?_) (fun hw => False.elim hw)
                refine x_aload_0 hg dX8_as_82 rfl ?_
                refine x_ldc hg kc_X8_98 dX8_as_83 rfl ?_
                refine x_callVI hg (xM_error (gL g)  hw) kM_0 (by decide) rfl im_X8_error se_X8_error mi_X8_error ml_X8_78 rfl rfl (As := [.int (-1000000005)]) rfl rfl rfl dX8_as_85 rfl (fun r4 s4 hw => ?_)
                exact x_ret hg dX8_as_88 hw
              · refine x_iload_3 hg dX8_as_56 rfl ?_
                refine x_ic hg dX8_as_57 ic_5 rfl ?_
                refine x_icmp_ne hg dX8_as_58 (tg := 65) (by decide) rfl hw (fun hw => ?_) (fun hw => ?_)
                · refine x_ic hg dX8_as_65 ic_0 rfl ?_
                  refine x_istore_4 hg dX8_as_66 rfl rfl rfl ?_
                  refine x_iload_4 hg dX8_as_68 rfl ?_
                  refine x_if_eq hg dX8_as_70 (tg := 82) (by decide) rfl ⟨fun _ => hw, fun h => (show False from absurd h (by decide))⟩ (fun hw => ?_) (fun hw => False.elim hw)
                  refine x_aload_0 hg dX8_as_82 rfl ?_
                  refine x_ldc hg kc_X8_98 dX8_as_83 rfl ?_
                  refine x_callVI hg (xM_error (gL g)  hw) kM_0 (by decide) rfl im_X8_error se_X8_error mi_X8_error ml_X8_78 rfl rfl (As := [.int (-1000000005)]) rfl rfl rfl dX8_as_85 rfl (fun r4 s4 hw => ?_)
                  exact x_ret hg dX8_as_88 hw
                · refine x_ic hg dX8_as_61 ic_1 rfl ?_
                  refine x_goto hg dX8_as_62 (pc' := 66) (by decide) ?_
                  refine x_istore_4 hg dX8_as_66 rfl rfl rfl ?_
                  refine x_iload_4 hg dX8_as_68 rfl ?_
                  refine x_if_eq hg dX8_as_70 (tg := 82) (by decide) rfl ⟨fun h => (show False from absurd h (by decide)), fun _ => hw⟩ (fun hw => False.elim hw) (fun hw => ?_)
                  refine x_aload_0 hg dX8_as_73 rfl ?_
                  refine x_iload_1 hg dX8_as_74 rfl ?_
                  refine x_ic hg dX8_as_75 ic_1 rfl ?_
                  refine x_callVI hg (xM_of (gL g)  hw) kM_0 (by decide) rfl im_X8_of se_X8_of mi_X8_of ml_X8_61 rfl rfl (As := [.int a1, .int 1]) rfl rfl rfl dX8_as_76 rfl (fun r4 s4 hw => ?_)
                  refine x_goto hg dX8_as_79 (pc' := 88) (by decide) ?_
                  exact x_ret hg dX8_as_88 hw
    · refine x_aload_0 hg dX8_as_18 rfl ?_
      refine x_ldc hg kc_X8_77 dX8_as_19 rfl ?_
      refine x_callVI hg (xM_error (gL g)  hw) kM_0 (by decide) rfl im_X8_error se_X8_error mi_X8_error ml_X8_78 rfl rfl (As := [.int (-1000000001)]) rfl rfl rfl dX8_as_21 rfl (fun r3 s3 hw => ?_)
      exact x_ret hg dX8_as_24 hw
def wM_weigh (a1 : Int32) (a2 : Int32) (s0 : Sg) (P : Int32 → Sg → Prop) : Prop := (wM_isThing a1 s0 (fun (r1 : Int32) (s1 : Sg) => ((r1 = 0 → (wM_error ((-1000000001)) s1 (fun (r2 : Int32) (s2 : Sg) => P r2 s2))) ∧ (¬ r1 = 0 → (wM_in a2 0 99 s1 (fun (r2 : Int32) (s2 : Sg) => ((r2 = 0 → (wM_error ((-1000000001)) s2 (fun (r3 : Int32) (s3 : Sg) => P r3 s3))) ∧ (¬ r2 = 0 → (wM_becomes (((17 + (4 * a1)) + 2)) a2 s2 (fun (r3 : Int32) (s3 : Sg) => P r3 s3))))))))))
set_option maxRecDepth 100000 in
set_option maxHeartbeats 4000000 in
theorem xM_weigh {w : Wc} (l : Launch) {a1 : Int32} {a2 : Int32} {s0 : Sg} {P : Int32 → Sg → Prop} (hw : wM_weigh a1 a2 s0 P) : CI shM w l 3 (.code yX8_weigh cX8_weigh 3 (some .int)) yX8_weigh [.ref (ad w 0), .int a1, .int a2] s0 P := by
  refine ci_of_i (own := "BagBottomModel") (ls0 := [some (.ref (ad w 0)), some (.int a1), some (.int a2)]) rfl pn_X8 rfl rfl (fun g el hg => ?_)
  unfold wM_weigh at hw
  refine x_aload_0 hg dX8_weigh_0 rfl ?_
  refine x_iload_1 hg dX8_weigh_1 rfl ?_
  refine x_callVI hg (xM_isThing (gL g)  hw) kM_0 (by decide) rfl im_X8_isThing se_X8_isThing mi_X8_isThing ml_X8_86 rfl rfl (As := [.int a1]) rfl rfl rfl dX8_weigh_2 rfl (fun r1 s1 hw => ?_)
  refine x_if_eq hg dX8_weigh_5 (tg := 34) (by decide) rfl hw (fun hw => ?_) (fun hw => ?_)
  · refine x_aload_0 hg dX8_weigh_34 rfl ?_
    refine x_ldc hg kc_X8_77 dX8_weigh_35 rfl ?_
    refine x_callVI hg (xM_error (gL g)  hw) kM_0 (by decide) rfl im_X8_error se_X8_error mi_X8_error ml_X8_78 rfl rfl (As := [.int (-1000000001)]) rfl rfl rfl dX8_weigh_37 rfl (fun r2 s2 hw => ?_)
    exact x_ret hg dX8_weigh_40 hw
  · refine x_iload_2 hg dX8_weigh_8 rfl ?_
    refine x_ic hg dX8_weigh_9 ic_0 rfl ?_
    refine x_bi hg dX8_weigh_10 bp_99 rfl ?_
    refine x_callSI hg (xM_in (gL g)  hw) sm_X8_in mi_X8_in ml_X8_57 rfl rfl (As := [.int a2, .int 0, .int 99]) rfl rfl rfl dX8_weigh_12 rfl (fun r2 s2 hw => ?_)
    refine x_if_eq hg dX8_weigh_15 (tg := 34) (by decide) rfl hw (fun hw => ?_) (fun hw => ?_)
    · refine x_aload_0 hg dX8_weigh_34 rfl ?_
      refine x_ldc hg kc_X8_77 dX8_weigh_35 rfl ?_
      refine x_callVI hg (xM_error (gL g)  hw) kM_0 (by decide) rfl im_X8_error se_X8_error mi_X8_error ml_X8_78 rfl rfl (As := [.int (-1000000001)]) rfl rfl rfl dX8_weigh_37 rfl (fun r3 s3 hw => ?_)
      exact x_ret hg dX8_weigh_40 hw
    · refine x_aload_0 hg dX8_weigh_18 rfl ?_
      refine x_bi hg dX8_weigh_19 bp_17 rfl ?_
      refine x_ic hg dX8_weigh_21 ic_4 rfl ?_
      refine x_iload_1 hg dX8_weigh_22 rfl ?_
      refine x_imul hg dX8_weigh_23 rfl ?_
      refine x_iadd hg dX8_weigh_24 rfl ?_
      refine x_ic hg dX8_weigh_25 ic_2 rfl ?_
      refine x_iadd hg dX8_weigh_26 rfl ?_
      refine x_iload_2 hg dX8_weigh_27 rfl ?_
      refine x_callVI hg (xM_becomes (gL g)  hw) kM_0 (by decide) rfl im_X8_becomes se_X8_becomes mi_X8_becomes ml_X8_95 rfl rfl (As := [.int ((17 + (4 * a1)) + 2), .int a2]) rfl rfl rfl dX8_weigh_28 rfl (fun r3 s3 hw => ?_)
      refine x_goto hg dX8_weigh_31 (pc' := 40) (by decide) ?_
      exact x_ret hg dX8_weigh_40 hw
def wM_at (a1 : Int32) (s0 : Sg) (P : Int32 → Sg → Prop) : Prop := (wM_in a1 0 (((s0 1 3) - 1)) s0 (fun (r1 : Int32) (s1 : Sg) => ((r1 = 0 → (wM_error ((-1000000001)) s1 (fun (r2 : Int32) (s2 : Sg) => P r2 s2))) ∧ (¬ r1 = 0 → (vp_in ((8 + a1)) 379 ∧ P ((s1 1 (ix ((8 + a1))))) s1)))))
set_option maxRecDepth 100000 in
set_option maxHeartbeats 4000000 in
theorem xM_at {w : Wc} (l : Launch) {a1 : Int32} {s0 : Sg} {P : Int32 → Sg → Prop} (hw : wM_at a1 s0 P) : CI shM w l 2 (.code yX8_at cX8_at 2 (some .int)) yX8_at [.ref (ad w 0), .int a1] s0 P := by
  refine ci_of_i (own := "BagBottomModel") (ls0 := [some (.ref (ad w 0)), some (.int a1)]) rfl pn_X8 rfl rfl (fun g el hg => ?_)
  unfold wM_at at hw
  refine x_iload_1 hg dX8_at_0 rfl ?_
  refine x_ic hg dX8_at_1 ic_0 rfl ?_
  refine x_aload_0 hg dX8_at_2 rfl ?_
  refine get_X8_0 hg kM_0 fl_X8_9 dX8_at_3 rfl (k2 := 1) rfl ?_
  refine x_ic hg dX8_at_6 ic_3 rfl ?_
  refine x_ialdc hg kM_1 rfl vi_3_379 ix_3 dX8_at_7 rfl ?_
  refine x_ic hg dX8_at_8 ic_1 rfl ?_
  refine x_isub hg dX8_at_9 rfl ?_
  refine x_callSI hg (xM_in (gL g)  hw) sm_X8_in mi_X8_in ml_X8_57 rfl rfl (As := [.int a1, .int 0, .int ((s0 1 3) - 1)]) rfl rfl rfl dX8_at_10 rfl (fun r1 s1 hw => ?_)
  refine x_if_eq hg dX8_at_13 (tg := 28) (by decide) rfl hw (fun hw => ?_) (fun hw => ?_)
  · refine x_aload_0 hg dX8_at_28 rfl ?_
    refine x_ldc hg kc_X8_77 dX8_at_29 rfl ?_
    refine x_callVI hg (xM_error (gL g)  hw) kM_0 (by decide) rfl im_X8_error se_X8_error mi_X8_error ml_X8_78 rfl rfl (As := [.int (-1000000001)]) rfl rfl rfl dX8_at_31 rfl (fun r2 s2 hw => ?_)
    exact x_ret hg dX8_at_34 hw
  · refine x_aload_0 hg dX8_at_16 rfl ?_
    refine get_X8_0 hg kM_0 fl_X8_9 dX8_at_17 rfl (k2 := 1) rfl ?_
    refine x_bi hg dX8_at_20 bp_8 rfl ?_
    refine x_iload_1 hg dX8_at_22 rfl ?_
    refine x_iadd hg dX8_at_23 rfl ?_
    refine x_iald hg kM_1 rfl dX8_at_24 rfl hw (fun hw => ?_)
    refine x_goto hg dX8_at_25 (pc' := 34) (by decide) ?_
    exact x_ret hg dX8_at_34 hw
def wM_leave (a1 : Int32) (s0 : Sg) (P : Int32 → Sg → Prop) : Prop := (wM_isThing a1 s0 (fun (r1 : Int32) (s1 : Sg) => ((¬ r1 = 0 → (wM_whereIs a1 s1 (fun (r2 : Int32) (s2 : Sg) => ((¬ r2 = (-2) → ((¬ r2 = (-1) → (wM_goesFrom r2 s2 (fun (s3 : Sg) => P ((s3 1 3)) s3))) ∧ (r2 = (-1) → (∀ s3 : Sg, s3 = u2 s2 1 4 ((-1)) → P ((s3 1 3)) s3)))) ∧ (r2 = (-2) → (wM_error ((-1000000003)) s2 (fun (r3 : Int32) (s3 : Sg) => P r3 s3))))))) ∧ (r1 = 0 → (wM_error ((-1000000001)) s1 (fun (r2 : Int32) (s2 : Sg) => P r2 s2))))))
set_option maxRecDepth 100000 in
set_option maxHeartbeats 4000000 in
theorem xM_leave {w : Wc} (l : Launch) {a1 : Int32} {s0 : Sg} {P : Int32 → Sg → Prop} (hw : wM_leave a1 s0 P) : CI shM w l 3 (.code yX8_leave cX8_leave 3 (some .int)) yX8_leave [.ref (ad w 0), .int a1] s0 P := by
  refine ci_of_i (own := "BagBottomModel") (ls0 := [some (.ref (ad w 0)), some (.int a1), none]) rfl pn_X8 rfl rfl (fun g el hg => ?_)
  unfold wM_leave at hw
  refine x_aload_0 hg dX8_leave_0 rfl ?_
  refine x_iload_1 hg dX8_leave_1 rfl ?_
  refine x_callVI hg (xM_isThing (gL g)  hw) kM_0 (by decide) rfl im_X8_isThing se_X8_isThing mi_X8_isThing ml_X8_86 rfl rfl (As := [.int a1]) rfl rfl rfl dX8_leave_2 rfl (fun r1 s1 hw => ?_)
  refine x_if_ne hg dX8_leave_5 (tg := 15) (by decide) rfl hw (fun hw => ?_) (fun hw => ?_)
  · refine x_aload_0 hg dX8_leave_15 rfl ?_
    refine x_iload_1 hg dX8_leave_16 rfl ?_
    refine x_callVI hg (xM_whereIs (gL g)  hw) kM_0 (by decide) rfl im_X8_whereIs se_X8_whereIs mi_X8_whereIs ml_X8_89 rfl rfl (As := [.int a1]) rfl rfl rfl dX8_leave_17 rfl (fun r2 s2 hw => ?_)
    refine x_istore_2 hg dX8_leave_20 rfl rfl rfl ?_
    refine x_iload_2 hg dX8_leave_21 rfl ?_
    refine x_bi hg dX8_leave_22 bp_m2 rfl ?_
    refine x_icmp_ne hg dX8_leave_24 (tg := 34) (by decide) rfl hw (fun hw => ?_) (fun hw => ?_)
    · refine x_iload_2 hg dX8_leave_34 rfl ?_
      refine x_ic hg dX8_leave_35 ic_m1 rfl ?_
      refine x_icmp_ne hg dX8_leave_36 (tg := 49) (by decide) rfl hw (fun hw => ?_) (fun hw => ?_)
      · refine x_aload_0 hg dX8_leave_49 rfl ?_
        refine x_iload_2 hg dX8_leave_50 rfl ?_
        refine x_callVV hg (xM_goesFrom (gL g)  hw) kM_0 (by decide) rfl im_X8_goesFrom se_X8_goesFrom mi_X8_goesFrom ml_X8_100 rfl rfl (As := [.int r2]) rfl rfl rfl dX8_leave_51 rfl (fun s3 hw => ?_)
        refine x_aload_0 hg dX8_leave_54 rfl ?_
        refine get_X8_0 hg kM_0 fl_X8_9 dX8_leave_55 rfl (k2 := 1) rfl ?_
        refine x_ic hg dX8_leave_58 ic_3 rfl ?_
        refine x_ialdc hg kM_1 rfl vi_3_379 ix_3 dX8_leave_59 rfl ?_
        exact x_ret hg dX8_leave_60 hw
      · refine x_aload_0 hg dX8_leave_39 rfl ?_
        refine get_X8_0 hg kM_0 fl_X8_9 dX8_leave_40 rfl (k2 := 1) rfl ?_
        refine x_ic hg dX8_leave_43 ic_4 rfl ?_
        refine x_ic hg dX8_leave_44 ic_m1 rfl ?_
        refine x_iastc hg kM_1 rfl vi_4_379 ix_4 dX8_leave_45 rfl hw (fun s3 hw => ?_)
        refine x_goto hg dX8_leave_46 (pc' := 54) (by decide) ?_
        refine x_aload_0 hg dX8_leave_54 rfl ?_
        refine get_X8_0 hg kM_0 fl_X8_9 dX8_leave_55 rfl (k2 := 1) rfl ?_
        refine x_ic hg dX8_leave_58 ic_3 rfl ?_
        refine x_ialdc hg kM_1 rfl vi_3_379 ix_3 dX8_leave_59 rfl ?_
        exact x_ret hg dX8_leave_60 hw
    · refine x_aload_0 hg dX8_leave_27 rfl ?_
      refine x_ldc hg kc_X8_99 dX8_leave_28 rfl ?_
      refine x_callVI hg (xM_error (gL g)  hw) kM_0 (by decide) rfl im_X8_error se_X8_error mi_X8_error ml_X8_78 rfl rfl (As := [.int (-1000000003)]) rfl rfl rfl dX8_leave_30 rfl (fun r3 s3 hw => ?_)
      exact x_ret hg dX8_leave_33 hw
  · refine x_aload_0 hg dX8_leave_8 rfl ?_
    refine x_ldc hg kc_X8_77 dX8_leave_9 rfl ?_
    refine x_callVI hg (xM_error (gL g)  hw) kM_0 (by decide) rfl im_X8_error se_X8_error mi_X8_error ml_X8_78 rfl rfl (As := [.int (-1000000001)]) rfl rfl rfl dX8_leave_11 rfl (fun r2 s2 hw => ?_)
    exact x_ret hg dX8_leave_14 hw
def wM_stow (a1 : Int32) (s0 : Sg) (P : Int32 → Sg → Prop) : Prop := (wM_isThing a1 s0 (fun (r1 : Int32) (s1 : Sg) => ((¬ r1 = 0 → (wM_whereIs a1 s1 (fun (r2 : Int32) (s2 : Sg) => ((r2 = (-2) → (wM_goesOnTop a1 s2 (fun (s3 : Sg) => P ((s3 1 3)) s3))) ∧ (¬ r2 = (-2) → (wM_error ((-1000000003)) s2 (fun (r3 : Int32) (s3 : Sg) => P r3 s3))))))) ∧ (r1 = 0 → (wM_error ((-1000000001)) s1 (fun (r2 : Int32) (s2 : Sg) => P r2 s2))))))
set_option maxRecDepth 100000 in
set_option maxHeartbeats 4000000 in
theorem xM_stow {w : Wc} (l : Launch) {a1 : Int32} {s0 : Sg} {P : Int32 → Sg → Prop} (hw : wM_stow a1 s0 P) : CI shM w l 3 (.code yX8_stow cX8_stow 2 (some .int)) yX8_stow [.ref (ad w 0), .int a1] s0 P := by
  refine ci_of_i (own := "BagBottomModel") (ls0 := [some (.ref (ad w 0)), some (.int a1)]) rfl pn_X8 rfl rfl (fun g el hg => ?_)
  unfold wM_stow at hw
  refine x_aload_0 hg dX8_stow_0 rfl ?_
  refine x_iload_1 hg dX8_stow_1 rfl ?_
  refine x_callVI hg (xM_isThing (gL g)  hw) kM_0 (by decide) rfl im_X8_isThing se_X8_isThing mi_X8_isThing ml_X8_86 rfl rfl (As := [.int a1]) rfl rfl rfl dX8_stow_2 rfl (fun r1 s1 hw => ?_)
  refine x_if_ne hg dX8_stow_5 (tg := 15) (by decide) rfl hw (fun hw => ?_) (fun hw => ?_)
  · refine x_aload_0 hg dX8_stow_15 rfl ?_
    refine x_iload_1 hg dX8_stow_16 rfl ?_
    refine x_callVI hg (xM_whereIs (gL g)  hw) kM_0 (by decide) rfl im_X8_whereIs se_X8_whereIs mi_X8_whereIs ml_X8_89 rfl rfl (As := [.int a1]) rfl rfl rfl dX8_stow_17 rfl (fun r2 s2 hw => ?_)
    refine x_bi hg dX8_stow_20 bp_m2 rfl ?_
    refine x_icmp_eq hg dX8_stow_22 (tg := 32) (by decide) rfl hw (fun hw => ?_) (fun hw => ?_)
    · refine x_aload_0 hg dX8_stow_32 rfl ?_
      refine x_iload_1 hg dX8_stow_33 rfl ?_
      refine x_callVV hg (xM_goesOnTop (gL g)  hw) kM_0 (by decide) rfl im_X8_goesOnTop se_X8_goesOnTop mi_X8_goesOnTop ml_X8_82 rfl rfl (As := [.int a1]) rfl rfl rfl dX8_stow_34 rfl (fun s3 hw => ?_)
      refine x_aload_0 hg dX8_stow_37 rfl ?_
      refine get_X8_0 hg kM_0 fl_X8_9 dX8_stow_38 rfl (k2 := 1) rfl ?_
      refine x_ic hg dX8_stow_41 ic_3 rfl ?_
      refine x_ialdc hg kM_1 rfl vi_3_379 ix_3 dX8_stow_42 rfl ?_
      exact x_ret hg dX8_stow_43 hw
    · refine x_aload_0 hg dX8_stow_25 rfl ?_
      refine x_ldc hg kc_X8_99 dX8_stow_26 rfl ?_
      refine x_callVI hg (xM_error (gL g)  hw) kM_0 (by decide) rfl im_X8_error se_X8_error mi_X8_error ml_X8_78 rfl rfl (As := [.int (-1000000003)]) rfl rfl rfl dX8_stow_28 rfl (fun r3 s3 hw => ?_)
      exact x_ret hg dX8_stow_31 hw
  · refine x_aload_0 hg dX8_stow_8 rfl ?_
    refine x_ldc hg kc_X8_77 dX8_stow_9 rfl ?_
    refine x_callVI hg (xM_error (gL g)  hw) kM_0 (by decide) rfl im_X8_error se_X8_error mi_X8_error ml_X8_78 rfl rfl (As := [.int (-1000000001)]) rfl rfl rfl dX8_stow_11 rfl (fun r2 s2 hw => ?_)
    exact x_ret hg dX8_stow_14 hw
def wM_zip (a1 : Int32) (s0 : Sg) (P : Int32 → Sg → Prop) : Prop := ((a1 = (-1) → ((a1 = (-1) → (∀ s1 : Sg, s1 = u2 s0 1 4 ((-1)) → ((a1 = (-1) → (((s0 1 4) = (-1) → (∀ s2 : Sg, s2 = u2 s1 1 4 a1 → P ((s0 1 4)) s2)) ∧ (¬ (s0 1 4) = (-1) → (wM_goesOnTop ((s0 1 4)) s1 (fun (s2 : Sg) => (∀ s3 : Sg, s3 = u2 s2 1 4 a1 → P ((s0 1 4)) s3)))))) ∧ (¬ a1 = (-1) → (wM_whereIs a1 s1 (fun (r1 : Int32) (s2 : Sg) => (wM_goesFrom r1 s2 (fun (s3 : Sg) => (((s0 1 4) = (-1) → (∀ s4 : Sg, s4 = u2 s3 1 4 a1 → P ((s0 1 4)) s4)) ∧ (¬ (s0 1 4) = (-1) → (wM_goesOnTop ((s0 1 4)) s3 (fun (s4 : Sg) => (∀ s5 : Sg, s5 = u2 s4 1 4 a1 → P ((s0 1 4)) s5))))))))))))) ∧ (¬ a1 = (-1) → (wM_whereIs a1 s0 (fun (r1 : Int32) (s1 : Sg) => ((0 ≤ r1 → (∀ s2 : Sg, s2 = u2 s1 1 4 ((-1)) → ((a1 = (-1) → (((s1 1 4) = (-1) → (∀ s3 : Sg, s3 = u2 s2 1 4 a1 → P ((s1 1 4)) s3)) ∧ (¬ (s1 1 4) = (-1) → (wM_goesOnTop ((s1 1 4)) s2 (fun (s3 : Sg) => (∀ s4 : Sg, s4 = u2 s3 1 4 a1 → P ((s1 1 4)) s4)))))) ∧ (¬ a1 = (-1) → (wM_whereIs a1 s2 (fun (r2 : Int32) (s3 : Sg) => (wM_goesFrom r2 s3 (fun (s4 : Sg) => (((s1 1 4) = (-1) → (∀ s5 : Sg, s5 = u2 s4 1 4 a1 → P ((s1 1 4)) s5)) ∧ (¬ (s1 1 4) = (-1) → (wM_goesOnTop ((s1 1 4)) s4 (fun (s5 : Sg) => (∀ s6 : Sg, s6 = u2 s5 1 4 a1 → P ((s1 1 4)) s6))))))))))))) ∧ (¬ 0 ≤ r1 → (wM_error ((-1000000003)) s1 (fun (r2 : Int32) (s2 : Sg) => P r2 s2))))))))) ∧ (¬ a1 = (-1) → (wM_isThing a1 s0 (fun (r1 : Int32) (s1 : Sg) => ((¬ r1 = 0 → ((a1 = (-1) → (∀ s2 : Sg, s2 = u2 s1 1 4 ((-1)) → ((a1 = (-1) → (((s1 1 4) = (-1) → (∀ s3 : Sg, s3 = u2 s2 1 4 a1 → P ((s1 1 4)) s3)) ∧ (¬ (s1 1 4) = (-1) → (wM_goesOnTop ((s1 1 4)) s2 (fun (s3 : Sg) => (∀ s4 : Sg, s4 = u2 s3 1 4 a1 → P ((s1 1 4)) s4)))))) ∧ (¬ a1 = (-1) → (wM_whereIs a1 s2 (fun (r2 : Int32) (s3 : Sg) => (wM_goesFrom r2 s3 (fun (s4 : Sg) => (((s1 1 4) = (-1) → (∀ s5 : Sg, s5 = u2 s4 1 4 a1 → P ((s1 1 4)) s5)) ∧ (¬ (s1 1 4) = (-1) → (wM_goesOnTop ((s1 1 4)) s4 (fun (s5 : Sg) => (∀ s6 : Sg, s6 = u2 s5 1 4 a1 → P ((s1 1 4)) s6))))))))))))) ∧ (¬ a1 = (-1) → (wM_whereIs a1 s1 (fun (r2 : Int32) (s2 : Sg) => ((0 ≤ r2 → (∀ s3 : Sg, s3 = u2 s2 1 4 ((-1)) → ((a1 = (-1) → (((s2 1 4) = (-1) → (∀ s4 : Sg, s4 = u2 s3 1 4 a1 → P ((s2 1 4)) s4)) ∧ (¬ (s2 1 4) = (-1) → (wM_goesOnTop ((s2 1 4)) s3 (fun (s4 : Sg) => (∀ s5 : Sg, s5 = u2 s4 1 4 a1 → P ((s2 1 4)) s5)))))) ∧ (¬ a1 = (-1) → (wM_whereIs a1 s3 (fun (r3 : Int32) (s4 : Sg) => (wM_goesFrom r3 s4 (fun (s5 : Sg) => (((s2 1 4) = (-1) → (∀ s6 : Sg, s6 = u2 s5 1 4 a1 → P ((s2 1 4)) s6)) ∧ (¬ (s2 1 4) = (-1) → (wM_goesOnTop ((s2 1 4)) s5 (fun (s6 : Sg) => (∀ s7 : Sg, s7 = u2 s6 1 4 a1 → P ((s2 1 4)) s7))))))))))))) ∧ (¬ 0 ≤ r2 → (wM_error ((-1000000003)) s2 (fun (r3 : Int32) (s3 : Sg) => P r3 s3))))))))) ∧ (r1 = 0 → (wM_error ((-1000000001)) s1 (fun (r2 : Int32) (s2 : Sg) => P r2 s2))))))))
set_option maxRecDepth 100000 in
set_option maxHeartbeats 4000000 in
theorem xM_zip {w : Wc} (l : Launch) {a1 : Int32} {s0 : Sg} {P : Int32 → Sg → Prop} (hw : wM_zip a1 s0 P) : CI shM w l 3 (.code yX8_zip cX8_zip 3 (some .int)) yX8_zip [.ref (ad w 0), .int a1] s0 P := by
  refine ci_of_i (own := "BagBottomModel") (ls0 := [some (.ref (ad w 0)), some (.int a1), none]) rfl pn_X8 rfl rfl (fun g el hg => ?_)
  unfold wM_zip at hw
  refine x_iload_1 hg dX8_zip_0 rfl ?_
  refine x_ic hg dX8_zip_1 ic_m1 rfl ?_
  refine x_icmp_eq hg dX8_zip_2 (tg := 20) (by decide) rfl hw (fun hw => ?_) (fun hw => ?_)
  · refine x_iload_1 hg dX8_zip_20 rfl ?_
    refine x_ic hg dX8_zip_21 ic_m1 rfl ?_
    refine x_icmp_eq hg dX8_zip_22 (tg := 40) (by decide) rfl hw (fun hw => ?_) (fun hw => ?_)
    · refine x_aload_0 hg dX8_zip_40 rfl ?_
      refine get_X8_0 hg kM_0 fl_X8_9 dX8_zip_41 rfl (k2 := 1) rfl ?_
      refine x_ic hg dX8_zip_44 ic_4 rfl ?_
      refine x_ialdc hg kM_1 rfl vi_4_379 ix_4 dX8_zip_45 rfl ?_
      refine x_istore_2 hg dX8_zip_46 rfl rfl rfl ?_
      refine x_aload_0 hg dX8_zip_47 rfl ?_
      refine get_X8_0 hg kM_0 fl_X8_9 dX8_zip_48 rfl (k2 := 1) rfl ?_
      refine x_ic hg dX8_zip_51 ic_4 rfl ?_
      refine x_ic hg dX8_zip_52 ic_m1 rfl ?_
      refine x_iastc hg kM_1 rfl vi_4_379 ix_4 dX8_zip_53 rfl hw (fun s1 hw => ?_)
      refine x_iload_1 hg dX8_zip_54 rfl ?_
      refine x_ic hg dX8_zip_55 ic_m1 rfl ?_
      refine x_icmp_eq hg dX8_zip_56 (tg := 68) (by decide) rfl hw (fun hw => ?_) (fun hw => ?_)
      · refine x_iload_2 hg dX8_zip_68 rfl ?_
        refine x_ic hg dX8_zip_69 ic_m1 rfl ?_
        refine x_icmp_eq hg dX8_zip_70 (tg := 78) (by decide) rfl hw (fun hw => ?_) (fun hw => ?_)
        · refine x_aload_0 hg dX8_zip_78 rfl ?_
          refine get_X8_0 hg kM_0 fl_X8_9 dX8_zip_79 rfl (k2 := 1) rfl ?_
          refine x_ic hg dX8_zip_82 ic_4 rfl ?_
          refine x_iload_1 hg dX8_zip_83 rfl ?_
          refine x_iastc hg kM_1 rfl vi_4_379 ix_4 dX8_zip_84 rfl hw (fun s2 hw => ?_)
          refine x_iload_2 hg dX8_zip_85 rfl ?_
          exact x_ret hg dX8_zip_86 hw
        · refine x_aload_0 hg dX8_zip_73 rfl ?_
          refine x_iload_2 hg dX8_zip_74 rfl ?_
          refine x_callVV hg (xM_goesOnTop (gL g)  hw) kM_0 (by decide) rfl im_X8_goesOnTop se_X8_goesOnTop mi_X8_goesOnTop ml_X8_82 rfl rfl (As := [.int (s0 1 4)]) rfl rfl rfl dX8_zip_75 rfl (fun s2 hw => ?_)
          refine x_aload_0 hg dX8_zip_78 rfl ?_
          refine get_X8_0 hg kM_0 fl_X8_9 dX8_zip_79 rfl (k2 := 1) rfl ?_
          refine x_ic hg dX8_zip_82 ic_4 rfl ?_
          refine x_iload_1 hg dX8_zip_83 rfl ?_
          refine x_iastc hg kM_1 rfl vi_4_379 ix_4 dX8_zip_84 rfl hw (fun s3 hw => ?_)
          refine x_iload_2 hg dX8_zip_85 rfl ?_
          exact x_ret hg dX8_zip_86 hw
      · refine x_aload_0 hg dX8_zip_59 rfl ?_
        refine x_aload_0 hg dX8_zip_60 rfl ?_
        refine x_iload_1 hg dX8_zip_61 rfl ?_
        refine x_callVI hg (xM_whereIs (gL g)  hw) kM_0 (by decide) rfl im_X8_whereIs se_X8_whereIs mi_X8_whereIs ml_X8_89 rfl rfl (As := [.int a1]) rfl rfl rfl dX8_zip_62 rfl (fun r1 s2 hw => ?_)
        refine x_callVV hg (xM_goesFrom (gL g)  hw) kM_0 (by decide) rfl im_X8_goesFrom se_X8_goesFrom mi_X8_goesFrom ml_X8_100 rfl rfl (As := [.int r1]) rfl rfl rfl dX8_zip_65 rfl (fun s3 hw => ?_)
        refine x_iload_2 hg dX8_zip_68 rfl ?_
        refine x_ic hg dX8_zip_69 ic_m1 rfl ?_
        refine x_icmp_eq hg dX8_zip_70 (tg := 78) (by decide) rfl hw (fun hw => ?_) (fun hw => ?_)
        · refine x_aload_0 hg dX8_zip_78 rfl ?_
          refine get_X8_0 hg kM_0 fl_X8_9 dX8_zip_79 rfl (k2 := 1) rfl ?_
          refine x_ic hg dX8_zip_82 ic_4 rfl ?_
          refine x_iload_1 hg dX8_zip_83 rfl ?_
          refine x_iastc hg kM_1 rfl vi_4_379 ix_4 dX8_zip_84 rfl hw (fun s4 hw => ?_)
          refine x_iload_2 hg dX8_zip_85 rfl ?_
          exact x_ret hg dX8_zip_86 hw
        · refine x_aload_0 hg dX8_zip_73 rfl ?_
          refine x_iload_2 hg dX8_zip_74 rfl ?_
          refine x_callVV hg (xM_goesOnTop (gL g)  hw) kM_0 (by decide) rfl im_X8_goesOnTop se_X8_goesOnTop mi_X8_goesOnTop ml_X8_82 rfl rfl (As := [.int (s0 1 4)]) rfl rfl rfl dX8_zip_75 rfl (fun s4 hw => ?_)
          refine x_aload_0 hg dX8_zip_78 rfl ?_
          refine get_X8_0 hg kM_0 fl_X8_9 dX8_zip_79 rfl (k2 := 1) rfl ?_
          refine x_ic hg dX8_zip_82 ic_4 rfl ?_
          refine x_iload_1 hg dX8_zip_83 rfl ?_
          refine x_iastc hg kM_1 rfl vi_4_379 ix_4 dX8_zip_84 rfl hw (fun s5 hw => ?_)
          refine x_iload_2 hg dX8_zip_85 rfl ?_
          exact x_ret hg dX8_zip_86 hw
    · refine x_aload_0 hg dX8_zip_25 rfl ?_
      refine x_iload_1 hg dX8_zip_26 rfl ?_
      refine x_callVI hg (xM_whereIs (gL g)  hw) kM_0 (by decide) rfl im_X8_whereIs se_X8_whereIs mi_X8_whereIs ml_X8_89 rfl rfl (As := [.int a1]) rfl rfl rfl dX8_zip_27 rfl (fun r1 s1 hw => ?_)
      refine x_if_ge hg dX8_zip_30 (tg := 40) (by decide) rfl hw (fun hw => ?_) (fun hw => ?_)
      · refine x_aload_0 hg dX8_zip_40 rfl ?_
        refine get_X8_0 hg kM_0 fl_X8_9 dX8_zip_41 rfl (k2 := 1) rfl ?_
        refine x_ic hg dX8_zip_44 ic_4 rfl ?_
        refine x_ialdc hg kM_1 rfl vi_4_379 ix_4 dX8_zip_45 rfl ?_
        refine x_istore_2 hg dX8_zip_46 rfl rfl rfl ?_
        refine x_aload_0 hg dX8_zip_47 rfl ?_
        refine get_X8_0 hg kM_0 fl_X8_9 dX8_zip_48 rfl (k2 := 1) rfl ?_
        refine x_ic hg dX8_zip_51 ic_4 rfl ?_
        refine x_ic hg dX8_zip_52 ic_m1 rfl ?_
        refine x_iastc hg kM_1 rfl vi_4_379 ix_4 dX8_zip_53 rfl hw (fun s2 hw => ?_)
        refine x_iload_1 hg dX8_zip_54 rfl ?_
        refine x_ic hg dX8_zip_55 ic_m1 rfl ?_
        refine x_icmp_eq hg dX8_zip_56 (tg := 68) (by decide) rfl hw (fun hw => ?_) (fun hw => ?_)
        · refine x_iload_2 hg dX8_zip_68 rfl ?_
          refine x_ic hg dX8_zip_69 ic_m1 rfl ?_
          refine x_icmp_eq hg dX8_zip_70 (tg := 78) (by decide) rfl hw (fun hw => ?_) (fun hw => ?_)
          · refine x_aload_0 hg dX8_zip_78 rfl ?_
            refine get_X8_0 hg kM_0 fl_X8_9 dX8_zip_79 rfl (k2 := 1) rfl ?_
            refine x_ic hg dX8_zip_82 ic_4 rfl ?_
            refine x_iload_1 hg dX8_zip_83 rfl ?_
            refine x_iastc hg kM_1 rfl vi_4_379 ix_4 dX8_zip_84 rfl hw (fun s3 hw => ?_)
            refine x_iload_2 hg dX8_zip_85 rfl ?_
            exact x_ret hg dX8_zip_86 hw
          · refine x_aload_0 hg dX8_zip_73 rfl ?_
            refine x_iload_2 hg dX8_zip_74 rfl ?_
            refine x_callVV hg (xM_goesOnTop (gL g)  hw) kM_0 (by decide) rfl im_X8_goesOnTop se_X8_goesOnTop mi_X8_goesOnTop ml_X8_82 rfl rfl (As := [.int (s1 1 4)]) rfl rfl rfl dX8_zip_75 rfl (fun s3 hw => ?_)
            refine x_aload_0 hg dX8_zip_78 rfl ?_
            refine get_X8_0 hg kM_0 fl_X8_9 dX8_zip_79 rfl (k2 := 1) rfl ?_
            refine x_ic hg dX8_zip_82 ic_4 rfl ?_
            refine x_iload_1 hg dX8_zip_83 rfl ?_
            refine x_iastc hg kM_1 rfl vi_4_379 ix_4 dX8_zip_84 rfl hw (fun s4 hw => ?_)
            refine x_iload_2 hg dX8_zip_85 rfl ?_
            exact x_ret hg dX8_zip_86 hw
        · refine x_aload_0 hg dX8_zip_59 rfl ?_
          refine x_aload_0 hg dX8_zip_60 rfl ?_
          refine x_iload_1 hg dX8_zip_61 rfl ?_
          refine x_callVI hg (xM_whereIs (gL g)  hw) kM_0 (by decide) rfl im_X8_whereIs se_X8_whereIs mi_X8_whereIs ml_X8_89 rfl rfl (As := [.int a1]) rfl rfl rfl dX8_zip_62 rfl (fun r2 s3 hw => ?_)
          refine x_callVV hg (xM_goesFrom (gL g)  hw) kM_0 (by decide) rfl im_X8_goesFrom se_X8_goesFrom mi_X8_goesFrom ml_X8_100 rfl rfl (As := [.int r2]) rfl rfl rfl dX8_zip_65 rfl (fun s4 hw => ?_)
          refine x_iload_2 hg dX8_zip_68 rfl ?_
          refine x_ic hg dX8_zip_69 ic_m1 rfl ?_
          refine x_icmp_eq hg dX8_zip_70 (tg := 78) (by decide) rfl hw (fun hw => ?_) (fun hw => ?_)
          · refine x_aload_0 hg dX8_zip_78 rfl ?_
            refine get_X8_0 hg kM_0 fl_X8_9 dX8_zip_79 rfl (k2 := 1) rfl ?_
            refine x_ic hg dX8_zip_82 ic_4 rfl ?_
            refine x_iload_1 hg dX8_zip_83 rfl ?_
            refine x_iastc hg kM_1 rfl vi_4_379 ix_4 dX8_zip_84 rfl hw (fun s5 hw => ?_)
            refine x_iload_2 hg dX8_zip_85 rfl ?_
            exact x_ret hg dX8_zip_86 hw
          · refine x_aload_0 hg dX8_zip_73 rfl ?_
            refine x_iload_2 hg dX8_zip_74 rfl ?_
            refine x_callVV hg (xM_goesOnTop (gL g)  hw) kM_0 (by decide) rfl im_X8_goesOnTop se_X8_goesOnTop mi_X8_goesOnTop ml_X8_82 rfl rfl (As := [.int (s1 1 4)]) rfl rfl rfl dX8_zip_75 rfl (fun s5 hw => ?_)
            refine x_aload_0 hg dX8_zip_78 rfl ?_
            refine get_X8_0 hg kM_0 fl_X8_9 dX8_zip_79 rfl (k2 := 1) rfl ?_
            refine x_ic hg dX8_zip_82 ic_4 rfl ?_
            refine x_iload_1 hg dX8_zip_83 rfl ?_
            refine x_iastc hg kM_1 rfl vi_4_379 ix_4 dX8_zip_84 rfl hw (fun s6 hw => ?_)
            refine x_iload_2 hg dX8_zip_85 rfl ?_
            exact x_ret hg dX8_zip_86 hw
      · refine x_aload_0 hg dX8_zip_33 rfl ?_
        refine x_ldc hg kc_X8_99 dX8_zip_34 rfl ?_
        refine x_callVI hg (xM_error (gL g)  hw) kM_0 (by decide) rfl im_X8_error se_X8_error mi_X8_error ml_X8_78 rfl rfl (As := [.int (-1000000003)]) rfl rfl rfl dX8_zip_36 rfl (fun r2 s2 hw => ?_)
        exact x_ret hg dX8_zip_39 hw
  · refine x_aload_0 hg dX8_zip_5 rfl ?_
    refine x_iload_1 hg dX8_zip_6 rfl ?_
    refine x_callVI hg (xM_isThing (gL g)  hw) kM_0 (by decide) rfl im_X8_isThing se_X8_isThing mi_X8_isThing ml_X8_86 rfl rfl (As := [.int a1]) rfl rfl rfl dX8_zip_7 rfl (fun r1 s1 hw => ?_)
    refine x_if_ne hg dX8_zip_10 (tg := 20) (by decide) rfl hw (fun hw => ?_) (fun hw => ?_)
    · refine x_iload_1 hg dX8_zip_20 rfl ?_
      refine x_ic hg dX8_zip_21 ic_m1 rfl ?_
      refine x_icmp_eq hg dX8_zip_22 (tg := 40) (by decide) rfl hw (fun hw => ?_) (fun hw => ?_)
      · refine x_aload_0 hg dX8_zip_40 rfl ?_
        refine get_X8_0 hg kM_0 fl_X8_9 dX8_zip_41 rfl (k2 := 1) rfl ?_
        refine x_ic hg dX8_zip_44 ic_4 rfl ?_
        refine x_ialdc hg kM_1 rfl vi_4_379 ix_4 dX8_zip_45 rfl ?_
        refine x_istore_2 hg dX8_zip_46 rfl rfl rfl ?_
        refine x_aload_0 hg dX8_zip_47 rfl ?_
        refine get_X8_0 hg kM_0 fl_X8_9 dX8_zip_48 rfl (k2 := 1) rfl ?_
        refine x_ic hg dX8_zip_51 ic_4 rfl ?_
        refine x_ic hg dX8_zip_52 ic_m1 rfl ?_
        refine x_iastc hg kM_1 rfl vi_4_379 ix_4 dX8_zip_53 rfl hw (fun s2 hw => ?_)
        refine x_iload_1 hg dX8_zip_54 rfl ?_
        refine x_ic hg dX8_zip_55 ic_m1 rfl ?_
        refine x_icmp_eq hg dX8_zip_56 (tg := 68) (by decide) rfl hw (fun hw => ?_) (fun hw => ?_)
        · refine x_iload_2 hg dX8_zip_68 rfl ?_
          refine x_ic hg dX8_zip_69 ic_m1 rfl ?_
          refine x_icmp_eq hg dX8_zip_70 (tg := 78) (by decide) rfl hw (fun hw => ?_) (fun hw => ?_)
          · refine x_aload_0 hg dX8_zip_78 rfl ?_
            refine get_X8_0 hg kM_0 fl_X8_9 dX8_zip_79 rfl (k2 := 1) rfl ?_
            refine x_ic hg dX8_zip_82 ic_4 rfl ?_
            refine x_iload_1 hg dX8_zip_83 rfl ?_
            refine x_iastc hg kM_1 rfl vi_4_379 ix_4 dX8_zip_84 rfl hw (fun s3 hw => ?_)
            refine x_iload_2 hg dX8_zip_85 rfl ?_
            exact x_ret hg dX8_zip_86 hw
          · refine x_aload_0 hg dX8_zip_73 rfl ?_
            refine x_iload_2 hg dX8_zip_74 rfl ?_
            refine x_callVV hg (xM_goesOnTop (gL g)  hw) kM_0 (by decide) rfl im_X8_goesOnTop se_X8_goesOnTop mi_X8_goesOnTop ml_X8_82 rfl rfl (As := [.int (s1 1 4)]) rfl rfl rfl dX8_zip_75 rfl (fun s3 hw => ?_)
            refine x_aload_0 hg dX8_zip_78 rfl ?_
            refine get_X8_0 hg kM_0 fl_X8_9 dX8_zip_79 rfl (k2 := 1) rfl ?_
            refine x_ic hg dX8_zip_82 ic_4 rfl ?_
            refine x_iload_1 hg dX8_zip_83 rfl ?_
            refine x_iastc hg kM_1 rfl vi_4_379 ix_4 dX8_zip_84 rfl hw (fun s4 hw => ?_)
            refine x_iload_2 hg dX8_zip_85 rfl ?_
            exact x_ret hg dX8_zip_86 hw
        · refine x_aload_0 hg dX8_zip_59 rfl ?_
          refine x_aload_0 hg dX8_zip_60 rfl ?_
          refine x_iload_1 hg dX8_zip_61 rfl ?_
          refine x_callVI hg (xM_whereIs (gL g)  hw) kM_0 (by decide) rfl im_X8_whereIs se_X8_whereIs mi_X8_whereIs ml_X8_89 rfl rfl (As := [.int a1]) rfl rfl rfl dX8_zip_62 rfl (fun r2 s3 hw => ?_)
          refine x_callVV hg (xM_goesFrom (gL g)  hw) kM_0 (by decide) rfl im_X8_goesFrom se_X8_goesFrom mi_X8_goesFrom ml_X8_100 rfl rfl (As := [.int r2]) rfl rfl rfl dX8_zip_65 rfl (fun s4 hw => ?_)
          refine x_iload_2 hg dX8_zip_68 rfl ?_
          refine x_ic hg dX8_zip_69 ic_m1 rfl ?_
          refine x_icmp_eq hg dX8_zip_70 (tg := 78) (by decide) rfl hw (fun hw => ?_) (fun hw => ?_)
          · refine x_aload_0 hg dX8_zip_78 rfl ?_
            refine get_X8_0 hg kM_0 fl_X8_9 dX8_zip_79 rfl (k2 := 1) rfl ?_
            refine x_ic hg dX8_zip_82 ic_4 rfl ?_
            refine x_iload_1 hg dX8_zip_83 rfl ?_
            refine x_iastc hg kM_1 rfl vi_4_379 ix_4 dX8_zip_84 rfl hw (fun s5 hw => ?_)
            refine x_iload_2 hg dX8_zip_85 rfl ?_
            exact x_ret hg dX8_zip_86 hw
          · refine x_aload_0 hg dX8_zip_73 rfl ?_
            refine x_iload_2 hg dX8_zip_74 rfl ?_
            refine x_callVV hg (xM_goesOnTop (gL g)  hw) kM_0 (by decide) rfl im_X8_goesOnTop se_X8_goesOnTop mi_X8_goesOnTop ml_X8_82 rfl rfl (As := [.int (s1 1 4)]) rfl rfl rfl dX8_zip_75 rfl (fun s5 hw => ?_)
            refine x_aload_0 hg dX8_zip_78 rfl ?_
            refine get_X8_0 hg kM_0 fl_X8_9 dX8_zip_79 rfl (k2 := 1) rfl ?_
            refine x_ic hg dX8_zip_82 ic_4 rfl ?_
            refine x_iload_1 hg dX8_zip_83 rfl ?_
            refine x_iastc hg kM_1 rfl vi_4_379 ix_4 dX8_zip_84 rfl hw (fun s6 hw => ?_)
            refine x_iload_2 hg dX8_zip_85 rfl ?_
            exact x_ret hg dX8_zip_86 hw
      · refine x_aload_0 hg dX8_zip_25 rfl ?_
        refine x_iload_1 hg dX8_zip_26 rfl ?_
        refine x_callVI hg (xM_whereIs (gL g)  hw) kM_0 (by decide) rfl im_X8_whereIs se_X8_whereIs mi_X8_whereIs ml_X8_89 rfl rfl (As := [.int a1]) rfl rfl rfl dX8_zip_27 rfl (fun r2 s2 hw => ?_)
        refine x_if_ge hg dX8_zip_30 (tg := 40) (by decide) rfl hw (fun hw => ?_) (fun hw => ?_)
        · refine x_aload_0 hg dX8_zip_40 rfl ?_
          refine get_X8_0 hg kM_0 fl_X8_9 dX8_zip_41 rfl (k2 := 1) rfl ?_
          refine x_ic hg dX8_zip_44 ic_4 rfl ?_
          refine x_ialdc hg kM_1 rfl vi_4_379 ix_4 dX8_zip_45 rfl ?_
          refine x_istore_2 hg dX8_zip_46 rfl rfl rfl ?_
          refine x_aload_0 hg dX8_zip_47 rfl ?_
          refine get_X8_0 hg kM_0 fl_X8_9 dX8_zip_48 rfl (k2 := 1) rfl ?_
          refine x_ic hg dX8_zip_51 ic_4 rfl ?_
          refine x_ic hg dX8_zip_52 ic_m1 rfl ?_
          refine x_iastc hg kM_1 rfl vi_4_379 ix_4 dX8_zip_53 rfl hw (fun s3 hw => ?_)
          refine x_iload_1 hg dX8_zip_54 rfl ?_
          refine x_ic hg dX8_zip_55 ic_m1 rfl ?_
          refine x_icmp_eq hg dX8_zip_56 (tg := 68) (by decide) rfl hw (fun hw => ?_) (fun hw => ?_)
          · refine x_iload_2 hg dX8_zip_68 rfl ?_
            refine x_ic hg dX8_zip_69 ic_m1 rfl ?_
            refine x_icmp_eq hg dX8_zip_70 (tg := 78) (by decide) rfl hw (fun hw => ?_) (fun hw => ?_)
            · refine x_aload_0 hg dX8_zip_78 rfl ?_
              refine get_X8_0 hg kM_0 fl_X8_9 dX8_zip_79 rfl (k2 := 1) rfl ?_
              refine x_ic hg dX8_zip_82 ic_4 rfl ?_
              refine x_iload_1 hg dX8_zip_83 rfl ?_
              refine x_iastc hg kM_1 rfl vi_4_379 ix_4 dX8_zip_84 rfl hw (fun s4 hw => ?_)
              refine x_iload_2 hg dX8_zip_85 rfl ?_
              exact x_ret hg dX8_zip_86 hw
            · refine x_aload_0 hg dX8_zip_73 rfl ?_
              refine x_iload_2 hg dX8_zip_74 rfl ?_
              refine x_callVV hg (xM_goesOnTop (gL g)  hw) kM_0 (by decide) rfl im_X8_goesOnTop se_X8_goesOnTop mi_X8_goesOnTop ml_X8_82 rfl rfl (As := [.int (s2 1 4)]) rfl rfl rfl dX8_zip_75 rfl (fun s4 hw => ?_)
              refine x_aload_0 hg dX8_zip_78 rfl ?_
              refine get_X8_0 hg kM_0 fl_X8_9 dX8_zip_79 rfl (k2 := 1) rfl ?_
              refine x_ic hg dX8_zip_82 ic_4 rfl ?_
              refine x_iload_1 hg dX8_zip_83 rfl ?_
              refine x_iastc hg kM_1 rfl vi_4_379 ix_4 dX8_zip_84 rfl hw (fun s5 hw => ?_)
              refine x_iload_2 hg dX8_zip_85 rfl ?_
              exact x_ret hg dX8_zip_86 hw
          · refine x_aload_0 hg dX8_zip_59 rfl ?_
            refine x_aload_0 hg dX8_zip_60 rfl ?_
            refine x_iload_1 hg dX8_zip_61 rfl ?_
            refine x_callVI hg (xM_whereIs (gL g)  hw) kM_0 (by decide) rfl im_X8_whereIs se_X8_whereIs mi_X8_whereIs ml_X8_89 rfl rfl (As := [.int a1]) rfl rfl rfl dX8_zip_62 rfl (fun r3 s4 hw => ?_)
            refine x_callVV hg (xM_goesFrom (gL g)  hw) kM_0 (by decide) rfl im_X8_goesFrom se_X8_goesFrom mi_X8_goesFrom ml_X8_100 rfl rfl (As := [.int r3]) rfl rfl rfl dX8_zip_65 rfl (fun s5 hw => ?_)
            refine x_iload_2 hg dX8_zip_68 rfl ?_
            refine x_ic hg dX8_zip_69 ic_m1 rfl ?_
            refine x_icmp_eq hg dX8_zip_70 (tg := 78) (by decide) rfl hw (fun hw => ?_) (fun hw => ?_)
            · refine x_aload_0 hg dX8_zip_78 rfl ?_
              refine get_X8_0 hg kM_0 fl_X8_9 dX8_zip_79 rfl (k2 := 1) rfl ?_
              refine x_ic hg dX8_zip_82 ic_4 rfl ?_
              refine x_iload_1 hg dX8_zip_83 rfl ?_
              refine x_iastc hg kM_1 rfl vi_4_379 ix_4 dX8_zip_84 rfl hw (fun s6 hw => ?_)
              refine x_iload_2 hg dX8_zip_85 rfl ?_
              exact x_ret hg dX8_zip_86 hw
            · refine x_aload_0 hg dX8_zip_73 rfl ?_
              refine x_iload_2 hg dX8_zip_74 rfl ?_
              refine x_callVV hg (xM_goesOnTop (gL g)  hw) kM_0 (by decide) rfl im_X8_goesOnTop se_X8_goesOnTop mi_X8_goesOnTop ml_X8_82 rfl rfl (As := [.int (s2 1 4)]) rfl rfl rfl dX8_zip_75 rfl (fun s6 hw => ?_)
              refine x_aload_0 hg dX8_zip_78 rfl ?_
              refine get_X8_0 hg kM_0 fl_X8_9 dX8_zip_79 rfl (k2 := 1) rfl ?_
              refine x_ic hg dX8_zip_82 ic_4 rfl ?_
              refine x_iload_1 hg dX8_zip_83 rfl ?_
              refine x_iastc hg kM_1 rfl vi_4_379 ix_4 dX8_zip_84 rfl hw (fun s7 hw => ?_)
              refine x_iload_2 hg dX8_zip_85 rfl ?_
              exact x_ret hg dX8_zip_86 hw
        · refine x_aload_0 hg dX8_zip_33 rfl ?_
          refine x_ldc hg kc_X8_99 dX8_zip_34 rfl ?_
          refine x_callVI hg (xM_error (gL g)  hw) kM_0 (by decide) rfl im_X8_error se_X8_error mi_X8_error ml_X8_78 rfl rfl (As := [.int (-1000000003)]) rfl rfl rfl dX8_zip_36 rfl (fun r3 s3 hw => ?_)
          exact x_ret hg dX8_zip_39 hw
    · refine x_aload_0 hg dX8_zip_13 rfl ?_
      refine x_ldc hg kc_X8_77 dX8_zip_14 rfl ?_
      refine x_callVI hg (xM_error (gL g)  hw) kM_0 (by decide) rfl im_X8_error se_X8_error mi_X8_error ml_X8_78 rfl rfl (As := [.int (-1000000001)]) rfl rfl rfl dX8_zip_16 rfl (fun r2 s2 hw => ?_)
      exact x_ret hg dX8_zip_19 hw
