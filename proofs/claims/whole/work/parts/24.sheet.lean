def wSheet_isMissing (k : Nat) (s0 : Sg) (P : Int32 → Sg → Prop) : Prop := ((¬ (s0 k 0) = 0 → P 0 s0) ∧ ((s0 k 0) = 0 → P 1 s0))
set_option maxRecDepth 100000 in
set_option maxHeartbeats 4000000 in
theorem xSheet_isMissing {w : Wc} (l : Launch) {k : Nat} (hk : kd shC k = 3) {s0 : Sg} {P : Int32 → Sg → Prop} (hw : wSheet_isMissing k s0 P) : CI shC w l 1 (.code yX2_isMissing cX2_isMissing 1 (some .boolean)) yX2_isMissing [.ref (ad w k)] s0 P := by
  refine ci_of_z (own := "BagBottom$Sheet") (ls0 := [some (.ref (ad w k))]) rfl pn_X2 rfl rfl (fun g el hg => ?_)
  unfold wSheet_isMissing at hw
  refine x_aload_0 hg dX2_isMissing_0 rfl ?_
  refine get_X2_0 hg hk fl_X2_20 dX2_isMissing_1 rfl ?_
  refine x_if_ne hg dX2_isMissing_4 (tg := 11) (by decide) rfl hw (fun hw => ?_) (fun hw => ?_)
  · refine x_ic hg dX2_isMissing_11 ic_0 rfl ?_
    exact x_zret hg dX2_isMissing_12 (by decide) hw
  · refine x_ic hg dX2_isMissing_7 ic_1 rfl ?_
    refine x_goto hg dX2_isMissing_8 (pc' := 12) (by decide) ?_
    exact x_zret hg dX2_isMissing_12 (by decide) hw
def wSheet_begin_15 (k : Nat) (f2 : Int32) (K34 : Sg → Prop) : Nat → Int32 → Sg → Prop
  | 0, _, _ => False
  | n + 1, a3, s0 => ((f2 ≤ a3 → K34  s0) ∧ (¬ f2 ≤ a3 → (wRow_add ((k + 1)) 0 s0 (fun (s1 : Sg) => wSheet_begin_15 k f2 K34 n ((a3 + 1)) s1))))
def wSheet_begin (k : Nat) (a1 : Int32) (a2 : Int32) (s0 : Sg) (P : Sg → Prop) : Prop := (∀ s1 : Sg, s1 = u2 s0 k 0 a1 → (∀ s2 : Sg, s2 = u2 s1 ((k + 1)) 1 0 → (∃ N1 : Nat, wSheet_begin_15 k a2 (fun  (s3 : Sg) => P s3) N1 0 s2)))
set_option maxRecDepth 100000 in
set_option maxHeartbeats 4000000 in
theorem xSheet_begin_15 {w : Wc} {g : Gx} {Q : State → Prop} {k : Nat} {f2 : Int32} {K34 : Sg → Prop} (hg : OK shC w g 2 cX2_begin "BagBottom$Sheet" 4 none) (hk : kd shC k = 3) (hK34 : ∀ (s0 : Sg), K34  s0 → X shC w g Q 34 [none, none, none, none] [] s0) : ∀ (n : Nat) (a3 : Int32) (s0 : Sg), wSheet_begin_15 k f2 K34 n a3 s0 → X shC w g Q 15 [some (.ref (ad w k)), none, some (.int f2), some (.int a3)] [] s0 := by
  intro n
  induction n with
  | zero =>
    intro a3 s0 hw
    exact hw.elim
  | succ n ih =>
    intro a3 s0 hw
    rw [wSheet_begin_15] at hw
    refine x_iload_3 hg dX2_begin_15 rfl ?_
    refine x_iload_2 hg dX2_begin_16 rfl ?_
    refine x_icmp_ge hg dX2_begin_17 (tg := 34) (by decide) rfl hw (fun hw => ?_) (fun hw => ?_)
    · refine x_drop_0 ?_
      refine x_drop_2 ?_
      refine x_drop_3 ?_
      exact hK34  _ hw
    · refine x_aload_0 hg dX2_begin_20 rfl ?_
      refine get_X2_1 hg hk fl_X2_14 dX2_begin_21 rfl (k2 := (k + 1)) rfl ?_
      refine x_ic hg dX2_begin_24 ic_0 rfl ?_
      refine x_callVV hg (xRow_add (gL g) (kSheet hk) hw) (kSheet hk) (by decide) rfl im_X1_add se_X1_add mi_X1_add ml_X2_27 rfl rfl (As := [.int 0]) rfl rfl rfl dX2_begin_25 rfl (fun s1 hw => ?_)
      refine x_iinc_3 hg dX2_begin_28 ic_1 rfl rfl rfl ?_
      refine x_goto hg dX2_begin_31 (pc' := 15) (by decide) ?_
      exact ih _ _ hw
set_option maxRecDepth 100000 in
set_option maxHeartbeats 4000000 in
theorem xSheet_begin {w : Wc} (l : Launch) {k : Nat} {a1 : Int32} {a2 : Int32} (hk : kd shC k = 3) {s0 : Sg} {P : Sg → Prop} (hw : wSheet_begin k a1 a2 s0 P) : CV shC w l 2 (.code yX2_begin cX2_begin 4 none) yX2_begin [.ref (ad w k), .int a1, .int a2] s0 P := by
  refine ci_of_v (own := "BagBottom$Sheet") (ls0 := [some (.ref (ad w k)), some (.int a1), some (.int a2), none]) rfl pn_X2 rfl rfl (fun g el hg => ?_)
  unfold wSheet_begin at hw
  refine x_aload_0 hg dX2_begin_0 rfl ?_
  refine x_iload_1 hg dX2_begin_1 rfl ?_
  refine put_X2_0 hg hk fl_X2_20 dX2_begin_2 rfl hw (fun s1 hw => ?_)
  refine x_aload_0 hg dX2_begin_5 rfl ?_
  refine get_X2_1 hg hk fl_X2_14 dX2_begin_6 rfl (k2 := (k + 1)) rfl ?_
  refine x_ic hg dX2_begin_9 ic_0 rfl ?_
  refine put_X1_1 hg (kSheet hk) fl_X2_24 dX2_begin_10 rfl hw (fun s2 hw => ?_)
  refine x_ic hg dX2_begin_13 ic_0 rfl ?_
  refine x_istore_3 hg dX2_begin_14 rfl rfl rfl ?_
  refine x_drop_1 ?_
  obtain ⟨N1, hw⟩ := hw
  refine xSheet_begin_15 hg hk (fun  s3 hw => ?_) _ _ _ hw
  · exact x_vret hg dX2_begin_34 hw
def wSheet_write (k : Nat) (a1 : Int32) (a2 : Int32) (s0 : Sg) (P : Sg → Prop) : Prop := (wRow_has ((k + 1)) a1 s0 (fun (r1 : Int32) (s1 : Sg) => ((r1 = 0 → P s1) ∧ (¬ r1 = 0 → ((¬ (s1 k 0) = 32 → (vp_in a1 (ln shC ((k + 1) + 1)) ∧ ∀ s2 : Sg, s2 = u2 s1 (((k + 1) + 1)) (ix a1) ((a2 &&& ((1 <<< ((s1 k 0) &&& 31)) - 1))) → P s2)) ∧ ((s1 k 0) = 32 → (vp_in a1 (ln shC ((k + 1) + 1)) ∧ ∀ s2 : Sg, s2 = u2 s1 (((k + 1) + 1)) (ix a1) a2 → P s2)))))))
set_option maxRecDepth 100000 in
set_option maxHeartbeats 4000000 in
theorem xSheet_write {w : Wc} (l : Launch) {k : Nat} {a1 : Int32} {a2 : Int32} (hk : kd shC k = 3) {s0 : Sg} {P : Sg → Prop} (hw : wSheet_write k a1 a2 s0 P) : CV shC w l 2 (.code yX2_write cX2_write 3 none) yX2_write [.ref (ad w k), .int a1, .int a2] s0 P := by
  refine ci_of_v (own := "BagBottom$Sheet") (ls0 := [some (.ref (ad w k)), some (.int a1), some (.int a2)]) rfl pn_X2 rfl rfl (fun g el hg => ?_)
  unfold wSheet_write at hw
  refine x_aload_0 hg dX2_write_0 rfl ?_
  refine get_X2_1 hg hk fl_X2_14 dX2_write_1 rfl (k2 := (k + 1)) rfl ?_
  refine x_iload_1 hg dX2_write_4 rfl ?_
  refine x_callVI hg (xRow_has (gL g) (kSheet hk) hw) (kSheet hk) (by decide) rfl im_X1_has se_X1_has mi_X1_has ml_X2_30 rfl rfl (As := [.int a1]) rfl rfl rfl dX2_write_5 rfl (fun r1 s1 hw => ?_)
  refine x_if_eq hg dX2_write_8 (tg := 43) (by decide) rfl hw (fun hw => ?_) (fun hw => ?_)
  · exact x_vret hg dX2_write_43 hw
  · refine x_aload_0 hg dX2_write_11 rfl ?_
    refine get_X2_1 hg hk fl_X2_14 dX2_write_12 rfl (k2 := (k + 1)) rfl ?_
    refine get_X1_0 hg (kSheet hk) fl_X2_34 dX2_write_15 rfl (k2 := ((k + 1) + 1)) rfl ?_
    refine x_iload_1 hg dX2_write_18 rfl ?_
    refine x_aload_0 hg dX2_write_19 rfl ?_
    refine get_X2_0 hg hk fl_X2_20 dX2_write_20 rfl ?_
    refine x_bi hg dX2_write_23 bp_32 rfl ?_
    refine x_icmp_ne hg dX2_write_25 (tg := 32) (by decide) rfl hw (fun hw => ?_) (fun hw => ?_)
    · refine x_iload_2 hg dX2_write_32 rfl ?_
      refine x_ic hg dX2_write_33 ic_1 rfl ?_
      refine x_aload_0 hg dX2_write_34 rfl ?_
      refine get_X2_0 hg hk fl_X2_20 dX2_write_35 rfl ?_
      refine x_ishl hg dX2_write_38 rfl ?_
      refine x_ic hg dX2_write_39 ic_1 rfl ?_
      refine x_isub hg dX2_write_40 rfl ?_
      refine x_iand hg dX2_write_41 rfl ?_
      refine x_iast hg (kRow (kSheet hk)) rfl dX2_write_42 rfl hw (fun s2 hw => ?_)
      exact x_vret hg dX2_write_43 hw
    · refine x_iload_2 hg dX2_write_28 rfl ?_
      refine x_goto hg dX2_write_29 (pc' := 42) (by decide) ?_
      refine x_iast hg (kRow (kSheet hk)) rfl dX2_write_42 rfl hw (fun s2 hw => ?_)
      exact x_vret hg dX2_write_43 hw
