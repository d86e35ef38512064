def wVoices_bodyFrom_4 (f0 : Int32) (P : Int32 → Sg → Prop) (K45 : Sg → Prop) : Nat → Int32 → Int32 → Sg → Prop
  | 0, _, _, _ => False
  | n + 1, a2, a3, s0 => ((7 ≤ a3 → K45  s0) ∧ (¬ 7 ≤ a3 → ((a2 < 0 → K45  s0) ∧ (¬ a2 < 0 → (vp_in (((a2 * 4) + f0)) 28 ∧ (((bdF (ix (((a2 * 4) + f0)))) = 0 → (vp_in a2 7 ∧ wVoices_bodyFrom_4 f0 P K45 n ((kaF (ix a2))) ((a3 + 1)) s0)) ∧ (¬ (bdF (ix (((a2 * 4) + f0)))) = 0 → P ((bdF (ix (((a2 * 4) + f0))))) s0)))))))
def wVoices_bodyFrom (a0 : Int32) (a1 : Int32) (s0 : Sg) (P : Int32 → Sg → Prop) : Prop := (∃ N1 : Nat, wVoices_bodyFrom_4 a0 P (fun  (s1 : Sg) => P 0 s1) N1 a1 0 s0)
set_option maxRecDepth 100000 in
set_option maxHeartbeats 4000000 in
theorem xVoices_bodyFrom_4 {w : Wc} {g : Gx} {Q : State → Prop} {f0 : Int32} {P : Int32 → Sg → Prop} {K45 : Sg → Prop} (hg : OK shC w g 1 cX6_bodyFrom "BagBottom$Voices" 5 (some .int)) (hQ : Q = QI shC w g P) (hK45 : ∀ (s0 : Sg), K45  s0 → X shC w g Q 45 [none, none, none, none, none] [] s0) : ∀ (n : Nat) (a2 a3 : Int32) (s0 : Sg), wVoices_bodyFrom_4 f0 P K45 n a2 a3 s0 → X shC w g Q 4 [some (.int f0), none, some (.int a2), some (.int a3), none] [] s0 := by
  subst hQ
  intro n
  induction n with
  | zero =>
    intro a2 a3 s0 hw
    exact hw.elim
  | succ n ih =>
    intro a2 a3 s0 hw
    rw [wVoices_bodyFrom_4] at hw
    refine x_iload_3 hg dX6_bodyFrom_4 rfl ?_
    refine x_bi hg dX6_bodyFrom_5 bp_7 rfl ?_
    refine x_icmp_ge hg dX6_bodyFrom_7 (tg := 45) (by decide) rfl hw (fun hw => ?_) (fun hw => ?_)
    · refine x_drop_0 ?_
      refine x_drop_2 ?_
      refine x_drop_3 ?_
      exact hK45  _ hw
    · refine x_iload_2 hg dX6_bodyFrom_10 rfl ?_
      refine x_if_lt hg dX6_bodyFrom_11 (tg := 45) (by decide) rfl hw (fun hw => ?_) (fun hw => ?_)
      · refine x_drop_0 ?_
        refine x_drop_2 ?_
        refine x_drop_3 ?_
        exact hK45  _ hw
      · refine x_getsB hg fl_X6_45 dX6_bodyFrom_14 rfl ?_
        refine x_iload_2 hg dX6_bodyFrom_17 rfl ?_
        refine x_ic hg dX6_bodyFrom_18 ic_4 rfl ?_
        refine x_imul hg dX6_bodyFrom_19 rfl ?_
        refine x_iload_0 hg dX6_bodyFrom_20 rfl ?_
        refine x_iadd hg dX6_bodyFrom_21 rfl ?_
        refine x_tldB hg dX6_bodyFrom_22 rfl hw (fun hw => ?_)
        refine x_istore_4 hg dX6_bodyFrom_23 rfl rfl rfl ?_
        refine x_iload_4 hg dX6_bodyFrom_25 rfl ?_
        refine x_if_eq hg dX6_bodyFrom_27 (tg := 33) (by decide) rfl hw (fun hw => ?_) (fun hw => ?_)
        · refine x_getsK hg nest_X6 dX6_bodyFrom_33 rfl ?_
          refine x_iload_2 hg dX6_bodyFrom_36 rfl ?_
          refine x_tldK hg dX6_bodyFrom_37 rfl hw (fun hw => ?_)
          refine x_istore_2 hg dX6_bodyFrom_38 rfl rfl rfl ?_
          refine x_iinc_3 hg dX6_bodyFrom_39 ic_1 rfl rfl rfl ?_
          refine x_goto hg dX6_bodyFrom_42 (pc' := 4) (by decide) ?_
          refine x_drop_4 ?_
          exact ih _ _ _ hw
        · refine x_iload_4 hg dX6_bodyFrom_30 rfl ?_
          exact x_ret hg dX6_bodyFrom_32 hw
set_option maxRecDepth 100000 in
set_option maxHeartbeats 4000000 in
theorem xVoices_bodyFrom {w : Wc} (l : Launch) {a0 : Int32} {a1 : Int32} {s0 : Sg} {P : Int32 → Sg → Prop} (hw : wVoices_bodyFrom a0 a1 s0 P) : CI shC w l 1 (.code yX6_bodyFrom cX6_bodyFrom 5 (some .int)) yX6_bodyFrom [.int a0, .int a1] s0 P := by
  refine ci_of_i (own := "BagBottom$Voices") (ls0 := [some (.int a0), some (.int a1), none, none, none]) rfl pn_X6 rfl rfl (fun g el hg => ?_)
  unfold wVoices_bodyFrom at hw
  refine x_iload_1 hg dX6_bodyFrom_0 rfl ?_
  refine x_istore_2 hg dX6_bodyFrom_1 rfl rfl rfl ?_
  refine x_ic hg dX6_bodyFrom_2 ic_0 rfl ?_
  refine x_istore_3 hg dX6_bodyFrom_3 rfl rfl rfl ?_
  refine x_drop_1 ?_
  obtain ⟨N1, hw⟩ := hw
  refine xVoices_bodyFrom_4 hg  rfl (fun  s1 hw => ?_) _ _ _ _ hw
  · refine x_ic hg dX6_bodyFrom_45 ic_0 rfl ?_
    exact x_ret hg dX6_bodyFrom_46 hw
def wVoices_partedBy (a1 : Int32) (a2 : Int32) (s0 : Sg) (P : Int32 → Sg → Prop) : Prop := ((¬ a2 = 0 → (¬ a2 = 0 ∧ P ((a1 / a2)) s0)) ∧ (a2 = 0 → (∀ s1 : Sg, s1 = u2 s0 64 1 1 → P 0 s1)))
set_option maxRecDepth 100000 in
set_option maxHeartbeats 4000000 in
theorem xVoices_partedBy {w : Wc} (l : Launch) {a1 : Int32} {a2 : Int32} {s0 : Sg} {P : Int32 → Sg → Prop} (hw : wVoices_partedBy a1 a2 s0 P) : CI shC w l 1 (.code yX6_partedBy cX6_partedBy 3 (some .int)) yX6_partedBy [.ref (ad w 64), .int a1, .int a2] s0 P := by
  refine ci_of_i (own := "BagBottom$Voices") (ls0 := [some (.ref (ad w 64)), some (.int a1), some (.int a2)]) rfl pn_X6 rfl rfl (fun g el hg => ?_)
  unfold wVoices_partedBy at hw
  refine x_iload_2 hg dX6_partedBy_0 rfl ?_
  refine x_if_ne hg dX6_partedBy_1 (tg := 11) (by decide) rfl hw (fun hw => ?_) (fun hw => ?_)
  · refine x_iload_1 hg dX6_partedBy_11 rfl ?_
    refine x_iload_2 hg dX6_partedBy_12 rfl ?_
    obtain ⟨hne, hw⟩ := hw
    refine x_idiv hg dX6_partedBy_13 hne rfl ?_
    exact x_ret hg dX6_partedBy_14 hw
  · refine x_aload_0 hg dX6_partedBy_4 rfl ?_
    refine x_ic hg dX6_partedBy_5 ic_1 rfl ?_
    refine put_X6_1 hg kC_64 (by decide) fl_X6_34 dX6_partedBy_6 rfl hw (fun s1 hw => ?_)
    refine x_ic hg dX6_partedBy_9 ic_0 rfl ?_
    exact x_ret hg dX6_partedBy_10 hw
def wVoices_speak (rc : Nat → List Int32 → Sg → (Int32 → Sg → Prop) → Prop) (a1 : Int32) (a2 : Int32) (a3 : Int32) (a4 : Int32) (s0 : Sg) (P : Int32 → Sg → Prop) : Prop := (wVoices_bodyFrom a1 a2 s0 (fun (r1 : Int32) (s1 : Sg) => ((30 < a4 → P 0 s1) ∧ (¬ 30 < a4 → ((¬ (s1 64 1) = 0 → P 0 s1) ∧ ((s1 64 1) = 0 → ((¬ r1 = 0 → (wRow_add 65 r1 s1 (fun (s2 : Sg) => (vp_in (((r1 / 10) - 1)) 7 ∧ ((r1 = 10 → P ((a3 + (s2 64 2))) s2) ∧ (¬ r1 = 10 → ((r1 = 11 → (rc 0 [0, ((s2 64 3)), a3, ((a4 + 1))] s2 (fun (r2 : Int32) (s3 : Sg) => P ((r2 * 2)) s3))) ∧ (¬ r1 = 11 → ((r1 = 12 → (rc 0 [1, ((s2 64 3)), a3, ((a4 + 1))] s2 (fun (r2 : Int32) (s3 : Sg) => P ((r2 - (s3 64 4))) s3))) ∧ (¬ r1 = 12 → ((r1 = 13 → (wVoices_partedBy a3 (((s2 64 4) - (s2 64 2))) s2 (fun (r2 : Int32) (s3 : Sg) => P r2 s3))) ∧ (¬ r1 = 13 → ((r1 = 20 → (rc 0 [0, ((kaF (ix (((r1 / 10) - 1))))), a3, ((a4 + 1))] s2 (fun (r2 : Int32) (s3 : Sg) => P ((r2 - 4)) s3))) ∧ (¬ r1 = 20 → ((r1 = 21 → (rc 0 [3, ((kaF (ix (((r1 / 10) - 1))))), a3, ((a4 + 1))] s2 (fun (r2 : Int32) (s3 : Sg) => (rc 0 [1, ((s3 64 3)), 1, ((a4 + 1))] s3 (fun (r3 : Int32) (s4 : Sg) => P ((r2 + r3)) s4))))) ∧ (¬ r1 = 21 → ((r1 = 30 → (rc 0 [1, ((kaF (ix (((r1 / 10) - 1))))), a3, ((a4 + 1))] s2 (fun (r2 : Int32) (s3 : Sg) => P ((0 - r2)) s3))) ∧ (¬ r1 = 30 → ((r1 = 40 → (rc 0 [2, ((kaF (ix (((r1 / 10) - 1))))), ((a3 / 2)), ((a4 + 1))] s2 (fun (r2 : Int32) (s3 : Sg) => P r2 s3))) ∧ (¬ r1 = 40 → ((r1 = 50 → (rc 0 [0, ((kaF (ix (((r1 / 10) - 1))))), a3, ((a4 + 1))] s2 (fun (r2 : Int32) (s3 : Sg) => P ((r2 * 3)) s3))) ∧ (¬ r1 = 50 → ((r1 = 51 → (rc 0 [2, ((kaF (ix (((r1 / 10) - 1))))), a3, ((a4 + 1))] s2 (fun (r2 : Int32) (s3 : Sg) => P ((r2 ^^^ (s3 64 2))) s3))) ∧ (¬ r1 = 51 → ((r1 = 60 → (rc 0 [1, ((kaF (ix (((r1 / 10) - 1))))), ((a3 + 1)), ((a4 + 1))] s2 (fun (r2 : Int32) (s3 : Sg) => P r2 s3))) ∧ (¬ r1 = 60 → ((r1 = 70 → P 9 s2) ∧ (¬ r1 = 70 → ((r1 = 71 → (rc 0 [1, ((kaF (ix (((r1 / 10) - 1))))), a3, ((a4 + 1))] s2 (fun (r2 : Int32) (s3 : Sg) => P ((r2 + (s3 64 4))) s3))) ∧ (¬ r1 = 71 → P 0 s2)))))))))))))))))))))))))))))) ∧ (r1 = 0 → P 0 s1))))))))
set_option maxRecDepth 100000 in
set_option maxHeartbeats 4000000 in
theorem xbVoices_speak {w : Wc} {l : Launch} {d : Nat} {D : Nat} {rc : Nat → List Int32 → Sg → (Int32 → Sg → Prop) → Prop} {a1 : Int32} {a2 : Int32} {a3 : Int32} {a4 : Int32} (hd : 2 ≤ d) (hDd : Nat.ble (D + 1) d = true) (hrc0 : ∀ (b1 b2 b3 b4 : Int32) (s : Sg) (R : Int32 → Sg → Prop), rc 0 [b1, b2, b3, b4] s R → CI shC w l D (.code yX6_speak cX6_speak 8 (some .int)) yX6_speak [.ref (ad w 64), .int b1, .int b2, .int b3, .int b4] s R) {s0 : Sg} {P : Int32 → Sg → Prop} (hw : wVoices_speak rc a1 a2 a3 a4 s0 P) : CI shC w l d (.code yX6_speak cX6_speak 8 (some .int)) yX6_speak [.ref (ad w 64), .int a1, .int a2, .int a3, .int a4] s0 P := by
  refine ci_of_i (own := "BagBottom$Voices") (ls0 := [some (.ref (ad w 64)), some (.int a1), some (.int a2), some (.int a3), some (.int a4), none, none, none]) rfl pn_X6 rfl rfl (fun g el hg => ?_)
  subst el
  unfold wVoices_speak at hw
  refine x_iload_1 hg dX6_speak_0 rfl ?_
  refine x_iload_2 hg dX6_speak_1 rfl ?_
  refine x_callSI hg (xVoices_bodyFrom (gL g)  hw) sm_X6_bodyFrom mi_X6_bodyFrom ml_X6_52 (ble_of (by omega)) rfl (As := [.int a1, .int a2]) rfl rfl rfl dX6_speak_2 rfl (fun r1 s1 hw => ?_)
  refine x_istore_5 hg dX6_speak_5 rfl rfl rfl ?_
  refine x_iload_4 hg dX6_speak_7 rfl ?_
  refine x_bi hg dX6_speak_9 bp_30 rfl ?_
  refine x_icmp_gt hg dX6_speak_11 (tg := 26) (by decide) rfl hw (fun hw => ?_) (fun hw => ?_)
  · refine x_ic hg dX6_speak_26 ic_0 rfl ?_
    exact x_ret hg dX6_speak_27 hw
  · refine x_aload_0 hg dX6_speak_14 rfl ?_
    refine get_X6_1 hg kC_64 fl_X6_34 dX6_speak_15 rfl ?_
    refine x_if_ne hg dX6_speak_18 (tg := 26) (by decide) rfl hw (fun hw => ?_) (fun hw => ?_)
    · refine x_ic hg dX6_speak_26 ic_0 rfl ?_
      exact x_ret hg dX6_speak_27 hw
    · refine x_iload_5 hg dX6_speak_21 rfl ?_
      refine x_if_ne hg dX6_speak_23 (tg := 28) (by decide) rfl hw (fun hw => ?_) (fun hw => ?_)
      · refine x_aload_0 hg dX6_speak_28 rfl ?_
        refine get_X6_0 hg kC_64 fl_X6_14 dX6_speak_29 rfl (k2 := 65) rfl ?_
        refine x_iload_5 hg dX6_speak_32 rfl ?_
        refine x_callVV hg (xRow_add (gL g) kC_65 hw) kC_65 (by decide) rfl im_X1_add se_X1_add mi_X1_add ml_X6_56 (ble_of (by omega)) rfl (As := [.int r1]) rfl rfl rfl dX6_speak_34 rfl (fun s2 hw => ?_)
        refine x_getsK hg nest_X6 dX6_speak_37 rfl ?_
        refine x_iload_5 hg dX6_speak_40 rfl ?_
        refine x_bi hg dX6_speak_42 bp_10 rfl ?_
        refine x_idiv hg dX6_speak_44 ne_10 rfl ?_
        refine x_ic hg dX6_speak_45 ic_1 rfl ?_
        refine x_isub hg dX6_speak_46 rfl ?_
        refine x_tldK hg dX6_speak_47 rfl hw (fun hw => ?_)
        refine x_istore_6 hg dX6_speak_48 rfl rfl rfl ?_
        refine x_iload_4 hg dX6_speak_50 rfl ?_
        refine x_ic hg dX6_speak_52 ic_1 rfl ?_
        refine x_iadd hg dX6_speak_53 rfl ?_
        refine x_istore_7 hg dX6_speak_54 rfl rfl rfl ?_
        refine x_iload_5 hg dX6_speak_56 rfl ?_
        refine x_br hw (fun h0 hw => ?_) (fun h0 hw => ?_)
        · refine x_lkp hg dX6_speak_58 (ps := [(10, 114), (11, 121), (12, 136), (13, 154), (20, 169), (21, 182), (30, 206), (40, 219), (50, 232), (51, 245), (60, 261), (70, 274), (71, 277)]) rfl (tg := 172) (by rw [h0]; decide) ?_
          refine x_iload_3 hg dX6_speak_172 rfl ?_
          refine x_aload_0 hg dX6_speak_173 rfl ?_
          refine get_X6_2 hg kC_64 fl_X6_20 dX6_speak_174 rfl ?_
          refine x_iadd hg dX6_speak_177 rfl ?_
          exact x_ret hg dX6_speak_178 hw
        · skip
          refine x_br hw (fun h1 hw => ?_) (fun h1 hw => ?_)
          · refine x_lkp hg dX6_speak_58 (ps := [(10, 114), (11, 121), (12, 136), (13, 154), (20, 169), (21, 182), (30, 206), (40, 219), (50, 232), (51, 245), (60, 261), (70, 274), (71, 277)]) rfl (tg := 179) (by rw [h1]; decide) ?_
            refine x_aload_0 hg dX6_speak_179 rfl ?_
            refine x_ic hg dX6_speak_180 ic_0 rfl ?_
            refine x_aload_0 hg dX6_speak_181 rfl ?_
            refine get_X6_3 hg kC_64 fl_X6_29 dX6_speak_182 rfl ?_
            refine x_iload_3 hg dX6_speak_185 rfl ?_
            refine x_iload_7 hg dX6_speak_186 rfl ?_
            refine x_callVI hg (hrc0 _ _ _ _ _ _ hw) kC_64 (by decide) rfl im_X6_speak se_X6_speak mi_X6_speak ml_X6_41 hDd rfl (As := [.int 0, .int (s2 64 3), .int a3, .int (a4 + 1)]) rfl rfl rfl dX6_speak_188 rfl (fun r2 s3 hw => ?_)
            refine x_ic hg dX6_speak_191 ic_2 rfl ?_
            refine x_imul hg dX6_speak_192 rfl ?_
            exact x_ret hg dX6_speak_193 hw
          · skip
            refine x_br hw (fun h2 hw => ?_) (fun h2 hw => ?_)
            · refine x_lkp hg dX6_speak_58 (ps := [(10, 114), (11, 121), (12, 136), (13, 154), (20, 169), (21, 182), (30, 206), (40, 219), (50, 232), (51, 245), (60, 261), (70, 274), (71, 277)]) rfl (tg := 194) (by rw [h2]; decide) ?_
              refine x_aload_0 hg dX6_speak_194 rfl ?_
              refine x_ic hg dX6_speak_195 ic_1 rfl ?_
              refine x_aload_0 hg dX6_speak_196 rfl ?_
              refine get_X6_3 hg kC_64 fl_X6_29 dX6_speak_197 rfl ?_
              refine x_iload_3 hg dX6_speak_200 rfl ?_
              refine x_iload_7 hg dX6_speak_201 rfl ?_
              refine x_callVI hg (hrc0 _ _ _ _ _ _ hw) kC_64 (by decide) rfl im_X6_speak se_X6_speak mi_X6_speak ml_X6_41 hDd rfl (As := [.int 1, .int (s2 64 3), .int a3, .int (a4 + 1)]) rfl rfl rfl dX6_speak_203 rfl (fun r2 s3 hw => ?_)
              refine x_aload_0 hg dX6_speak_206 rfl ?_
              refine get_X6_4 hg kC_64 fl_X6_33 dX6_speak_207 rfl ?_
              refine x_isub hg dX6_speak_210 rfl ?_
              exact x_ret hg dX6_speak_211 hw
            · skip
              refine x_br hw (fun h3 hw => ?_) (fun h3 hw => ?_)
              · refine x_lkp hg dX6_speak_58 (ps := [(10, 114), (11, 121), (12, 136), (13, 154), (20, 169), (21, 182), (30, 206), (40, 219), (50, 232), (51, 245), (60, 261), (70, 274), (71, 277)]) rfl (tg := 212) (by rw [h3]; decide) ?_
                refine x_aload_0 hg dX6_speak_212 rfl ?_
                refine x_iload_3 hg dX6_speak_213 rfl ?_
                refine x_aload_0 hg dX6_speak_214 rfl ?_
                refine get_X6_4 hg kC_64 fl_X6_33 dX6_speak_215 rfl ?_
                refine x_aload_0 hg dX6_speak_218 rfl ?_
                refine get_X6_2 hg kC_64 fl_X6_20 dX6_speak_219 rfl ?_
                refine x_isub hg dX6_speak_222 rfl ?_
                refine x_callVI hg (xVoices_partedBy (gL g)  hw) kC_64 (by decide) rfl im_X6_partedBy se_X6_partedBy mi_X6_partedBy ml_X6_59 (ble_of (by omega)) rfl (As := [.int a3, .int ((s2 64 4) - (s2 64 2))]) rfl rfl rfl dX6_speak_223 rfl (fun r2 s3 hw => ?_)
                exact x_ret hg dX6_speak_226 hw
              · skip
                refine x_br hw (fun h4 hw => ?_) (fun h4 hw => ?_)
                · refine x_lkp hg dX6_speak_58 (ps := [(10, 114), (11, 121), (12, 136), (13, 154), (20, 169), (21, 182), (30, 206), (40, 219), (50, 232), (51, 245), (60, 261), (70, 274), (71, 277)]) rfl (tg := 227) (by rw [h4]; decide) ?_
                  refine x_aload_0 hg dX6_speak_227 rfl ?_
                  refine x_ic hg dX6_speak_228 ic_0 rfl ?_
                  refine x_iload_6 hg dX6_speak_229 rfl ?_
                  refine x_iload_3 hg dX6_speak_231 rfl ?_
                  refine x_iload_7 hg dX6_speak_232 rfl ?_
                  refine x_callVI hg (hrc0 _ _ _ _ _ _ hw) kC_64 (by decide) rfl im_X6_speak se_X6_speak mi_X6_speak ml_X6_41 hDd rfl (As := [.int 0, .int (kaF (ix (((r1 / 10) - 1)))), .int a3, .int (a4 + 1)]) rfl rfl rfl dX6_speak_234 rfl (fun r2 s3 hw => ?_)
                  refine x_ic hg dX6_speak_237 ic_4 rfl ?_
                  refine x_isub hg dX6_speak_238 rfl ?_
                  exact x_ret hg dX6_speak_239 hw
                · skip
                  refine x_br hw (fun h5 hw => ?_) (fun h5 hw => ?_)
                  · refine x_lkp hg dX6_speak_58 (ps := [(10, 114), (11, 121), (12, 136), (13, 154), (20, 169), (21, 182), (30, 206), (40, 219), (50, 232), (51, 245), (60, 261), (70, 274), (71, 277)]) rfl (tg := 240) (by rw [h5]; decide) ?_
                    refine x_aload_0 hg dX6_speak_240 rfl ?_
                    refine x_ic hg dX6_speak_241 ic_3 rfl ?_
                    refine x_iload_6 hg dX6_speak_242 rfl ?_
                    refine x_iload_3 hg dX6_speak_244 rfl ?_
                    refine x_iload_7 hg dX6_speak_245 rfl ?_
                    refine x_callVI hg (hrc0 _ _ _ _ _ _ hw) kC_64 (by decide) rfl im_X6_speak se_X6_speak mi_X6_speak ml_X6_41 hDd rfl (As := [.int 3, .int (kaF (ix (((r1 / 10) - 1)))), .int a3, .int (a4 + 1)]) rfl rfl rfl dX6_speak_247 rfl (fun r2 s3 hw => ?_)
                    refine x_aload_0 hg dX6_speak_250 rfl ?_
                    refine x_ic hg dX6_speak_251 ic_1 rfl ?_
                    refine x_aload_0 hg dX6_speak_252 rfl ?_
                    refine get_X6_3 hg kC_64 fl_X6_29 dX6_speak_253 rfl ?_
                    refine x_ic hg dX6_speak_256 ic_1 rfl ?_
                    refine x_iload_7 hg dX6_speak_257 rfl ?_
                    refine x_callVI hg (hrc0 _ _ _ _ _ _ hw) kC_64 (by decide) rfl im_X6_speak se_X6_speak mi_X6_speak ml_X6_41 hDd rfl (As := [.int 1, .int (s3 64 3), .int 1, .int (a4 + 1)]) rfl rfl rfl dX6_speak_259 rfl (fun r3 s4 hw => ?_)
                    refine x_iadd hg dX6_speak_262 rfl ?_
                    exact x_ret hg dX6_speak_263 hw
                  · skip
                    refine x_br hw (fun h6 hw => ?_) (fun h6 hw => ?_)
                    · refine x_lkp hg dX6_speak_58 (ps := [(10, 114), (11, 121), (12, 136), (13, 154), (20, 169), (21, 182), (30, 206), (40, 219), (50, 232), (51, 245), (60, 261), (70, 274), (71, 277)]) rfl (tg := 264) (by rw [h6]; decide) ?_
                      refine x_ic hg dX6_speak_264 ic_0 rfl ?_
                      refine x_aload_0 hg dX6_speak_265 rfl ?_
                      refine x_ic hg dX6_speak_266 ic_1 rfl ?_
                      refine x_iload_6 hg dX6_speak_267 rfl ?_
                      refine x_iload_3 hg dX6_speak_269 rfl ?_
                      refine x_iload_7 hg dX6_speak_270 rfl ?_
                      refine x_callVI hg (hrc0 _ _ _ _ _ _ hw) kC_64 (by decide) rfl im_X6_speak se_X6_speak mi_X6_speak ml_X6_41 hDd rfl (As := [.int 1, .int (kaF (ix (((r1 / 10) - 1)))), .int a3, .int (a4 + 1)]) rfl rfl rfl dX6_speak_272 rfl (fun r2 s3 hw => ?_)
                      refine x_isub hg dX6_speak_275 rfl ?_
                      exact x_ret hg dX6_speak_276 hw
                    · skip
                      refine x_br hw (fun h7 hw => ?_) (fun h7 hw => ?_)
                      · refine x_lkp hg dX6_speak_58 (ps := [(10, 114), (11, 121), (12, 136), (13, 154), (20, 169), (21, 182), (30, 206), (40, 219), (50, 232), (51, 245), (60, 261), (70, 274), (71, 277)]) rfl (tg := 277) (by rw [h7]; decide) ?_
                        refine x_aload_0 hg dX6_speak_277 rfl ?_
                        refine x_ic hg dX6_speak_278 ic_2 rfl ?_
                        refine x_iload_6 hg dX6_speak_279 rfl ?_
                        refine x_iload_3 hg dX6_speak_281 rfl ?_
                        refine x_ic hg dX6_speak_282 ic_2 rfl ?_
                        refine x_idiv hg dX6_speak_283 ne_2 rfl ?_
                        refine x_iload_7 hg dX6_speak_284 rfl ?_
                        refine x_callVI hg (hrc0 _ _ _ _ _ _ hw) kC_64 (by decide) rfl im_X6_speak se_X6_speak mi_X6_speak ml_X6_41 hDd rfl (As := [.int 2, .int (kaF (ix (((r1 / 10) - 1)))), .int (a3 / 2), .int (a4 + 1)]) rfl rfl rfl dX6_speak_286 rfl (fun r2 s3 hw => ?_)
                        exact x_ret hg dX6_speak_289 hw
                      · skip
                        refine x_br hw (fun h8 hw => ?_) (fun h8 hw => ?_)
                        · refine x_lkp hg dX6_speak_58 (ps := [(10, 114), (11, 121), (12, 136), (13, 154), (20, 169), (21, 182), (30, 206), (40, 219), (50, 232), (51, 245), (60, 261), (70, 274), (71, 277)]) rfl (tg := 290) (by rw [h8]; decide) ?_
                          refine x_aload_0 hg dX6_speak_290 rfl ?_
                          refine x_ic hg dX6_speak_291 ic_0 rfl ?_
                          refine x_iload_6 hg dX6_speak_292 rfl ?_
                          refine x_iload_3 hg dX6_speak_294 rfl ?_
                          refine x_iload_7 hg dX6_speak_295 rfl ?_
                          refine x_callVI hg (hrc0 _ _ _ _ _ _ hw) kC_64 (by decide) rfl im_X6_speak se_X6_speak mi_X6_speak ml_X6_41 hDd rfl (As := [.int 0, .int (kaF (ix (((r1 / 10) - 1)))), .int a3, .int (a4 + 1)]) rfl rfl rfl dX6_speak_297 rfl (fun r2 s3 hw => ?_)
                          refine x_ic hg dX6_speak_300 ic_3 rfl ?_
                          refine x_imul hg dX6_speak_301 rfl ?_
                          exact x_ret hg dX6_speak_302 hw
                        · skip
                          refine x_br hw (fun h9 hw => ?_) (fun h9 hw => ?_)
                          · refine x_lkp hg dX6_speak_58 (ps := [(10, 114), (11, 121), (12, 136), (13, 154), (20, 169), (21, 182), (30, 206), (40, 219), (50, 232), (51, 245), (60, 261), (70, 274), (71, 277)]) rfl (tg := 303) (by rw [h9]; decide) ?_
                            refine x_aload_0 hg dX6_speak_303 rfl ?_
                            refine x_ic hg dX6_speak_304 ic_2 rfl ?_
                            refine x_iload_6 hg dX6_speak_305 rfl ?_
                            refine x_iload_3 hg dX6_speak_307 rfl ?_
                            refine x_iload_7 hg dX6_speak_308 rfl ?_
                            refine x_callVI hg (hrc0 _ _ _ _ _ _ hw) kC_64 (by decide) rfl im_X6_speak se_X6_speak mi_X6_speak ml_X6_41 hDd rfl (As := [.int 2, .int (kaF (ix (((r1 / 10) - 1)))), .int a3, .int (a4 + 1)]) rfl rfl rfl dX6_speak_310 rfl (fun r2 s3 hw => ?_)
                            refine x_aload_0 hg dX6_speak_313 rfl ?_
                            refine get_X6_2 hg kC_64 fl_X6_20 dX6_speak_314 rfl ?_
                            refine x_ixor hg dX6_speak_317 rfl ?_
                            exact x_ret hg dX6_speak_318 hw
                          · skip
                            refine x_br hw (fun h10 hw => ?_) (fun h10 hw => ?_)
                            · refine x_lkp hg dX6_speak_58 (ps := [(10, 114), (11, 121), (12, 136), (13, 154), (20, 169), (21, 182), (30, 206), (40, 219), (50, 232), (51, 245), (60, 261), (70, 274), (71, 277)]) rfl (tg := 319) (by rw [h10]; decide) ?_
                              refine x_aload_0 hg dX6_speak_319 rfl ?_
                              refine x_ic hg dX6_speak_320 ic_1 rfl ?_
                              refine x_iload_6 hg dX6_speak_321 rfl ?_
                              refine x_iload_3 hg dX6_speak_323 rfl ?_
                              refine x_ic hg dX6_speak_324 ic_1 rfl ?_
                              refine x_iadd hg dX6_speak_325 rfl ?_
                              refine x_iload_7 hg dX6_speak_326 rfl ?_
                              refine x_callVI hg (hrc0 _ _ _ _ _ _ hw) kC_64 (by decide) rfl im_X6_speak se_X6_speak mi_X6_speak ml_X6_41 hDd rfl (As := [.int 1, .int (kaF (ix (((r1 / 10) - 1)))), .int (a3 + 1), .int (a4 + 1)]) rfl rfl rfl dX6_speak_328 rfl (fun r2 s3 hw => ?_)
                              exact x_ret hg dX6_speak_331 hw
                            · skip
                              refine x_br hw (fun h11 hw => ?_) (fun h11 hw => ?_)
                              · refine x_lkp hg dX6_speak_58 (ps := [(10, 114), (11, 121), (12, 136), (13, 154), (20, 169), (21, 182), (30, 206), (40, 219), (50, 232), (51, 245), (60, 261), (70, 274), (71, 277)]) rfl (tg := 332) (by rw [h11]; decide) ?_
                                refine x_bi hg dX6_speak_332 bp_9 rfl ?_
                                exact x_ret hg dX6_speak_334 hw
                              · skip
                                refine x_br hw (fun h12 hw => ?_) (fun h12 hw => ?_)
                                · refine x_lkp hg dX6_speak_58 (ps := [(10, 114), (11, 121), (12, 136), (13, 154), (20, 169), (21, 182), (30, 206), (40, 219), (50, 232), (51, 245), (60, 261), (70, 274), (71, 277)]) rfl (tg := 335) (by rw [h12]; decide) ?_
                                  refine x_aload_0 hg dX6_speak_335 rfl ?_
                                  refine x_ic hg dX6_speak_336 ic_1 rfl ?_
                                  refine x_iload_6 hg dX6_speak_337 rfl ?_
                                  refine x_iload_3 hg dX6_speak_339 rfl ?_
                                  refine x_iload_7 hg dX6_speak_340 rfl ?_
                                  refine x_callVI hg (hrc0 _ _ _ _ _ _ hw) kC_64 (by decide) rfl im_X6_speak se_X6_speak mi_X6_speak ml_X6_41 hDd rfl (As := [.int 1, .int (kaF (ix (((r1 / 10) - 1)))), .int a3, .int (a4 + 1)]) rfl rfl rfl dX6_speak_342 rfl (fun r2 s3 hw => ?_)
                                  refine x_aload_0 hg dX6_speak_345 rfl ?_
                                  refine get_X6_4 hg kC_64 fl_X6_33 dX6_speak_346 rfl ?_
                                  refine x_iadd hg dX6_speak_349 rfl ?_
                                  exact x_ret hg dX6_speak_350 hw
                                · skip
                                  refine x_lkp hg dX6_speak_58 (ps := [(10, 114), (11, 121), (12, 136), (13, 154), (20, 169), (21, 182), (30, 206), (40, 219), (50, 232), (51, 245), (60, 261), (70, 274), (71, 277)]) rfl (tg := 351) (by simp only [lk, if_neg h0, if_neg h1, if_neg h2, if_neg h3, if_neg h4, if_neg h5, if_neg h6, if_neg h7, if_neg h8, if_neg h9, if_neg h10, if_neg h11, if_neg h12, ite_self]; decide) ?_
                                  refine x_ic hg dX6_speak_351 ic_0 rfl ?_
                                  exact x_ret hg dX6_speak_352 hw
      · refine x_ic hg dX6_speak_26 ic_0 rfl ?_
        exact x_ret hg dX6_speak_27 hw
set_option maxRecDepth 100000 in
set_option maxHeartbeats 4000000 in
def wGSpeak : Nat → Nat → List Int32 → Sg → (Int32 → Sg → Prop) → Prop
  | 0, _, _, _, _ => False
  | n + 1, q, as, s, P => match q with
    | _ => wVoices_speak (wGSpeak n) (as.getD 0 0) (as.getD 1 0) (as.getD 2 0) (as.getD 3 0) s P
set_option maxRecDepth 100000 in
set_option maxHeartbeats 4000000 in
theorem xGSpeak {w : Wc} (l : Launch) : ∀ n : Nat, (∀ (b1 b2 b3 b4 : Int32) (s : Sg) (R : Int32 → Sg → Prop), wGSpeak n 0 [b1, b2, b3, b4] s R → CI shC w l (1 + n) (.code yX6_speak cX6_speak 8 (some .int)) yX6_speak [.ref (ad w 64), .int b1, .int b2, .int b3, .int b4] s R) := by
  intro n
  induction n with
  | zero => exact fun _ _ _ _ _ _ h => h.elim
  | succ n ih =>
    have h0 := ih
    have hd : 2 ≤ 1 + (n + 1) := by omega
    have hDd : Nat.ble (1 + n + 1) (1 + (n + 1)) = true := ble_of (by omega)
    exact fun _ _ _ _ _ _ h => xbVoices_speak (rc := wGSpeak n) hd hDd h0 h
theorem xVoices_speak {w : Wc} (l : Launch) (n : Nat) (b1 b2 b3 b4 : Int32) {s0 : Sg} {P : Int32 → Sg → Prop} (hw : wGSpeak n 0 [b1, b2, b3, b4] s0 P) : CI shC w l (1 + n) (.code yX6_speak cX6_speak 8 (some .int)) yX6_speak [.ref (ad w 64), .int b1, .int b2, .int b3, .int b4] s0 P := (xGSpeak l n) b1 b2 b3 b4 _ _ hw
def wVoices_answer (a1 : Int32) (k2 : Nat) (a3 : Int32) (a4 : Int32) (s0 : Sg) (P : Int32 → Sg → Prop) : Prop := (∀ s1 : Sg, s1 = u2 s0 64 2 a1 → (∀ s2 : Sg, s2 = u2 s1 64 3 ((s1 k2 0)) → (∀ s3 : Sg, s3 = u2 s2 64 4 ((s2 k2 1)) → (∀ s4 : Sg, s4 = u2 s3 64 1 0 → (∀ s5 : Sg, s5 = u2 s4 65 1 0 → (wGSpeak  10 0 [a3, ((s5 64 3)), a4, 0] s5 (fun (r1 : Int32) (s6 : Sg) => P r1 s6)))))))
set_option maxRecDepth 100000 in
set_option maxHeartbeats 4000000 in
theorem xVoices_answer {w : Wc} (l : Launch) {a1 : Int32} {k2 : Nat} {a3 : Int32} {a4 : Int32} (hk2 : kd shC k2 = 5) {s0 : Sg} {P : Int32 → Sg → Prop} (hw : wVoices_answer a1 k2 a3 a4 s0 P) : CI shC w l 12 (.code yX6_answer cX6_answer 5 (some .int)) yX6_answer [.ref (ad w 64), .int a1, .ref (ad w k2), .int a3, .int a4] s0 P := by
  refine ci_of_i (own := "BagBottom$Voices") (ls0 := [some (.ref (ad w 64)), some (.int a1), some (.ref (ad w k2)), some (.int a3), some (.int a4)]) rfl pn_X6 rfl rfl (fun g el hg => ?_)
  unfold wVoices_answer at hw
  refine x_aload_0 hg dX6_answer_0 rfl ?_
  refine x_iload_1 hg dX6_answer_1 rfl ?_
  refine put_X6_2 hg kC_64 fl_X6_20 dX6_answer_2 rfl hw (fun s1 hw => ?_)
  refine x_aload_0 hg dX6_answer_5 rfl ?_
  refine x_aload_2 hg dX6_answer_6 rfl ?_
  refine get_X4_0 hg hk2 fl_X6_24 dX6_answer_7 rfl ?_
  refine put_X6_3 hg kC_64 fl_X6_29 dX6_answer_10 rfl hw (fun s2 hw => ?_)
  refine x_aload_0 hg dX6_answer_13 rfl ?_
  refine x_aload_2 hg dX6_answer_14 rfl ?_
  refine get_X4_1 hg hk2 fl_X6_30 dX6_answer_15 rfl ?_
  refine put_X6_4 hg kC_64 fl_X6_33 dX6_answer_18 rfl hw (fun s3 hw => ?_)
  refine x_aload_0 hg dX6_answer_21 rfl ?_
  refine x_ic hg dX6_answer_22 ic_0 rfl ?_
  refine put_X6_1 hg kC_64 (by decide) fl_X6_34 dX6_answer_23 rfl hw (fun s4 hw => ?_)
  refine x_aload_0 hg dX6_answer_26 rfl ?_
  refine get_X6_0 hg kC_64 fl_X6_14 dX6_answer_27 rfl (k2 := 65) rfl ?_
  refine x_ic hg dX6_answer_30 ic_0 rfl ?_
  refine put_X1_1 hg kC_65 fl_X6_38 dX6_answer_31 rfl hw (fun s5 hw => ?_)
  refine x_aload_0 hg dX6_answer_34 rfl ?_
  refine x_iload_3 hg dX6_answer_35 rfl ?_
  refine x_aload_0 hg dX6_answer_36 rfl ?_
  refine get_X6_3 hg kC_64 fl_X6_29 dX6_answer_37 rfl ?_
  refine x_iload_4 hg dX6_answer_40 rfl ?_
  refine x_ic hg dX6_answer_42 ic_0 rfl ?_
  refine x_callVI hg (xVoices_speak  (gL g) 10 _ _ _ _ hw) kC_64 (by decide) rfl im_X6_speak se_X6_speak mi_X6_speak ml_X6_41 rfl rfl (As := [.int a3, .int (s5 64 3), .int a4, .int 0]) rfl rfl rfl dX6_answer_43 rfl (fun r1 s6 hw => ?_)
  exact x_ret hg dX6_answer_46 hw
