def shC : Shp := [(8, 0, 0, 0), (1, 0, 0, 0), (21, 9, 11, 1), (2, 0, 0, 0), (20, 9, 0, 0), (2, 0, 0, 0), (20, 60, 0, 0), (22, 2, 20, 6), (2, 0, 0, 0), (20, 24, 0, 0), (20, 54, 0, 0), (5, 0, 0, 0), (5, 0, 0, 0), (5, 0, 0, 0), (5, 0, 0, 0), (5, 0, 0, 0), (5, 0, 0, 0), (5, 0, 0, 0), (5, 0, 0, 0), (5, 0, 0, 0), (4, 0, 0, 0), (2, 0, 0, 0), (20, 60, 0, 0), (2, 0, 0, 0), (20, 60, 0, 0), (20, 60, 0, 0), (4, 0, 0, 0), (2, 0, 0, 0), (20, 60, 0, 0), (2, 0, 0, 0), (20, 60, 0, 0), (20, 60, 0, 0), (1, 0, 0, 0), (21, 9, 42, 1), (2, 0, 0, 0), (20, 9, 0, 0), (2, 0, 0, 0), (20, 60, 0, 0), (22, 2, 51, 6), (2, 0, 0, 0), (20, 24, 0, 0), (20, 54, 0, 0), (5, 0, 0, 0), (5, 0, 0, 0), (5, 0, 0, 0), (5, 0, 0, 0), (5, 0, 0, 0), (5, 0, 0, 0), (5, 0, 0, 0), (5, 0, 0, 0), (5, 0, 0, 0), (4, 0, 0, 0), (2, 0, 0, 0), (20, 60, 0, 0), (2, 0, 0, 0), (20, 60, 0, 0), (20, 60, 0, 0), (4, 0, 0, 0), (2, 0, 0, 0), (20, 60, 0, 0), (2, 0, 0, 0), (20, 60, 0, 0), (20, 60, 0, 0), (23, 4, 77, 3), (7, 0, 0, 0), (2, 0, 0, 0), (20, 30, 0, 0), (6, 0, 0, 0), (2, 0, 0, 0), (20, 9, 0, 0), (2, 0, 0, 0), (20, 9, 0, 0), (2, 0, 0, 0), (20, 9, 0, 0), (20, 81, 0, 0), (20, 9, 0, 0), (20, 7, 0, 0), (3, 0, 0, 0), (2, 0, 0, 0), (20, 24, 0, 0), (3, 0, 0, 0), (2, 0, 0, 0), (20, 24, 0, 0), (3, 0, 0, 0), (2, 0, 0, 0), (20, 24, 0, 0), (3, 0, 0, 0), (2, 0, 0, 0), (20, 24, 0, 0)]
def shM : Shp := [(9, 0, 0, 0), (20, 379, 0, 0), (20, 379, 0, 0), (20, 379, 0, 0), (20, 7, 0, 0), (20, 4, 0, 0), (20, 4, 0, 0), (20, 96, 0, 0), (20, 60, 0, 0), (20, 60, 0, 0), (20, 3, 0, 0), (20, 60, 0, 0), (20, 6, 0, 0), (20, 6, 0, 0), (20, 30, 0, 0)]
theorem kC_0 : kd shC 0 = 8 := rfl
theorem kC_1 : kd shC 1 = 1 := rfl
theorem kC_2 : kd shC 2 = 21 := rfl
theorem kC_3 : kd shC 3 = 2 := rfl
theorem kC_4 : kd shC 4 = 20 := rfl
theorem kC_5 : kd shC 5 = 2 := rfl
theorem kC_6 : kd shC 6 = 20 := rfl
theorem kC_7 : kd shC 7 = 22 := rfl
theorem kC_8 : kd shC 8 = 2 := rfl
theorem kC_9 : kd shC 9 = 20 := rfl
theorem kC_10 : kd shC 10 = 20 := rfl
theorem kC_11 : kd shC 11 = 5 := rfl
theorem kC_12 : kd shC 12 = 5 := rfl
theorem kC_13 : kd shC 13 = 5 := rfl
theorem kC_14 : kd shC 14 = 5 := rfl
theorem kC_15 : kd shC 15 = 5 := rfl
theorem kC_16 : kd shC 16 = 5 := rfl
theorem kC_17 : kd shC 17 = 5 := rfl
theorem kC_18 : kd shC 18 = 5 := rfl
theorem kC_19 : kd shC 19 = 5 := rfl
theorem kC_20 : kd shC 20 = 4 := rfl
theorem kC_21 : kd shC 21 = 2 := rfl
theorem kC_22 : kd shC 22 = 20 := rfl
theorem kC_23 : kd shC 23 = 2 := rfl
theorem kC_24 : kd shC 24 = 20 := rfl
theorem kC_25 : kd shC 25 = 20 := rfl
theorem kC_26 : kd shC 26 = 4 := rfl
theorem kC_27 : kd shC 27 = 2 := rfl
theorem kC_28 : kd shC 28 = 20 := rfl
theorem kC_29 : kd shC 29 = 2 := rfl
theorem kC_30 : kd shC 30 = 20 := rfl
theorem kC_31 : kd shC 31 = 20 := rfl
theorem kC_32 : kd shC 32 = 1 := rfl
theorem kC_33 : kd shC 33 = 21 := rfl
theorem kC_34 : kd shC 34 = 2 := rfl
theorem kC_35 : kd shC 35 = 20 := rfl
theorem kC_36 : kd shC 36 = 2 := rfl
theorem kC_37 : kd shC 37 = 20 := rfl
theorem kC_38 : kd shC 38 = 22 := rfl
theorem kC_39 : kd shC 39 = 2 := rfl
theorem kC_40 : kd shC 40 = 20 := rfl
theorem kC_41 : kd shC 41 = 20 := rfl
theorem kC_42 : kd shC 42 = 5 := rfl
theorem kC_43 : kd shC 43 = 5 := rfl
theorem kC_44 : kd shC 44 = 5 := rfl
theorem kC_45 : kd shC 45 = 5 := rfl
theorem kC_46 : kd shC 46 = 5 := rfl
theorem kC_47 : kd shC 47 = 5 := rfl
theorem kC_48 : kd shC 48 = 5 := rfl
theorem kC_49 : kd shC 49 = 5 := rfl
theorem kC_50 : kd shC 50 = 5 := rfl
theorem kC_51 : kd shC 51 = 4 := rfl
theorem kC_52 : kd shC 52 = 2 := rfl
theorem kC_53 : kd shC 53 = 20 := rfl
theorem kC_54 : kd shC 54 = 2 := rfl
theorem kC_55 : kd shC 55 = 20 := rfl
theorem kC_56 : kd shC 56 = 20 := rfl
theorem kC_57 : kd shC 57 = 4 := rfl
theorem kC_58 : kd shC 58 = 2 := rfl
theorem kC_59 : kd shC 59 = 20 := rfl
theorem kC_60 : kd shC 60 = 2 := rfl
theorem kC_61 : kd shC 61 = 20 := rfl
theorem kC_62 : kd shC 62 = 20 := rfl
theorem kC_63 : kd shC 63 = 23 := rfl
theorem kC_64 : kd shC 64 = 7 := rfl
theorem kC_65 : kd shC 65 = 2 := rfl
theorem kC_66 : kd shC 66 = 20 := rfl
theorem kC_67 : kd shC 67 = 6 := rfl
theorem kC_68 : kd shC 68 = 2 := rfl
theorem kC_69 : kd shC 69 = 20 := rfl
theorem kC_70 : kd shC 70 = 2 := rfl
theorem kC_71 : kd shC 71 = 20 := rfl
theorem kC_72 : kd shC 72 = 2 := rfl
theorem kC_73 : kd shC 73 = 20 := rfl
theorem kC_74 : kd shC 74 = 20 := rfl
theorem kC_75 : kd shC 75 = 20 := rfl
theorem kC_76 : kd shC 76 = 20 := rfl
theorem kC_77 : kd shC 77 = 3 := rfl
theorem kC_78 : kd shC 78 = 2 := rfl
theorem kC_79 : kd shC 79 = 20 := rfl
theorem kC_80 : kd shC 80 = 3 := rfl
theorem kC_81 : kd shC 81 = 2 := rfl
theorem kC_82 : kd shC 82 = 20 := rfl
theorem kC_83 : kd shC 83 = 3 := rfl
theorem kC_84 : kd shC 84 = 2 := rfl
theorem kC_85 : kd shC 85 = 20 := rfl
theorem kC_86 : kd shC 86 = 3 := rfl
theorem kC_87 : kd shC 87 = 2 := rfl
theorem kC_88 : kd shC 88 = 20 := rfl
theorem kM_0 : kd shM 0 = 9 := rfl
theorem kM_1 : kd shM 1 = 20 := rfl
theorem kM_2 : kd shM 2 = 20 := rfl
theorem kM_3 : kd shM 3 = 20 := rfl
theorem kM_4 : kd shM 4 = 20 := rfl
theorem kM_5 : kd shM 5 = 20 := rfl
theorem kM_6 : kd shM 6 = 20 := rfl
theorem kM_7 : kd shM 7 = 20 := rfl
theorem kM_8 : kd shM 8 = 20 := rfl
theorem kM_9 : kd shM 9 = 20 := rfl
theorem kM_10 : kd shM 10 = 20 := rfl
theorem kM_11 : kd shM 11 = 20 := rfl
theorem kM_12 : kd shM 12 = 20 := rfl
theorem kM_13 : kd shM 13 = 20 := rfl
theorem kM_14 : kd shM 14 = 20 := rfl
theorem shC_all (p : Nat → Bool) (h : ((List.range 89).all p) = true) : ∀ k, k < 89 → p k = true := fun k hk => List.all_eq_true.mp h k (List.mem_range.mpr hk)
theorem shC_lt {k c : Nat} (h : kd shC k = c) (hc : 0 < c) : k < 89 := kd_lt h hc
theorem kRow {k : Nat} (h : kd shC k = 2) : kd shC (k + 1) = 20 := by
  have := shC_all (fun k => kd shC k != 2 || kd shC (k + 1) == 20) (by decide +kernel) k (shC_lt h (by decide))
  simpa [h] using this
theorem kSheet {k : Nat} (h : kd shC k = 3) : kd shC (k + 1) = 2 := by
  have := shC_all (fun k => kd shC k != 3 || kd shC (k + 1) == 2) (by decide +kernel) k (shC_lt h (by decide))
  simpa [h] using this
theorem kTextC {k : Nat} (h : kd shC k = 4) : kd shC (k + 1) = 2 := by
  have := shC_all (fun k => kd shC k != 4 || kd shC (k + 1) == 2) (by decide +kernel) k (shC_lt h (by decide))
  simpa [h] using this
theorem kTextW {k : Nat} (h : kd shC k = 4) : kd shC (k + 3) = 2 := by
  have := shC_all (fun k => kd shC k != 4 || kd shC (k + 3) == 2) (by decide +kernel) k (shC_lt h (by decide))
  simpa [h] using this
theorem kTextS {k : Nat} (h : kd shC k = 4) : kd shC (k + 5) = 20 := by
  have := shC_all (fun k => kd shC k != 4 || kd shC (k + 5) == 20) (by decide +kernel) k (shC_lt h (by decide))
  simpa [h] using this
theorem lnTextS {k : Nat} (h : kd shC k = 4) : ln shC (k + 5) = 60 := by
  have := shC_all (fun k => kd shC k != 4 || ln shC (k + 5) == 60) (by decide +kernel) k (shC_lt h (by decide))
  simpa [h] using this
theorem lnTextC {k : Nat} (h : kd shC k = 4) : ln shC (k + 2) = 60 := by
  have := shC_all (fun k => kd shC k != 4 || ln shC (k + 2) == 60) (by decide +kernel) k (shC_lt h (by decide))
  simpa [h] using this
theorem lnTextW {k : Nat} (h : kd shC k = 4) : ln shC (k + 4) = 60 := by
  have := shC_all (fun k => kd shC k != 4 || ln shC (k + 4) == 60) (by decide +kernel) k (shC_lt h (by decide))
  simpa [h] using this
theorem vi_lt {i : Int32} {n : Nat} (h : vp_in i n) : ix i < n := Nat.not_le.mp fun q => h (Or.inr q)
theorem kEl {b z c n : Nat} (h : (List.range n).all (fun j => kd shC (b + z * j) == c) = true) {i : Int32} (hi : vp_in i n) : kd shC (b + z * ix i) = c := by
  have := List.all_eq_true.mp h (ix i) (List.mem_range.mpr (vi_lt hi))
  simpa using this
theorem kEl_11 {i : Int32} (h : vp_in i 9) : kd shC (11 + 1 * ix i) = 5 := kEl (by decide +kernel) h
theorem kEl_42 {i : Int32} (h : vp_in i 9) : kd shC (42 + 1 * ix i) = 5 := kEl (by decide +kernel) h
theorem kEl_20 {i : Int32} (h : vp_in i 2) : kd shC (20 + 6 * ix i) = 4 := kEl (by decide +kernel) h
theorem kEl_51 {i : Int32} (h : vp_in i 2) : kd shC (51 + 6 * ix i) = 4 := kEl (by decide +kernel) h
theorem kEl_77 {i : Int32} (h : vp_in i 4) : kd shC (77 + 3 * ix i) = 3 := kEl (by decide +kernel) h
theorem ble_of {a b : Nat} (h : a ≤ b) : Nat.ble a b = true := Nat.ble_eq.mpr h
theorem vi_of {i : Int32} {n : Nat} (h : (decide (¬ i < 0) && decide (i.toNatClampNeg < n)) = true) : vp_in i n := by
  simp only [Bool.and_eq_true, decide_eq_true_eq] at h
  exact fun q => q.elim h.1 (fun z => absurd h.2 (Nat.not_lt.mpr z))
theorem ic_m1 : Int32.ofInt (-1) = (-1) := by decide +kernel
theorem ic_0 : Int32.ofInt 0 = 0 := by decide +kernel
theorem ic_1 : Int32.ofInt 1 = 1 := by decide +kernel
theorem ic_2 : Int32.ofInt 2 = 2 := by decide +kernel
theorem ic_3 : Int32.ofInt 3 = 3 := by decide +kernel
theorem ic_4 : Int32.ofInt 4 = 4 := by decide +kernel
theorem ic_5 : Int32.ofInt 5 = 5 := by decide +kernel
theorem bp_m33 : (Int8.ofInt (-33)).toInt32 = (-33) := by decide +kernel
theorem bp_m10 : (Int8.ofInt (-10)).toInt32 = (-10) := by decide +kernel
theorem bp_m3 : (Int8.ofInt (-3)).toInt32 = (-3) := by decide +kernel
theorem bp_m2 : (Int8.ofInt (-2)).toInt32 = (-2) := by decide +kernel
theorem bp_6 : (Int8.ofInt 6).toInt32 = 6 := by decide +kernel
theorem bp_7 : (Int8.ofInt 7).toInt32 = 7 := by decide +kernel
theorem bp_8 : (Int8.ofInt 8).toInt32 = 8 := by decide +kernel
theorem bp_9 : (Int8.ofInt 9).toInt32 = 9 := by decide +kernel
theorem bp_10 : (Int8.ofInt 10).toInt32 = 10 := by decide +kernel
theorem bp_11 : (Int8.ofInt 11).toInt32 = 11 := by decide +kernel
theorem bp_12 : (Int8.ofInt 12).toInt32 = 12 := by decide +kernel
theorem bp_13 : (Int8.ofInt 13).toInt32 = 13 := by decide +kernel
theorem bp_16 : (Int8.ofInt 16).toInt32 = 16 := by decide +kernel
theorem bp_17 : (Int8.ofInt 17).toInt32 = 17 := by decide +kernel
theorem bp_20 : (Int8.ofInt 20).toInt32 = 20 := by decide +kernel
theorem bp_21 : (Int8.ofInt 21).toInt32 = 21 := by decide +kernel
theorem bp_24 : (Int8.ofInt 24).toInt32 = 24 := by decide +kernel
theorem bp_30 : (Int8.ofInt 30).toInt32 = 30 := by decide +kernel
theorem bp_32 : (Int8.ofInt 32).toInt32 = 32 := by decide +kernel
theorem bp_33 : (Int8.ofInt 33).toInt32 = 33 := by decide +kernel
theorem bp_37 : (Int8.ofInt 37).toInt32 = 37 := by decide +kernel
theorem bp_38 : (Int8.ofInt 38).toInt32 = 38 := by decide +kernel
theorem bp_40 : (Int8.ofInt 40).toInt32 = 40 := by decide +kernel
theorem bp_41 : (Int8.ofInt 41).toInt32 = 41 := by decide +kernel
theorem bp_42 : (Int8.ofInt 42).toInt32 = 42 := by decide +kernel
theorem bp_43 : (Int8.ofInt 43).toInt32 = 43 := by decide +kernel
theorem bp_45 : (Int8.ofInt 45).toInt32 = 45 := by decide +kernel
theorem bp_47 : (Int8.ofInt 47).toInt32 = 47 := by decide +kernel
theorem bp_48 : (Int8.ofInt 48).toInt32 = 48 := by decide +kernel
theorem bp_50 : (Int8.ofInt 50).toInt32 = 50 := by decide +kernel
theorem bp_51 : (Int8.ofInt 51).toInt32 = 51 := by decide +kernel
theorem bp_53 : (Int8.ofInt 53).toInt32 = 53 := by decide +kernel
theorem bp_57 : (Int8.ofInt 57).toInt32 = 57 := by decide +kernel
theorem bp_60 : (Int8.ofInt 60).toInt32 = 60 := by decide +kernel
theorem bp_61 : (Int8.ofInt 61).toInt32 = 61 := by decide +kernel
theorem bp_62 : (Int8.ofInt 62).toInt32 = 62 := by decide +kernel
theorem bp_63 : (Int8.ofInt 63).toInt32 = 63 := by decide +kernel
theorem bp_64 : (Int8.ofInt 64).toInt32 = 64 := by decide +kernel
theorem bp_69 : (Int8.ofInt 69).toInt32 = 69 := by decide +kernel
theorem bp_70 : (Int8.ofInt 70).toInt32 = 70 := by decide +kernel
theorem bp_71 : (Int8.ofInt 71).toInt32 = 71 := by decide +kernel
theorem bp_99 : (Int8.ofInt 99).toInt32 = 99 := by decide +kernel
theorem bp_100 : (Int8.ofInt 100).toInt32 = 100 := by decide +kernel
theorem bp_102 : (Int8.ofInt 102).toInt32 = 102 := by decide +kernel
theorem bp_110 : (Int8.ofInt 110).toInt32 = 110 := by decide +kernel
theorem bp_113 : (Int8.ofInt 113).toInt32 = 113 := by decide +kernel
theorem bp_121 : (Int8.ofInt 121).toInt32 = 121 := by decide +kernel
theorem bp_124 : (Int8.ofInt 124).toInt32 = 124 := by decide +kernel
theorem sp_137 : (Int16.ofInt 137).toInt32 = 137 := by decide +kernel
theorem sp_255 : (Int16.ofInt 255).toInt32 = 255 := by decide +kernel
theorem sp_379 : (Int16.ofInt 379).toInt32 = 379 := by decide +kernel
theorem sp_720 : (Int16.ofInt 720).toInt32 = 720 := by decide +kernel
theorem sp_999 : (Int16.ofInt 999).toInt32 = 999 := by decide +kernel
theorem sp_9999 : (Int16.ofInt 9999).toInt32 = 9999 := by decide +kernel
theorem sp_12345 : (Int16.ofInt 12345).toInt32 = 12345 := by decide +kernel
theorem ne_2 : ¬ (2 : Int32) = 0 := by decide +kernel
theorem ne_3 : ¬ (3 : Int32) = 0 := by decide +kernel
theorem ne_6 : ¬ (6 : Int32) = 0 := by decide +kernel
theorem ne_10 : ¬ (10 : Int32) = 0 := by decide +kernel
theorem vi_0_3 : vp_in (0 : Int32) 3 := vi_of (by decide +kernel)
theorem vi_0_60 : vp_in (0 : Int32) 60 := vi_of (by decide +kernel)
theorem vi_0_379 : vp_in (0 : Int32) 379 := vi_of (by decide +kernel)
theorem vi_1_3 : vp_in (1 : Int32) 3 := vi_of (by decide +kernel)
theorem vi_1_379 : vp_in (1 : Int32) 379 := vi_of (by decide +kernel)
theorem vi_2_3 : vp_in (2 : Int32) 3 := vi_of (by decide +kernel)
theorem vi_2_379 : vp_in (2 : Int32) 379 := vi_of (by decide +kernel)
theorem vi_3_379 : vp_in (3 : Int32) 379 := vi_of (by decide +kernel)
theorem vi_4_379 : vp_in (4 : Int32) 379 := vi_of (by decide +kernel)
theorem vi_5_379 : vp_in (5 : Int32) 379 := vi_of (by decide +kernel)
theorem vi_6_379 : vp_in (6 : Int32) 379 := vi_of (by decide +kernel)
theorem vi_7_379 : vp_in (7 : Int32) 379 := vi_of (by decide +kernel)
theorem vi_8_379 : vp_in (8 : Int32) 379 := vi_of (by decide +kernel)
theorem ix_0 : ix (0 : Int32) = 0 := by decide +kernel
theorem ix_1 : ix (1 : Int32) = 1 := by decide +kernel
theorem ix_2 : ix (2 : Int32) = 2 := by decide +kernel
theorem ix_3 : ix (3 : Int32) = 3 := by decide +kernel
theorem ix_4 : ix (4 : Int32) = 4 := by decide +kernel
theorem ix_5 : ix (5 : Int32) = 5 := by decide +kernel
theorem ix_6 : ix (6 : Int32) = 6 := by decide +kernel
theorem ix_7 : ix (7 : Int32) = 7 := by decide +kernel
theorem ix_8 : ix (8 : Int32) = 8 := by decide +kernel
theorem an_60 : Int32.ofNat 60 = 60 := by decide +kernel
theorem pn_X0 : plainName RX0 = true := by decide +kernel
theorem pn_X1 : plainName RX1 = true := by decide +kernel
theorem pn_X2 : plainName RX2 = true := by decide +kernel
theorem pn_X3 : plainName RX3 = true := by decide +kernel
theorem pn_X4 : plainName RX4 = true := by decide +kernel
theorem pn_X5 : plainName RX5 = true := by decide +kernel
theorem pn_X6 : plainName RX6 = true := by decide +kernel
theorem pn_X7 : plainName RX7 = true := by decide +kernel
theorem pn_X8 : plainName RX8 = true := by decide +kernel
theorem pn_J0 : plainName RJ0 = true := by decide +kernel
theorem pn_J1 : plainName RJ1 = true := by decide +kernel
theorem pn_J6 : plainName RJ6 = true := by decide +kernel
section MATH
variable {S : Shp} {w : Wc} {g : Gx} {Q : State → Prop} {d : Nat} {cc : ByteArray} {own : String} {nL : Nat} {ret : Option FieldType} {pc pc' : Nat} {ls : List (Option Value)} {st : List Value} {σ : Sg}
theorem x_mmax (hg : OK S w g d cc own nL ret) {idx : Nat} {x y : Int32} (hl : Cond.methodLink own idx yJ9_max_7cf53 ∈ GT) (hd0 : Nat.ble 1 d = true) (hsum : Nat.ble (st.map fun v => v.category).sum 8 = true) (hd : decode cc pc = .ok (.invokestatic idx, 3)) (hp : pc + 3 = pc') (kk : X S w g Q pc' ls (.int (if x < y then y else x) :: st) σ) : X S w g Q pc ls (.int y :: .int x :: st) σ := by
  obtain ⟨p, l, e, R, s, m, args, below, meth, c⟩ := g
  obtain ⟨hx, hb, hml, hown, hts, hR, hK, hr, hlk, hinj, hst, hsr⟩ := hg
  intro H locs lsA hP hS hlv
  subst hp
  have h1 := Nat.le_of_ble_eq_true hd0
  have h2 := Nat.le_of_ble_eq_true hsum
  have hfr : 1 ≤ R.frames := by rw [hR]; exact h1
  have hlo : (st.map fun v => v.category).sum + 13 ≤ R.locals := by
    rw [hR]
    show _ ≤ 40 * d
    omega
  exact va_mmax hx hb hlv.1.symm hown (hts _ hl) (hts _ sm_J9_max_7cf53) (hts _ ini_J9) (hts _ cd_J9_max_7cf53) hfr hlo (Nat.zero_le _) (Nat.zero_le _) hd (kk H locs lsA hP hS hlv)
theorem x_mmin (hg : OK S w g d cc own nL ret) {idx : Nat} {x y : Int32} (hl : Cond.methodLink own idx yJ9_min_7cf53 ∈ GT) (hd0 : Nat.ble 1 d = true) (hsum : Nat.ble (st.map fun v => v.category).sum 8 = true) (hd : decode cc pc = .ok (.invokestatic idx, 3)) (hp : pc + 3 = pc') (kk : X S w g Q pc' ls (.int (if y < x then y else x) :: st) σ) : X S w g Q pc ls (.int y :: .int x :: st) σ := by
  obtain ⟨p, l, e, R, s, m, args, below, meth, c⟩ := g
  obtain ⟨hx, hb, hml, hown, hts, hR, hK, hr, hlk, hinj, hst, hsr⟩ := hg
  intro H locs lsA hP hS hlv
  subst hp
  have h1 := Nat.le_of_ble_eq_true hd0
  have h2 := Nat.le_of_ble_eq_true hsum
  have hfr : 1 ≤ R.frames := by rw [hR]; exact h1
  have hlo : (st.map fun v => v.category).sum + 13 ≤ R.locals := by
    rw [hR]
    show _ ≤ 40 * d
    omega
  exact va_mmin hx hb hlv.1.symm hown (hts _ hl) (hts _ sm_J9_min_7cf53) (hts _ ini_J9) (hts _ cd_J9_min_7cf53) hfr hlo (Nat.zero_le _) (Nat.zero_le _) hd (kk H locs lsA hP hS hlv)
end MATH
section FIELDS
variable {S : Shp} {w : Wc} {g : Gx} {Q : State → Prop} {d : Nat} {cc : ByteArray} {own : String} {nL : Nat} {ret : Option FieldType} {pc pc' : Nat} {ls : List (Option Value)} {st : List Value} {σ : Sg}
def lk : List (Int32 × Int) → Int32 → Int → Int
  | [], _, d => d
  | (c, o) :: r, x, d => if x = c then o else lk r x d
def tOk (lo hi : Int) (offs : Array Int) (ps : List (Int32 × Int)) : Bool := decide (offs.toList = ps.map (·.2)) && decide (ps.map (fun q => q.1.toInt) = (List.range ps.length).map (fun i : Nat => lo + (i : Int))) && decide (hi = lo + (ps.length : Int) - 1)
theorem lk_out : ∀ (ps : List (Int32 × Int)) (x : Int32) (d : Int), (∀ q ∈ ps, ¬ x = q.1) → lk ps x d = d := by
  intro ps
  induction ps with
  | nil => intro x d _; rfl
  | cons a r ih =>
    intro x d h
    obtain ⟨c, o⟩ := a
    rw [lk, if_neg (h (c, o) List.mem_cons_self)]
    exact ih x d (fun q hq => h q (List.mem_cons_of_mem _ hq))
theorem lk_in : ∀ (ps : List (Int32 × Int)) (x : Int32) (d : Int) (n : Nat) (q : Int32 × Int), ps[n]? = some q → x = q.1 → (∀ i p, i < n → ps[i]? = some p → ¬ x = p.1) → lk ps x d = q.2 := by
  intro ps
  induction ps with
  | nil => intro x d n q h; simp at h
  | cons a r ih =>
    intro x d n q h hx hp
    obtain ⟨c, o⟩ := a
    cases n with
    | zero =>
      simp at h
      subst h
      rw [lk, if_pos hx]
    | succ n =>
      rw [lk, if_neg (hp 0 (c, o) (by omega) rfl)]
      exact ih x d n q (by simpa using h) hx (fun i p hi h9 => hp (i + 1) p (by omega) (by simpa using h9))
theorem x_tab (hg : OK S w g d cc own nL ret) {dflt lo hi : Int} {offs : Array Int} {len tg : Nat} {x : Int32} {ps : List (Int32 × Int)} (hd : decode cc pc = .ok (.tableswitch dflt lo hi offs, len)) (hps : tOk lo hi offs ps = true) (ht : (pc : Int) + lk ps x dflt = (tg : Int)) (k : X S w g Q tg ls st σ) : X S w g Q pc ls (.int x :: st) σ := by
  obtain ⟨p, l, e, R, s, m, args, below, meth, c⟩ := g
  obtain ⟨hx, hb, hml, hown, hts, hR, hK, hr, hlk, hinj, hst, hsr⟩ := hg
  intro H locs lsA hP hS hl
  simp only [tOk, Bool.and_eq_true, decide_eq_true_eq] at hps
  obtain ⟨⟨h1, h2⟩, h3⟩ := hps
  have key : ∀ (i : Nat) (p : Int32 × Int), ps[i]? = some p → p.1.toInt = lo + (i : Int) := by
    intro i p hi
    have hl2 := (List.getElem?_eq_some_iff.mp hi).1
    have e1 : (ps.map (fun q => q.1.toInt))[i]? = some p.1.toInt := by rw [List.getElem?_map, hi]; rfl
    rw [h2, List.getElem?_map, List.getElem?_range hl2] at e1
    exact (Option.some.inj e1).symm
  by_cases hc : x.toInt < lo ∨ hi < x.toInt
  · rw [lk_out ps x dflt (fun q hq => by
      obtain ⟨i, hi2⟩ := List.getElem?_of_mem hq
      have := key i q hi2
      have hl2 := (List.getElem?_eq_some_iff.mp hi2).1
      intro e2
      rw [e2] at hc
      omega)] at ht
    exact lv_tableOut hx hb hd hc ht (k H locs lsA hP hS hl)
  · have hn : (x.toInt - lo).toNat < ps.length := by omega
    obtain ⟨q, hq⟩ : ∃ q, ps[(x.toInt - lo).toNat]? = some q := ⟨_, List.getElem?_eq_getElem hn⟩
    have hxq : x = q.1 := by
      have := key _ q hq
      exact Int32.toInt_inj.mp (by omega)
    rw [lk_in ps x dflt _ q hq hxq (fun i p hi hp e2 => by
      have a1 := key i p hp
      have a2 := key _ q hq
      rw [← hxq] at a2
      rw [← e2] at a1
      omega)] at ht
    refine lv_tableIn hx hb hd (by omega) (by omega) (off := q.2) ?_ ht (k H locs lsA hP hS hl)
    rw [← Array.getElem?_toList, h1, List.getElem?_map, hq]
    rfl
def pOk (arr : Array (Int × Int)) (ps : List (Int32 × Int)) : Bool := decide (arr.toList = ps.map (fun q => (q.1.toInt, q.2))) && (arr.toList.zip (arr.toList.drop 1)).all (fun (a, next) => a.1 < next.1)
theorem lk_off : ∀ (ps : List (Int32 × Int)) (x : Int32) (d : Int), Op.lookupswitch.offset (ps.map (fun q => (q.1.toInt, q.2))) d x.toInt = lk ps x d := by
  intro ps
  induction ps with
  | nil => intro x d; rfl
  | cons a r ih =>
    intro x d
    obtain ⟨c, o⟩ := a
    rw [List.map_cons, lk]
    by_cases h : x = c
    · rw [if_pos h, Op.lookupswitch.offset_cons, if_pos (by rw [h])]
    · rw [if_neg h, lv_osw h rfl, ih]
theorem x_lkp (hg : OK S w g d cc own nL ret) {dflt : Int} {arr : Array (Int × Int)} {len tg : Nat} {x : Int32} {ps : List (Int32 × Int)} (hd : decode cc pc = .ok (.lookupswitch dflt arr, len)) (hps : pOk arr ps = true) (ht : (pc : Int) + lk ps x dflt = (tg : Int)) (k : X S w g Q tg ls st σ) : X S w g Q pc ls (.int x :: st) σ := by
  obtain ⟨p, l, e, R, s, m, args, below, meth, c⟩ := g
  obtain ⟨hx, hb, hml, hown, hts, hR, hK, hr, hlk, hinj, hst, hsr⟩ := hg
  intro H locs lsA hP hS hl
  simp only [pOk, Bool.and_eq_true, decide_eq_true_eq] at hps
  exact lv_lookup hx hb hd hps.2 (off := lk ps x dflt) (by rw [hps.1, lk_off]) ht (k H locs lsA hP hS hl)
theorem get_X0_0 (hg : OK S w g d cc own nL ret) {k idx : Nat} (hk : kd S k = 1) (hl : Cond.fieldLink own idx "BagBottom$Bag" "things" "[LBagBottom$Thing;" ∈ GT) (hd : decode cc pc = .ok (.getfield idx, 3)) (hp : pc + 3 = pc') {k2 : Nat} (he : k + 1 = k2) (kk : X S w g Q pc' ls (.ref (ad w k2) :: st) σ) : X S w g Q pc ls (.ref (ad w k) :: st) σ := by
  subst he
  exact x_getG hg (ci := 0) (j := 0) (N := 11) (T := TX0) (C := RX0) (q := (1, 1)) hk (by decide) rfl in_X0 (by decide) (by decide) rfl hl hd hp kk
theorem get_X0_1 (hg : OK S w g d cc own nL ret) {k idx : Nat} (hk : kd S k = 1) (hl : Cond.fieldLink own idx "BagBottom$Bag" "known" "I" ∈ GT) (hd : decode cc pc = .ok (.getfield idx, 3)) (hp : pc + 3 = pc') (kk : X S w g Q pc' ls (.int (σ k 1) :: st) σ) : X S w g Q pc ls (.ref (ad w k) :: st) σ := x_getG hg (ci := 0) (j := 1) (N := 11) (T := TX0) (C := RX0) (q := (0, 0)) hk (by decide) rfl in_X0 (by decide) (by decide) rfl hl hd hp kk
theorem get_X0_2 (hg : OK S w g d cc own nL ret) {k idx : Nat} (hk : kd S k = 1) (hl : Cond.fieldLink own idx "BagBottom$Bag" "order" "LBagBottom$Row;" ∈ GT) (hd : decode cc pc = .ok (.getfield idx, 3)) (hp : pc + 3 = pc') {k2 : Nat} (he : k + 2 = k2) (kk : X S w g Q pc' ls (.ref (ad w k2) :: st) σ) : X S w g Q pc ls (.ref (ad w k) :: st) σ := by
  subst he
  exact x_getG hg (ci := 0) (j := 2) (N := 11) (T := TX0) (C := RX0) (q := (1, 2)) hk (by decide) rfl in_X0 (by decide) (by decide) rfl hl hd hp kk
theorem get_X0_3 (hg : OK S w g d cc own nL ret) {k idx : Nat} (hk : kd S k = 1) (hl : Cond.fieldLink own idx "BagBottom$Bag" "pocket" "I" ∈ GT) (hd : decode cc pc = .ok (.getfield idx, 3)) (hp : pc + 3 = pc') (kk : X S w g Q pc' ls (.int (σ k 3) :: st) σ) : X S w g Q pc ls (.ref (ad w k) :: st) σ := x_getG hg (ci := 0) (j := 3) (N := 11) (T := TX0) (C := RX0) (q := (0, 0)) hk (by decide) rfl in_X0 (by decide) (by decide) rfl hl hd hp kk
theorem get_X0_4 (hg : OK S w g d cc own nL ret) {k idx : Nat} (hk : kd S k = 1) (hl : Cond.fieldLink own idx "BagBottom$Bag" "steps" "I" ∈ GT) (hd : decode cc pc = .ok (.getfield idx, 3)) (hp : pc + 3 = pc') (kk : X S w g Q pc' ls (.int (σ k 4) :: st) σ) : X S w g Q pc ls (.ref (ad w k) :: st) σ := x_getG hg (ci := 0) (j := 4) (N := 11) (T := TX0) (C := RX0) (q := (0, 0)) hk (by decide) rfl in_X0 (by decide) (by decide) rfl hl hd hp kk
theorem get_X0_5 (hg : OK S w g d cc own nL ret) {k idx : Nat} (hk : kd S k = 1) (hl : Cond.fieldLink own idx "BagBottom$Bag" "seconds" "I" ∈ GT) (hd : decode cc pc = .ok (.getfield idx, 3)) (hp : pc + 3 = pc') (kk : X S w g Q pc' ls (.int (σ k 5) :: st) σ) : X S w g Q pc ls (.ref (ad w k) :: st) σ := x_getG hg (ci := 0) (j := 5) (N := 11) (T := TX0) (C := RX0) (q := (0, 0)) hk (by decide) rfl in_X0 (by decide) (by decide) rfl hl hd hp kk
theorem get_X0_6 (hg : OK S w g d cc own nL ret) {k idx : Nat} (hk : kd S k = 1) (hl : Cond.fieldLink own idx "BagBottom$Bag" "z" "I" ∈ GT) (hd : decode cc pc = .ok (.getfield idx, 3)) (hp : pc + 3 = pc') (kk : X S w g Q pc' ls (.int (σ k 6) :: st) σ) : X S w g Q pc ls (.ref (ad w k) :: st) σ := x_getG hg (ci := 0) (j := 6) (N := 11) (T := TX0) (C := RX0) (q := (0, 0)) hk (by decide) rfl in_X0 (by decide) (by decide) rfl hl hd hp kk
theorem get_X0_7 (hg : OK S w g d cc own nL ret) {k idx : Nat} (hk : kd S k = 1) (hl : Cond.fieldLink own idx "BagBottom$Bag" "tape" "LBagBottom$Row;" ∈ GT) (hd : decode cc pc = .ok (.getfield idx, 3)) (hp : pc + 3 = pc') {k2 : Nat} (he : k + 4 = k2) (kk : X S w g Q pc' ls (.ref (ad w k2) :: st) σ) : X S w g Q pc ls (.ref (ad w k) :: st) σ := by
  subst he
  exact x_getG hg (ci := 0) (j := 7) (N := 11) (T := TX0) (C := RX0) (q := (1, 4)) hk (by decide) rfl in_X0 (by decide) (by decide) rfl hl hd hp kk
theorem get_X0_8 (hg : OK S w g d cc own nL ret) {k idx : Nat} (hk : kd S k = 1) (hl : Cond.fieldLink own idx "BagBottom$Bag" "texts" "[LBagBottom$Text;" ∈ GT) (hd : decode cc pc = .ok (.getfield idx, 3)) (hp : pc + 3 = pc') {k2 : Nat} (he : k + 6 = k2) (kk : X S w g Q pc' ls (.ref (ad w k2) :: st) σ) : X S w g Q pc ls (.ref (ad w k) :: st) σ := by
  subst he
  exact x_getG hg (ci := 0) (j := 8) (N := 11) (T := TX0) (C := RX0) (q := (1, 6)) hk (by decide) rfl in_X0 (by decide) (by decide) rfl hl hd hp kk
theorem get_X0_9 (hg : OK S w g d cc own nL ret) {k idx : Nat} (hk : kd S k = 1) (hl : Cond.fieldLink own idx "BagBottom$Bag" "waiting" "LBagBottom$Row;" ∈ GT) (hd : decode cc pc = .ok (.getfield idx, 3)) (hp : pc + 3 = pc') {k2 : Nat} (he : k + 7 = k2) (kk : X S w g Q pc' ls (.ref (ad w k2) :: st) σ) : X S w g Q pc ls (.ref (ad w k) :: st) σ := by
  subst he
  exact x_getG hg (ci := 0) (j := 9) (N := 11) (T := TX0) (C := RX0) (q := (1, 7)) hk (by decide) rfl in_X0 (by decide) (by decide) rfl hl hd hp kk
theorem get_X0_10 (hg : OK S w g d cc own nL ret) {k idx : Nat} (hk : kd S k = 1) (hl : Cond.fieldLink own idx "BagBottom$Bag" "sinkRows" "[I" ∈ GT) (hd : decode cc pc = .ok (.getfield idx, 3)) (hp : pc + 3 = pc') {k2 : Nat} (he : k + 9 = k2) (kk : X S w g Q pc' ls (.ref (ad w k2) :: st) σ) : X S w g Q pc ls (.ref (ad w k) :: st) σ := by
  subst he
  exact x_getG hg (ci := 0) (j := 10) (N := 11) (T := TX0) (C := RX0) (q := (1, 9)) hk (by decide) rfl in_X0 (by decide) (by decide) rfl hl hd hp kk
theorem get_X1_0 (hg : OK S w g d cc own nL ret) {k idx : Nat} (hk : kd S k = 2) (hl : Cond.fieldLink own idx "BagBottom$Row" "numbers" "[I" ∈ GT) (hd : decode cc pc = .ok (.getfield idx, 3)) (hp : pc + 3 = pc') {k2 : Nat} (he : k + 1 = k2) (kk : X S w g Q pc' ls (.ref (ad w k2) :: st) σ) : X S w g Q pc ls (.ref (ad w k) :: st) σ := by
  subst he
  exact x_getG hg (ci := 1) (j := 0) (N := 2) (T := TX1) (C := RX1) (q := (1, 1)) hk (by decide) rfl in_X1 (by decide) (by decide) rfl hl hd hp kk
theorem get_X1_1 (hg : OK S w g d cc own nL ret) {k idx : Nat} (hk : kd S k = 2) (hl : Cond.fieldLink own idx "BagBottom$Row" "length" "I" ∈ GT) (hd : decode cc pc = .ok (.getfield idx, 3)) (hp : pc + 3 = pc') (kk : X S w g Q pc' ls (.int (σ k 1) :: st) σ) : X S w g Q pc ls (.ref (ad w k) :: st) σ := x_getG hg (ci := 1) (j := 1) (N := 2) (T := TX1) (C := RX1) (q := (0, 0)) hk (by decide) rfl in_X1 (by decide) (by decide) rfl hl hd hp kk
theorem get_X2_0 (hg : OK S w g d cc own nL ret) {k idx : Nat} (hk : kd S k = 3) (hl : Cond.fieldLink own idx "BagBottom$Sheet" "bits" "I" ∈ GT) (hd : decode cc pc = .ok (.getfield idx, 3)) (hp : pc + 3 = pc') (kk : X S w g Q pc' ls (.int (σ k 0) :: st) σ) : X S w g Q pc ls (.ref (ad w k) :: st) σ := x_getG hg (ci := 2) (j := 0) (N := 2) (T := TX2) (C := RX2) (q := (0, 0)) hk (by decide) rfl in_X2 (by decide) (by decide) rfl hl hd hp kk
theorem get_X2_1 (hg : OK S w g d cc own nL ret) {k idx : Nat} (hk : kd S k = 3) (hl : Cond.fieldLink own idx "BagBottom$Sheet" "row" "LBagBottom$Row;" ∈ GT) (hd : decode cc pc = .ok (.getfield idx, 3)) (hp : pc + 3 = pc') {k2 : Nat} (he : k + 1 = k2) (kk : X S w g Q pc' ls (.ref (ad w k2) :: st) σ) : X S w g Q pc ls (.ref (ad w k) :: st) σ := by
  subst he
  exact x_getG hg (ci := 2) (j := 1) (N := 2) (T := TX2) (C := RX2) (q := (1, 1)) hk (by decide) rfl in_X2 (by decide) (by decide) rfl hl hd hp kk
theorem get_X3_0 (hg : OK S w g d cc own nL ret) {k idx : Nat} (hk : kd S k = 4) (hl : Cond.fieldLink own idx "BagBottom$Text" "codes" "LBagBottom$Row;" ∈ GT) (hd : decode cc pc = .ok (.getfield idx, 3)) (hp : pc + 3 = pc') {k2 : Nat} (he : k + 1 = k2) (kk : X S w g Q pc' ls (.ref (ad w k2) :: st) σ) : X S w g Q pc ls (.ref (ad w k) :: st) σ := by
  subst he
  exact x_getG hg (ci := 3) (j := 0) (N := 6) (T := TX3) (C := RX3) (q := (1, 1)) hk (by decide) rfl in_X3 (by decide) (by decide) rfl hl hd hp kk
theorem get_X3_1 (hg : OK S w g d cc own nL ret) {k idx : Nat} (hk : kd S k = 4) (hl : Cond.fieldLink own idx "BagBottom$Text" "written" "LBagBottom$Row;" ∈ GT) (hd : decode cc pc = .ok (.getfield idx, 3)) (hp : pc + 3 = pc') {k2 : Nat} (he : k + 3 = k2) (kk : X S w g Q pc' ls (.ref (ad w k2) :: st) σ) : X S w g Q pc ls (.ref (ad w k) :: st) σ := by
  subst he
  exact x_getG hg (ci := 3) (j := 1) (N := 6) (T := TX3) (C := RX3) (q := (1, 3)) hk (by decide) rfl in_X3 (by decide) (by decide) rfl hl hd hp kk
theorem get_X3_2 (hg : OK S w g d cc own nL ret) {k idx : Nat} (hk : kd S k = 4) (hl : Cond.fieldLink own idx "BagBottom$Text" "stack" "[I" ∈ GT) (hd : decode cc pc = .ok (.getfield idx, 3)) (hp : pc + 3 = pc') {k2 : Nat} (he : k + 5 = k2) (kk : X S w g Q pc' ls (.ref (ad w k2) :: st) σ) : X S w g Q pc ls (.ref (ad w k) :: st) σ := by
  subst he
  exact x_getG hg (ci := 3) (j := 2) (N := 6) (T := TX3) (C := RX3) (q := (1, 5)) hk (by decide) rfl in_X3 (by decide) (by decide) rfl hl hd hp kk
theorem get_X3_3 (hg : OK S w g d cc own nL ret) {k idx : Nat} {B D : Prop} (hk : kd S k = 4) (hl : Cond.fieldLink own idx "BagBottom$Text" "bytes" "LBagBottom$Row;" ∈ GT) (hd : decode cc pc = .ok (.getfield idx, 3)) (hp : pc + 3 = pc') (hw : (σ k 3 = 0 → B) ∧ (¬ σ k 3 = 0 → D)) (k1 : B → X S w g Q pc' ls (.null :: st) σ) (k2 : D → X S w g Q pc' ls (.ref (ad w 5) :: st) σ) : X S w g Q pc ls (.ref (ad w k) :: st) σ := by
  refine x_getG hg (ci := 3) (j := 3) (N := 6) (T := TX3) (C := RX3) (q := (2, 5)) hk (by decide) rfl in_X3 (by decide) (by decide) rfl hl hd hp ?_
  by_cases h : σ k 3 = 0
  · simp only [slV, h, if_true]
    exact k1 (hw.1 h)
  · simp only [slV, h, if_false]
    exact k2 (hw.2 h)
theorem get_X3_4 (hg : OK S w g d cc own nL ret) {k idx : Nat} (hk : kd S k = 4) (hl : Cond.fieldLink own idx "BagBottom$Text" "names" "Ljava/lang/String;" ∈ GT) (hd : decode cc pc = .ok (.getfield idx, 3)) (hp : pc + 3 = pc') (kk : X S w g Q pc' ls (.ref (sa w (σ k 4)) :: st) σ) : X S w g Q pc ls (.ref (ad w k) :: st) σ := x_getG hg (ci := 3) (j := 4) (N := 6) (T := TX3) (C := RX3) (q := (3, 0)) hk (by decide) rfl in_X3 (by decide) (by decide) rfl hl hd hp kk
theorem get_X3_5 (hg : OK S w g d cc own nL ret) {k idx : Nat} (hk : kd S k = 4) (hl : Cond.fieldLink own idx "BagBottom$Text" "next" "I" ∈ GT) (hd : decode cc pc = .ok (.getfield idx, 3)) (hp : pc + 3 = pc') (kk : X S w g Q pc' ls (.int (σ k 5) :: st) σ) : X S w g Q pc ls (.ref (ad w k) :: st) σ := x_getG hg (ci := 3) (j := 5) (N := 6) (T := TX3) (C := RX3) (q := (0, 0)) hk (by decide) rfl in_X3 (by decide) (by decide) rfl hl hd hp kk
theorem get_X4_0 (hg : OK S w g d cc own nL ret) {k idx : Nat} (hk : kd S k = 5) (hl : Cond.fieldLink own idx "BagBottom$Thing" "kind" "I" ∈ GT) (hd : decode cc pc = .ok (.getfield idx, 3)) (hp : pc + 3 = pc') (kk : X S w g Q pc' ls (.int (σ k 0) :: st) σ) : X S w g Q pc ls (.ref (ad w k) :: st) σ := x_getG hg (ci := 4) (j := 0) (N := 4) (T := TX4) (C := RX4) (q := (0, 0)) hk (by decide) rfl in_X4 (by decide) (by decide) rfl hl hd hp kk
theorem get_X4_1 (hg : OK S w g d cc own nL ret) {k idx : Nat} (hk : kd S k = 5) (hl : Cond.fieldLink own idx "BagBottom$Thing" "m" "I" ∈ GT) (hd : decode cc pc = .ok (.getfield idx, 3)) (hp : pc + 3 = pc') (kk : X S w g Q pc' ls (.int (σ k 1) :: st) σ) : X S w g Q pc ls (.ref (ad w k) :: st) σ := x_getG hg (ci := 4) (j := 1) (N := 4) (T := TX4) (C := RX4) (q := (0, 0)) hk (by decide) rfl in_X4 (by decide) (by decide) rfl hl hd hp kk
theorem get_X4_2 (hg : OK S w g d cc own nL ret) {k idx : Nat} (hk : kd S k = 5) (hl : Cond.fieldLink own idx "BagBottom$Thing" "weight" "I" ∈ GT) (hd : decode cc pc = .ok (.getfield idx, 3)) (hp : pc + 3 = pc') (kk : X S w g Q pc' ls (.int (σ k 2) :: st) σ) : X S w g Q pc ls (.ref (ad w k) :: st) σ := x_getG hg (ci := 4) (j := 2) (N := 4) (T := TX4) (C := RX4) (q := (0, 0)) hk (by decide) rfl in_X4 (by decide) (by decide) rfl hl hd hp kk
theorem get_X4_3 (hg : OK S w g d cc own nL ret) {k idx : Nat} (hk : kd S k = 5) (hl : Cond.fieldLink own idx "BagBottom$Thing" "size" "I" ∈ GT) (hd : decode cc pc = .ok (.getfield idx, 3)) (hp : pc + 3 = pc') (kk : X S w g Q pc' ls (.int (σ k 3) :: st) σ) : X S w g Q pc ls (.ref (ad w k) :: st) σ := x_getG hg (ci := 4) (j := 3) (N := 4) (T := TX4) (C := RX4) (q := (0, 0)) hk (by decide) rfl in_X4 (by decide) (by decide) rfl hl hd hp kk
theorem get_X5_0 (hg : OK S w g d cc own nL ret) {k idx : Nat} (hk : kd S k = 6) (hl : Cond.fieldLink own idx "BagBottom$Thought" "packed" "LBagBottom$Row;" ∈ GT) (hd : decode cc pc = .ok (.getfield idx, 3)) (hp : pc + 3 = pc') {k2 : Nat} (he : k + 1 = k2) (kk : X S w g Q pc' ls (.ref (ad w k2) :: st) σ) : X S w g Q pc ls (.ref (ad w k) :: st) σ := by
  subst he
  exact x_getG hg (ci := 5) (j := 0) (N := 5) (T := TX5) (C := RX5) (q := (1, 1)) hk (by decide) rfl in_X5 (by decide) (by decide) rfl hl hd hp kk
theorem get_X5_1 (hg : OK S w g d cc own nL ret) {k idx : Nat} (hk : kd S k = 6) (hl : Cond.fieldLink own idx "BagBottom$Thought" "start" "LBagBottom$Row;" ∈ GT) (hd : decode cc pc = .ok (.getfield idx, 3)) (hp : pc + 3 = pc') {k2 : Nat} (he : k + 3 = k2) (kk : X S w g Q pc' ls (.ref (ad w k2) :: st) σ) : X S w g Q pc ls (.ref (ad w k) :: st) σ := by
  subst he
  exact x_getG hg (ci := 5) (j := 1) (N := 5) (T := TX5) (C := RX5) (q := (1, 3)) hk (by decide) rfl in_X5 (by decide) (by decide) rfl hl hd hp kk
theorem get_X5_2 (hg : OK S w g d cc own nL ret) {k idx : Nat} (hk : kd S k = 6) (hl : Cond.fieldLink own idx "BagBottom$Thought" "row" "LBagBottom$Row;" ∈ GT) (hd : decode cc pc = .ok (.getfield idx, 3)) (hp : pc + 3 = pc') {k2 : Nat} (he : k + 5 = k2) (kk : X S w g Q pc' ls (.ref (ad w k2) :: st) σ) : X S w g Q pc ls (.ref (ad w k) :: st) σ := by
  subst he
  exact x_getG hg (ci := 5) (j := 2) (N := 5) (T := TX5) (C := RX5) (q := (1, 5)) hk (by decide) rfl in_X5 (by decide) (by decide) rfl hl hd hp kk
theorem get_X5_3 (hg : OK S w g d cc own nL ret) {k idx : Nat} (hk : kd S k = 6) (hl : Cond.fieldLink own idx "BagBottom$Thought" "felt" "[I" ∈ GT) (hd : decode cc pc = .ok (.getfield idx, 3)) (hp : pc + 3 = pc') {k2 : Nat} (he : k + 7 = k2) (kk : X S w g Q pc' ls (.ref (ad w k2) :: st) σ) : X S w g Q pc ls (.ref (ad w k) :: st) σ := by
  subst he
  exact x_getG hg (ci := 5) (j := 3) (N := 5) (T := TX5) (C := RX5) (q := (1, 7)) hk (by decide) rfl in_X5 (by decide) (by decide) rfl hl hd hp kk
theorem get_X5_4 (hg : OK S w g d cc own nL ret) {k idx : Nat} (hk : kd S k = 6) (hl : Cond.fieldLink own idx "BagBottom$Thought" "used" "[I" ∈ GT) (hd : decode cc pc = .ok (.getfield idx, 3)) (hp : pc + 3 = pc') {k2 : Nat} (he : k + 8 = k2) (kk : X S w g Q pc' ls (.ref (ad w k2) :: st) σ) : X S w g Q pc ls (.ref (ad w k) :: st) σ := by
  subst he
  exact x_getG hg (ci := 5) (j := 4) (N := 5) (T := TX5) (C := RX5) (q := (1, 8)) hk (by decide) rfl in_X5 (by decide) (by decide) rfl hl hd hp kk
theorem get_X6_0 (hg : OK S w g d cc own nL ret) {k idx : Nat} (hk : kd S k = 7) (hl : Cond.fieldLink own idx "BagBottom$Voices" "trace" "LBagBottom$Row;" ∈ GT) (hd : decode cc pc = .ok (.getfield idx, 3)) (hp : pc + 3 = pc') {k2 : Nat} (he : k + 1 = k2) (kk : X S w g Q pc' ls (.ref (ad w k2) :: st) σ) : X S w g Q pc ls (.ref (ad w k) :: st) σ := by
  subst he
  exact x_getG hg (ci := 6) (j := 0) (N := 5) (T := TX6) (C := RX6) (q := (1, 1)) hk (by decide) rfl in_X6 (by decide) (by decide) rfl hl hd hp kk
theorem get_X6_1 (hg : OK S w g d cc own nL ret) {k idx : Nat} (hk : kd S k = 7) (hl : Cond.fieldLink own idx "BagBottom$Voices" "parted" "Z" ∈ GT) (hd : decode cc pc = .ok (.getfield idx, 3)) (hp : pc + 3 = pc') (kk : X S w g Q pc' ls (.int (σ k 1) :: st) σ) : X S w g Q pc ls (.ref (ad w k) :: st) σ := x_getG hg (ci := 6) (j := 1) (N := 5) (T := TX6) (C := RX6) (q := (0, 0)) hk (by decide) rfl in_X6 (by decide) (by decide) rfl hl hd hp kk
theorem get_X6_2 (hg : OK S w g d cc own nL ret) {k idx : Nat} (hk : kd S k = 7) (hl : Cond.fieldLink own idx "BagBottom$Voices" "number" "I" ∈ GT) (hd : decode cc pc = .ok (.getfield idx, 3)) (hp : pc + 3 = pc') (kk : X S w g Q pc' ls (.int (σ k 2) :: st) σ) : X S w g Q pc ls (.ref (ad w k) :: st) σ := x_getG hg (ci := 6) (j := 2) (N := 5) (T := TX6) (C := RX6) (q := (0, 0)) hk (by decide) rfl in_X6 (by decide) (by decide) rfl hl hd hp kk
theorem get_X6_3 (hg : OK S w g d cc own nL ret) {k idx : Nat} (hk : kd S k = 7) (hl : Cond.fieldLink own idx "BagBottom$Voices" "kind" "I" ∈ GT) (hd : decode cc pc = .ok (.getfield idx, 3)) (hp : pc + 3 = pc') (kk : X S w g Q pc' ls (.int (σ k 3) :: st) σ) : X S w g Q pc ls (.ref (ad w k) :: st) σ := x_getG hg (ci := 6) (j := 3) (N := 5) (T := TX6) (C := RX6) (q := (0, 0)) hk (by decide) rfl in_X6 (by decide) (by decide) rfl hl hd hp kk
theorem get_X6_4 (hg : OK S w g d cc own nL ret) {k idx : Nat} (hk : kd S k = 7) (hl : Cond.fieldLink own idx "BagBottom$Voices" "m" "I" ∈ GT) (hd : decode cc pc = .ok (.getfield idx, 3)) (hp : pc + 3 = pc') (kk : X S w g Q pc' ls (.int (σ k 4) :: st) σ) : X S w g Q pc ls (.ref (ad w k) :: st) σ := x_getG hg (ci := 6) (j := 4) (N := 5) (T := TX6) (C := RX6) (q := (0, 0)) hk (by decide) rfl in_X6 (by decide) (by decide) rfl hl hd hp kk
theorem get_X7_0 (hg : OK S w g d cc own nL ret) {k idx : Nat} (hk : kd S k = 8) (hl : Cond.fieldLink own idx "BagBottom" "bag" "LBagBottom$Bag;" ∈ GT) (hd : decode cc pc = .ok (.getfield idx, 3)) (hp : pc + 3 = pc') {k2 : Nat} (he : k + 1 = k2) (kk : X S w g Q pc' ls (.ref (ad w k2) :: st) σ) : X S w g Q pc ls (.ref (ad w k) :: st) σ := by
  subst he
  exact x_getG hg (ci := 7) (j := 0) (N := 7) (T := TX7) (C := RX7) (q := (1, 1)) hk (by decide) rfl in_X7 (by decide) (by decide) rfl hl hd hp kk
theorem get_X7_1 (hg : OK S w g d cc own nL ret) {k idx : Nat} (hk : kd S k = 8) (hl : Cond.fieldLink own idx "BagBottom" "kept" "LBagBottom$Bag;" ∈ GT) (hd : decode cc pc = .ok (.getfield idx, 3)) (hp : pc + 3 = pc') {k2 : Nat} (he : k + 32 = k2) (kk : X S w g Q pc' ls (.ref (ad w k2) :: st) σ) : X S w g Q pc ls (.ref (ad w k) :: st) σ := by
  subst he
  exact x_getG hg (ci := 7) (j := 1) (N := 7) (T := TX7) (C := RX7) (q := (1, 32)) hk (by decide) rfl in_X7 (by decide) (by decide) rfl hl hd hp kk
theorem get_X7_2 (hg : OK S w g d cc own nL ret) {k idx : Nat} (hk : kd S k = 8) (hl : Cond.fieldLink own idx "BagBottom" "images" "I" ∈ GT) (hd : decode cc pc = .ok (.getfield idx, 3)) (hp : pc + 3 = pc') (kk : X S w g Q pc' ls (.int (σ k 2) :: st) σ) : X S w g Q pc ls (.ref (ad w k) :: st) σ := x_getG hg (ci := 7) (j := 2) (N := 7) (T := TX7) (C := RX7) (q := (0, 0)) hk (by decide) rfl in_X7 (by decide) (by decide) rfl hl hd hp kk
theorem get_X7_3 (hg : OK S w g d cc own nL ret) {k idx : Nat} (hk : kd S k = 8) (hl : Cond.fieldLink own idx "BagBottom" "sheets" "[LBagBottom$Sheet;" ∈ GT) (hd : decode cc pc = .ok (.getfield idx, 3)) (hp : pc + 3 = pc') {k2 : Nat} (he : k + 63 = k2) (kk : X S w g Q pc' ls (.ref (ad w k2) :: st) σ) : X S w g Q pc ls (.ref (ad w k) :: st) σ := by
  subst he
  exact x_getG hg (ci := 7) (j := 3) (N := 7) (T := TX7) (C := RX7) (q := (1, 63)) hk (by decide) rfl in_X7 (by decide) (by decide) rfl hl hd hp kk
theorem get_X7_4 (hg : OK S w g d cc own nL ret) {k idx : Nat} (hk : kd S k = 8) (hl : Cond.fieldLink own idx "BagBottom" "voices" "LBagBottom$Voices;" ∈ GT) (hd : decode cc pc = .ok (.getfield idx, 3)) (hp : pc + 3 = pc') {k2 : Nat} (he : k + 64 = k2) (kk : X S w g Q pc' ls (.ref (ad w k2) :: st) σ) : X S w g Q pc ls (.ref (ad w k) :: st) σ := by
  subst he
  exact x_getG hg (ci := 7) (j := 4) (N := 7) (T := TX7) (C := RX7) (q := (1, 64)) hk (by decide) rfl in_X7 (by decide) (by decide) rfl hl hd hp kk
theorem get_X7_5 (hg : OK S w g d cc own nL ret) {k idx : Nat} (hk : kd S k = 8) (hl : Cond.fieldLink own idx "BagBottom" "thought" "LBagBottom$Thought;" ∈ GT) (hd : decode cc pc = .ok (.getfield idx, 3)) (hp : pc + 3 = pc') {k2 : Nat} (he : k + 67 = k2) (kk : X S w g Q pc' ls (.ref (ad w k2) :: st) σ) : X S w g Q pc ls (.ref (ad w k) :: st) σ := by
  subst he
  exact x_getG hg (ci := 7) (j := 5) (N := 7) (T := TX7) (C := RX7) (q := (1, 67)) hk (by decide) rfl in_X7 (by decide) (by decide) rfl hl hd hp kk
theorem get_X7_6 (hg : OK S w g d cc own nL ret) {k idx : Nat} (hk : kd S k = 8) (hl : Cond.fieldLink own idx "BagBottom" "errors" "[I" ∈ GT) (hd : decode cc pc = .ok (.getfield idx, 3)) (hp : pc + 3 = pc') {k2 : Nat} (he : k + 76 = k2) (kk : X S w g Q pc' ls (.ref (ad w k2) :: st) σ) : X S w g Q pc ls (.ref (ad w k) :: st) σ := by
  subst he
  exact x_getG hg (ci := 7) (j := 6) (N := 7) (T := TX7) (C := RX7) (q := (1, 76)) hk (by decide) rfl in_X7 (by decide) (by decide) rfl hl hd hp kk
theorem get_X8_0 (hg : OK S w g d cc own nL ret) {k idx : Nat} (hk : kd S k = 9) (hl : Cond.fieldLink own idx "BagBottomModel" "row" "[I" ∈ GT) (hd : decode cc pc = .ok (.getfield idx, 3)) (hp : pc + 3 = pc') {k2 : Nat} (he : k + 1 = k2) (kk : X S w g Q pc' ls (.ref (ad w k2) :: st) σ) : X S w g Q pc ls (.ref (ad w k) :: st) σ := by
  subst he
  exact x_getG hg (ci := 8) (j := 0) (N := 23) (T := TX8) (C := RX8) (q := (1, 1)) hk (by decide) rfl in_X8 (by decide) (by decide) rfl hl hd hp kk
theorem get_X8_1 (hg : OK S w g d cc own nL ret) {k idx : Nat} (hk : kd S k = 9) (hl : Cond.fieldLink own idx "BagBottomModel" "kept" "[I" ∈ GT) (hd : decode cc pc = .ok (.getfield idx, 3)) (hp : pc + 3 = pc') {k2 : Nat} (he : k + 2 = k2) (kk : X S w g Q pc' ls (.ref (ad w k2) :: st) σ) : X S w g Q pc ls (.ref (ad w k) :: st) σ := by
  subst he
  exact x_getG hg (ci := 8) (j := 1) (N := 23) (T := TX8) (C := RX8) (q := (1, 2)) hk (by decide) rfl in_X8 (by decide) (by decide) rfl hl hd hp kk
theorem get_X8_2 (hg : OK S w g d cc own nL ret) {k idx : Nat} (hk : kd S k = 9) (hl : Cond.fieldLink own idx "BagBottomModel" "before" "[I" ∈ GT) (hd : decode cc pc = .ok (.getfield idx, 3)) (hp : pc + 3 = pc') {k2 : Nat} (he : k + 3 = k2) (kk : X S w g Q pc' ls (.ref (ad w k2) :: st) σ) : X S w g Q pc ls (.ref (ad w k) :: st) σ := by
  subst he
  exact x_getG hg (ci := 8) (j := 2) (N := 23) (T := TX8) (C := RX8) (q := (1, 3)) hk (by decide) rfl in_X8 (by decide) (by decide) rfl hl hd hp kk
theorem get_X8_3 (hg : OK S w g d cc own nL ret) {k idx : Nat} (hk : kd S k = 9) (hl : Cond.fieldLink own idx "BagBottomModel" "images" "I" ∈ GT) (hd : decode cc pc = .ok (.getfield idx, 3)) (hp : pc + 3 = pc') (kk : X S w g Q pc' ls (.int (σ k 3) :: st) σ) : X S w g Q pc ls (.ref (ad w k) :: st) σ := x_getG hg (ci := 8) (j := 3) (N := 23) (T := TX8) (C := RX8) (q := (0, 0)) hk (by decide) rfl in_X8 (by decide) (by decide) rfl hl hd hp kk
theorem get_X8_4 (hg : OK S w g d cc own nL ret) {k idx : Nat} (hk : kd S k = 9) (hl : Cond.fieldLink own idx "BagBottomModel" "errors" "[I" ∈ GT) (hd : decode cc pc = .ok (.getfield idx, 3)) (hp : pc + 3 = pc') {k2 : Nat} (he : k + 4 = k2) (kk : X S w g Q pc' ls (.ref (ad w k2) :: st) σ) : X S w g Q pc ls (.ref (ad w k) :: st) σ := by
  subst he
  exact x_getG hg (ci := 8) (j := 4) (N := 23) (T := TX8) (C := RX8) (q := (1, 4)) hk (by decide) rfl in_X8 (by decide) (by decide) rfl hl hd hp kk
theorem get_X8_5 (hg : OK S w g d cc own nL ret) {k idx : Nat} (hk : kd S k = 9) (hl : Cond.fieldLink own idx "BagBottomModel" "bitsOf" "[I" ∈ GT) (hd : decode cc pc = .ok (.getfield idx, 3)) (hp : pc + 3 = pc') {k2 : Nat} (he : k + 5 = k2) (kk : X S w g Q pc' ls (.ref (ad w k2) :: st) σ) : X S w g Q pc ls (.ref (ad w k) :: st) σ := by
  subst he
  exact x_getG hg (ci := 8) (j := 5) (N := 23) (T := TX8) (C := RX8) (q := (1, 5)) hk (by decide) rfl in_X8 (by decide) (by decide) rfl hl hd hp kk
theorem get_X8_6 (hg : OK S w g d cc own nL ret) {k idx : Nat} (hk : kd S k = 9) (hl : Cond.fieldLink own idx "BagBottomModel" "sizeOf" "[I" ∈ GT) (hd : decode cc pc = .ok (.getfield idx, 3)) (hp : pc + 3 = pc') {k2 : Nat} (he : k + 6 = k2) (kk : X S w g Q pc' ls (.ref (ad w k2) :: st) σ) : X S w g Q pc ls (.ref (ad w k) :: st) σ := by
  subst he
  exact x_getG hg (ci := 8) (j := 6) (N := 23) (T := TX8) (C := RX8) (q := (1, 6)) hk (by decide) rfl in_X8 (by decide) (by decide) rfl hl hd hp kk
theorem get_X8_7 (hg : OK S w g d cc own nL ret) {k idx : Nat} (hk : kd S k = 9) (hl : Cond.fieldLink own idx "BagBottomModel" "cells" "[I" ∈ GT) (hd : decode cc pc = .ok (.getfield idx, 3)) (hp : pc + 3 = pc') {k2 : Nat} (he : k + 7 = k2) (kk : X S w g Q pc' ls (.ref (ad w k2) :: st) σ) : X S w g Q pc ls (.ref (ad w k) :: st) σ := by
  subst he
  exact x_getG hg (ci := 8) (j := 7) (N := 23) (T := TX8) (C := RX8) (q := (1, 7)) hk (by decide) rfl in_X8 (by decide) (by decide) rfl hl hd hp kk
theorem get_X8_8 (hg : OK S w g d cc own nL ret) {k idx : Nat} (hk : kd S k = 9) (hl : Cond.fieldLink own idx "BagBottomModel" "act" "[I" ∈ GT) (hd : decode cc pc = .ok (.getfield idx, 3)) (hp : pc + 3 = pc') {k2 : Nat} (he : k + 8 = k2) (kk : X S w g Q pc' ls (.ref (ad w k2) :: st) σ) : X S w g Q pc ls (.ref (ad w k) :: st) σ := by
  subst he
  exact x_getG hg (ci := 8) (j := 8) (N := 23) (T := TX8) (C := RX8) (q := (1, 8)) hk (by decide) rfl in_X8 (by decide) (by decide) rfl hl hd hp kk
theorem get_X8_9 (hg : OK S w g d cc own nL ret) {k idx : Nat} (hk : kd S k = 9) (hl : Cond.fieldLink own idx "BagBottomModel" "with" "[I" ∈ GT) (hd : decode cc pc = .ok (.getfield idx, 3)) (hp : pc + 3 = pc') {k2 : Nat} (he : k + 9 = k2) (kk : X S w g Q pc' ls (.ref (ad w k2) :: st) σ) : X S w g Q pc ls (.ref (ad w k) :: st) σ := by
  subst he
  exact x_getG hg (ci := 8) (j := 9) (N := 23) (T := TX8) (C := RX8) (q := (1, 9)) hk (by decide) rfl in_X8 (by decide) (by decide) rfl hl hd hp kk
theorem get_X8_10 (hg : OK S w g d cc own nL ret) {k idx : Nat} (hk : kd S k = 9) (hl : Cond.fieldLink own idx "BagBottomModel" "facts" "[I" ∈ GT) (hd : decode cc pc = .ok (.getfield idx, 3)) (hp : pc + 3 = pc') {k2 : Nat} (he : k + 10 = k2) (kk : X S w g Q pc' ls (.ref (ad w k2) :: st) σ) : X S w g Q pc ls (.ref (ad w k) :: st) σ := by
  subst he
  exact x_getG hg (ci := 8) (j := 10) (N := 23) (T := TX8) (C := RX8) (q := (1, 10)) hk (by decide) rfl in_X8 (by decide) (by decide) rfl hl hd hp kk
theorem get_X8_11 (hg : OK S w g d cc own nL ret) {k idx : Nat} (hk : kd S k = 9) (hl : Cond.fieldLink own idx "BagBottomModel" "pile" "[I" ∈ GT) (hd : decode cc pc = .ok (.getfield idx, 3)) (hp : pc + 3 = pc') {k2 : Nat} (he : k + 11 = k2) (kk : X S w g Q pc' ls (.ref (ad w k2) :: st) σ) : X S w g Q pc ls (.ref (ad w k) :: st) σ := by
  subst he
  exact x_getG hg (ci := 8) (j := 11) (N := 23) (T := TX8) (C := RX8) (q := (1, 11)) hk (by decide) rfl in_X8 (by decide) (by decide) rfl hl hd hp kk
theorem get_X8_12 (hg : OK S w g d cc own nL ret) {k idx : Nat} (hk : kd S k = 9) (hl : Cond.fieldLink own idx "BagBottomModel" "laid" "I" ∈ GT) (hd : decode cc pc = .ok (.getfield idx, 3)) (hp : pc + 3 = pc') (kk : X S w g Q pc' ls (.int (σ k 12) :: st) σ) : X S w g Q pc ls (.ref (ad w k) :: st) σ := x_getG hg (ci := 8) (j := 12) (N := 23) (T := TX8) (C := RX8) (q := (0, 0)) hk (by decide) rfl in_X8 (by decide) (by decide) rfl hl hd hp kk
theorem get_X8_13 (hg : OK S w g d cc own nL ret) {k idx : Nat} (hk : kd S k = 9) (hl : Cond.fieldLink own idx "BagBottomModel" "here" "I" ∈ GT) (hd : decode cc pc = .ok (.getfield idx, 3)) (hp : pc + 3 = pc') (kk : X S w g Q pc' ls (.int (σ k 13) :: st) σ) : X S w g Q pc ls (.ref (ad w k) :: st) σ := x_getG hg (ci := 8) (j := 13) (N := 23) (T := TX8) (C := RX8) (q := (0, 0)) hk (by decide) rfl in_X8 (by decide) (by decide) rfl hl hd hp kk
theorem get_X8_14 (hg : OK S w g d cc own nL ret) {k idx : Nat} (hk : kd S k = 9) (hl : Cond.fieldLink own idx "BagBottomModel" "opened" "I" ∈ GT) (hd : decode cc pc = .ok (.getfield idx, 3)) (hp : pc + 3 = pc') (kk : X S w g Q pc' ls (.int (σ k 14) :: st) σ) : X S w g Q pc ls (.ref (ad w k) :: st) σ := x_getG hg (ci := 8) (j := 14) (N := 23) (T := TX8) (C := RX8) (q := (0, 0)) hk (by decide) rfl in_X8 (by decide) (by decide) rfl hl hd hp kk
theorem get_X8_15 (hg : OK S w g d cc own nL ret) {k idx : Nat} (hk : kd S k = 9) (hl : Cond.fieldLink own idx "BagBottomModel" "bad" "Z" ∈ GT) (hd : decode cc pc = .ok (.getfield idx, 3)) (hp : pc + 3 = pc') (kk : X S w g Q pc' ls (.int (σ k 15) :: st) σ) : X S w g Q pc ls (.ref (ad w k) :: st) σ := x_getG hg (ci := 8) (j := 15) (N := 23) (T := TX8) (C := RX8) (q := (0, 0)) hk (by decide) rfl in_X8 (by decide) (by decide) rfl hl hd hp kk
theorem get_X8_16 (hg : OK S w g d cc own nL ret) {k idx : Nat} (hk : kd S k = 9) (hl : Cond.fieldLink own idx "BagBottomModel" "using" "I" ∈ GT) (hd : decode cc pc = .ok (.getfield idx, 3)) (hp : pc + 3 = pc') (kk : X S w g Q pc' ls (.int (σ k 16) :: st) σ) : X S w g Q pc ls (.ref (ad w k) :: st) σ := x_getG hg (ci := 8) (j := 16) (N := 23) (T := TX8) (C := RX8) (q := (0, 0)) hk (by decide) rfl in_X8 (by decide) (by decide) rfl hl hd hp kk
theorem get_X8_17 (hg : OK S w g d cc own nL ret) {k idx : Nat} (hk : kd S k = 9) (hl : Cond.fieldLink own idx "BagBottomModel" "packed" "[I" ∈ GT) (hd : decode cc pc = .ok (.getfield idx, 3)) (hp : pc + 3 = pc') {k2 : Nat} (he : k + 12 = k2) (kk : X S w g Q pc' ls (.ref (ad w k2) :: st) σ) : X S w g Q pc ls (.ref (ad w k) :: st) σ := by
  subst he
  exact x_getG hg (ci := 8) (j := 17) (N := 23) (T := TX8) (C := RX8) (q := (1, 12)) hk (by decide) rfl in_X8 (by decide) (by decide) rfl hl hd hp kk
theorem get_X8_18 (hg : OK S w g d cc own nL ret) {k idx : Nat} (hk : kd S k = 9) (hl : Cond.fieldLink own idx "BagBottomModel" "leastPacked" "I" ∈ GT) (hd : decode cc pc = .ok (.getfield idx, 3)) (hp : pc + 3 = pc') (kk : X S w g Q pc' ls (.int (σ k 18) :: st) σ) : X S w g Q pc ls (.ref (ad w k) :: st) σ := x_getG hg (ci := 8) (j := 18) (N := 23) (T := TX8) (C := RX8) (q := (0, 0)) hk (by decide) rfl in_X8 (by decide) (by decide) rfl hl hd hp kk
theorem get_X8_19 (hg : OK S w g d cc own nL ret) {k idx : Nat} (hk : kd S k = 9) (hl : Cond.fieldLink own idx "BagBottomModel" "taking" "[I" ∈ GT) (hd : decode cc pc = .ok (.getfield idx, 3)) (hp : pc + 3 = pc') {k2 : Nat} (he : k + 13 = k2) (kk : X S w g Q pc' ls (.ref (ad w k2) :: st) σ) : X S w g Q pc ls (.ref (ad w k) :: st) σ := by
  subst he
  exact x_getG hg (ci := 8) (j := 19) (N := 23) (T := TX8) (C := RX8) (q := (1, 13)) hk (by decide) rfl in_X8 (by decide) (by decide) rfl hl hd hp kk
theorem get_X8_20 (hg : OK S w g d cc own nL ret) {k idx : Nat} (hk : kd S k = 9) (hl : Cond.fieldLink own idx "BagBottomModel" "trace" "[I" ∈ GT) (hd : decode cc pc = .ok (.getfield idx, 3)) (hp : pc + 3 = pc') {k2 : Nat} (he : k + 14 = k2) (kk : X S w g Q pc' ls (.ref (ad w k2) :: st) σ) : X S w g Q pc ls (.ref (ad w k) :: st) σ := by
  subst he
  exact x_getG hg (ci := 8) (j := 20) (N := 23) (T := TX8) (C := RX8) (q := (1, 14)) hk (by decide) rfl in_X8 (by decide) (by decide) rfl hl hd hp kk
theorem get_X8_21 (hg : OK S w g d cc own nL ret) {k idx : Nat} (hk : kd S k = 9) (hl : Cond.fieldLink own idx "BagBottomModel" "traced" "I" ∈ GT) (hd : decode cc pc = .ok (.getfield idx, 3)) (hp : pc + 3 = pc') (kk : X S w g Q pc' ls (.int (σ k 21) :: st) σ) : X S w g Q pc ls (.ref (ad w k) :: st) σ := x_getG hg (ci := 8) (j := 21) (N := 23) (T := TX8) (C := RX8) (q := (0, 0)) hk (by decide) rfl in_X8 (by decide) (by decide) rfl hl hd hp kk
theorem get_X8_22 (hg : OK S w g d cc own nL ret) {k idx : Nat} (hk : kd S k = 9) (hl : Cond.fieldLink own idx "BagBottomModel" "isParted" "Z" ∈ GT) (hd : decode cc pc = .ok (.getfield idx, 3)) (hp : pc + 3 = pc') (kk : X S w g Q pc' ls (.int (σ k 22) :: st) σ) : X S w g Q pc ls (.ref (ad w k) :: st) σ := x_getG hg (ci := 8) (j := 22) (N := 23) (T := TX8) (C := RX8) (q := (0, 0)) hk (by decide) rfl in_X8 (by decide) (by decide) rfl hl hd hp kk
theorem put_X0_1 (hg : OK S w g d cc own nL ret) {k idx : Nat} {v : Int32} {B : Sg → Prop} (hk : kd S k = 1) (hl : Cond.fieldLink own idx "BagBottom$Bag" "known" "I" ∈ GT) (hd : decode cc pc = .ok (.putfield idx, 3)) (hp : pc + 3 = pc') (hw : ∀ s1, s1 = u2 σ k 1 v → B s1) (kk : ∀ s1, B s1 → X S w g Q pc' ls st s1) : X S w g Q pc ls (.int v :: .ref (ad w k) :: st) σ := x_putG hg (ci := 0) (j := 1) (N := 11) (T := TX0) (C := RX0) (q := (0, 0)) (x := v) hk (by decide) rfl in_X0 tyX0_ok nmX0 (by decide) (by decide) rfl rfl rfl rfl rfl hl hd hp hw kk
theorem put_X0_3 (hg : OK S w g d cc own nL ret) {k idx : Nat} {v : Int32} {B : Sg → Prop} (hk : kd S k = 1) (hl : Cond.fieldLink own idx "BagBottom$Bag" "pocket" "I" ∈ GT) (hd : decode cc pc = .ok (.putfield idx, 3)) (hp : pc + 3 = pc') (hw : ∀ s1, s1 = u2 σ k 3 v → B s1) (kk : ∀ s1, B s1 → X S w g Q pc' ls st s1) : X S w g Q pc ls (.int v :: .ref (ad w k) :: st) σ := x_putG hg (ci := 0) (j := 3) (N := 11) (T := TX0) (C := RX0) (q := (0, 0)) (x := v) hk (by decide) rfl in_X0 tyX0_ok nmX0 (by decide) (by decide) rfl rfl rfl rfl rfl hl hd hp hw kk
theorem put_X0_4 (hg : OK S w g d cc own nL ret) {k idx : Nat} {v : Int32} {B : Sg → Prop} (hk : kd S k = 1) (hl : Cond.fieldLink own idx "BagBottom$Bag" "steps" "I" ∈ GT) (hd : decode cc pc = .ok (.putfield idx, 3)) (hp : pc + 3 = pc') (hw : ∀ s1, s1 = u2 σ k 4 v → B s1) (kk : ∀ s1, B s1 → X S w g Q pc' ls st s1) : X S w g Q pc ls (.int v :: .ref (ad w k) :: st) σ := x_putG hg (ci := 0) (j := 4) (N := 11) (T := TX0) (C := RX0) (q := (0, 0)) (x := v) hk (by decide) rfl in_X0 tyX0_ok nmX0 (by decide) (by decide) rfl rfl rfl rfl rfl hl hd hp hw kk
theorem put_X0_5 (hg : OK S w g d cc own nL ret) {k idx : Nat} {v : Int32} {B : Sg → Prop} (hk : kd S k = 1) (hl : Cond.fieldLink own idx "BagBottom$Bag" "seconds" "I" ∈ GT) (hd : decode cc pc = .ok (.putfield idx, 3)) (hp : pc + 3 = pc') (hw : ∀ s1, s1 = u2 σ k 5 v → B s1) (kk : ∀ s1, B s1 → X S w g Q pc' ls st s1) : X S w g Q pc ls (.int v :: .ref (ad w k) :: st) σ := x_putG hg (ci := 0) (j := 5) (N := 11) (T := TX0) (C := RX0) (q := (0, 0)) (x := v) hk (by decide) rfl in_X0 tyX0_ok nmX0 (by decide) (by decide) rfl rfl rfl rfl rfl hl hd hp hw kk
theorem put_X0_6 (hg : OK S w g d cc own nL ret) {k idx : Nat} {v : Int32} {B : Sg → Prop} (hk : kd S k = 1) (hl : Cond.fieldLink own idx "BagBottom$Bag" "z" "I" ∈ GT) (hd : decode cc pc = .ok (.putfield idx, 3)) (hp : pc + 3 = pc') (hw : ∀ s1, s1 = u2 σ k 6 v → B s1) (kk : ∀ s1, B s1 → X S w g Q pc' ls st s1) : X S w g Q pc ls (.int v :: .ref (ad w k) :: st) σ := x_putG hg (ci := 0) (j := 6) (N := 11) (T := TX0) (C := RX0) (q := (0, 0)) (x := v) hk (by decide) rfl in_X0 tyX0_ok nmX0 (by decide) (by decide) rfl rfl rfl rfl rfl hl hd hp hw kk
theorem put_X1_1 (hg : OK S w g d cc own nL ret) {k idx : Nat} {v : Int32} {B : Sg → Prop} (hk : kd S k = 2) (hl : Cond.fieldLink own idx "BagBottom$Row" "length" "I" ∈ GT) (hd : decode cc pc = .ok (.putfield idx, 3)) (hp : pc + 3 = pc') (hw : ∀ s1, s1 = u2 σ k 1 v → B s1) (kk : ∀ s1, B s1 → X S w g Q pc' ls st s1) : X S w g Q pc ls (.int v :: .ref (ad w k) :: st) σ := x_putG hg (ci := 1) (j := 1) (N := 2) (T := TX1) (C := RX1) (q := (0, 0)) (x := v) hk (by decide) rfl in_X1 tyX1_ok nmX1 (by decide) (by decide) rfl rfl rfl rfl rfl hl hd hp hw kk
theorem put_X2_0 (hg : OK S w g d cc own nL ret) {k idx : Nat} {v : Int32} {B : Sg → Prop} (hk : kd S k = 3) (hl : Cond.fieldLink own idx "BagBottom$Sheet" "bits" "I" ∈ GT) (hd : decode cc pc = .ok (.putfield idx, 3)) (hp : pc + 3 = pc') (hw : ∀ s1, s1 = u2 σ k 0 v → B s1) (kk : ∀ s1, B s1 → X S w g Q pc' ls st s1) : X S w g Q pc ls (.int v :: .ref (ad w k) :: st) σ := x_putG hg (ci := 2) (j := 0) (N := 2) (T := TX2) (C := RX2) (q := (0, 0)) (x := v) hk (by decide) rfl in_X2 tyX2_ok nmX2 (by decide) (by decide) rfl rfl rfl rfl rfl hl hd hp hw kk
theorem put_X3_3 (hg : OK S w g d cc own nL ret) {k idx : Nat} {B : Sg → Prop} (hk : kd S k = 4) (hl : Cond.fieldLink own idx "BagBottom$Text" "bytes" "LBagBottom$Row;" ∈ GT) (hd : decode cc pc = .ok (.putfield idx, 3)) (hp : pc + 3 = pc') (hw : ∀ s1, s1 = u2 σ k 3 1 → B s1) (kk : ∀ s1, B s1 → X S w g Q pc' ls st s1) : X S w g Q pc ls (.ref (ad w 5) :: .ref (ad w k) :: st) σ := x_putG hg (ci := 3) (j := 3) (N := 6) (T := TX3) (C := RX3) (q := (2, 5)) (x := 1) hk (by decide) rfl in_X3 tyX3_ok nmX3 (by decide) (by decide) rfl rfl (by simp [slV]) rfl rfl hl hd hp hw kk
theorem put_X3_4 (hg : OK S w g d cc own nL ret) {k idx : Nat} {v : Int32} {B : Sg → Prop} (hk : kd S k = 4) (hl : Cond.fieldLink own idx "BagBottom$Text" "names" "Ljava/lang/String;" ∈ GT) (hd : decode cc pc = .ok (.putfield idx, 3)) (hp : pc + 3 = pc') (hw : ∀ s1, s1 = u2 σ k 4 v → B s1) (kk : ∀ s1, B s1 → X S w g Q pc' ls st s1) : X S w g Q pc ls (.ref (sa w v) :: .ref (ad w k) :: st) σ := x_putG hg (ci := 3) (j := 4) (N := 6) (T := TX3) (C := RX3) (q := (3, 0)) (x := v) hk (by decide) rfl in_X3 tyX3_ok nmX3 (by decide) (by decide) rfl rfl rfl rfl rfl hl hd hp hw kk
theorem put_X3_5 (hg : OK S w g d cc own nL ret) {k idx : Nat} {v : Int32} {B : Sg → Prop} (hk : kd S k = 4) (hl : Cond.fieldLink own idx "BagBottom$Text" "next" "I" ∈ GT) (hd : decode cc pc = .ok (.putfield idx, 3)) (hp : pc + 3 = pc') (hw : ∀ s1, s1 = u2 σ k 5 v → B s1) (kk : ∀ s1, B s1 → X S w g Q pc' ls st s1) : X S w g Q pc ls (.int v :: .ref (ad w k) :: st) σ := x_putG hg (ci := 3) (j := 5) (N := 6) (T := TX3) (C := RX3) (q := (0, 0)) (x := v) hk (by decide) rfl in_X3 tyX3_ok nmX3 (by decide) (by decide) rfl rfl rfl rfl rfl hl hd hp hw kk
theorem put_X4_0 (hg : OK S w g d cc own nL ret) {k idx : Nat} {v : Int32} {B : Sg → Prop} (hk : kd S k = 5) (hl : Cond.fieldLink own idx "BagBottom$Thing" "kind" "I" ∈ GT) (hd : decode cc pc = .ok (.putfield idx, 3)) (hp : pc + 3 = pc') (hw : ∀ s1, s1 = u2 σ k 0 v → B s1) (kk : ∀ s1, B s1 → X S w g Q pc' ls st s1) : X S w g Q pc ls (.int v :: .ref (ad w k) :: st) σ := x_putG hg (ci := 4) (j := 0) (N := 4) (T := TX4) (C := RX4) (q := (0, 0)) (x := v) hk (by decide) rfl in_X4 tyX4_ok nmX4 (by decide) (by decide) rfl rfl rfl rfl rfl hl hd hp hw kk
theorem put_X4_1 (hg : OK S w g d cc own nL ret) {k idx : Nat} {v : Int32} {B : Sg → Prop} (hk : kd S k = 5) (hl : Cond.fieldLink own idx "BagBottom$Thing" "m" "I" ∈ GT) (hd : decode cc pc = .ok (.putfield idx, 3)) (hp : pc + 3 = pc') (hw : ∀ s1, s1 = u2 σ k 1 v → B s1) (kk : ∀ s1, B s1 → X S w g Q pc' ls st s1) : X S w g Q pc ls (.int v :: .ref (ad w k) :: st) σ := x_putG hg (ci := 4) (j := 1) (N := 4) (T := TX4) (C := RX4) (q := (0, 0)) (x := v) hk (by decide) rfl in_X4 tyX4_ok nmX4 (by decide) (by decide) rfl rfl rfl rfl rfl hl hd hp hw kk
theorem put_X4_2 (hg : OK S w g d cc own nL ret) {k idx : Nat} {v : Int32} {B : Sg → Prop} (hk : kd S k = 5) (hl : Cond.fieldLink own idx "BagBottom$Thing" "weight" "I" ∈ GT) (hd : decode cc pc = .ok (.putfield idx, 3)) (hp : pc + 3 = pc') (hw : ∀ s1, s1 = u2 σ k 2 v → B s1) (kk : ∀ s1, B s1 → X S w g Q pc' ls st s1) : X S w g Q pc ls (.int v :: .ref (ad w k) :: st) σ := x_putG hg (ci := 4) (j := 2) (N := 4) (T := TX4) (C := RX4) (q := (0, 0)) (x := v) hk (by decide) rfl in_X4 tyX4_ok nmX4 (by decide) (by decide) rfl rfl rfl rfl rfl hl hd hp hw kk
theorem put_X4_3 (hg : OK S w g d cc own nL ret) {k idx : Nat} {v : Int32} {B : Sg → Prop} (hk : kd S k = 5) (hl : Cond.fieldLink own idx "BagBottom$Thing" "size" "I" ∈ GT) (hd : decode cc pc = .ok (.putfield idx, 3)) (hp : pc + 3 = pc') (hw : ∀ s1, s1 = u2 σ k 3 v → B s1) (kk : ∀ s1, B s1 → X S w g Q pc' ls st s1) : X S w g Q pc ls (.int v :: .ref (ad w k) :: st) σ := x_putG hg (ci := 4) (j := 3) (N := 4) (T := TX4) (C := RX4) (q := (0, 0)) (x := v) hk (by decide) rfl in_X4 tyX4_ok nmX4 (by decide) (by decide) rfl rfl rfl rfl rfl hl hd hp hw kk
theorem put_X6_1 (hg : OK S w g d cc own nL ret) {k idx : Nat} {v : Int32} {B : Sg → Prop} (hk : kd S k = 7) (hb : v = 0 ∨ v = 1) (hl : Cond.fieldLink own idx "BagBottom$Voices" "parted" "Z" ∈ GT) (hd : decode cc pc = .ok (.putfield idx, 3)) (hp : pc + 3 = pc') (hw : ∀ s1, s1 = u2 σ k 1 v → B s1) (kk : ∀ s1, B s1 → X S w g Q pc' ls st s1) : X S w g Q pc ls (.int v :: .ref (ad w k) :: st) σ := x_putG hg (ci := 6) (j := 1) (N := 5) (T := TX6) (C := RX6) (q := (0, 0)) (x := v) hk (by decide) rfl in_X6 tyX6_ok nmX6 (by decide) (by decide) rfl rfl rfl (nz_of hb).1 (nz_of hb).2 hl hd hp hw kk
theorem put_X6_2 (hg : OK S w g d cc own nL ret) {k idx : Nat} {v : Int32} {B : Sg → Prop} (hk : kd S k = 7) (hl : Cond.fieldLink own idx "BagBottom$Voices" "number" "I" ∈ GT) (hd : decode cc pc = .ok (.putfield idx, 3)) (hp : pc + 3 = pc') (hw : ∀ s1, s1 = u2 σ k 2 v → B s1) (kk : ∀ s1, B s1 → X S w g Q pc' ls st s1) : X S w g Q pc ls (.int v :: .ref (ad w k) :: st) σ := x_putG hg (ci := 6) (j := 2) (N := 5) (T := TX6) (C := RX6) (q := (0, 0)) (x := v) hk (by decide) rfl in_X6 tyX6_ok nmX6 (by decide) (by decide) rfl rfl rfl rfl rfl hl hd hp hw kk
theorem put_X6_3 (hg : OK S w g d cc own nL ret) {k idx : Nat} {v : Int32} {B : Sg → Prop} (hk : kd S k = 7) (hl : Cond.fieldLink own idx "BagBottom$Voices" "kind" "I" ∈ GT) (hd : decode cc pc = .ok (.putfield idx, 3)) (hp : pc + 3 = pc') (hw : ∀ s1, s1 = u2 σ k 3 v → B s1) (kk : ∀ s1, B s1 → X S w g Q pc' ls st s1) : X S w g Q pc ls (.int v :: .ref (ad w k) :: st) σ := x_putG hg (ci := 6) (j := 3) (N := 5) (T := TX6) (C := RX6) (q := (0, 0)) (x := v) hk (by decide) rfl in_X6 tyX6_ok nmX6 (by decide) (by decide) rfl rfl rfl rfl rfl hl hd hp hw kk
theorem put_X6_4 (hg : OK S w g d cc own nL ret) {k idx : Nat} {v : Int32} {B : Sg → Prop} (hk : kd S k = 7) (hl : Cond.fieldLink own idx "BagBottom$Voices" "m" "I" ∈ GT) (hd : decode cc pc = .ok (.putfield idx, 3)) (hp : pc + 3 = pc') (hw : ∀ s1, s1 = u2 σ k 4 v → B s1) (kk : ∀ s1, B s1 → X S w g Q pc' ls st s1) : X S w g Q pc ls (.int v :: .ref (ad w k) :: st) σ := x_putG hg (ci := 6) (j := 4) (N := 5) (T := TX6) (C := RX6) (q := (0, 0)) (x := v) hk (by decide) rfl in_X6 tyX6_ok nmX6 (by decide) (by decide) rfl rfl rfl rfl rfl hl hd hp hw kk
theorem put_X7_2 (hg : OK S w g d cc own nL ret) {k idx : Nat} {v : Int32} {B : Sg → Prop} (hk : kd S k = 8) (hl : Cond.fieldLink own idx "BagBottom" "images" "I" ∈ GT) (hd : decode cc pc = .ok (.putfield idx, 3)) (hp : pc + 3 = pc') (hw : ∀ s1, s1 = u2 σ k 2 v → B s1) (kk : ∀ s1, B s1 → X S w g Q pc' ls st s1) : X S w g Q pc ls (.int v :: .ref (ad w k) :: st) σ := x_putG hg (ci := 7) (j := 2) (N := 7) (T := TX7) (C := RX7) (q := (0, 0)) (x := v) hk (by decide) rfl in_X7 tyX7_ok nmX7 (by decide) (by decide) rfl rfl rfl rfl rfl hl hd hp hw kk
theorem put_X8_3 (hg : OK S w g d cc own nL ret) {k idx : Nat} {v : Int32} {B : Sg → Prop} (hk : kd S k = 9) (hl : Cond.fieldLink own idx "BagBottomModel" "images" "I" ∈ GT) (hd : decode cc pc = .ok (.putfield idx, 3)) (hp : pc + 3 = pc') (hw : ∀ s1, s1 = u2 σ k 3 v → B s1) (kk : ∀ s1, B s1 → X S w g Q pc' ls st s1) : X S w g Q pc ls (.int v :: .ref (ad w k) :: st) σ := x_putG hg (ci := 8) (j := 3) (N := 23) (T := TX8) (C := RX8) (q := (0, 0)) (x := v) hk (by decide) rfl in_X8 tyX8_ok nmX8 (by decide) (by decide) rfl rfl rfl rfl rfl hl hd hp hw kk
theorem put_X8_12 (hg : OK S w g d cc own nL ret) {k idx : Nat} {v : Int32} {B : Sg → Prop} (hk : kd S k = 9) (hl : Cond.fieldLink own idx "BagBottomModel" "laid" "I" ∈ GT) (hd : decode cc pc = .ok (.putfield idx, 3)) (hp : pc + 3 = pc') (hw : ∀ s1, s1 = u2 σ k 12 v → B s1) (kk : ∀ s1, B s1 → X S w g Q pc' ls st s1) : X S w g Q pc ls (.int v :: .ref (ad w k) :: st) σ := x_putG hg (ci := 8) (j := 12) (N := 23) (T := TX8) (C := RX8) (q := (0, 0)) (x := v) hk (by decide) rfl in_X8 tyX8_ok nmX8 (by decide) (by decide) rfl rfl rfl rfl rfl hl hd hp hw kk
theorem put_X8_13 (hg : OK S w g d cc own nL ret) {k idx : Nat} {v : Int32} {B : Sg → Prop} (hk : kd S k = 9) (hl : Cond.fieldLink own idx "BagBottomModel" "here" "I" ∈ GT) (hd : decode cc pc = .ok (.putfield idx, 3)) (hp : pc + 3 = pc') (hw : ∀ s1, s1 = u2 σ k 13 v → B s1) (kk : ∀ s1, B s1 → X S w g Q pc' ls st s1) : X S w g Q pc ls (.int v :: .ref (ad w k) :: st) σ := x_putG hg (ci := 8) (j := 13) (N := 23) (T := TX8) (C := RX8) (q := (0, 0)) (x := v) hk (by decide) rfl in_X8 tyX8_ok nmX8 (by decide) (by decide) rfl rfl rfl rfl rfl hl hd hp hw kk
theorem put_X8_14 (hg : OK S w g d cc own nL ret) {k idx : Nat} {v : Int32} {B : Sg → Prop} (hk : kd S k = 9) (hl : Cond.fieldLink own idx "BagBottomModel" "opened" "I" ∈ GT) (hd : decode cc pc = .ok (.putfield idx, 3)) (hp : pc + 3 = pc') (hw : ∀ s1, s1 = u2 σ k 14 v → B s1) (kk : ∀ s1, B s1 → X S w g Q pc' ls st s1) : X S w g Q pc ls (.int v :: .ref (ad w k) :: st) σ := x_putG hg (ci := 8) (j := 14) (N := 23) (T := TX8) (C := RX8) (q := (0, 0)) (x := v) hk (by decide) rfl in_X8 tyX8_ok nmX8 (by decide) (by decide) rfl rfl rfl rfl rfl hl hd hp hw kk
theorem put_X8_15 (hg : OK S w g d cc own nL ret) {k idx : Nat} {v : Int32} {B : Sg → Prop} (hk : kd S k = 9) (hb : v = 0 ∨ v = 1) (hl : Cond.fieldLink own idx "BagBottomModel" "bad" "Z" ∈ GT) (hd : decode cc pc = .ok (.putfield idx, 3)) (hp : pc + 3 = pc') (hw : ∀ s1, s1 = u2 σ k 15 v → B s1) (kk : ∀ s1, B s1 → X S w g Q pc' ls st s1) : X S w g Q pc ls (.int v :: .ref (ad w k) :: st) σ := x_putG hg (ci := 8) (j := 15) (N := 23) (T := TX8) (C := RX8) (q := (0, 0)) (x := v) hk (by decide) rfl in_X8 tyX8_ok nmX8 (by decide) (by decide) rfl rfl rfl (nz_of hb).1 (nz_of hb).2 hl hd hp hw kk
theorem put_X8_16 (hg : OK S w g d cc own nL ret) {k idx : Nat} {v : Int32} {B : Sg → Prop} (hk : kd S k = 9) (hl : Cond.fieldLink own idx "BagBottomModel" "using" "I" ∈ GT) (hd : decode cc pc = .ok (.putfield idx, 3)) (hp : pc + 3 = pc') (hw : ∀ s1, s1 = u2 σ k 16 v → B s1) (kk : ∀ s1, B s1 → X S w g Q pc' ls st s1) : X S w g Q pc ls (.int v :: .ref (ad w k) :: st) σ := x_putG hg (ci := 8) (j := 16) (N := 23) (T := TX8) (C := RX8) (q := (0, 0)) (x := v) hk (by decide) rfl in_X8 tyX8_ok nmX8 (by decide) (by decide) rfl rfl rfl rfl rfl hl hd hp hw kk
theorem put_X8_18 (hg : OK S w g d cc own nL ret) {k idx : Nat} {v : Int32} {B : Sg → Prop} (hk : kd S k = 9) (hl : Cond.fieldLink own idx "BagBottomModel" "leastPacked" "I" ∈ GT) (hd : decode cc pc = .ok (.putfield idx, 3)) (hp : pc + 3 = pc') (hw : ∀ s1, s1 = u2 σ k 18 v → B s1) (kk : ∀ s1, B s1 → X S w g Q pc' ls st s1) : X S w g Q pc ls (.int v :: .ref (ad w k) :: st) σ := x_putG hg (ci := 8) (j := 18) (N := 23) (T := TX8) (C := RX8) (q := (0, 0)) (x := v) hk (by decide) rfl in_X8 tyX8_ok nmX8 (by decide) (by decide) rfl rfl rfl rfl rfl hl hd hp hw kk
theorem put_X8_21 (hg : OK S w g d cc own nL ret) {k idx : Nat} {v : Int32} {B : Sg → Prop} (hk : kd S k = 9) (hl : Cond.fieldLink own idx "BagBottomModel" "traced" "I" ∈ GT) (hd : decode cc pc = .ok (.putfield idx, 3)) (hp : pc + 3 = pc') (hw : ∀ s1, s1 = u2 σ k 21 v → B s1) (kk : ∀ s1, B s1 → X S w g Q pc' ls st s1) : X S w g Q pc ls (.int v :: .ref (ad w k) :: st) σ := x_putG hg (ci := 8) (j := 21) (N := 23) (T := TX8) (C := RX8) (q := (0, 0)) (x := v) hk (by decide) rfl in_X8 tyX8_ok nmX8 (by decide) (by decide) rfl rfl rfl rfl rfl hl hd hp hw kk
theorem put_X8_22 (hg : OK S w g d cc own nL ret) {k idx : Nat} {v : Int32} {B : Sg → Prop} (hk : kd S k = 9) (hb : v = 0 ∨ v = 1) (hl : Cond.fieldLink own idx "BagBottomModel" "isParted" "Z" ∈ GT) (hd : decode cc pc = .ok (.putfield idx, 3)) (hp : pc + 3 = pc') (hw : ∀ s1, s1 = u2 σ k 22 v → B s1) (kk : ∀ s1, B s1 → X S w g Q pc' ls st s1) : X S w g Q pc ls (.int v :: .ref (ad w k) :: st) σ := x_putG hg (ci := 8) (j := 22) (N := 23) (T := TX8) (C := RX8) (q := (0, 0)) (x := v) hk (by decide) rfl in_X8 tyX8_ok nmX8 (by decide) (by decide) rfl rfl rfl (nz_of hb).1 (nz_of hb).2 hl hd hp hw kk
end FIELDS
