-- PURE: how many of nine bits stand
def pc9 (M : Nat) : Nat := ((List.range 9).filter (fun t => (M >>> t) % 2 == 1)).length
theorem pc9_c : ∀ M : Nat, M < 512 →
    (let a0 := nI M
     let x1 := (a0 - ((a0.toUInt32 >>> ((1 : Int32).toUInt32 &&& Int32.toUInt32 31)).toInt32 &&& 1431655765))
     let x2 := ((x1 &&& 858993459) + ((x1.toUInt32 >>> ((2 : Int32).toUInt32 &&& Int32.toUInt32 31)).toInt32 &&& 858993459))
     let x3 := ((x2 + (x2.toUInt32 >>> ((4 : Int32).toUInt32 &&& Int32.toUInt32 31)).toInt32) &&& 252645135)
     let x4 := (x3 + (x3.toUInt32 >>> ((8 : Int32).toUInt32 &&& Int32.toUInt32 31)).toInt32)
     let x5 := (x4 + (x4.toUInt32 >>> ((16 : Int32).toUInt32 &&& Int32.toUInt32 31)).toInt32)
     (x5 &&& 63)) = nI (pc9 M) := by decide +kernel
theorem pc9_s : ∀ M : Nat, M < 512 → 0 < M → nI M &&& (nI M - 1) = nI (M &&& (M - 1)) ∧ (M &&& (M - 1)) < M ∧ pc9 M = pc9 (M &&& (M - 1)) + 1 := by decide +kernel
theorem p_bits {M : Nat} {s : Sg} {P : Int32 → Sg → Prop} (hM : M < 512) (h : P (nI (pc9 M)) s) : wJInt_bitCount (nI M) s P := by
  intro x1 e1 x2 e2 x3 e3 x4 e4 x5 e5
  rw [← pc9_c M hM] at h
  subst e5; subst e4; subst e3; subst e2; subst e1
  exact h
theorem m_bitsL {s : Sg} {K : Int32 → Sg → Prop} (R : Nat) (h : K (nI R) s) : ∀ (n M c : Nat), M ≤ n → M < 512 → c + pc9 M = R → wM_bits_4 K (n + 1) (nI c) (nI M) s := by
  intro n
  induction n with
  | zero =>
    intro M c h1 h2 e
    have : M = 0 := by omega
    subst this
    have e0 : pc9 0 = 0 := by decide
    rw [wM_bits_4]
    have : c = R := by omega
    subst this
    exact iT rfl h
  | succ n ih =>
    intro M c h1 h2 e
    rw [wM_bits_4]
    rcases Nat.eq_zero_or_pos M with q | q
    · subst q
      have e0 : pc9 0 = 0 := by decide
      have : c = R := by omega
      subst this
      exact iT rfl h
    · obtain ⟨g1, g2, g3⟩ := pc9_s M h2 q
      refine iF (nI_ne0 q (by omega)) ?_
      rw [g1, nI_1]
      exact ih _ (c + 1) (by omega) (by omega) (by omega)
theorem m_bits {M : Nat} {s : Sg} {P : Int32 → Sg → Prop} (hM : M < 512) (h : P (nI (pc9 M)) s) : wM_bits (nI M) s P :=
  ⟨M + 1, m_bitsL (pc9 M) h M M 0 (Nat.le_refl M) hM (by omega)⟩
