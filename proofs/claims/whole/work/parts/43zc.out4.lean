-- PURE: out, the masks
def mkI : List Nat → Int32 → Int32
  | [], a => a
  | t :: l, a => mkI l (a ||| (1 <<< (nI t &&& 31)))
/-- the others, as bits -/
def otI (L : List Nat) (x : Nat) : Int32 := mkI L 0 &&& ((1 <<< (nI x &&& 31)) ^^^ (-1))
theorem sh1 : ∀ t : Nat, t < 9 → ((1 : Int32) <<< (nI t &&& 31)).toBitVec.toNat = 2 ^ t := by decide +kernel
theorem mkI_lt : ∀ (l : List Nat) (a : Int32), (∀ x ∈ l, x < 9) → a.toBitVec.toNat < 2 ^ 9 → (mkI l a).toBitVec.toNat < 2 ^ 9 := by
  intro l
  induction l with
  | nil => intro a _ h; exact h
  | cons t l ih =>
    intro a hx h
    rw [mkI]
    refine ih _ (fun x h2 => hx x (List.mem_cons_of_mem _ h2)) ?_
    have ht := hx t (List.mem_cons_self)
    rw [Int32.toBitVec_or, BitVec.toNat_or]
    refine Nat.or_lt_two_pow h ?_
    rw [sh1 t ht]
    exact Nat.pow_lt_pow_right (by omega) ht
theorem otI_nat {L : List Nat} {x : Nat} (h : ∀ x ∈ L, x < 9) : ∃ O, O < 512 ∧ otI L x = nI O := by
  refine ⟨(otI L x).toBitVec.toNat, ?_, nI_self _⟩
  unfold otI
  rw [Int32.toBitVec_and, BitVec.toNat_and]
  have h1 := mkI_lt L 0 h (by decide)
  have h2 : (mkI L 0).toBitVec.toNat &&& ((1 <<< (nI x &&& 31)) ^^^ (-1) : Int32).toBitVec.toNat ≤ (mkI L 0).toBitVec.toNat := Nat.and_le_left
  omega
theorem nI_bv {n : Nat} (h : n < 2 ^ 32) : (nI n).toBitVec.toNat = n := by
  show (BitVec.ofNat 32 n).toNat = n
  rw [BitVec.toNat_ofNat, Nat.mod_eq_of_lt h]
theorem out_tb (M x : Nat) : out? M x = M.testBit x := by
  unfold out? Nat.testBit
  rw [Nat.and_comm]
theorem ot_bit {M x : Nat} {m0 : Int32} (hM : M < 512) (hx : x < 9) (h : nI M &&& ((m0 &&& ((1 <<< (nI x &&& 31)) ^^^ (-1))) ^^^ (-1)) = 0) : out? M x = false := by
  have h2 := congrArg (fun v : Int32 => v.toBitVec.getLsbD x) h
  have e1 : ((1 : Int32) <<< (nI x &&& 31)).toBitVec.getLsbD x = true := by
    rw [← BitVec.testBit_toNat, sh1 x hx, Nat.testBit_two_pow_self]
  have e2 : (-1 : Int32).toBitVec.getLsbD x = true := by
    have : ∀ x : Nat, x < 9 → (-1 : Int32).toBitVec.getLsbD x = true := by decide +kernel
    exact this x hx
  have e3 : (nI M).toBitVec.getLsbD x = M.testBit x := by
    rw [← BitVec.testBit_toNat, nI_bv (by omega)]
  have e4 : (0 : Int32).toBitVec.getLsbD x = false := by
    have : ∀ x : Nat, x < 9 → (0 : Int32).toBitVec.getLsbD x = false := by decide +kernel
    exact this x hx
  simp only [Int32.toBitVec_and, Int32.toBitVec_xor, BitVec.getLsbD_and, BitVec.getLsbD_xor, e1, e2, e3, e4] at h2
  rw [out_tb]
  simpa using h2
theorem bitA : ∀ t : Nat, t < 9 → ∀ M : Nat, M < 512 → (((nI M >>> (nI t &&& 31)) &&& 1) = 1 ↔ out? M t = true) := by decide +kernel
theorem pc9_le (M : Nat) : pc9 M ≤ 9 := by
  unfold pc9
  exact Nat.le_trans (List.length_filter_le _ _) (by simp)
theorem pc9_lt {M x : Nat} (hx : x < 9) (h : out? M x = false) : pc9 M < 9 := by
  unfold pc9
  have : ((List.range 9).filter (fun t => (M >>> t) % 2 == 1)).length < (List.range 9).length := by
    rw [List.length_filter_lt_length_iff_exists]
    refine ⟨x, List.mem_range.mpr hx, ?_⟩
    unfold out? at h
    rw [Nat.and_one_is_mod] at h
    simp at h
    simp [h]
  simpa using this
/-- the best set so far, what is kept of it -/
def fw : Option Nat → Nat
  | none => 9
  | some B => pc9 B
def bst : Option Nat → Int32
  | none => -1
  | some B => nI B
theorem fw_le (b : Option Nat) : fw b ≤ 9 := by
  cases b with
  | none => exact Nat.le_refl 9
  | some B => exact pc9_le B
/-- the search over the sets from M on -/
def lof (th : Nat → Nat → Nat) (cd : Nat → List Int32) (x : Nat) (q : Int32) (L : List Nat) (o : Int32) : Nat → Nat → Option Nat → Option Nat
  | 0, _, b => b
  | m + 1, M, b => if nI M &&& (o ^^^ (-1)) = 0 ∧ pc9 M < fw b ∧ ¬ q < twl th cd x M L 0 0 then lof th cd x q L o m (M + 1) (some M) else lof th cd x q L o m (M + 1) b
theorem lof_lt {th : Nat → Nat → Nat} {cd : Nat → List Int32} {x : Nat} {q : Int32} {L : List Nat} {o : Int32} : ∀ (m M : Nat) (b : Option Nat), M + m ≤ 512 → (∀ B, b = some B → B < 512) → ∀ B, lof th cd x q L o m M b = some B → B < 512 := by
  intro m
  induction m with
  | zero => intro M b _ hb B h; exact hb B h
  | succ m ih =>
    intro M b hM hb B h
    rw [lof] at h
    split at h
    · exact ih (M + 1) (some M) (by omega) (fun B e => by cases e; omega) B h
    · exact ih (M + 1) b (by omega) hb B h
section OUC
variable {s t : Sg} {kn : Nat} {th : Nat → Nat → Nat} {L : List Nat} {pk : Option Nat} {st se : Nat} {z : Int32} {tp : List Nat} {wt : List Int32} {cd : Nat → List Int32}
theorem c_maskL {f2 f3 : Int32} {K : Int32 → Sg → Prop} (v : VB kn th L pk st se tp wt cd) (c : CB s 1 kn th L pk st se z tp wt cd) : ∀ (r : List Nat) (i : Nat) (a : Int32), i + r.length = L.length → (∀ (j : Nat) (hj : j < r.length), L[i + j]? = some r[j]) → K (mkI r a) s → wThought_setLeftOut_11 f2 f3 K (r.length + 1) a (nI i) s := by
  have hk := v.1
  have hlen := VB_len v
  have e3 : s 3 1 = nI L.length := by rw [show s 3 1 = s (1 + 2) 1 from rfl, c.2.1.1]; simp
  intro r
  induction r with
  | nil =>
    intro i a hi hr h
    rw [wThought_setLeftOut_11, e3]
    exact iT (nI_le (by simp at hi; omega) (by simp at hi; omega)) h
  | cons y r ih =>
    intro i a hi hr h
    simp at hi
    have h0' := hr 0 (by simp)
    simp at h0'
    have e4 : s 4 (ix (nI i)) = nI y := by
      rw [ixn (by omega)]
      exact c.2.1.2 i (nI y) (by simp [h0'])
    have hr2 : ∀ (j : Nat) (hj : j < r.length), L[i + 1 + j]? = some r[j] := fun j hj => by
      have := hr (j + 1) (by simpa using hj)
      rw [show i + 1 + j = i + (j + 1) by omega]
      simpa using this
    rw [wThought_setLeftOut_11, e3, e4, nI_1]
    exact iF (nI_ge (by omega) (by omega)) ⟨vp_in_nI (by omega) (by omega), ih (i + 1) _ (by omega) hr2 h⟩
theorem m_insL {K : Int32 → Sg → Prop} (v : VB kn th L pk st se tp wt cd) (m : MB (s 1) kn th L pk st se z tp wt cd) : ∀ (r : List Nat) (i : Nat) (a : Int32), i + r.length = L.length → (∀ (j : Nat) (hj : j < r.length), L[i + j]? = some r[j]) → K (mkI r a) s → wM_inside_4 K (r.length + 1) a (nI i) s := by
  have hk := v.1
  have hlen := VB_len v
  have e3 : s 1 3 = nI L.length := by rw [m.2.1.1]; simp
  intro r
  induction r with
  | nil =>
    intro i a hi hr h
    rw [wM_inside_4, e3]
    exact iT (nI_le (by simp at hi; omega) (by simp at hi; omega)) h
  | cons y r ih =>
    intro i a hi hr h
    simp at hi
    have h0' := hr 0 (by simp)
    simp at h0'
    have e4 : s 1 (8 + i) = nI y := m.2.1.2 i (nI y) (by simp [h0'])
    have hr2 : ∀ (j : Nat) (hj : j < r.length), L[i + 1 + j]? = some r[j] := fun j hj => by
      have := hr (j + 1) (by simpa using hj)
      rw [show i + 1 + j = i + (j + 1) by omega]
      simpa using this
    rw [wM_inside_4, e3, m8, ixn (by omega), e4, nI_1]
    exact iF (nI_ge (by omega) (by omega)) ⟨vp_in_nI (by omega) (by omega), ih (i + 1) _ (by omega) hr2 h⟩
theorem m_inside {P : Int32 → Sg → Prop} (v : VB kn th L pk st se tp wt cd) (m : MB (s 1) kn th L pk st se z tp wt cd) (h : P (mkI L 0) s) : wM_inside s P :=
  ⟨L.length + 1, m_insL v m L 0 0 (by omega) (fun j hj => by rw [Nat.zero_add]; exact List.getElem?_eq_getElem hj) h⟩
theorem c_outL {x q O : Nat} {K : Int32 → Sg → Prop} (v : VB kn th L pk st se tp wt cd) (c : CB s 1 kn th L pk st se z tp wt cd) (u : UT s kn L.length th cd) (hx : x < kn) (hO : O < 512) (R : Option Nat) (h : K (bst R) s) : ∀ (m M : Nat) (b : Option Nat), M + m = O + 1 → lof th cd x (nI q) L (nI O) m M b = R → wThought_setLeftOut_66 (nI x) (nI q) (nI O) K (m + 1) (bst b) (nI (fw b)) (nI M) s := by
  intro m
  induction m with
  | zero =>
    intro M b hM e
    rw [wThought_setLeftOut_66]
    rw [lof] at e
    subst e
    exact iT (nI_lt (by omega) (by omega)) h
  | succ m ih =>
    intro M b hM e
    rw [wThought_setLeftOut_66, nI_1]
    rw [lof] at e
    have hp := pc9_le M
    have hw := fw_le b
    refine iF (nI_nlt (by omega) (by omega)) (p_bits (by omega) ⟨fun q1 => ?_, fun q1 => ?_⟩)
    · rw [if_neg (fun z => q1 z.1)] at e
      exact ih (M + 1) b (by omega) e
    · by_cases q2 : pc9 M < fw b
      · refine iF (nI_ge q2 (by omega)) (p_without v c u (by omega) hx ⟨fun q3 => ?_, fun q3 => ?_⟩)
        · rw [if_neg (fun z => z.2.2 q3)] at e
          exact ih (M + 1) b (by omega) e
        · rw [if_pos ⟨q1, q2, q3⟩] at e
          exact ih (M + 1) (some M) (by omega) e
      · rw [if_neg (fun z => q2 z.2.1)] at e
        exact iT (nI_le (by omega) (by omega)) (ih (M + 1) b (by omega) e)
theorem c_out {x q : Nat} {P : Int32 → Sg → Prop} (v : VB kn th L pk st se tp wt cd) (c : CB s 1 kn th L pk st se z tp wt cd) (hx : x < kn) {O : Nat} (hO : O < 512) (eO : otI L x = nI O) (h : ∀ t, scr s t → P (bst (lof th cd x (nI q) L (nI O) (O + 1) 0 none)) t) : wThought_setLeftOut (nI x) (nI q) s P := by
  refine c_uses v c (fun s1 k1 u1 _ => ⟨L.length + 1, ?_⟩)
  have c1 := scr_CB v.1 c k1
  refine c_maskL v c1 L 0 0 (by omega) (fun j hj => by rw [Nat.zero_add]; exact List.getElem?_eq_getElem hj) ⟨O + 2, ?_⟩
  rw [show mkI L 0 &&& ((1 <<< (nI x &&& 31)) ^^^ (-1)) = nI O from eO]
  exact c_outL v c1 u1 hx hO _ (h s1 k1) (O + 1) 0 none (by omega) rfl
end OUC
