-- PURE: pack, the rows one by one
/-- all rows of r out of R, by numbers from the top -/
def prm : Nat → List Nat → List (List Nat)
  | 0, _ => [[]]
  | r + 1, R => R.flatMap (fun t => (prm r (R.erase t)).map (fun q => t :: q))
def swN (l : List Nat) (i j : Nat) : List Nat := (l.set i (l.getD j 0)).set j (l.getD i 0)
def tvN (l : List Nat) (a : Nat) : List Nat := l.take a ++ (l.drop a).reverse
def tn (l : List Nat) : Nat → Option Nat
  | 0 => none
  | m + 1 => if l.getD m 0 < l.getD (m + 1) 0 then some m else tn l m
def hi (l : List Nat) (t : Nat) : Nat → Nat
  | 0 => 0
  | m + 1 => if l.getD t 0 < l.getD (m + 1) 0 then m + 1 else hi l t m
def nxt (l : List Nat) : Option (List Nat) := match tn l (l.length - 1) with
  | none => none
  | some t => some (tvN (swN l t (hi l t (l.length - 1))) (t + 1))
/-- each row is followed by its next one, the last by none -/
def chk : List (List Nat) → Bool
  | [] => false
  | p :: ps => match ps with
    | [] => decide (nxt p = none)
    | p2 :: _ => decide (nxt p = some p2) && chk ps
theorem pi_ok : ∀ n : Nat, n < 7 → chk (prm n (List.range n)) = true ∧ (prm n (List.range n)).head? = some (List.range n) ∧ (prm n (List.range n)).length ≤ 720 := by decide +kernel
theorem fm_cg {α β : Type} {f g : α → List β} : ∀ l : List α, (∀ x ∈ l, f x = g x) → l.flatMap f = l.flatMap g := by
  intro l
  induction l with
  | nil => intro _; rfl
  | cons a l ih =>
    intro h
    rw [List.flatMap_cons, List.flatMap_cons, h a List.mem_cons_self, ih (fun x hx => h x (List.mem_cons_of_mem _ hx))]
theorem er_inj {g : Nat → Nat} {x : Nat} : ∀ R : List Nat, (∀ y ∈ R, g y = g x → y = x) → (R.map g).erase (g x) = (R.erase x).map g := by
  intro R
  induction R with
  | nil => intro _; rfl
  | cons a R ih =>
    intro h
    by_cases e : a = x
    · subst e
      simp
    · have e2 : ¬ g a = g x := fun z => e (h a List.mem_cons_self z)
      have := ih (fun y hy => h y (List.mem_cons_of_mem _ hy))
      rw [List.map_cons, List.erase_cons, List.erase_cons, if_neg (by simpa using e2), if_neg (by simpa using e), List.map_cons, this]
theorem prm_map {g : Nat → Nat} : ∀ (r : Nat) (R : List Nat), (∀ x ∈ R, ∀ y ∈ R, g x = g y → x = y) → prm r (R.map g) = (prm r R).map (List.map g) := by
  intro r
  induction r with
  | zero => intro R _; rfl
  | succ r ih =>
    intro R h
    rw [prm, prm, List.flatMap_map, List.map_flatMap]
    refine fm_cg R (fun x hx => ?_)
    rw [er_inj R (fun y hy => h y hy x hx), ih (R.erase x) (fun y hy w hw => h y (List.mem_of_mem_erase hy) w (List.mem_of_mem_erase hw)), List.map_map, List.map_map]
    rfl
theorem prm_perm : ∀ (r : Nat) (R q : List Nat), R.length = r → q ∈ prm r R → q.Perm R := by
  intro r
  induction r with
  | zero =>
    intro R q hR h
    have := List.length_eq_zero_iff.mp hR
    subst this
    rw [prm, List.mem_singleton] at h
    subst h
    exact List.Perm.refl _
  | succ r ih =>
    intro R q hR h
    rw [prm, List.mem_flatMap] at h
    obtain ⟨t, ht, h⟩ := h
    obtain ⟨q2, hq, e⟩ := List.mem_map.mp h
    subst e
    have hl : (R.erase t).length = r := by rw [List.length_erase_of_mem ht]; omega
    exact ((ih _ _ hl hq).cons t).trans (List.perm_cons_erase ht).symm
/-- those that are in, by numbers -/
def inA (kn : Nat) (L : List Nat) : List Nat := (List.range' 0 kn).filter (fun t => decide (t ∈ L))
theorem inA_perm {kn : Nat} {L : List Nat} (hn : L.Nodup) (hm : ∀ x ∈ L, x < kn) : (inA kn L).Perm L := by
  refine (List.perm_ext_iff_of_nodup ((List.nodup_range').filter _) hn).mpr (fun a => ?_)
  rw [List.mem_filter, List.mem_range'_1]
  constructor
  · intro h
    simpa using h.2
  · intro h
    have := hm a h
    exact ⟨⟨by omega, by omega⟩, by simpa using h⟩
theorem inA_mono {kn : Nat} {L : List Nat} {i j : Nat} (hij : i < j) (hj : j < (inA kn L).length) : (inA kn L).getD i 0 < (inA kn L).getD j 0 := by
  have hp : (inA kn L).Pairwise (· < ·) := List.Pairwise.filter _ (List.pairwise_lt_range')
  have := List.pairwise_iff_getElem.mp hp i j (by omega) hj hij
  rw [List.getD_eq_getElem?_getD, List.getD_eq_getElem?_getD, List.getElem?_eq_getElem hj, List.getElem?_eq_getElem (show i < (inA kn L).length by omega)]
  exact this
theorem map_getD (A : List Nat) : (List.range A.length).map (fun i => A.getD i 0) = A := by
  apply List.ext_getElem
  · simp
  · intro i h1 h2
    rw [List.getElem_map, List.getElem_range, List.getD_eq_getElem?_getD, List.getElem?_eq_getElem h2]
    rfl
theorem prm_A {kn : Nat} {L : List Nat} : prm (inA kn L).length (inA kn L) = (prm (inA kn L).length (List.range (inA kn L).length)).map (List.map (fun i => (inA kn L).getD i 0)) := by
  rw [← prm_map, map_getD]
  intro x hx y hy e
  have hx2 := List.mem_range.mp hx
  have hy2 := List.mem_range.mp hy
  rcases Nat.lt_trichotomy x y with q | q | q
  · have := inA_mono (kn := kn) (L := L) q hy2
    omega
  · exact q
  · have := inA_mono (kn := kn) (L := L) q hx2
    omega
-- masks
def mk (M t : Nat) : Nat := (nI M &&& (((1 : Int32) <<< (nI t &&& 31)) ^^^ (-1))).toBitVec.toNat
theorem mk_eq (M t : Nat) : nI M &&& (((1 : Int32) <<< (nI t &&& 31)) ^^^ (-1)) = nI (mk M t) := nI_self _
theorem mk_lt {M t : Nat} (h : M < 512) : mk M t < 512 := by
  unfold mk
  rw [Int32.toBitVec_and, BitVec.toNat_and, nI_bv (by omega)]
  have : M &&& (((1 : Int32) <<< (nI t &&& 31)) ^^^ (-1)).toBitVec.toNat ≤ M := Nat.and_le_left
  omega
theorem mk_bit {M t x : Nat} (hM : M < 512) (ht : t < 9) (hx : x < 9) : out? (mk M t) x = (out? M x && !(x == t)) := by
  rw [out_tb, out_tb]
  unfold mk
  rw [BitVec.testBit_toNat, Int32.toBitVec_and, BitVec.getLsbD_and, Int32.toBitVec_xor, BitVec.getLsbD_xor]
  have e1 : ((1 : Int32) <<< (nI t &&& 31)).toBitVec.getLsbD x = (x == t) := by
    rw [← BitVec.testBit_toNat, sh1 t ht, Nat.testBit_two_pow]
    by_cases q : x = t
    · subst q; simp
    · simp [q, Ne.symm q]
  have e2 : (-1 : Int32).toBitVec.getLsbD x = true := by
    have : ∀ x : Nat, x < 9 → (-1 : Int32).toBitVec.getLsbD x = true := by decide +kernel
    exact this x hx
  have e3 : (nI M).toBitVec.getLsbD x = M.testBit x := by
    rw [← BitVec.testBit_toNat, nI_bv (by omega)]
  rw [e1, e2, e3]
  simp
theorem mkI_bit {x : Nat} (hx : x < 9) : ∀ (l : List Nat) (a : Int32), (∀ y ∈ l, y < 9) → (mkI l a).toBitVec.getLsbD x = (a.toBitVec.getLsbD x || decide (x ∈ l)) := by
  intro l
  induction l with
  | nil => intro a _; simp [mkI]
  | cons t l ih =>
    intro a h
    have ht := h t List.mem_cons_self
    rw [mkI, ih _ (fun y hy => h y (List.mem_cons_of_mem _ hy)), Int32.toBitVec_or, BitVec.getLsbD_or]
    have e1 : ((1 : Int32) <<< (nI t &&& 31)).toBitVec.getLsbD x = decide (x = t) := by
      rw [← BitVec.testBit_toNat, sh1 t ht, Nat.testBit_two_pow]
      by_cases q : x = t
      · subst q; simp
      · simp [q, Ne.symm q]
    rw [e1]
    by_cases q : x = t
    · subst q; simp
    · simp [q]
/-- the rows by masks -/
def prM (kn : Nat) : Nat → Nat → List (List Nat)
  | 0, _ => [[]]
  | r + 1, M => ((List.range' 0 kn).filter (out? M)).flatMap (fun t => (prM kn r (mk M t)).map (fun q => t :: q))
theorem prM_eq {kn : Nat} (hk : kn ≤ 9) : ∀ (r M : Nat), M < 512 → prM kn r M = prm r ((List.range' 0 kn).filter (out? M)) := by
  intro r
  induction r with
  | zero => intro M _; rfl
  | succ r ih =>
    intro M hM
    rw [prM, prm]
    refine fm_cg _ (fun t ht => ?_)
    have ht9 : t < 9 := by
      have := (List.mem_filter.mp ht).1
      rw [List.mem_range'_1] at this
      omega
    rw [ih (mk M t) (mk_lt hM), List.Nodup.erase_eq_filter ((List.nodup_range').filter _), List.filter_filter]
    congr 2
    refine List.filter_congr (fun x hx => ?_)
    have hx9 : x < 9 := by
      rw [List.mem_range'_1] at hx
      omega
    rw [mk_bit hM ht9 hx9, Bool.and_comm]
    rfl
theorem prM_A {kn : Nat} {L : List Nat} {M : Nat} (hk : kn ≤ 9) (hM : M < 512) (h : ∀ t, t < 9 → out? M t = decide (t ∈ L)) (r : Nat) : prM kn r M = prm r (inA kn L) := by
  rw [prM_eq hk r M hM]
  unfold inA
  congr 1
  refine List.filter_congr (fun x hx => ?_)
  rw [List.mem_range'_1] at hx
  exact h x (by omega)
