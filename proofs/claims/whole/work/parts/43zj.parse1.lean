-- PURE: text, the parser as a function
abbrev PR : Type := Nat × Option (List Int32)
/-- the byte at a place; 999: none -/
def bz (tp : List Nat) (i : Nat) : Nat := tp.getD i 999
def bI (x : Nat) : Int32 := if x = 999 then -1 else nI x
def sgL (l : Nat) : List Nat := if l = 0 then [124] else if l = 1 then [38] else if l = 2 then [60, 61, 62] else if l = 3 then [43, 45] else [42, 47, 37]
def nmN (u x : Nat) : Option Nat := if u = 0 then (if x = 102 then some 0 else if x = 100 then some 1 else if x = 107 then some 2 else none) else (if x = 110 then some 0 else if x = 107 then some 1 else if x = 109 then some 2 else none)
abbrev dgt (x : Nat) : Prop := 48 ≤ x ∧ x ≤ 57
def dg (tp : List Nat) : Nat → Nat → Nat → Nat × Nat
  | 0, i, v => (i, v)
  | m + 1, i, v => if dgt (bz tp i) then dg tp m (i + 1) (10 * v + (bz tp i - 48)) else (i, v)
def lp (S : Nat → PR) (tp : List Nat) (l : Nat) : Nat → Nat → List Int32 → PR
  | 0, j, cs => (j, some cs)
  | m + 1, j, cs => if bz tp j ∈ sgL l then (match (S (j + 1)).2 with
      | none => ((S (j + 1)).1, none)
      | some ds => if l = 2 then ((S (j + 1)).1, some (cs ++ ds ++ [-(nI (bz tp j))])) else lp S tp l m (S (j + 1)).1 (cs ++ ds ++ [-(nI (bz tp j))])) else (j, some cs)
def lvl (S : Nat → PR) (tp : List Nat) (l i : Nat) : PR := match (S i).2 with
  | none => ((S i).1, none)
  | some cs => lp S tp l 60 (S i).1 cs
def lev (S : Nat → PR) (tp : List Nat) : Nat → Nat → PR
  | 0 => S
  | d + 1 => lvl (lev S tp d) tp (4 - d)
/-- a number or a name, else -/
def atm (u : Nat) (tp : List Nat) (i : Nat) (e : PR) : PR := if dgt (bz tp i) then ((dg tp 4 i 0).1, some [nI (dg tp 4 i 0).2]) else match nmN u (bz tp i) with
  | some j => (i + 1, some [-1 - nI j])
  | none => e
/-- what stands behind a ! -/
def ngt (R : PR) : PR := match R.2 with
  | none => (R.1, none)
  | some cs => (R.1, some (cs ++ [-33]))
/-- what stands in brackets -/
def brk (tp : List Nat) (R : PR) : PR := match R.2 with
  | none => (R.1, none)
  | some cs => if bz tp R.1 = 41 then (R.1 + 1, some cs) else (R.1, none)
def sg (u : Nat) (tp : List Nat) : Nat → (Nat → PR)
  | 0 => fun i => atm u tp i (i, none)
  | o + 1 => fun i => atm u tp i (if bz tp i = 33 then ngt (sg u tp o (i + 1)) else if bz tp i = 40 then brk tp (lev (sg u tp o) tp 5 (i + 1)) else (i, none))
-- what holds of it
def good (tp : List Nat) (i : Nat) (R : PR) : Prop := i ≤ R.1 ∧ R.1 ≤ tp.length ∧ ∀ cs, R.2 = some cs → i + cs.length ≤ R.1 ∧ (∀ n, hgt cs n = some (n + 1)) ∧ ∀ c ∈ cs, cOk c
def gP (tp : List Nat) (f : Nat → PR) : Prop := ∀ i, i ≤ tp.length → good tp i (f i)
theorem bz_in {tp : List Nat} {i : Nat} (h : bz tp i ≠ 999) : i < tp.length := by
  rcases Nat.lt_or_ge i tp.length with q | q
  · exact q
  · unfold bz at h
    rw [List.getD_eq_getElem?_getD, List.getElem?_eq_none q] at h
    exact absurd rfl h
theorem bz_out {tp : List Nat} {i : Nat} (h : tp.length ≤ i) : bz tp i = 999 := by
  unfold bz
  rw [List.getD_eq_getElem?_getD, List.getElem?_eq_none h]
  rfl
theorem bz_at {tp : List Nat} {i : Nat} (h : i < tp.length) : bz tp i = tp[i] := by
  unfold bz
  rw [List.getD_eq_getElem?_getD, List.getElem?_eq_getElem h]
  rfl
def opsL : List Nat := [124, 38, 60, 61, 62, 43, 45, 42, 47, 37]
theorem sg_ops {l x : Nat} (h : x ∈ sgL l) : x ∈ opsL := by
  unfold sgL at h
  unfold opsL
  split at h
  · simp at h; simp [h]
  · split at h
    · simp at h; simp [h]
    · split at h
      · simp at h; rcases h with h | h | h <;> simp [h]
      · split at h
        · simp at h; rcases h with h | h <;> simp [h]
        · simp at h; rcases h with h | h | h <;> simp [h]
theorem op_ok : ∀ x ∈ opsL, (¬ (-3 ≤ (-(nI x)).toInt) ∧ ¬ (-(nI x)) = -33 ∧ cOk (-(nI x))) ∧ acO (-(nI x)) = nI x ∧ wiO (-(nI x)) = 0 ∧ x < 256 := by
  unfold opsL cOk acO wiO
  decide +kernel
theorem nm_lt {u x j : Nat} (h : nmN u x = some j) : j < 3 ∧ x < 256 := by
  unfold nmN at h
  split at h
  · split at h
    · cases h; omega
    · split at h
      · cases h; omega
      · split at h
        · cases h; omega
        · cases h
  · split at h
    · cases h; omega
    · split at h
      · cases h; omega
      · split at h
        · cases h; omega
        · cases h
theorem nm_ok : ∀ j : Nat, j < 3 → (-3 ≤ (-1 - nI j).toInt ∧ cOk (-1 - nI j)) ∧ acO (-1 - nI j) = 2 ∧ wiO (-1 - nI j) = nI j := by
  unfold cOk acO wiO
  decide +kernel
theorem hgt_app : ∀ (a b : List Int32) (n : Nat), hgt (a ++ b) n = (hgt a n).bind (hgt b) := by
  intro a
  induction a with
  | nil => intro b n; rfl
  | cons c a ih =>
    intro b n
    rw [List.cons_append, hgt, hgt]
    split
    · exact ih b _
    · split
      · split
        · rfl
        · exact ih b _
      · split
        · rfl
        · exact ih b _
theorem dg_le {tp : List Nat} : ∀ (m i v : Nat), i ≤ tp.length → i ≤ (dg tp m i v).1 ∧ (dg tp m i v).1 ≤ tp.length := by
  intro m
  induction m with
  | zero => intro i v h; exact ⟨Nat.le_refl _, h⟩
  | succ m ih =>
    intro i v h
    rw [dg]
    split
    · rename_i q
      have hi := bz_in (tp := tp) (i := i) (by omega)
      have := ih (i + 1) (10 * v + (bz tp i - 48)) hi
      exact ⟨by omega, this.2⟩
    · exact ⟨Nat.le_refl _, h⟩
theorem dg_lt {tp : List Nat} : ∀ (m i v : Nat), (dg tp m i v).2 < (v + 1) * 10 ^ m := by
  intro m
  induction m with
  | zero => intro i v; simp [dg]
  | succ m ih =>
    intro i v
    rw [dg]
    have h2 : (v + 1) * 10 ^ (m + 1) = (10 * v + 10) * 10 ^ m := by rw [Nat.pow_succ, ← Nat.mul_assoc, Nat.mul_right_comm]; congr 1; omega
    split
    · rename_i q
      have h1 := ih (i + 1) (10 * v + (bz tp i - 48))
      have h3 : (10 * v + (bz tp i - 48) + 1) * 10 ^ m ≤ (10 * v + 10) * 10 ^ m := Nat.mul_le_mul_right _ (by omega)
      omega
    · show v < _
      have h3 : (v + 1) * 1 ≤ (v + 1) * 10 ^ (m + 1) := Nat.mul_le_mul_left _ (Nat.pow_pos (by omega))
      omega
theorem dg4 {tp : List Nat} {i : Nat} : (dg tp 4 i 0).2 < 10000 := by
  have := dg_lt (tp := tp) 4 i 0
  omega
theorem dg1 {tp : List Nat} {i : Nat} (h : dgt (bz tp i)) : i + 1 ≤ (dg tp 4 i 0).1 := by
  rw [dg, if_pos h]
  exact (dg_le 3 (i + 1) _ (bz_in (by omega))).1
theorem lit_ok {v : Nat} (h : v < 10000) : (-3 ≤ (nI v).toInt ∧ cOk (nI v)) ∧ acO (nI v) = 1 ∧ wiO (nI v) = nI v := by
  have e : (nI v).toInt = v := nI_toInt (by omega)
  unfold cOk acO wiO
  rw [e]
  exact ⟨⟨by omega, Or.inl (by omega)⟩, if_pos (by omega), if_pos (by omega)⟩
theorem hgt_p {c : Int32} (h : -3 ≤ c.toInt) (n : Nat) : hgt [c] n = some (n + 1) := by
  rw [hgt, if_pos h]
  rfl
theorem hgt_n {cs : List Int32} (h : ∀ n, hgt cs n = some (n + 1)) (n : Nat) : hgt (cs ++ [-33]) n = some (n + 1) := by
  rw [hgt_app, h n]
  show hgt [-33] (n + 1) = some (n + 1)
  rw [hgt, if_neg (by decide), if_pos rfl, if_neg (by omega)]
  rfl
theorem hgt_o {cs ds : List Int32} {c : Int32} (h : ∀ n, hgt cs n = some (n + 1)) (h2 : ∀ n, hgt ds n = some (n + 1)) (h3 : ¬ -3 ≤ c.toInt) (h4 : ¬ c = -33) (n : Nat) : hgt (cs ++ ds ++ [c]) n = some (n + 1) := by
  rw [hgt_app, hgt_app, h n]
  show (hgt ds (n + 1)).bind (hgt [c]) = _
  rw [h2 (n + 1)]
  show hgt [c] (n + 1 + 1) = some (n + 1)
  rw [hgt, if_neg h3, if_neg h4, if_neg (by omega)]
  rfl
theorem atm_ok {u i : Nat} {tp : List Nat} {e : PR} (h : i ≤ tp.length) (he : good tp i e) : good tp i (atm u tp i e) := by
  unfold atm
  split
  · rename_i q
    have h1 := dg_le (tp := tp) 4 i 0 h
    have h2 := dg1 q
    have h3 := lit_ok (dg4 (tp := tp) (i := i))
    refine ⟨h1.1, h1.2, fun cs e => ?_⟩
    have e2 := Option.some.inj e
    subst e2
    exact ⟨h2, fun n => hgt_p h3.1.1 n, fun c hc => by rw [List.mem_singleton.mp hc]; exact h3.1.2⟩
  · split
    · rename_i j q
      have h3 := nm_lt q
      have h2 := bz_in (tp := tp) (i := i) (by omega)
      have h4 := nm_ok j h3.1
      refine ⟨by show i ≤ i + 1; omega, h2, fun cs e => ?_⟩
      have e2 := Option.some.inj e
      subst e2
      exact ⟨Nat.le_refl _, fun n => hgt_p h4.1.1 n, fun c hc => by rw [List.mem_singleton.mp hc]; exact h4.1.2⟩
    · exact he
theorem lp_ok {S : Nat → PR} {tp : List Nat} {l : Nat} (hS : gP tp S) : ∀ (m j i : Nat) (cs : List Int32), i ≤ j → good tp i (j, some cs) → good tp i (lp S tp l m j cs) := by
  intro m
  induction m with
  | zero => intro j i cs _ h; exact h
  | succ m ih =>
    intro j i cs hij h
    rw [lp]
    split
    · rename_i q
      have hx := sg_ops q
      obtain ⟨⟨o1, o2, o3⟩, -, -, o4⟩ := op_ok _ hx
      have hj := bz_in (tp := tp) (i := j) (by omega)
      obtain ⟨g1, g2, g3⟩ := hS (j + 1) hj
      have g : ∀ ds, (S (j + 1)).2 = some ds → good tp i ((S (j + 1)).1, some (cs ++ ds ++ [-(nI (bz tp j))])) := by
        intro ds e
        obtain ⟨k1, k2, k3⟩ := g3 ds e
        obtain ⟨-, -, h3⟩ := h
        obtain ⟨c1, c2, c3⟩ := h3 cs rfl
        simp only at c1
        refine ⟨by show i ≤ (S (j + 1)).1; omega, g2, fun es ee => ?_⟩
        have e2 := Option.some.inj ee
        subst e2
        refine ⟨by simp; omega, fun n => hgt_o c2 k2 o1 o2 n, fun c hc => ?_⟩
        simp at hc
        rcases hc with hc | hc | hc
        · exact c3 c hc
        · exact k3 c hc
        · rw [hc]; exact o3
      split
      · rename_i e
        exact ⟨by show i ≤ (S (j + 1)).1; omega, g2, fun es ee => by cases ee⟩
      · rename_i ds e
        split
        · exact g ds e
        · exact ih _ i _ (by omega) (g ds e)
    · exact h
theorem lvl_ok {S : Nat → PR} {tp : List Nat} {l : Nat} (hS : gP tp S) : gP tp (lvl S tp l) := by
  intro i hi
  obtain ⟨g1, g2, g3⟩ := hS i hi
  unfold lvl
  split
  · exact ⟨g1, g2, fun cs e => by cases e⟩
  · rename_i cs e
    exact lp_ok hS 60 _ i cs g1 ⟨g1, g2, fun ds e2 => by have e3 := Option.some.inj e2; subst e3; exact g3 _ e⟩
theorem lev_ok {S : Nat → PR} {tp : List Nat} (hS : gP tp S) : ∀ d, gP tp (lev S tp d) := by
  intro d
  induction d with
  | zero => exact hS
  | succ d ih => exact lvl_ok ih
theorem sg_ok {u : Nat} {tp : List Nat} : ∀ o, gP tp (sg u tp o) := by
  intro o
  induction o with
  | zero => intro i hi; exact atm_ok hi ⟨Nat.le_refl _, hi, fun cs e => by cases e⟩
  | succ o ih =>
    intro i hi
    refine atm_ok hi ?_
    split
    · rename_i q
      have h2 := bz_in (tp := tp) (i := i) (by omega)
      obtain ⟨g1, g2, g3⟩ := ih (i + 1) h2
      unfold ngt
      split
      · exact ⟨by show i ≤ (sg u tp o (i + 1)).1; omega, g2, fun cs e => by cases e⟩
      · rename_i cs e
        obtain ⟨k1, k2, k3⟩ := g3 cs e
        refine ⟨by show i ≤ (sg u tp o (i + 1)).1; omega, g2, fun ds e2 => ?_⟩
        have e3 := Option.some.inj e2
        subst e3
        refine ⟨by simp; omega, fun n => hgt_n k2 n, fun c hc => ?_⟩
        simp at hc
        rcases hc with hc | hc
        · exact k3 c hc
        · rw [hc]; exact Or.inr (by simp)
    · split
      · rename_i q
        have h2 := bz_in (tp := tp) (i := i) (by omega)
        obtain ⟨g1, g2, g3⟩ := lev_ok ih 5 (i + 1) h2
        unfold brk
        split
        · exact ⟨by show i ≤ (lev (sg u tp o) tp 5 (i + 1)).1; omega, g2, fun cs e => by cases e⟩
        · rename_i cs e
          obtain ⟨k1, k2, k3⟩ := g3 cs e
          split
          · rename_i q2
            have h3 := bz_in (tp := tp) (i := (lev (sg u tp o) tp 5 (i + 1)).1) (by omega)
            refine ⟨by show i ≤ (lev (sg u tp o) tp 5 (i + 1)).1 + 1; omega, h3, fun ds e2 => ?_⟩
            have e3 := Option.some.inj e2
            subst e3
            exact ⟨by show i + cs.length ≤ (lev (sg u tp o) tp 5 (i + 1)).1 + 1; omega, k2, k3⟩
          · exact ⟨by show i ≤ (lev (sg u tp o) tp 5 (i + 1)).1; omega, g2, fun cs e => by cases e⟩
      · exact ⟨Nat.le_refl _, hi, fun cs e => by cases e⟩
