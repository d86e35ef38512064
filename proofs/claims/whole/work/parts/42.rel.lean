-- THE RELATION: the class's matrix beside the reference's
/-- a step of a text: the class's number, the reference's two -/
def cr (c a v : Int32) : Prop := (0 ≤ c.toInt ∧ a = 1 ∧ v = c) ∨ (∃ j : Nat, j < 3 ∧ c = -nI (j + 1) ∧ a = 2 ∧ v = nI j) ∨ (c = -33 ∧ a = 3) ∨ (c = -a ∧ a ∈ [(124 : Int32), 38, 60, 61, 62, 43, 45, 42, 47, 37])
/-- the pile's height behind so many steps; none: it would be too low -/
def pil (a : Nat → Int32) : Nat → Option Nat
  | 0 => some 0
  | k + 1 => match pil a k with
    | none => none
    | some n => if a k = 1 ∨ a k = 2 then some (n + 1) else if a k = 3 then (if n < 1 then none else some n) else (if n < 2 then none else some (n - 1))
/-- a row of the reference's: what it always keeps -/
def BV (f : Nat → Int32) : Prop := ∃ kn no st se tp wt : Nat, ∃ cn : Nat → Nat,
  (f 2 = nI kn ∧ kn ≤ 9) ∧ (f 3 = nI no ∧ no ≤ 9) ∧ (f 0 = nI st ∧ st ≤ 9999) ∧ (f 1 = nI se ∧ se ≤ 99999) ∧ (f 5 = nI tp ∧ tp ≤ 60) ∧ (f 6 = nI wt ∧ wt ≤ 24) ∧
  (∀ k, k < no → ∃ t, t < kn ∧ f (8 + k) = nI t) ∧ (∀ i j, i < no → j < no → f (8 + i) = f (8 + j) → i = j) ∧
  (f 4 = -1 ∨ ∃ t, t < kn ∧ f 4 = nI t ∧ ∀ k, k < no → f (8 + k) ≠ nI t) ∧
  (∀ t, t < kn → ∃ a b c d : Nat, f (17 + 4 * t) = nI a ∧ a ≤ 6 ∧ f (17 + 4 * t + 1) = nI b ∧ b ≤ 9 ∧ f (17 + 4 * t + 2) = nI c ∧ c ≤ 99 ∧ f (17 + 4 * t + 3) = nI d ∧ 1 ≤ d ∧ d ≤ 9) ∧
  (∀ k, k < tp → ∃ b : Nat, b ≤ 255 ∧ f (53 + k) = nI b) ∧
  (∀ u, u < 2 → f (137 + 121 * u) = nI (cn u) ∧ cn u ≤ 60 ∧ (cn u = 0 ∨ pil (fun k => f (138 + 121 * u + k)) (cn u) = some 1) ∧ ∀ k, k < cn u → f (138 + 121 * u + k) = 2 → ∃ j, j < 3 ∧ f (198 + 121 * u + k) = nI j)
/-- a bag of the class's at cell b, and a row of the reference's, hold the same -/
def BR (σ : Sg) (b : Nat) (f : Nat → Int32) : Prop :=
  (σ b 1 = f 2 ∧ σ b 3 = f 4 ∧ σ b 4 = f 0 ∧ σ b 5 = f 1 ∧ σ b 6 = f 7) ∧
  (σ (b + 2) 1 = f 3 ∧ ∀ k, nI k < f 3 → k < 9 → σ (b + 3) k = f (8 + k)) ∧
  (σ (b + 4) 1 = f 5 ∧ ∀ k, nI k < f 5 → k < 60 → σ (b + 5) k = f (53 + k)) ∧
  (σ (b + 7) 1 = f 6 ∧ ∀ k, nI k < f 6 → k < 24 → σ (b + 8) k = f (113 + k)) ∧
  (∀ t, nI t < f 2 → t < 9 → ∀ j, j < 4 → σ (b + 10 + t) j = f (17 + 4 * t + j)) ∧
  (∀ u, u < 2 → σ (b + 20 + 6 * u) 1 = f (137 + 121 * u) ∧ ∀ k, nI k < f (137 + 121 * u) → k < 60 → cr (σ (b + 21 + 6 * u) k) (f (138 + 121 * u + k)) (f (198 + 121 * u + k)))
/-- a number of a sheet -/
def shr (b : Int32) (c r : Int32) : Prop := (b = 8 ∧ c = r &&& 255 ∧ -128 ≤ r.toInt ∧ r.toInt ≤ 127) ∨ (b = 16 ∧ c = r &&& 65535 ∧ -32768 ≤ r.toInt ∧ r.toInt ≤ 32767) ∨ (b = 32 ∧ c = r)
def SHR (σ τ : Sg) : Prop := ∀ s, s < 4 → σ (77 + 3 * s) 0 = τ 5 s ∧ (τ 5 s = 0 ∨ τ 5 s = 8 ∨ τ 5 s = 16 ∨ τ 5 s = 32) ∧ σ (78 + 3 * s) 1 = τ 6 s ∧ (∃ n : Nat, n ≤ 24 ∧ τ 6 s = nI n ∧ (τ 5 s = 0 → n = 0) ∧ ∀ k, k < n → shr (τ 5 s) (σ (79 + 3 * s) k) (τ 7 (24 * s + k)))
def Rel (σ τ : Sg) : Prop :=
  (BV (τ 1) ∧ BR σ 1 (τ 1)) ∧ (σ 0 2 = τ 0 3 ∧ (τ 0 3 ≠ 0 → BV (τ 2) ∧ BR σ 32 (τ 2))) ∧ (∀ k, 1 ≤ k → k ≤ 6 → σ 76 k = τ 4 k) ∧ SHR σ τ ∧
  (σ 65 1 = τ 0 21 ∧ ∃ n : Nat, n ≤ 30 ∧ τ 0 21 = nI n ∧ ∀ k, k < n → σ 66 k = τ 14 k)
def sC0 : Sg := fun k => match k with
  | 1 => fun j => match j with
    | 3 => -1
    | 6 => 1
    | _ => 0
  | 32 => fun j => match j with
    | 3 => -1
    | 6 => 1
    | _ => 0
  | _ => fun _ => 0
def sM0 : Sg := fun k => match k with
  | 1 => upd (upd (fun _ => 0) 4 (-1)) 7 1
  | _ => fun _ => 0
theorem Rel0 : Rel sC0 sM0 := by
  have z0 : (0 : Int32) = nI 0 := rfl
  have nlt : ∀ k : Nat, k < 2 ^ 31 → ¬ nI k < (0 : Int32) := fun k hk => nI_pos hk
  refine ⟨⟨⟨0, 0, 0, 0, 0, 0, fun _ => 0, ⟨rfl, by omega⟩, ⟨rfl, by omega⟩, ⟨rfl, by omega⟩, ⟨rfl, by omega⟩, ⟨rfl, by omega⟩, ⟨rfl, by omega⟩, fun k h => absurd h (by omega), fun i j h => absurd h (by omega), Or.inl rfl, fun t h => absurd h (by omega), fun k h => absurd h (by omega), fun u hu => ?_⟩, ⟨⟨rfl, rfl, rfl, rfl, rfl⟩, ⟨rfl, fun k h h2 => absurd h (nlt k (by omega))⟩, ⟨rfl, fun k h h2 => absurd h (nlt k (by omega))⟩, ⟨rfl, fun k h h2 => absurd h (nlt k (by omega))⟩, fun t h h2 => absurd h (nlt t (by omega)), fun u hu => ?_⟩⟩, ⟨rfl, fun h => absurd rfl h⟩, fun k h1 h2 => rfl, fun s hs => ?_, ⟨rfl, 0, by omega, rfl, fun k h => absurd h (by omega)⟩⟩
  · rcases (show u = 0 ∨ u = 1 by omega) with rfl | rfl <;> exact ⟨rfl, Nat.zero_le _, Or.inl rfl, fun k h => absurd h (Nat.not_lt_zero k)⟩
  · rcases (show u = 0 ∨ u = 1 by omega) with rfl | rfl <;> exact ⟨rfl, fun k h h2 => absurd h (nlt k (by omega))⟩
  · rcases (show s = 0 ∨ s = 1 ∨ s = 2 ∨ s = 3 by omega) with rfl | rfl | rfl | rfl <;> exact ⟨rfl, Or.inl rfl, rfl, 0, by omega, rfl, fun _ => rfl, fun k h => absurd h (by omega)⟩
