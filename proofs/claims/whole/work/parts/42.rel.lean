-- THE RELATION: both matrices tell one mathematical bag: kn things, th their numbers, L the order, pk the pocket, steps, seconds, z, tape, waiting, texts
def IL (n : Int32) (g : Nat → Int32) (l : List Int32) : Prop := n = nI l.length ∧ ∀ (i : Nat) (x : Int32), l[i]? = some x → g i = x
def pkv (pk : Option Nat) : Int32 := match pk with
  | none => -1
  | some x => nI x
-- a step of a text, as the class writes it, and what the reference writes
def acO (c : Int32) : Int32 := if 0 ≤ c.toInt then 1 else if -3 ≤ c.toInt then 2 else if c = -33 then 3 else -c
def wiO (c : Int32) : Int32 := if 0 ≤ c.toInt then c else if -3 ≤ c.toInt then -1 - c else 0
def cOk (c : Int32) : Prop := -3 ≤ c.toInt ∨ c ∈ [(-33 : Int32), -124, -38, -60, -61, -62, -43, -45, -42, -47, -37]
/-- the pile's height behind these steps, from a height on; none: too low for one of them -/
def hgt : List Int32 → Nat → Option Nat
  | [], n => some n
  | c :: r, n => if -3 ≤ c.toInt then hgt r (n + 1) else if c = -33 then (if n < 1 then none else hgt r n) else (if n < 2 then none else hgt r (n - 1))
def CB (σ : Sg) (b kn : Nat) (th : Nat → Nat → Nat) (L : List Nat) (pk : Option Nat) (st se : Nat) (z : Int32) (tp : List Nat) (wt : List Int32) (cd : Nat → List Int32) : Prop :=
  (σ b 1 = nI kn ∧ σ b 3 = pkv pk ∧ σ b 4 = nI st ∧ σ b 5 = nI se ∧ σ b 6 = z) ∧
  IL (σ (b + 2) 1) (σ (b + 3)) (L.map nI) ∧ IL (σ (b + 4) 1) (σ (b + 5)) (tp.map nI) ∧ IL (σ (b + 7) 1) (σ (b + 8)) wt ∧
  (∀ t, t < kn → ∀ j, j < 4 → σ (b + 10 + t) j = nI (th t j)) ∧
  (∀ u, u < 2 → IL (σ (b + 20 + 6 * u) 1) (σ (b + 21 + 6 * u)) (cd u))
def MB (f : Nat → Int32) (kn : Nat) (th : Nat → Nat → Nat) (L : List Nat) (pk : Option Nat) (st se : Nat) (z : Int32) (tp : List Nat) (wt : List Int32) (cd : Nat → List Int32) : Prop :=
  (f 2 = nI kn ∧ f 4 = pkv pk ∧ f 0 = nI st ∧ f 1 = nI se ∧ f 7 = z) ∧
  IL (f 3) (fun i => f (8 + i)) (L.map nI) ∧ IL (f 5) (fun i => f (53 + i)) (tp.map nI) ∧ IL (f 6) (fun i => f (113 + i)) wt ∧
  (∀ t, t < kn → ∀ j, j < 4 → f (17 + 4 * t + j) = nI (th t j)) ∧
  (∀ u, u < 2 → f (137 + 121 * u) = nI (cd u).length ∧ ∀ (i : Nat) (c : Int32), (cd u)[i]? = some c → f (138 + 121 * u + i) = acO c ∧ f (198 + 121 * u + i) = wiO c)
def VB (kn : Nat) (th : Nat → Nat → Nat) (L : List Nat) (pk : Option Nat) (st se : Nat) (tp : List Nat) (wt : List Int32) (cd : Nat → List Int32) : Prop :=
  kn ≤ 9 ∧ (L.Nodup ∧ ∀ x ∈ L, x < kn) ∧ (∀ x, pk = some x → x < kn ∧ x ∉ L) ∧ st ≤ 9999 ∧ se ≤ 99999 ∧ (tp.length ≤ 60 ∧ ∀ x ∈ tp, x ≤ 255) ∧ wt.length ≤ 24 ∧
  (∀ t, t < kn → th t 0 ≤ 6 ∧ th t 1 ≤ 9 ∧ th t 2 ≤ 99 ∧ 1 ≤ th t 3 ∧ th t 3 ≤ 9) ∧
  (∀ u, u < 2 → (cd u).length ≤ 60 ∧ (cd u = [] ∨ hgt (cd u) 0 = some 1) ∧ ∀ c ∈ cd u, cOk c)
/-- a bag of the class's, at cell b, and a row of the reference's tell one bag -/
def BR (σ : Sg) (b : Nat) (f : Nat → Int32) : Prop := ∃ (kn : Nat) (th : Nat → Nat → Nat) (L : List Nat) (pk : Option Nat) (st se : Nat) (z : Int32) (tp : List Nat) (wt : List Int32) (cd : Nat → List Int32), VB kn th L pk st se tp wt cd ∧ CB σ b kn th L pk st se z tp wt cd ∧ MB f kn th L pk st se z tp wt cd
/-- a number of a sheet -/
def shr (b : Int32) (c r : Int32) : Prop := (b = 8 ∧ c = r &&& 255 ∧ -128 ≤ r.toInt ∧ r.toInt ≤ 127) ∨ (b = 16 ∧ c = r &&& 65535 ∧ -32768 ≤ r.toInt ∧ r.toInt ≤ 32767) ∨ (b = 32 ∧ c = r)
def SHR (σ τ : Sg) : Prop := ∀ s, s < 4 → σ (77 + 3 * s) 0 = τ 5 s ∧ (τ 5 s = 0 ∨ τ 5 s = 8 ∨ τ 5 s = 16 ∨ τ 5 s = 32) ∧ σ (78 + 3 * s) 1 = τ 6 s ∧ (∃ n : Nat, n ≤ 24 ∧ τ 6 s = nI n ∧ (τ 5 s = 0 → n = 0) ∧ ∀ k, k < n → shr (τ 5 s) (σ (79 + 3 * s) k) (τ 7 (24 * s + k)))
def TRR (σ τ : Sg) : Prop := σ 65 1 = τ 0 21 ∧ ∃ n : Nat, n ≤ 30 ∧ τ 0 21 = nI n ∧ ∀ k, k < n → σ 66 k = τ 14 k
def ERR (σ τ : Sg) : Prop := ∀ k, 1 ≤ k → k ≤ 6 → σ 76 k = τ 4 k
def IMR (σ τ : Sg) : Prop := σ 0 2 = τ 0 3 ∧ (τ 0 3 ≠ 0 → BR σ 32 (τ 2))
def Rel (σ τ : Sg) : Prop := BR σ 1 (τ 1) ∧ IMR σ τ ∧ ERR σ τ ∧ SHR σ τ ∧ TRR σ τ
def sC0 : Sg := fun k => match k with
  | 1 => fun j => match j with
    | 3 => -1
    | 6 => 1
    | _ => 0
  | 32 => fun j => match j with
    | 3 => -1
    | 6 => 1
    | _ => 0
  | _ => fun _ => 0
def sM0 : Sg := fun k => match k with
  | 1 => upd (upd (fun _ => 0) 4 (-1)) 7 1
  | _ => fun _ => 0
theorem Rel0 : Rel sC0 sM0 := by
  have e0 : ∀ (n : Int32) (g : Nat → Int32), n = 0 → IL n g [] := fun n g h => ⟨h, fun i x h => by simp at h⟩
  refine ⟨⟨0, fun _ _ => 0, [], none, 0, 0, 1, [], [], fun _ => [], ⟨by omega, ⟨List.nodup_nil, fun x h => by simp at h⟩, fun x h => by simp at h, by omega, by omega, ⟨by simp, fun x h => by simp at h⟩, by simp, fun t h => absurd h (Nat.not_lt_zero t), fun u hu => ⟨by simp, Or.inl rfl, fun c h => by simp at h⟩⟩,
    ⟨⟨rfl, rfl, rfl, rfl, rfl⟩, e0 _ _ rfl, e0 _ _ rfl, e0 _ _ rfl, fun t h => absurd h (Nat.not_lt_zero t), fun u hu => ?_⟩, ⟨⟨rfl, rfl, rfl, rfl, rfl⟩, e0 _ _ rfl, e0 _ _ rfl, e0 _ _ rfl, fun t h => absurd h (Nat.not_lt_zero t), fun u hu => ?_⟩⟩, ⟨rfl, fun h => absurd rfl h⟩, fun k h1 h2 => rfl, fun s hs => ?_, ⟨rfl, 0, by omega, rfl, fun k h => absurd h (Nat.not_lt_zero k)⟩⟩
  · rcases (show u = 0 ∨ u = 1 by omega) with rfl | rfl <;> exact e0 _ _ rfl
  · rcases (show u = 0 ∨ u = 1 by omega) with rfl | rfl <;> exact ⟨rfl, fun i c h => by simp at h⟩
  · rcases (show s = 0 ∨ s = 1 ∨ s = 2 ∨ s = 3 by omega) with rfl | rfl | rfl | rfl <;> exact ⟨rfl, Or.inl rfl, rfl, 0, by omega, rfl, fun _ => rfl, fun k h => absurd h (Nat.not_lt_zero k)⟩
