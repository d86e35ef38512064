def sIxF (c : Int32) : List Int32 → Nat → Int32
  | [], _ => -1
  | b :: l, k => if b = c then nI k else sIxF c l (k + 1)
def sIx (q c : Int32) : Int32 := sIxF c (txB.getD (ix q) []) 0
section STR
variable {S : Shp} {w : Wc} {g : Gx} {Q : State → Prop} {d : Nat} {cc : ByteArray} {own : String} {nL : Nat} {ret : Option FieldType} {pc pc' : Nat} {ls : List (Option Value)} {st : List Value} {σ : Sg}
theorem x_indexOf (hg : OK S w g d cc own nL ret) {idx : Nat} {q c : Int32} {B : Prop} (hl : Cond.methodLink own idx yJ0_indexOf_0f7a4 ∈ GT) (hd0 : Nat.ble 5 d = true) (hsum : Nat.ble (st.map fun v => v.category).sum 8 = true) (hd : decode cc pc = .ok (.invokevirtual idx, 3)) (hp : pc + 3 = pc') (hw : vp_in q 10 ∧ B) (kk : B → X S w g Q pc' ls (.int (sIx q c) :: st) σ) : X S w g Q pc ls (.int c :: .ref (sa w q) :: st) σ := by
  sorry
end STR
