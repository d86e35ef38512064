def sIxF (c : Int32) : List Int32 → Nat → Int32
  | [], _ => -1
  | b :: l, k => if b = c then nI k else sIxF c l (k + 1)
def sIx (q c : Int32) : Int32 := sIxF c (txB.getD (ix q) []) 0
theorem tx_all : ∀ i, i < 10 → (txN.getD i 0 = (txB.getD i []).length ∧ (txB.getD i []).length ≤ 10 ∧ ∀ b ∈ txB.getD i [], 0 ≤ b.toInt ∧ b.toInt ≤ 127) := by decide +kernel
theorem sIxF_out {c : Int32} : ∀ (l : List Int32) (k : Nat), (∀ b ∈ l, ¬ b = c) → sIxF c l k = -1 := by
  intro l
  induction l with
  | nil => intro k _; rfl
  | cons b l ih =>
    intro k h
    rw [sIxF, if_neg (h b List.mem_cons_self)]
    exact ih (k + 1) (fun x hx => h x (List.mem_cons_of_mem _ hx))
theorem b8_eq {b c : Int32} (h0 : 0 ≤ b.toInt) (h1 : b.toInt ≤ 127) (c0 : 0 ≤ c.toInt) (c1 : c.toInt ≤ 255) : b = Int8.toInt32 (Int32.toInt8 c) ↔ b = c := by
  have e : (Int8.toInt32 (Int32.toInt8 c)).toInt = Int.bmod c.toInt 256 := by
    rw [Int8.toInt_toInt32, Int32.toInt_toInt8]
  constructor
  · intro h
    apply Int32.toInt_inj.mp
    have e2 := congrArg Int32.toInt h
    rw [e, Int.bmod_def] at e2
    split at e2 <;> omega
  · intro h
    subst h
    apply Int32.toInt_inj.mp
    rw [e, Int.bmod_def]
    split <;> omega
theorem p_ixLoop {q c : Int32} {P : Int32 → Sg → Prop} {K : Sg → Prop} {s : Sg} {L : List Int32} (hL : txB.getD (ix q) [] = L) (hN : txN.getD (ix q) 0 = L.length) (hl : L.length ≤ 10) (hb : ∀ b ∈ L, 0 ≤ b.toInt ∧ b.toInt ≤ 127) (c0 : 0 ≤ c.toInt) (c1 : c.toInt ≤ 255) (hK : K s → True) : ∀ (l : List Int32) (k : Nat), k + l.length = L.length → L.drop k = l → (sIxF c l k = -1 → K s) → (∀ j, j < L.length → sIxF c l k = nI j → P (nI j) s) → wJL1_indexOfChar_7 q (nI L.length) (Int8.toInt32 (Int32.toInt8 c)) P K (l.length + 1) (nI k) s := by
  intro l
  induction l with
  | nil =>
    intro k hk hd h1 h2
    refine ⟨fun _ => h1 rfl, fun h => absurd ?_ h⟩
    simp at hk
    rw [hk]
    exact Int32.le_refl _
  | cons b l ih =>
    intro k hk hd h1 h2
    have hkl : k < L.length := by simp at hk; omega
    refine ⟨fun h => absurd h (nI_ge hkl (by omega)), fun _ => ⟨?_, ?_⟩⟩
    · rw [hN]
      exact vp_in_nI hkl (by omega)
    · have hget : L.getD (ix (nI k)) 0 = b := by
        rw [show ix (nI k) = k from nI_clamp (by omega)]
        have := congrArg (fun z => z.head?) hd
        simp [List.head?_drop] at this
        rw [List.getD_eq_getElem?_getD, this]
        rfl
      have hbL : b ∈ L := by
        have : b ∈ L.drop k := by rw [hd]; exact List.mem_cons_self
        exact List.mem_of_mem_drop this
      obtain ⟨b0, b1⟩ := hb b hbL
      rw [hL, hget]
      refine ⟨fun hne => ?_, fun he => ?_⟩
      · have hne2 : ¬ b = c := fun z => hne ((b8_eq b0 b1 c0 c1).mpr z)
        have := ih (k + 1) (by simp at hk; omega) (by rw [← List.drop_drop, hd]; rfl) (fun z => h1 (by rw [sIxF, if_neg hne2]; exact z)) (fun j hj z => h2 j hj (by rw [sIxF, if_neg hne2]; exact z))
        rw [nI_1]
        exact this
      · have he2 : b = c := (b8_eq b0 b1 c0 c1).mp he
        exact h2 k hkl (by rw [sIxF, if_pos he2])
theorem sIxF_val {c : Int32} : ∀ (l : List Int32) (k : Nat), sIxF c l k = -1 ∨ ∃ j, k ≤ j ∧ j < k + l.length ∧ sIxF c l k = nI j := by
  intro l
  induction l with
  | nil => intro k; exact Or.inl rfl
  | cons b l ih =>
    intro k
    rw [sIxF]
    split
    · exact Or.inr ⟨k, Nat.le_refl _, by simp, rfl⟩
    · rcases ih (k + 1) with h | ⟨j, h1, h2, h3⟩
      · exact Or.inl h
      · exact Or.inr ⟨j, by omega, by simp; omega, h3⟩
theorem p_indexOf {q c : Int32} {P : Int32 → Sg → Prop} {s : Sg} (hq : vp_in q 10) (h : P (sIx q c) s) : wJStr_indexOf q c s P := by
  have hlt : ix q < 10 := Nat.not_le.mp fun z => hq (Or.inr z)
  obtain ⟨hN, hl, hb⟩ := tx_all _ hlt
  generalize hL : txB.getD (ix q) [] = L at hN hl hb
  have hs : sIx q c = sIxF c L 0 := by rw [sIx, hL]
  have hsh : nI L.length >>> ((0 : Int32) &&& 31) = nI L.length := sc_shr0 (by omega)
  have out : (c < 0 ∨ 255 < c) → sIx q c = -1 := by
    intro z
    rw [hs]
    refine sIxF_out _ _ (fun b hb2 e => ?_)
    obtain ⟨b0, b1⟩ := hb b hb2
    subst e
    rcases z with z | z
    · have := Int32.lt_iff_toInt_lt.mp z
      simp at this
      omega
    · have := Int32.lt_iff_toInt_lt.mp z
      simp at this
      omega
  unfold wJStr_indexOf wJStr_indexOf2 wJStr_isLatin1 wJStr_length wJStr_coder wJL1_indexOf wJL1_canEncode
  dsimp only
  rw [hN, hsh]
  refine ⟨fun h9 => absurd h9 (by decide), fun _ => ⟨fun hc => ⟨fun h9 => absurd rfl h9, fun _ => ?_⟩, fun hc => ⟨fun hc2 => ⟨fun h9 => absurd rfl h9, fun _ => ?_⟩, fun hc2 => ⟨fun _ x hx => ⟨fun h3 => ?_, fun h3 => ?_⟩, fun h9 => absurd h9 (by decide)⟩⟩⟩⟩
  · rw [← out (Or.inl hc)]; exact h
  · rw [← out (Or.inr hc2)]; exact h
  · have hx2 : x = nI L.length := by rw [hx]; exact ite_self _
    subst hx2
    have h00 : (if (0 : Int32) < 0 then 0 else 0 : Int32) = 0 := ite_self _
    rw [h00]
    unfold wJL1_indexOfChar
    have c0 : 0 ≤ c.toInt := by
      have := mt Int32.lt_iff_toInt_lt.mpr hc
      simp at this
      omega
    have c1 : c.toInt ≤ 255 := by
      have := mt Int32.lt_iff_toInt_lt.mpr hc2
      simp at this
      omega
    refine ⟨_, p_ixLoop hL hN hl hb c0 c1 (fun _ => trivial) L 0 (by simp) rfl (fun z => ?_) (fun j hj z => ?_)⟩
    · rw [← z, ← hs]; exact h
    · rw [← z, ← hs]; exact h
  · have hx2 : x = nI L.length := by rw [hx]; exact ite_self _
    subst hx2
    have h00 : (if (0 : Int32) < 0 then 0 else 0 : Int32) = 0 := ite_self _
    rw [h00] at h3
    have : L = [] := by
      rcases Nat.eq_zero_or_pos L.length with z | z
      · exact List.length_eq_zero_iff.mp z
      · exact absurd (nI_lt (a := 0) z (by omega)) h3
    subst this
    have e : sIx q c = -1 := by rw [hs]; rfl
    rw [← e]
    exact h
section STR
variable {S : Shp} {w : Wc} {g : Gx} {Q : State → Prop} {d : Nat} {cc : ByteArray} {own : String} {nL : Nat} {ret : Option FieldType} {pc pc' : Nat} {ls : List (Option Value)} {st : List Value} {σ : Sg}
theorem x_indexOf (hg : OK shC w g d cc own nL ret) {idx : Nat} {q c : Int32} {B : Prop} (hl : Cond.methodLink own idx yJ0_indexOf_0f7a4 ∈ GT) (hd0 : Nat.ble 5 d = true) (hsum : Nat.ble (st.map fun v => v.category).sum 8 = true) (hd : decode cc pc = .ok (.invokevirtual idx, 3)) (hp : pc + 3 = pc') (hw : vp_in q 10 ∧ B) (kk : B → X shC w g Q pc' ls (.int (sIx q c) :: st) σ) : X shC w g Q pc ls (.int c :: .ref (sa w q) :: st) σ := by
  refine x_callTI hg (xJStr_indexOf (gL g) hw.1 (P := fun r s => r = sIx q c ∧ s = σ) (p_indexOf hw.1 ⟨rfl, rfl⟩)) hw.1 im_J0_indexOf_0f7a4 se_J0_indexOf_0f7a4 mi_J0_indexOf_0f7a4 hl hd0 rfl (As := [.int c]) rfl rfl hsum hd hp (fun r s1 h => ?_)
  obtain ⟨rfl, rfl⟩ := h
  exact kk hw.2
end STR
