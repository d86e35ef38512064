-- PURE: voice, the class on
def raB (f : Nat) : List Int32 := if f = 1 then [20, 10] else if f = 4 then [50, 20, 10] else if f = 6 then [70] else [10]
def raV (f n : Nat) (x : Int32) : Int32 := if f = 1 then x + nI n - 4 else if f = 4 then (x + nI n - 4) * 3 else if f = 6 then 9 else x + nI n
def ruB (f : Nat) : List Int32 := if f = 2 then 30 :: 11 :: raB f else if f = 5 then 60 :: 30 :: 11 :: raB f else if f = 6 then 71 :: 11 :: raB f else 11 :: raB f
def ruV (f n m : Nat) (x : Int32) : Int32 := if f = 2 then 0 - raV f n x * 2 else if f = 5 then 0 - raV f n (x + 1) * 2 else if f = 6 then raV f n x * 2 + nI m else raV f n x * 2
def riB (f : Nat) : List Int32 := if f = 3 then 40 :: 12 :: ruB f else if f = 4 then 51 :: 12 :: ruB f else 12 :: ruB f
def riV (f n m : Nat) (x : Int32) : Int32 := if f = 3 then ruV f n m (x / 2) - nI m else if f = 4 then (ruV f n m x - nI m) ^^^ nI n else ruV f n m x - nI m
def paB (f n m : Nat) : List Int32 := if f = 1 ∨ f = 4 then (if nI m - nI n = 0 then [21, 13] else 21 :: 13 :: ruB f) else [13]
def paV (f n m : Nat) (x : Int32) : Int32 := if f = 1 ∨ f = 4 then x / (nI m - nI n) + ruV f n m 1 else x / (nI m - nI n)
theorem k7 {k : Nat} (h : k ≤ 6) : k = 0 ∨ k = 1 ∨ k = 2 ∨ k = 3 ∨ k = 4 ∨ k = 5 ∨ k = 6 := by omega
theorem ap1 (tr l : List Int32) (a : Int32) : tr ++ [a] ++ l = tr ++ a :: l := by rw [List.append_assoc]; rfl
theorem VC_ap {t : Sg} {n k m : Nat} {tr l : List Int32} {a : Int32} (h : VC t n k m (tr ++ [a] ++ l)) : VC t n k m (tr ++ a :: l) := by
  rw [ap1] at h
  exact h
theorem RW_ap {t : Sg} {k : Nat} {tr l : List Int32} {a : Int32} (h : RW t k (tr ++ [a] ++ l)) : RW t k (tr ++ a :: l) := by
  rw [ap1] at h
  exact h
section VOI
variable {n k m d N : Nat} {x : Int32} {tr : List Int32} {s : Sg} {P : Int32 → Sg → Prop}
theorem c_rat0 {f : Nat} (hf : f = 0 ∨ f = 2 ∨ f = 3 ∨ f = 5) (hd : d ≤ 30) (c : VC s n k m tr) (hl : tr.length < 30) (h : ∀ t, VC t n k m (tr ++ [10]) → fr2 s t 65 → P (x + nI n) t) : wGSpeak (N + 1) 0 [0, nI f, x, nI d] s P := by
  refine c_say (v := 0) (b := 10) ?_ (by omega) (by omega) hd c hl (fun t ht hft => sp_10 ht (h t ht hft))
  rcases hf with rfl | rfl | rfl | rfl <;> decide +kernel
theorem c_rat1 (hd : d ≤ 29) (c : VC s n k m tr) (hl : tr.length < 29) (h : ∀ t, VC t n k m (tr ++ [20, 10]) → fr2 s t 65 → P (x + nI n - 4) t) : wGSpeak (N + 2) 0 [0, nI 1, x, nI d] s P :=
  c_say (v := 0) (f := 1) (b := 20) (by decide +kernel) (by omega) (by omega) (by omega) c (by omega) (fun t ht hft => sp_20 ht (c_rat0 (f := 0) (by omega) (by omega) ht (by simp; omega) (fun t2 ht2 hf2 => h t2 (VC_ap ht2) (hft.trans hf2))))
theorem c_rat {f : Nat} (hf : f ≤ 6) (hd : d ≤ 28) (c : VC s n k m tr) (hl : tr.length < 28) (h : ∀ t, VC t n k m (tr ++ raB f) → fr2 s t 65 → P (raV f n x) t) : wGSpeak (N + 3) 0 [0, nI f, x, nI d] s P := by
  rcases k7 hf with rfl | rfl | rfl | rfl | rfl | rfl | rfl
  · exact c_rat0 (by omega) (by omega) c (by omega) h
  · exact c_rat1 (by omega) c (by omega) h
  · exact c_rat0 (by omega) (by omega) c (by omega) h
  · exact c_rat0 (by omega) (by omega) c (by omega) h
  · exact c_say (v := 0) (b := 50) (by decide +kernel) (by omega) (by omega) (by omega) c (by omega) (fun t ht hft => sp_50 ht (c_rat1 (by omega) ht (by simp; omega) (fun t2 ht2 hf2 => h t2 (VC_ap ht2) (hft.trans hf2))))
  · exact c_rat0 (by omega) (by omega) c (by omega) h
  · exact c_say (v := 0) (b := 70) (by decide +kernel) (by omega) (by omega) (by omega) c (by omega) (fun t ht hft => sp_70 ht (h t ht hft))
theorem c_rus0 {f : Nat} (hk : k ≤ 6) (hf : f = 0 ∨ f = 1 ∨ f = 3 ∨ f = 4) (hd : d ≤ 27) (c : VC s n k m tr) (hl : tr.length < 27) (h : ∀ t, VC t n k m (tr ++ 11 :: raB k) → fr2 s t 65 → P (raV k n x * 2) t) : wGSpeak (N + 4) 0 [1, nI f, x, nI d] s P := by
  refine c_say (v := 1) (b := 11) ?_ (by omega) (by omega) (by omega) c (by omega) (fun t ht hft => sp_11 ht (c_rat hk (by omega) ht (by simp; omega) (fun t2 ht2 hf2 => h t2 (VC_ap ht2) (hft.trans hf2))))
  rcases hf with rfl | rfl | rfl | rfl <;> decide +kernel
theorem c_rus2 (hk : k ≤ 6) (hd : d ≤ 26) (c : VC s n k m tr) (hl : tr.length < 26) (h : ∀ t, VC t n k m (tr ++ 30 :: 11 :: raB k) → fr2 s t 65 → P (0 - raV k n x * 2) t) : wGSpeak (N + 5) 0 [1, nI 2, x, nI d] s P :=
  c_say (v := 1) (f := 2) (b := 30) (by decide +kernel) (by omega) (by omega) (by omega) c (by omega) (fun t ht hft => sp_30 ht (c_rus0 (f := 0) hk (by omega) (by omega) ht (by simp; omega) (fun t2 ht2 hf2 => h t2 (VC_ap ht2) (hft.trans hf2))))
theorem c_rus (hk : k ≤ 6) (hd : d ≤ 25) (c : VC s n k m tr) (hl : tr.length < 25) (h : ∀ t, VC t n k m (tr ++ ruB k) → fr2 s t 65 → P (ruV k n m x) t) : wGSpeak (N + 6) 0 [1, nI k, x, nI d] s P := by
  rcases k7 hk with rfl | rfl | rfl | rfl | rfl | rfl | rfl
  · exact c_rus0 (by omega) (by omega) (by omega) c (by omega) h
  · exact c_rus0 (by omega) (by omega) (by omega) c (by omega) h
  · exact c_rus2 (by omega) (by omega) c (by omega) h
  · exact c_rus0 (by omega) (by omega) (by omega) c (by omega) h
  · exact c_rus0 (by omega) (by omega) (by omega) c (by omega) h
  · exact c_say (v := 1) (b := 60) (by decide +kernel) (by omega) (by omega) (by omega) c (by omega) (fun t ht hft => sp_60 ht (c_rus2 (by omega) (by omega) ht (by simp; omega) (fun t2 ht2 hf2 => h t2 (VC_ap ht2) (hft.trans hf2))))
  · refine c_say (v := 1) (b := 71) (by decide +kernel) (by omega) (by omega) (by omega) c (by omega) (fun t ht hft => sp_71 ht (c_rus0 (f := 0) (by omega) (by omega) (by omega) ht (by simp; omega) (fun t2 ht2 hf2 => ?_)))
    rw [ht2.2.2.1]
    exact h t2 (VC_ap ht2) (hft.trans hf2)
theorem c_rin0 {f : Nat} (hk : k ≤ 6) (hf : f = 0 ∨ f = 1 ∨ f = 2 ∨ f = 5 ∨ f = 6) (hd : d ≤ 24) (c : VC s n k m tr) (hl : tr.length < 24) (h : ∀ t, VC t n k m (tr ++ 12 :: ruB k) → fr2 s t 65 → P (ruV k n m x - nI m) t) : wGSpeak (N + 7) 0 [2, nI f, x, nI d] s P := by
  refine c_say (v := 2) (b := 12) ?_ (by omega) (by omega) (by omega) c (by omega) (fun t ht hft => sp_12 ht (c_rus hk (by omega) ht (by simp; omega) (fun t2 ht2 hf2 => ?_)))
  · rcases hf with rfl | rfl | rfl | rfl | rfl <;> decide +kernel
  · rw [ht2.2.2.1]
    exact h t2 (VC_ap ht2) (hft.trans hf2)
theorem c_rin (hk : k ≤ 6) (hd : d ≤ 23) (c : VC s n k m tr) (hl : tr.length < 23) (h : ∀ t, VC t n k m (tr ++ riB k) → fr2 s t 65 → P (riV k n m x) t) : wGSpeak (N + 8) 0 [2, nI k, x, nI d] s P := by
  rcases k7 hk with rfl | rfl | rfl | rfl | rfl | rfl | rfl
  · exact c_rin0 (by omega) (by omega) (by omega) c (by omega) h
  · exact c_rin0 (by omega) (by omega) (by omega) c (by omega) h
  · exact c_rin0 (by omega) (by omega) (by omega) c (by omega) h
  · exact c_say (v := 2) (b := 40) (by decide +kernel) (by omega) (by omega) (by omega) c (by omega) (fun t ht hft => sp_40 ht (c_rin0 (f := 0) (by omega) (by omega) (by omega) ht (by simp; omega) (fun t2 ht2 hf2 => h t2 (VC_ap ht2) (hft.trans hf2))))
  · refine c_say (v := 2) (b := 51) (by decide +kernel) (by omega) (by omega) (by omega) c (by omega) (fun t ht hft => sp_51 ht (c_rin0 (f := 1) (by omega) (by omega) (by omega) ht (by simp; omega) (fun t2 ht2 hf2 => ?_)))
    rw [ht2.1]
    exact h t2 (VC_ap ht2) (hft.trans hf2)
  · exact c_rin0 (by omega) (by omega) (by omega) c (by omega) h
  · exact c_rin0 (by omega) (by omega) (by omega) c (by omega) h
theorem c_mute {v f d N : Nat} {x : Int32} {s : Sg} {P : Int32 → Sg → Prop} (hv : v < 4) (hf : f < 7) (hd : d ≤ 30) (c : s 64 1 = 1) (h : P 0 s) : wGSpeak (N + 1) 0 [nI v, nI f, x, nI d] s P := by
  show wVoices_speak (wGSpeak N) (nI v) (nI f) x (nI d) s P
  unfold wVoices_speak
  refine p_body hv hf (iF (nI_nlt (a := 30) (b := d) hd (by omega)) (jF ?_ h))
  rw [c]
  decide
def vF (s t : Sg) : Prop := ∀ a, a ≠ 64 → a ≠ 65 → a ≠ 66 → t a = s a
theorem vF_of {s t : Sg} (h : fr2 s t 65) : vF s t := fun a _ h2 h3 => h a h2 h3
theorem c_par0 {f : Nat} (hf : f = 0 ∨ f = 2 ∨ f = 3 ∨ f = 5 ∨ f = 6) (hd : d ≤ 30) (c : VC s n k m tr) (hl : tr.length < 30) (h1 : nI m - nI n = 0 → ∀ t, RW t 65 (tr ++ [13]) → t 64 3 = nI k → t 64 1 = 1 → vF s t → P 0 t) (h0 : ¬ nI m - nI n = 0 → ∀ t, VC t n k m (tr ++ [13]) → fr2 s t 65 → P (x / (nI m - nI n)) t) : wGSpeak (N + 1) 0 [3, nI f, x, nI d] s P := by
  refine c_say (v := 3) (b := 13) ?_ (by omega) (by omega) hd c hl (fun t ht hft => sp_13 ht ?_)
  · rcases hf with rfl | rfl | rfl | rfl | rfl <;> decide +kernel
  · unfold wVoices_partedBy
    refine ⟨fun q => ⟨q, h0 q t ht hft⟩, fun q s1 e1 => h1 q s1 ?_ ?_ ?_ (fun a x y z => ?_)⟩
    · subst e1
      show IL (u2 t 64 1 1 65 1) (u2 t 64 1 1 66) (tr ++ [13])
      rw [u2_other (by omega), u2_other (by omega)]
      exact ht.2.2.2.2
    · subst e1
      rw [u2_ne (by omega)]
      exact ht.2.1
    · subst e1
      exact u2_same
    · subst e1
      rw [u2_other x]
      exact hft a y z
theorem c_par (hk : k ≤ 6) (hd : d ≤ 23) (c : VC s n k m tr) (hl : tr.length < 23) (h1 : nI m - nI n = 0 → ∀ t r, RW t 65 (tr ++ paB k n m) → t 64 1 = 1 → vF s t → P r t) (h0 : ¬ nI m - nI n = 0 → ∀ t, VC t n k m (tr ++ paB k n m) → fr2 s t 65 → P (paV k n m x) t) : wGSpeak (N + 8) 0 [3, nI k, x, nI d] s P := by
  have plain : ∀ f : Nat, (f = 0 ∨ f = 2 ∨ f = 3 ∨ f = 5 ∨ f = 6) → f = k → wGSpeak (N + 8) 0 [3, nI f, x, nI d] s P := by
    intro f hf e
    have e1 : paB k n m = [13] := by unfold paB; rw [if_neg (by omega)]
    have e2 : paV k n m x = x / (nI m - nI n) := by unfold paV; rw [if_neg (by omega)]
    rw [e1] at h1 h0
    rw [e2] at h0
    exact c_par0 hf (by omega) c (by omega) (fun q t a _ b d => h1 q t 0 a b d) h0
  have two : ∀ f : Nat, (f = 1 ∨ f = 4) → f = k → wGSpeak (N + 8) 0 [3, nI f, x, nI d] s P := by
    intro f hf e
    have e2 : paV k n m x = x / (nI m - nI n) + ruV k n m 1 := by unfold paV; rw [if_pos (by omega)]
    rw [e2] at h0
    refine c_say (v := 3) (b := 21) (by rcases hf with rfl | rfl <;> decide +kernel) (by omega) (by omega) (by omega) c (by omega) (fun t ht hft => sp_21 ht (c_par0 (f := 0) (by omega) (by omega) ht (by simp; omega) (fun q t2 r2 a2 b2 f2 => ?_) (fun q t2 ht2 hf2 => ?_)))
    · have e1 : paB k n m = [21, 13] := by unfold paB; rw [if_pos (by omega), if_pos q]
      rw [e1] at h1
      rw [a2]
      refine c_mute (v := 1) (by omega) (by omega) (by omega) b2 (h1 q t2 _ (RW_ap r2) b2 (fun a x y z => (f2 a x y z).trans (hft a y z)))
    · have e1 : paB k n m = 21 :: 13 :: ruB k := by unfold paB; rw [if_pos (by omega), if_neg q]
      rw [e1] at h0
      rw [ht2.2.1]
      exact c_rus hk (by omega) ht2 (by simp; omega) (fun t3 ht3 hf3 => h0 q t3 (VC_ap (VC_ap ht3)) ((hft.trans hf2).trans hf3))
  rcases k7 hk with e | e | e | e | e | e | e
  · exact plain k (by omega) rfl
  · exact two k (by omega) rfl
  · exact plain k (by omega) rfl
  · exact plain k (by omega) rfl
  · exact two k (by omega) rfl
  · exact plain k (by omega) rfl
  · exact plain k (by omega) rfl
end VOI
