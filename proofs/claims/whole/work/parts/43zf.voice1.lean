-- PURE: voice, the class
/-- what a BODY does, once it has begun -/
def spB (rc : Nat → List Int32 → Sg → (Int32 → Sg → Prop) → Prop) (b : Int32) (a3 : Int32) (a4 : Int32) (s2 : Sg) (P : Int32 → Sg → Prop) : Prop := (vp_in (((b / 10) - 1)) 7 ∧ ((b = 10 → P ((a3 + (s2 64 2))) s2) ∧ (¬ b = 10 → ((b = 11 → (rc 0 [0, ((s2 64 3)), a3, ((a4 + 1))] s2 (fun (r2 : Int32) (s3 : Sg) => P ((r2 * 2)) s3))) ∧ (¬ b = 11 → ((b = 12 → (rc 0 [1, ((s2 64 3)), a3, ((a4 + 1))] s2 (fun (r2 : Int32) (s3 : Sg) => P ((r2 - (s3 64 4))) s3))) ∧ (¬ b = 12 → ((b = 13 → (wVoices_partedBy a3 (((s2 64 4) - (s2 64 2))) s2 (fun (r2 : Int32) (s3 : Sg) => P r2 s3))) ∧ (¬ b = 13 → ((b = 20 → (rc 0 [0, ((kaF (ix (((b / 10) - 1))))), a3, ((a4 + 1))] s2 (fun (r2 : Int32) (s3 : Sg) => P ((r2 - 4)) s3))) ∧ (¬ b = 20 → ((b = 21 → (rc 0 [3, ((kaF (ix (((b / 10) - 1))))), a3, ((a4 + 1))] s2 (fun (r2 : Int32) (s3 : Sg) => (rc 0 [1, ((s3 64 3)), 1, ((a4 + 1))] s3 (fun (r3 : Int32) (s4 : Sg) => P ((r2 + r3)) s4))))) ∧ (¬ b = 21 → ((b = 30 → (rc 0 [1, ((kaF (ix (((b / 10) - 1))))), a3, ((a4 + 1))] s2 (fun (r2 : Int32) (s3 : Sg) => P ((0 - r2)) s3))) ∧ (¬ b = 30 → ((b = 40 → (rc 0 [2, ((kaF (ix (((b / 10) - 1))))), ((a3 / 2)), ((a4 + 1))] s2 (fun (r2 : Int32) (s3 : Sg) => P r2 s3))) ∧ (¬ b = 40 → ((b = 50 → (rc 0 [0, ((kaF (ix (((b / 10) - 1))))), a3, ((a4 + 1))] s2 (fun (r2 : Int32) (s3 : Sg) => P ((r2 * 3)) s3))) ∧ (¬ b = 50 → ((b = 51 → (rc 0 [2, ((kaF (ix (((b / 10) - 1))))), a3, ((a4 + 1))] s2 (fun (r2 : Int32) (s3 : Sg) => P ((r2 ^^^ (s3 64 2))) s3))) ∧ (¬ b = 51 → ((b = 60 → (rc 0 [1, ((kaF (ix (((b / 10) - 1))))), ((a3 + 1)), ((a4 + 1))] s2 (fun (r2 : Int32) (s3 : Sg) => P r2 s3))) ∧ (¬ b = 60 → ((b = 70 → P 9 s2) ∧ (¬ b = 70 → ((b = 71 → (rc 0 [1, ((kaF (ix (((b / 10) - 1))))), a3, ((a4 + 1))] s2 (fun (r2 : Int32) (s3 : Sg) => P ((r2 + (s3 64 4))) s3))) ∧ (¬ b = 71 → P 0 s2)))))))))))))))))))))))))))
/-- the body of a voice, from a kind on -/
theorem b_hit {v f c n : Nat} {b : Int32} {s : Sg} {P : Int32 → Sg → Prop} {K : Sg → Prop} (hc : c < 7) (hf : f < 7) (hv : v < 4) (hb : bdF (f * 4 + v) = b) (h0 : ¬ b = 0) (h : P b s) : wVoices_bodyFrom_4 (nI v) P K (n + 1) (nI f) (nI c) s := by
  rw [wVoices_bodyFrom_4, show nI f * 4 + nI v = nI (f * 4 + v) by rw [show (4 : Int32) = nI 4 from rfl, pk_mul, nI_add], ixn (by omega), hb]
  exact iF (nI_ge (a := c) (b := 7) hc (by omega)) (iF (nI_pos (by omega)) ⟨vp_in_nI (by omega) (by omega), iF h0 h⟩)
theorem b_go {v f c n g : Nat} {s : Sg} {P : Int32 → Sg → Prop} {K : Sg → Prop} (hc : c < 7) (hf : f < 7) (hv : v < 4) (hb : bdF (f * 4 + v) = 0) (hg : kaF f = nI g) (h : wVoices_bodyFrom_4 (nI v) P K n (nI g) (nI (c + 1)) s) : wVoices_bodyFrom_4 (nI v) P K (n + 1) (nI f) (nI c) s := by
  rw [wVoices_bodyFrom_4, show nI f * 4 + nI v = nI (f * 4 + v) by rw [show (4 : Int32) = nI 4 from rfl, pk_mul, nI_add], ixn (by omega), hb, ixn (by omega), hg, nI_1]
  exact iF (nI_ge (a := c) (b := 7) hc (by omega)) (iF (nI_pos (by omega)) ⟨vp_in_nI (by omega) (by omega), iT rfl ⟨vp_in_nI (by omega) (by omega), h⟩⟩)
def bdy (v f : Nat) : Int32 := ([10, 11, 12, 13, 20, 11, 12, 21, 10, 30, 12, 13, 10, 11, 40, 13, 50, 11, 51, 21, 10, 60, 12, 13, 70, 71, 12, 13] : List Int32).getD (f * 4 + v) 0
theorem p_body {v f : Nat} {s : Sg} {P : Int32 → Sg → Prop} (hv : v < 4) (hf : f < 7) (h : P (bdy v f) s) : wVoices_bodyFrom (nI v) (nI f) s P := by
  unfold wVoices_bodyFrom
  refine ⟨3, ?_⟩
  rcases (show f = 0 ∨ f = 1 ∨ f = 2 ∨ f = 3 ∨ f = 4 ∨ f = 5 ∨ f = 6 by omega) with rfl | rfl | rfl | rfl | rfl | rfl | rfl <;> rcases (show v = 0 ∨ v = 1 ∨ v = 2 ∨ v = 3 by omega) with rfl | rfl | rfl | rfl
  · exact b_hit (b := 10) (f := 0) (v := 0) (c := 0) (by omega) (by omega) (by omega) (by decide +kernel) (by decide) h
  · exact b_hit (b := 11) (f := 0) (v := 1) (c := 0) (by omega) (by omega) (by omega) (by decide +kernel) (by decide) h
  · exact b_hit (b := 12) (f := 0) (v := 2) (c := 0) (by omega) (by omega) (by omega) (by decide +kernel) (by decide) h
  · exact b_hit (b := 13) (f := 0) (v := 3) (c := 0) (by omega) (by omega) (by omega) (by decide +kernel) (by decide) h
  · exact b_hit (b := 20) (f := 1) (v := 0) (c := 0) (by omega) (by omega) (by omega) (by decide +kernel) (by decide) h
  · exact b_go (f := 1) (g := 0) (c := 0) (v := 1) (by omega) (by omega) (by omega) (by decide +kernel) (by decide +kernel) (b_hit (b := 11) (f := 0) (v := 1) (c := 1) (by omega) (by omega) (by omega) (by decide +kernel) (by decide) h)
  · exact b_go (f := 1) (g := 0) (c := 0) (v := 2) (by omega) (by omega) (by omega) (by decide +kernel) (by decide +kernel) (b_hit (b := 12) (f := 0) (v := 2) (c := 1) (by omega) (by omega) (by omega) (by decide +kernel) (by decide) h)
  · exact b_hit (b := 21) (f := 1) (v := 3) (c := 0) (by omega) (by omega) (by omega) (by decide +kernel) (by decide) h
  · exact b_go (f := 2) (g := 0) (c := 0) (v := 0) (by omega) (by omega) (by omega) (by decide +kernel) (by decide +kernel) (b_hit (b := 10) (f := 0) (v := 0) (c := 1) (by omega) (by omega) (by omega) (by decide +kernel) (by decide) h)
  · exact b_hit (b := 30) (f := 2) (v := 1) (c := 0) (by omega) (by omega) (by omega) (by decide +kernel) (by decide) h
  · exact b_go (f := 2) (g := 0) (c := 0) (v := 2) (by omega) (by omega) (by omega) (by decide +kernel) (by decide +kernel) (b_hit (b := 12) (f := 0) (v := 2) (c := 1) (by omega) (by omega) (by omega) (by decide +kernel) (by decide) h)
  · exact b_go (f := 2) (g := 0) (c := 0) (v := 3) (by omega) (by omega) (by omega) (by decide +kernel) (by decide +kernel) (b_hit (b := 13) (f := 0) (v := 3) (c := 1) (by omega) (by omega) (by omega) (by decide +kernel) (by decide) h)
  · exact b_go (f := 3) (g := 0) (c := 0) (v := 0) (by omega) (by omega) (by omega) (by decide +kernel) (by decide +kernel) (b_hit (b := 10) (f := 0) (v := 0) (c := 1) (by omega) (by omega) (by omega) (by decide +kernel) (by decide) h)
  · exact b_go (f := 3) (g := 0) (c := 0) (v := 1) (by omega) (by omega) (by omega) (by decide +kernel) (by decide +kernel) (b_hit (b := 11) (f := 0) (v := 1) (c := 1) (by omega) (by omega) (by omega) (by decide +kernel) (by decide) h)
  · exact b_hit (b := 40) (f := 3) (v := 2) (c := 0) (by omega) (by omega) (by omega) (by decide +kernel) (by decide) h
  · exact b_go (f := 3) (g := 0) (c := 0) (v := 3) (by omega) (by omega) (by omega) (by decide +kernel) (by decide +kernel) (b_hit (b := 13) (f := 0) (v := 3) (c := 1) (by omega) (by omega) (by omega) (by decide +kernel) (by decide) h)
  · exact b_hit (b := 50) (f := 4) (v := 0) (c := 0) (by omega) (by omega) (by omega) (by decide +kernel) (by decide) h
  · exact b_go (f := 4) (g := 1) (c := 0) (v := 1) (by omega) (by omega) (by omega) (by decide +kernel) (by decide +kernel) (b_go (f := 1) (g := 0) (c := 1) (v := 1) (by omega) (by omega) (by omega) (by decide +kernel) (by decide +kernel) (b_hit (b := 11) (f := 0) (v := 1) (c := 2) (by omega) (by omega) (by omega) (by decide +kernel) (by decide) h))
  · exact b_hit (b := 51) (f := 4) (v := 2) (c := 0) (by omega) (by omega) (by omega) (by decide +kernel) (by decide) h
  · exact b_go (f := 4) (g := 1) (c := 0) (v := 3) (by omega) (by omega) (by omega) (by decide +kernel) (by decide +kernel) (b_hit (b := 21) (f := 1) (v := 3) (c := 1) (by omega) (by omega) (by omega) (by decide +kernel) (by decide) h)
  · exact b_go (f := 5) (g := 2) (c := 0) (v := 0) (by omega) (by omega) (by omega) (by decide +kernel) (by decide +kernel) (b_go (f := 2) (g := 0) (c := 1) (v := 0) (by omega) (by omega) (by omega) (by decide +kernel) (by decide +kernel) (b_hit (b := 10) (f := 0) (v := 0) (c := 2) (by omega) (by omega) (by omega) (by decide +kernel) (by decide) h))
  · exact b_hit (b := 60) (f := 5) (v := 1) (c := 0) (by omega) (by omega) (by omega) (by decide +kernel) (by decide) h
  · exact b_go (f := 5) (g := 2) (c := 0) (v := 2) (by omega) (by omega) (by omega) (by decide +kernel) (by decide +kernel) (b_go (f := 2) (g := 0) (c := 1) (v := 2) (by omega) (by omega) (by omega) (by decide +kernel) (by decide +kernel) (b_hit (b := 12) (f := 0) (v := 2) (c := 2) (by omega) (by omega) (by omega) (by decide +kernel) (by decide) h))
  · exact b_go (f := 5) (g := 2) (c := 0) (v := 3) (by omega) (by omega) (by omega) (by decide +kernel) (by decide +kernel) (b_go (f := 2) (g := 0) (c := 1) (v := 3) (by omega) (by omega) (by omega) (by decide +kernel) (by decide +kernel) (b_hit (b := 13) (f := 0) (v := 3) (c := 2) (by omega) (by omega) (by omega) (by decide +kernel) (by decide) h))
  · exact b_hit (b := 70) (f := 6) (v := 0) (c := 0) (by omega) (by omega) (by omega) (by decide +kernel) (by decide) h
  · exact b_hit (b := 71) (f := 6) (v := 1) (c := 0) (by omega) (by omega) (by omega) (by decide +kernel) (by decide) h
  · exact b_go (f := 6) (g := 0) (c := 0) (v := 2) (by omega) (by omega) (by omega) (by decide +kernel) (by decide +kernel) (b_hit (b := 12) (f := 0) (v := 2) (c := 1) (by omega) (by omega) (by omega) (by decide +kernel) (by decide) h)
  · exact b_go (f := 6) (g := 0) (c := 0) (v := 3) (by omega) (by omega) (by omega) (by decide +kernel) (by decide +kernel) (b_hit (b := 13) (f := 0) (v := 3) (c := 1) (by omega) (by omega) (by omega) (by decide +kernel) (by decide) h)
/-- the voices' cells: whose it is, not parted, the trace -/
def VC (s : Sg) (n k m : Nat) (tr : List Int32) : Prop := s 64 2 = nI n ∧ s 64 3 = nI k ∧ s 64 4 = nI m ∧ s 64 1 = 0 ∧ RW s 65 tr
theorem cp65 : cap 65 = 30 := by decide +kernel
theorem VC_tr {s t : Sg} {n k m : Nat} {tr tr2 : List Int32} (h : VC s n k m tr) (hr : RW t 65 tr2) (hf : fr2 s t 65) : VC t n k m tr2 := by
  obtain ⟨h1, h2, h3, h4, -⟩ := h
  refine ⟨?_, ?_, ?_, ?_, hr⟩ <;> rw [hf 64 (by omega) (by omega)] <;> assumption
theorem bdy_ne : ∀ v : Nat, v < 4 → ∀ f : Nat, f < 7 → ¬ bdy v f = 0 ∧ vp_in ((bdy v f / 10) - 1) 7 := by
  unfold vp_in
  decide +kernel
theorem c_say {n k m v f d N : Nat} {b x : Int32} {tr : List Int32} {s : Sg} {P : Int32 → Sg → Prop} (hb : bdy v f = b) (hv : v < 4) (hf : f < 7) (hd : d ≤ 30) (c : VC s n k m tr) (hl : tr.length < 30) (h : ∀ t, VC t n k m (tr ++ [b]) → fr2 s t 65 → spB (wGSpeak N) b x (nI d) t P) : wGSpeak (N + 1) 0 [nI v, nI f, x, nI d] s P := by
  subst hb
  show wVoices_speak (wGSpeak N) (nI v) (nI f) x (nI d) s P
  unfold wVoices_speak
  refine p_body hv hf (iF (nI_nlt (a := 30) (b := d) hd (by omega)) (jT c.2.2.2.1 (jF (bdy_ne v hv f hf).1 (p_add c.2.2.2.2 (by rw [cp65]; exact hl) (by rw [cp65]; omega) (fun t ht hft => ?_)))))
  exact h t (VC_tr c ht hft) hft
theorem sp_10 {rc : Nat → List Int32 → Sg → (Int32 → Sg → Prop) → Prop} {n k m d : Nat} {a3 : Int32} {tr : List Int32} {s2 : Sg} {P : Int32 → Sg → Prop} (c : VC s2 n k m tr) (h : P ((a3 + (nI n))) s2) : spB rc 10 a3 (nI d) s2 P := by
  unfold spB
  rw [nI_1, c.1, c.2.1, c.2.2.1]
  exact ⟨by unfold vp_in; decide +kernel, iT rfl h⟩
theorem sp_11 {rc : Nat → List Int32 → Sg → (Int32 → Sg → Prop) → Prop} {n k m d : Nat} {a3 : Int32} {tr : List Int32} {s2 : Sg} {P : Int32 → Sg → Prop} (c : VC s2 n k m tr) (h : (rc 0 [0, (nI k), a3, (nI (d + 1))] s2 (fun (r2 : Int32) (s3 : Sg) => P ((r2 * 2)) s3))) : spB rc 11 a3 (nI d) s2 P := by
  unfold spB
  rw [nI_1, c.1, c.2.1, c.2.2.1]
  exact ⟨by unfold vp_in; decide +kernel, iF (by decide) (iT rfl h)⟩
theorem sp_12 {rc : Nat → List Int32 → Sg → (Int32 → Sg → Prop) → Prop} {n k m d : Nat} {a3 : Int32} {tr : List Int32} {s2 : Sg} {P : Int32 → Sg → Prop} (c : VC s2 n k m tr) (h : (rc 0 [1, (nI k), a3, (nI (d + 1))] s2 (fun (r2 : Int32) (s3 : Sg) => P ((r2 - (s3 64 4))) s3))) : spB rc 12 a3 (nI d) s2 P := by
  unfold spB
  rw [nI_1, c.1, c.2.1, c.2.2.1]
  exact ⟨by unfold vp_in; decide +kernel, iF (by decide) (iF (by decide) (iT rfl h))⟩
theorem sp_13 {rc : Nat → List Int32 → Sg → (Int32 → Sg → Prop) → Prop} {n k m d : Nat} {a3 : Int32} {tr : List Int32} {s2 : Sg} {P : Int32 → Sg → Prop} (c : VC s2 n k m tr) (h : (wVoices_partedBy a3 (((nI m) - (nI n))) s2 (fun (r2 : Int32) (s3 : Sg) => P r2 s3))) : spB rc 13 a3 (nI d) s2 P := by
  unfold spB
  rw [nI_1, c.1, c.2.1, c.2.2.1]
  exact ⟨by unfold vp_in; decide +kernel, iF (by decide) (iF (by decide) (iF (by decide) (iT rfl h)))⟩
theorem sp_20 {rc : Nat → List Int32 → Sg → (Int32 → Sg → Prop) → Prop} {n k m d : Nat} {a3 : Int32} {tr : List Int32} {s2 : Sg} {P : Int32 → Sg → Prop} (c : VC s2 n k m tr) (h : (rc 0 [0, (nI 0), a3, (nI (d + 1))] s2 (fun (r2 : Int32) (s3 : Sg) => P ((r2 - 4)) s3))) : spB rc 20 a3 (nI d) s2 P := by
  unfold spB
  rw [nI_1, c.1, c.2.1, c.2.2.1]
  rw [show kaF (ix (((20 : Int32) / 10) - 1)) = nI 0 by decide +kernel]
  exact ⟨by unfold vp_in; decide +kernel, iF (by decide) (iF (by decide) (iF (by decide) (iF (by decide) (iT rfl h))))⟩
theorem sp_21 {rc : Nat → List Int32 → Sg → (Int32 → Sg → Prop) → Prop} {n k m d : Nat} {a3 : Int32} {tr : List Int32} {s2 : Sg} {P : Int32 → Sg → Prop} (c : VC s2 n k m tr) (h : (rc 0 [3, (nI 0), a3, (nI (d + 1))] s2 (fun (r2 : Int32) (s3 : Sg) => (rc 0 [1, ((s3 64 3)), 1, (nI (d + 1))] s3 (fun (r3 : Int32) (s4 : Sg) => P ((r2 + r3)) s4))))) : spB rc 21 a3 (nI d) s2 P := by
  unfold spB
  rw [nI_1, c.1, c.2.1, c.2.2.1]
  rw [show kaF (ix (((21 : Int32) / 10) - 1)) = nI 0 by decide +kernel]
  exact ⟨by unfold vp_in; decide +kernel, iF (by decide) (iF (by decide) (iF (by decide) (iF (by decide) (iF (by decide) (iT rfl h)))))⟩
theorem sp_30 {rc : Nat → List Int32 → Sg → (Int32 → Sg → Prop) → Prop} {n k m d : Nat} {a3 : Int32} {tr : List Int32} {s2 : Sg} {P : Int32 → Sg → Prop} (c : VC s2 n k m tr) (h : (rc 0 [1, (nI 0), a3, (nI (d + 1))] s2 (fun (r2 : Int32) (s3 : Sg) => P ((0 - r2)) s3))) : spB rc 30 a3 (nI d) s2 P := by
  unfold spB
  rw [nI_1, c.1, c.2.1, c.2.2.1]
  rw [show kaF (ix (((30 : Int32) / 10) - 1)) = nI 0 by decide +kernel]
  exact ⟨by unfold vp_in; decide +kernel, iF (by decide) (iF (by decide) (iF (by decide) (iF (by decide) (iF (by decide) (iF (by decide) (iT rfl h))))))⟩
theorem sp_40 {rc : Nat → List Int32 → Sg → (Int32 → Sg → Prop) → Prop} {n k m d : Nat} {a3 : Int32} {tr : List Int32} {s2 : Sg} {P : Int32 → Sg → Prop} (c : VC s2 n k m tr) (h : (rc 0 [2, (nI 0), ((a3 / 2)), (nI (d + 1))] s2 (fun (r2 : Int32) (s3 : Sg) => P r2 s3))) : spB rc 40 a3 (nI d) s2 P := by
  unfold spB
  rw [nI_1, c.1, c.2.1, c.2.2.1]
  rw [show kaF (ix (((40 : Int32) / 10) - 1)) = nI 0 by decide +kernel]
  exact ⟨by unfold vp_in; decide +kernel, iF (by decide) (iF (by decide) (iF (by decide) (iF (by decide) (iF (by decide) (iF (by decide) (iF (by decide) (iT rfl h)))))))⟩
theorem sp_50 {rc : Nat → List Int32 → Sg → (Int32 → Sg → Prop) → Prop} {n k m d : Nat} {a3 : Int32} {tr : List Int32} {s2 : Sg} {P : Int32 → Sg → Prop} (c : VC s2 n k m tr) (h : (rc 0 [0, (nI 1), a3, (nI (d + 1))] s2 (fun (r2 : Int32) (s3 : Sg) => P ((r2 * 3)) s3))) : spB rc 50 a3 (nI d) s2 P := by
  unfold spB
  rw [nI_1, c.1, c.2.1, c.2.2.1]
  rw [show kaF (ix (((50 : Int32) / 10) - 1)) = nI 1 by decide +kernel]
  exact ⟨by unfold vp_in; decide +kernel, iF (by decide) (iF (by decide) (iF (by decide) (iF (by decide) (iF (by decide) (iF (by decide) (iF (by decide) (iF (by decide) (iT rfl h))))))))⟩
theorem sp_51 {rc : Nat → List Int32 → Sg → (Int32 → Sg → Prop) → Prop} {n k m d : Nat} {a3 : Int32} {tr : List Int32} {s2 : Sg} {P : Int32 → Sg → Prop} (c : VC s2 n k m tr) (h : (rc 0 [2, (nI 1), a3, (nI (d + 1))] s2 (fun (r2 : Int32) (s3 : Sg) => P ((r2 ^^^ (s3 64 2))) s3))) : spB rc 51 a3 (nI d) s2 P := by
  unfold spB
  rw [nI_1, c.1, c.2.1, c.2.2.1]
  rw [show kaF (ix (((51 : Int32) / 10) - 1)) = nI 1 by decide +kernel]
  exact ⟨by unfold vp_in; decide +kernel, iF (by decide) (iF (by decide) (iF (by decide) (iF (by decide) (iF (by decide) (iF (by decide) (iF (by decide) (iF (by decide) (iF (by decide) (iT rfl h)))))))))⟩
theorem sp_60 {rc : Nat → List Int32 → Sg → (Int32 → Sg → Prop) → Prop} {n k m d : Nat} {a3 : Int32} {tr : List Int32} {s2 : Sg} {P : Int32 → Sg → Prop} (c : VC s2 n k m tr) (h : (rc 0 [1, (nI 2), ((a3 + 1)), (nI (d + 1))] s2 (fun (r2 : Int32) (s3 : Sg) => P r2 s3))) : spB rc 60 a3 (nI d) s2 P := by
  unfold spB
  rw [nI_1, c.1, c.2.1, c.2.2.1]
  rw [show kaF (ix (((60 : Int32) / 10) - 1)) = nI 2 by decide +kernel]
  exact ⟨by unfold vp_in; decide +kernel, iF (by decide) (iF (by decide) (iF (by decide) (iF (by decide) (iF (by decide) (iF (by decide) (iF (by decide) (iF (by decide) (iF (by decide) (iF (by decide) (iT rfl h))))))))))⟩
theorem sp_70 {rc : Nat → List Int32 → Sg → (Int32 → Sg → Prop) → Prop} {n k m d : Nat} {a3 : Int32} {tr : List Int32} {s2 : Sg} {P : Int32 → Sg → Prop} (c : VC s2 n k m tr) (h : P 9 s2) : spB rc 70 a3 (nI d) s2 P := by
  unfold spB
  rw [nI_1, c.1, c.2.1, c.2.2.1]
  exact ⟨by unfold vp_in; decide +kernel, iF (by decide) (iF (by decide) (iF (by decide) (iF (by decide) (iF (by decide) (iF (by decide) (iF (by decide) (iF (by decide) (iF (by decide) (iF (by decide) (iF (by decide) (iT rfl h)))))))))))⟩
theorem sp_71 {rc : Nat → List Int32 → Sg → (Int32 → Sg → Prop) → Prop} {n k m d : Nat} {a3 : Int32} {tr : List Int32} {s2 : Sg} {P : Int32 → Sg → Prop} (c : VC s2 n k m tr) (h : (rc 0 [1, (nI 0), a3, (nI (d + 1))] s2 (fun (r2 : Int32) (s3 : Sg) => P ((r2 + (s3 64 4))) s3))) : spB rc 71 a3 (nI d) s2 P := by
  unfold spB
  rw [nI_1, c.1, c.2.1, c.2.2.1]
  rw [show kaF (ix (((71 : Int32) / 10) - 1)) = nI 0 by decide +kernel]
  exact ⟨by unfold vp_in; decide +kernel, iF (by decide) (iF (by decide) (iF (by decide) (iF (by decide) (iF (by decide) (iF (by decide) (iF (by decide) (iF (by decide) (iF (by decide) (iF (by decide) (iF (by decide) (iF (by decide) (iT rfl h))))))))))))⟩
