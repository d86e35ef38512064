theorem eq_thing {a1 : Int32} {a2 : Int32} {a3 : Int32} {s t : Sg} (h : Rel s t) : wB_thing a1 a2 a3 s (fun r s => wM_thing a1 a2 a3 t (fun r2 t => r = r2 ∧ Rel s t)) := by
  sorry
theorem eq_thingIs {a1 : Int32} {a2 : Int32} {s t : Sg} (h : Rel s t) : wB_thingIs a1 a2 s (fun r s => wM_thingIs a1 a2 t (fun r2 t => r = r2 ∧ Rel s t)) := by
  sorry
theorem eq_become {a1 : Int32} {a2 : Int32} {s t : Sg} (h : Rel s t) : wB_become a1 a2 s (fun r s => wM_become a1 a2 t (fun r2 t => r = r2 ∧ Rel s t)) := by
  sorry
theorem eq_as {a1 : Int32} {a2 : Int32} {s t : Sg} (h : Rel s t) : wB_as a1 a2 s (fun r s => wM_as a1 a2 t (fun r2 t => r = r2 ∧ Rel s t)) := by
  sorry
theorem eq_weigh {a1 : Int32} {a2 : Int32} {s t : Sg} (h : Rel s t) : wB_weigh a1 a2 s (fun r s => wM_weigh a1 a2 t (fun r2 t => r = r2 ∧ Rel s t)) := by
  sorry
theorem eq_at {a1 : Int32} {s t : Sg} (h : Rel s t) : wB_at a1 s (fun r s => wM_at a1 t (fun r2 t => r = r2 ∧ Rel s t)) := by
  sorry
theorem eq_leave {a1 : Int32} {s t : Sg} (h : Rel s t) : wB_leave a1 s (fun r s => wM_leave a1 t (fun r2 t => r = r2 ∧ Rel s t)) := by
  sorry
theorem eq_stow {a1 : Int32} {s t : Sg} (h : Rel s t) : wB_stow a1 s (fun r s => wM_stow a1 t (fun r2 t => r = r2 ∧ Rel s t)) := by
  sorry
theorem eq_zip {a1 : Int32} {s t : Sg} (h : Rel s t) : wB_zip a1 s (fun r s => wM_zip a1 t (fun r2 t => r = r2 ∧ Rel s t)) := by
  sorry
theorem eq_feed {a1 : Int64} {a2 : Int32} {s t : Sg} (h : Rel s t) : wB_feed a1 a2 s (fun r s => wM_feed a1 a2 t (fun r2 t => r = r2 ∧ Rel s t)) := by
  sorry
theorem eq_text {a1 : Int32} {s t : Sg} (h : Rel s t) : wB_text a1 s (fun r s => wM_text a1 t (fun r2 t => r = r2 ∧ Rel s t)) := by
  sorry
theorem eq_untell {a1 : Int32} {s t : Sg} (h : Rel s t) : wB_untell a1 s (fun r s => wM_untell a1 t (fun r2 t => r = r2 ∧ Rel s t)) := by
  sorry
theorem eq_law {a1 : Int32} {a2 : Int32} {a3 : Int32} {a4 : Int32} {s t : Sg} (h : Rel s t) : wB_law a1 a2 a3 a4 s (fun r s => wM_law a1 a2 a3 a4 t (fun r2 t => r = r2 ∧ Rel s t)) := by
  sorry
theorem eq_seconds {a1 : Int32} {a2 : Int32} {s t : Sg} (h : Rel s t) : wB_seconds a1 a2 s (fun r s => wM_seconds a1 a2 t (fun r2 t => r = r2 ∧ Rel s t)) := by
  sorry
theorem eq_best {a1 : Int32} {a2 : Int32} {s t : Sg} (h : Rel s t) : wB_best a1 a2 s (fun r s => wM_best a1 a2 t (fun r2 t => r = r2 ∧ Rel s t)) := by
  sorry
theorem eq_takes {a1 : Int32} {a2 : Int32} {s t : Sg} (h : Rel s t) : wB_takes a1 a2 s (fun r s => wM_takes a1 a2 t (fun r2 t => r = r2 ∧ Rel s t)) := by
  sorry
theorem eq_walks {a1 : Int32} {s t : Sg} (h : Rel s t) : wB_walks a1 s (fun r s => wM_walks a1 t (fun r2 t => r = r2 ∧ Rel s t)) := by
  sorry
theorem eq_loose {a1 : Int32} {s t : Sg} (h : Rel s t) : wB_loose a1 s (fun r s => wM_loose a1 t (fun r2 t => r = r2 ∧ Rel s t)) := by
  sorry
theorem eq_seed {a1 : Int32} {s t : Sg} (h : Rel s t) : wB_seed a1 s (fun r s => wM_seed a1 t (fun r2 t => r = r2 ∧ Rel s t)) := by
  sorry
theorem eq_then {a1 : Int32} {a2 : Int32} {s t : Sg} (h : Rel s t) : wB_then a1 a2 s (fun r s => wM_then a1 a2 t (fun r2 t => r = r2 ∧ Rel s t)) := by
  sorry
theorem eq_settles {s t : Sg} (h : Rel s t) : wB_settles  s (fun r s => wM_settles  t (fun r2 t => r = r2 ∧ Rel s t)) := by
  sorry
theorem eq_pack {a1 : Int32} {a2 : Int32} {s t : Sg} (h : Rel s t) : wB_pack a1 a2 s (fun r s => wM_pack a1 a2 t (fun r2 t => r = r2 ∧ Rel s t)) := by
  sorry
theorem eq_out {a1 : Int32} {a2 : Int32} {a3 : Int32} {s t : Sg} (h : Rel s t) : wB_out a1 a2 a3 s (fun r s => wM_out a1 a2 a3 t (fun r2 t => r = r2 ∧ Rel s t)) := by
  sorry
theorem eq_odds {a1 : Int32} {a2 : Int32} {s t : Sg} (h : Rel s t) : wB_odds a1 a2 s (fun r s => wM_odds a1 a2 t (fun r2 t => r = r2 ∧ Rel s t)) := by
  sorry
theorem eq_fits {a1 : Int32} {s t : Sg} (h : Rel s t) : wB_fits a1 s (fun r s => wM_fits a1 t (fun r2 t => r = r2 ∧ Rel s t)) := by
  sorry
theorem eq_voice {a1 : Int32} {a2 : Int32} {a3 : Int32} {s t : Sg} (h : Rel s t) : wB_voice a1 a2 a3 s (fun r s => wM_voice a1 a2 a3 t (fun r2 t => r = r2 ∧ Rel s t)) := by
  sorry
theorem eq_body {a1 : Int32} {s t : Sg} (h : Rel s t) : wB_body a1 s (fun r s => wM_body a1 t (fun r2 t => r = r2 ∧ Rel s t)) := by
  sorry
theorem eq_sheet {a1 : Int32} {a2 : Int32} {a3 : Int32} {s t : Sg} (h : Rel s t) : wB_sheet a1 a2 a3 s (fun r s => wM_sheet a1 a2 a3 t (fun r2 t => r = r2 ∧ Rel s t)) := by
  sorry
theorem eq_put {a1 : Int32} {a2 : Int32} {a3 : Int32} {s t : Sg} (h : Rel s t) : wB_put a1 a2 a3 s (fun r s => wM_put a1 a2 a3 t (fun r2 t => r = r2 ∧ Rel s t)) := by
  sorry
theorem eq_move {a1 : Int32} {a2 : Int32} {a3 : Int32} {a4 : Int32} {a5 : Int32} {s t : Sg} (h : Rel s t) : wB_move a1 a2 a3 a4 a5 s (fun r s => wM_move a1 a2 a3 a4 a5 t (fun r2 t => r = r2 ∧ Rel s t)) := by
  sorry
theorem eq_weights {a1 : Int32} {s t : Sg} (h : Rel s t) : wB_weights a1 s (fun r s => wM_weights a1 t (fun r2 t => r = r2 ∧ Rel s t)) := by
  sorry
theorem eq_judge {a1 : Int32} {s t : Sg} (h : Rel s t) : wB_judge a1 s (fun r s => wM_judge a1 t (fun r2 t => r = r2 ∧ Rel s t)) := by
  sorry
theorem eq_image {s t : Sg} (h : Rel s t) : wB_image  s (fun r s => wM_image  t (fun r2 t => r = r2 ∧ Rel s t)) := by
  sorry
theorem eq_restore {s t : Sg} (h : Rel s t) : wB_restore  s (fun r s => wM_restore  t (fun r2 t => r = r2 ∧ Rel s t)) := by
  sorry
theorem eq_tell {a1 : Int32} {s t : Sg} (h : Rel s t) : wB_tell a1 s (fun r s => wM_tell a1 t (fun r2 t => r = r2 ∧ Rel s t)) := by
  sorry
theorem eq_check {s t : Sg} (h : Rel s t) : wB_check  s (fun r s => wM_check  t (fun r2 t => r = r2 ∧ Rel s t)) := by
  sorry
theorem eq_count {a1 : Int32} {s t : Sg} (h : Rel s t) : wB_count a1 s (fun r s => wM_count a1 t (fun r2 t => r = r2 ∧ Rel s t)) := by
  sorry
theorem eq_told {a1 : Int32} {s t : Sg} (h : Rel s t) : wB_told a1 s (fun r s => wM_told a1 t (fun r2 t => r = r2 ∧ Rel s t)) := by
  sorry
