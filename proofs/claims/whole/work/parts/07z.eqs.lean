/-! EQS: what is asked of class and reference, call by call (stub) -/
def z_Rel (M : z_M) : Prop := True
theorem eq_row {M : z_M} (hR : z_Rel M) (a1 : Int32) (a2 : Int32) (a3 : Int32) : ∃ (r : Int32) (M1 : z_M) (M2 : z_M), F_X6_row a1 a2 a3 M = some (r, M1) ∧ F_X7_row a1 a2 a3 M1 = some (r, M2) ∧ z_Rel M2 := sorry
theorem eq_set {M : z_M} (hR : z_Rel M) (a1 : Int32) (a2 : Int32) (a3 : Int32) : ∃ (r : Int32) (M1 : z_M) (M2 : z_M), F_X6_set a1 a2 a3 M = some (r, M1) ∧ F_X7_set a1 a2 a3 M1 = some (r, M2) ∧ z_Rel M2 := sorry
theorem eq_copy {M : z_M} (hR : z_Rel M) (a1 : Int32) (a2 : Int32) (a3 : Int32) (a4 : Int32) (a5 : Int32) : ∃ (r : Int32) (M1 : z_M) (M2 : z_M), F_X6_copy a1 a2 a3 a4 a5 M = some (r, M1) ∧ F_X7_copy a1 a2 a3 a4 a5 M1 = some (r, M2) ∧ z_Rel M2 := sorry
theorem eq_drop {M : z_M} (hR : z_Rel M) (a1 : Int32) : ∃ (r : Int32) (M1 : z_M) (M2 : z_M), F_X6_drop a1 M = some (r, M1) ∧ F_X7_drop a1 M1 = some (r, M2) ∧ z_Rel M2 := sorry
theorem eq_feed {M : z_M} (hR : z_Rel M) (a1 : Int32) : ∃ (r : Int32) (M1 : z_M) (M2 : z_M), F_X6_feed a1 M = some (r, M1) ∧ F_X7_feed a1 M1 = some (r, M2) ∧ z_Rel M2 := sorry
theorem eq_town {M : z_M} (hR : z_Rel M) : ∃ (r : Int32) (M1 : z_M) (M2 : z_M), F_X6_town M = some (r, M1) ∧ F_X7_town M1 = some (r, M2) ∧ z_Rel M2 := sorry
theorem eq_fault {M : z_M} (hR : z_Rel M) : ∃ (r : Int32), F_X6_fault M = some r ∧ F_X7_fault M = some r := sorry
theorem eq_undo {M : z_M} (hR : z_Rel M) : ∃ (r : Int32) (M1 : z_M) (M2 : z_M), F_X6_undo M = some (r, M1) ∧ F_X7_undo M1 = some (r, M2) ∧ z_Rel M2 := sorry
theorem eq_days {M : z_M} (hR : z_Rel M) (a1 : Int32) : ∃ (r : Int32) (M1 : z_M) (M2 : z_M), F_X6_days a1 M = some (r, M1) ∧ F_X7_days a1 M1 = some (r, M2) ∧ z_Rel M2 := sorry
theorem eq_plane {M : z_M} (hR : z_Rel M) (a1 : Int32) (a2 : Int32) : ∃ (r : Int32) (M1 : z_M) (M2 : z_M), F_X6_plane a1 a2 M = some (r, M1) ∧ F_X7_plane a1 a2 M1 = some (r, M2) ∧ z_Rel M2 := sorry
theorem eq_reach {M : z_M} (hR : z_Rel M) (a1 : Int32) : ∃ (r : Int32) (M1 : z_M) (M2 : z_M), F_X6_reach a1 M = some (r, M1) ∧ F_X7_reach a1 M1 = some (r, M2) ∧ z_Rel M2 := sorry
theorem eq_way {M : z_M} (hR : z_Rel M) (a1 : Int32) (a2 : Int32) (a3 : Int32) : ∃ (r : Int32) (M1 : z_M) (M2 : z_M), F_X6_way a1 a2 a3 M = some (r, M1) ∧ F_X7_way a1 a2 a3 M1 = some (r, M2) ∧ z_Rel M2 := sorry
theorem eq_gait {M : z_M} (hR : z_Rel M) (a1 : Int32) (a2 : Int32) (a3 : Int32) : ∃ (r : Int32) (M1 : z_M) (M2 : z_M), F_X6_gait a1 a2 a3 M = some (r, M1) ∧ F_X7_gait a1 a2 a3 M1 = some (r, M2) ∧ z_Rel M2 := sorry
theorem eq_tread {M : z_M} (hR : z_Rel M) (a1 : Int32) (a2 : Int32) : ∃ (r : Int32), F_X6_tread a1 a2 M = some r ∧ F_X7_tread a1 a2 M = some r := sorry
theorem eq_walker {M : z_M} (hR : z_Rel M) (a1 : Int32) (a2 : Int32) : ∃ (r : Int32), F_X6_walker a1 a2 M = some r ∧ F_X7_walker a1 a2 M = some r := sorry
theorem eq_tune {M : z_M} (hR : z_Rel M) (a1 : Int32) (a2 : Int32) : ∃ (r : Int32), F_X6_tune a1 a2 M = some r ∧ F_X7_tune a1 a2 M = some r := sorry
theorem eq_where {M : z_M} (hR : z_Rel M) (a1 : Int32) (a2 : Int32) : ∃ (r : Int32), F_X6_where a1 a2 M = some r ∧ F_X7_where a1 a2 M = some r := sorry
theorem eq_heard {M : z_M} (hR : z_Rel M) (a1 : Int32) (a2 : Int32) : ∃ (r : Int32), F_X6_heard a1 a2 M = some r ∧ F_X7_heard a1 a2 M = some r := sorry
theorem eq_ahead {M : z_M} (hR : z_Rel M) (a1 : Int32) (a2 : Int32) (a3 : Int32) : ∃ (r : Int32) (M1 : z_M) (M2 : z_M), F_X6_ahead a1 a2 a3 M = some (r, M1) ∧ F_X7_ahead a1 a2 a3 M1 = some (r, M2) ∧ z_Rel M2 := sorry
theorem eq_length {M : z_M} (hR : z_Rel M) (a1 : Int32) : ∃ (r : Int32), F_X6_length a1 M = some r ∧ F_X7_length a1 M = some r := sorry
theorem eq_meet {M : z_M} (hR : z_Rel M) (a1 : Int32) (a2 : Int32) : ∃ (r : Int32) (M1 : z_M), F_X6_meet a1 a2 M = some (r, M1) ∧ F_X7_meet a1 a2 M1 = some r ∧ z_Rel M1 := sorry
theorem eq_choir {M : z_M} (hR : z_Rel M) (a1 : Int32) : ∃ (r : Int32) (M1 : z_M), F_X6_choir a1 M = some (r, M1) ∧ F_X7_choir a1 M1 = some r ∧ z_Rel M1 := sorry
theorem eq_twins {M : z_M} (hR : z_Rel M) (a1 : Int32) : ∃ (r : Int32) (M1 : z_M) (M2 : z_M), F_X6_twins a1 M = some (r, M1) ∧ F_X7_twins a1 M1 = some (r, M2) ∧ z_Rel M2 := sorry
theorem eq_felt {M : z_M} (hR : z_Rel M) (a1 : Int32) (a2 : Int32) (a3 : Int32) : ∃ (r : Int32) (M1 : z_M) (M2 : z_M), F_X6_felt a1 a2 a3 M = some (r, M1) ∧ F_X7_felt a1 a2 a3 M1 = some (r, M2) ∧ z_Rel M2 := sorry
theorem eq_doors {M : z_M} (hR : z_Rel M) (a1 : Int32) : ∃ (r : Int32) (M1 : z_M), F_X6_doors a1 M = some (r, M1) ∧ F_X7_doors a1 M1 = some r ∧ z_Rel M1 := sorry
theorem eq_planed {M : z_M} (hR : z_Rel M) (a1 : Int32) : ∃ (r : Int32) (M1 : z_M) (M2 : z_M), F_X6_planed a1 M = some (r, M1) ∧ F_X7_planed a1 M1 = some (r, M2) ∧ z_Rel M2 := sorry
theorem eq_rise {M : z_M} (hR : z_Rel M) (a1 : Int32) (a2 : Int32) (a3 : Int32) (a4 : Int32) : ∃ (r : Int32) (M1 : z_M) (M2 : z_M), F_X6_rise a1 a2 a3 a4 M = some (r, M1) ∧ F_X7_rise a1 a2 a3 a4 M1 = some (r, M2) ∧ z_Rel M2 := sorry
theorem eq_what {M : z_M} (hR : z_Rel M) (a1 : Int32) (a2 : Int32) (a3 : Int32) (a4 : Int32) (a5 : Int32) (a6 : Int32) (a7 : Int32) : ∃ (r : Int32) (M1 : z_M) (M2 : z_M), F_X6_what a1 a2 a3 a4 a5 a6 a7 M = some (r, M1) ∧ F_X7_what a1 a2 a3 a4 a5 a6 a7 M1 = some (r, M2) ∧ z_Rel M2 := sorry
theorem eq_who {M : z_M} (hR : z_Rel M) (a1 : Int32) (a2 : Int32) (a3 : Int32) (a4 : Int32) (a5 : Int32) (a6 : Int32) (a7 : Int32) : ∃ (r : Int32) (M1 : z_M) (M2 : z_M), F_X6_who a1 a2 a3 a4 a5 a6 a7 M = some (r, M1) ∧ F_X7_who a1 a2 a3 a4 a5 a6 a7 M1 = some (r, M2) ∧ z_Rel M2 := sorry
theorem eq_rots {M : z_M} (hR : z_Rel M) (a1 : Int32) (a2 : Int32) (a3 : Int32) (a4 : Int32) : ∃ (r : Int64) (M1 : z_M) (M2 : z_M), F_X6_rots a1 a2 a3 a4 M = some (r, M1) ∧ F_X7_rots a1 a2 a3 a4 M1 = some (r, M2) ∧ z_Rel M2 := sorry
theorem eq_drawn {M : z_M} (hR : z_Rel M) (a1 : Int32) (a2 : Int32) (a3 : Int32) : ∃ (r : Int32) (M1 : z_M) (M2 : z_M), F_X6_drawn a1 a2 a3 M = some (r, M1) ∧ F_X7_drawn a1 a2 a3 M1 = some (r, M2) ∧ z_Rel M2 := sorry
theorem eq_image {M : z_M} (hR : z_Rel M) (a1 : Int32) : ∃ (r : Int32) (M1 : z_M) (M2 : z_M), F_X6_image a1 M = some (r, M1) ∧ F_X7_image a1 M1 = some (r, M2) ∧ z_Rel M2 := sorry
theorem eq_restore {M : z_M} (hR : z_Rel M) (a1 : Int32) : ∃ (r : Int32) (M1 : z_M) (M2 : z_M), F_X6_restore a1 M = some (r, M1) ∧ F_X7_restore a1 M1 = some (r, M2) ∧ z_Rel M2 := sorry
theorem eq_kind {M : z_M} (hR : z_Rel M) (a1 : Int32) : ∃ (r : Int32), F_X6_kind a1 M = some r ∧ F_X7_kind a1 M = some r := sorry
theorem eq_as {M : z_M} (hR : z_Rel M) (a1 : Int32) (a2 : Int32) : ∃ (r : Int32) (M1 : z_M) (M2 : z_M), F_X6_as a1 a2 M = some (r, M1) ∧ F_X7_as a1 a2 M1 = some (r, M2) ∧ z_Rel M2 := sorry
theorem eq_ask {M : z_M} (hR : z_Rel M) (a1 : Int32) (a2 : Int32) : ∃ (r : Int32) (M1 : z_M) (M2 : z_M), F_X6_ask a1 a2 M = some (r, M1) ∧ F_X7_ask a1 a2 M1 = some (r, M2) ∧ z_Rel M2 := sorry
theorem eq_trace {M : z_M} (hR : z_Rel M) (a1 : Int32) : ∃ (r : Int32), F_X6_trace a1 M = some r ∧ F_X7_trace a1 M = some r := sorry
theorem eq_count {M : z_M} (hR : z_Rel M) (a1 : Int32) : ∃ (r : Int32), F_X6_count a1 M = some r ∧ F_X7_count a1 M = some r := sorry
theorem eq_status {M : z_M} (hR : z_Rel M) : ∃ (r : Int32), F_X6_status M = some r ∧ F_X7_status M = some r := sorry
theorem z_Rel_0 {fS fM : Nat → Int32} (h1 : ∀ j, j < 8 → fS j = -1) (h2 : ∀ j, j < 8 → fM j = -1) : z_Rel ((fun k _ => if k = 4 then fS else if k = 23 then fM else fun _ => 0, fun _ => 0) : z_M) := sorry
