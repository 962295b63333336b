section
variable {p : Program} {l : Launch} {e : Env} {s : State} {m : MethodId} {args : Array Value} {below : List Frame} {meth : Method} {c : Code} {G : z_G}
set_option maxRecDepth 100000 in
set_option maxHeartbeats 4000000 in
theorem c_X7_in {G : z_G} {l : Launch} {a1 : Int64} {a2 : Int64} {a3 : Int64} {M : z_M} {out : Int32} (h : F_X7_in a1 a2 a3 M = some out) : z_Met G l yX7_in cX7_in 6 (some .boolean) 1 [.long a1, .long a2, .long a3] M (some (.int out)) M := by
  unfold F_X7_in at h
  refine z_met_of (by decide) rfl (Nat.le_of_ble_eq_true rfl) (fun p e s m below meth c ls hc hI hl => ?_)
  obtain ⟨⟨hx, hb, hml, hown, hts⟩, hr, hlk⟩ := id hc
  have hl : lv_has ls 6 [(0, .long a1), (2, .long a2), (4, .long a3)] := hl
  refine lv_lload_n hx hb dX7_in_0 rfl (lv_at hl 0 rfl) ?_
  refine lv_lload_n hx hb dX7_in_1 rfl (lv_at hl 1 rfl) ?_
  refine W.lcmp hx hb dX7_in_2 ?_
  refine lv_if_lt (tgt := 17) hx hb dX7_in_3 (by decide) (fun c1 => ?_) (fun c1 => ?_)
  · replace h := z_ift h c1
    refine lv_iconst (v := 0) hx hb dX7_in_17 (by decide) ?_
    obtain rfl := Option.some.inj h
    exact z_rz (x := 0) hc hI (by decide) dX7_in_18
  · replace h := z_iff h c1
    refine lv_lload_n hx hb dX7_in_6 rfl (lv_at hl 0 rfl) ?_
    refine lv_lload hx hb dX7_in_7 (lv_at hl 2 rfl) ?_
    refine W.lcmp hx hb dX7_in_9 ?_
    refine lv_if_gt (tgt := 17) hx hb dX7_in_10 (by decide) (fun c2 => ?_) (fun c2 => ?_)
    · replace h := z_ift h c2
      refine lv_iconst (v := 0) hx hb dX7_in_17 (by decide) ?_
      obtain rfl := Option.some.inj h
      exact z_rz (x := 0) hc hI (by decide) dX7_in_18
    · replace h := z_iff h c2
      refine lv_iconst (v := 1) hx hb dX7_in_13 (by decide) ?_
      refine lv_goto (tgt := 18) hx hb dX7_in_14 (by decide) ?_
      obtain rfl := Option.some.inj h
      exact z_rz (x := 1) hc hI (by decide) dX7_in_18
set_option maxRecDepth 100000 in
set_option maxHeartbeats 4000000 in
theorem c_X7_has {G : z_G} {l : Launch} {a1 : Int32} {a2 : Int32} {M : z_M} {out : Int32} (h : F_X7_has a1 a2 M = some out) : z_Met G l yX7_has cX7_has 2 (some .boolean) 1 [.int a1, .int a2] M (some (.int out)) M := by
  unfold F_X7_has at h
  refine z_met_of (by decide) rfl (Nat.le_of_ble_eq_true rfl) (fun p e s m below meth c ls hc hI hl => ?_)
  obtain ⟨⟨hx, hb, hml, hown, hts⟩, hr, hlk⟩ := id hc
  have hl : lv_has ls 2 [(0, .int a1), (1, .int a2)] := hl
  refine lv_iload_n hx hb dX7_has_0 rfl (lv_at hl 0 rfl) ?_
  refine lv_iload_n hx hb dX7_has_1 rfl (lv_at hl 1 rfl) ?_
  refine lv_ishr hx hb dX7_has_2 ?_
  refine lv_iconst (v := 1) hx hb dX7_has_3 (by decide) ?_
  refine lv_iand hx hb dX7_has_4 ?_
  refine lv_iconst (v := 1) hx hb dX7_has_5 (by decide) ?_
  refine lv_icmp_ne (tgt := 13) hx hb dX7_has_6 (by decide) (fun c1 => ?_) (fun c1 => ?_)
  · replace h := z_iff h c1
    refine lv_iconst (v := 0) hx hb dX7_has_13 (by decide) ?_
    obtain rfl := Option.some.inj h
    exact z_rz (x := 0) hc hI (by decide) dX7_has_14
  · replace h := z_ift h c1
    refine lv_iconst (v := 1) hx hb dX7_has_9 (by decide) ?_
    refine lv_goto (tgt := 14) hx hb dX7_has_10 (by decide) ?_
    obtain rfl := Option.some.inj h
    exact z_rz (x := 1) hc hI (by decide) dX7_has_14
set_option maxRecDepth 100000 in
set_option maxHeartbeats 4000000 in
theorem w_X7_ones_b4 {M : z_M} (hc : z_C p s m args meth c RX7 cX7_ones 3 (some .int)) {out : Int32} : ∀ (n : Nat) (v1 : Int32) (v2 : Int32) (H : Heap) (locs : List Loc) (ls : Array Slot) (h : F_X7_ones_b4 M n v1 v2 = some out) (hI : z_I G s M H locs) (hl : lv_has ls 3 [(1, .int v1), (2, .int v2)]), W p l e (z_rm 1) s m args below meth c H locs 0 0 (MQ below (z_Q G (some (.int out)) M) args s 0 0 (z_A G)) (F0 m 4 ls []) := by
  obtain ⟨⟨hx, hb, hml, hown, hts⟩, hr, hlk⟩ := id hc
  intro n
  induction n with
  | zero => intro v1 v2 H locs ls h; cases h
  | succ n ih =>
    intro v1 v2 H locs ls h hI hl
    rw [F_X7_ones_b4] at h
    refine lv_iload_n hx hb dX7_ones_4 rfl (lv_at hl 1 rfl) ?_
    refine lv_if_eq (tgt := 20) hx hb dX7_ones_5 (by decide) (fun c1 => ?_) (fun c1 => ?_)
    · replace h := z_ift h c1
      refine lv_iload_n hx hb dX7_ones_20 rfl (lv_at hl 0 rfl) ?_
      obtain rfl := Option.some.inj h
      exact z_ri hc hI dX7_ones_21
    · replace h := z_iff h c1
      refine lv_iinc (v := v1 + 1) (lv' := [(1, .int (v1 + 1)), (2, .int v2)]) hx hb dX7_ones_8 hl (k := 0) rfl rfl (by decide) rfl (fun ls hl => ?_)
      refine lv_iload_n hx hb dX7_ones_11 rfl (lv_at hl 1 rfl) ?_
      refine lv_iload_n hx hb dX7_ones_12 rfl (lv_at hl 1 rfl) ?_
      refine lv_iconst (v := 1) hx hb dX7_ones_13 (by decide) ?_
      refine lv_isub hx hb dX7_ones_14 ?_
      refine lv_iand hx hb dX7_ones_15 ?_
      refine z_nI h (fun x2 h => ?_)
      refine lv_istore_n (lv' := [(2, .int x2), (1, .int (v1 + 1))]) hx hb dX7_ones_16 rfl hl (by decide) rfl (fun ls hl => ?_)
      refine lv_goto (tgt := 4) hx hb dX7_ones_17 (by decide) ?_
      exact ih (v1 + 1) x2 _ _ _ h hI (lv_sub hl [1, 0] rfl)
set_option maxRecDepth 100000 in
set_option maxHeartbeats 4000000 in
theorem c_X7_ones {G : z_G} {l : Launch} {a1 : Int32} {M : z_M} {out : Int32} (h : F_X7_ones a1 M = some out) : z_Met G l yX7_ones cX7_ones 3 (some .int) 1 [.int a1] M (some (.int out)) M := by
  unfold F_X7_ones at h
  refine z_met_of (by decide) rfl (Nat.le_of_ble_eq_true rfl) (fun p e s m below meth c ls hc hI hl => ?_)
  obtain ⟨⟨hx, hb, hml, hown, hts⟩, hr, hlk⟩ := id hc
  have hl : lv_has ls 3 [(0, .int a1)] := hl
  refine lv_iconst (v := 0) hx hb dX7_ones_0 (by decide) ?_
  refine lv_istore_n (lv' := [(1, .int 0), (0, .int a1)]) hx hb dX7_ones_1 rfl hl (by decide) rfl (fun ls hl => ?_)
  refine lv_iload_n hx hb dX7_ones_2 rfl (lv_at hl 1 rfl) ?_
  refine lv_istore_n (lv' := [(2, .int a1), (1, .int 0), (0, .int a1)]) hx hb dX7_ones_3 rfl hl (by decide) rfl (fun ls hl => ?_)
  exact w_X7_ones_b4 hc _ 0 a1 _ _ _ h hI (lv_sub hl [1, 0] rfl)
set_option maxRecDepth 100000 in
set_option maxHeartbeats 4000000 in
theorem c_X7_find {G : z_G} {l : Launch} {a1 : Int32} {M : z_M} {out : (Int32 × z_M)} (h : F_X7_find a1 M = some out) : z_Met G l yX7_find cX7_find 2 (some .int) 1 [.ref (z_ad G 21 0), .int a1] M (some (.int out.1)) out.2 := by
  unfold F_X7_find at h
  refine z_met_of (by decide) rfl (Nat.le_of_ble_eq_true rfl) (fun p e s m below meth c ls hc hI hl => ?_)
  obtain ⟨⟨hx, hb, hml, hown, hts⟩, hr, hlk⟩ := id hc
  have hl : lv_has ls 2 [(0, .ref (z_ad G 21 0)), (1, .int a1)] := hl
  refine lv_aload_n hx hb dX7_find_0 rfl (lv_at hl 0 rfl) ?_
  refine lv_iload_n hx hb dX7_find_1 rfl (lv_at hl 1 rfl) ?_
  refine pf_X7_47 hc hI dX7_find_2 (fun H locs hI => ?_)
  refine lv_ldc (v := (-1000010)) hx hb hown (hts _ wd_5_10) dX7_find_5 ?_
  refine lv_iload_n hx hb dX7_find_7 rfl (lv_at hl 1 rfl) ?_
  refine lv_isub hx hb dX7_find_8 ?_
  obtain rfl := Option.some.inj h
  exact z_ri hc hI dX7_find_9
set_option maxRecDepth 100000 in
set_option maxHeartbeats 4000000 in
theorem c_X7_well {G : z_G} {l : Launch} {a1 : Int32} {M : z_M} {out : (Int32 × z_M)} (h : F_X7_well a1 M = some out) : z_Met G l yX7_well cX7_well 2 (some .int) 1 [.ref (z_ad G 21 0), .int a1] M (some (.int out.1)) out.2 := by
  unfold F_X7_well at h
  refine z_met_of (by decide) rfl (Nat.le_of_ble_eq_true rfl) (fun p e s m below meth c ls hc hI hl => ?_)
  obtain ⟨⟨hx, hb, hml, hown, hts⟩, hr, hlk⟩ := id hc
  have hl : lv_has ls 2 [(0, .ref (z_ad G 21 0)), (1, .int a1)] := hl
  refine lv_aload_n hx hb dX7_well_0 rfl (lv_at hl 0 rfl) ?_
  refine lv_iconst (v := 0) hx hb dX7_well_1 (by decide) ?_
  refine pf_X7_47 hc hI dX7_well_2 (fun H locs hI => ?_)
  refine lv_iload_n hx hb dX7_well_5 rfl (lv_at hl 1 rfl) ?_
  obtain rfl := Option.some.inj h
  exact z_ri hc hI dX7_well_6
set_option maxRecDepth 100000 in
set_option maxHeartbeats 4000000 in
theorem c_X7_isRow {G : z_G} {l : Launch} {a1 : Int32} {M : z_M} {out : Int32} (h : F_X7_isRow a1 M = some out) : z_Met G l yX7_isRow cX7_isRow 1 (some .boolean) 2 [.int a1] M (some (.int out)) M := by
  unfold F_X7_isRow at h
  refine z_met_of (by decide) rfl (Nat.le_of_ble_eq_true rfl) (fun p e s m below meth c ls hc hI hl => ?_)
  obtain ⟨⟨hx, hb, hml, hown, hts⟩, hr, hlk⟩ := id hc
  have hl : lv_has ls 1 [(0, .int a1)] := hl
  refine lv_iload_n hx hb dX7_isRow_0 rfl (lv_at hl 0 rfl) ?_
  refine lv_i2l (v := a1.toInt64) hx hb dX7_isRow_1 rfl ?_
  refine lv_lconst (v := 0) hx hb dX7_isRow_2 (by decide) ?_
  refine lv_ldc2 (v := 7) hx hb hown (hts _ wd_5_0) dX7_isRow_3 ?_
  obtain ⟨q1, e2, h⟩ := z_bnd h
  refine iv_X7_54 hc hI (c_X7_in e2) (z_room (by decide) (by decide)) hl.1 (Nat.le_of_ble_eq_true rfl) ⟨Nat.zero_le _, Nat.zero_le _⟩ dX7_isRow_6 (fun H locs hI => ?_)
  obtain ⟨g3, h⟩ := z_grd_some h
  obtain rfl := Option.some.inj h
  exact z_rz hc hI g3 dX7_isRow_9
set_option maxRecDepth 100000 in
set_option maxHeartbeats 4000000 in
theorem w_X7_row_b55 (hc : z_C p s m args meth c RX7 cX7_row 5 (some .int)) {out : (Int32 × z_M)} : ∀ (n : Nat) (v1 : Int32) (v3 : Int32) (v4 : Int32) (M : z_M) (H : Heap) (locs : List Loc) (ls : Array Slot) (h : F_X7_row_b55 n v1 v3 v4 M = some out) (hI : z_I G s M H locs) (hl : lv_has ls 5 [(0, .ref (z_ad G 21 0)), (1, .int v1), (3, .int v3), (4, .int v4)]), W p l e (z_rm 3) s m args below meth c H locs 0 0 (MQ below (z_Q G (some (.int out.1)) out.2) args s 0 0 (z_A G)) (F0 m 55 ls []) := by
  obtain ⟨⟨hx, hb, hml, hown, hts⟩, hr, hlk⟩ := id hc
  intro n
  induction n with
  | zero => intro v1 v3 v4 M H locs ls h; cases h
  | succ n ih =>
    intro v1 v3 v4 M H locs ls h hI hl
    rw [F_X7_row_b55] at h
    refine lv_iload hx hb dX7_row_55 (lv_at hl 3 rfl) ?_
    refine lv_bipush (v := 40) hx hb dX7_row_57 (by decide) ?_
    refine lv_icmp_ge (tgt := 81) hx hb dX7_row_59 (by decide) (fun c12 => ?_) (fun c12 => ?_)
    · replace h := z_ift h c12
      refine lv_aload_n hx hb dX7_row_81 rfl (lv_at hl 0 rfl) ?_
      refine lv_iload_n hx hb dX7_row_82 rfl (lv_at hl 2 rfl) ?_
      obtain ⟨q13, e14, h⟩ := z_bnd h
      refine iv_X7_69 hc hI (c_X7_well e14) (z_room (by decide) (by decide)) hl.1 (Nat.le_of_ble_eq_true rfl) ⟨Nat.zero_le _, Nat.zero_le _⟩ dX7_row_83 (fun H locs hI => ?_)
      obtain rfl := Option.some.inj h
      exact z_ri hc hI dX7_row_86
    · replace h := z_iff h c12
      refine lv_aload_n hx hb dX7_row_62 rfl (lv_at hl 0 rfl) ?_
      refine gf_X7_16 hc hI dX7_row_63 ?_
      refine lv_bipush (v := 40) hx hb dX7_row_66 (by decide) ?_
      refine lv_iload_n hx hb dX7_row_68 rfl (lv_at hl 1 rfl) ?_
      refine lv_imul hx hb dX7_row_69 ?_
      refine lv_iload hx hb dX7_row_70 (lv_at hl 3 rfl) ?_
      refine lv_iadd hx hb dX7_row_72 ?_
      refine lv_iconst (v := 0) hx hb dX7_row_73 (by decide) ?_
      obtain ⟨g15, h⟩ := z_grd_some h
      refine st_k24 hc hI g15 dX7_row_74 (fun H locs hI => ?_)
      refine lv_iinc (v := v4 + 1) (lv' := [(4, .int (v4 + 1)), (0, .ref (z_ad G 21 0)), (1, .int v1), (3, .int v3)]) hx hb dX7_row_75 hl (k := 3) rfl rfl (by decide) rfl (fun ls hl => ?_)
      refine lv_goto (tgt := 55) hx hb dX7_row_78 (by decide) ?_
      exact ih v1 v3 (v4 + 1) _ _ _ _ h hI (lv_sub hl [1, 2, 3, 0] rfl)
set_option maxRecDepth 100000 in
set_option maxHeartbeats 4000000 in
theorem c_X7_row {G : z_G} {l : Launch} {a1 : Int32} {a2 : Int32} {a3 : Int32} {M : z_M} {out : (Int32 × z_M)} (h : F_X7_row a1 a2 a3 M = some out) : z_Met G l yX7_row cX7_row 5 (some .int) 3 [.ref (z_ad G 21 0), .int a1, .int a2, .int a3] M (some (.int out.1)) out.2 := by
  unfold F_X7_row at h
  refine z_met_of (by decide) rfl (Nat.le_of_ble_eq_true rfl) (fun p e s m below meth c ls hc hI hl => ?_)
  obtain ⟨⟨hx, hb, hml, hown, hts⟩, hr, hlk⟩ := id hc
  have hl : lv_has ls 5 [(0, .ref (z_ad G 21 0)), (1, .int a1), (2, .int a2), (3, .int a3)] := hl
  refine lv_iload_n hx hb dX7_row_0 rfl (lv_at hl 1 rfl) ?_
  obtain ⟨q1, e2, h⟩ := z_bnd h
  refine iv_X7_58 hc hI (c_X7_isRow e2) (z_room (by decide) (by decide)) hl.1 (Nat.le_of_ble_eq_true rfl) ⟨Nat.zero_le _, Nat.zero_le _⟩ dX7_row_1 (fun H locs hI => ?_)
  refine lv_if_eq (tgt := 25) hx hb dX7_row_4 (by decide) (fun c3 => ?_) (fun c3 => ?_)
  · replace h := z_ift h c3
    refine lv_ldc (v := (-1000001)) hx hb hown (hts _ wd_5_5) dX7_row_25 ?_
    obtain rfl := Option.some.inj h
    exact z_ri hc hI dX7_row_27
  · replace h := z_iff h c3
    refine lv_iload_n hx hb dX7_row_7 rfl (lv_at hl 2 rfl) ?_
    refine lv_i2l (v := a2.toInt64) hx hb dX7_row_8 rfl ?_
    refine lv_lconst (v := 0) hx hb dX7_row_9 (by decide) ?_
    refine lv_ldc2 (v := 2) hx hb hown (hts _ wd_5_4) dX7_row_10 ?_
    obtain ⟨q4, e5, h⟩ := z_bnd h
    refine iv_X7_54 hc hI (c_X7_in e5) (z_room (by decide) (by decide)) hl.1 (Nat.le_of_ble_eq_true rfl) ⟨Nat.zero_le _, Nat.zero_le _⟩ dX7_row_13 (fun H locs hI => ?_)
    refine lv_if_eq (tgt := 25) hx hb dX7_row_16 (by decide) (fun c6 => ?_) (fun c6 => ?_)
    · replace h := z_ift h c6
      refine lv_ldc (v := (-1000001)) hx hb hown (hts _ wd_5_5) dX7_row_25 ?_
      obtain rfl := Option.some.inj h
      exact z_ri hc hI dX7_row_27
    · replace h := z_iff h c6
      refine lv_iload_n hx hb dX7_row_19 rfl (lv_at hl 3 rfl) ?_
      refine lv_bipush (v := 40) hx hb dX7_row_20 (by decide) ?_
      refine lv_icmp_le (tgt := 28) hx hb dX7_row_22 (by decide) (fun c7 => ?_) (fun c7 => ?_)
      · replace h := z_ift h c7
        refine lv_iload_n hx hb dX7_row_28 rfl (lv_at hl 3 rfl) ?_
        refine lv_if_ge (tgt := 38) hx hb dX7_row_29 (by decide) (fun c8 => ?_) (fun c8 => ?_)
        · replace h := z_ift h c8
          refine lv_aload_n hx hb dX7_row_38 rfl (lv_at hl 0 rfl) ?_
          refine gf_X7_7 hc hI dX7_row_39 ?_
          refine lv_iload_n hx hb dX7_row_42 rfl (lv_at hl 1 rfl) ?_
          refine lv_iload_n hx hb dX7_row_43 rfl (lv_at hl 2 rfl) ?_
          obtain ⟨g9, h⟩ := z_grd_some h
          refine st_k22 hc hI g9 dX7_row_44 (fun H locs hI => ?_)
          refine lv_aload_n hx hb dX7_row_45 rfl (lv_at hl 0 rfl) ?_
          refine gf_X7_13 hc hI dX7_row_46 ?_
          refine lv_iload_n hx hb dX7_row_49 rfl (lv_at hl 1 rfl) ?_
          refine lv_iload_n hx hb dX7_row_50 rfl (lv_at hl 3 rfl) ?_
          obtain ⟨g10, h⟩ := z_grd_some h
          obtain ⟨M11, h, hI⟩ := z_nM h hI
          refine st_k23 hc hI g10 dX7_row_51 (fun H locs hI => ?_)
          refine lv_iconst (v := 0) hx hb dX7_row_52 (by decide) ?_
          refine lv_istore (lv' := [(4, .int 0), (0, .ref (z_ad G 21 0)), (1, .int a1), (2, .int a2), (3, .int a3)]) hx hb dX7_row_53 hl (by decide) rfl (fun ls hl => ?_)
          exact w_X7_row_b55 hc _ a1 a3 0 _ _ _ _ h hI (lv_sub hl [1, 2, 4, 0] rfl)
        · replace h := z_iff h c8
          refine lv_aload_n hx hb dX7_row_32 rfl (lv_at hl 0 rfl) ?_
          refine lv_iconst (v := 4) hx hb dX7_row_33 (by decide) ?_
          obtain ⟨q16, e17, h⟩ := z_bnd h
          refine iv_X7_65 hc hI (c_X7_find e17) (z_room (by decide) (by decide)) hl.1 (Nat.le_of_ble_eq_true rfl) ⟨Nat.zero_le _, Nat.zero_le _⟩ dX7_row_34 (fun H locs hI => ?_)
          obtain rfl := Option.some.inj h
          exact z_ri hc hI dX7_row_37
      · replace h := z_iff h c7
        refine lv_ldc (v := (-1000001)) hx hb hown (hts _ wd_5_5) dX7_row_25 ?_
        obtain rfl := Option.some.inj h
        exact z_ri hc hI dX7_row_27
set_option maxRecDepth 100000 in
set_option maxHeartbeats 4000000 in
theorem c_X7_asLane {G : z_G} {l : Launch} {a1 : Int32} {a2 : Int32} {M : z_M} {out : Int32} (h : F_X7_asLane a1 a2 M = some out) : z_Met G l yX7_asLane cX7_asLane 2 (some .int) 1 [.int a1, .int a2] M (some (.int out)) M := by
  unfold F_X7_asLane at h
  refine z_met_of (by decide) rfl (Nat.le_of_ble_eq_true rfl) (fun p e s m below meth c ls hc hI hl => ?_)
  obtain ⟨⟨hx, hb, hml, hown, hts⟩, hr, hlk⟩ := id hc
  have hl : lv_has ls 2 [(0, .int a1), (1, .int a2)] := hl
  refine lv_iload_n hx hb dX7_asLane_0 rfl (lv_at hl 0 rfl) ?_
  refine lv_if_ne (tgt := 14) hx hb dX7_asLane_1 (by decide) (fun c1 => ?_) (fun c1 => ?_)
  · replace h := z_iff h c1
    refine lv_iload_n hx hb dX7_asLane_14 rfl (lv_at hl 0 rfl) ?_
    refine lv_iconst (v := 1) hx hb dX7_asLane_15 (by decide) ?_
    refine lv_icmp_ne (tgt := 29) hx hb dX7_asLane_16 (by decide) (fun c2 => ?_) (fun c2 => ?_)
    · replace h := z_iff h c2
      refine lv_iload_n hx hb dX7_asLane_29 rfl (lv_at hl 1 rfl) ?_
      obtain rfl := Option.some.inj h
      exact z_ri hc hI dX7_asLane_30
    · replace h := z_ift h c2
      refine lv_iload_n hx hb dX7_asLane_19 rfl (lv_at hl 1 rfl) ?_
      refine lv_bipush (v := 16) hx hb dX7_asLane_20 (by decide) ?_
      refine lv_ishl hx hb dX7_asLane_22 ?_
      refine lv_bipush (v := 16) hx hb dX7_asLane_23 (by decide) ?_
      refine lv_ishr hx hb dX7_asLane_25 ?_
      refine lv_goto (tgt := 30) hx hb dX7_asLane_26 (by decide) ?_
      obtain rfl := Option.some.inj h
      exact z_ri hc hI dX7_asLane_30
  · replace h := z_ift h c1
    refine lv_iload_n hx hb dX7_asLane_4 rfl (lv_at hl 1 rfl) ?_
    refine lv_bipush (v := 24) hx hb dX7_asLane_5 (by decide) ?_
    refine lv_ishl hx hb dX7_asLane_7 ?_
    refine lv_bipush (v := 24) hx hb dX7_asLane_8 (by decide) ?_
    refine lv_ishr hx hb dX7_asLane_10 ?_
    refine lv_goto (tgt := 30) hx hb dX7_asLane_11 (by decide) ?_
    obtain rfl := Option.some.inj h
    exact z_ri hc hI dX7_asLane_30
set_option maxRecDepth 100000 in
set_option maxHeartbeats 4000000 in
theorem c_X7_set {G : z_G} {l : Launch} {a1 : Int32} {a2 : Int32} {a3 : Int32} {M : z_M} {out : (Int32 × z_M)} (h : F_X7_set a1 a2 a3 M = some out) : z_Met G l yX7_set cX7_set 4 (some .int) 3 [.ref (z_ad G 21 0), .int a1, .int a2, .int a3] M (some (.int out.1)) out.2 := by
  unfold F_X7_set at h
  refine z_met_of (by decide) rfl (Nat.le_of_ble_eq_true rfl) (fun p e s m below meth c ls hc hI hl => ?_)
  obtain ⟨⟨hx, hb, hml, hown, hts⟩, hr, hlk⟩ := id hc
  have hl : lv_has ls 4 [(0, .ref (z_ad G 21 0)), (1, .int a1), (2, .int a2), (3, .int a3)] := hl
  refine lv_iload_n hx hb dX7_set_0 rfl (lv_at hl 1 rfl) ?_
  obtain ⟨q1, e2, h⟩ := z_bnd h
  refine iv_X7_58 hc hI (c_X7_isRow e2) (z_room (by decide) (by decide)) hl.1 (Nat.le_of_ble_eq_true rfl) ⟨Nat.zero_le _, Nat.zero_le _⟩ dX7_set_1 (fun H locs hI => ?_)
  refine lv_if_ne (tgt := 10) hx hb dX7_set_4 (by decide) (fun c3 => ?_) (fun c3 => ?_)
  · replace h := z_iff h c3
    refine lv_aload_n hx hb dX7_set_10 rfl (lv_at hl 0 rfl) ?_
    refine gf_X7_13 hc hI dX7_set_11 ?_
    refine lv_iload_n hx hb dX7_set_14 rfl (lv_at hl 1 rfl) ?_
    obtain ⟨g4, h⟩ := z_grd_some h
    refine ld_k23 hc hI g4 dX7_set_15 ?_
    refine lv_if_ge (tgt := 25) hx hb dX7_set_16 (by decide) (fun c5 => ?_) (fun c5 => ?_)
    · replace h := z_ift h c5
      refine lv_iload_n hx hb dX7_set_25 rfl (lv_at hl 2 rfl) ?_
      refine lv_i2l (v := a2.toInt64) hx hb dX7_set_26 rfl ?_
      refine lv_lconst (v := 0) hx hb dX7_set_27 (by decide) ?_
      refine lv_aload_n hx hb dX7_set_28 rfl (lv_at hl 0 rfl) ?_
      refine gf_X7_13 hc hI dX7_set_29 ?_
      refine lv_iload_n hx hb dX7_set_32 rfl (lv_at hl 1 rfl) ?_
      obtain ⟨g6, h⟩ := z_grd_some h
      refine ld_k23 hc hI g6 dX7_set_33 ?_
      refine lv_iconst (v := 1) hx hb dX7_set_34 (by decide) ?_
      refine lv_isub hx hb dX7_set_35 ?_
      refine lv_i2l (v := ((z_gi M 23 0 a1.toNatClampNeg) - 1).toInt64) hx hb dX7_set_36 rfl ?_
      obtain ⟨q7, e8, h⟩ := z_bnd h
      refine iv_X7_54 hc hI (c_X7_in e8) (z_room (by decide) (by decide)) hl.1 (Nat.le_of_ble_eq_true rfl) ⟨Nat.zero_le _, Nat.zero_le _⟩ dX7_set_37 (fun H locs hI => ?_)
      refine lv_if_ne (tgt := 49) hx hb dX7_set_40 (by decide) (fun c9 => ?_) (fun c9 => ?_)
      · replace h := z_iff h c9
        refine lv_aload_n hx hb dX7_set_49 rfl (lv_at hl 0 rfl) ?_
        refine gf_X7_16 hc hI dX7_set_50 ?_
        refine lv_bipush (v := 40) hx hb dX7_set_53 (by decide) ?_
        refine lv_iload_n hx hb dX7_set_55 rfl (lv_at hl 1 rfl) ?_
        refine lv_imul hx hb dX7_set_56 ?_
        refine lv_iload_n hx hb dX7_set_57 rfl (lv_at hl 2 rfl) ?_
        refine lv_iadd hx hb dX7_set_58 ?_
        refine lv_aload_n hx hb dX7_set_59 rfl (lv_at hl 0 rfl) ?_
        refine gf_X7_7 hc hI dX7_set_60 ?_
        refine lv_iload_n hx hb dX7_set_63 rfl (lv_at hl 1 rfl) ?_
        obtain ⟨g10, h⟩ := z_grd_some h
        refine ld_k22 hc hI g10 dX7_set_64 ?_
        refine lv_iload_n hx hb dX7_set_65 rfl (lv_at hl 3 rfl) ?_
        obtain ⟨q11, e12, h⟩ := z_bnd h
        refine iv_X7_72 hc hI (c_X7_asLane e12) (z_room (by decide) (by decide)) hl.1 (Nat.le_of_ble_eq_true rfl) ⟨Nat.zero_le _, Nat.zero_le _⟩ dX7_set_66 (fun H locs hI => ?_)
        obtain ⟨g13, h⟩ := z_grd_some h
        refine st_k24 hc hI g13 dX7_set_69 (fun H locs hI => ?_)
        refine lv_aload_n hx hb dX7_set_70 rfl (lv_at hl 0 rfl) ?_
        refine lv_aload_n hx hb dX7_set_71 rfl (lv_at hl 0 rfl) ?_
        refine gf_X7_16 hc hI dX7_set_72 ?_
        refine lv_bipush (v := 40) hx hb dX7_set_75 (by decide) ?_
        refine lv_iload_n hx hb dX7_set_77 rfl (lv_at hl 1 rfl) ?_
        refine lv_imul hx hb dX7_set_78 ?_
        refine lv_iload_n hx hb dX7_set_79 rfl (lv_at hl 2 rfl) ?_
        refine lv_iadd hx hb dX7_set_80 ?_
        obtain ⟨M15, h, hI⟩ := z_nM h hI
        obtain ⟨g14, h⟩ := z_grd_some h
        refine ld_k24 hc hI g14 dX7_set_81 ?_
        obtain ⟨q16, e17, h⟩ := z_bnd h
        refine iv_X7_69 hc hI (c_X7_well e17) (z_room (by decide) (by decide)) hl.1 (Nat.le_of_ble_eq_true rfl) ⟨Nat.zero_le _, Nat.zero_le _⟩ dX7_set_82 (fun H locs hI => ?_)
        obtain rfl := Option.some.inj h
        exact z_ri hc hI dX7_set_85
      · replace h := z_ift h c9
        refine lv_aload_n hx hb dX7_set_43 rfl (lv_at hl 0 rfl) ?_
        refine lv_iconst (v := 2) hx hb dX7_set_44 (by decide) ?_
        obtain ⟨q18, e19, h⟩ := z_bnd h
        refine iv_X7_65 hc hI (c_X7_find e19) (z_room (by decide) (by decide)) hl.1 (Nat.le_of_ble_eq_true rfl) ⟨Nat.zero_le _, Nat.zero_le _⟩ dX7_set_45 (fun H locs hI => ?_)
        obtain rfl := Option.some.inj h
        exact z_ri hc hI dX7_set_48
    · replace h := z_iff h c5
      refine lv_aload_n hx hb dX7_set_19 rfl (lv_at hl 0 rfl) ?_
      refine lv_iconst (v := 1) hx hb dX7_set_20 (by decide) ?_
      obtain ⟨q20, e21, h⟩ := z_bnd h
      refine iv_X7_65 hc hI (c_X7_find e21) (z_room (by decide) (by decide)) hl.1 (Nat.le_of_ble_eq_true rfl) ⟨Nat.zero_le _, Nat.zero_le _⟩ dX7_set_21 (fun H locs hI => ?_)
      obtain rfl := Option.some.inj h
      exact z_ri hc hI dX7_set_24
  · replace h := z_ift h c3
    refine lv_ldc (v := (-1000001)) hx hb hown (hts _ wd_5_5) dX7_set_7 ?_
    obtain rfl := Option.some.inj h
    exact z_ri hc hI dX7_set_9
set_option maxRecDepth 100000 in
set_option maxHeartbeats 4000000 in
theorem w_X7_copy_b35 (hc : z_C p s m args meth c RX7 cX7_copy 7 (some .int)) {out : (Int32 × z_M)} (M : z_M) (H : Heap) (locs : List Loc) (ls : Array Slot) (h : F_X7_copy_b35 M = some out) (hI : z_I G s M H locs) (hl : lv_has ls 7 [(0, .ref (z_ad G 21 0))]) : W p l e (z_rm 3) s m args below meth c H locs 0 0 (MQ below (z_Q G (some (.int out.1)) out.2) args s 0 0 (z_A G)) (F0 m 35 ls []) := by
  obtain ⟨⟨hx, hb, hml, hown, hts⟩, hr, hlk⟩ := id hc
  unfold F_X7_copy_b35 at h
  refine lv_aload_n hx hb dX7_copy_35 rfl (lv_at hl 0 rfl) ?_
  refine lv_iconst (v := 1) hx hb dX7_copy_36 (by decide) ?_
  obtain ⟨q9, e10, h⟩ := z_bnd h
  refine iv_X7_65 hc hI (c_X7_find e10) (z_room (by decide) (by decide)) hl.1 (Nat.le_of_ble_eq_true rfl) ⟨Nat.zero_le _, Nat.zero_le _⟩ dX7_copy_37 (fun H locs hI => ?_)
  obtain rfl := Option.some.inj h
  exact z_ri hc hI dX7_copy_40
set_option maxRecDepth 100000 in
set_option maxHeartbeats 4000000 in
theorem w_X7_copy_b108 (hc : z_C p s m args meth c RX7 cX7_copy 7 (some .int)) {out : (Int32 × z_M)} (M : z_M) (H : Heap) (locs : List Loc) (ls : Array Slot) (h : F_X7_copy_b108 M = some out) (hI : z_I G s M H locs) (hl : lv_has ls 7 [(0, .ref (z_ad G 21 0))]) : W p l e (z_rm 3) s m args below meth c H locs 0 0 (MQ below (z_Q G (some (.int out.1)) out.2) args s 0 0 (z_A G)) (F0 m 108 ls []) := by
  obtain ⟨⟨hx, hb, hml, hown, hts⟩, hr, hlk⟩ := id hc
  unfold F_X7_copy_b108 at h
  refine lv_aload_n hx hb dX7_copy_108 rfl (lv_at hl 0 rfl) ?_
  refine lv_iconst (v := 2) hx hb dX7_copy_109 (by decide) ?_
  obtain ⟨q17, e18, h⟩ := z_bnd h
  refine iv_X7_65 hc hI (c_X7_find e18) (z_room (by decide) (by decide)) hl.1 (Nat.le_of_ble_eq_true rfl) ⟨Nat.zero_le _, Nat.zero_le _⟩ dX7_copy_110 (fun H locs hI => ?_)
  obtain rfl := Option.some.inj h
  exact z_ri hc hI dX7_copy_113
set_option maxRecDepth 100000 in
set_option maxHeartbeats 4000000 in
theorem w_X7_copy_b154 (hc : z_C p s m args meth c RX7 cX7_copy 7 (some .int)) {out : (Int32 × z_M)} : ∀ (n : Nat) (v3 : Int32) (v4 : Int32) (v5 : Int32) (v6 : Int32) (M : z_M) (H : Heap) (locs : List Loc) (ls : Array Slot) (h : F_X7_copy_b154 n v3 v4 v5 v6 M = some out) (hI : z_I G s M H locs) (hl : lv_has ls 7 [(0, .ref (z_ad G 21 0)), (3, .int v3), (4, .int v4), (5, .int v5), (6, .int v6)]), W p l e (z_rm 3) s m args below meth c H locs 0 0 (MQ below (z_Q G (some (.int out.1)) out.2) args s 0 0 (z_A G)) (F0 m 154 ls []) := by
  obtain ⟨⟨hx, hb, hml, hown, hts⟩, hr, hlk⟩ := id hc
  intro n
  induction n with
  | zero => intro v3 v4 v5 v6 M H locs ls h; cases h
  | succ n ih =>
    intro v3 v4 v5 v6 M H locs ls h hI hl
    rw [F_X7_copy_b154] at h
    refine lv_iload hx hb dX7_copy_154 (lv_at hl 4 rfl) ?_
    refine lv_iload hx hb dX7_copy_156 (lv_at hl 3 rfl) ?_
    refine lv_icmp_ge (tgt := 189) hx hb dX7_copy_158 (by decide) (fun c28 => ?_) (fun c28 => ?_)
    · replace h := z_ift h c28
      refine lv_aload_n hx hb dX7_copy_189 rfl (lv_at hl 0 rfl) ?_
      refine lv_iload hx hb dX7_copy_190 (lv_at hl 3 rfl) ?_
      obtain ⟨q29, e30, h⟩ := z_bnd h
      refine iv_X7_69 hc hI (c_X7_well e30) (z_room (by decide) (by decide)) hl.1 (Nat.le_of_ble_eq_true rfl) ⟨Nat.zero_le _, Nat.zero_le _⟩ dX7_copy_192 (fun H locs hI => ?_)
      obtain rfl := Option.some.inj h
      exact z_ri hc hI dX7_copy_195
    · replace h := z_iff h c28
      refine lv_aload_n hx hb dX7_copy_161 rfl (lv_at hl 0 rfl) ?_
      refine gf_X7_16 hc hI dX7_copy_162 ?_
      refine lv_bipush (v := 40) hx hb dX7_copy_165 (by decide) ?_
      refine lv_iload_n hx hb dX7_copy_167 rfl (lv_at hl 1 rfl) ?_
      refine lv_imul hx hb dX7_copy_168 ?_
      refine lv_iload hx hb dX7_copy_169 (lv_at hl 2 rfl) ?_
      refine lv_iadd hx hb dX7_copy_171 ?_
      refine lv_iload hx hb dX7_copy_172 (lv_at hl 4 rfl) ?_
      refine lv_iadd hx hb dX7_copy_174 ?_
      refine lv_aload_n hx hb dX7_copy_175 rfl (lv_at hl 0 rfl) ?_
      refine gf_X7_22 hc hI dX7_copy_176 ?_
      refine lv_iload hx hb dX7_copy_179 (lv_at hl 4 rfl) ?_
      obtain ⟨g31, h⟩ := z_grd_some h
      refine ld_k26 hc hI g31 dX7_copy_181 ?_
      obtain ⟨g32, h⟩ := z_grd_some h
      refine st_k24 hc hI g32 dX7_copy_182 (fun H locs hI => ?_)
      refine lv_iinc (v := v6 + 1) (lv' := [(6, .int (v6 + 1)), (0, .ref (z_ad G 21 0)), (3, .int v3), (4, .int v4), (5, .int v5)]) hx hb dX7_copy_183 hl (k := 4) rfl rfl (by decide) rfl (fun ls hl => ?_)
      refine lv_goto (tgt := 154) hx hb dX7_copy_186 (by decide) ?_
      exact ih v3 v4 v5 (v6 + 1) _ _ _ _ h hI (lv_sub hl [1, 2, 3, 4, 0] rfl)
set_option maxRecDepth 100000 in
set_option maxHeartbeats 4000000 in
theorem w_X7_copy_b117 (hc : z_C p s m args meth c RX7 cX7_copy 7 (some .int)) {out : (Int32 × z_M)} : ∀ (n : Nat) (v1 : Int32) (v2 : Int32) (v3 : Int32) (v4 : Int32) (v5 : Int32) (v6 : Int32) (M : z_M) (H : Heap) (locs : List Loc) (ls : Array Slot) (h : F_X7_copy_b117 n v1 v2 v3 v4 v5 v6 M = some out) (hI : z_I G s M H locs) (hl : lv_has ls 7 [(0, .ref (z_ad G 21 0)), (1, .int v1), (2, .int v2), (3, .int v3), (4, .int v4), (5, .int v5), (6, .int v6)]), W p l e (z_rm 3) s m args below meth c H locs 0 0 (MQ below (z_Q G (some (.int out.1)) out.2) args s 0 0 (z_A G)) (F0 m 117 ls []) := by
  obtain ⟨⟨hx, hb, hml, hown, hts⟩, hr, hlk⟩ := id hc
  intro n
  induction n with
  | zero => intro v1 v2 v3 v4 v5 v6 M H locs ls h; cases h
  | succ n ih =>
    intro v1 v2 v3 v4 v5 v6 M H locs ls h hI hl
    rw [F_X7_copy_b117] at h
    refine lv_iload hx hb dX7_copy_117 (lv_at hl 6 rfl) ?_
    refine lv_iload hx hb dX7_copy_119 (lv_at hl 5 rfl) ?_
    refine lv_icmp_ge (tgt := 151) hx hb dX7_copy_121 (by decide) (fun c27 => ?_) (fun c27 => ?_)
    · replace h := z_ift h c27
      refine lv_iconst (v := 0) hx hb dX7_copy_151 (by decide) ?_
      refine lv_istore (lv' := [(6, .int 0), (0, .ref (z_ad G 21 0)), (1, .int v1), (2, .int v2), (3, .int v3), (4, .int v4), (5, .int v5)]) hx hb dX7_copy_152 hl (by decide) rfl (fun ls hl => ?_)
      exact w_X7_copy_b154 hc _ v3 v4 v5 0 _ _ _ _ h hI (lv_sub hl [1, 4, 5, 6, 0] rfl)
    · replace h := z_iff h c27
      refine lv_aload_n hx hb dX7_copy_124 rfl (lv_at hl 0 rfl) ?_
      refine gf_X7_22 hc hI dX7_copy_125 ?_
      refine lv_iload hx hb dX7_copy_128 (lv_at hl 6 rfl) ?_
      refine lv_aload_n hx hb dX7_copy_130 rfl (lv_at hl 0 rfl) ?_
      refine gf_X7_16 hc hI dX7_copy_131 ?_
      refine lv_bipush (v := 40) hx hb dX7_copy_134 (by decide) ?_
      refine lv_iload_n hx hb dX7_copy_136 rfl (lv_at hl 1 rfl) ?_
      refine lv_imul hx hb dX7_copy_137 ?_
      refine lv_iload_n hx hb dX7_copy_138 rfl (lv_at hl 2 rfl) ?_
      refine lv_iadd hx hb dX7_copy_139 ?_
      refine lv_iload hx hb dX7_copy_140 (lv_at hl 6 rfl) ?_
      refine lv_iadd hx hb dX7_copy_142 ?_
      obtain ⟨g33, h⟩ := z_grd_some h
      refine ld_k24 hc hI g33 dX7_copy_143 ?_
      obtain ⟨g34, h⟩ := z_grd_some h
      refine st_k26 hc hI g34 dX7_copy_144 (fun H locs hI => ?_)
      refine lv_iinc (v := v6 + 1) (lv' := [(6, .int (v6 + 1)), (0, .ref (z_ad G 21 0)), (1, .int v1), (2, .int v2), (3, .int v3), (4, .int v4), (5, .int v5)]) hx hb dX7_copy_145 hl (k := 6) rfl rfl (by decide) rfl (fun ls hl => ?_)
      refine lv_goto (tgt := 117) hx hb dX7_copy_148 (by decide) ?_
      exact ih v1 v2 v3 v4 v5 (v6 + 1) _ _ _ _ h hI (lv_sub hl [1, 2, 3, 4, 5, 6, 0] rfl)
set_option maxRecDepth 100000 in
set_option maxHeartbeats 4000000 in
theorem c_X7_copy {G : z_G} {l : Launch} {a1 : Int32} {a2 : Int32} {a3 : Int32} {a4 : Int32} {a5 : Int32} {M : z_M} {out : (Int32 × z_M)} (h : F_X7_copy a1 a2 a3 a4 a5 M = some out) : z_Met G l yX7_copy cX7_copy 7 (some .int) 3 [.ref (z_ad G 21 0), .int a1, .int a2, .int a3, .int a4, .int a5] M (some (.int out.1)) out.2 := by
  unfold F_X7_copy at h
  refine z_met_of (by decide) rfl (Nat.le_of_ble_eq_true rfl) (fun p e s m below meth c ls hc hI hl => ?_)
  obtain ⟨⟨hx, hb, hml, hown, hts⟩, hr, hlk⟩ := id hc
  have hl : lv_has ls 7 [(0, .ref (z_ad G 21 0)), (1, .int a1), (2, .int a2), (3, .int a3), (4, .int a4), (5, .int a5)] := hl
  refine lv_iload_n hx hb dX7_copy_0 rfl (lv_at hl 1 rfl) ?_
  obtain ⟨q1, e2, h⟩ := z_bnd h
  refine iv_X7_58 hc hI (c_X7_isRow e2) (z_room (by decide) (by decide)) hl.1 (Nat.le_of_ble_eq_true rfl) ⟨Nat.zero_le _, Nat.zero_le _⟩ dX7_copy_1 (fun H locs hI => ?_)
  refine lv_if_eq (tgt := 14) hx hb dX7_copy_4 (by decide) (fun c3 => ?_) (fun c3 => ?_)
  · replace h := z_ift h c3
    refine lv_ldc (v := (-1000001)) hx hb hown (hts _ wd_5_5) dX7_copy_14 ?_
    obtain rfl := Option.some.inj h
    exact z_ri hc hI dX7_copy_16
  · replace h := z_iff h c3
    refine lv_iload_n hx hb dX7_copy_7 rfl (lv_at hl 3 rfl) ?_
    obtain ⟨q4, e5, h⟩ := z_bnd h
    refine iv_X7_58 hc hI (c_X7_isRow e5) (z_room (by decide) (by decide)) hl.1 (Nat.le_of_ble_eq_true rfl) ⟨Nat.zero_le _, Nat.zero_le _⟩ dX7_copy_8 (fun H locs hI => ?_)
    refine lv_if_ne (tgt := 17) hx hb dX7_copy_11 (by decide) (fun c6 => ?_) (fun c6 => ?_)
    · replace h := z_iff h c6
      refine lv_aload_n hx hb dX7_copy_17 rfl (lv_at hl 0 rfl) ?_
      refine gf_X7_13 hc hI dX7_copy_18 ?_
      refine lv_iload_n hx hb dX7_copy_21 rfl (lv_at hl 1 rfl) ?_
      obtain ⟨g7, h⟩ := z_grd_some h
      refine ld_k23 hc hI g7 dX7_copy_22 ?_
      refine lv_if_lt (tgt := 35) hx hb dX7_copy_23 (by decide) (fun c8 => ?_) (fun c8 => ?_)
      · replace h := z_ift h c8
        exact w_X7_copy_b35 hc _ _ _ _ h hI (lv_sub hl [0] rfl)
      · replace h := z_iff h c8
        refine lv_aload_n hx hb dX7_copy_26 rfl (lv_at hl 0 rfl) ?_
        refine gf_X7_13 hc hI dX7_copy_27 ?_
        refine lv_iload_n hx hb dX7_copy_30 rfl (lv_at hl 3 rfl) ?_
        obtain ⟨g11, h⟩ := z_grd_some h
        refine ld_k23 hc hI g11 dX7_copy_31 ?_
        refine lv_if_ge (tgt := 41) hx hb dX7_copy_32 (by decide) (fun c12 => ?_) (fun c12 => ?_)
        · replace h := z_ift h c12
          refine lv_aload_n hx hb dX7_copy_41 rfl (lv_at hl 0 rfl) ?_
          refine gf_X7_7 hc hI dX7_copy_42 ?_
          refine lv_iload_n hx hb dX7_copy_45 rfl (lv_at hl 1 rfl) ?_
          obtain ⟨g13, h⟩ := z_grd_some h
          refine ld_k22 hc hI g13 dX7_copy_46 ?_
          refine lv_aload_n hx hb dX7_copy_47 rfl (lv_at hl 0 rfl) ?_
          refine gf_X7_7 hc hI dX7_copy_48 ?_
          refine lv_iload_n hx hb dX7_copy_51 rfl (lv_at hl 3 rfl) ?_
          obtain ⟨g14, h⟩ := z_grd_some h
          refine ld_k22 hc hI g14 dX7_copy_52 ?_
          refine lv_icmp_eq (tgt := 62) hx hb dX7_copy_53 (by decide) (fun c15 => ?_) (fun c15 => ?_)
          · replace h := z_ift h c15
            refine lv_iload hx hb dX7_copy_62 (lv_at hl 5 rfl) ?_
            refine lv_if_lt (tgt := 108) hx hb dX7_copy_64 (by decide) (fun c16 => ?_) (fun c16 => ?_)
            · replace h := z_ift h c16
              exact w_X7_copy_b108 hc _ _ _ _ h hI (lv_sub hl [0] rfl)
            · replace h := z_iff h c16
              refine lv_iload_n hx hb dX7_copy_67 rfl (lv_at hl 2 rfl) ?_
              refine lv_i2l (v := a2.toInt64) hx hb dX7_copy_68 rfl ?_
              refine lv_lconst (v := 0) hx hb dX7_copy_69 (by decide) ?_
              refine lv_aload_n hx hb dX7_copy_70 rfl (lv_at hl 0 rfl) ?_
              refine gf_X7_13 hc hI dX7_copy_71 ?_
              refine lv_iload_n hx hb dX7_copy_74 rfl (lv_at hl 1 rfl) ?_
              obtain ⟨g19, h⟩ := z_grd_some h
              refine ld_k23 hc hI g19 dX7_copy_75 ?_
              refine lv_i2l (v := (z_gi M 23 0 a1.toNatClampNeg).toInt64) hx hb dX7_copy_76 rfl ?_
              refine lv_iload hx hb dX7_copy_77 (lv_at hl 5 rfl) ?_
              refine lv_i2l (v := a5.toInt64) hx hb dX7_copy_79 rfl ?_
              refine lv_lsub hx hb dX7_copy_80 ?_
              obtain ⟨q20, e21, h⟩ := z_bnd h
              refine iv_X7_54 hc hI (c_X7_in e21) (z_room (by decide) (by decide)) hl.1 (Nat.le_of_ble_eq_true rfl) ⟨Nat.zero_le _, Nat.zero_le _⟩ dX7_copy_81 (fun H locs hI => ?_)
              refine lv_if_eq (tgt := 108) hx hb dX7_copy_84 (by decide) (fun c22 => ?_) (fun c22 => ?_)
              · replace h := z_ift h c22
                exact w_X7_copy_b108 hc _ _ _ _ h hI (lv_sub hl [0] rfl)
              · replace h := z_iff h c22
                refine lv_iload hx hb dX7_copy_87 (lv_at hl 4 rfl) ?_
                refine lv_i2l (v := a4.toInt64) hx hb dX7_copy_89 rfl ?_
                refine lv_lconst (v := 0) hx hb dX7_copy_90 (by decide) ?_
                refine lv_aload_n hx hb dX7_copy_91 rfl (lv_at hl 0 rfl) ?_
                refine gf_X7_13 hc hI dX7_copy_92 ?_
                refine lv_iload_n hx hb dX7_copy_95 rfl (lv_at hl 3 rfl) ?_
                obtain ⟨g23, h⟩ := z_grd_some h
                refine ld_k23 hc hI g23 dX7_copy_96 ?_
                refine lv_i2l (v := (z_gi M 23 0 a3.toNatClampNeg).toInt64) hx hb dX7_copy_97 rfl ?_
                refine lv_iload hx hb dX7_copy_98 (lv_at hl 5 rfl) ?_
                refine lv_i2l (v := a5.toInt64) hx hb dX7_copy_100 rfl ?_
                refine lv_lsub hx hb dX7_copy_101 ?_
                obtain ⟨q24, e25, h⟩ := z_bnd h
                refine iv_X7_54 hc hI (c_X7_in e25) (z_room (by decide) (by decide)) hl.1 (Nat.le_of_ble_eq_true rfl) ⟨Nat.zero_le _, Nat.zero_le _⟩ dX7_copy_102 (fun H locs hI => ?_)
                refine lv_if_ne (tgt := 114) hx hb dX7_copy_105 (by decide) (fun c26 => ?_) (fun c26 => ?_)
                · replace h := z_iff h c26
                  refine lv_iconst (v := 0) hx hb dX7_copy_114 (by decide) ?_
                  refine lv_istore (lv' := [(6, .int 0), (0, .ref (z_ad G 21 0)), (1, .int a1), (2, .int a2), (3, .int a3), (4, .int a4), (5, .int a5)]) hx hb dX7_copy_115 hl (by decide) rfl (fun ls hl => ?_)
                  exact w_X7_copy_b117 hc _ a1 a2 a3 a4 a5 0 _ _ _ _ h hI (lv_sub hl [1, 2, 3, 4, 5, 6, 0] rfl)
                · replace h := z_ift h c26
                  exact w_X7_copy_b108 hc _ _ _ _ h hI (lv_sub hl [0] rfl)
          · replace h := z_iff h c15
            refine lv_aload_n hx hb dX7_copy_56 rfl (lv_at hl 0 rfl) ?_
            refine lv_iconst (v := 5) hx hb dX7_copy_57 (by decide) ?_
            obtain ⟨q35, e36, h⟩ := z_bnd h
            refine iv_X7_65 hc hI (c_X7_find e36) (z_room (by decide) (by decide)) hl.1 (Nat.le_of_ble_eq_true rfl) ⟨Nat.zero_le _, Nat.zero_le _⟩ dX7_copy_58 (fun H locs hI => ?_)
            obtain rfl := Option.some.inj h
            exact z_ri hc hI dX7_copy_61
        · replace h := z_iff h c12
          exact w_X7_copy_b35 hc _ _ _ _ h hI (lv_sub hl [0] rfl)
    · replace h := z_ift h c6
      refine lv_ldc (v := (-1000001)) hx hb hown (hts _ wd_5_5) dX7_copy_14 ?_
      obtain rfl := Option.some.inj h
      exact z_ri hc hI dX7_copy_16
set_option maxRecDepth 100000 in
set_option maxHeartbeats 4000000 in
theorem c_X7_drop {G : z_G} {l : Launch} {a1 : Int32} {M : z_M} {out : (Int32 × z_M)} (h : F_X7_drop a1 M = some out) : z_Met G l yX7_drop cX7_drop 3 (some .int) 3 [.ref (z_ad G 21 0), .int a1] M (some (.int out.1)) out.2 := by
  unfold F_X7_drop at h
  refine z_met_of (by decide) rfl (Nat.le_of_ble_eq_true rfl) (fun p e s m below meth c ls hc hI hl => ?_)
  obtain ⟨⟨hx, hb, hml, hown, hts⟩, hr, hlk⟩ := id hc
  have hl : lv_has ls 3 [(0, .ref (z_ad G 21 0)), (1, .int a1)] := hl
  refine lv_iload_n hx hb dX7_drop_0 rfl (lv_at hl 1 rfl) ?_
  obtain ⟨q1, e2, h⟩ := z_bnd h
  refine iv_X7_58 hc hI (c_X7_isRow e2) (z_room (by decide) (by decide)) hl.1 (Nat.le_of_ble_eq_true rfl) ⟨Nat.zero_le _, Nat.zero_le _⟩ dX7_drop_1 (fun H locs hI => ?_)
  refine lv_if_ne (tgt := 10) hx hb dX7_drop_4 (by decide) (fun c3 => ?_) (fun c3 => ?_)
  · replace h := z_iff h c3
    refine lv_aload_n hx hb dX7_drop_10 rfl (lv_at hl 0 rfl) ?_
    refine gf_X7_13 hc hI dX7_drop_11 ?_
    refine lv_iload_n hx hb dX7_drop_14 rfl (lv_at hl 1 rfl) ?_
    obtain ⟨g4, h⟩ := z_grd_some h
    refine ld_k23 hc hI g4 dX7_drop_15 ?_
    refine lv_if_ge (tgt := 25) hx hb dX7_drop_16 (by decide) (fun c5 => ?_) (fun c5 => ?_)
    · replace h := z_ift h c5
      refine lv_aload_n hx hb dX7_drop_25 rfl (lv_at hl 0 rfl) ?_
      refine gf_X7_13 hc hI dX7_drop_26 ?_
      refine lv_iload_n hx hb dX7_drop_29 rfl (lv_at hl 1 rfl) ?_
      obtain ⟨g6, h⟩ := z_grd_some h
      refine ld_k23 hc hI g6 dX7_drop_30 ?_
      refine z_nI h (fun x7 h => ?_)
      refine lv_istore_n (lv' := [(2, .int x7), (0, .ref (z_ad G 21 0)), (1, .int a1)]) hx hb dX7_drop_31 rfl hl (by decide) rfl (fun ls hl => ?_)
      refine lv_aload_n hx hb dX7_drop_32 rfl (lv_at hl 1 rfl) ?_
      refine gf_X7_13 hc hI dX7_drop_33 ?_
      refine lv_iload_n hx hb dX7_drop_36 rfl (lv_at hl 2 rfl) ?_
      refine lv_iconst (v := (-1)) hx hb dX7_drop_37 (by decide) ?_
      obtain ⟨g8, h⟩ := z_grd_some h
      refine st_k23 hc hI g8 dX7_drop_38 (fun H locs hI => ?_)
      refine lv_aload_n hx hb dX7_drop_39 rfl (lv_at hl 1 rfl) ?_
      refine lv_iload_n hx hb dX7_drop_40 rfl (lv_at hl 0 rfl) ?_
      obtain ⟨q9, e10, h⟩ := z_bnd h
      refine iv_X7_69 hc hI (c_X7_well e10) (z_room (by decide) (by decide)) hl.1 (Nat.le_of_ble_eq_true rfl) ⟨Nat.zero_le _, Nat.zero_le _⟩ dX7_drop_41 (fun H locs hI => ?_)
      obtain rfl := Option.some.inj h
      exact z_ri hc hI dX7_drop_44
    · replace h := z_iff h c5
      refine lv_aload_n hx hb dX7_drop_19 rfl (lv_at hl 0 rfl) ?_
      refine lv_iconst (v := 1) hx hb dX7_drop_20 (by decide) ?_
      obtain ⟨q11, e12, h⟩ := z_bnd h
      refine iv_X7_65 hc hI (c_X7_find e12) (z_room (by decide) (by decide)) hl.1 (Nat.le_of_ble_eq_true rfl) ⟨Nat.zero_le _, Nat.zero_le _⟩ dX7_drop_21 (fun H locs hI => ?_)
      obtain rfl := Option.some.inj h
      exact z_ri hc hI dX7_drop_24
  · replace h := z_ift h c3
    refine lv_ldc (v := (-1000001)) hx hb hown (hts _ wd_5_5) dX7_drop_7 ?_
    obtain rfl := Option.some.inj h
    exact z_ri hc hI dX7_drop_9
set_option maxRecDepth 100000 in
set_option maxHeartbeats 4000000 in
theorem c_X7_feed {G : z_G} {l : Launch} {a1 : Int32} {M : z_M} {out : (Int32 × z_M)} (h : F_X7_feed a1 M = some out) : z_Met G l yX7_feed cX7_feed 2 (some .int) 2 [.ref (z_ad G 21 0), .int a1] M (some (.int out.1)) out.2 := by
  unfold F_X7_feed at h
  refine z_met_of (by decide) rfl (Nat.le_of_ble_eq_true rfl) (fun p e s m below meth c ls hc hI hl => ?_)
  obtain ⟨⟨hx, hb, hml, hown, hts⟩, hr, hlk⟩ := id hc
  have hl : lv_has ls 2 [(0, .ref (z_ad G 21 0)), (1, .int a1)] := hl
  refine lv_iload_n hx hb dX7_feed_0 rfl (lv_at hl 1 rfl) ?_
  refine lv_i2l (v := a1.toInt64) hx hb dX7_feed_1 rfl ?_
  refine lv_lconst (v := 0) hx hb dX7_feed_2 (by decide) ?_
  refine lv_ldc2 (v := 255) hx hb hown (hts _ wd_5_34) dX7_feed_3 ?_
  obtain ⟨q1, e2, h⟩ := z_bnd h
  refine iv_X7_54 hc hI (c_X7_in e2) (z_room (by decide) (by decide)) hl.1 (Nat.le_of_ble_eq_true rfl) ⟨Nat.zero_le _, Nat.zero_le _⟩ dX7_feed_6 (fun H locs hI => ?_)
  refine lv_if_ne (tgt := 15) hx hb dX7_feed_9 (by decide) (fun c3 => ?_) (fun c3 => ?_)
  · replace h := z_iff h c3
    refine lv_aload_n hx hb dX7_feed_15 rfl (lv_at hl 0 rfl) ?_
    refine gf_X7_78 hc hI dX7_feed_16 ?_
    refine lv_bipush (v := 100) hx hb dX7_feed_19 (by decide) ?_
    refine lv_icmp_ne (tgt := 27) hx hb dX7_feed_21 (by decide) (fun c4 => ?_) (fun c4 => ?_)
    · replace h := z_iff h c4
      refine lv_aload_n hx hb dX7_feed_27 rfl (lv_at hl 0 rfl) ?_
      refine gf_X7_25 hc hI dX7_feed_28 ?_
      refine lv_aload_n hx hb dX7_feed_31 rfl (lv_at hl 0 rfl) ?_
      refine gf_X7_78 hc hI dX7_feed_32 ?_
      refine lv_iload_n hx hb dX7_feed_35 rfl (lv_at hl 1 rfl) ?_
      obtain ⟨g5, h⟩ := z_grd_some h
      refine st_k27 hc hI g5 dX7_feed_36 (fun H locs hI => ?_)
      refine lv_aload_n hx hb dX7_feed_37 rfl (lv_at hl 0 rfl) ?_
      refine lv_dup hx hb dX7_feed_38 rfl ?_
      obtain ⟨M6, h, hI⟩ := z_nM h hI
      refine gf_X7_78 hc hI dX7_feed_39 ?_
      refine lv_iconst (v := 1) hx hb dX7_feed_42 (by decide) ?_
      refine lv_iadd hx hb dX7_feed_43 ?_
      refine pf_X7_78 hc hI dX7_feed_44 (fun H locs hI => ?_)
      refine lv_aload_n hx hb dX7_feed_47 rfl (lv_at hl 0 rfl) ?_
      obtain ⟨M7, h, hI⟩ := z_nM h hI
      refine gf_X7_78 hc hI dX7_feed_48 ?_
      obtain rfl := Option.some.inj h
      exact z_ri hc hI dX7_feed_51
    · replace h := z_ift h c4
      refine lv_ldc (v := (-1000003)) hx hb hown (hts _ wd_5_35) dX7_feed_24 ?_
      obtain rfl := Option.some.inj h
      exact z_ri hc hI dX7_feed_26
  · replace h := z_ift h c3
    refine lv_ldc (v := (-1000001)) hx hb hown (hts _ wd_5_5) dX7_feed_12 ?_
    obtain rfl := Option.some.inj h
    exact z_ri hc hI dX7_feed_14
set_option maxRecDepth 100000 in
set_option maxHeartbeats 4000000 in
theorem w_X7_nextToken_b216 (hc : z_C p s m args meth c RX7 cX7_nextToken 1 none) {out : z_M} (s0 : Int32) (M : z_M) (H : Heap) (locs : List Loc) (ls : Array Slot) (h : F_X7_nextToken_b216 s0 M = some out) (hI : z_I G s M H locs) (hl : lv_has ls 1 [(0, .ref (z_ad G 21 0))]) : W p l e (z_rm 2) s m args below meth c H locs 0 0 (MQ below (z_Q G (none) out) args s 0 0 (z_A G)) (F0 m 216 ls [.int s0, .ref (z_ad G 21 0)]) := by
  obtain ⟨⟨hx, hb, hml, hown, hts⟩, hr, hlk⟩ := id hc
  unfold F_X7_nextToken_b216 at h
  refine pf_X7_88 hc hI dX7_nextToken_216 (fun H locs hI => ?_)
  refine lv_aload_n hx hb dX7_nextToken_219 rfl (lv_at hl 0 rfl) ?_
  refine lv_dup hx hb dX7_nextToken_220 rfl ?_
  obtain ⟨M12, h, hI⟩ := z_nM h hI
  refine gf_X7_82 hc hI dX7_nextToken_221 ?_
  refine lv_iconst (v := 1) hx hb dX7_nextToken_224 (by decide) ?_
  refine lv_iadd hx hb dX7_nextToken_225 ?_
  refine pf_X7_82 hc hI dX7_nextToken_226 (fun H locs hI => ?_)
  obtain rfl := Option.some.inj h
  exact z_rv hc hI dX7_nextToken_229
set_option maxRecDepth 100000 in
set_option maxHeartbeats 4000000 in
theorem w_X7_nextToken_b211 (hc : z_C p s m args meth c RX7 cX7_nextToken 1 none) {out : z_M} (M : z_M) (H : Heap) (locs : List Loc) (ls : Array Slot) (h : F_X7_nextToken_b211 M = some out) (hI : z_I G s M H locs) (hl : lv_has ls 1 [(0, .ref (z_ad G 21 0))]) : W p l e (z_rm 2) s m args below meth c H locs 0 0 (MQ below (z_Q G (none) out) args s 0 0 (z_A G)) (F0 m 211 ls [.ref (z_ad G 21 0)]) := by
  obtain ⟨⟨hx, hb, hml, hown, hts⟩, hr, hlk⟩ := id hc
  unfold F_X7_nextToken_b211 at h
  refine lv_iconst (v := 1) hx hb dX7_nextToken_211 (by decide) ?_
  refine lv_goto (tgt := 216) hx hb dX7_nextToken_212 (by decide) ?_
  exact w_X7_nextToken_b216 hc 1 _ _ _ _ h hI hl
set_option maxRecDepth 100000 in
set_option maxHeartbeats 4000000 in
theorem w_X7_nextToken_b149 (hc : z_C p s m args meth c RX7 cX7_nextToken 1 none) {out : z_M} (s0 : Int32) (M : z_M) (H : Heap) (locs : List Loc) (ls : Array Slot) (h : F_X7_nextToken_b149 s0 M = some out) (hI : z_I G s M H locs) (hl : lv_has ls 1 []) : W p l e (z_rm 2) s m args below meth c H locs 0 0 (MQ below (z_Q G (none) out) args s 0 0 (z_A G)) (F0 m 149 ls [.int s0, .ref (z_ad G 21 0)]) := by
  obtain ⟨⟨hx, hb, hml, hown, hts⟩, hr, hlk⟩ := id hc
  unfold F_X7_nextToken_b149 at h
  refine pf_X7_88 hc hI dX7_nextToken_149 (fun H locs hI => ?_)
  refine lv_goto (tgt := 229) hx hb dX7_nextToken_152 (by decide) ?_
  obtain rfl := Option.some.inj h
  exact z_rv hc hI dX7_nextToken_229
set_option maxRecDepth 100000 in
set_option maxHeartbeats 4000000 in
theorem w_X7_nextToken_b119 (hc : z_C p s m args meth c RX7 cX7_nextToken 1 none) {out : z_M} (M : z_M) (H : Heap) (locs : List Loc) (ls : Array Slot) (h : F_X7_nextToken_b119 M = some out) (hI : z_I G s M H locs) (hl : lv_has ls 1 [(0, .ref (z_ad G 21 0))]) : W p l e (z_rm 2) s m args below meth c H locs 0 0 (MQ below (z_Q G (none) out) args s 0 0 (z_A G)) (F0 m 119 ls []) := by
  obtain ⟨⟨hx, hb, hml, hown, hts⟩, hr, hlk⟩ := id hc
  unfold F_X7_nextToken_b119 at h
  refine lv_aload_n hx hb dX7_nextToken_119 rfl (lv_at hl 0 rfl) ?_
  refine gf_X7_82 hc hI dX7_nextToken_120 ?_
  refine lv_aload_n hx hb dX7_nextToken_123 rfl (lv_at hl 0 rfl) ?_
  refine gf_X7_85 hc hI dX7_nextToken_124 ?_
  refine lv_icmp_le (tgt := 155) hx hb dX7_nextToken_127 (by decide) (fun c5 => ?_) (fun c5 => ?_)
  · replace h := z_ift h c5
    refine lv_aload_n hx hb dX7_nextToken_155 rfl (lv_at hl 0 rfl) ?_
    refine gf_X7_88 hc hI dX7_nextToken_156 ?_
    refine lv_if_ne (tgt := 229) hx hb dX7_nextToken_159 (by decide) (fun c6 => ?_) (fun c6 => ?_)
    · replace h := z_iff h c6
      obtain rfl := Option.some.inj h
      exact z_rv hc hI dX7_nextToken_229
    · replace h := z_ift h c6
      refine lv_aload_n hx hb dX7_nextToken_162 rfl (lv_at hl 0 rfl) ?_
      refine lv_aload_n hx hb dX7_nextToken_163 rfl (lv_at hl 0 rfl) ?_
      refine gf_X7_25 hc hI dX7_nextToken_164 ?_
      refine lv_aload_n hx hb dX7_nextToken_167 rfl (lv_at hl 0 rfl) ?_
      refine gf_X7_82 hc hI dX7_nextToken_168 ?_
      obtain ⟨g7, h⟩ := z_grd_some h
      refine ld_k27 hc hI g7 dX7_nextToken_171 ?_
      refine pf_X7_91 hc hI dX7_nextToken_172 (fun H locs hI => ?_)
      refine lv_aload_n hx hb dX7_nextToken_175 rfl (lv_at hl 0 rfl) ?_
      refine lv_aload_n hx hb dX7_nextToken_176 rfl (lv_at hl 0 rfl) ?_
      obtain ⟨M8, h, hI⟩ := z_nM h hI
      refine gf_X7_91 hc hI dX7_nextToken_177 ?_
      refine lv_i2l (v := (z_gi M8 21 0 12).toInt64) hx hb dX7_nextToken_180 rfl ?_
      refine lv_ldc2 (v := 97) hx hb hown (hts _ wd_5_50) dX7_nextToken_181 ?_
      refine lv_ldc2 (v := 122) hx hb hown (hts _ wd_5_51) dX7_nextToken_184 ?_
      obtain ⟨q9, e10, h⟩ := z_bnd h
      refine iv_X7_54 hc hI (c_X7_in e10) (z_room (by decide) (by decide)) hl.1 (Nat.le_of_ble_eq_true rfl) ⟨Nat.zero_le _, Nat.zero_le _⟩ dX7_nextToken_187 (fun H locs hI => ?_)
      refine lv_if_ne (tgt := 211) hx hb dX7_nextToken_190 (by decide) (fun c11 => ?_) (fun c11 => ?_)
      · replace h := z_iff h c11
        exact w_X7_nextToken_b211 hc _ _ _ _ h hI hl
      · replace h := z_ift h c11
        refine lv_aload_n hx hb dX7_nextToken_193 rfl (lv_at hl 0 rfl) ?_
        refine gf_X7_91 hc hI dX7_nextToken_194 ?_
        refine lv_bipush (v := 44) hx hb dX7_nextToken_197 (by decide) ?_
        refine lv_icmp_eq (tgt := 211) hx hb dX7_nextToken_199 (by decide) (fun c13 => ?_) (fun c13 => ?_)
        · replace h := z_ift h c13
          exact w_X7_nextToken_b211 hc _ _ _ _ h hI hl
        · replace h := z_iff h c13
          refine lv_aload_n hx hb dX7_nextToken_202 rfl (lv_at hl 0 rfl) ?_
          refine gf_X7_91 hc hI dX7_nextToken_203 ?_
          refine lv_bipush (v := 59) hx hb dX7_nextToken_206 (by decide) ?_
          refine lv_icmp_ne (tgt := 215) hx hb dX7_nextToken_208 (by decide) (fun c14 => ?_) (fun c14 => ?_)
          · replace h := z_iff h c14
            refine lv_iconst (v := 0) hx hb dX7_nextToken_215 (by decide) ?_
            exact w_X7_nextToken_b216 hc 0 _ _ _ _ h hI hl
          · replace h := z_ift h c14
            exact w_X7_nextToken_b211 hc _ _ _ _ h hI hl
  · replace h := z_iff h c5
    refine lv_aload_n hx hb dX7_nextToken_130 rfl (lv_at hl 0 rfl) ?_
    refine lv_aload_n hx hb dX7_nextToken_131 rfl (lv_at hl 0 rfl) ?_
    refine gf_X7_82 hc hI dX7_nextToken_132 ?_
    refine lv_aload_n hx hb dX7_nextToken_135 rfl (lv_at hl 0 rfl) ?_
    refine gf_X7_85 hc hI dX7_nextToken_136 ?_
    refine lv_isub hx hb dX7_nextToken_139 ?_
    refine lv_iconst (v := 2) hx hb dX7_nextToken_140 (by decide) ?_
    refine lv_icmp_le (tgt := 148) hx hb dX7_nextToken_141 (by decide) (fun c15 => ?_) (fun c15 => ?_)
    · replace h := z_ift h c15
      refine lv_iconst (v := 2) hx hb dX7_nextToken_148 (by decide) ?_
      exact w_X7_nextToken_b149 hc 2 _ _ _ _ h hI (lv_sub hl [] rfl)
    · replace h := z_iff h c15
      refine lv_iconst (v := 0) hx hb dX7_nextToken_144 (by decide) ?_
      refine lv_goto (tgt := 149) hx hb dX7_nextToken_145 (by decide) ?_
      exact w_X7_nextToken_b149 hc 0 _ _ _ _ h hI (lv_sub hl [] rfl)
set_option maxRecDepth 100000 in
set_option maxHeartbeats 4000000 in
theorem w_X7_nextToken_b103 (hc : z_C p s m args meth c RX7 cX7_nextToken 1 none) {out : z_M} {K33 : z_M → Option z_M} (hK33 : ∀ (M : z_M) (H : Heap) (locs : List Loc) (ls : Array Slot), K33 M = some out → z_I G s M H locs → lv_has ls 1 [(0, .ref (z_ad G 21 0))] → W p l e (z_rm 2) s m args below meth c H locs 0 0 (MQ below (z_Q G (none) out) args s 0 0 (z_A G)) (F0 m 33 ls [])) (s0 : Int32) (M : z_M) (H : Heap) (locs : List Loc) (ls : Array Slot) (h : F_X7_nextToken_b103 K33 s0 M = some out) (hI : z_I G s M H locs) (hl : lv_has ls 1 [(0, .ref (z_ad G 21 0))]) : W p l e (z_rm 2) s m args below meth c H locs 0 0 (MQ below (z_Q G (none) out) args s 0 0 (z_A G)) (F0 m 103 ls [.int s0, .ref (z_ad G 21 0)]) := by
  obtain ⟨⟨hx, hb, hml, hown, hts⟩, hr, hlk⟩ := id hc
  unfold F_X7_nextToken_b103 at h
  refine pf_X7_91 hc hI dX7_nextToken_103 (fun H locs hI => ?_)
  refine lv_aload_n hx hb dX7_nextToken_106 rfl (lv_at hl 0 rfl) ?_
  refine lv_dup hx hb dX7_nextToken_107 rfl ?_
  obtain ⟨M22, h, hI⟩ := z_nM h hI
  refine gf_X7_82 hc hI dX7_nextToken_108 ?_
  refine lv_iconst (v := 1) hx hb dX7_nextToken_111 (by decide) ?_
  refine lv_iadd hx hb dX7_nextToken_112 ?_
  refine pf_X7_82 hc hI dX7_nextToken_113 (fun H locs hI => ?_)
  refine lv_goto (tgt := 33) hx hb dX7_nextToken_116 (by decide) ?_
  exact hK33 _ _ _ _ h hI hl
set_option maxRecDepth 100000 in
set_option maxHeartbeats 4000000 in
theorem w_X7_nextToken_b33 (hc : z_C p s m args meth c RX7 cX7_nextToken 1 none) {out : z_M} : ∀ (n : Nat) (M : z_M) (H : Heap) (locs : List Loc) (ls : Array Slot) (h : F_X7_nextToken_b33 n M = some out) (hI : z_I G s M H locs) (hl : lv_has ls 1 [(0, .ref (z_ad G 21 0))]), W p l e (z_rm 2) s m args below meth c H locs 0 0 (MQ below (z_Q G (none) out) args s 0 0 (z_A G)) (F0 m 33 ls []) := by
  obtain ⟨⟨hx, hb, hml, hown, hts⟩, hr, hlk⟩ := id hc
  intro n
  induction n with
  | zero => intro M H locs ls h; cases h
  | succ n ih =>
    intro M H locs ls h hI hl
    rw [F_X7_nextToken_b33] at h
    refine lv_aload_n hx hb dX7_nextToken_33 rfl (lv_at hl 0 rfl) ?_
    refine gf_X7_82 hc hI dX7_nextToken_34 ?_
    refine lv_aload_n hx hb dX7_nextToken_37 rfl (lv_at hl 0 rfl) ?_
    refine gf_X7_78 hc hI dX7_nextToken_38 ?_
    refine lv_icmp_ge (tgt := 119) hx hb dX7_nextToken_41 (by decide) (fun c4 => ?_) (fun c4 => ?_)
    · replace h := z_ift h c4
      exact w_X7_nextToken_b119 hc _ _ _ _ h hI hl
    · replace h := z_iff h c4
      refine lv_aload_n hx hb dX7_nextToken_44 rfl (lv_at hl 0 rfl) ?_
      refine gf_X7_25 hc hI dX7_nextToken_45 ?_
      refine lv_aload_n hx hb dX7_nextToken_48 rfl (lv_at hl 0 rfl) ?_
      refine gf_X7_82 hc hI dX7_nextToken_49 ?_
      obtain ⟨g16, h⟩ := z_grd_some h
      refine ld_k27 hc hI g16 dX7_nextToken_52 ?_
      refine lv_i2l (v := (z_gi M 27 0 (z_gi M 21 0 10).toNatClampNeg).toInt64) hx hb dX7_nextToken_53 rfl ?_
      refine lv_ldc2 (v := 48) hx hb hown (hts _ wd_5_48) dX7_nextToken_54 ?_
      refine lv_ldc2 (v := 57) hx hb hown (hts _ wd_5_49) dX7_nextToken_57 ?_
      obtain ⟨q17, e18, h⟩ := z_bnd h
      refine iv_X7_54 hc hI (c_X7_in e18) (z_room (by decide) (by decide)) hl.1 (Nat.le_of_ble_eq_true rfl) ⟨Nat.zero_le _, Nat.zero_le _⟩ dX7_nextToken_60 (fun H locs hI => ?_)
      refine lv_if_eq (tgt := 119) hx hb dX7_nextToken_63 (by decide) (fun c19 => ?_) (fun c19 => ?_)
      · replace h := z_ift h c19
        exact w_X7_nextToken_b119 hc _ _ _ _ h hI hl
      · replace h := z_iff h c19
        refine lv_aload_n hx hb dX7_nextToken_66 rfl (lv_at hl 0 rfl) ?_
        refine lv_aload_n hx hb dX7_nextToken_67 rfl (lv_at hl 0 rfl) ?_
        refine gf_X7_91 hc hI dX7_nextToken_68 ?_
        refine lv_bipush (v := 99) hx hb dX7_nextToken_71 (by decide) ?_
        refine lv_icmp_le (tgt := 83) hx hb dX7_nextToken_73 (by decide) (fun c20 => ?_) (fun c20 => ?_)
        · replace h := z_ift h c20
          refine lv_bipush (v := 10) hx hb dX7_nextToken_83 (by decide) ?_
          refine lv_aload_n hx hb dX7_nextToken_85 rfl (lv_at hl 0 rfl) ?_
          refine gf_X7_91 hc hI dX7_nextToken_86 ?_
          refine lv_imul hx hb dX7_nextToken_89 ?_
          refine lv_aload_n hx hb dX7_nextToken_90 rfl (lv_at hl 0 rfl) ?_
          refine gf_X7_25 hc hI dX7_nextToken_91 ?_
          refine lv_aload_n hx hb dX7_nextToken_94 rfl (lv_at hl 0 rfl) ?_
          refine gf_X7_82 hc hI dX7_nextToken_95 ?_
          obtain ⟨g21, h⟩ := z_grd_some h
          refine ld_k27 hc hI g21 dX7_nextToken_98 ?_
          refine lv_iadd hx hb dX7_nextToken_99 ?_
          refine lv_bipush (v := 48) hx hb dX7_nextToken_100 (by decide) ?_
          refine lv_isub hx hb dX7_nextToken_102 ?_
          exact w_X7_nextToken_b103 hc ih ((((10 : Int32) * (z_gi M 21 0 12)) + (z_gi M 27 0 (z_gi M 21 0 10).toNatClampNeg)) - 48) _ _ _ _ h hI hl
        · replace h := z_iff h c20
          refine lv_aload_n hx hb dX7_nextToken_76 rfl (lv_at hl 0 rfl) ?_
          refine gf_X7_91 hc hI dX7_nextToken_77 ?_
          refine lv_goto (tgt := 103) hx hb dX7_nextToken_80 (by decide) ?_
          exact w_X7_nextToken_b103 hc ih (z_gi M 21 0 12) _ _ _ _ h hI hl
set_option maxRecDepth 100000 in
set_option maxHeartbeats 4000000 in
theorem w_X7_nextToken_b25 (hc : z_C p s m args meth c RX7 cX7_nextToken 1 none) {out : z_M} (s0 : Int32) (M : z_M) (H : Heap) (locs : List Loc) (ls : Array Slot) (h : F_X7_nextToken_b25 s0 M = some out) (hI : z_I G s M H locs) (hl : lv_has ls 1 [(0, .ref (z_ad G 21 0))]) : W p l e (z_rm 2) s m args below meth c H locs 0 0 (MQ below (z_Q G (none) out) args s 0 0 (z_A G)) (F0 m 25 ls [.int s0, .ref (z_ad G 21 0)]) := by
  obtain ⟨⟨hx, hb, hml, hown, hts⟩, hr, hlk⟩ := id hc
  unfold F_X7_nextToken_b25 at h
  refine pf_X7_88 hc hI dX7_nextToken_25 (fun H locs hI => ?_)
  refine lv_aload_n hx hb dX7_nextToken_28 rfl (lv_at hl 0 rfl) ?_
  refine lv_iconst (v := 0) hx hb dX7_nextToken_29 (by decide) ?_
  obtain ⟨M3, h, hI⟩ := z_nM h hI
  refine pf_X7_91 hc hI dX7_nextToken_30 (fun H locs hI => ?_)
  exact w_X7_nextToken_b33 hc _ _ _ _ _ h hI hl
set_option maxRecDepth 100000 in
set_option maxHeartbeats 4000000 in
theorem c_X7_nextToken {G : z_G} {l : Launch} {M : z_M} {out : z_M} (h : F_X7_nextToken M = some out) : z_Met G l yX7_nextToken cX7_nextToken 1 none 2 [.ref (z_ad G 21 0)] M (none) out := by
  unfold F_X7_nextToken at h
  refine z_met_of (by decide) rfl (Nat.le_of_ble_eq_true rfl) (fun p e s m below meth c ls hc hI hl => ?_)
  obtain ⟨⟨hx, hb, hml, hown, hts⟩, hr, hlk⟩ := id hc
  have hl : lv_has ls 1 [(0, .ref (z_ad G 21 0))] := hl
  refine lv_aload_n hx hb dX7_nextToken_0 rfl (lv_at hl 0 rfl) ?_
  refine lv_aload_n hx hb dX7_nextToken_1 rfl (lv_at hl 0 rfl) ?_
  refine gf_X7_82 hc hI dX7_nextToken_2 ?_
  refine pf_X7_85 hc hI dX7_nextToken_5 (fun H locs hI => ?_)
  refine lv_aload_n hx hb dX7_nextToken_8 rfl (lv_at hl 0 rfl) ?_
  refine lv_aload_n hx hb dX7_nextToken_9 rfl (lv_at hl 0 rfl) ?_
  obtain ⟨M1, h, hI⟩ := z_nM h hI
  refine gf_X7_82 hc hI dX7_nextToken_10 ?_
  refine lv_aload_n hx hb dX7_nextToken_13 rfl (lv_at hl 0 rfl) ?_
  refine gf_X7_78 hc hI dX7_nextToken_14 ?_
  refine lv_icmp_ne (tgt := 24) hx hb dX7_nextToken_17 (by decide) (fun c2 => ?_) (fun c2 => ?_)
  · replace h := z_iff h c2
    refine lv_iconst (v := 0) hx hb dX7_nextToken_24 (by decide) ?_
    exact w_X7_nextToken_b25 hc 0 _ _ _ _ h hI hl
  · replace h := z_ift h c2
    refine lv_iconst (v := 3) hx hb dX7_nextToken_20 (by decide) ?_
    refine lv_goto (tgt := 25) hx hb dX7_nextToken_21 (by decide) ?_
    exact w_X7_nextToken_b25 hc 3 _ _ _ _ h hI hl
set_option maxRecDepth 100000 in
set_option maxHeartbeats 4000000 in
theorem c_X7_faults {G : z_G} {l : Launch} {a1 : Int32} {M : z_M} {out : (Int32 × z_M)} (h : F_X7_faults a1 M = some out) : z_Met G l yX7_faults cX7_faults 2 (some .boolean) 1 [.ref (z_ad G 21 0), .int a1] M (some (.int out.1)) out.2 := by
  unfold F_X7_faults at h
  refine z_met_of (by decide) rfl (Nat.le_of_ble_eq_true rfl) (fun p e s m below meth c ls hc hI hl => ?_)
  obtain ⟨⟨hx, hb, hml, hown, hts⟩, hr, hlk⟩ := id hc
  have hl : lv_has ls 2 [(0, .ref (z_ad G 21 0)), (1, .int a1)] := hl
  refine lv_aload_n hx hb dX7_faults_0 rfl (lv_at hl 0 rfl) ?_
  refine lv_iload_n hx hb dX7_faults_1 rfl (lv_at hl 1 rfl) ?_
  refine pf_X7_102 hc hI dX7_faults_2 (fun H locs hI => ?_)
  refine lv_iconst (v := 0) hx hb dX7_faults_5 (by decide) ?_
  obtain rfl := Option.some.inj h
  exact z_rz (x := 0) hc hI (by decide) dX7_faults_6
set_option maxRecDepth 100000 in
set_option maxHeartbeats 4000000 in
theorem c_X7_isLetter {G : z_G} {l : Launch} {a1 : Int32} {M : z_M} {out : Int32} (h : F_X7_isLetter a1 M = some out) : z_Met G l yX7_isLetter cX7_isLetter 2 (some .boolean) 1 [.ref (z_ad G 21 0), .int a1] M (some (.int out)) M := by
  unfold F_X7_isLetter at h
  refine z_met_of (by decide) rfl (Nat.le_of_ble_eq_true rfl) (fun p e s m below meth c ls hc hI hl => ?_)
  obtain ⟨⟨hx, hb, hml, hown, hts⟩, hr, hlk⟩ := id hc
  have hl : lv_has ls 2 [(0, .ref (z_ad G 21 0)), (1, .int a1)] := hl
  refine lv_aload_n hx hb dX7_isLetter_0 rfl (lv_at hl 0 rfl) ?_
  refine gf_X7_88 hc hI dX7_isLetter_1 ?_
  refine lv_iconst (v := 1) hx hb dX7_isLetter_4 (by decide) ?_
  refine lv_icmp_ne (tgt := 20) hx hb dX7_isLetter_5 (by decide) (fun c1 => ?_) (fun c1 => ?_)
  · replace h := z_iff h c1
    refine lv_iconst (v := 0) hx hb dX7_isLetter_20 (by decide) ?_
    obtain rfl := Option.some.inj h
    exact z_rz (x := 0) hc hI (by decide) dX7_isLetter_21
  · replace h := z_ift h c1
    refine lv_aload_n hx hb dX7_isLetter_8 rfl (lv_at hl 0 rfl) ?_
    refine gf_X7_91 hc hI dX7_isLetter_9 ?_
    refine lv_iload_n hx hb dX7_isLetter_12 rfl (lv_at hl 1 rfl) ?_
    refine lv_icmp_ne (tgt := 20) hx hb dX7_isLetter_13 (by decide) (fun c2 => ?_) (fun c2 => ?_)
    · replace h := z_iff h c2
      refine lv_iconst (v := 0) hx hb dX7_isLetter_20 (by decide) ?_
      obtain rfl := Option.some.inj h
      exact z_rz (x := 0) hc hI (by decide) dX7_isLetter_21
    · replace h := z_ift h c2
      refine lv_iconst (v := 1) hx hb dX7_isLetter_16 (by decide) ?_
      refine lv_goto (tgt := 21) hx hb dX7_isLetter_17 (by decide) ?_
      obtain rfl := Option.some.inj h
      exact z_rz (x := 1) hc hI (by decide) dX7_isLetter_21
set_option maxRecDepth 100000 in
set_option maxHeartbeats 4000000 in
theorem c_X7_takes {G : z_G} {l : Launch} {a1 : Int32} {M : z_M} {out : (Int32 × z_M)} (h : F_X7_takes a1 M = some out) : z_Met G l yX7_takes cX7_takes 2 (some .boolean) 3 [.ref (z_ad G 21 0), .int a1] M (some (.int out.1)) out.2 := by
  unfold F_X7_takes at h
  refine z_met_of (by decide) rfl (Nat.le_of_ble_eq_true rfl) (fun p e s m below meth c ls hc hI hl => ?_)
  obtain ⟨⟨hx, hb, hml, hown, hts⟩, hr, hlk⟩ := id hc
  have hl : lv_has ls 2 [(0, .ref (z_ad G 21 0)), (1, .int a1)] := hl
  refine lv_aload_n hx hb dX7_takes_0 rfl (lv_at hl 0 rfl) ?_
  refine lv_iload_n hx hb dX7_takes_1 rfl (lv_at hl 1 rfl) ?_
  obtain ⟨q1, e2, h⟩ := z_bnd h
  refine iv_X7_105 hc hI (c_X7_isLetter e2) (z_room (by decide) (by decide)) hl.1 (Nat.le_of_ble_eq_true rfl) ⟨Nat.zero_le _, Nat.zero_le _⟩ dX7_takes_2 (fun H locs hI => ?_)
  refine lv_if_ne (tgt := 14) hx hb dX7_takes_5 (by decide) (fun c3 => ?_) (fun c3 => ?_)
  · replace h := z_iff h c3
    refine lv_aload_n hx hb dX7_takes_14 rfl (lv_at hl 0 rfl) ?_
    obtain ⟨q4, e5, h⟩ := z_bnd h
    refine iv_X7_111 hc hI (c_X7_nextToken e5) (z_room (by decide) (by decide)) hl.1 (Nat.le_of_ble_eq_true rfl) ⟨Nat.zero_le _, Nat.zero_le _⟩ dX7_takes_15 (fun H locs hI => ?_)
    refine lv_iconst (v := 1) hx hb dX7_takes_18 (by decide) ?_
    obtain rfl := Option.some.inj h
    exact z_rz (x := 1) hc hI (by decide) dX7_takes_19
  · replace h := z_ift h c3
    refine lv_aload_n hx hb dX7_takes_8 rfl (lv_at hl 0 rfl) ?_
    refine lv_iconst (v := 1) hx hb dX7_takes_9 (by decide) ?_
    obtain ⟨q6, e7, h⟩ := z_bnd h
    refine iv_X7_108 hc hI (c_X7_faults e7) (z_room (by decide) (by decide)) hl.1 (Nat.le_of_ble_eq_true rfl) ⟨Nat.zero_le _, Nat.zero_le _⟩ dX7_takes_10 (fun H locs hI => ?_)
    obtain ⟨g8, h⟩ := z_grd_some h
    obtain rfl := Option.some.inj h
    exact z_rz hc hI g8 dX7_takes_13
set_option maxRecDepth 100000 in
set_option maxHeartbeats 4000000 in
theorem w_X7_takesNumber_b37 (hc : z_C p s m args meth c RX7 cX7_takesNumber 5 (some .boolean)) {out : (Int32 × z_M)} (s0 : Int32) (M : z_M) (H : Heap) (locs : List Loc) (ls : Array Slot) (h : F_X7_takesNumber_b37 s0 M = some out) (hI : z_I G s M H locs) (hl : lv_has ls 5 []) : W p l e (z_rm 4) s m args below meth c H locs 0 0 (MQ below (z_Q G (some (.int out.1)) out.2) args s 0 0 (z_A G)) (F0 m 37 ls [.int s0, .ref (z_ad G 21 0)]) := by
  obtain ⟨⟨hx, hb, hml, hown, hts⟩, hr, hlk⟩ := id hc
  unfold F_X7_takesNumber_b37 at h
  obtain ⟨q3, e4, h⟩ := z_bnd h
  refine iv_X7_108 hc hI (c_X7_faults e4) (z_room (by decide) (by decide)) hl.1 (Nat.le_of_ble_eq_true rfl) ⟨Nat.zero_le _, Nat.zero_le _⟩ dX7_takesNumber_37 (fun H locs hI => ?_)
  obtain ⟨g5, h⟩ := z_grd_some h
  obtain rfl := Option.some.inj h
  exact z_rz hc hI g5 dX7_takesNumber_40
set_option maxRecDepth 100000 in
set_option maxHeartbeats 4000000 in
theorem w_X7_takesNumber_b23 (hc : z_C p s m args meth c RX7 cX7_takesNumber 5 (some .boolean)) {out : (Int32 × z_M)} (M : z_M) (H : Heap) (locs : List Loc) (ls : Array Slot) (h : F_X7_takesNumber_b23 M = some out) (hI : z_I G s M H locs) (hl : lv_has ls 5 [(0, .ref (z_ad G 21 0))]) : W p l e (z_rm 4) s m args below meth c H locs 0 0 (MQ below (z_Q G (some (.int out.1)) out.2) args s 0 0 (z_A G)) (F0 m 23 ls []) := by
  obtain ⟨⟨hx, hb, hml, hown, hts⟩, hr, hlk⟩ := id hc
  unfold F_X7_takesNumber_b23 at h
  refine lv_aload_n hx hb dX7_takesNumber_23 rfl (lv_at hl 0 rfl) ?_
  refine lv_aload_n hx hb dX7_takesNumber_24 rfl (lv_at hl 0 rfl) ?_
  refine gf_X7_88 hc hI dX7_takesNumber_25 ?_
  refine lv_iconst (v := 2) hx hb dX7_takesNumber_28 (by decide) ?_
  refine lv_icmp_ne (tgt := 36) hx hb dX7_takesNumber_29 (by decide) (fun c2 => ?_) (fun c2 => ?_)
  · replace h := z_iff h c2
    refine lv_iconst (v := 1) hx hb dX7_takesNumber_36 (by decide) ?_
    exact w_X7_takesNumber_b37 hc 1 _ _ _ _ h hI (lv_sub hl [] rfl)
  · replace h := z_ift h c2
    refine lv_iconst (v := 2) hx hb dX7_takesNumber_32 (by decide) ?_
    refine lv_goto (tgt := 37) hx hb dX7_takesNumber_33 (by decide) ?_
    exact w_X7_takesNumber_b37 hc 2 _ _ _ _ h hI (lv_sub hl [] rfl)
set_option maxRecDepth 100000 in
set_option maxHeartbeats 4000000 in
theorem c_X7_takesNumber {G : z_G} {l : Launch} {a1 : Int32} {a2 : Int32} {a3 : Int32} {a4 : Int32} {M : z_M} {out : (Int32 × z_M)} (h : F_X7_takesNumber a1 a2 a3 a4 M = some out) : z_Met G l yX7_takesNumber cX7_takesNumber 5 (some .boolean) 4 [.ref (z_ad G 21 0), .int a1, .int a2, .int a3, .int a4] M (some (.int out.1)) out.2 := by
  unfold F_X7_takesNumber at h
  refine z_met_of (by decide) rfl (Nat.le_of_ble_eq_true rfl) (fun p e s m below meth c ls hc hI hl => ?_)
  obtain ⟨⟨hx, hb, hml, hown, hts⟩, hr, hlk⟩ := id hc
  have hl : lv_has ls 5 [(0, .ref (z_ad G 21 0)), (1, .int a1), (2, .int a2), (3, .int a3), (4, .int a4)] := hl
  refine lv_aload_n hx hb dX7_takesNumber_0 rfl (lv_at hl 0 rfl) ?_
  refine gf_X7_88 hc hI dX7_takesNumber_1 ?_
  refine lv_iconst (v := 2) hx hb dX7_takesNumber_4 (by decide) ?_
  refine lv_icmp_ne (tgt := 23) hx hb dX7_takesNumber_5 (by decide) (fun c1 => ?_) (fun c1 => ?_)
  · replace h := z_iff h c1
    exact w_X7_takesNumber_b23 hc _ _ _ _ h hI (lv_sub hl [0] rfl)
  · replace h := z_ift h c1
    refine lv_aload_n hx hb dX7_takesNumber_8 rfl (lv_at hl 0 rfl) ?_
    refine gf_X7_91 hc hI dX7_takesNumber_9 ?_
    refine lv_i2l (v := (z_gi M 21 0 12).toInt64) hx hb dX7_takesNumber_12 rfl ?_
    refine lv_iload_n hx hb dX7_takesNumber_13 rfl (lv_at hl 1 rfl) ?_
    refine lv_i2l (v := a1.toInt64) hx hb dX7_takesNumber_14 rfl ?_
    refine lv_iload_n hx hb dX7_takesNumber_15 rfl (lv_at hl 2 rfl) ?_
    refine lv_i2l (v := a2.toInt64) hx hb dX7_takesNumber_16 rfl ?_
    obtain ⟨q6, e7, h⟩ := z_bnd h
    refine iv_X7_54 hc hI (c_X7_in e7) (z_room (by decide) (by decide)) hl.1 (Nat.le_of_ble_eq_true rfl) ⟨Nat.zero_le _, Nat.zero_le _⟩ dX7_takesNumber_17 (fun H locs hI => ?_)
    refine lv_if_ne (tgt := 41) hx hb dX7_takesNumber_20 (by decide) (fun c8 => ?_) (fun c8 => ?_)
    · replace h := z_iff h c8
      refine lv_aload_n hx hb dX7_takesNumber_41 rfl (lv_at hl 0 rfl) ?_
      refine gf_X7_28 hc hI dX7_takesNumber_42 ?_
      refine lv_iload_n hx hb dX7_takesNumber_45 rfl (lv_at hl 3 rfl) ?_
      refine lv_aload_n hx hb dX7_takesNumber_46 rfl (lv_at hl 0 rfl) ?_
      refine gf_X7_91 hc hI dX7_takesNumber_47 ?_
      obtain ⟨g9, h⟩ := z_grd_some h
      refine st_k28 hc hI g9 dX7_takesNumber_50 (fun H locs hI => ?_)
      refine lv_aload_n hx hb dX7_takesNumber_51 rfl (lv_at hl 0 rfl) ?_
      obtain ⟨q10, e11, h⟩ := z_bnd h
      refine iv_X7_111 hc hI (c_X7_nextToken e11) (z_room (by decide) (by decide)) hl.1 (Nat.le_of_ble_eq_true rfl) ⟨Nat.zero_le _, Nat.zero_le _⟩ dX7_takesNumber_52 (fun H locs hI => ?_)
      refine lv_aload_n hx hb dX7_takesNumber_55 rfl (lv_at hl 0 rfl) ?_
      refine lv_iload hx hb dX7_takesNumber_56 (lv_at hl 4 rfl) ?_
      obtain ⟨q12, e13, h⟩ := z_bnd h
      refine iv_X7_114 hc hI (c_X7_takes e13) (z_room (by decide) (by decide)) hl.1 (Nat.le_of_ble_eq_true rfl) ⟨Nat.zero_le _, Nat.zero_le _⟩ dX7_takesNumber_58 (fun H locs hI => ?_)
      obtain ⟨g14, h⟩ := z_grd_some h
      obtain rfl := Option.some.inj h
      exact z_rz hc hI g14 dX7_takesNumber_61
    · replace h := z_ift h c8
      exact w_X7_takesNumber_b23 hc _ _ _ _ h hI (lv_sub hl [0] rfl)
set_option maxRecDepth 100000 in
set_option maxHeartbeats 4000000 in
theorem w_X7_readTread_b37 (hc : z_C p s m args meth c RX7 cX7_readTread 3 (some .boolean)) {out : (Int32 × z_M)} (s0 : Int32) (M : z_M) (H : Heap) (locs : List Loc) (ls : Array Slot) (h : F_X7_readTread_b37 s0 M = some out) (hI : z_I G s M H locs) (hl : lv_has ls 3 []) : W p l e (z_rm 5) s m args below meth c H locs 0 0 (MQ below (z_Q G (some (.int out.1)) out.2) args s 0 0 (z_A G)) (F0 m 37 ls [.int s0, .ref (z_ad G 21 0)]) := by
  obtain ⟨⟨hx, hb, hml, hown, hts⟩, hr, hlk⟩ := id hc
  unfold F_X7_readTread_b37 at h
  obtain ⟨q7, e8, h⟩ := z_bnd h
  refine iv_X7_108 hc hI (c_X7_faults e8) (z_room (by decide) (by decide)) hl.1 (Nat.le_of_ble_eq_true rfl) ⟨Nat.zero_le _, Nat.zero_le _⟩ dX7_readTread_37 (fun H locs hI => ?_)
  obtain ⟨g9, h⟩ := z_grd_some h
  obtain rfl := Option.some.inj h
  exact z_rz hc hI g9 dX7_readTread_40
set_option maxRecDepth 100000 in
set_option maxHeartbeats 4000000 in
theorem w_X7_readTread_b22 (hc : z_C p s m args meth c RX7 cX7_readTread 3 (some .boolean)) {out : (Int32 × z_M)} (M : z_M) (H : Heap) (locs : List Loc) (ls : Array Slot) (h : F_X7_readTread_b22 M = some out) (hI : z_I G s M H locs) (hl : lv_has ls 3 [(0, .ref (z_ad G 21 0))]) : W p l e (z_rm 5) s m args below meth c H locs 0 0 (MQ below (z_Q G (some (.int out.1)) out.2) args s 0 0 (z_A G)) (F0 m 22 ls []) := by
  obtain ⟨⟨hx, hb, hml, hown, hts⟩, hr, hlk⟩ := id hc
  unfold F_X7_readTread_b22 at h
  refine lv_aload_n hx hb dX7_readTread_22 rfl (lv_at hl 0 rfl) ?_
  refine lv_aload_n hx hb dX7_readTread_23 rfl (lv_at hl 0 rfl) ?_
  refine gf_X7_28 hc hI dX7_readTread_24 ?_
  refine lv_iconst (v := 1) hx hb dX7_readTread_27 (by decide) ?_
  obtain ⟨g5, h⟩ := z_grd_some h
  refine ld_k28 hc hI g5 dX7_readTread_28 ?_
  refine lv_if_le (tgt := 36) hx hb dX7_readTread_29 (by decide) (fun c6 => ?_) (fun c6 => ?_)
  · replace h := z_ift h c6
    refine lv_iconst (v := 3) hx hb dX7_readTread_36 (by decide) ?_
    exact w_X7_readTread_b37 hc 3 _ _ _ _ h hI (lv_sub hl [] rfl)
  · replace h := z_iff h c6
    refine lv_iconst (v := 1) hx hb dX7_readTread_32 (by decide) ?_
    refine lv_goto (tgt := 37) hx hb dX7_readTread_33 (by decide) ?_
    exact w_X7_readTread_b37 hc 1 _ _ _ _ h hI (lv_sub hl [] rfl)
set_option maxRecDepth 100000 in
set_option maxHeartbeats 4000000 in
theorem c_X7_readTread {G : z_G} {l : Launch} {a1 : Int32} {M : z_M} {out : (Int32 × z_M)} (h : F_X7_readTread a1 M = some out) : z_Met G l yX7_readTread cX7_readTread 3 (some .boolean) 5 [.ref (z_ad G 21 0), .int a1] M (some (.int out.1)) out.2 := by
  unfold F_X7_readTread at h
  refine z_met_of (by decide) rfl (Nat.le_of_ble_eq_true rfl) (fun p e s m below meth c ls hc hI hl => ?_)
  obtain ⟨⟨hx, hb, hml, hown, hts⟩, hr, hlk⟩ := id hc
  have hl : lv_has ls 3 [(0, .ref (z_ad G 21 0)), (1, .int a1)] := hl
  refine lv_aload_n hx hb dX7_readTread_0 rfl (lv_at hl 0 rfl) ?_
  refine gf_X7_28 hc hI dX7_readTread_1 ?_
  refine lv_iconst (v := 0) hx hb dX7_readTread_4 (by decide) ?_
  obtain ⟨g1, h⟩ := z_grd_some h
  refine ld_k28 hc hI g1 dX7_readTread_5 ?_
  refine z_nI h (fun x2 h => ?_)
  refine lv_istore_n (lv' := [(2, .int x2), (0, .ref (z_ad G 21 0)), (1, .int a1)]) hx hb dX7_readTread_6 rfl hl (by decide) rfl (fun ls hl => ?_)
  refine lv_aload_n hx hb dX7_readTread_7 rfl (lv_at hl 1 rfl) ?_
  refine gf_X7_28 hc hI dX7_readTread_8 ?_
  refine lv_iconst (v := 1) hx hb dX7_readTread_11 (by decide) ?_
  obtain ⟨g3, h⟩ := z_grd_some h
  refine ld_k28 hc hI g3 dX7_readTread_12 ?_
  refine lv_if_gt (tgt := 22) hx hb dX7_readTread_13 (by decide) (fun c4 => ?_) (fun c4 => ?_)
  · replace h := z_ift h c4
    exact w_X7_readTread_b22 hc _ _ _ _ h hI (lv_sub hl [1] rfl)
  · replace h := z_iff h c4
    refine lv_iload_n hx hb dX7_readTread_16 rfl (lv_at hl 0 rfl) ?_
    refine lv_bipush (v := 8) hx hb dX7_readTread_17 (by decide) ?_
    refine lv_icmp_ne (tgt := 41) hx hb dX7_readTread_19 (by decide) (fun c10 => ?_) (fun c10 => ?_)
    · replace h := z_iff h c10
      refine lv_aload_n hx hb dX7_readTread_41 rfl (lv_at hl 1 rfl) ?_
      obtain ⟨q11, e12, h⟩ := z_bnd h
      refine iv_X7_111 hc hI (c_X7_nextToken e12) (z_room (by decide) (by decide)) hl.1 (Nat.le_of_ble_eq_true rfl) ⟨Nat.zero_le _, Nat.zero_le _⟩ dX7_readTread_42 (fun H locs hI => ?_)
      refine lv_aload_n hx hb dX7_readTread_45 rfl (lv_at hl 1 rfl) ?_
      refine gf_X7_28 hc hI dX7_readTread_46 ?_
      refine lv_iconst (v := 5) hx hb dX7_readTread_49 (by decide) ?_
      refine lv_iload_n hx hb dX7_readTread_50 rfl (lv_at hl 0 rfl) ?_
      refine lv_iadd hx hb dX7_readTread_51 ?_
      refine lv_iload_n hx hb dX7_readTread_52 rfl (lv_at hl 2 rfl) ?_
      obtain ⟨g13, h⟩ := z_grd_some h
      refine st_k28 hc hI g13 dX7_readTread_53 (fun H locs hI => ?_)
      refine lv_aload_n hx hb dX7_readTread_54 rfl (lv_at hl 1 rfl) ?_
      refine gf_X7_28 hc hI dX7_readTread_55 ?_
      refine lv_iconst (v := 0) hx hb dX7_readTread_58 (by decide) ?_
      refine lv_dup2_11 hx hb dX7_readTread_59 rfl rfl ?_
      obtain ⟨M15, h, hI⟩ := z_nM h hI
      obtain ⟨g14, h⟩ := z_grd_some h
      refine ld_k28 hc hI g14 dX7_readTread_60 ?_
      refine lv_iconst (v := 1) hx hb dX7_readTread_61 (by decide) ?_
      refine lv_iadd hx hb dX7_readTread_62 ?_
      obtain ⟨g16, h⟩ := z_grd_some h
      refine st_k28 hc hI g16 dX7_readTread_63 (fun H locs hI => ?_)
      refine lv_aload_n hx hb dX7_readTread_64 rfl (lv_at hl 1 rfl) ?_
      refine lv_iconst (v := 0) hx hb dX7_readTread_65 (by decide) ?_
      refine lv_bipush (v := 9) hx hb dX7_readTread_66 (by decide) ?_
      refine lv_bipush (v := 13) hx hb dX7_readTread_68 (by decide) ?_
      refine lv_iload_n hx hb dX7_readTread_70 rfl (lv_at hl 0 rfl) ?_
      refine lv_iadd hx hb dX7_readTread_71 ?_
      refine lv_bipush (v := 59) hx hb dX7_readTread_72 (by decide) ?_
      obtain ⟨q17, e18, h⟩ := z_bnd h
      refine iv_X7_117 hc hI (c_X7_takesNumber e18) (z_room (by decide) (by decide)) hl.1 (Nat.le_of_ble_eq_true rfl) ⟨Nat.zero_le _, Nat.zero_le _⟩ dX7_readTread_74 (fun H locs hI => ?_)
      obtain ⟨g19, h⟩ := z_grd_some h
      obtain rfl := Option.some.inj h
      exact z_rz hc hI g19 dX7_readTread_77
    · replace h := z_ift h c10
      exact w_X7_readTread_b22 hc _ _ _ _ h hI (lv_sub hl [1] rfl)
set_option maxRecDepth 100000 in
set_option maxHeartbeats 4000000 in
theorem w_X7_readWalker_b35 (hc : z_C p s m args meth c RX7 cX7_readWalker 3 (some .boolean)) {out : (Int32 × z_M)} (s0 : Int32) (M : z_M) (H : Heap) (locs : List Loc) (ls : Array Slot) (h : F_X7_readWalker_b35 s0 M = some out) (hI : z_I G s M H locs) (hl : lv_has ls 3 []) : W p l e (z_rm 5) s m args below meth c H locs 0 0 (MQ below (z_Q G (some (.int out.1)) out.2) args s 0 0 (z_A G)) (F0 m 35 ls [.int s0, .ref (z_ad G 21 0)]) := by
  obtain ⟨⟨hx, hb, hml, hown, hts⟩, hr, hlk⟩ := id hc
  unfold F_X7_readWalker_b35 at h
  obtain ⟨q7, e8, h⟩ := z_bnd h
  refine iv_X7_108 hc hI (c_X7_faults e8) (z_room (by decide) (by decide)) hl.1 (Nat.le_of_ble_eq_true rfl) ⟨Nat.zero_le _, Nat.zero_le _⟩ dX7_readWalker_35 (fun H locs hI => ?_)
  obtain ⟨g9, h⟩ := z_grd_some h
  obtain rfl := Option.some.inj h
  exact z_rz hc hI g9 dX7_readWalker_38
set_option maxRecDepth 100000 in
set_option maxHeartbeats 4000000 in
theorem w_X7_readWalker_b25 (hc : z_C p s m args meth c RX7 cX7_readWalker 3 (some .boolean)) {out : (Int32 × z_M)} (v2 : Int32) (M : z_M) (H : Heap) (locs : List Loc) (ls : Array Slot) (h : F_X7_readWalker_b25 v2 M = some out) (hI : z_I G s M H locs) (hl : lv_has ls 3 [(0, .ref (z_ad G 21 0)), (2, .int v2)]) : W p l e (z_rm 5) s m args below meth c H locs 0 0 (MQ below (z_Q G (some (.int out.1)) out.2) args s 0 0 (z_A G)) (F0 m 25 ls []) := by
  obtain ⟨⟨hx, hb, hml, hown, hts⟩, hr, hlk⟩ := id hc
  unfold F_X7_readWalker_b25 at h
  refine lv_aload_n hx hb dX7_readWalker_25 rfl (lv_at hl 0 rfl) ?_
  refine lv_iload_n hx hb dX7_readWalker_26 rfl (lv_at hl 1 rfl) ?_
  refine lv_if_ge (tgt := 34) hx hb dX7_readWalker_27 (by decide) (fun c6 => ?_) (fun c6 => ?_)
  · replace h := z_ift h c6
    refine lv_iconst (v := 3) hx hb dX7_readWalker_34 (by decide) ?_
    exact w_X7_readWalker_b35 hc 3 _ _ _ _ h hI (lv_sub hl [] rfl)
  · replace h := z_iff h c6
    refine lv_iconst (v := 1) hx hb dX7_readWalker_30 (by decide) ?_
    refine lv_goto (tgt := 35) hx hb dX7_readWalker_31 (by decide) ?_
    exact w_X7_readWalker_b35 hc 1 _ _ _ _ h hI (lv_sub hl [] rfl)
set_option maxRecDepth 100000 in
set_option maxHeartbeats 4000000 in
theorem c_X7_readWalker {G : z_G} {l : Launch} {M : z_M} {out : (Int32 × z_M)} (h : F_X7_readWalker M = some out) : z_Met G l yX7_readWalker cX7_readWalker 3 (some .boolean) 5 [.ref (z_ad G 21 0)] M (some (.int out.1)) out.2 := by
  unfold F_X7_readWalker at h
  refine z_met_of (by decide) rfl (Nat.le_of_ble_eq_true rfl) (fun p e s m below meth c ls hc hI hl => ?_)
  obtain ⟨⟨hx, hb, hml, hown, hts⟩, hr, hlk⟩ := id hc
  have hl : lv_has ls 3 [(0, .ref (z_ad G 21 0))] := hl
  refine lv_aload_n hx hb dX7_readWalker_0 rfl (lv_at hl 0 rfl) ?_
  refine gf_X7_28 hc hI dX7_readWalker_1 ?_
  refine lv_iconst (v := 1) hx hb dX7_readWalker_4 (by decide) ?_
  obtain ⟨g1, h⟩ := z_grd_some h
  refine ld_k28 hc hI g1 dX7_readWalker_5 ?_
  refine z_nI h (fun x2 h => ?_)
  refine lv_istore_n (lv' := [(1, .int x2), (0, .ref (z_ad G 21 0))]) hx hb dX7_readWalker_6 rfl hl (by decide) rfl (fun ls hl => ?_)
  refine lv_aload_n hx hb dX7_readWalker_7 rfl (lv_at hl 1 rfl) ?_
  refine gf_X7_28 hc hI dX7_readWalker_8 ?_
  refine lv_iconst (v := 0) hx hb dX7_readWalker_11 (by decide) ?_
  obtain ⟨g3, h⟩ := z_grd_some h
  refine ld_k28 hc hI g3 dX7_readWalker_12 ?_
  refine lv_iconst (v := 1) hx hb dX7_readWalker_13 (by decide) ?_
  refine lv_isub hx hb dX7_readWalker_14 ?_
  refine z_nI h (fun x4 h => ?_)
  refine lv_istore_n (lv' := [(2, .int x4), (1, .int x2), (0, .ref (z_ad G 21 0))]) hx hb dX7_readWalker_15 rfl hl (by decide) rfl (fun ls hl => ?_)
  refine lv_iload_n hx hb dX7_readWalker_16 rfl (lv_at hl 0 rfl) ?_
  refine lv_if_lt (tgt := 25) hx hb dX7_readWalker_17 (by decide) (fun c5 => ?_) (fun c5 => ?_)
  · replace h := z_ift h c5
    exact w_X7_readWalker_b25 hc x4 _ _ _ _ h hI (lv_sub hl [2, 0] rfl)
  · replace h := z_iff h c5
    refine lv_iload_n hx hb dX7_readWalker_20 rfl (lv_at hl 1 rfl) ?_
    refine lv_iconst (v := 5) hx hb dX7_readWalker_21 (by decide) ?_
    refine lv_icmp_ne (tgt := 39) hx hb dX7_readWalker_22 (by decide) (fun c10 => ?_) (fun c10 => ?_)
    · replace h := z_iff h c10
      refine lv_aload_n hx hb dX7_readWalker_39 rfl (lv_at hl 2 rfl) ?_
      obtain ⟨q11, e12, h⟩ := z_bnd h
      refine iv_X7_111 hc hI (c_X7_nextToken e12) (z_room (by decide) (by decide)) hl.1 (Nat.le_of_ble_eq_true rfl) ⟨Nat.zero_le _, Nat.zero_le _⟩ dX7_readWalker_40 (fun H locs hI => ?_)
      refine lv_aload_n hx hb dX7_readWalker_43 rfl (lv_at hl 2 rfl) ?_
      refine gf_X7_28 hc hI dX7_readWalker_44 ?_
      refine lv_iconst (v := 1) hx hb dX7_readWalker_47 (by decide) ?_
      refine lv_dup2_11 hx hb dX7_readWalker_48 rfl rfl ?_
      obtain ⟨g13, h⟩ := z_grd_some h
      refine ld_k28 hc hI g13 dX7_readWalker_49 ?_
      refine lv_iconst (v := 1) hx hb dX7_readWalker_50 (by decide) ?_
      refine lv_iadd hx hb dX7_readWalker_51 ?_
      obtain ⟨g14, h⟩ := z_grd_some h
      refine st_k28 hc hI g14 dX7_readWalker_52 (fun H locs hI => ?_)
      refine lv_aload_n hx hb dX7_readWalker_53 rfl (lv_at hl 2 rfl) ?_
      refine lv_iconst (v := 0) hx hb dX7_readWalker_54 (by decide) ?_
      refine lv_iload_n hx hb dX7_readWalker_55 rfl (lv_at hl 0 rfl) ?_
      refine lv_bipush (v := 29) hx hb dX7_readWalker_56 (by decide) ?_
      refine lv_iload_n hx hb dX7_readWalker_58 rfl (lv_at hl 1 rfl) ?_
      refine lv_iadd hx hb dX7_readWalker_59 ?_
      refine lv_bipush (v := 44) hx hb dX7_readWalker_60 (by decide) ?_
      obtain ⟨q15, e16, h⟩ := z_bnd h
      refine iv_X7_117 hc hI (c_X7_takesNumber e16) (z_room (by decide) (by decide)) hl.1 (Nat.le_of_ble_eq_true rfl) ⟨Nat.zero_le _, Nat.zero_le _⟩ dX7_readWalker_62 (fun H locs hI => ?_)
      refine lv_if_eq (tgt := 118) hx hb dX7_readWalker_65 (by decide) (fun c17 => ?_) (fun c17 => ?_)
      · replace h := z_ift h c17
        refine lv_iconst (v := 0) hx hb dX7_readWalker_118 (by decide) ?_
        obtain rfl := Option.some.inj h
        exact z_rz (x := 0) hc hI (by decide) dX7_readWalker_119
      · replace h := z_iff h c17
        refine lv_aload_n hx hb dX7_readWalker_68 rfl (lv_at hl 2 rfl) ?_
        refine lv_iconst (v := 0) hx hb dX7_readWalker_69 (by decide) ?_
        refine lv_iload_n hx hb dX7_readWalker_70 rfl (lv_at hl 0 rfl) ?_
        refine lv_bipush (v := 34) hx hb dX7_readWalker_71 (by decide) ?_
        refine lv_iload_n hx hb dX7_readWalker_73 rfl (lv_at hl 1 rfl) ?_
        refine lv_iadd hx hb dX7_readWalker_74 ?_
        refine lv_bipush (v := 44) hx hb dX7_readWalker_75 (by decide) ?_
        obtain ⟨q18, e19, h⟩ := z_bnd h
        refine iv_X7_117 hc hI (c_X7_takesNumber e19) (z_room (by decide) (by decide)) hl.1 (Nat.le_of_ble_eq_true rfl) ⟨Nat.zero_le _, Nat.zero_le _⟩ dX7_readWalker_77 (fun H locs hI => ?_)
        refine lv_if_eq (tgt := 118) hx hb dX7_readWalker_80 (by decide) (fun c20 => ?_) (fun c20 => ?_)
        · replace h := z_ift h c20
          refine lv_iconst (v := 0) hx hb dX7_readWalker_118 (by decide) ?_
          obtain rfl := Option.some.inj h
          exact z_rz (x := 0) hc hI (by decide) dX7_readWalker_119
        · replace h := z_iff h c20
          refine lv_aload_n hx hb dX7_readWalker_83 rfl (lv_at hl 2 rfl) ?_
          refine lv_iconst (v := 1) hx hb dX7_readWalker_84 (by decide) ?_
          refine lv_iconst (v := 3) hx hb dX7_readWalker_85 (by decide) ?_
          refine lv_bipush (v := 39) hx hb dX7_readWalker_86 (by decide) ?_
          refine lv_iload_n hx hb dX7_readWalker_88 rfl (lv_at hl 1 rfl) ?_
          refine lv_iadd hx hb dX7_readWalker_89 ?_
          refine lv_bipush (v := 44) hx hb dX7_readWalker_90 (by decide) ?_
          obtain ⟨q21, e22, h⟩ := z_bnd h
          refine iv_X7_117 hc hI (c_X7_takesNumber e22) (z_room (by decide) (by decide)) hl.1 (Nat.le_of_ble_eq_true rfl) ⟨Nat.zero_le _, Nat.zero_le _⟩ dX7_readWalker_92 (fun H locs hI => ?_)
          refine lv_if_eq (tgt := 118) hx hb dX7_readWalker_95 (by decide) (fun c23 => ?_) (fun c23 => ?_)
          · replace h := z_ift h c23
            refine lv_iconst (v := 0) hx hb dX7_readWalker_118 (by decide) ?_
            obtain rfl := Option.some.inj h
            exact z_rz (x := 0) hc hI (by decide) dX7_readWalker_119
          · replace h := z_iff h c23
            refine lv_aload_n hx hb dX7_readWalker_98 rfl (lv_at hl 2 rfl) ?_
            refine lv_iconst (v := 0) hx hb dX7_readWalker_99 (by decide) ?_
            refine lv_bipush (v := 20) hx hb dX7_readWalker_100 (by decide) ?_
            refine lv_bipush (v := 44) hx hb dX7_readWalker_102 (by decide) ?_
            refine lv_iload_n hx hb dX7_readWalker_104 rfl (lv_at hl 1 rfl) ?_
            refine lv_iadd hx hb dX7_readWalker_105 ?_
            refine lv_bipush (v := 59) hx hb dX7_readWalker_106 (by decide) ?_
            obtain ⟨q24, e25, h⟩ := z_bnd h
            refine iv_X7_117 hc hI (c_X7_takesNumber e25) (z_room (by decide) (by decide)) hl.1 (Nat.le_of_ble_eq_true rfl) ⟨Nat.zero_le _, Nat.zero_le _⟩ dX7_readWalker_108 (fun H locs hI => ?_)
            refine lv_if_eq (tgt := 118) hx hb dX7_readWalker_111 (by decide) (fun c26 => ?_) (fun c26 => ?_)
            · replace h := z_ift h c26
              refine lv_iconst (v := 0) hx hb dX7_readWalker_118 (by decide) ?_
              obtain rfl := Option.some.inj h
              exact z_rz (x := 0) hc hI (by decide) dX7_readWalker_119
            · replace h := z_iff h c26
              refine lv_iconst (v := 1) hx hb dX7_readWalker_114 (by decide) ?_
              refine lv_goto (tgt := 119) hx hb dX7_readWalker_115 (by decide) ?_
              obtain rfl := Option.some.inj h
              exact z_rz (x := 1) hc hI (by decide) dX7_readWalker_119
    · replace h := z_ift h c10
      exact w_X7_readWalker_b25 hc x4 _ _ _ _ h hI (lv_sub hl [2, 0] rfl)
set_option maxRecDepth 100000 in
set_option maxHeartbeats 4000000 in
theorem c_X7_kindBy {G : z_G} {l : Launch} {a1 : Int32} {M : z_M} {out : Int32} (h : F_X7_kindBy a1 M = some out) : z_Met G l yX7_kindBy cX7_kindBy 1 (some .int) 1 [.int a1] M (some (.int out)) M := by
  unfold F_X7_kindBy at h
  refine z_met_of (by decide) rfl (Nat.le_of_ble_eq_true rfl) (fun p e s m below meth c ls hc hI hl => ?_)
  obtain ⟨⟨hx, hb, hml, hown, hts⟩, hr, hlk⟩ := id hc
  have hl : lv_has ls 1 [(0, .int a1)] := hl
  refine lv_iload_n hx hb dX7_kindBy_0 rfl (lv_at hl 0 rfl) ?_
  refine lv_bipush (v := 112) hx hb dX7_kindBy_1 (by decide) ?_
  refine lv_icmp_ne (tgt := 10) hx hb dX7_kindBy_3 (by decide) (fun c1 => ?_) (fun c1 => ?_)
  · replace h := z_iff h c1
    refine lv_iload_n hx hb dX7_kindBy_10 rfl (lv_at hl 0 rfl) ?_
    refine lv_bipush (v := 115) hx hb dX7_kindBy_11 (by decide) ?_
    refine lv_icmp_ne (tgt := 20) hx hb dX7_kindBy_13 (by decide) (fun c2 => ?_) (fun c2 => ?_)
    · replace h := z_iff h c2
      refine lv_iload_n hx hb dX7_kindBy_20 rfl (lv_at hl 0 rfl) ?_
      refine lv_bipush (v := 108) hx hb dX7_kindBy_21 (by decide) ?_
      refine lv_icmp_ne (tgt := 30) hx hb dX7_kindBy_23 (by decide) (fun c3 => ?_) (fun c3 => ?_)
      · replace h := z_iff h c3
        refine lv_iload_n hx hb dX7_kindBy_30 rfl (lv_at hl 0 rfl) ?_
        refine lv_bipush (v := 114) hx hb dX7_kindBy_31 (by decide) ?_
        refine lv_icmp_ne (tgt := 40) hx hb dX7_kindBy_33 (by decide) (fun c4 => ?_) (fun c4 => ?_)
        · replace h := z_iff h c4
          refine lv_iload_n hx hb dX7_kindBy_40 rfl (lv_at hl 0 rfl) ?_
          refine lv_bipush (v := 102) hx hb dX7_kindBy_41 (by decide) ?_
          refine lv_icmp_ne (tgt := 50) hx hb dX7_kindBy_43 (by decide) (fun c5 => ?_) (fun c5 => ?_)
          · replace h := z_iff h c5
            refine lv_iconst (v := 0) hx hb dX7_kindBy_50 (by decide) ?_
            obtain rfl := Option.some.inj h
            exact z_ri hc hI dX7_kindBy_51
          · replace h := z_ift h c5
            refine lv_iconst (v := 5) hx hb dX7_kindBy_46 (by decide) ?_
            refine lv_goto (tgt := 51) hx hb dX7_kindBy_47 (by decide) ?_
            obtain rfl := Option.some.inj h
            exact z_ri hc hI dX7_kindBy_51
        · replace h := z_ift h c4
          refine lv_iconst (v := 4) hx hb dX7_kindBy_36 (by decide) ?_
          refine lv_goto (tgt := 51) hx hb dX7_kindBy_37 (by decide) ?_
          obtain rfl := Option.some.inj h
          exact z_ri hc hI dX7_kindBy_51
      · replace h := z_ift h c3
        refine lv_iconst (v := 3) hx hb dX7_kindBy_26 (by decide) ?_
        refine lv_goto (tgt := 51) hx hb dX7_kindBy_27 (by decide) ?_
        obtain rfl := Option.some.inj h
        exact z_ri hc hI dX7_kindBy_51
    · replace h := z_ift h c2
      refine lv_iconst (v := 2) hx hb dX7_kindBy_16 (by decide) ?_
      refine lv_goto (tgt := 51) hx hb dX7_kindBy_17 (by decide) ?_
      obtain rfl := Option.some.inj h
      exact z_ri hc hI dX7_kindBy_51
  · replace h := z_ift h c1
    refine lv_iconst (v := 1) hx hb dX7_kindBy_6 (by decide) ?_
    refine lv_goto (tgt := 51) hx hb dX7_kindBy_7 (by decide) ?_
    obtain rfl := Option.some.inj h
    exact z_ri hc hI dX7_kindBy_51
set_option maxRecDepth 100000 in
set_option maxHeartbeats 4000000 in
theorem w_X7_readTown_b143 (hc : z_C p s m args meth c RX7 cX7_readTown 3 (some .boolean)) {out : (Int32 × z_M)} {K69 : Int32 → z_M → Option (Int32 × z_M)} (hK69 : ∀ (v1 : Int32) (M : z_M) (H : Heap) (locs : List Loc) (ls : Array Slot), K69 v1 M = some out → z_I G s M H locs → lv_has ls 3 [(0, .ref (z_ad G 21 0)), (1, .int v1)] → W p l e (z_rm 6) s m args below meth c H locs 0 0 (MQ below (z_Q G (some (.int out.1)) out.2) args s 0 0 (z_A G)) (F0 m 69 ls [])) (s0 : Int32) (M : z_M) (H : Heap) (locs : List Loc) (ls : Array Slot) (h : F_X7_readTown_b143 K69 s0 M = some out) (hI : z_I G s M H locs) (hl : lv_has ls 3 [(0, .ref (z_ad G 21 0))]) : W p l e (z_rm 6) s m args below meth c H locs 0 0 (MQ below (z_Q G (some (.int out.1)) out.2) args s 0 0 (z_A G)) (F0 m 143 ls [.int s0]) := by
  obtain ⟨⟨hx, hb, hml, hown, hts⟩, hr, hlk⟩ := id hc
  unfold F_X7_readTown_b143 at h
  refine lv_istore_n (lv' := [(1, .int s0), (0, .ref (z_ad G 21 0))]) hx hb dX7_readTown_143 rfl hl (by decide) rfl (fun ls hl => ?_)
  refine lv_goto (tgt := 69) hx hb dX7_readTown_144 (by decide) ?_
  exact hK69 s0 _ _ _ _ h hI (lv_sub hl [1, 0] rfl)
set_option maxRecDepth 100000 in
set_option maxHeartbeats 4000000 in
theorem w_X7_readTown_b109 (hc : z_C p s m args meth c RX7 cX7_readTown 3 (some .boolean)) {out : (Int32 × z_M)} {K69 : Int32 → z_M → Option (Int32 × z_M)} (hK69 : ∀ (v1 : Int32) (M : z_M) (H : Heap) (locs : List Loc) (ls : Array Slot), K69 v1 M = some out → z_I G s M H locs → lv_has ls 3 [(0, .ref (z_ad G 21 0)), (1, .int v1)] → W p l e (z_rm 6) s m args below meth c H locs 0 0 (MQ below (z_Q G (some (.int out.1)) out.2) args s 0 0 (z_A G)) (F0 m 69 ls [])) (s0 : Int32) (M : z_M) (H : Heap) (locs : List Loc) (ls : Array Slot) (h : F_X7_readTown_b109 K69 s0 M = some out) (hI : z_I G s M H locs) (hl : lv_has ls 3 [(0, .ref (z_ad G 21 0))]) : W p l e (z_rm 6) s m args below meth c H locs 0 0 (MQ below (z_Q G (some (.int out.1)) out.2) args s 0 0 (z_A G)) (F0 m 109 ls [.int s0]) := by
  obtain ⟨⟨hx, hb, hml, hown, hts⟩, hr, hlk⟩ := id hc
  unfold F_X7_readTown_b109 at h
  refine lv_istore_n (lv' := [(2, .int s0), (0, .ref (z_ad G 21 0))]) hx hb dX7_readTown_109 rfl hl (by decide) rfl (fun ls hl => ?_)
  refine lv_iload_n hx hb dX7_readTown_110 rfl (lv_at hl 0 rfl) ?_
  refine lv_if_le (tgt := 122) hx hb dX7_readTown_111 (by decide) (fun c17 => ?_) (fun c17 => ?_)
  · replace h := z_ift h c17
    refine lv_aload_n hx hb dX7_readTown_122 rfl (lv_at hl 1 rfl) ?_
    refine lv_bipush (v := 122) hx hb dX7_readTown_123 (by decide) ?_
    obtain ⟨q18, e19, h⟩ := z_bnd h
    refine iv_X7_105 hc hI (c_X7_isLetter e19) (z_room (by decide) (by decide)) hl.1 (Nat.le_of_ble_eq_true rfl) ⟨Nat.zero_le _, Nat.zero_le _⟩ dX7_readTown_125 (fun H locs hI => ?_)
    refine lv_if_eq (tgt := 138) hx hb dX7_readTown_128 (by decide) (fun c20 => ?_) (fun c20 => ?_)
    · replace h := z_ift h c20
      refine lv_aload_n hx hb dX7_readTown_138 rfl (lv_at hl 1 rfl) ?_
      refine lv_iconst (v := 1) hx hb dX7_readTown_139 (by decide) ?_
      obtain ⟨q21, e22, h⟩ := z_bnd h
      refine iv_X7_108 hc hI (c_X7_faults e22) (z_room (by decide) (by decide)) hl.1 (Nat.le_of_ble_eq_true rfl) ⟨Nat.zero_le _, Nat.zero_le _⟩ dX7_readTown_140 (fun H locs hI => ?_)
      exact w_X7_readTown_b143 hc hK69 q21.1 _ _ _ _ h hI (lv_sub hl [1] rfl)
    · replace h := z_iff h c20
      refine lv_aload_n hx hb dX7_readTown_131 rfl (lv_at hl 1 rfl) ?_
      obtain ⟨q23, e24, h⟩ := z_bnd h
      refine iv_X7_127 hc hI (c_X7_readWalker e24) (z_room (by decide) (by decide)) hl.1 (Nat.le_of_ble_eq_true rfl) ⟨Nat.zero_le _, Nat.zero_le _⟩ dX7_readTown_132 (fun H locs hI => ?_)
      refine lv_goto (tgt := 143) hx hb dX7_readTown_135 (by decide) ?_
      exact w_X7_readTown_b143 hc hK69 q23.1 _ _ _ _ h hI (lv_sub hl [1] rfl)
  · replace h := z_iff h c17
    refine lv_aload_n hx hb dX7_readTown_114 rfl (lv_at hl 1 rfl) ?_
    refine lv_iload_n hx hb dX7_readTown_115 rfl (lv_at hl 0 rfl) ?_
    obtain ⟨q25, e26, h⟩ := z_bnd h
    refine iv_X7_124 hc hI (c_X7_readTread e26) (z_room (by decide) (by decide)) hl.1 (Nat.le_of_ble_eq_true rfl) ⟨Nat.zero_le _, Nat.zero_le _⟩ dX7_readTown_116 (fun H locs hI => ?_)
    refine lv_goto (tgt := 143) hx hb dX7_readTown_119 (by decide) ?_
    exact w_X7_readTown_b143 hc hK69 q25.1 _ _ _ _ h hI (lv_sub hl [1] rfl)
set_option maxRecDepth 100000 in
set_option maxHeartbeats 4000000 in
theorem w_X7_readTown_b90 (hc : z_C p s m args meth c RX7 cX7_readTown 3 (some .boolean)) {out : (Int32 × z_M)} {K69 : Int32 → z_M → Option (Int32 × z_M)} (hK69 : ∀ (v1 : Int32) (M : z_M) (H : Heap) (locs : List Loc) (ls : Array Slot), K69 v1 M = some out → z_I G s M H locs → lv_has ls 3 [(0, .ref (z_ad G 21 0)), (1, .int v1)] → W p l e (z_rm 6) s m args below meth c H locs 0 0 (MQ below (z_Q G (some (.int out.1)) out.2) args s 0 0 (z_A G)) (F0 m 69 ls [])) (M : z_M) (H : Heap) (locs : List Loc) (ls : Array Slot) (h : F_X7_readTown_b90 K69 M = some out) (hI : z_I G s M H locs) (hl : lv_has ls 3 [(0, .ref (z_ad G 21 0))]) : W p l e (z_rm 6) s m args below meth c H locs 0 0 (MQ below (z_Q G (some (.int out.1)) out.2) args s 0 0 (z_A G)) (F0 m 90 ls []) := by
  obtain ⟨⟨hx, hb, hml, hown, hts⟩, hr, hlk⟩ := id hc
  unfold F_X7_readTown_b90 at h
  refine lv_aload_n hx hb dX7_readTown_90 rfl (lv_at hl 0 rfl) ?_
  refine gf_X7_88 hc hI dX7_readTown_91 ?_
  refine lv_iconst (v := 1) hx hb dX7_readTown_94 (by decide) ?_
  refine lv_icmp_ne (tgt := 108) hx hb dX7_readTown_95 (by decide) (fun c16 => ?_) (fun c16 => ?_)
  · replace h := z_iff h c16
    refine lv_iconst (v := 0) hx hb dX7_readTown_108 (by decide) ?_
    exact w_X7_readTown_b109 hc hK69 0 _ _ _ _ h hI hl
  · replace h := z_ift h c16
    refine lv_aload_n hx hb dX7_readTown_98 rfl (lv_at hl 0 rfl) ?_
    refine gf_X7_91 hc hI dX7_readTown_99 ?_
    obtain ⟨q27, e28, h⟩ := z_bnd h
    refine iv_X7_121 hc hI (c_X7_kindBy e28) (z_room (by decide) (by decide)) hl.1 (Nat.le_of_ble_eq_true rfl) ⟨Nat.zero_le _, Nat.zero_le _⟩ dX7_readTown_102 (fun H locs hI => ?_)
    refine lv_goto (tgt := 109) hx hb dX7_readTown_105 (by decide) ?_
    exact w_X7_readTown_b109 hc hK69 q27 _ _ _ _ h hI hl
set_option maxRecDepth 100000 in
set_option maxHeartbeats 4000000 in
theorem w_X7_readTown_b69 (hc : z_C p s m args meth c RX7 cX7_readTown 3 (some .boolean)) {out : (Int32 × z_M)} : ∀ (n : Nat) (v1 : Int32) (M : z_M) (H : Heap) (locs : List Loc) (ls : Array Slot) (h : F_X7_readTown_b69 n v1 M = some out) (hI : z_I G s M H locs) (hl : lv_has ls 3 [(0, .ref (z_ad G 21 0)), (1, .int v1)]), W p l e (z_rm 6) s m args below meth c H locs 0 0 (MQ below (z_Q G (some (.int out.1)) out.2) args s 0 0 (z_A G)) (F0 m 69 ls []) := by
  obtain ⟨⟨hx, hb, hml, hown, hts⟩, hr, hlk⟩ := id hc
  intro n
  induction n with
  | zero => intro v1 M H locs ls h; cases h
  | succ n ih =>
    intro v1 M H locs ls h hI hl
    rw [F_X7_readTown_b69] at h
    refine lv_iload_n hx hb dX7_readTown_69 rfl (lv_at hl 1 rfl) ?_
    refine lv_if_eq (tgt := 147) hx hb dX7_readTown_70 (by decide) (fun c13 => ?_) (fun c13 => ?_)
    · replace h := z_ift h c13
      refine lv_iload_n hx hb dX7_readTown_147 rfl (lv_at hl 1 rfl) ?_
      obtain ⟨g14, h⟩ := z_grd_some h
      obtain rfl := Option.some.inj h
      exact z_rz hc hI g14 dX7_readTown_148
    · replace h := z_iff h c13
      refine lv_aload_n hx hb dX7_readTown_73 rfl (lv_at hl 0 rfl) ?_
      refine gf_X7_88 hc hI dX7_readTown_74 ?_
      refine lv_iconst (v := 3) hx hb dX7_readTown_77 (by decide) ?_
      refine lv_icmp_ne (tgt := 90) hx hb dX7_readTown_78 (by decide) (fun c15 => ?_) (fun c15 => ?_)
      · replace h := z_iff h c15
        exact w_X7_readTown_b90 hc ih _ _ _ _ h hI (lv_sub hl [0] rfl)
      · replace h := z_ift h c15
        refine lv_aload_n hx hb dX7_readTown_81 rfl (lv_at hl 0 rfl) ?_
        refine gf_X7_28 hc hI dX7_readTown_82 ?_
        refine lv_iconst (v := 1) hx hb dX7_readTown_85 (by decide) ?_
        obtain ⟨g29, h⟩ := z_grd_some h
        refine ld_k28 hc hI g29 dX7_readTown_86 ?_
        refine lv_if_ne (tgt := 147) hx hb dX7_readTown_87 (by decide) (fun c30 => ?_) (fun c30 => ?_)
        · replace h := z_iff h c30
          refine lv_iload_n hx hb dX7_readTown_147 rfl (lv_at hl 1 rfl) ?_
          obtain ⟨g31, h⟩ := z_grd_some h
          obtain rfl := Option.some.inj h
          exact z_rz hc hI g31 dX7_readTown_148
        · replace h := z_ift h c30
          exact w_X7_readTown_b90 hc ih _ _ _ _ h hI (lv_sub hl [0] rfl)
set_option maxRecDepth 100000 in
set_option maxHeartbeats 4000000 in
theorem w_X7_readTown_b7 (hc : z_C p s m args meth c RX7 cX7_readTown 3 (some .boolean)) {out : (Int32 × z_M)} : ∀ (n : Nat) (v1 : Int32) (M : z_M) (H : Heap) (locs : List Loc) (ls : Array Slot) (h : F_X7_readTown_b7 n v1 M = some out) (hI : z_I G s M H locs) (hl : lv_has ls 3 [(0, .ref (z_ad G 21 0)), (1, .int v1)]), W p l e (z_rm 6) s m args below meth c H locs 0 0 (MQ below (z_Q G (some (.int out.1)) out.2) args s 0 0 (z_A G)) (F0 m 7 ls []) := by
  obtain ⟨⟨hx, hb, hml, hown, hts⟩, hr, hlk⟩ := id hc
  intro n
  induction n with
  | zero => intro v1 M H locs ls h; cases h
  | succ n ih =>
    intro v1 M H locs ls h hI hl
    rw [F_X7_readTown_b7] at h
    refine lv_iload_n hx hb dX7_readTown_7 rfl (lv_at hl 1 rfl) ?_
    refine lv_bipush (v := 49) hx hb dX7_readTown_8 (by decide) ?_
    refine lv_icmp_ge (tgt := 26) hx hb dX7_readTown_10 (by decide) (fun c1 => ?_) (fun c1 => ?_)
    · replace h := z_ift h c1
      refine lv_aload_n hx hb dX7_readTown_26 rfl (lv_at hl 0 rfl) ?_
      obtain ⟨q2, e3, h⟩ := z_bnd h
      refine iv_X7_111 hc hI (c_X7_nextToken e3) (z_room (by decide) (by decide)) hl.1 (Nat.le_of_ble_eq_true rfl) ⟨Nat.zero_le _, Nat.zero_le _⟩ dX7_readTown_27 (fun H locs hI => ?_)
      refine lv_aload_n hx hb dX7_readTown_30 rfl (lv_at hl 0 rfl) ?_
      refine lv_bipush (v := 116) hx hb dX7_readTown_31 (by decide) ?_
      obtain ⟨q4, e5, h⟩ := z_bnd h
      refine iv_X7_114 hc hI (c_X7_takes e5) (z_room (by decide) (by decide)) hl.1 (Nat.le_of_ble_eq_true rfl) ⟨Nat.zero_le _, Nat.zero_le _⟩ dX7_readTown_33 (fun H locs hI => ?_)
      refine lv_if_eq (tgt := 65) hx hb dX7_readTown_36 (by decide) (fun c6 => ?_) (fun c6 => ?_)
      · replace h := z_ift h c6
        refine lv_iconst (v := 0) hx hb dX7_readTown_65 (by decide) ?_
        obtain rfl := Option.some.inj h
        exact z_rz (x := 0) hc hI (by decide) dX7_readTown_66
      · replace h := z_iff h c6
        refine lv_aload_n hx hb dX7_readTown_39 rfl (lv_at hl 0 rfl) ?_
        refine lv_iconst (v := 0) hx hb dX7_readTown_40 (by decide) ?_
        refine lv_bipush (v := 15) hx hb dX7_readTown_41 (by decide) ?_
        refine lv_iconst (v := 2) hx hb dX7_readTown_43 (by decide) ?_
        refine lv_bipush (v := 44) hx hb dX7_readTown_44 (by decide) ?_
        obtain ⟨q7, e8, h⟩ := z_bnd h
        refine iv_X7_117 hc hI (c_X7_takesNumber e8) (z_room (by decide) (by decide)) hl.1 (Nat.le_of_ble_eq_true rfl) ⟨Nat.zero_le _, Nat.zero_le _⟩ dX7_readTown_46 (fun H locs hI => ?_)
        refine lv_if_eq (tgt := 65) hx hb dX7_readTown_49 (by decide) (fun c9 => ?_) (fun c9 => ?_)
        · replace h := z_ift h c9
          refine lv_iconst (v := 0) hx hb dX7_readTown_65 (by decide) ?_
          obtain rfl := Option.some.inj h
          exact z_rz (x := 0) hc hI (by decide) dX7_readTown_66
        · replace h := z_iff h c9
          refine lv_aload_n hx hb dX7_readTown_52 rfl (lv_at hl 0 rfl) ?_
          refine lv_iconst (v := 0) hx hb dX7_readTown_53 (by decide) ?_
          refine lv_bipush (v := 9) hx hb dX7_readTown_54 (by decide) ?_
          refine lv_iconst (v := 3) hx hb dX7_readTown_56 (by decide) ?_
          refine lv_bipush (v := 59) hx hb dX7_readTown_57 (by decide) ?_
          obtain ⟨q10, e11, h⟩ := z_bnd h
          refine iv_X7_117 hc hI (c_X7_takesNumber e11) (z_room (by decide) (by decide)) hl.1 (Nat.le_of_ble_eq_true rfl) ⟨Nat.zero_le _, Nat.zero_le _⟩ dX7_readTown_59 (fun H locs hI => ?_)
          refine lv_if_ne (tgt := 67) hx hb dX7_readTown_62 (by decide) (fun c12 => ?_) (fun c12 => ?_)
          · replace h := z_iff h c12
            refine lv_iconst (v := 1) hx hb dX7_readTown_67 (by decide) ?_
            refine lv_istore_n (lv' := [(1, .int 1), (0, .ref (z_ad G 21 0))]) hx hb dX7_readTown_68 rfl hl (by decide) rfl (fun ls hl => ?_)
            exact w_X7_readTown_b69 hc _ 1 _ _ _ _ h hI (lv_sub hl [1, 0] rfl)
          · replace h := z_ift h c12
            refine lv_iconst (v := 0) hx hb dX7_readTown_65 (by decide) ?_
            obtain rfl := Option.some.inj h
            exact z_rz (x := 0) hc hI (by decide) dX7_readTown_66
    · replace h := z_iff h c1
      refine lv_aload_n hx hb dX7_readTown_13 rfl (lv_at hl 0 rfl) ?_
      refine gf_X7_28 hc hI dX7_readTown_14 ?_
      refine lv_iload_n hx hb dX7_readTown_17 rfl (lv_at hl 1 rfl) ?_
      refine lv_iconst (v := 0) hx hb dX7_readTown_18 (by decide) ?_
      obtain ⟨g32, h⟩ := z_grd_some h
      refine st_k28 hc hI g32 dX7_readTown_19 (fun H locs hI => ?_)
      refine lv_iinc (v := v1 + 1) (lv' := [(1, .int (v1 + 1)), (0, .ref (z_ad G 21 0))]) hx hb dX7_readTown_20 hl (k := 1) rfl rfl (by decide) rfl (fun ls hl => ?_)
      refine lv_goto (tgt := 7) hx hb dX7_readTown_23 (by decide) ?_
      exact ih (v1 + 1) _ _ _ _ h hI (lv_sub hl [1, 0] rfl)
set_option maxRecDepth 100000 in
set_option maxHeartbeats 4000000 in
theorem c_X7_readTown {G : z_G} {l : Launch} {M : z_M} {out : (Int32 × z_M)} (h : F_X7_readTown M = some out) : z_Met G l yX7_readTown cX7_readTown 3 (some .boolean) 6 [.ref (z_ad G 21 0)] M (some (.int out.1)) out.2 := by
  unfold F_X7_readTown at h
  refine z_met_of (by decide) rfl (Nat.le_of_ble_eq_true rfl) (fun p e s m below meth c ls hc hI hl => ?_)
  obtain ⟨⟨hx, hb, hml, hown, hts⟩, hr, hlk⟩ := id hc
  have hl : lv_has ls 3 [(0, .ref (z_ad G 21 0))] := hl
  refine lv_aload_n hx hb dX7_readTown_0 rfl (lv_at hl 0 rfl) ?_
  refine lv_iconst (v := 0) hx hb dX7_readTown_1 (by decide) ?_
  refine pf_X7_82 hc hI dX7_readTown_2 (fun H locs hI => ?_)
  refine lv_iconst (v := 0) hx hb dX7_readTown_5 (by decide) ?_
  refine lv_istore_n (lv' := [(1, .int 0), (0, .ref (z_ad G 21 0))]) hx hb dX7_readTown_6 rfl hl (by decide) rfl (fun ls hl => ?_)
  exact w_X7_readTown_b7 hc _ 0 _ _ _ _ h hI (lv_sub hl [1, 0] rfl)
set_option maxRecDepth 100000 in
set_option maxHeartbeats 4000000 in
theorem w_X7_town_b32 (hc : z_C p s m args meth c RX7 cX7_town 3 (some .int)) {out : (Int32 × z_M)} : ∀ (n : Nat) (v2 : Int32) (M : z_M) (H : Heap) (locs : List Loc) (ls : Array Slot) (h : F_X7_town_b32 n v2 M = some out) (hI : z_I G s M H locs) (hl : lv_has ls 3 [(0, .ref (z_ad G 21 0)), (2, .int v2)]), W p l e (z_rm 7) s m args below meth c H locs 0 0 (MQ below (z_Q G (some (.int out.1)) out.2) args s 0 0 (z_A G)) (F0 m 32 ls []) := by
  obtain ⟨⟨hx, hb, hml, hown, hts⟩, hr, hlk⟩ := id hc
  intro n
  induction n with
  | zero => intro v2 M H locs ls h; cases h
  | succ n ih =>
    intro v2 M H locs ls h hI hl
    rw [F_X7_town_b32] at h
    refine lv_iload_n hx hb dX7_town_32 rfl (lv_at hl 1 rfl) ?_
    refine lv_bipush (v := 49) hx hb dX7_town_33 (by decide) ?_
    refine lv_icmp_ge (tgt := 56) hx hb dX7_town_35 (by decide) (fun c4 => ?_) (fun c4 => ?_)
    · replace h := z_ift h c4
      refine lv_aload_n hx hb dX7_town_56 rfl (lv_at hl 0 rfl) ?_
      refine lv_iconst (v := 1) hx hb dX7_town_57 (by decide) ?_
      refine pf_X7_138 (by decide) (by decide) hc hI dX7_town_58 (fun H locs hI => ?_)
      refine lv_aload_n hx hb dX7_town_61 rfl (lv_at hl 0 rfl) ?_
      refine lv_iconst (v := 0) hx hb dX7_town_62 (by decide) ?_
      obtain ⟨M5, h, hI⟩ := z_nM h hI
      refine pf_X7_142 hc hI dX7_town_63 (fun H locs hI => ?_)
      refine lv_aload_n hx hb dX7_town_66 rfl (lv_at hl 0 rfl) ?_
      refine gf_X7_19 hc hI dX7_town_67 ?_
      refine lv_iconst (v := 0) hx hb dX7_town_70 (by decide) ?_
      obtain ⟨M7, h, hI⟩ := z_nM h hI
      obtain ⟨g6, h⟩ := z_grd_some h
      refine ld_k25 hc hI g6 dX7_town_71 ?_
      obtain rfl := Option.some.inj h
      exact z_ri hc hI dX7_town_72
    · replace h := z_iff h c4
      refine lv_aload_n hx hb dX7_town_38 rfl (lv_at hl 0 rfl) ?_
      refine gf_X7_19 hc hI dX7_town_39 ?_
      refine lv_iload_n hx hb dX7_town_42 rfl (lv_at hl 1 rfl) ?_
      refine lv_aload_n hx hb dX7_town_43 rfl (lv_at hl 0 rfl) ?_
      refine gf_X7_28 hc hI dX7_town_44 ?_
      refine lv_iload_n hx hb dX7_town_47 rfl (lv_at hl 1 rfl) ?_
      obtain ⟨g8, h⟩ := z_grd_some h
      refine ld_k28 hc hI g8 dX7_town_48 ?_
      obtain ⟨g9, h⟩ := z_grd_some h
      refine st_k25 hc hI g9 dX7_town_49 (fun H locs hI => ?_)
      refine lv_iinc (v := v2 + 1) (lv' := [(2, .int (v2 + 1)), (0, .ref (z_ad G 21 0))]) hx hb dX7_town_50 hl (k := 1) rfl rfl (by decide) rfl (fun ls hl => ?_)
      refine lv_goto (tgt := 32) hx hb dX7_town_53 (by decide) ?_
      exact ih (v2 + 1) _ _ _ _ h hI (lv_sub hl [1, 0] rfl)
set_option maxRecDepth 100000 in
set_option maxHeartbeats 4000000 in
theorem c_X7_town {G : z_G} {l : Launch} {M : z_M} {out : (Int32 × z_M)} (h : F_X7_town M = some out) : z_Met G l yX7_town cX7_town 3 (some .int) 7 [.ref (z_ad G 21 0)] M (some (.int out.1)) out.2 := by
  unfold F_X7_town at h
  refine z_met_of (by decide) rfl (Nat.le_of_ble_eq_true rfl) (fun p e s m below meth c ls hc hI hl => ?_)
  obtain ⟨⟨hx, hb, hml, hown, hts⟩, hr, hlk⟩ := id hc
  have hl : lv_has ls 3 [(0, .ref (z_ad G 21 0))] := hl
  refine lv_aload_n hx hb dX7_town_0 rfl (lv_at hl 0 rfl) ?_
  obtain ⟨q1, e2, h⟩ := z_bnd h
  refine iv_X7_131 hc hI (c_X7_readTown e2) (z_room (by decide) (by decide)) hl.1 (Nat.le_of_ble_eq_true rfl) ⟨Nat.zero_le _, Nat.zero_le _⟩ dX7_town_1 (fun H locs hI => ?_)
  refine lv_istore_n (lv' := [(1, .int q1.1), (0, .ref (z_ad G 21 0))]) hx hb dX7_town_4 rfl hl (by decide) rfl (fun ls hl => ?_)
  refine lv_aload_n hx hb dX7_town_5 rfl (lv_at hl 1 rfl) ?_
  refine lv_iconst (v := 0) hx hb dX7_town_6 (by decide) ?_
  refine pf_X7_78 hc hI dX7_town_7 (fun H locs hI => ?_)
  refine lv_iload_n hx hb dX7_town_10 rfl (lv_at hl 0 rfl) ?_
  refine lv_if_ne (tgt := 30) hx hb dX7_town_11 (by decide) (fun c3 => ?_) (fun c3 => ?_)
  · replace h := z_iff h c3
    refine lv_iconst (v := 0) hx hb dX7_town_30 (by decide) ?_
    refine lv_istore_n (lv' := [(2, .int 0), (1, .int q1.1), (0, .ref (z_ad G 21 0))]) hx hb dX7_town_31 rfl hl (by decide) rfl (fun ls hl => ?_)
    exact w_X7_town_b32 hc _ 0 _ _ _ _ h hI (lv_sub hl [2, 0] rfl)
  · replace h := z_ift h c3
    refine lv_aload_n hx hb dX7_town_14 rfl (lv_at hl 1 rfl) ?_
    refine lv_aload_n hx hb dX7_town_15 rfl (lv_at hl 1 rfl) ?_
    obtain ⟨M10, h, hI⟩ := z_nM h hI
    refine gf_X7_102 hc hI dX7_town_16 ?_
    refine pf_X7_134 hc hI dX7_town_19 (fun H locs hI => ?_)
    refine lv_ldc (v := (-1000100)) hx hb hown (hts _ wd_5_79) dX7_town_22 ?_
    refine lv_aload_n hx hb dX7_town_24 rfl (lv_at hl 1 rfl) ?_
    obtain ⟨M11, h, hI⟩ := z_nM h hI
    refine gf_X7_85 hc hI dX7_town_25 ?_
    refine lv_isub hx hb dX7_town_28 ?_
    obtain rfl := Option.some.inj h
    exact z_ri hc hI dX7_town_29
set_option maxRecDepth 100000 in
set_option maxHeartbeats 4000000 in
theorem c_X7_fault {G : z_G} {l : Launch} {M : z_M} {out : Int32} (h : F_X7_fault M = some out) : z_Met G l yX7_fault cX7_fault 1 (some .int) 1 [.ref (z_ad G 21 0)] M (some (.int out)) M := by
  unfold F_X7_fault at h
  refine z_met_of (by decide) rfl (Nat.le_of_ble_eq_true rfl) (fun p e s m below meth c ls hc hI hl => ?_)
  obtain ⟨⟨hx, hb, hml, hown, hts⟩, hr, hlk⟩ := id hc
  have hl : lv_has ls 1 [(0, .ref (z_ad G 21 0))] := hl
  refine lv_aload_n hx hb dX7_fault_0 rfl (lv_at hl 0 rfl) ?_
  refine gf_X7_134 hc hI dX7_fault_1 ?_
  obtain rfl := Option.some.inj h
  exact z_ri hc hI dX7_fault_4
set_option maxRecDepth 100000 in
set_option maxHeartbeats 4000000 in
theorem c_X7_isTread {G : z_G} {l : Launch} {a1 : Int32} {M : z_M} {out : Int32} (h : F_X7_isTread a1 M = some out) : z_Met G l yX7_isTread cX7_isTread 2 (some .boolean) 2 [.ref (z_ad G 21 0), .int a1] M (some (.int out)) M := by
  unfold F_X7_isTread at h
  refine z_met_of (by decide) rfl (Nat.le_of_ble_eq_true rfl) (fun p e s m below meth c ls hc hI hl => ?_)
  obtain ⟨⟨hx, hb, hml, hown, hts⟩, hr, hlk⟩ := id hc
  have hl : lv_has ls 2 [(0, .ref (z_ad G 21 0)), (1, .int a1)] := hl
  refine lv_iload_n hx hb dX7_isTread_0 rfl (lv_at hl 1 rfl) ?_
  refine lv_i2l (v := a1.toInt64) hx hb dX7_isTread_1 rfl ?_
  refine lv_lconst (v := 0) hx hb dX7_isTread_2 (by decide) ?_
  refine lv_aload_n hx hb dX7_isTread_3 rfl (lv_at hl 0 rfl) ?_
  refine gf_X7_19 hc hI dX7_isTread_4 ?_
  refine lv_iconst (v := 0) hx hb dX7_isTread_7 (by decide) ?_
  obtain ⟨g1, h⟩ := z_grd_some h
  refine ld_k25 hc hI g1 dX7_isTread_8 ?_
  refine lv_iconst (v := 1) hx hb dX7_isTread_9 (by decide) ?_
  refine lv_isub hx hb dX7_isTread_10 ?_
  refine lv_i2l (v := ((z_gi M 25 0 (0 : Int32).toNatClampNeg) - 1).toInt64) hx hb dX7_isTread_11 rfl ?_
  obtain ⟨q2, e3, h⟩ := z_bnd h
  refine iv_X7_54 hc hI (c_X7_in e3) (z_room (by decide) (by decide)) hl.1 (Nat.le_of_ble_eq_true rfl) ⟨Nat.zero_le _, Nat.zero_le _⟩ dX7_isTread_12 (fun H locs hI => ?_)
  obtain ⟨g4, h⟩ := z_grd_some h
  obtain rfl := Option.some.inj h
  exact z_rz hc hI g4 dX7_isTread_15
set_option maxRecDepth 100000 in
set_option maxHeartbeats 4000000 in
theorem c_X7_isWalker {G : z_G} {l : Launch} {a1 : Int32} {M : z_M} {out : Int32} (h : F_X7_isWalker a1 M = some out) : z_Met G l yX7_isWalker cX7_isWalker 2 (some .boolean) 2 [.ref (z_ad G 21 0), .int a1] M (some (.int out)) M := by
  unfold F_X7_isWalker at h
  refine z_met_of (by decide) rfl (Nat.le_of_ble_eq_true rfl) (fun p e s m below meth c ls hc hI hl => ?_)
  obtain ⟨⟨hx, hb, hml, hown, hts⟩, hr, hlk⟩ := id hc
  have hl : lv_has ls 2 [(0, .ref (z_ad G 21 0)), (1, .int a1)] := hl
  refine lv_iload_n hx hb dX7_isWalker_0 rfl (lv_at hl 1 rfl) ?_
  refine lv_i2l (v := a1.toInt64) hx hb dX7_isWalker_1 rfl ?_
  refine lv_lconst (v := 0) hx hb dX7_isWalker_2 (by decide) ?_
  refine lv_aload_n hx hb dX7_isWalker_3 rfl (lv_at hl 0 rfl) ?_
  refine gf_X7_19 hc hI dX7_isWalker_4 ?_
  refine lv_iconst (v := 1) hx hb dX7_isWalker_7 (by decide) ?_
  obtain ⟨g1, h⟩ := z_grd_some h
  refine ld_k25 hc hI g1 dX7_isWalker_8 ?_
  refine lv_iconst (v := 1) hx hb dX7_isWalker_9 (by decide) ?_
  refine lv_isub hx hb dX7_isWalker_10 ?_
  refine lv_i2l (v := ((z_gi M 25 0 (1 : Int32).toNatClampNeg) - 1).toInt64) hx hb dX7_isWalker_11 rfl ?_
  obtain ⟨q2, e3, h⟩ := z_bnd h
  refine iv_X7_54 hc hI (c_X7_in e3) (z_room (by decide) (by decide)) hl.1 (Nat.le_of_ble_eq_true rfl) ⟨Nat.zero_le _, Nat.zero_le _⟩ dX7_isWalker_12 (fun H locs hI => ?_)
  obtain ⟨g4, h⟩ := z_grd_some h
  obtain rfl := Option.some.inj h
  exact z_rz hc hI g4 dX7_isWalker_15
set_option maxRecDepth 100000 in
set_option maxHeartbeats 4000000 in
theorem c_X7_isMinute {G : z_G} {l : Launch} {a1 : Int32} {M : z_M} {out : Int32} (h : F_X7_isMinute a1 M = some out) : z_Met G l yX7_isMinute cX7_isMinute 1 (some .boolean) 2 [.int a1] M (some (.int out)) M := by
  unfold F_X7_isMinute at h
  refine z_met_of (by decide) rfl (Nat.le_of_ble_eq_true rfl) (fun p e s m below meth c ls hc hI hl => ?_)
  obtain ⟨⟨hx, hb, hml, hown, hts⟩, hr, hlk⟩ := id hc
  have hl : lv_has ls 1 [(0, .int a1)] := hl
  refine lv_iload_n hx hb dX7_isMinute_0 rfl (lv_at hl 0 rfl) ?_
  refine lv_i2l (v := a1.toInt64) hx hb dX7_isMinute_1 rfl ?_
  refine lv_lconst (v := 0) hx hb dX7_isMinute_2 (by decide) ?_
  refine lv_ldc2 (v := 29) hx hb hown (hts _ wd_5_191) dX7_isMinute_3 ?_
  obtain ⟨q1, e2, h⟩ := z_bnd h
  refine iv_X7_54 hc hI (c_X7_in e2) (z_room (by decide) (by decide)) hl.1 (Nat.le_of_ble_eq_true rfl) ⟨Nat.zero_le _, Nat.zero_le _⟩ dX7_isMinute_6 (fun H locs hI => ?_)
  obtain ⟨g3, h⟩ := z_grd_some h
  obtain rfl := Option.some.inj h
  exact z_rz hc hI g3 dX7_isMinute_9
set_option maxRecDepth 100000 in
set_option maxHeartbeats 4000000 in
theorem c_X7_size {G : z_G} {l : Launch} {a1 : Int32} {M : z_M} {out : Int32} (h : F_X7_size a1 M = some out) : z_Met G l yX7_size cX7_size 1 (some .int) 1 [.int a1] M (some (.int out)) M := by
  unfold F_X7_size at h
  refine z_met_of (by decide) rfl (Nat.le_of_ble_eq_true rfl) (fun p e s m below meth c ls hc hI hl => ?_)
  obtain ⟨⟨hx, hb, hml, hown, hts⟩, hr, hlk⟩ := id hc
  have hl : lv_has ls 1 [(0, .int a1)] := hl
  refine lv_iload_n hx hb dX7_size_0 rfl (lv_at hl 0 rfl) ?_
  refine lv_if_ge (tgt := 9) hx hb dX7_size_1 (by decide) (fun c1 => ?_) (fun c1 => ?_)
  · replace h := z_ift h c1
    refine lv_iload_n hx hb dX7_size_9 rfl (lv_at hl 0 rfl) ?_
    obtain rfl := Option.some.inj h
    exact z_ri hc hI dX7_size_10
  · replace h := z_iff h c1
    refine lv_iload_n hx hb dX7_size_4 rfl (lv_at hl 0 rfl) ?_
    refine lv_ineg hx hb dX7_size_5 ?_
    refine lv_goto (tgt := 10) hx hb dX7_size_6 (by decide) ?_
    obtain rfl := Option.some.inj h
    exact z_ri hc hI dX7_size_10
set_option maxRecDepth 100000 in
set_option maxHeartbeats 4000000 in
theorem c_X7_longOf {G : z_G} {l : Launch} {a1 : Int32} {M : z_M} {out : Int32} (h : F_X7_longOf a1 M = some out) : z_Met G l yX7_longOf cX7_longOf 3 (some .int) 2 [.ref (z_ad G 21 0), .int a1] M (some (.int out)) M := by
  unfold F_X7_longOf at h
  refine z_met_of (by decide) rfl (Nat.le_of_ble_eq_true rfl) (fun p e s m below meth c ls hc hI hl => ?_)
  obtain ⟨⟨hx, hb, hml, hown, hts⟩, hr, hlk⟩ := id hc
  have hl : lv_has ls 3 [(0, .ref (z_ad G 21 0)), (1, .int a1)] := hl
  refine lv_aload_n hx hb dX7_longOf_0 rfl (lv_at hl 0 rfl) ?_
  refine gf_X7_19 hc hI dX7_longOf_1 ?_
  refine lv_bipush (v := 34) hx hb dX7_longOf_4 (by decide) ?_
  refine lv_iload_n hx hb dX7_longOf_6 rfl (lv_at hl 1 rfl) ?_
  refine lv_iadd hx hb dX7_longOf_7 ?_
  obtain ⟨g1, h⟩ := z_grd_some h
  refine ld_k25 hc hI g1 dX7_longOf_8 ?_
  refine lv_aload_n hx hb dX7_longOf_9 rfl (lv_at hl 0 rfl) ?_
  refine gf_X7_19 hc hI dX7_longOf_10 ?_
  refine lv_bipush (v := 29) hx hb dX7_longOf_13 (by decide) ?_
  refine lv_iload_n hx hb dX7_longOf_15 rfl (lv_at hl 1 rfl) ?_
  refine lv_iadd hx hb dX7_longOf_16 ?_
  obtain ⟨g2, h⟩ := z_grd_some h
  refine ld_k25 hc hI g2 dX7_longOf_17 ?_
  refine lv_isub hx hb dX7_longOf_18 ?_
  obtain ⟨q3, e4, h⟩ := z_bnd h
  refine iv_X7_147 hc hI (c_X7_size e4) (z_room (by decide) (by decide)) hl.1 (Nat.le_of_ble_eq_true rfl) ⟨Nat.zero_le _, Nat.zero_le _⟩ dX7_longOf_19 (fun H locs hI => ?_)
  refine lv_istore_n (lv' := [(2, .int q3), (0, .ref (z_ad G 21 0)), (1, .int a1)]) hx hb dX7_longOf_22 rfl hl (by decide) rfl (fun ls hl => ?_)
  refine lv_iconst (v := 1) hx hb dX7_longOf_23 (by decide) ?_
  refine lv_iload_n hx hb dX7_longOf_24 rfl (lv_at hl 0 rfl) ?_
  refine lv_aload_n hx hb dX7_longOf_25 rfl (lv_at hl 1 rfl) ?_
  refine gf_X7_19 hc hI dX7_longOf_26 ?_
  refine lv_bipush (v := 39) hx hb dX7_longOf_29 (by decide) ?_
  refine lv_iload_n hx hb dX7_longOf_31 rfl (lv_at hl 2 rfl) ?_
  refine lv_iadd hx hb dX7_longOf_32 ?_
  obtain ⟨g5, h⟩ := z_grd_some h
  refine ld_k25 hc hI g5 dX7_longOf_33 ?_
  refine lv_iadd hx hb dX7_longOf_34 ?_
  refine lv_iconst (v := 1) hx hb dX7_longOf_35 (by decide) ?_
  refine lv_isub hx hb dX7_longOf_36 ?_
  refine lv_aload_n hx hb dX7_longOf_37 rfl (lv_at hl 1 rfl) ?_
  refine gf_X7_19 hc hI dX7_longOf_38 ?_
  refine lv_bipush (v := 39) hx hb dX7_longOf_41 (by decide) ?_
  refine lv_iload_n hx hb dX7_longOf_43 rfl (lv_at hl 2 rfl) ?_
  refine lv_iadd hx hb dX7_longOf_44 ?_
  obtain ⟨g6, h⟩ := z_grd_some h
  refine ld_k25 hc hI g6 dX7_longOf_45 ?_
  obtain ⟨g7, h⟩ := z_grd_some h
  refine lv_idiv hx hb dX7_longOf_46 g7 ?_
  refine lv_iadd hx hb dX7_longOf_47 ?_
  obtain rfl := Option.some.inj h
  exact z_ri hc hI dX7_longOf_48
set_option maxRecDepth 100000 in
set_option maxHeartbeats 4000000 in
theorem w_X7_treadOf_b51 {M : z_M} (hc : z_C p s m args meth c RX7 cX7_treadOf 5 (some .int)) {out : Int32} (v1 : Int32) (v3 : Int32) (s0 : Int32) (H : Heap) (locs : List Loc) (ls : Array Slot) (h : F_X7_treadOf_b51 M v1 v3 s0 = some out) (hI : z_I G s M H locs) (hl : lv_has ls 5 [(0, .ref (z_ad G 21 0)), (1, .int v1), (3, .int v3)]) : W p l e (z_rm 2) s m args below meth c H locs 0 0 (MQ below (z_Q G (some (.int out)) M) args s 0 0 (z_A G)) (F0 m 51 ls [.int s0]) := by
  obtain ⟨⟨hx, hb, hml, hown, hts⟩, hr, hlk⟩ := id hc
  unfold F_X7_treadOf_b51 at h
  refine lv_istore (lv' := [(4, .int s0), (0, .ref (z_ad G 21 0)), (1, .int v1), (3, .int v3)]) hx hb dX7_treadOf_51 hl (by decide) rfl (fun ls hl => ?_)
  refine lv_iload_n hx hb dX7_treadOf_53 rfl (lv_at hl 3 rfl) ?_
  refine lv_if_ge (tgt := 72) hx hb dX7_treadOf_54 (by decide) (fun c9 => ?_) (fun c9 => ?_)
  · replace h := z_ift h c9
    refine lv_aload_n hx hb dX7_treadOf_72 rfl (lv_at hl 1 rfl) ?_
    refine gf_X7_19 hc hI dX7_treadOf_73 ?_
    refine lv_bipush (v := 29) hx hb dX7_treadOf_76 (by decide) ?_
    refine lv_iload_n hx hb dX7_treadOf_78 rfl (lv_at hl 2 rfl) ?_
    refine lv_iadd hx hb dX7_treadOf_79 ?_
    obtain ⟨g10, h⟩ := z_grd_some h
    refine ld_k25 hc hI g10 dX7_treadOf_80 ?_
    refine lv_iload hx hb dX7_treadOf_81 (lv_at hl 0 rfl) ?_
    refine lv_iadd hx hb dX7_treadOf_83 ?_
    obtain rfl := Option.some.inj h
    exact z_ri hc hI dX7_treadOf_84
  · replace h := z_iff h c9
    refine lv_aload_n hx hb dX7_treadOf_57 rfl (lv_at hl 1 rfl) ?_
    refine gf_X7_19 hc hI dX7_treadOf_58 ?_
    refine lv_bipush (v := 29) hx hb dX7_treadOf_61 (by decide) ?_
    refine lv_iload_n hx hb dX7_treadOf_63 rfl (lv_at hl 2 rfl) ?_
    refine lv_iadd hx hb dX7_treadOf_64 ?_
    obtain ⟨g11, h⟩ := z_grd_some h
    refine ld_k25 hc hI g11 dX7_treadOf_65 ?_
    refine lv_iload hx hb dX7_treadOf_66 (lv_at hl 0 rfl) ?_
    refine lv_isub hx hb dX7_treadOf_68 ?_
    refine lv_goto (tgt := 84) hx hb dX7_treadOf_69 (by decide) ?_
    obtain rfl := Option.some.inj h
    exact z_ri hc hI dX7_treadOf_84
set_option maxRecDepth 100000 in
set_option maxHeartbeats 4000000 in
theorem c_X7_treadOf {G : z_G} {l : Launch} {a1 : Int32} {a2 : Int32} {M : z_M} {out : Int32} (h : F_X7_treadOf a1 a2 M = some out) : z_Met G l yX7_treadOf cX7_treadOf 5 (some .int) 2 [.ref (z_ad G 21 0), .int a1, .int a2] M (some (.int out)) M := by
  unfold F_X7_treadOf at h
  refine z_met_of (by decide) rfl (Nat.le_of_ble_eq_true rfl) (fun p e s m below meth c ls hc hI hl => ?_)
  obtain ⟨⟨hx, hb, hml, hown, hts⟩, hr, hlk⟩ := id hc
  have hl : lv_has ls 5 [(0, .ref (z_ad G 21 0)), (1, .int a1), (2, .int a2)] := hl
  refine lv_aload_n hx hb dX7_treadOf_0 rfl (lv_at hl 0 rfl) ?_
  refine gf_X7_19 hc hI dX7_treadOf_1 ?_
  refine lv_bipush (v := 34) hx hb dX7_treadOf_4 (by decide) ?_
  refine lv_iload_n hx hb dX7_treadOf_6 rfl (lv_at hl 1 rfl) ?_
  refine lv_iadd hx hb dX7_treadOf_7 ?_
  obtain ⟨g1, h⟩ := z_grd_some h
  refine ld_k25 hc hI g1 dX7_treadOf_8 ?_
  refine lv_aload_n hx hb dX7_treadOf_9 rfl (lv_at hl 0 rfl) ?_
  refine gf_X7_19 hc hI dX7_treadOf_10 ?_
  refine lv_bipush (v := 29) hx hb dX7_treadOf_13 (by decide) ?_
  refine lv_iload_n hx hb dX7_treadOf_15 rfl (lv_at hl 1 rfl) ?_
  refine lv_iadd hx hb dX7_treadOf_16 ?_
  obtain ⟨g2, h⟩ := z_grd_some h
  refine ld_k25 hc hI g2 dX7_treadOf_17 ?_
  refine lv_isub hx hb dX7_treadOf_18 ?_
  refine z_nI h (fun x3 h => ?_)
  refine lv_istore_n (lv' := [(3, .int x3), (0, .ref (z_ad G 21 0)), (1, .int a1), (2, .int a2)]) hx hb dX7_treadOf_19 rfl hl (by decide) rfl (fun ls hl => ?_)
  refine lv_iload_n hx hb dX7_treadOf_20 rfl (lv_at hl 3 rfl) ?_
  refine lv_aload_n hx hb dX7_treadOf_21 rfl (lv_at hl 1 rfl) ?_
  refine gf_X7_19 hc hI dX7_treadOf_22 ?_
  refine lv_bipush (v := 39) hx hb dX7_treadOf_25 (by decide) ?_
  refine lv_iload_n hx hb dX7_treadOf_27 rfl (lv_at hl 2 rfl) ?_
  refine lv_iadd hx hb dX7_treadOf_28 ?_
  obtain ⟨g4, h⟩ := z_grd_some h
  refine ld_k25 hc hI g4 dX7_treadOf_29 ?_
  refine lv_imul hx hb dX7_treadOf_30 ?_
  refine z_nI h (fun x5 h => ?_)
  refine lv_istore (lv' := [(4, .int x5), (3, .int x3), (0, .ref (z_ad G 21 0)), (1, .int a1), (2, .int a2)]) hx hb dX7_treadOf_31 hl (by decide) rfl (fun ls hl => ?_)
  refine lv_iload hx hb dX7_treadOf_33 (lv_at hl 0 rfl) ?_
  refine lv_iload_n hx hb dX7_treadOf_35 rfl (lv_at hl 1 rfl) ?_
  obtain ⟨q6, e7, h⟩ := z_bnd h
  refine iv_X7_147 hc hI (c_X7_size e7) (z_room (by decide) (by decide)) hl.1 (Nat.le_of_ble_eq_true rfl) ⟨Nat.zero_le _, Nat.zero_le _⟩ dX7_treadOf_36 (fun H locs hI => ?_)
  refine lv_icmp_le (tgt := 49) hx hb dX7_treadOf_39 (by decide) (fun c8 => ?_) (fun c8 => ?_)
  · replace h := z_ift h c8
    refine lv_iload hx hb dX7_treadOf_49 (lv_at hl 0 rfl) ?_
    exact w_X7_treadOf_b51 hc a1 x3 x5 _ _ _ h hI (lv_sub hl [2, 3, 1] rfl)
  · replace h := z_iff h c8
    refine lv_iload_n hx hb dX7_treadOf_42 rfl (lv_at hl 1 rfl) ?_
    obtain ⟨q12, e13, h⟩ := z_bnd h
    refine iv_X7_147 hc hI (c_X7_size e13) (z_room (by decide) (by decide)) hl.1 (Nat.le_of_ble_eq_true rfl) ⟨Nat.zero_le _, Nat.zero_le _⟩ dX7_treadOf_43 (fun H locs hI => ?_)
    refine lv_goto (tgt := 51) hx hb dX7_treadOf_46 (by decide) ?_
    exact w_X7_treadOf_b51 hc a1 x3 q12 _ _ _ h hI (lv_sub hl [2, 3, 1] rfl)
set_option maxRecDepth 100000 in
set_option maxHeartbeats 4000000 in
theorem c_X7_at {G : z_G} {l : Launch} {a1 : Int32} {a2 : Int32} {M : z_M} {out : Int32} (h : F_X7_at a1 a2 M = some out) : z_Met G l yX7_at cX7_at 4 (some .int) 3 [.ref (z_ad G 21 0), .int a1, .int a2] M (some (.int out)) M := by
  unfold F_X7_at at h
  refine z_met_of (by decide) rfl (Nat.le_of_ble_eq_true rfl) (fun p e s m below meth c ls hc hI hl => ?_)
  obtain ⟨⟨hx, hb, hml, hown, hts⟩, hr, hlk⟩ := id hc
  have hl : lv_has ls 4 [(0, .ref (z_ad G 21 0)), (1, .int a1), (2, .int a2)] := hl
  refine lv_iload_n hx hb dX7_at_0 rfl (lv_at hl 2 rfl) ?_
  refine lv_aload_n hx hb dX7_at_1 rfl (lv_at hl 0 rfl) ?_
  refine gf_X7_19 hc hI dX7_at_2 ?_
  refine lv_bipush (v := 44) hx hb dX7_at_5 (by decide) ?_
  refine lv_iload_n hx hb dX7_at_7 rfl (lv_at hl 1 rfl) ?_
  refine lv_iadd hx hb dX7_at_8 ?_
  obtain ⟨g1, h⟩ := z_grd_some h
  refine ld_k25 hc hI g1 dX7_at_9 ?_
  refine lv_isub hx hb dX7_at_10 ?_
  refine z_nI h (fun x2 h => ?_)
  refine lv_istore_n (lv' := [(3, .int x2), (0, .ref (z_ad G 21 0)), (1, .int a1), (2, .int a2)]) hx hb dX7_at_11 rfl hl (by decide) rfl (fun ls hl => ?_)
  refine lv_iload_n hx hb dX7_at_12 rfl (lv_at hl 0 rfl) ?_
  refine lv_i2l (v := x2.toInt64) hx hb dX7_at_13 rfl ?_
  refine lv_lconst (v := 0) hx hb dX7_at_14 (by decide) ?_
  refine lv_aload_n hx hb dX7_at_15 rfl (lv_at hl 1 rfl) ?_
  refine lv_iload_n hx hb dX7_at_16 rfl (lv_at hl 2 rfl) ?_
  obtain ⟨q3, e4, h⟩ := z_bnd h
  refine iv_X7_150 hc hI (c_X7_longOf e4) (z_room (by decide) (by decide)) hl.1 (Nat.le_of_ble_eq_true rfl) ⟨Nat.zero_le _, Nat.zero_le _⟩ dX7_at_17 (fun H locs hI => ?_)
  refine lv_iconst (v := 1) hx hb dX7_at_20 (by decide) ?_
  refine lv_isub hx hb dX7_at_21 ?_
  refine lv_i2l (v := (q3 - 1).toInt64) hx hb dX7_at_22 rfl ?_
  obtain ⟨q5, e6, h⟩ := z_bnd h
  refine iv_X7_54 hc hI (c_X7_in e6) (z_room (by decide) (by decide)) hl.1 (Nat.le_of_ble_eq_true rfl) ⟨Nat.zero_le _, Nat.zero_le _⟩ dX7_at_23 (fun H locs hI => ?_)
  refine lv_if_eq (tgt := 38) hx hb dX7_at_26 (by decide) (fun c7 => ?_) (fun c7 => ?_)
  · replace h := z_ift h c7
    refine lv_iconst (v := (-1)) hx hb dX7_at_38 (by decide) ?_
    obtain rfl := Option.some.inj h
    exact z_ri hc hI dX7_at_39
  · replace h := z_iff h c7
    refine lv_aload_n hx hb dX7_at_29 rfl (lv_at hl 1 rfl) ?_
    refine lv_iload_n hx hb dX7_at_30 rfl (lv_at hl 2 rfl) ?_
    refine lv_iload_n hx hb dX7_at_31 rfl (lv_at hl 0 rfl) ?_
    obtain ⟨q8, e9, h⟩ := z_bnd h
    refine iv_X7_153 hc hI (c_X7_treadOf e9) (z_room (by decide) (by decide)) hl.1 (Nat.le_of_ble_eq_true rfl) ⟨Nat.zero_le _, Nat.zero_le _⟩ dX7_at_32 (fun H locs hI => ?_)
    refine lv_goto (tgt := 39) hx hb dX7_at_35 (by decide) ?_
    obtain rfl := Option.some.inj h
    exact z_ri hc hI dX7_at_39
end
