section
variable {p : Program} {l : Launch} {e : Env} {s : State} {m : MethodId} {args : Array Value} {below : List Frame} {meth : Method} {c : Code} {G : z_G}
set_option maxRecDepth 100000 in
set_option maxHeartbeats 4000000 in
theorem w_X6_row_b41 (hc : z_C p s m args meth c RX6 cX6_row 4 (some .int)) {out : (Int32 × z_M)} (v1 : Int32) (v2 : Int32) (v3 : Int32) (s0 : Int32) (M : z_M) (H : Heap) (locs : List Loc) (ls : Array Slot) (h : F_X6_row_b41 v1 v2 v3 s0 M = some out) (hI : z_I G s M H locs) (hl : lv_has ls 4 [(0, .ref (z_ad G 0 0)), (1, .int v1), (2, .int v2), (3, .int v3)]) : W p l e (z_rm 3) s m args below meth c H locs 0 0 (MQ below (z_Q G (some (.int out.1)) out.2) args s 0 0 (z_A G)) (F0 m 41 ls [.int s0, .ref (z_ad G 0 0)]) := by
  obtain ⟨⟨hx, hb, hml, hown, hts⟩, hr, hlk⟩ := id hc
  unfold F_X6_row_b41 at h
  refine pf_X6_55 hc hI dX6_row_41 (fun H locs hI => ?_)
  refine lv_aload_n hx hb dX6_row_44 rfl (lv_at hl 0 rfl) ?_
  obtain ⟨M9, h, hI⟩ := z_nM h hI
  refine gf_X6_55 hc hI dX6_row_45 ?_
  refine lv_if_eq (tgt := 61) hx hb dX6_row_48 (by decide) (fun c10 => ?_) (fun c10 => ?_)
  · replace h := z_ift h c10
    refine lv_aload_n hx hb dX6_row_61 rfl (lv_at hl 0 rfl) ?_
    refine gf_X6_10 hc hI dX6_row_62 ?_
    refine lv_iload_n hx hb dX6_row_65 rfl (lv_at hl 1 rfl) ?_
    refine lv_iload_n hx hb dX6_row_66 rfl (lv_at hl 2 rfl) ?_
    refine lv_iload_n hx hb dX6_row_67 rfl (lv_at hl 3 rfl) ?_
    obtain ⟨q11, e12, h⟩ := z_bnd h
    refine iv_X6_68 hc hI (c_X4_lay e12) (z_room (by decide) (by decide)) hl.1 (Nat.le_of_ble_eq_true rfl) ⟨Nat.zero_le _, Nat.zero_le _⟩ dX6_row_68 (fun H locs hI => ?_)
    obtain rfl := Option.some.inj h
    exact z_ri hc hI dX6_row_71
  · replace h := z_iff h c10
    refine lv_ldc (v := (-1000010)) hx hb hown (hts _ wd_1_205) dX6_row_51 ?_
    refine lv_aload_n hx hb dX6_row_53 rfl (lv_at hl 0 rfl) ?_
    refine gf_X6_55 hc hI dX6_row_54 ?_
    refine lv_isub hx hb dX6_row_57 ?_
    refine lv_goto (tgt := 71) hx hb dX6_row_58 (by decide) ?_
    obtain rfl := Option.some.inj h
    exact z_ri hc hI dX6_row_71
set_option maxRecDepth 100000 in
set_option maxHeartbeats 4000000 in
theorem c_X6_row {G : z_G} {l : Launch} {a1 : Int32} {a2 : Int32} {a3 : Int32} {M : z_M} {out : (Int32 × z_M)} (h : F_X6_row a1 a2 a3 M = some out) : z_Met G l yX6_row cX6_row 4 (some .int) 3 [.ref (z_ad G 0 0), .int a1, .int a2, .int a3] M (some (.int out.1)) out.2 := by
  unfold F_X6_row at h
  refine z_met_of (by decide) rfl (Nat.le_of_ble_eq_true rfl) (fun p e s m below meth c ls hc hI hl => ?_)
  obtain ⟨⟨hx, hb, hml, hown, hts⟩, hr, hlk⟩ := id hc
  have hl : lv_has ls 4 [(0, .ref (z_ad G 0 0)), (1, .int a1), (2, .int a2), (3, .int a3)] := hl
  refine lv_aload_n hx hb dX6_row_0 rfl (lv_at hl 0 rfl) ?_
  refine gf_X6_10 hc hI dX6_row_1 ?_
  refine lv_iload_n hx hb dX6_row_4 rfl (lv_at hl 1 rfl) ?_
  obtain ⟨q1, e2, h⟩ := z_bnd h
  refine iv_X6_59 hc hI (c_X4_isRow e2) (z_room (by decide) (by decide)) hl.1 (Nat.le_of_ble_eq_true rfl) ⟨Nat.zero_le _, Nat.zero_le _⟩ dX6_row_5 (fun H locs hI => ?_)
  refine lv_if_eq (tgt := 28) hx hb dX6_row_8 (by decide) (fun c3 => ?_) (fun c3 => ?_)
  · replace h := z_ift h c3
    refine lv_ldc (v := (-1000001)) hx hb hown (hts _ wd_1_204) dX6_row_28 ?_
    obtain rfl := Option.some.inj h
    exact z_ri hc hI dX6_row_30
  · replace h := z_iff h c3
    refine lv_aload_n hx hb dX6_row_11 rfl (lv_at hl 0 rfl) ?_
    refine gf_X6_10 hc hI dX6_row_12 ?_
    refine lv_iload_n hx hb dX6_row_15 rfl (lv_at hl 2 rfl) ?_
    obtain ⟨q4, e5, h⟩ := z_bnd h
    refine iv_X6_63 hc hI (c_X4_isLane e5) (z_room (by decide) (by decide)) hl.1 (Nat.le_of_ble_eq_true rfl) ⟨Nat.zero_le _, Nat.zero_le _⟩ dX6_row_16 (fun H locs hI => ?_)
    refine lv_if_eq (tgt := 28) hx hb dX6_row_19 (by decide) (fun c6 => ?_) (fun c6 => ?_)
    · replace h := z_ift h c6
      refine lv_ldc (v := (-1000001)) hx hb hown (hts _ wd_1_204) dX6_row_28 ?_
      obtain rfl := Option.some.inj h
      exact z_ri hc hI dX6_row_30
    · replace h := z_iff h c6
      refine lv_iload_n hx hb dX6_row_22 rfl (lv_at hl 3 rfl) ?_
      refine lv_bipush (v := 40) hx hb dX6_row_23 (by decide) ?_
      refine lv_icmp_le (tgt := 31) hx hb dX6_row_25 (by decide) (fun c7 => ?_) (fun c7 => ?_)
      · replace h := z_ift h c7
        refine lv_aload_n hx hb dX6_row_31 rfl (lv_at hl 0 rfl) ?_
        refine lv_iload_n hx hb dX6_row_32 rfl (lv_at hl 3 rfl) ?_
        refine lv_if_ge (tgt := 40) hx hb dX6_row_33 (by decide) (fun c8 => ?_) (fun c8 => ?_)
        · replace h := z_ift h c8
          refine lv_iconst (v := 0) hx hb dX6_row_40 (by decide) ?_
          exact w_X6_row_b41 hc a1 a2 a3 0 _ _ _ _ h hI hl
        · replace h := z_iff h c8
          refine lv_iconst (v := 4) hx hb dX6_row_36 (by decide) ?_
          refine lv_goto (tgt := 41) hx hb dX6_row_37 (by decide) ?_
          exact w_X6_row_b41 hc a1 a2 a3 4 _ _ _ _ h hI hl
      · replace h := z_iff h c7
        refine lv_ldc (v := (-1000001)) hx hb hown (hts _ wd_1_204) dX6_row_28 ?_
        obtain rfl := Option.some.inj h
        exact z_ri hc hI dX6_row_30
set_option maxRecDepth 100000 in
set_option maxHeartbeats 4000000 in
theorem c_X6_set {G : z_G} {l : Launch} {a1 : Int32} {a2 : Int32} {a3 : Int32} {M : z_M} {out : (Int32 × z_M)} (h : F_X6_set a1 a2 a3 M = some out) : z_Met G l yX6_set cX6_set 4 (some .int) 5 [.ref (z_ad G 0 0), .int a1, .int a2, .int a3] M (some (.int out.1)) out.2 := by
  unfold F_X6_set at h
  refine z_met_of (by decide) rfl (Nat.le_of_ble_eq_true rfl) (fun p e s m below meth c ls hc hI hl => ?_)
  obtain ⟨⟨hx, hb, hml, hown, hts⟩, hr, hlk⟩ := id hc
  have hl : lv_has ls 4 [(0, .ref (z_ad G 0 0)), (1, .int a1), (2, .int a2), (3, .int a3)] := hl
  refine lv_aload_n hx hb dX6_set_0 rfl (lv_at hl 0 rfl) ?_
  refine gf_X6_10 hc hI dX6_set_1 ?_
  refine lv_iload_n hx hb dX6_set_4 rfl (lv_at hl 1 rfl) ?_
  obtain ⟨q1, e2, h⟩ := z_bnd h
  refine iv_X6_59 hc hI (c_X4_isRow e2) (z_room (by decide) (by decide)) hl.1 (Nat.le_of_ble_eq_true rfl) ⟨Nat.zero_le _, Nat.zero_le _⟩ dX6_set_5 (fun H locs hI => ?_)
  refine lv_if_ne (tgt := 14) hx hb dX6_set_8 (by decide) (fun c3 => ?_) (fun c3 => ?_)
  · replace h := z_iff h c3
    refine lv_aload_n hx hb dX6_set_14 rfl (lv_at hl 0 rfl) ?_
    refine lv_aload_n hx hb dX6_set_15 rfl (lv_at hl 0 rfl) ?_
    refine gf_X6_10 hc hI dX6_set_16 ?_
    refine lv_iload_n hx hb dX6_set_19 rfl (lv_at hl 1 rfl) ?_
    refine lv_iload_n hx hb dX6_set_20 rfl (lv_at hl 2 rfl) ?_
    refine lv_iconst (v := 1) hx hb dX6_set_21 (by decide) ?_
    obtain ⟨q4, e5, h⟩ := z_bnd h
    refine iv_X6_72 hc hI (c_X4_findingOf e5) (z_room (by decide) (by decide)) hl.1 (Nat.le_of_ble_eq_true rfl) ⟨Nat.zero_le _, Nat.zero_le _⟩ dX6_set_22 (fun H locs hI => ?_)
    refine pf_X6_55 hc hI dX6_set_25 (fun H locs hI => ?_)
    refine lv_aload_n hx hb dX6_set_28 rfl (lv_at hl 0 rfl) ?_
    obtain ⟨M6, h, hI⟩ := z_nM h hI
    refine gf_X6_55 hc hI dX6_set_29 ?_
    refine lv_if_eq (tgt := 45) hx hb dX6_set_32 (by decide) (fun c7 => ?_) (fun c7 => ?_)
    · replace h := z_ift h c7
      refine lv_aload_n hx hb dX6_set_45 rfl (lv_at hl 0 rfl) ?_
      refine gf_X6_10 hc hI dX6_set_46 ?_
      refine lv_iload_n hx hb dX6_set_49 rfl (lv_at hl 1 rfl) ?_
      refine lv_iload_n hx hb dX6_set_50 rfl (lv_at hl 2 rfl) ?_
      refine lv_iload_n hx hb dX6_set_51 rfl (lv_at hl 3 rfl) ?_
      obtain ⟨q8, e9, h⟩ := z_bnd h
      refine iv_X6_75 hc hI (c_X4_put e9) (z_room (by decide) (by decide)) hl.1 (Nat.le_of_ble_eq_true rfl) ⟨Nat.zero_le _, Nat.zero_le _⟩ dX6_set_52 (fun H locs hI => ?_)
      obtain rfl := Option.some.inj h
      exact z_ri hc hI dX6_set_55
    · replace h := z_iff h c7
      refine lv_ldc (v := (-1000010)) hx hb hown (hts _ wd_1_205) dX6_set_35 ?_
      refine lv_aload_n hx hb dX6_set_37 rfl (lv_at hl 0 rfl) ?_
      refine gf_X6_55 hc hI dX6_set_38 ?_
      refine lv_isub hx hb dX6_set_41 ?_
      refine lv_goto (tgt := 55) hx hb dX6_set_42 (by decide) ?_
      obtain rfl := Option.some.inj h
      exact z_ri hc hI dX6_set_55
  · replace h := z_ift h c3
    refine lv_ldc (v := (-1000001)) hx hb hown (hts _ wd_1_204) dX6_set_11 ?_
    obtain rfl := Option.some.inj h
    exact z_ri hc hI dX6_set_13
set_option maxRecDepth 100000 in
set_option maxHeartbeats 4000000 in
theorem c_X6_copy {G : z_G} {l : Launch} {a1 : Int32} {a2 : Int32} {a3 : Int32} {a4 : Int32} {a5 : Int32} {M : z_M} {out : (Int32 × z_M)} (h : F_X6_copy a1 a2 a3 a4 a5 M = some out) : z_Met G l yX6_copy cX6_copy 6 (some .int) 6 [.ref (z_ad G 0 0), .int a1, .int a2, .int a3, .int a4, .int a5] M (some (.int out.1)) out.2 := by
  unfold F_X6_copy at h
  refine z_met_of (by decide) rfl (Nat.le_of_ble_eq_true rfl) (fun p e s m below meth c ls hc hI hl => ?_)
  obtain ⟨⟨hx, hb, hml, hown, hts⟩, hr, hlk⟩ := id hc
  have hl : lv_has ls 6 [(0, .ref (z_ad G 0 0)), (1, .int a1), (2, .int a2), (3, .int a3), (4, .int a4), (5, .int a5)] := hl
  refine lv_aload_n hx hb dX6_copy_0 rfl (lv_at hl 0 rfl) ?_
  refine gf_X6_10 hc hI dX6_copy_1 ?_
  refine lv_iload_n hx hb dX6_copy_4 rfl (lv_at hl 1 rfl) ?_
  obtain ⟨q1, e2, h⟩ := z_bnd h
  refine iv_X6_59 hc hI (c_X4_isRow e2) (z_room (by decide) (by decide)) hl.1 (Nat.le_of_ble_eq_true rfl) ⟨Nat.zero_le _, Nat.zero_le _⟩ dX6_copy_5 (fun H locs hI => ?_)
  refine lv_if_eq (tgt := 22) hx hb dX6_copy_8 (by decide) (fun c3 => ?_) (fun c3 => ?_)
  · replace h := z_ift h c3
    refine lv_ldc (v := (-1000001)) hx hb hown (hts _ wd_1_204) dX6_copy_22 ?_
    obtain rfl := Option.some.inj h
    exact z_ri hc hI dX6_copy_24
  · replace h := z_iff h c3
    refine lv_aload_n hx hb dX6_copy_11 rfl (lv_at hl 0 rfl) ?_
    refine gf_X6_10 hc hI dX6_copy_12 ?_
    refine lv_iload_n hx hb dX6_copy_15 rfl (lv_at hl 3 rfl) ?_
    obtain ⟨q4, e5, h⟩ := z_bnd h
    refine iv_X6_59 hc hI (c_X4_isRow e5) (z_room (by decide) (by decide)) hl.1 (Nat.le_of_ble_eq_true rfl) ⟨Nat.zero_le _, Nat.zero_le _⟩ dX6_copy_16 (fun H locs hI => ?_)
    refine lv_if_ne (tgt := 25) hx hb dX6_copy_19 (by decide) (fun c6 => ?_) (fun c6 => ?_)
    · replace h := z_iff h c6
      refine lv_aload_n hx hb dX6_copy_25 rfl (lv_at hl 0 rfl) ?_
      refine lv_aload_n hx hb dX6_copy_26 rfl (lv_at hl 0 rfl) ?_
      refine gf_X6_10 hc hI dX6_copy_27 ?_
      refine lv_iload_n hx hb dX6_copy_30 rfl (lv_at hl 1 rfl) ?_
      refine lv_iload_n hx hb dX6_copy_31 rfl (lv_at hl 2 rfl) ?_
      refine lv_iload_n hx hb dX6_copy_32 rfl (lv_at hl 3 rfl) ?_
      refine lv_iload hx hb dX6_copy_33 (lv_at hl 4 rfl) ?_
      refine lv_iload hx hb dX6_copy_35 (lv_at hl 5 rfl) ?_
      obtain ⟨q7, e8, h⟩ := z_bnd h
      refine iv_X6_78 hc hI (c_X4_findingOfCopy e8) (z_room (by decide) (by decide)) hl.1 (Nat.le_of_ble_eq_true rfl) ⟨Nat.zero_le _, Nat.zero_le _⟩ dX6_copy_37 (fun H locs hI => ?_)
      refine pf_X6_55 hc hI dX6_copy_40 (fun H locs hI => ?_)
      refine lv_aload_n hx hb dX6_copy_43 rfl (lv_at hl 0 rfl) ?_
      obtain ⟨M9, h, hI⟩ := z_nM h hI
      refine gf_X6_55 hc hI dX6_copy_44 ?_
      refine lv_if_eq (tgt := 60) hx hb dX6_copy_47 (by decide) (fun c10 => ?_) (fun c10 => ?_)
      · replace h := z_ift h c10
        refine lv_aload_n hx hb dX6_copy_60 rfl (lv_at hl 0 rfl) ?_
        refine gf_X6_10 hc hI dX6_copy_61 ?_
        refine lv_iload_n hx hb dX6_copy_64 rfl (lv_at hl 1 rfl) ?_
        refine lv_iload_n hx hb dX6_copy_65 rfl (lv_at hl 2 rfl) ?_
        refine lv_iload_n hx hb dX6_copy_66 rfl (lv_at hl 3 rfl) ?_
        refine lv_iload hx hb dX6_copy_67 (lv_at hl 4 rfl) ?_
        refine lv_iload hx hb dX6_copy_69 (lv_at hl 5 rfl) ?_
        obtain ⟨q11, e12, h⟩ := z_bnd h
        refine iv_X6_82 hc hI (c_X4_move e12) (z_room (by decide) (by decide)) hl.1 (Nat.le_of_ble_eq_true rfl) ⟨Nat.zero_le _, Nat.zero_le _⟩ dX6_copy_71 (fun H locs hI => ?_)
        obtain rfl := Option.some.inj h
        exact z_ri hc hI dX6_copy_74
      · replace h := z_iff h c10
        refine lv_ldc (v := (-1000010)) hx hb hown (hts _ wd_1_205) dX6_copy_50 ?_
        refine lv_aload_n hx hb dX6_copy_52 rfl (lv_at hl 0 rfl) ?_
        refine gf_X6_55 hc hI dX6_copy_53 ?_
        refine lv_isub hx hb dX6_copy_56 ?_
        refine lv_goto (tgt := 74) hx hb dX6_copy_57 (by decide) ?_
        obtain rfl := Option.some.inj h
        exact z_ri hc hI dX6_copy_74
    · replace h := z_ift h c6
      refine lv_ldc (v := (-1000001)) hx hb hown (hts _ wd_1_204) dX6_copy_22 ?_
      obtain rfl := Option.some.inj h
      exact z_ri hc hI dX6_copy_24
set_option maxRecDepth 100000 in
set_option maxHeartbeats 4000000 in
theorem w_X6_drop_b31 (hc : z_C p s m args meth c RX6 cX6_drop 2 (some .int)) {out : (Int32 × z_M)} (v1 : Int32) (s0 : Int32) (M : z_M) (H : Heap) (locs : List Loc) (ls : Array Slot) (h : F_X6_drop_b31 v1 s0 M = some out) (hI : z_I G s M H locs) (hl : lv_has ls 2 [(0, .ref (z_ad G 0 0)), (1, .int v1)]) : W p l e (z_rm 4) s m args below meth c H locs 0 0 (MQ below (z_Q G (some (.int out.1)) out.2) args s 0 0 (z_A G)) (F0 m 31 ls [.int s0, .ref (z_ad G 0 0)]) := by
  obtain ⟨⟨hx, hb, hml, hown, hts⟩, hr, hlk⟩ := id hc
  unfold F_X6_drop_b31 at h
  refine pf_X6_55 hc hI dX6_drop_31 (fun H locs hI => ?_)
  refine lv_aload_n hx hb dX6_drop_34 rfl (lv_at hl 0 rfl) ?_
  obtain ⟨M7, h, hI⟩ := z_nM h hI
  refine gf_X6_55 hc hI dX6_drop_35 ?_
  refine lv_if_eq (tgt := 51) hx hb dX6_drop_38 (by decide) (fun c8 => ?_) (fun c8 => ?_)
  · replace h := z_ift h c8
    refine lv_aload_n hx hb dX6_drop_51 rfl (lv_at hl 0 rfl) ?_
    refine gf_X6_10 hc hI dX6_drop_52 ?_
    refine lv_iload_n hx hb dX6_drop_55 rfl (lv_at hl 1 rfl) ?_
    obtain ⟨q9, e10, h⟩ := z_bnd h
    refine iv_X6_88 hc hI (c_X4_takeAway e10) (z_room (by decide) (by decide)) hl.1 (Nat.le_of_ble_eq_true rfl) ⟨Nat.zero_le _, Nat.zero_le _⟩ dX6_drop_56 (fun H locs hI => ?_)
    obtain rfl := Option.some.inj h
    exact z_ri hc hI dX6_drop_59
  · replace h := z_iff h c8
    refine lv_ldc (v := (-1000010)) hx hb hown (hts _ wd_1_205) dX6_drop_41 ?_
    refine lv_aload_n hx hb dX6_drop_43 rfl (lv_at hl 0 rfl) ?_
    refine gf_X6_55 hc hI dX6_drop_44 ?_
    refine lv_isub hx hb dX6_drop_47 ?_
    refine lv_goto (tgt := 59) hx hb dX6_drop_48 (by decide) ?_
    obtain rfl := Option.some.inj h
    exact z_ri hc hI dX6_drop_59
set_option maxRecDepth 100000 in
set_option maxHeartbeats 4000000 in
theorem c_X6_drop {G : z_G} {l : Launch} {a1 : Int32} {M : z_M} {out : (Int32 × z_M)} (h : F_X6_drop a1 M = some out) : z_Met G l yX6_drop cX6_drop 2 (some .int) 4 [.ref (z_ad G 0 0), .int a1] M (some (.int out.1)) out.2 := by
  unfold F_X6_drop at h
  refine z_met_of (by decide) rfl (Nat.le_of_ble_eq_true rfl) (fun p e s m below meth c ls hc hI hl => ?_)
  obtain ⟨⟨hx, hb, hml, hown, hts⟩, hr, hlk⟩ := id hc
  have hl : lv_has ls 2 [(0, .ref (z_ad G 0 0)), (1, .int a1)] := hl
  refine lv_aload_n hx hb dX6_drop_0 rfl (lv_at hl 0 rfl) ?_
  refine gf_X6_10 hc hI dX6_drop_1 ?_
  refine lv_iload_n hx hb dX6_drop_4 rfl (lv_at hl 1 rfl) ?_
  obtain ⟨q1, e2, h⟩ := z_bnd h
  refine iv_X6_59 hc hI (c_X4_isRow e2) (z_room (by decide) (by decide)) hl.1 (Nat.le_of_ble_eq_true rfl) ⟨Nat.zero_le _, Nat.zero_le _⟩ dX6_drop_5 (fun H locs hI => ?_)
  refine lv_if_ne (tgt := 14) hx hb dX6_drop_8 (by decide) (fun c3 => ?_) (fun c3 => ?_)
  · replace h := z_iff h c3
    refine lv_aload_n hx hb dX6_drop_14 rfl (lv_at hl 0 rfl) ?_
    refine lv_aload_n hx hb dX6_drop_15 rfl (lv_at hl 0 rfl) ?_
    refine gf_X6_10 hc hI dX6_drop_16 ?_
    refine lv_iload_n hx hb dX6_drop_19 rfl (lv_at hl 1 rfl) ?_
    obtain ⟨q4, e5, h⟩ := z_bnd h
    refine iv_X6_85 hc hI (c_X4_isMissing e5) (z_room (by decide) (by decide)) hl.1 (Nat.le_of_ble_eq_true rfl) ⟨Nat.zero_le _, Nat.zero_le _⟩ dX6_drop_20 (fun H locs hI => ?_)
    refine lv_if_eq (tgt := 30) hx hb dX6_drop_23 (by decide) (fun c6 => ?_) (fun c6 => ?_)
    · replace h := z_ift h c6
      refine lv_iconst (v := 0) hx hb dX6_drop_30 (by decide) ?_
      exact w_X6_drop_b31 hc a1 0 _ _ _ _ h hI hl
    · replace h := z_iff h c6
      refine lv_iconst (v := 1) hx hb dX6_drop_26 (by decide) ?_
      refine lv_goto (tgt := 31) hx hb dX6_drop_27 (by decide) ?_
      exact w_X6_drop_b31 hc a1 1 _ _ _ _ h hI hl
  · replace h := z_ift h c3
    refine lv_ldc (v := (-1000001)) hx hb hown (hts _ wd_1_204) dX6_drop_11 ?_
    obtain rfl := Option.some.inj h
    exact z_ri hc hI dX6_drop_13
set_option maxRecDepth 100000 in
set_option maxHeartbeats 4000000 in
theorem c_X6_isWithin {G : z_G} {l : Launch} {a1 : Int32} {a2 : Int32} {a3 : Int32} {M : z_M} {out : Int32} (h : F_X6_isWithin a1 a2 a3 M = some out) : z_Met G l yX6_isWithin cX6_isWithin 3 (some .boolean) 1 [.int a1, .int a2, .int a3] M (some (.int out)) M := by
  unfold F_X6_isWithin at h
  refine z_met_of (by decide) rfl (Nat.le_of_ble_eq_true rfl) (fun p e s m below meth c ls hc hI hl => ?_)
  obtain ⟨⟨hx, hb, hml, hown, hts⟩, hr, hlk⟩ := id hc
  have hl : lv_has ls 3 [(0, .int a1), (1, .int a2), (2, .int a3)] := hl
  refine lv_iload_n hx hb dX6_isWithin_0 rfl (lv_at hl 0 rfl) ?_
  refine lv_iload_n hx hb dX6_isWithin_1 rfl (lv_at hl 1 rfl) ?_
  refine lv_icmp_lt (tgt := 14) hx hb dX6_isWithin_2 (by decide) (fun c1 => ?_) (fun c1 => ?_)
  · replace h := z_ift h c1
    refine lv_iconst (v := 0) hx hb dX6_isWithin_14 (by decide) ?_
    obtain rfl := Option.some.inj h
    exact z_rz (x := 0) hc hI (by decide) dX6_isWithin_15
  · replace h := z_iff h c1
    refine lv_iload_n hx hb dX6_isWithin_5 rfl (lv_at hl 0 rfl) ?_
    refine lv_iload_n hx hb dX6_isWithin_6 rfl (lv_at hl 2 rfl) ?_
    refine lv_icmp_gt (tgt := 14) hx hb dX6_isWithin_7 (by decide) (fun c2 => ?_) (fun c2 => ?_)
    · replace h := z_ift h c2
      refine lv_iconst (v := 0) hx hb dX6_isWithin_14 (by decide) ?_
      obtain rfl := Option.some.inj h
      exact z_rz (x := 0) hc hI (by decide) dX6_isWithin_15
    · replace h := z_iff h c2
      refine lv_iconst (v := 1) hx hb dX6_isWithin_10 (by decide) ?_
      refine lv_goto (tgt := 15) hx hb dX6_isWithin_11 (by decide) ?_
      obtain rfl := Option.some.inj h
      exact z_rz (x := 1) hc hI (by decide) dX6_isWithin_15
set_option maxRecDepth 100000 in
set_option maxHeartbeats 4000000 in
theorem c_X6_feed {G : z_G} {l : Launch} {a1 : Int32} {M : z_M} {out : (Int32 × z_M)} (h : F_X6_feed a1 M = some out) : z_Met G l yX6_feed cX6_feed 2 (some .int) 2 [.ref (z_ad G 0 0), .int a1] M (some (.int out.1)) out.2 := by
  unfold F_X6_feed at h
  refine z_met_of (by decide) rfl (Nat.le_of_ble_eq_true rfl) (fun p e s m below meth c ls hc hI hl => ?_)
  obtain ⟨⟨hx, hb, hml, hown, hts⟩, hr, hlk⟩ := id hc
  have hl : lv_has ls 2 [(0, .ref (z_ad G 0 0)), (1, .int a1)] := hl
  refine lv_iload_n hx hb dX6_feed_0 rfl (lv_at hl 1 rfl) ?_
  refine lv_iconst (v := 0) hx hb dX6_feed_1 (by decide) ?_
  refine lv_sipush (v := 255) hx hb dX6_feed_2 (by decide) ?_
  obtain ⟨q1, e2, h⟩ := z_bnd h
  refine iv_X6_92 hc hI (c_X6_isWithin e2) (z_room (by decide) (by decide)) hl.1 (Nat.le_of_ble_eq_true rfl) ⟨Nat.zero_le _, Nat.zero_le _⟩ dX6_feed_5 (fun H locs hI => ?_)
  refine lv_if_ne (tgt := 14) hx hb dX6_feed_8 (by decide) (fun c3 => ?_) (fun c3 => ?_)
  · replace h := z_iff h c3
    refine lv_aload_n hx hb dX6_feed_14 rfl (lv_at hl 0 rfl) ?_
    refine gf_X6_19 hc hI dX6_feed_15 ?_
    refine lv_iload_n hx hb dX6_feed_18 rfl (lv_at hl 1 rfl) ?_
    obtain ⟨q4, e5, h⟩ := z_bnd h
    refine iv_X6_96 hc hI (c_X2_add e5) (z_room (by decide) (by decide)) hl.1 (Nat.le_of_ble_eq_true rfl) ⟨Nat.zero_le _, Nat.zero_le _⟩ dX6_feed_19 (fun H locs hI => ?_)
    obtain rfl := Option.some.inj h
    exact z_ri hc hI dX6_feed_22
  · replace h := z_ift h c3
    refine lv_ldc (v := (-1000001)) hx hb hown (hts _ wd_1_204) dX6_feed_11 ?_
    obtain rfl := Option.some.inj h
    exact z_ri hc hI dX6_feed_13
set_option maxRecDepth 100000 in
set_option maxHeartbeats 4000000 in
theorem c_X6_town {G : z_G} {l : Launch} {M : z_M} {out : (Int32 × z_M)} (h : F_X6_town M = some out) : z_Met G l yX6_town cX6_town 2 (some .int) 6 [.ref (z_ad G 0 0)] M (some (.int out.1)) out.2 := by
  unfold F_X6_town at h
  refine z_met_of (by decide) rfl (Nat.le_of_ble_eq_true rfl) (fun p e s m below meth c ls hc hI hl => ?_)
  obtain ⟨⟨hx, hb, hml, hown, hts⟩, hr, hlk⟩ := id hc
  have hl : lv_has ls 2 [(0, .ref (z_ad G 0 0))] := hl
  refine lv_aload_n hx hb dX6_town_0 rfl (lv_at hl 0 rfl) ?_
  refine gf_X6_19 hc hI dX6_town_1 ?_
  obtain ⟨q1, e2, h⟩ := z_bnd h
  refine iv_X6_99 hc hI (c_X2_readTape e2) (z_room (by decide) (by decide)) hl.1 (Nat.le_of_ble_eq_true rfl) ⟨Nat.zero_le _, Nat.zero_le _⟩ dX6_town_4 (fun H locs hI => ?_)
  obtain ⟨q1a, q1b⟩ := q1
  cases q1a with
  | none =>
    replace h := z_opt_none h
    refine lv_astore_nN (lv' := [(1, .null), (0, .ref (z_ad G 0 0))]) hx hb dX6_town_7 rfl hl (by decide) rfl (fun ls hl => ?_)
    refine lv_aload_nN hx hb dX6_town_8 rfl (lv_at hl 0 rfl) ?_
    refine lv_ifnonnullN hx hb dX6_town_9 ?_
    refine lv_ldc (v := (-1000100)) hx hb hown (hts _ wd_2_98) dX6_town_12 ?_
    refine lv_aload_n hx hb dX6_town_14 rfl (lv_at hl 1 rfl) ?_
    refine gf_X6_19 hc hI dX6_town_15 ?_
    obtain ⟨q4, e5, h⟩ := z_bnd h
    refine iv_X6_104 hc hI (c_X2_faultPlace e5) (z_room (by decide) (by decide)) hl.1 (Nat.le_of_ble_eq_true rfl) ⟨Nat.zero_le _, Nat.zero_le _⟩ dX6_town_18 (fun H locs hI => ?_)
    refine lv_isub hx hb dX6_town_21 ?_
    obtain rfl := Option.some.inj h
    exact z_ri hc hI dX6_town_22
  | some j3 =>
    obtain ⟨g6, h⟩ := z_grd_some (z_opt_some h)
    refine lv_astore_n (lv' := [(1, .ref (z_ad G 7 j3)), (0, .ref (z_ad G 0 0))]) hx hb dX6_town_7 rfl hl (by decide) rfl (fun ls hl => ?_)
    refine lv_aload_n hx hb dX6_town_8 rfl (lv_at hl 0 rfl) ?_
    refine lv_ifnonnull (tgt := 23) hx hb dX6_town_9 (by decide) ?_
    refine lv_aload_n hx hb dX6_town_23 rfl (lv_at hl 1 rfl) ?_
    refine gf_X6_26 hc hI dX6_town_24 ?_
    refine lv_aload_n hx hb dX6_town_27 rfl (lv_at hl 0 rfl) ?_
    obtain ⟨q7, e8, h⟩ := z_bnd h
    refine iv_X6_108 (by decide) hc hI (c_X5_take (by decide) (o1 := some j3) (fun _ h => by cases h; exact g6) e8) (z_room (by decide) (by decide)) hl.1 (Nat.le_of_ble_eq_true rfl) ⟨Nat.zero_le _, Nat.zero_le _⟩ dX6_town_28 (fun H locs hI => ?_)
    refine lv_aload_n hx hb dX6_town_31 rfl (lv_at hl 1 rfl) ?_
    refine gf_X6_33 hc hI dX6_town_32 ?_
    obtain ⟨q9, e10, h⟩ := z_bnd h
    refine iv_X6_112 hc hI (c_X1_forget e10) (z_room (by decide) (by decide)) hl.1 (Nat.le_of_ble_eq_true rfl) ⟨Nat.zero_le _, Nat.zero_le _⟩ dX6_town_35 (fun H locs hI => ?_)
    refine lv_aload_n hx hb dX6_town_38 rfl (lv_at hl 1 rfl) ?_
    refine gf_X6_26 hc hI dX6_town_39 ?_
    obtain ⟨q11, e12, h⟩ := z_bnd h
    refine iv_X6_115 (by decide) hc hI (c_X5_treadCount (by decide) e12) (z_room (by decide) (by decide)) hl.1 (Nat.le_of_ble_eq_true rfl) ⟨Nat.zero_le _, Nat.zero_le _⟩ dX6_town_42 (fun H locs hI => ?_)
    obtain rfl := Option.some.inj h
    exact z_ri hc hI dX6_town_45
set_option maxRecDepth 100000 in
set_option maxHeartbeats 4000000 in
theorem c_X6_fault {G : z_G} {l : Launch} {M : z_M} {out : Int32} (h : F_X6_fault M = some out) : z_Met G l yX6_fault cX6_fault 1 (some .int) 2 [.ref (z_ad G 0 0)] M (some (.int out)) M := by
  unfold F_X6_fault at h
  refine z_met_of (by decide) rfl (Nat.le_of_ble_eq_true rfl) (fun p e s m below meth c ls hc hI hl => ?_)
  obtain ⟨⟨hx, hb, hml, hown, hts⟩, hr, hlk⟩ := id hc
  have hl : lv_has ls 1 [(0, .ref (z_ad G 0 0))] := hl
  refine lv_aload_n hx hb dX6_fault_0 rfl (lv_at hl 0 rfl) ?_
  refine gf_X6_19 hc hI dX6_fault_1 ?_
  obtain ⟨q1, e2, h⟩ := z_bnd h
  refine iv_X6_118 hc hI (c_X2_faultNumber e2) (z_room (by decide) (by decide)) hl.1 (Nat.le_of_ble_eq_true rfl) ⟨Nat.zero_le _, Nat.zero_le _⟩ dX6_fault_4 (fun H locs hI => ?_)
  obtain rfl := Option.some.inj h
  exact z_ri hc hI dX6_fault_7
set_option maxRecDepth 100000 in
set_option maxHeartbeats 4000000 in
theorem c_X6_undo {G : z_G} {l : Launch} {M : z_M} {out : (Int32 × z_M)} (h : F_X6_undo M = some out) : z_Met G l yX6_undo cX6_undo 1 (some .int) 3 [.ref (z_ad G 0 0)] M (some (.int out.1)) out.2 := by
  unfold F_X6_undo at h
  refine z_met_of (by decide) rfl (Nat.le_of_ble_eq_true rfl) (fun p e s m below meth c ls hc hI hl => ?_)
  obtain ⟨⟨hx, hb, hml, hown, hts⟩, hr, hlk⟩ := id hc
  have hl : lv_has ls 1 [(0, .ref (z_ad G 0 0))] := hl
  refine lv_aload_n hx hb dX6_undo_0 rfl (lv_at hl 0 rfl) ?_
  refine gf_X6_33 hc hI dX6_undo_1 ?_
  refine lv_aload_n hx hb dX6_undo_4 rfl (lv_at hl 0 rfl) ?_
  refine gf_X6_26 hc hI dX6_undo_5 ?_
  obtain ⟨q1, e2, h⟩ := z_bnd h
  refine iv_X6_121 hc hI (c_X1_takeBack e2) (z_room (by decide) (by decide)) hl.1 (Nat.le_of_ble_eq_true rfl) ⟨Nat.zero_le _, Nat.zero_le _⟩ dX6_undo_8 (fun H locs hI => ?_)
  obtain rfl := Option.some.inj h
  exact z_ri hc hI dX6_undo_11
set_option maxRecDepth 100000 in
set_option maxHeartbeats 4000000 in
theorem w_X6_days_b46 (hc : z_C p s m args meth c RX6 cX6_days 3 (some .int)) {out : (Int32 × z_M)} : ∀ (n : Nat) (v1 : Int32) (v2 : Int32) (M : z_M) (H : Heap) (locs : List Loc) (ls : Array Slot) (h : F_X6_days_b46 n v1 v2 M = some out) (hI : z_I G s M H locs) (hl : lv_has ls 3 [(0, .ref (z_ad G 0 0)), (1, .int v1), (2, .int v2)]), W p l e (z_rm 5) s m args below meth c H locs 0 0 (MQ below (z_Q G (some (.int out.1)) out.2) args s 0 0 (z_A G)) (F0 m 46 ls []) := by
  obtain ⟨⟨hx, hb, hml, hown, hts⟩, hr, hlk⟩ := id hc
  intro n
  induction n with
  | zero => intro v1 v2 M H locs ls h; cases h
  | succ n ih =>
    intro v1 v2 M H locs ls h hI hl
    rw [F_X6_days_b46] at h
    refine lv_iload_n hx hb dX6_days_46 rfl (lv_at hl 2 rfl) ?_
    refine lv_iload_n hx hb dX6_days_47 rfl (lv_at hl 1 rfl) ?_
    refine lv_icmp_ge (tgt := 75) hx hb dX6_days_48 (by decide) (fun c10 => ?_) (fun c10 => ?_)
    · replace h := z_ift h c10
      refine lv_aload_n hx hb dX6_days_75 rfl (lv_at hl 0 rfl) ?_
      refine gf_X6_26 hc hI dX6_days_76 ?_
      obtain ⟨q11, e12, h⟩ := z_bnd h
      refine iv_X6_140 (by decide) hc hI (c_X5_wornTogether (by decide) e12) (z_room (by decide) (by decide)) hl.1 (Nat.le_of_ble_eq_true rfl) ⟨Nat.zero_le _, Nat.zero_le _⟩ dX6_days_79 (fun H locs hI => ?_)
      obtain rfl := Option.some.inj h
      exact z_ri hc hI dX6_days_82
    · replace h := z_iff h c10
      refine lv_aload_n hx hb dX6_days_51 rfl (lv_at hl 0 rfl) ?_
      refine gf_X6_33 hc hI dX6_days_52 ?_
      refine lv_aload_n hx hb dX6_days_55 rfl (lv_at hl 0 rfl) ?_
      refine gf_X6_26 hc hI dX6_days_56 ?_
      obtain ⟨q13, e14, h⟩ := z_bnd h
      refine iv_X6_134 hc hI (c_X1_keep e14) (z_room (by decide) (by decide)) hl.1 (Nat.le_of_ble_eq_true rfl) ⟨Nat.zero_le _, Nat.zero_le _⟩ dX6_days_59 (fun H locs hI => ?_)
      refine lv_aload_n hx hb dX6_days_62 rfl (lv_at hl 0 rfl) ?_
      refine gf_X6_26 hc hI dX6_days_63 ?_
      obtain ⟨q15, e16, h⟩ := z_bnd h
      refine iv_X6_137 (by decide) hc hI (c_X5_passDay (by decide) e16) (z_room (by decide) (by decide)) hl.1 (Nat.le_of_ble_eq_true rfl) ⟨Nat.zero_le _, Nat.zero_le _⟩ dX6_days_66 (fun H locs hI => ?_)
      refine lv_iinc (v := v2 + 1) (lv' := [(2, .int (v2 + 1)), (0, .ref (z_ad G 0 0)), (1, .int v1)]) hx hb dX6_days_69 hl (k := 2) rfl rfl (by decide) rfl (fun ls hl => ?_)
      refine lv_goto (tgt := 46) hx hb dX6_days_72 (by decide) ?_
      exact ih v1 (v2 + 1) _ _ _ _ h hI (lv_sub hl [1, 2, 0] rfl)
set_option maxRecDepth 100000 in
set_option maxHeartbeats 4000000 in
theorem c_X6_days {G : z_G} {l : Launch} {a1 : Int32} {M : z_M} {out : (Int32 × z_M)} (h : F_X6_days a1 M = some out) : z_Met G l yX6_days cX6_days 3 (some .int) 5 [.ref (z_ad G 0 0), .int a1] M (some (.int out.1)) out.2 := by
  unfold F_X6_days at h
  refine z_met_of (by decide) rfl (Nat.le_of_ble_eq_true rfl) (fun p e s m below meth c ls hc hI hl => ?_)
  obtain ⟨⟨hx, hb, hml, hown, hts⟩, hr, hlk⟩ := id hc
  have hl : lv_has ls 3 [(0, .ref (z_ad G 0 0)), (1, .int a1)] := hl
  refine lv_aload_n hx hb dX6_days_0 rfl (lv_at hl 0 rfl) ?_
  refine gf_X6_26 hc hI dX6_days_1 ?_
  obtain ⟨q1, e2, h⟩ := z_bnd h
  refine iv_X6_125 (by decide) hc hI (c_X5_stands (by decide) e2) (z_room (by decide) (by decide)) hl.1 (Nat.le_of_ble_eq_true rfl) ⟨Nat.zero_le _, Nat.zero_le _⟩ dX6_days_4 (fun H locs hI => ?_)
  refine lv_if_ne (tgt := 13) hx hb dX6_days_7 (by decide) (fun c3 => ?_) (fun c3 => ?_)
  · replace h := z_iff h c3
    refine lv_iload_n hx hb dX6_days_13 rfl (lv_at hl 1 rfl) ?_
    refine lv_iconst (v := 1) hx hb dX6_days_14 (by decide) ?_
    refine lv_bipush (v := 24) hx hb dX6_days_15 (by decide) ?_
    obtain ⟨q4, e5, h⟩ := z_bnd h
    refine iv_X6_92 hc hI (c_X6_isWithin e5) (z_room (by decide) (by decide)) hl.1 (Nat.le_of_ble_eq_true rfl) ⟨Nat.zero_le _, Nat.zero_le _⟩ dX6_days_17 (fun H locs hI => ?_)
    refine lv_if_ne (tgt := 26) hx hb dX6_days_20 (by decide) (fun c6 => ?_) (fun c6 => ?_)
    · replace h := z_iff h c6
      refine lv_aload_n hx hb dX6_days_26 rfl (lv_at hl 0 rfl) ?_
      refine gf_X6_26 hc hI dX6_days_27 ?_
      obtain ⟨q7, e8, h⟩ := z_bnd h
      refine iv_X6_130 (by decide) hc hI (c_X5_dayNumber (by decide) e8) (z_room (by decide) (by decide)) hl.1 (Nat.le_of_ble_eq_true rfl) ⟨Nat.zero_le _, Nat.zero_le _⟩ dX6_days_30 (fun H locs hI => ?_)
      refine lv_iload_n hx hb dX6_days_33 rfl (lv_at hl 1 rfl) ?_
      refine lv_iadd hx hb dX6_days_34 ?_
      refine lv_sipush (v := 999) hx hb dX6_days_35 (by decide) ?_
      refine lv_icmp_le (tgt := 44) hx hb dX6_days_38 (by decide) (fun c9 => ?_) (fun c9 => ?_)
      · replace h := z_ift h c9
        refine lv_iconst (v := 0) hx hb dX6_days_44 (by decide) ?_
        refine lv_istore_n (lv' := [(2, .int 0), (0, .ref (z_ad G 0 0)), (1, .int a1)]) hx hb dX6_days_45 rfl hl (by decide) rfl (fun ls hl => ?_)
        exact w_X6_days_b46 hc _ a1 0 _ _ _ _ h hI (lv_sub hl [1, 2, 0] rfl)
      · replace h := z_iff h c9
        refine lv_ldc (v := (-1000003)) hx hb hown (hts _ wd_2_151) dX6_days_41 ?_
        obtain rfl := Option.some.inj h
        exact z_ri hc hI dX6_days_43
    · replace h := z_ift h c6
      refine lv_ldc (v := (-1000001)) hx hb hown (hts _ wd_1_204) dX6_days_23 ?_
      obtain rfl := Option.some.inj h
      exact z_ri hc hI dX6_days_25
  · replace h := z_ift h c3
    refine lv_ldc (v := (-1000002)) hx hb hown (hts _ wd_2_146) dX6_days_10 ?_
    obtain rfl := Option.some.inj h
    exact z_ri hc hI dX6_days_12
set_option maxRecDepth 100000 in
set_option maxHeartbeats 4000000 in
theorem c_X6_plane {G : z_G} {l : Launch} {a1 : Int32} {a2 : Int32} {M : z_M} {out : (Int32 × z_M)} (h : F_X6_plane a1 a2 M = some out) : z_Met G l yX6_plane cX6_plane 4 (some .int) 4 [.ref (z_ad G 0 0), .int a1, .int a2] M (some (.int out.1)) out.2 := by
  unfold F_X6_plane at h
  refine z_met_of (by decide) rfl (Nat.le_of_ble_eq_true rfl) (fun p e s m below meth c ls hc hI hl => ?_)
  obtain ⟨⟨hx, hb, hml, hown, hts⟩, hr, hlk⟩ := id hc
  have hl : lv_has ls 4 [(0, .ref (z_ad G 0 0)), (1, .int a1), (2, .int a2)] := hl
  refine lv_aload_n hx hb dX6_plane_0 rfl (lv_at hl 0 rfl) ?_
  refine gf_X6_26 hc hI dX6_plane_1 ?_
  refine lv_iload_n hx hb dX6_plane_4 rfl (lv_at hl 1 rfl) ?_
  obtain ⟨q1, e2, h⟩ := z_bnd h
  refine iv_X6_143 (by decide) hc hI (c_X5_hasTread (by decide) e2) (z_room (by decide) (by decide)) hl.1 (Nat.le_of_ble_eq_true rfl) ⟨Nat.zero_le _, Nat.zero_le _⟩ dX6_plane_5 (fun H locs hI => ?_)
  refine lv_if_eq (tgt := 21) hx hb dX6_plane_8 (by decide) (fun c3 => ?_) (fun c3 => ?_)
  · replace h := z_ift h c3
    refine lv_ldc (v := (-1000001)) hx hb hown (hts _ wd_1_204) dX6_plane_21 ?_
    obtain rfl := Option.some.inj h
    exact z_ri hc hI dX6_plane_23
  · replace h := z_iff h c3
    refine lv_iload_n hx hb dX6_plane_11 rfl (lv_at hl 2 rfl) ?_
    refine lv_iconst (v := 0) hx hb dX6_plane_12 (by decide) ?_
    refine lv_bipush (v := 9) hx hb dX6_plane_13 (by decide) ?_
    obtain ⟨q4, e5, h⟩ := z_bnd h
    refine iv_X6_92 hc hI (c_X6_isWithin e5) (z_room (by decide) (by decide)) hl.1 (Nat.le_of_ble_eq_true rfl) ⟨Nat.zero_le _, Nat.zero_le _⟩ dX6_plane_15 (fun H locs hI => ?_)
    refine lv_if_ne (tgt := 24) hx hb dX6_plane_18 (by decide) (fun c6 => ?_) (fun c6 => ?_)
    · replace h := z_iff h c6
      refine lv_aload_n hx hb dX6_plane_24 rfl (lv_at hl 0 rfl) ?_
      refine gf_X6_26 hc hI dX6_plane_25 ?_
      refine lv_iload_n hx hb dX6_plane_28 rfl (lv_at hl 1 rfl) ?_
      obtain ⟨q7, e8, h⟩ := z_bnd h
      refine iv_X6_146 (by decide) hc hI (c_X5_toneOf (by decide) e8) (z_room (by decide) (by decide)) hl.1 (Nat.le_of_ble_eq_true rfl) ⟨Nat.zero_le _, Nat.zero_le _⟩ dX6_plane_29 (fun H locs hI => ?_)
      refine lv_istore_n (lv' := [(3, .int q7), (0, .ref (z_ad G 0 0)), (1, .int a1), (2, .int a2)]) hx hb dX6_plane_32 rfl hl (by decide) rfl (fun ls hl => ?_)
      refine lv_aload_n hx hb dX6_plane_33 rfl (lv_at hl 1 rfl) ?_
      refine gf_X6_33 hc hI dX6_plane_34 ?_
      refine lv_aload_n hx hb dX6_plane_37 rfl (lv_at hl 1 rfl) ?_
      refine gf_X6_26 hc hI dX6_plane_38 ?_
      obtain ⟨q9, e10, h⟩ := z_bnd h
      refine iv_X6_134 hc hI (c_X1_keep e10) (z_room (by decide) (by decide)) hl.1 (Nat.le_of_ble_eq_true rfl) ⟨Nat.zero_le _, Nat.zero_le _⟩ dX6_plane_41 (fun H locs hI => ?_)
      refine lv_aload_n hx hb dX6_plane_44 rfl (lv_at hl 1 rfl) ?_
      refine gf_X6_26 hc hI dX6_plane_45 ?_
      refine lv_iload_n hx hb dX6_plane_48 rfl (lv_at hl 2 rfl) ?_
      refine lv_iload_n hx hb dX6_plane_49 rfl (lv_at hl 3 rfl) ?_
      obtain ⟨q11, e12, h⟩ := z_bnd h
      refine iv_X6_149 (by decide) hc hI (c_X5_planeTo (by decide) e12) (z_room (by decide) (by decide)) hl.1 (Nat.le_of_ble_eq_true rfl) ⟨Nat.zero_le _, Nat.zero_le _⟩ dX6_plane_50 (fun H locs hI => ?_)
      refine lv_iload_n hx hb dX6_plane_53 rfl (lv_at hl 0 rfl) ?_
      obtain rfl := Option.some.inj h
      exact z_ri hc hI dX6_plane_54
    · replace h := z_ift h c6
      refine lv_ldc (v := (-1000001)) hx hb hown (hts _ wd_1_204) dX6_plane_21 ?_
      obtain rfl := Option.some.inj h
      exact z_ri hc hI dX6_plane_23
set_option maxRecDepth 100000 in
set_option maxHeartbeats 4000000 in
theorem c_X6_reach {G : z_G} {l : Launch} {a1 : Int32} {M : z_M} {out : (Int32 × z_M)} (h : F_X6_reach a1 M = some out) : z_Met G l yX6_reach cX6_reach 3 (some .int) 3 [.ref (z_ad G 0 0), .int a1] M (some (.int out.1)) out.2 := by
  unfold F_X6_reach at h
  refine z_met_of (by decide) rfl (Nat.le_of_ble_eq_true rfl) (fun p e s m below meth c ls hc hI hl => ?_)
  obtain ⟨⟨hx, hb, hml, hown, hts⟩, hr, hlk⟩ := id hc
  have hl : lv_has ls 3 [(0, .ref (z_ad G 0 0)), (1, .int a1)] := hl
  refine lv_aload_n hx hb dX6_reach_0 rfl (lv_at hl 0 rfl) ?_
  refine gf_X6_26 hc hI dX6_reach_1 ?_
  obtain ⟨q1, e2, h⟩ := z_bnd h
  refine iv_X6_125 (by decide) hc hI (c_X5_stands (by decide) e2) (z_room (by decide) (by decide)) hl.1 (Nat.le_of_ble_eq_true rfl) ⟨Nat.zero_le _, Nat.zero_le _⟩ dX6_reach_4 (fun H locs hI => ?_)
  refine lv_if_ne (tgt := 13) hx hb dX6_reach_7 (by decide) (fun c3 => ?_) (fun c3 => ?_)
  · replace h := z_iff h c3
    refine lv_iload_n hx hb dX6_reach_13 rfl (lv_at hl 1 rfl) ?_
    refine lv_iconst (v := 0) hx hb dX6_reach_14 (by decide) ?_
    refine lv_bipush (v := 9) hx hb dX6_reach_15 (by decide) ?_
    obtain ⟨q4, e5, h⟩ := z_bnd h
    refine iv_X6_92 hc hI (c_X6_isWithin e5) (z_room (by decide) (by decide)) hl.1 (Nat.le_of_ble_eq_true rfl) ⟨Nat.zero_le _, Nat.zero_le _⟩ dX6_reach_17 (fun H locs hI => ?_)
    refine lv_if_ne (tgt := 26) hx hb dX6_reach_20 (by decide) (fun c6 => ?_) (fun c6 => ?_)
    · replace h := z_iff h c6
      refine lv_aload_n hx hb dX6_reach_26 rfl (lv_at hl 0 rfl) ?_
      refine gf_X6_26 hc hI dX6_reach_27 ?_
      obtain ⟨q7, e8, h⟩ := z_bnd h
      refine iv_X6_153 (by decide) hc hI (c_X5_reachNow (by decide) e8) (z_room (by decide) (by decide)) hl.1 (Nat.le_of_ble_eq_true rfl) ⟨Nat.zero_le _, Nat.zero_le _⟩ dX6_reach_30 (fun H locs hI => ?_)
      refine lv_istore_n (lv' := [(2, .int q7), (0, .ref (z_ad G 0 0)), (1, .int a1)]) hx hb dX6_reach_33 rfl hl (by decide) rfl (fun ls hl => ?_)
      refine lv_aload_n hx hb dX6_reach_34 rfl (lv_at hl 1 rfl) ?_
      refine gf_X6_33 hc hI dX6_reach_35 ?_
      refine lv_aload_n hx hb dX6_reach_38 rfl (lv_at hl 1 rfl) ?_
      refine gf_X6_26 hc hI dX6_reach_39 ?_
      obtain ⟨q9, e10, h⟩ := z_bnd h
      refine iv_X6_134 hc hI (c_X1_keep e10) (z_room (by decide) (by decide)) hl.1 (Nat.le_of_ble_eq_true rfl) ⟨Nat.zero_le _, Nat.zero_le _⟩ dX6_reach_42 (fun H locs hI => ?_)
      refine lv_aload_n hx hb dX6_reach_45 rfl (lv_at hl 1 rfl) ?_
      refine gf_X6_26 hc hI dX6_reach_46 ?_
      refine lv_iload_n hx hb dX6_reach_49 rfl (lv_at hl 2 rfl) ?_
      obtain ⟨q11, e12, h⟩ := z_bnd h
      refine iv_X6_156 (by decide) hc hI (c_X5_setReach (by decide) e12) (z_room (by decide) (by decide)) hl.1 (Nat.le_of_ble_eq_true rfl) ⟨Nat.zero_le _, Nat.zero_le _⟩ dX6_reach_50 (fun H locs hI => ?_)
      refine lv_iload_n hx hb dX6_reach_53 rfl (lv_at hl 0 rfl) ?_
      obtain rfl := Option.some.inj h
      exact z_ri hc hI dX6_reach_54
    · replace h := z_ift h c6
      refine lv_ldc (v := (-1000001)) hx hb hown (hts _ wd_1_204) dX6_reach_23 ?_
      obtain rfl := Option.some.inj h
      exact z_ri hc hI dX6_reach_25
  · replace h := z_ift h c3
    refine lv_ldc (v := (-1000002)) hx hb hown (hts _ wd_2_146) dX6_reach_10 ?_
    obtain rfl := Option.some.inj h
    exact z_ri hc hI dX6_reach_12
set_option maxRecDepth 100000 in
set_option maxHeartbeats 4000000 in
theorem c_X6_changed {G : z_G} {l : Launch} {a1 : Int32} {a2 : Int32} {a3 : Int32} {a4 : Int32} {M : z_M} {out : (Int32 × z_M)} (h : F_X6_changed a1 a2 a3 a4 M = some out) : z_Met G l yX6_changed cX6_changed 5 (some .int) 4 [.ref (z_ad G 0 0), .int a1, .int a2, .int a3, .int a4] M (some (.int out.1)) out.2 := by
  unfold F_X6_changed at h
  refine z_met_of (by decide) rfl (Nat.le_of_ble_eq_true rfl) (fun p e s m below meth c ls hc hI hl => ?_)
  obtain ⟨⟨hx, hb, hml, hown, hts⟩, hr, hlk⟩ := id hc
  have hl : lv_has ls 5 [(0, .ref (z_ad G 0 0)), (1, .int a1), (2, .int a2), (3, .int a3), (4, .int a4)] := hl
  refine lv_aload_n hx hb dX6_changed_0 rfl (lv_at hl 0 rfl) ?_
  refine gf_X6_26 hc hI dX6_changed_1 ?_
  refine lv_iload_n hx hb dX6_changed_4 rfl (lv_at hl 1 rfl) ?_
  obtain ⟨q1, e2, h⟩ := z_bnd h
  refine iv_X6_173 (by decide) hc hI (c_X5_hasWalker (by decide) e2) (z_room (by decide) (by decide)) hl.1 (Nat.le_of_ble_eq_true rfl) ⟨Nat.zero_le _, Nat.zero_le _⟩ dX6_changed_5 (fun H locs hI => ?_)
  refine lv_if_eq (tgt := 38) hx hb dX6_changed_8 (by decide) (fun c3 => ?_) (fun c3 => ?_)
  · replace h := z_ift h c3
    refine lv_ldc (v := (-1000001)) hx hb hown (hts _ wd_1_204) dX6_changed_38 ?_
    obtain rfl := Option.some.inj h
    exact z_ri hc hI dX6_changed_40
  · replace h := z_iff h c3
    refine lv_aload_n hx hb dX6_changed_11 rfl (lv_at hl 0 rfl) ?_
    refine gf_X6_26 hc hI dX6_changed_12 ?_
    refine lv_iload_n hx hb dX6_changed_15 rfl (lv_at hl 2 rfl) ?_
    refine lv_iload_n hx hb dX6_changed_16 rfl (lv_at hl 3 rfl) ?_
    obtain ⟨q4, e5, h⟩ := z_bnd h
    refine iv_X6_285 (by decide) hc hI (c_X5_canBe (by decide) e5) (z_room (by decide) (by decide)) hl.1 (Nat.le_of_ble_eq_true rfl) ⟨Nat.zero_le _, Nat.zero_le _⟩ dX6_changed_17 (fun H locs hI => ?_)
    refine lv_if_eq (tgt := 38) hx hb dX6_changed_20 (by decide) (fun c6 => ?_) (fun c6 => ?_)
    · replace h := z_ift h c6
      refine lv_ldc (v := (-1000001)) hx hb hown (hts _ wd_1_204) dX6_changed_38 ?_
      obtain rfl := Option.some.inj h
      exact z_ri hc hI dX6_changed_40
    · replace h := z_iff h c6
      refine lv_aload_n hx hb dX6_changed_23 rfl (lv_at hl 0 rfl) ?_
      refine gf_X6_26 hc hI dX6_changed_24 ?_
      refine lv_iload_n hx hb dX6_changed_27 rfl (lv_at hl 2 rfl) ?_
      refine lv_iconst (v := 1) hx hb dX6_changed_28 (by decide) ?_
      refine lv_iadd hx hb dX6_changed_29 ?_
      refine lv_iload hx hb dX6_changed_30 (lv_at hl 4 rfl) ?_
      obtain ⟨q7, e8, h⟩ := z_bnd h
      refine iv_X6_285 (by decide) hc hI (c_X5_canBe (by decide) e8) (z_room (by decide) (by decide)) hl.1 (Nat.le_of_ble_eq_true rfl) ⟨Nat.zero_le _, Nat.zero_le _⟩ dX6_changed_32 (fun H locs hI => ?_)
      refine lv_if_ne (tgt := 41) hx hb dX6_changed_35 (by decide) (fun c9 => ?_) (fun c9 => ?_)
      · replace h := z_iff h c9
        refine lv_aload_n hx hb dX6_changed_41 rfl (lv_at hl 0 rfl) ?_
        refine gf_X6_33 hc hI dX6_changed_42 ?_
        refine lv_aload_n hx hb dX6_changed_45 rfl (lv_at hl 0 rfl) ?_
        refine gf_X6_26 hc hI dX6_changed_46 ?_
        obtain ⟨q10, e11, h⟩ := z_bnd h
        refine iv_X6_134 hc hI (c_X1_keep e11) (z_room (by decide) (by decide)) hl.1 (Nat.le_of_ble_eq_true rfl) ⟨Nat.zero_le _, Nat.zero_le _⟩ dX6_changed_49 (fun H locs hI => ?_)
        refine lv_aload_n hx hb dX6_changed_52 rfl (lv_at hl 0 rfl) ?_
        refine gf_X6_26 hc hI dX6_changed_53 ?_
        refine lv_iload_n hx hb dX6_changed_56 rfl (lv_at hl 1 rfl) ?_
        refine lv_iload_n hx hb dX6_changed_57 rfl (lv_at hl 2 rfl) ?_
        refine lv_iload_n hx hb dX6_changed_58 rfl (lv_at hl 3 rfl) ?_
        obtain ⟨q12, e13, h⟩ := z_bnd h
        refine iv_X6_288 (by decide) hc hI (c_X5_setPart (by decide) e13) (z_room (by decide) (by decide)) hl.1 (Nat.le_of_ble_eq_true rfl) ⟨Nat.zero_le _, Nat.zero_le _⟩ dX6_changed_59 (fun H locs hI => ?_)
        refine lv_aload_n hx hb dX6_changed_62 rfl (lv_at hl 0 rfl) ?_
        refine gf_X6_26 hc hI dX6_changed_63 ?_
        refine lv_iload_n hx hb dX6_changed_66 rfl (lv_at hl 1 rfl) ?_
        refine lv_iload_n hx hb dX6_changed_67 rfl (lv_at hl 2 rfl) ?_
        refine lv_iconst (v := 1) hx hb dX6_changed_68 (by decide) ?_
        refine lv_iadd hx hb dX6_changed_69 ?_
        refine lv_iload hx hb dX6_changed_70 (lv_at hl 4 rfl) ?_
        obtain ⟨q14, e15, h⟩ := z_bnd h
        refine iv_X6_288 (by decide) hc hI (c_X5_setPart (by decide) e15) (z_room (by decide) (by decide)) hl.1 (Nat.le_of_ble_eq_true rfl) ⟨Nat.zero_le _, Nat.zero_le _⟩ dX6_changed_72 (fun H locs hI => ?_)
        refine lv_aload_n hx hb dX6_changed_75 rfl (lv_at hl 0 rfl) ?_
        refine gf_X6_26 hc hI dX6_changed_76 ?_
        refine lv_iload_n hx hb dX6_changed_79 rfl (lv_at hl 1 rfl) ?_
        obtain ⟨q16, e17, h⟩ := z_bnd h
        refine iv_X6_202 (by decide) hc hI (c_X5_longOf (by decide) e17) (z_room (by decide) (by decide)) hl.1 (Nat.le_of_ble_eq_true rfl) ⟨Nat.zero_le _, Nat.zero_le _⟩ dX6_changed_80 (fun H locs hI => ?_)
        obtain rfl := Option.some.inj h
        exact z_ri hc hI dX6_changed_83
      · replace h := z_ift h c9
        refine lv_ldc (v := (-1000001)) hx hb hown (hts _ wd_1_204) dX6_changed_38 ?_
        obtain rfl := Option.some.inj h
        exact z_ri hc hI dX6_changed_40
set_option maxRecDepth 100000 in
set_option maxHeartbeats 4000000 in
theorem c_X6_way {G : z_G} {l : Launch} {a1 : Int32} {a2 : Int32} {a3 : Int32} {M : z_M} {out : (Int32 × z_M)} (h : F_X6_way a1 a2 a3 M = some out) : z_Met G l yX6_way cX6_way 4 (some .int) 5 [.ref (z_ad G 0 0), .int a1, .int a2, .int a3] M (some (.int out.1)) out.2 := by
  unfold F_X6_way at h
  refine z_met_of (by decide) rfl (Nat.le_of_ble_eq_true rfl) (fun p e s m below meth c ls hc hI hl => ?_)
  obtain ⟨⟨hx, hb, hml, hown, hts⟩, hr, hlk⟩ := id hc
  have hl : lv_has ls 4 [(0, .ref (z_ad G 0 0)), (1, .int a1), (2, .int a2), (3, .int a3)] := hl
  refine lv_aload_n hx hb dX6_way_0 rfl (lv_at hl 0 rfl) ?_
  refine lv_iload_n hx hb dX6_way_1 rfl (lv_at hl 1 rfl) ?_
  refine lv_iconst (v := 0) hx hb dX6_way_2 (by decide) ?_
  refine lv_iload_n hx hb dX6_way_3 rfl (lv_at hl 2 rfl) ?_
  refine lv_iload_n hx hb dX6_way_4 rfl (lv_at hl 3 rfl) ?_
  obtain ⟨q1, e2, h⟩ := z_bnd h
  refine iv_X6_160 hc hI (c_X6_changed e2) (z_room (by decide) (by decide)) hl.1 (Nat.le_of_ble_eq_true rfl) ⟨Nat.zero_le _, Nat.zero_le _⟩ dX6_way_5 (fun H locs hI => ?_)
  obtain rfl := Option.some.inj h
  exact z_ri hc hI dX6_way_8
set_option maxRecDepth 100000 in
set_option maxHeartbeats 4000000 in
theorem c_X6_gait {G : z_G} {l : Launch} {a1 : Int32} {a2 : Int32} {a3 : Int32} {M : z_M} {out : (Int32 × z_M)} (h : F_X6_gait a1 a2 a3 M = some out) : z_Met G l yX6_gait cX6_gait 4 (some .int) 5 [.ref (z_ad G 0 0), .int a1, .int a2, .int a3] M (some (.int out.1)) out.2 := by
  unfold F_X6_gait at h
  refine z_met_of (by decide) rfl (Nat.le_of_ble_eq_true rfl) (fun p e s m below meth c ls hc hI hl => ?_)
  obtain ⟨⟨hx, hb, hml, hown, hts⟩, hr, hlk⟩ := id hc
  have hl : lv_has ls 4 [(0, .ref (z_ad G 0 0)), (1, .int a1), (2, .int a2), (3, .int a3)] := hl
  refine lv_aload_n hx hb dX6_gait_0 rfl (lv_at hl 0 rfl) ?_
  refine lv_iload_n hx hb dX6_gait_1 rfl (lv_at hl 1 rfl) ?_
  refine lv_iconst (v := 2) hx hb dX6_gait_2 (by decide) ?_
  refine lv_iload_n hx hb dX6_gait_3 rfl (lv_at hl 2 rfl) ?_
  refine lv_iload_n hx hb dX6_gait_4 rfl (lv_at hl 3 rfl) ?_
  obtain ⟨q1, e2, h⟩ := z_bnd h
  refine iv_X6_160 hc hI (c_X6_changed e2) (z_room (by decide) (by decide)) hl.1 (Nat.le_of_ble_eq_true rfl) ⟨Nat.zero_le _, Nat.zero_le _⟩ dX6_gait_5 (fun H locs hI => ?_)
  obtain rfl := Option.some.inj h
  exact z_ri hc hI dX6_gait_8
set_option maxRecDepth 100000 in
set_option maxHeartbeats 4000000 in
theorem c_X6_tread {G : z_G} {l : Launch} {a1 : Int32} {a2 : Int32} {M : z_M} {out : Int32} (h : F_X6_tread a1 a2 M = some out) : z_Met G l yX6_tread cX6_tread 3 (some .int) 4 [.ref (z_ad G 0 0), .int a1, .int a2] M (some (.int out)) M := by
  unfold F_X6_tread at h
  refine z_met_of (by decide) rfl (Nat.le_of_ble_eq_true rfl) (fun p e s m below meth c ls hc hI hl => ?_)
  obtain ⟨⟨hx, hb, hml, hown, hts⟩, hr, hlk⟩ := id hc
  have hl : lv_has ls 3 [(0, .ref (z_ad G 0 0)), (1, .int a1), (2, .int a2)] := hl
  refine lv_aload_n hx hb dX6_tread_0 rfl (lv_at hl 0 rfl) ?_
  refine gf_X6_26 hc hI dX6_tread_1 ?_
  refine lv_iload_n hx hb dX6_tread_4 rfl (lv_at hl 1 rfl) ?_
  obtain ⟨q1, e2, h⟩ := z_bnd h
  refine iv_X6_143 (by decide) hc hI (c_X5_hasTread (by decide) e2) (z_room (by decide) (by decide)) hl.1 (Nat.le_of_ble_eq_true rfl) ⟨Nat.zero_le _, Nat.zero_le _⟩ dX6_tread_5 (fun H locs hI => ?_)
  refine lv_if_eq (tgt := 20) hx hb dX6_tread_8 (by decide) (fun c3 => ?_) (fun c3 => ?_)
  · replace h := z_ift h c3
    refine lv_ldc (v := (-1000001)) hx hb hown (hts _ wd_1_204) dX6_tread_20 ?_
    obtain rfl := Option.some.inj h
    exact z_ri hc hI dX6_tread_22
  · replace h := z_iff h c3
    refine lv_iload_n hx hb dX6_tread_11 rfl (lv_at hl 2 rfl) ?_
    refine lv_iconst (v := 0) hx hb dX6_tread_12 (by decide) ?_
    refine lv_iconst (v := 3) hx hb dX6_tread_13 (by decide) ?_
    obtain ⟨q4, e5, h⟩ := z_bnd h
    refine iv_X6_92 hc hI (c_X6_isWithin e5) (z_room (by decide) (by decide)) hl.1 (Nat.le_of_ble_eq_true rfl) ⟨Nat.zero_le _, Nat.zero_le _⟩ dX6_tread_14 (fun H locs hI => ?_)
    refine lv_if_ne (tgt := 23) hx hb dX6_tread_17 (by decide) (fun c6 => ?_) (fun c6 => ?_)
    · replace h := z_iff h c6
      refine lv_iload_n hx hb dX6_tread_23 rfl (lv_at hl 2 rfl) ?_
      by_cases c7 : a2 = 0
      · replace h := z_ift h c7
        refine lv_tableIn (off := 28) (tgt := 52) hx hb dX6_tread_24 (by rw [c7]; decide) (by rw [c7]; decide) (by rw [c7]; rfl) (by decide) ?_
        refine lv_aload_n hx hb dX6_tread_52 rfl (lv_at hl 0 rfl) ?_
        refine gf_X6_26 hc hI dX6_tread_53 ?_
        refine lv_iload_n hx hb dX6_tread_56 rfl (lv_at hl 1 rfl) ?_
        obtain ⟨q8, e9, h⟩ := z_bnd h
        refine iv_X6_164 (by decide) hc hI (c_X5_noteOf (by decide) e9) (z_room (by decide) (by decide)) hl.1 (Nat.le_of_ble_eq_true rfl) ⟨Nat.zero_le _, Nat.zero_le _⟩ dX6_tread_57 (fun H locs hI => ?_)
        obtain rfl := Option.some.inj h
        exact z_ri hc hI dX6_tread_60
      replace h := z_iff h c7
      by_cases c10 : a2 = 1
      · replace h := z_ift h c10
        refine lv_tableIn (off := 37) (tgt := 61) hx hb dX6_tread_24 (by rw [c10]; decide) (by rw [c10]; decide) (by rw [c10]; rfl) (by decide) ?_
        refine lv_aload_n hx hb dX6_tread_61 rfl (lv_at hl 0 rfl) ?_
        refine gf_X6_26 hc hI dX6_tread_62 ?_
        refine lv_iload_n hx hb dX6_tread_65 rfl (lv_at hl 1 rfl) ?_
        obtain ⟨q11, e12, h⟩ := z_bnd h
        refine iv_X6_167 (by decide) hc hI (c_X5_wornOf (by decide) e12) (z_room (by decide) (by decide)) hl.1 (Nat.le_of_ble_eq_true rfl) ⟨Nat.zero_le _, Nat.zero_le _⟩ dX6_tread_66 (fun H locs hI => ?_)
        obtain rfl := Option.some.inj h
        exact z_ri hc hI dX6_tread_69
      replace h := z_iff h c10
      by_cases c13 : a2 = 2
      · replace h := z_ift h c13
        refine lv_tableIn (off := 46) (tgt := 70) hx hb dX6_tread_24 (by rw [c13]; decide) (by rw [c13]; decide) (by rw [c13]; rfl) (by decide) ?_
        refine lv_aload_n hx hb dX6_tread_70 rfl (lv_at hl 0 rfl) ?_
        refine gf_X6_26 hc hI dX6_tread_71 ?_
        refine lv_iload_n hx hb dX6_tread_74 rfl (lv_at hl 1 rfl) ?_
        obtain ⟨q14, e15, h⟩ := z_bnd h
        refine iv_X6_146 (by decide) hc hI (c_X5_toneOf (by decide) e15) (z_room (by decide) (by decide)) hl.1 (Nat.le_of_ble_eq_true rfl) ⟨Nat.zero_le _, Nat.zero_le _⟩ dX6_tread_75 (fun H locs hI => ?_)
        obtain rfl := Option.some.inj h
        exact z_ri hc hI dX6_tread_78
      replace h := z_iff h c13
      refine lv_tableOut (tgt := 79) hx hb dX6_tread_24 (by have nc7 := z_ne (n := 0) (by decide) c7; have nc10 := z_ne (n := 1) (by decide) c10; have nc13 := z_ne (n := 2) (by decide) c13; omega) (by decide) ?_
      refine lv_aload_n hx hb dX6_tread_79 rfl (lv_at hl 0 rfl) ?_
      refine gf_X6_26 hc hI dX6_tread_80 ?_
      refine lv_iload_n hx hb dX6_tread_83 rfl (lv_at hl 1 rfl) ?_
      obtain ⟨q16, e17, h⟩ := z_bnd h
      refine iv_X6_170 (by decide) hc hI (c_X5_walkersOn (by decide) e17) (z_room (by decide) (by decide)) hl.1 (Nat.le_of_ble_eq_true rfl) ⟨Nat.zero_le _, Nat.zero_le _⟩ dX6_tread_84 (fun H locs hI => ?_)
      obtain rfl := Option.some.inj h
      exact z_ri hc hI dX6_tread_87
    · replace h := z_ift h c6
      refine lv_ldc (v := (-1000001)) hx hb hown (hts _ wd_1_204) dX6_tread_20 ?_
      obtain rfl := Option.some.inj h
      exact z_ri hc hI dX6_tread_22
set_option maxRecDepth 100000 in
set_option maxHeartbeats 4000000 in
theorem c_X6_walker {G : z_G} {l : Launch} {a1 : Int32} {a2 : Int32} {M : z_M} {out : Int32} (h : F_X6_walker a1 a2 M = some out) : z_Met G l yX6_walker cX6_walker 3 (some .int) 3 [.ref (z_ad G 0 0), .int a1, .int a2] M (some (.int out)) M := by
  unfold F_X6_walker at h
  refine z_met_of (by decide) rfl (Nat.le_of_ble_eq_true rfl) (fun p e s m below meth c ls hc hI hl => ?_)
  obtain ⟨⟨hx, hb, hml, hown, hts⟩, hr, hlk⟩ := id hc
  have hl : lv_has ls 3 [(0, .ref (z_ad G 0 0)), (1, .int a1), (2, .int a2)] := hl
  refine lv_aload_n hx hb dX6_walker_0 rfl (lv_at hl 0 rfl) ?_
  refine gf_X6_26 hc hI dX6_walker_1 ?_
  refine lv_iload_n hx hb dX6_walker_4 rfl (lv_at hl 1 rfl) ?_
  obtain ⟨q1, e2, h⟩ := z_bnd h
  refine iv_X6_173 (by decide) hc hI (c_X5_hasWalker (by decide) e2) (z_room (by decide) (by decide)) hl.1 (Nat.le_of_ble_eq_true rfl) ⟨Nat.zero_le _, Nat.zero_le _⟩ dX6_walker_5 (fun H locs hI => ?_)
  refine lv_if_eq (tgt := 20) hx hb dX6_walker_8 (by decide) (fun c3 => ?_) (fun c3 => ?_)
  · replace h := z_ift h c3
    refine lv_ldc (v := (-1000001)) hx hb hown (hts _ wd_1_204) dX6_walker_20 ?_
    obtain rfl := Option.some.inj h
    exact z_ri hc hI dX6_walker_22
  · replace h := z_iff h c3
    refine lv_iload_n hx hb dX6_walker_11 rfl (lv_at hl 2 rfl) ?_
    refine lv_iconst (v := 0) hx hb dX6_walker_12 (by decide) ?_
    refine lv_iconst (v := 3) hx hb dX6_walker_13 (by decide) ?_
    obtain ⟨q4, e5, h⟩ := z_bnd h
    refine iv_X6_92 hc hI (c_X6_isWithin e5) (z_room (by decide) (by decide)) hl.1 (Nat.le_of_ble_eq_true rfl) ⟨Nat.zero_le _, Nat.zero_le _⟩ dX6_walker_14 (fun H locs hI => ?_)
    refine lv_if_ne (tgt := 23) hx hb dX6_walker_17 (by decide) (fun c6 => ?_) (fun c6 => ?_)
    · replace h := z_iff h c6
      refine lv_aload_n hx hb dX6_walker_23 rfl (lv_at hl 0 rfl) ?_
      refine gf_X6_26 hc hI dX6_walker_24 ?_
      refine lv_iload_n hx hb dX6_walker_27 rfl (lv_at hl 1 rfl) ?_
      refine lv_iload_n hx hb dX6_walker_28 rfl (lv_at hl 2 rfl) ?_
      obtain ⟨q7, e8, h⟩ := z_bnd h
      refine iv_X6_176 (by decide) hc hI (c_X5_partOf (by decide) e8) (z_room (by decide) (by decide)) hl.1 (Nat.le_of_ble_eq_true rfl) ⟨Nat.zero_le _, Nat.zero_le _⟩ dX6_walker_29 (fun H locs hI => ?_)
      obtain rfl := Option.some.inj h
      exact z_ri hc hI dX6_walker_32
    · replace h := z_ift h c6
      refine lv_ldc (v := (-1000001)) hx hb hown (hts _ wd_1_204) dX6_walker_20 ?_
      obtain rfl := Option.some.inj h
      exact z_ri hc hI dX6_walker_22
set_option maxRecDepth 100000 in
set_option maxHeartbeats 4000000 in
theorem c_X6_tune {G : z_G} {l : Launch} {a1 : Int32} {a2 : Int32} {M : z_M} {out : Int32} (h : F_X6_tune a1 a2 M = some out) : z_Met G l yX6_tune cX6_tune 3 (some .int) 4 [.ref (z_ad G 0 0), .int a1, .int a2] M (some (.int out)) M := by
  unfold F_X6_tune at h
  refine z_met_of (by decide) rfl (Nat.le_of_ble_eq_true rfl) (fun p e s m below meth c ls hc hI hl => ?_)
  obtain ⟨⟨hx, hb, hml, hown, hts⟩, hr, hlk⟩ := id hc
  have hl : lv_has ls 3 [(0, .ref (z_ad G 0 0)), (1, .int a1), (2, .int a2)] := hl
  refine lv_aload_n hx hb dX6_tune_0 rfl (lv_at hl 0 rfl) ?_
  refine gf_X6_26 hc hI dX6_tune_1 ?_
  refine lv_iload_n hx hb dX6_tune_4 rfl (lv_at hl 1 rfl) ?_
  obtain ⟨q1, e2, h⟩ := z_bnd h
  refine iv_X6_173 (by decide) hc hI (c_X5_hasWalker (by decide) e2) (z_room (by decide) (by decide)) hl.1 (Nat.le_of_ble_eq_true rfl) ⟨Nat.zero_le _, Nat.zero_le _⟩ dX6_tune_5 (fun H locs hI => ?_)
  refine lv_if_eq (tgt := 15) hx hb dX6_tune_8 (by decide) (fun c3 => ?_) (fun c3 => ?_)
  · replace h := z_ift h c3
    refine lv_ldc (v := (-1000001)) hx hb hown (hts _ wd_1_204) dX6_tune_15 ?_
    obtain rfl := Option.some.inj h
    exact z_ri hc hI dX6_tune_17
  · replace h := z_iff h c3
    refine lv_iload_n hx hb dX6_tune_11 rfl (lv_at hl 2 rfl) ?_
    refine lv_if_ge (tgt := 18) hx hb dX6_tune_12 (by decide) (fun c4 => ?_) (fun c4 => ?_)
    · replace h := z_ift h c4
      refine lv_aload_n hx hb dX6_tune_18 rfl (lv_at hl 0 rfl) ?_
      refine gf_X6_26 hc hI dX6_tune_19 ?_
      refine lv_iload_n hx hb dX6_tune_22 rfl (lv_at hl 1 rfl) ?_
      refine lv_iload_n hx hb dX6_tune_23 rfl (lv_at hl 2 rfl) ?_
      obtain ⟨q5, e6, h⟩ := z_bnd h
      refine iv_X6_180 (by decide) hc hI (c_X5_soundOf (by decide) e6) (z_room (by decide) (by decide)) hl.1 (Nat.le_of_ble_eq_true rfl) ⟨Nat.zero_le _, Nat.zero_le _⟩ dX6_tune_24 (fun H locs hI => ?_)
      obtain rfl := Option.some.inj h
      exact z_ri hc hI dX6_tune_27
    · replace h := z_iff h c4
      refine lv_ldc (v := (-1000001)) hx hb hown (hts _ wd_1_204) dX6_tune_15 ?_
      obtain rfl := Option.some.inj h
      exact z_ri hc hI dX6_tune_17
set_option maxRecDepth 100000 in
set_option maxHeartbeats 4000000 in
theorem c_X6_isMinute {G : z_G} {l : Launch} {a1 : Int32} {M : z_M} {out : Int32} (h : F_X6_isMinute a1 M = some out) : z_Met G l yX6_isMinute cX6_isMinute 1 (some .boolean) 2 [.int a1] M (some (.int out)) M := by
  unfold F_X6_isMinute at h
  refine z_met_of (by decide) rfl (Nat.le_of_ble_eq_true rfl) (fun p e s m below meth c ls hc hI hl => ?_)
  obtain ⟨⟨hx, hb, hml, hown, hts⟩, hr, hlk⟩ := id hc
  have hl : lv_has ls 1 [(0, .int a1)] := hl
  refine lv_iload_n hx hb dX6_isMinute_0 rfl (lv_at hl 0 rfl) ?_
  refine lv_iconst (v := 0) hx hb dX6_isMinute_1 (by decide) ?_
  refine lv_bipush (v := 29) hx hb dX6_isMinute_2 (by decide) ?_
  obtain ⟨q1, e2, h⟩ := z_bnd h
  refine iv_X6_92 hc hI (c_X6_isWithin e2) (z_room (by decide) (by decide)) hl.1 (Nat.le_of_ble_eq_true rfl) ⟨Nat.zero_le _, Nat.zero_le _⟩ dX6_isMinute_4 (fun H locs hI => ?_)
  obtain ⟨g3, h⟩ := z_grd_some h
  obtain rfl := Option.some.inj h
  exact z_rz hc hI g3 dX6_isMinute_7
set_option maxRecDepth 100000 in
set_option maxHeartbeats 4000000 in
theorem c_X6_where {G : z_G} {l : Launch} {a1 : Int32} {a2 : Int32} {M : z_M} {out : Int32} (h : F_X6_where a1 a2 M = some out) : z_Met G l yX6_where cX6_where 3 (some .int) 4 [.ref (z_ad G 0 0), .int a1, .int a2] M (some (.int out)) M := by
  unfold F_X6_where at h
  refine z_met_of (by decide) rfl (Nat.le_of_ble_eq_true rfl) (fun p e s m below meth c ls hc hI hl => ?_)
  obtain ⟨⟨hx, hb, hml, hown, hts⟩, hr, hlk⟩ := id hc
  have hl : lv_has ls 3 [(0, .ref (z_ad G 0 0)), (1, .int a1), (2, .int a2)] := hl
  refine lv_aload_n hx hb dX6_where_0 rfl (lv_at hl 0 rfl) ?_
  refine gf_X6_26 hc hI dX6_where_1 ?_
  refine lv_iload_n hx hb dX6_where_4 rfl (lv_at hl 1 rfl) ?_
  obtain ⟨q1, e2, h⟩ := z_bnd h
  refine iv_X6_173 (by decide) hc hI (c_X5_hasWalker (by decide) e2) (z_room (by decide) (by decide)) hl.1 (Nat.le_of_ble_eq_true rfl) ⟨Nat.zero_le _, Nat.zero_le _⟩ dX6_where_5 (fun H locs hI => ?_)
  refine lv_if_eq (tgt := 18) hx hb dX6_where_8 (by decide) (fun c3 => ?_) (fun c3 => ?_)
  · replace h := z_ift h c3
    refine lv_ldc (v := (-1000001)) hx hb hown (hts _ wd_1_204) dX6_where_18 ?_
    obtain rfl := Option.some.inj h
    exact z_ri hc hI dX6_where_20
  · replace h := z_iff h c3
    refine lv_iload_n hx hb dX6_where_11 rfl (lv_at hl 2 rfl) ?_
    obtain ⟨q4, e5, h⟩ := z_bnd h
    refine iv_X6_183 hc hI (c_X6_isMinute e5) (z_room (by decide) (by decide)) hl.1 (Nat.le_of_ble_eq_true rfl) ⟨Nat.zero_le _, Nat.zero_le _⟩ dX6_where_12 (fun H locs hI => ?_)
    refine lv_if_ne (tgt := 21) hx hb dX6_where_15 (by decide) (fun c6 => ?_) (fun c6 => ?_)
    · replace h := z_iff h c6
      refine lv_aload_n hx hb dX6_where_21 rfl (lv_at hl 0 rfl) ?_
      refine gf_X6_26 hc hI dX6_where_22 ?_
      refine lv_iload_n hx hb dX6_where_25 rfl (lv_at hl 1 rfl) ?_
      refine lv_iload_n hx hb dX6_where_26 rfl (lv_at hl 2 rfl) ?_
      obtain ⟨q7, e8, h⟩ := z_bnd h
      refine iv_X6_186 (by decide) hc hI (c_X5_placeIn (by decide) e8) (z_room (by decide) (by decide)) hl.1 (Nat.le_of_ble_eq_true rfl) ⟨Nat.zero_le _, Nat.zero_le _⟩ dX6_where_27 (fun H locs hI => ?_)
      obtain rfl := Option.some.inj h
      exact z_ri hc hI dX6_where_30
    · replace h := z_ift h c6
      refine lv_ldc (v := (-1000001)) hx hb hown (hts _ wd_1_204) dX6_where_18 ?_
      obtain rfl := Option.some.inj h
      exact z_ri hc hI dX6_where_20
set_option maxRecDepth 100000 in
set_option maxHeartbeats 4000000 in
theorem c_X6_heard {G : z_G} {l : Launch} {a1 : Int32} {a2 : Int32} {M : z_M} {out : Int32} (h : F_X6_heard a1 a2 M = some out) : z_Met G l yX6_heard cX6_heard 3 (some .int) 5 [.ref (z_ad G 0 0), .int a1, .int a2] M (some (.int out)) M := by
  unfold F_X6_heard at h
  refine z_met_of (by decide) rfl (Nat.le_of_ble_eq_true rfl) (fun p e s m below meth c ls hc hI hl => ?_)
  obtain ⟨⟨hx, hb, hml, hown, hts⟩, hr, hlk⟩ := id hc
  have hl : lv_has ls 3 [(0, .ref (z_ad G 0 0)), (1, .int a1), (2, .int a2)] := hl
  refine lv_aload_n hx hb dX6_heard_0 rfl (lv_at hl 0 rfl) ?_
  refine gf_X6_26 hc hI dX6_heard_1 ?_
  refine lv_iload_n hx hb dX6_heard_4 rfl (lv_at hl 1 rfl) ?_
  obtain ⟨q1, e2, h⟩ := z_bnd h
  refine iv_X6_143 (by decide) hc hI (c_X5_hasTread (by decide) e2) (z_room (by decide) (by decide)) hl.1 (Nat.le_of_ble_eq_true rfl) ⟨Nat.zero_le _, Nat.zero_le _⟩ dX6_heard_5 (fun H locs hI => ?_)
  refine lv_if_eq (tgt := 18) hx hb dX6_heard_8 (by decide) (fun c3 => ?_) (fun c3 => ?_)
  · replace h := z_ift h c3
    refine lv_ldc (v := (-1000001)) hx hb hown (hts _ wd_1_204) dX6_heard_18 ?_
    obtain rfl := Option.some.inj h
    exact z_ri hc hI dX6_heard_20
  · replace h := z_iff h c3
    refine lv_iload_n hx hb dX6_heard_11 rfl (lv_at hl 2 rfl) ?_
    obtain ⟨q4, e5, h⟩ := z_bnd h
    refine iv_X6_183 hc hI (c_X6_isMinute e5) (z_room (by decide) (by decide)) hl.1 (Nat.le_of_ble_eq_true rfl) ⟨Nat.zero_le _, Nat.zero_le _⟩ dX6_heard_12 (fun H locs hI => ?_)
    refine lv_if_ne (tgt := 21) hx hb dX6_heard_15 (by decide) (fun c6 => ?_) (fun c6 => ?_)
    · replace h := z_iff h c6
      refine lv_aload_n hx hb dX6_heard_21 rfl (lv_at hl 0 rfl) ?_
      refine gf_X6_26 hc hI dX6_heard_22 ?_
      refine lv_iload_n hx hb dX6_heard_25 rfl (lv_at hl 1 rfl) ?_
      refine lv_iload_n hx hb dX6_heard_26 rfl (lv_at hl 2 rfl) ?_
      obtain ⟨q7, e8, h⟩ := z_bnd h
      refine iv_X6_189 (by decide) hc hI (c_X5_heardAt (by decide) e8) (z_room (by decide) (by decide)) hl.1 (Nat.le_of_ble_eq_true rfl) ⟨Nat.zero_le _, Nat.zero_le _⟩ dX6_heard_27 (fun H locs hI => ?_)
      obtain rfl := Option.some.inj h
      exact z_ri hc hI dX6_heard_30
    · replace h := z_ift h c6
      refine lv_ldc (v := (-1000001)) hx hb hown (hts _ wd_1_204) dX6_heard_18 ?_
      obtain rfl := Option.some.inj h
      exact z_ri hc hI dX6_heard_20
set_option maxRecDepth 100000 in
set_option maxHeartbeats 4000000 in
theorem w_X6_isFirstOrSecond_b9 {M : z_M} (hc : z_C p s m args meth c RX6 cX6_isFirstOrSecond 1 (some .boolean)) {out : Int32} (H : Heap) (locs : List Loc) (ls : Array Slot) (h : F_X6_isFirstOrSecond_b9 M = some out) (hI : z_I G s M H locs) (hl : lv_has ls 1 []) : W p l e (z_rm 1) s m args below meth c H locs 0 0 (MQ below (z_Q G (some (.int out)) M) args s 0 0 (z_A G)) (F0 m 9 ls []) := by
  obtain ⟨⟨hx, hb, hml, hown, hts⟩, hr, hlk⟩ := id hc
  unfold F_X6_isFirstOrSecond_b9 at h
  refine lv_iconst (v := 1) hx hb dX6_isFirstOrSecond_9 (by decide) ?_
  refine lv_goto (tgt := 14) hx hb dX6_isFirstOrSecond_10 (by decide) ?_
  obtain rfl := Option.some.inj h
  exact z_rz (x := 1) hc hI (by decide) dX6_isFirstOrSecond_14
set_option maxRecDepth 100000 in
set_option maxHeartbeats 4000000 in
theorem c_X6_isFirstOrSecond {G : z_G} {l : Launch} {a1 : Int32} {M : z_M} {out : Int32} (h : F_X6_isFirstOrSecond a1 M = some out) : z_Met G l yX6_isFirstOrSecond cX6_isFirstOrSecond 1 (some .boolean) 1 [.int a1] M (some (.int out)) M := by
  unfold F_X6_isFirstOrSecond at h
  refine z_met_of (by decide) rfl (Nat.le_of_ble_eq_true rfl) (fun p e s m below meth c ls hc hI hl => ?_)
  obtain ⟨⟨hx, hb, hml, hown, hts⟩, hr, hlk⟩ := id hc
  have hl : lv_has ls 1 [(0, .int a1)] := hl
  refine lv_iload_n hx hb dX6_isFirstOrSecond_0 rfl (lv_at hl 0 rfl) ?_
  refine lv_if_eq (tgt := 9) hx hb dX6_isFirstOrSecond_1 (by decide) (fun c1 => ?_) (fun c1 => ?_)
  · replace h := z_ift h c1
    exact w_X6_isFirstOrSecond_b9 hc _ _ _ h hI (lv_sub hl [] rfl)
  · replace h := z_iff h c1
    refine lv_iload_n hx hb dX6_isFirstOrSecond_4 rfl (lv_at hl 0 rfl) ?_
    refine lv_iconst (v := 1) hx hb dX6_isFirstOrSecond_5 (by decide) ?_
    refine lv_icmp_ne (tgt := 13) hx hb dX6_isFirstOrSecond_6 (by decide) (fun c2 => ?_) (fun c2 => ?_)
    · replace h := z_iff h c2
      refine lv_iconst (v := 0) hx hb dX6_isFirstOrSecond_13 (by decide) ?_
      obtain rfl := Option.some.inj h
      exact z_rz (x := 0) hc hI (by decide) dX6_isFirstOrSecond_14
    · replace h := z_ift h c2
      exact w_X6_isFirstOrSecond_b9 hc _ _ _ h hI (lv_sub hl [] rfl)
set_option maxRecDepth 100000 in
set_option maxHeartbeats 4000000 in
theorem c_X6_seerOfNow {G : z_G} {l : Launch} {M : z_M} {out : z_M} (h : F_X6_seerOfNow M = some out) : z_Met G l yX6_seerOfNow cX6_seerOfNow 1 (some (.object "StairTunes$Seer")) 3 [.ref (z_ad G 0 0)] M (some (.ref (z_ad G 15 0))) out := by
  unfold F_X6_seerOfNow at h
  refine z_met_of (by decide) rfl (Nat.le_of_ble_eq_true rfl) (fun p e s m below meth c ls hc hI hl => ?_)
  obtain ⟨⟨hx, hb, hml, hown, hts⟩, hr, hlk⟩ := id hc
  have hl : lv_has ls 1 [(0, .ref (z_ad G 0 0))] := hl
  refine lv_aload_n hx hb dX6_seerOfNow_0 rfl (lv_at hl 0 rfl) ?_
  refine gf_X6_44 hc hI dX6_seerOfNow_1 ?_
  refine lv_aload_n hx hb dX6_seerOfNow_4 rfl (lv_at hl 0 rfl) ?_
  refine gf_X6_26 hc hI dX6_seerOfNow_5 ?_
  obtain ⟨q1, e2, h⟩ := z_bnd h
  refine iv_X6_292 hc hI (c_X3_lookAt e2) (z_room (by decide) (by decide)) hl.1 (Nat.le_of_ble_eq_true rfl) ⟨Nat.zero_le _, Nat.zero_le _⟩ dX6_seerOfNow_8 (fun H locs hI => ?_)
  refine lv_aload_n hx hb dX6_seerOfNow_11 rfl (lv_at hl 0 rfl) ?_
  refine gf_X6_44 hc hI dX6_seerOfNow_12 ?_
  obtain rfl := Option.some.inj h
  exact z_ra hc hI (Or.inr ⟨_, rfl⟩) dX6_seerOfNow_15
set_option maxRecDepth 100000 in
set_option maxHeartbeats 4000000 in
theorem c_X6_ahead {G : z_G} {l : Launch} {a1 : Int32} {a2 : Int32} {a3 : Int32} {M : z_M} {out : (Int32 × z_M)} (h : F_X6_ahead a1 a2 a3 M = some out) : z_Met G l yX6_ahead cX6_ahead 4 (some .int) 6 [.ref (z_ad G 0 0), .int a1, .int a2, .int a3] M (some (.int out.1)) out.2 := by
  unfold F_X6_ahead at h
  refine z_met_of (by decide) rfl (Nat.le_of_ble_eq_true rfl) (fun p e s m below meth c ls hc hI hl => ?_)
  obtain ⟨⟨hx, hb, hml, hown, hts⟩, hr, hlk⟩ := id hc
  have hl : lv_has ls 4 [(0, .ref (z_ad G 0 0)), (1, .int a1), (2, .int a2), (3, .int a3)] := hl
  refine lv_aload_n hx hb dX6_ahead_0 rfl (lv_at hl 0 rfl) ?_
  refine gf_X6_26 hc hI dX6_ahead_1 ?_
  refine lv_iload_n hx hb dX6_ahead_4 rfl (lv_at hl 1 rfl) ?_
  obtain ⟨q1, e2, h⟩ := z_bnd h
  refine iv_X6_143 (by decide) hc hI (c_X5_hasTread (by decide) e2) (z_room (by decide) (by decide)) hl.1 (Nat.le_of_ble_eq_true rfl) ⟨Nat.zero_le _, Nat.zero_le _⟩ dX6_ahead_5 (fun H locs hI => ?_)
  refine lv_if_eq (tgt := 28) hx hb dX6_ahead_8 (by decide) (fun c3 => ?_) (fun c3 => ?_)
  · replace h := z_ift h c3
    refine lv_ldc (v := (-1000001)) hx hb hown (hts _ wd_1_204) dX6_ahead_28 ?_
    obtain rfl := Option.some.inj h
    exact z_ri hc hI dX6_ahead_30
  · replace h := z_iff h c3
    refine lv_iload_n hx hb dX6_ahead_11 rfl (lv_at hl 2 rfl) ?_
    refine lv_iconst (v := 0) hx hb dX6_ahead_12 (by decide) ?_
    refine lv_bipush (v := 60) hx hb dX6_ahead_13 (by decide) ?_
    obtain ⟨q4, e5, h⟩ := z_bnd h
    refine iv_X6_92 hc hI (c_X6_isWithin e5) (z_room (by decide) (by decide)) hl.1 (Nat.le_of_ble_eq_true rfl) ⟨Nat.zero_le _, Nat.zero_le _⟩ dX6_ahead_15 (fun H locs hI => ?_)
    refine lv_if_eq (tgt := 28) hx hb dX6_ahead_18 (by decide) (fun c6 => ?_) (fun c6 => ?_)
    · replace h := z_ift h c6
      refine lv_ldc (v := (-1000001)) hx hb hown (hts _ wd_1_204) dX6_ahead_28 ?_
      obtain rfl := Option.some.inj h
      exact z_ri hc hI dX6_ahead_30
    · replace h := z_iff h c6
      refine lv_iload_n hx hb dX6_ahead_21 rfl (lv_at hl 3 rfl) ?_
      obtain ⟨q7, e8, h⟩ := z_bnd h
      refine iv_X6_192 hc hI (c_X6_isFirstOrSecond e8) (z_room (by decide) (by decide)) hl.1 (Nat.le_of_ble_eq_true rfl) ⟨Nat.zero_le _, Nat.zero_le _⟩ dX6_ahead_22 (fun H locs hI => ?_)
      refine lv_if_ne (tgt := 31) hx hb dX6_ahead_25 (by decide) (fun c9 => ?_) (fun c9 => ?_)
      · replace h := z_iff h c9
        refine lv_aload_n hx hb dX6_ahead_31 rfl (lv_at hl 0 rfl) ?_
        obtain ⟨q10, e11, h⟩ := z_bnd h
        refine iv_X6_195 hc hI (c_X6_seerOfNow e11) (z_room (by decide) (by decide)) hl.1 (Nat.le_of_ble_eq_true rfl) ⟨Nat.zero_le _, Nat.zero_le _⟩ dX6_ahead_32 (fun H locs hI => ?_)
        refine lv_iload_n hx hb dX6_ahead_35 rfl (lv_at hl 1 rfl) ?_
        refine lv_iload_n hx hb dX6_ahead_36 rfl (lv_at hl 2 rfl) ?_
        refine lv_iload_n hx hb dX6_ahead_37 rfl (lv_at hl 3 rfl) ?_
        obtain ⟨q12, e13, h⟩ := z_bnd h
        refine iv_X6_199 hc hI (c_X3_treadIn e13) (z_room (by decide) (by decide)) hl.1 (Nat.le_of_ble_eq_true rfl) ⟨Nat.zero_le _, Nat.zero_le _⟩ dX6_ahead_38 (fun H locs hI => ?_)
        obtain rfl := Option.some.inj h
        exact z_ri hc hI dX6_ahead_41
      · replace h := z_ift h c9
        refine lv_ldc (v := (-1000001)) hx hb hown (hts _ wd_1_204) dX6_ahead_28 ?_
        obtain rfl := Option.some.inj h
        exact z_ri hc hI dX6_ahead_30
set_option maxRecDepth 100000 in
set_option maxHeartbeats 4000000 in
theorem c_X6_length {G : z_G} {l : Launch} {a1 : Int32} {M : z_M} {out : Int32} (h : F_X6_length a1 M = some out) : z_Met G l yX6_length cX6_length 2 (some .int) 4 [.ref (z_ad G 0 0), .int a1] M (some (.int out)) M := by
  unfold F_X6_length at h
  refine z_met_of (by decide) rfl (Nat.le_of_ble_eq_true rfl) (fun p e s m below meth c ls hc hI hl => ?_)
  obtain ⟨⟨hx, hb, hml, hown, hts⟩, hr, hlk⟩ := id hc
  have hl : lv_has ls 2 [(0, .ref (z_ad G 0 0)), (1, .int a1)] := hl
  refine lv_aload_n hx hb dX6_length_0 rfl (lv_at hl 0 rfl) ?_
  refine gf_X6_26 hc hI dX6_length_1 ?_
  refine lv_iload_n hx hb dX6_length_4 rfl (lv_at hl 1 rfl) ?_
  obtain ⟨q1, e2, h⟩ := z_bnd h
  refine iv_X6_173 (by decide) hc hI (c_X5_hasWalker (by decide) e2) (z_room (by decide) (by decide)) hl.1 (Nat.le_of_ble_eq_true rfl) ⟨Nat.zero_le _, Nat.zero_le _⟩ dX6_length_5 (fun H locs hI => ?_)
  refine lv_if_ne (tgt := 14) hx hb dX6_length_8 (by decide) (fun c3 => ?_) (fun c3 => ?_)
  · replace h := z_iff h c3
    refine lv_aload_n hx hb dX6_length_14 rfl (lv_at hl 0 rfl) ?_
    refine gf_X6_26 hc hI dX6_length_15 ?_
    refine lv_iload_n hx hb dX6_length_18 rfl (lv_at hl 1 rfl) ?_
    obtain ⟨q4, e5, h⟩ := z_bnd h
    refine iv_X6_202 (by decide) hc hI (c_X5_longOf (by decide) e5) (z_room (by decide) (by decide)) hl.1 (Nat.le_of_ble_eq_true rfl) ⟨Nat.zero_le _, Nat.zero_le _⟩ dX6_length_19 (fun H locs hI => ?_)
    obtain rfl := Option.some.inj h
    exact z_ri hc hI dX6_length_22
  · replace h := z_ift h c3
    refine lv_ldc (v := (-1000001)) hx hb hown (hts _ wd_1_204) dX6_length_11 ?_
    obtain rfl := Option.some.inj h
    exact z_ri hc hI dX6_length_13
set_option maxRecDepth 100000 in
set_option maxHeartbeats 4000000 in
theorem c_X6_meet {G : z_G} {l : Launch} {a1 : Int32} {a2 : Int32} {M : z_M} {out : (Int32 × z_M)} (h : F_X6_meet a1 a2 M = some out) : z_Met G l yX6_meet cX6_meet 3 (some .int) 5 [.ref (z_ad G 0 0), .int a1, .int a2] M (some (.int out.1)) out.2 := by
  unfold F_X6_meet at h
  refine z_met_of (by decide) rfl (Nat.le_of_ble_eq_true rfl) (fun p e s m below meth c ls hc hI hl => ?_)
  obtain ⟨⟨hx, hb, hml, hown, hts⟩, hr, hlk⟩ := id hc
  have hl : lv_has ls 3 [(0, .ref (z_ad G 0 0)), (1, .int a1), (2, .int a2)] := hl
  refine lv_aload_n hx hb dX6_meet_0 rfl (lv_at hl 0 rfl) ?_
  refine gf_X6_26 hc hI dX6_meet_1 ?_
  refine lv_iload_n hx hb dX6_meet_4 rfl (lv_at hl 1 rfl) ?_
  obtain ⟨q1, e2, h⟩ := z_bnd h
  refine iv_X6_173 (by decide) hc hI (c_X5_hasWalker (by decide) e2) (z_room (by decide) (by decide)) hl.1 (Nat.le_of_ble_eq_true rfl) ⟨Nat.zero_le _, Nat.zero_le _⟩ dX6_meet_5 (fun H locs hI => ?_)
  refine lv_if_eq (tgt := 27) hx hb dX6_meet_8 (by decide) (fun c3 => ?_) (fun c3 => ?_)
  · replace h := z_ift h c3
    refine lv_ldc (v := (-1000001)) hx hb hown (hts _ wd_1_204) dX6_meet_27 ?_
    obtain rfl := Option.some.inj h
    exact z_ri hc hI dX6_meet_29
  · replace h := z_iff h c3
    refine lv_aload_n hx hb dX6_meet_11 rfl (lv_at hl 0 rfl) ?_
    refine gf_X6_26 hc hI dX6_meet_12 ?_
    refine lv_iload_n hx hb dX6_meet_15 rfl (lv_at hl 2 rfl) ?_
    obtain ⟨q4, e5, h⟩ := z_bnd h
    refine iv_X6_173 (by decide) hc hI (c_X5_hasWalker (by decide) e5) (z_room (by decide) (by decide)) hl.1 (Nat.le_of_ble_eq_true rfl) ⟨Nat.zero_le _, Nat.zero_le _⟩ dX6_meet_16 (fun H locs hI => ?_)
    refine lv_if_eq (tgt := 27) hx hb dX6_meet_19 (by decide) (fun c6 => ?_) (fun c6 => ?_)
    · replace h := z_ift h c6
      refine lv_ldc (v := (-1000001)) hx hb hown (hts _ wd_1_204) dX6_meet_27 ?_
      obtain rfl := Option.some.inj h
      exact z_ri hc hI dX6_meet_29
    · replace h := z_iff h c6
      refine lv_iload_n hx hb dX6_meet_22 rfl (lv_at hl 1 rfl) ?_
      refine lv_iload_n hx hb dX6_meet_23 rfl (lv_at hl 2 rfl) ?_
      refine lv_icmp_ne (tgt := 30) hx hb dX6_meet_24 (by decide) (fun c7 => ?_) (fun c7 => ?_)
      · replace h := z_iff h c7
        refine lv_aload_n hx hb dX6_meet_30 rfl (lv_at hl 0 rfl) ?_
        obtain ⟨q8, e9, h⟩ := z_bnd h
        refine iv_X6_195 hc hI (c_X6_seerOfNow e9) (z_room (by decide) (by decide)) hl.1 (Nat.le_of_ble_eq_true rfl) ⟨Nat.zero_le _, Nat.zero_le _⟩ dX6_meet_31 (fun H locs hI => ?_)
        refine lv_iload_n hx hb dX6_meet_34 rfl (lv_at hl 1 rfl) ?_
        refine lv_iload_n hx hb dX6_meet_35 rfl (lv_at hl 2 rfl) ?_
        obtain ⟨q10, e11, h⟩ := z_bnd h
        refine iv_X6_205 hc hI (c_X3_meetingOf e11) (z_room (by decide) (by decide)) hl.1 (Nat.le_of_ble_eq_true rfl) ⟨Nat.zero_le _, Nat.zero_le _⟩ dX6_meet_36 (fun H locs hI => ?_)
        obtain rfl := Option.some.inj h
        exact z_ri hc hI dX6_meet_39
      · replace h := z_ift h c7
        refine lv_ldc (v := (-1000001)) hx hb hown (hts _ wd_1_204) dX6_meet_27 ?_
        obtain rfl := Option.some.inj h
        exact z_ri hc hI dX6_meet_29
set_option maxRecDepth 100000 in
set_option maxHeartbeats 4000000 in
theorem c_X6_choir {G : z_G} {l : Launch} {a1 : Int32} {M : z_M} {out : (Int32 × z_M)} (h : F_X6_choir a1 M = some out) : z_Met G l yX6_choir cX6_choir 2 (some .int) 5 [.ref (z_ad G 0 0), .int a1] M (some (.int out.1)) out.2 := by
  unfold F_X6_choir at h
  refine z_met_of (by decide) rfl (Nat.le_of_ble_eq_true rfl) (fun p e s m below meth c ls hc hI hl => ?_)
  obtain ⟨⟨hx, hb, hml, hown, hts⟩, hr, hlk⟩ := id hc
  have hl : lv_has ls 2 [(0, .ref (z_ad G 0 0)), (1, .int a1)] := hl
  refine lv_aload_n hx hb dX6_choir_0 rfl (lv_at hl 0 rfl) ?_
  refine gf_X6_26 hc hI dX6_choir_1 ?_
  obtain ⟨q1, e2, h⟩ := z_bnd h
  refine iv_X6_125 (by decide) hc hI (c_X5_stands (by decide) e2) (z_room (by decide) (by decide)) hl.1 (Nat.le_of_ble_eq_true rfl) ⟨Nat.zero_le _, Nat.zero_le _⟩ dX6_choir_4 (fun H locs hI => ?_)
  refine lv_if_ne (tgt := 13) hx hb dX6_choir_7 (by decide) (fun c3 => ?_) (fun c3 => ?_)
  · replace h := z_iff h c3
    refine lv_iload_n hx hb dX6_choir_13 rfl (lv_at hl 1 rfl) ?_
    obtain ⟨q4, e5, h⟩ := z_bnd h
    refine iv_X6_192 hc hI (c_X6_isFirstOrSecond e5) (z_room (by decide) (by decide)) hl.1 (Nat.le_of_ble_eq_true rfl) ⟨Nat.zero_le _, Nat.zero_le _⟩ dX6_choir_14 (fun H locs hI => ?_)
    refine lv_if_eq (tgt := 31) hx hb dX6_choir_17 (by decide) (fun c6 => ?_) (fun c6 => ?_)
    · replace h := z_ift h c6
      refine lv_ldc (v := (-1000001)) hx hb hown (hts _ wd_1_204) dX6_choir_31 ?_
      obtain rfl := Option.some.inj h
      exact z_ri hc hI dX6_choir_33
    · replace h := z_iff h c6
      refine lv_aload_n hx hb dX6_choir_20 rfl (lv_at hl 0 rfl) ?_
      obtain ⟨q7, e8, h⟩ := z_bnd h
      refine iv_X6_195 hc hI (c_X6_seerOfNow e8) (z_room (by decide) (by decide)) hl.1 (Nat.le_of_ble_eq_true rfl) ⟨Nat.zero_le _, Nat.zero_le _⟩ dX6_choir_21 (fun H locs hI => ?_)
      refine lv_iload_n hx hb dX6_choir_24 rfl (lv_at hl 1 rfl) ?_
      obtain ⟨q9, e10, h⟩ := z_bnd h
      refine iv_X6_208 hc hI (c_X3_fullestMinute e10) (z_room (by decide) (by decide)) hl.1 (Nat.le_of_ble_eq_true rfl) ⟨Nat.zero_le _, Nat.zero_le _⟩ dX6_choir_25 (fun H locs hI => ?_)
      refine lv_goto (tgt := 33) hx hb dX6_choir_28 (by decide) ?_
      obtain rfl := Option.some.inj h
      exact z_ri hc hI dX6_choir_33
  · replace h := z_ift h c3
    refine lv_ldc (v := (-1000002)) hx hb hown (hts _ wd_2_146) dX6_choir_10 ?_
    obtain rfl := Option.some.inj h
    exact z_ri hc hI dX6_choir_12
set_option maxRecDepth 100000 in
set_option maxHeartbeats 4000000 in
theorem c_X6_twins {G : z_G} {l : Launch} {a1 : Int32} {M : z_M} {out : (Int32 × z_M)} (h : F_X6_twins a1 M = some out) : z_Met G l yX6_twins cX6_twins 2 (some .int) 6 [.ref (z_ad G 0 0), .int a1] M (some (.int out.1)) out.2 := by
  unfold F_X6_twins at h
  refine z_met_of (by decide) rfl (Nat.le_of_ble_eq_true rfl) (fun p e s m below meth c ls hc hI hl => ?_)
  obtain ⟨⟨hx, hb, hml, hown, hts⟩, hr, hlk⟩ := id hc
  have hl : lv_has ls 2 [(0, .ref (z_ad G 0 0)), (1, .int a1)] := hl
  refine lv_aload_n hx hb dX6_twins_0 rfl (lv_at hl 0 rfl) ?_
  refine gf_X6_26 hc hI dX6_twins_1 ?_
  obtain ⟨q1, e2, h⟩ := z_bnd h
  refine iv_X6_125 (by decide) hc hI (c_X5_stands (by decide) e2) (z_room (by decide) (by decide)) hl.1 (Nat.le_of_ble_eq_true rfl) ⟨Nat.zero_le _, Nat.zero_le _⟩ dX6_twins_4 (fun H locs hI => ?_)
  refine lv_if_ne (tgt := 13) hx hb dX6_twins_7 (by decide) (fun c3 => ?_) (fun c3 => ?_)
  · replace h := z_iff h c3
    refine lv_iload_n hx hb dX6_twins_13 rfl (lv_at hl 1 rfl) ?_
    obtain ⟨q4, e5, h⟩ := z_bnd h
    refine iv_X6_192 hc hI (c_X6_isFirstOrSecond e5) (z_room (by decide) (by decide)) hl.1 (Nat.le_of_ble_eq_true rfl) ⟨Nat.zero_le _, Nat.zero_le _⟩ dX6_twins_14 (fun H locs hI => ?_)
    refine lv_if_ne (tgt := 23) hx hb dX6_twins_17 (by decide) (fun c6 => ?_) (fun c6 => ?_)
    · replace h := z_iff h c6
      refine lv_iload_n hx hb dX6_twins_23 rfl (lv_at hl 1 rfl) ?_
      refine lv_if_ne (tgt := 37) hx hb dX6_twins_24 (by decide) (fun c7 => ?_) (fun c7 => ?_)
      · replace h := z_iff h c7
        refine lv_aload_n hx hb dX6_twins_37 rfl (lv_at hl 0 rfl) ?_
        obtain ⟨q8, e9, h⟩ := z_bnd h
        refine iv_X6_195 hc hI (c_X6_seerOfNow e9) (z_room (by decide) (by decide)) hl.1 (Nat.le_of_ble_eq_true rfl) ⟨Nat.zero_le _, Nat.zero_le _⟩ dX6_twins_38 (fun H locs hI => ?_)
        obtain ⟨q10, e11, h⟩ := z_bnd h
        refine iv_X6_214 hc hI (c_X3_firstTwins e11) (z_room (by decide) (by decide)) hl.1 (Nat.le_of_ble_eq_true rfl) ⟨Nat.zero_le _, Nat.zero_le _⟩ dX6_twins_41 (fun H locs hI => ?_)
        obtain rfl := Option.some.inj h
        exact z_ri hc hI dX6_twins_44
      · replace h := z_ift h c7
        refine lv_aload_n hx hb dX6_twins_27 rfl (lv_at hl 0 rfl) ?_
        obtain ⟨q12, e13, h⟩ := z_bnd h
        refine iv_X6_195 hc hI (c_X6_seerOfNow e13) (z_room (by decide) (by decide)) hl.1 (Nat.le_of_ble_eq_true rfl) ⟨Nat.zero_le _, Nat.zero_le _⟩ dX6_twins_28 (fun H locs hI => ?_)
        obtain ⟨q14, e15, h⟩ := z_bnd h
        refine iv_X6_211 hc hI (c_X3_twinCount e15) (z_room (by decide) (by decide)) hl.1 (Nat.le_of_ble_eq_true rfl) ⟨Nat.zero_le _, Nat.zero_le _⟩ dX6_twins_31 (fun H locs hI => ?_)
        refine lv_goto (tgt := 44) hx hb dX6_twins_34 (by decide) ?_
        obtain rfl := Option.some.inj h
        exact z_ri hc hI dX6_twins_44
    · replace h := z_ift h c6
      refine lv_ldc (v := (-1000001)) hx hb hown (hts _ wd_1_204) dX6_twins_20 ?_
      obtain rfl := Option.some.inj h
      exact z_ri hc hI dX6_twins_22
  · replace h := z_ift h c3
    refine lv_ldc (v := (-1000002)) hx hb hown (hts _ wd_2_146) dX6_twins_10 ?_
    obtain rfl := Option.some.inj h
    exact z_ri hc hI dX6_twins_12
set_option maxRecDepth 100000 in
set_option maxHeartbeats 4000000 in
theorem c_X6_felt {G : z_G} {l : Launch} {a1 : Int32} {a2 : Int32} {a3 : Int32} {M : z_M} {out : (Int32 × z_M)} (h : F_X6_felt a1 a2 a3 M = some out) : z_Met G l yX6_felt cX6_felt 4 (some .int) 5 [.ref (z_ad G 0 0), .int a1, .int a2, .int a3] M (some (.int out.1)) out.2 := by
  unfold F_X6_felt at h
  refine z_met_of (by decide) rfl (Nat.le_of_ble_eq_true rfl) (fun p e s m below meth c ls hc hI hl => ?_)
  obtain ⟨⟨hx, hb, hml, hown, hts⟩, hr, hlk⟩ := id hc
  have hl : lv_has ls 4 [(0, .ref (z_ad G 0 0)), (1, .int a1), (2, .int a2), (3, .int a3)] := hl
  refine lv_aload_n hx hb dX6_felt_0 rfl (lv_at hl 0 rfl) ?_
  refine gf_X6_26 hc hI dX6_felt_1 ?_
  refine lv_iload_n hx hb dX6_felt_4 rfl (lv_at hl 1 rfl) ?_
  obtain ⟨q1, e2, h⟩ := z_bnd h
  refine iv_X6_173 (by decide) hc hI (c_X5_hasWalker (by decide) e2) (z_room (by decide) (by decide)) hl.1 (Nat.le_of_ble_eq_true rfl) ⟨Nat.zero_le _, Nat.zero_le _⟩ dX6_felt_5 (fun H locs hI => ?_)
  refine lv_if_eq (tgt := 29) hx hb dX6_felt_8 (by decide) (fun c3 => ?_) (fun c3 => ?_)
  · replace h := z_ift h c3
    refine lv_ldc (v := (-1000001)) hx hb hown (hts _ wd_1_204) dX6_felt_29 ?_
    obtain rfl := Option.some.inj h
    exact z_ri hc hI dX6_felt_31
  · replace h := z_iff h c3
    refine lv_aload_n hx hb dX6_felt_11 rfl (lv_at hl 0 rfl) ?_
    refine gf_X6_26 hc hI dX6_felt_12 ?_
    refine lv_iload_n hx hb dX6_felt_15 rfl (lv_at hl 2 rfl) ?_
    obtain ⟨q4, e5, h⟩ := z_bnd h
    refine iv_X6_143 (by decide) hc hI (c_X5_hasTread (by decide) e5) (z_room (by decide) (by decide)) hl.1 (Nat.le_of_ble_eq_true rfl) ⟨Nat.zero_le _, Nat.zero_le _⟩ dX6_felt_16 (fun H locs hI => ?_)
    refine lv_if_eq (tgt := 29) hx hb dX6_felt_19 (by decide) (fun c6 => ?_) (fun c6 => ?_)
    · replace h := z_ift h c6
      refine lv_ldc (v := (-1000001)) hx hb hown (hts _ wd_1_204) dX6_felt_29 ?_
      obtain rfl := Option.some.inj h
      exact z_ri hc hI dX6_felt_31
    · replace h := z_iff h c6
      refine lv_iload_n hx hb dX6_felt_22 rfl (lv_at hl 3 rfl) ?_
      obtain ⟨q7, e8, h⟩ := z_bnd h
      refine iv_X6_192 hc hI (c_X6_isFirstOrSecond e8) (z_room (by decide) (by decide)) hl.1 (Nat.le_of_ble_eq_true rfl) ⟨Nat.zero_le _, Nat.zero_le _⟩ dX6_felt_23 (fun H locs hI => ?_)
      refine lv_if_ne (tgt := 32) hx hb dX6_felt_26 (by decide) (fun c9 => ?_) (fun c9 => ?_)
      · replace h := z_iff h c9
        refine lv_aload_n hx hb dX6_felt_32 rfl (lv_at hl 0 rfl) ?_
        obtain ⟨q10, e11, h⟩ := z_bnd h
        refine iv_X6_195 hc hI (c_X6_seerOfNow e11) (z_room (by decide) (by decide)) hl.1 (Nat.le_of_ble_eq_true rfl) ⟨Nat.zero_le _, Nat.zero_le _⟩ dX6_felt_33 (fun H locs hI => ?_)
        refine lv_iload_n hx hb dX6_felt_36 rfl (lv_at hl 1 rfl) ?_
        refine lv_iload_n hx hb dX6_felt_37 rfl (lv_at hl 2 rfl) ?_
        refine lv_iload_n hx hb dX6_felt_38 rfl (lv_at hl 3 rfl) ?_
        obtain ⟨q12, e13, h⟩ := z_bnd h
        refine iv_X6_217 hc hI (c_X3_fewestFelts e13) (z_room (by decide) (by decide)) hl.1 (Nat.le_of_ble_eq_true rfl) ⟨Nat.zero_le _, Nat.zero_le _⟩ dX6_felt_39 (fun H locs hI => ?_)
        obtain rfl := Option.some.inj h
        exact z_ri hc hI dX6_felt_42
      · replace h := z_ift h c9
        refine lv_ldc (v := (-1000001)) hx hb hown (hts _ wd_1_204) dX6_felt_29 ?_
        obtain rfl := Option.some.inj h
        exact z_ri hc hI dX6_felt_31
set_option maxRecDepth 100000 in
set_option maxHeartbeats 4000000 in
theorem c_X6_doors {G : z_G} {l : Launch} {a1 : Int32} {M : z_M} {out : (Int32 × z_M)} (h : F_X6_doors a1 M = some out) : z_Met G l yX6_doors cX6_doors 2 (some .int) 6 [.ref (z_ad G 0 0), .int a1] M (some (.int out.1)) out.2 := by
  unfold F_X6_doors at h
  refine z_met_of (by decide) rfl (Nat.le_of_ble_eq_true rfl) (fun p e s m below meth c ls hc hI hl => ?_)
  obtain ⟨⟨hx, hb, hml, hown, hts⟩, hr, hlk⟩ := id hc
  have hl : lv_has ls 2 [(0, .ref (z_ad G 0 0)), (1, .int a1)] := hl
  refine lv_aload_n hx hb dX6_doors_0 rfl (lv_at hl 0 rfl) ?_
  refine gf_X6_26 hc hI dX6_doors_1 ?_
  obtain ⟨q1, e2, h⟩ := z_bnd h
  refine iv_X6_125 (by decide) hc hI (c_X5_stands (by decide) e2) (z_room (by decide) (by decide)) hl.1 (Nat.le_of_ble_eq_true rfl) ⟨Nat.zero_le _, Nat.zero_le _⟩ dX6_doors_4 (fun H locs hI => ?_)
  refine lv_if_ne (tgt := 13) hx hb dX6_doors_7 (by decide) (fun c3 => ?_) (fun c3 => ?_)
  · replace h := z_iff h c3
    refine lv_iload_n hx hb dX6_doors_13 rfl (lv_at hl 1 rfl) ?_
    obtain ⟨q4, e5, h⟩ := z_bnd h
    refine iv_X6_192 hc hI (c_X6_isFirstOrSecond e5) (z_room (by decide) (by decide)) hl.1 (Nat.le_of_ble_eq_true rfl) ⟨Nat.zero_le _, Nat.zero_le _⟩ dX6_doors_14 (fun H locs hI => ?_)
    refine lv_if_eq (tgt := 31) hx hb dX6_doors_17 (by decide) (fun c6 => ?_) (fun c6 => ?_)
    · replace h := z_ift h c6
      refine lv_ldc (v := (-1000001)) hx hb hown (hts _ wd_1_204) dX6_doors_31 ?_
      obtain rfl := Option.some.inj h
      exact z_ri hc hI dX6_doors_33
    · replace h := z_iff h c6
      refine lv_aload_n hx hb dX6_doors_20 rfl (lv_at hl 0 rfl) ?_
      obtain ⟨q7, e8, h⟩ := z_bnd h
      refine iv_X6_195 hc hI (c_X6_seerOfNow e8) (z_room (by decide) (by decide)) hl.1 (Nat.le_of_ble_eq_true rfl) ⟨Nat.zero_le _, Nat.zero_le _⟩ dX6_doors_21 (fun H locs hI => ?_)
      refine lv_iload_n hx hb dX6_doors_24 rfl (lv_at hl 1 rfl) ?_
      obtain ⟨q9, e10, h⟩ := z_bnd h
      refine iv_X6_220 hc hI (c_X3_fewestDoors e10) (z_room (by decide) (by decide)) hl.1 (Nat.le_of_ble_eq_true rfl) ⟨Nat.zero_le _, Nat.zero_le _⟩ dX6_doors_25 (fun H locs hI => ?_)
      refine lv_goto (tgt := 33) hx hb dX6_doors_28 (by decide) ?_
      obtain rfl := Option.some.inj h
      exact z_ri hc hI dX6_doors_33
  · replace h := z_ift h c3
    refine lv_ldc (v := (-1000002)) hx hb hown (hts _ wd_2_146) dX6_doors_10 ?_
    obtain rfl := Option.some.inj h
    exact z_ri hc hI dX6_doors_12
set_option maxRecDepth 100000 in
set_option maxHeartbeats 4000000 in
theorem c_X6_planed {G : z_G} {l : Launch} {a1 : Int32} {M : z_M} {out : (Int32 × z_M)} (h : F_X6_planed a1 M = some out) : z_Met G l yX6_planed cX6_planed 2 (some .int) 7 [.ref (z_ad G 0 0), .int a1] M (some (.int out.1)) out.2 := by
  unfold F_X6_planed at h
  refine z_met_of (by decide) rfl (Nat.le_of_ble_eq_true rfl) (fun p e s m below meth c ls hc hI hl => ?_)
  obtain ⟨⟨hx, hb, hml, hown, hts⟩, hr, hlk⟩ := id hc
  have hl : lv_has ls 2 [(0, .ref (z_ad G 0 0)), (1, .int a1)] := hl
  refine lv_aload_n hx hb dX6_planed_0 rfl (lv_at hl 0 rfl) ?_
  refine gf_X6_26 hc hI dX6_planed_1 ?_
  obtain ⟨q1, e2, h⟩ := z_bnd h
  refine iv_X6_125 (by decide) hc hI (c_X5_stands (by decide) e2) (z_room (by decide) (by decide)) hl.1 (Nat.le_of_ble_eq_true rfl) ⟨Nat.zero_le _, Nat.zero_le _⟩ dX6_planed_4 (fun H locs hI => ?_)
  refine lv_if_ne (tgt := 13) hx hb dX6_planed_7 (by decide) (fun c3 => ?_) (fun c3 => ?_)
  · replace h := z_iff h c3
    refine lv_iload_n hx hb dX6_planed_13 rfl (lv_at hl 1 rfl) ?_
    obtain ⟨q4, e5, h⟩ := z_bnd h
    refine iv_X6_192 hc hI (c_X6_isFirstOrSecond e5) (z_room (by decide) (by decide)) hl.1 (Nat.le_of_ble_eq_true rfl) ⟨Nat.zero_le _, Nat.zero_le _⟩ dX6_planed_14 (fun H locs hI => ?_)
    refine lv_if_eq (tgt := 31) hx hb dX6_planed_17 (by decide) (fun c6 => ?_) (fun c6 => ?_)
    · replace h := z_ift h c6
      refine lv_ldc (v := (-1000001)) hx hb hown (hts _ wd_1_204) dX6_planed_31 ?_
      obtain rfl := Option.some.inj h
      exact z_ri hc hI dX6_planed_33
    · replace h := z_iff h c6
      refine lv_aload_n hx hb dX6_planed_20 rfl (lv_at hl 0 rfl) ?_
      obtain ⟨q7, e8, h⟩ := z_bnd h
      refine iv_X6_195 hc hI (c_X6_seerOfNow e8) (z_room (by decide) (by decide)) hl.1 (Nat.le_of_ble_eq_true rfl) ⟨Nat.zero_le _, Nat.zero_le _⟩ dX6_planed_21 (fun H locs hI => ?_)
      refine lv_iload_n hx hb dX6_planed_24 rfl (lv_at hl 1 rfl) ?_
      obtain ⟨q9, e10, h⟩ := z_bnd h
      refine iv_X6_223 hc hI (c_X3_bestPlaning e10) (z_room (by decide) (by decide)) hl.1 (Nat.le_of_ble_eq_true rfl) ⟨Nat.zero_le _, Nat.zero_le _⟩ dX6_planed_25 (fun H locs hI => ?_)
      refine lv_goto (tgt := 33) hx hb dX6_planed_28 (by decide) ?_
      obtain rfl := Option.some.inj h
      exact z_ri hc hI dX6_planed_33
  · replace h := z_ift h c3
    refine lv_ldc (v := (-1000002)) hx hb hown (hts _ wd_2_146) dX6_planed_10 ?_
    obtain rfl := Option.some.inj h
    exact z_ri hc hI dX6_planed_12
set_option maxRecDepth 100000 in
set_option maxHeartbeats 4000000 in
theorem c_X6_rise {G : z_G} {l : Launch} {a1 : Int32} {a2 : Int32} {a3 : Int32} {a4 : Int32} {M : z_M} {out : (Int32 × z_M)} (h : F_X6_rise a1 a2 a3 a4 M = some out) : z_Met G l yX6_rise cX6_rise 5 (some .int) 7 [.ref (z_ad G 0 0), .int a1, .int a2, .int a3, .int a4] M (some (.int out.1)) out.2 := by
  unfold F_X6_rise at h
  refine z_met_of (by decide) rfl (Nat.le_of_ble_eq_true rfl) (fun p e s m below meth c ls hc hI hl => ?_)
  obtain ⟨⟨hx, hb, hml, hown, hts⟩, hr, hlk⟩ := id hc
  have hl : lv_has ls 5 [(0, .ref (z_ad G 0 0)), (1, .int a1), (2, .int a2), (3, .int a3), (4, .int a4)] := hl
  refine lv_aload_n hx hb dX6_rise_0 rfl (lv_at hl 0 rfl) ?_
  refine gf_X6_26 hc hI dX6_rise_1 ?_
  refine lv_iload_n hx hb dX6_rise_4 rfl (lv_at hl 1 rfl) ?_
  obtain ⟨q1, e2, h⟩ := z_bnd h
  refine iv_X6_173 (by decide) hc hI (c_X5_hasWalker (by decide) e2) (z_room (by decide) (by decide)) hl.1 (Nat.le_of_ble_eq_true rfl) ⟨Nat.zero_le _, Nat.zero_le _⟩ dX6_rise_5 (fun H locs hI => ?_)
  refine lv_if_eq (tgt := 40) hx hb dX6_rise_8 (by decide) (fun c3 => ?_) (fun c3 => ?_)
  · replace h := z_ift h c3
    refine lv_ldc (v := (-1000001)) hx hb hown (hts _ wd_1_204) dX6_rise_40 ?_
    obtain rfl := Option.some.inj h
    exact z_ri hc hI dX6_rise_42
  · replace h := z_iff h c3
    refine lv_aload_n hx hb dX6_rise_11 rfl (lv_at hl 0 rfl) ?_
    refine gf_X6_26 hc hI dX6_rise_12 ?_
    refine lv_iload_n hx hb dX6_rise_15 rfl (lv_at hl 2 rfl) ?_
    obtain ⟨q4, e5, h⟩ := z_bnd h
    refine iv_X6_143 (by decide) hc hI (c_X5_hasTread (by decide) e5) (z_room (by decide) (by decide)) hl.1 (Nat.le_of_ble_eq_true rfl) ⟨Nat.zero_le _, Nat.zero_le _⟩ dX6_rise_16 (fun H locs hI => ?_)
    refine lv_if_eq (tgt := 40) hx hb dX6_rise_19 (by decide) (fun c6 => ?_) (fun c6 => ?_)
    · replace h := z_ift h c6
      refine lv_ldc (v := (-1000001)) hx hb hown (hts _ wd_1_204) dX6_rise_40 ?_
      obtain rfl := Option.some.inj h
      exact z_ri hc hI dX6_rise_42
    · replace h := z_iff h c6
      refine lv_iload_n hx hb dX6_rise_22 rfl (lv_at hl 3 rfl) ?_
      refine lv_iconst (v := 1) hx hb dX6_rise_23 (by decide) ?_
      refine lv_bipush (v := 9) hx hb dX6_rise_24 (by decide) ?_
      obtain ⟨q7, e8, h⟩ := z_bnd h
      refine iv_X6_92 hc hI (c_X6_isWithin e8) (z_room (by decide) (by decide)) hl.1 (Nat.le_of_ble_eq_true rfl) ⟨Nat.zero_le _, Nat.zero_le _⟩ dX6_rise_26 (fun H locs hI => ?_)
      refine lv_if_eq (tgt := 40) hx hb dX6_rise_29 (by decide) (fun c9 => ?_) (fun c9 => ?_)
      · replace h := z_ift h c9
        refine lv_ldc (v := (-1000001)) hx hb hown (hts _ wd_1_204) dX6_rise_40 ?_
        obtain rfl := Option.some.inj h
        exact z_ri hc hI dX6_rise_42
      · replace h := z_iff h c9
        refine lv_iload hx hb dX6_rise_32 (lv_at hl 4 rfl) ?_
        obtain ⟨q10, e11, h⟩ := z_bnd h
        refine iv_X6_192 hc hI (c_X6_isFirstOrSecond e11) (z_room (by decide) (by decide)) hl.1 (Nat.le_of_ble_eq_true rfl) ⟨Nat.zero_le _, Nat.zero_le _⟩ dX6_rise_34 (fun H locs hI => ?_)
        refine lv_if_ne (tgt := 43) hx hb dX6_rise_37 (by decide) (fun c12 => ?_) (fun c12 => ?_)
        · replace h := z_iff h c12
          refine lv_aload_n hx hb dX6_rise_43 rfl (lv_at hl 0 rfl) ?_
          obtain ⟨q13, e14, h⟩ := z_bnd h
          refine iv_X6_195 hc hI (c_X6_seerOfNow e14) (z_room (by decide) (by decide)) hl.1 (Nat.le_of_ble_eq_true rfl) ⟨Nat.zero_le _, Nat.zero_le _⟩ dX6_rise_44 (fun H locs hI => ?_)
          refine lv_iload_n hx hb dX6_rise_47 rfl (lv_at hl 1 rfl) ?_
          refine lv_iload_n hx hb dX6_rise_48 rfl (lv_at hl 2 rfl) ?_
          refine lv_iload_n hx hb dX6_rise_49 rfl (lv_at hl 3 rfl) ?_
          refine lv_iload hx hb dX6_rise_50 (lv_at hl 4 rfl) ?_
          obtain ⟨q15, e16, h⟩ := z_bnd h
          refine iv_X6_226 hc hI (c_X3_risesOf e16) (z_room (by decide) (by decide)) hl.1 (Nat.le_of_ble_eq_true rfl) ⟨Nat.zero_le _, Nat.zero_le _⟩ dX6_rise_52 (fun H locs hI => ?_)
          obtain rfl := Option.some.inj h
          exact z_ri hc hI dX6_rise_55
        · replace h := z_ift h c12
          refine lv_ldc (v := (-1000001)) hx hb hown (hts _ wd_1_204) dX6_rise_40 ?_
          obtain rfl := Option.some.inj h
          exact z_ri hc hI dX6_rise_42
set_option maxRecDepth 100000 in
set_option maxHeartbeats 4000000 in
theorem c_X6_isTelling {G : z_G} {l : Launch} {a1 : Int32} {a2 : Int32} {a3 : Int32} {a4 : Int32} {M : z_M} {out : Int32} (h : F_X6_isTelling a1 a2 a3 a4 M = some out) : z_Met G l yX6_isTelling cX6_isTelling 5 (some .boolean) 3 [.ref (z_ad G 0 0), .int a1, .int a2, .int a3, .int a4] M (some (.int out)) M := by
  unfold F_X6_isTelling at h
  refine z_met_of (by decide) rfl (Nat.le_of_ble_eq_true rfl) (fun p e s m below meth c ls hc hI hl => ?_)
  obtain ⟨⟨hx, hb, hml, hown, hts⟩, hr, hlk⟩ := id hc
  have hl : lv_has ls 5 [(0, .ref (z_ad G 0 0)), (1, .int a1), (2, .int a2), (3, .int a3), (4, .int a4)] := hl
  refine lv_aload_n hx hb dX6_isTelling_0 rfl (lv_at hl 0 rfl) ?_
  refine gf_X6_26 hc hI dX6_isTelling_1 ?_
  refine lv_iload_n hx hb dX6_isTelling_4 rfl (lv_at hl 1 rfl) ?_
  obtain ⟨q1, e2, h⟩ := z_bnd h
  refine iv_X6_143 (by decide) hc hI (c_X5_hasTread (by decide) e2) (z_room (by decide) (by decide)) hl.1 (Nat.le_of_ble_eq_true rfl) ⟨Nat.zero_le _, Nat.zero_le _⟩ dX6_isTelling_5 (fun H locs hI => ?_)
  refine lv_if_eq (tgt := 44) hx hb dX6_isTelling_8 (by decide) (fun c3 => ?_) (fun c3 => ?_)
  · replace h := z_ift h c3
    refine lv_iconst (v := 0) hx hb dX6_isTelling_44 (by decide) ?_
    obtain rfl := Option.some.inj h
    exact z_rz (x := 0) hc hI (by decide) dX6_isTelling_45
  · replace h := z_iff h c3
    refine lv_iload_n hx hb dX6_isTelling_11 rfl (lv_at hl 2 rfl) ?_
    obtain ⟨q4, e5, h⟩ := z_bnd h
    refine iv_X6_183 hc hI (c_X6_isMinute e5) (z_room (by decide) (by decide)) hl.1 (Nat.le_of_ble_eq_true rfl) ⟨Nat.zero_le _, Nat.zero_le _⟩ dX6_isTelling_12 (fun H locs hI => ?_)
    refine lv_if_eq (tgt := 44) hx hb dX6_isTelling_15 (by decide) (fun c6 => ?_) (fun c6 => ?_)
    · replace h := z_ift h c6
      refine lv_iconst (v := 0) hx hb dX6_isTelling_44 (by decide) ?_
      obtain rfl := Option.some.inj h
      exact z_rz (x := 0) hc hI (by decide) dX6_isTelling_45
    · replace h := z_iff h c6
      refine lv_aload_n hx hb dX6_isTelling_18 rfl (lv_at hl 0 rfl) ?_
      refine gf_X6_10 hc hI dX6_isTelling_19 ?_
      refine lv_iload_n hx hb dX6_isTelling_22 rfl (lv_at hl 3 rfl) ?_
      obtain ⟨q7, e8, h⟩ := z_bnd h
      refine iv_X6_59 hc hI (c_X4_isRow e8) (z_room (by decide) (by decide)) hl.1 (Nat.le_of_ble_eq_true rfl) ⟨Nat.zero_le _, Nat.zero_le _⟩ dX6_isTelling_23 (fun H locs hI => ?_)
      refine lv_if_eq (tgt := 44) hx hb dX6_isTelling_26 (by decide) (fun c9 => ?_) (fun c9 => ?_)
      · replace h := z_ift h c9
        refine lv_iconst (v := 0) hx hb dX6_isTelling_44 (by decide) ?_
        obtain rfl := Option.some.inj h
        exact z_rz (x := 0) hc hI (by decide) dX6_isTelling_45
      · replace h := z_iff h c9
        refine lv_iload hx hb dX6_isTelling_29 (lv_at hl 4 rfl) ?_
        refine lv_iconst (v := 1) hx hb dX6_isTelling_31 (by decide) ?_
        refine lv_bipush (v := 12) hx hb dX6_isTelling_32 (by decide) ?_
        obtain ⟨q10, e11, h⟩ := z_bnd h
        refine iv_X6_92 hc hI (c_X6_isWithin e11) (z_room (by decide) (by decide)) hl.1 (Nat.le_of_ble_eq_true rfl) ⟨Nat.zero_le _, Nat.zero_le _⟩ dX6_isTelling_34 (fun H locs hI => ?_)
        refine lv_if_eq (tgt := 44) hx hb dX6_isTelling_37 (by decide) (fun c12 => ?_) (fun c12 => ?_)
        · replace h := z_ift h c12
          refine lv_iconst (v := 0) hx hb dX6_isTelling_44 (by decide) ?_
          obtain rfl := Option.some.inj h
          exact z_rz (x := 0) hc hI (by decide) dX6_isTelling_45
        · replace h := z_iff h c12
          refine lv_iconst (v := 1) hx hb dX6_isTelling_40 (by decide) ?_
          refine lv_goto (tgt := 45) hx hb dX6_isTelling_41 (by decide) ?_
          obtain rfl := Option.some.inj h
          exact z_rz (x := 1) hc hI (by decide) dX6_isTelling_45
set_option maxRecDepth 100000 in
set_option maxHeartbeats 4000000 in
theorem w_X6_seerOfRow_b14 (hc : z_C p s m args meth c RX6 cX6_seerOfRow 5 (some (.object "StairTunes$Seer"))) {out : z_M} : ∀ (n : Nat) (v1 : Int32) (v2 : Int32) (v3 : Int32) (v4 : Int32) (M : z_M) (H : Heap) (locs : List Loc) (ls : Array Slot) (h : F_X6_seerOfRow_b14 n v1 v2 v3 v4 M = some out) (hI : z_I G s M H locs) (hl : lv_has ls 5 [(0, .ref (z_ad G 0 0)), (1, .int v1), (2, .int v2), (3, .int v3), (4, .int v4)]), W p l e (z_rm 5) s m args below meth c H locs 0 0 (MQ below (z_Q G (some (.ref (z_ad G 15 0))) out) args s 0 0 (z_A G)) (F0 m 14 ls []) := by
  obtain ⟨⟨hx, hb, hml, hown, hts⟩, hr, hlk⟩ := id hc
  intro n
  induction n with
  | zero => intro v1 v2 v3 v4 M H locs ls h; cases h
  | succ n ih =>
    intro v1 v2 v3 v4 M H locs ls h hI hl
    rw [F_X6_seerOfRow_b14] at h
    refine lv_iload hx hb dX6_seerOfRow_14 (lv_at hl 4 rfl) ?_
    refine lv_iload_n hx hb dX6_seerOfRow_16 rfl (lv_at hl 3 rfl) ?_
    refine lv_icmp_ge (tgt := 45) hx hb dX6_seerOfRow_17 (by decide) (fun c3 => ?_) (fun c3 => ?_)
    · replace h := z_ift h c3
      refine lv_aload_n hx hb dX6_seerOfRow_45 rfl (lv_at hl 0 rfl) ?_
      refine gf_X6_44 hc hI dX6_seerOfRow_46 ?_
      obtain rfl := Option.some.inj h
      exact z_ra hc hI (Or.inr ⟨_, rfl⟩) dX6_seerOfRow_49
    · replace h := z_iff h c3
      refine lv_aload_n hx hb dX6_seerOfRow_20 rfl (lv_at hl 0 rfl) ?_
      refine gf_X6_44 hc hI dX6_seerOfRow_21 ?_
      refine lv_aload_n hx hb dX6_seerOfRow_24 rfl (lv_at hl 0 rfl) ?_
      refine gf_X6_10 hc hI dX6_seerOfRow_25 ?_
      refine lv_iload_n hx hb dX6_seerOfRow_28 rfl (lv_at hl 1 rfl) ?_
      refine lv_iload_n hx hb dX6_seerOfRow_29 rfl (lv_at hl 2 rfl) ?_
      refine lv_iload hx hb dX6_seerOfRow_30 (lv_at hl 4 rfl) ?_
      refine lv_iadd hx hb dX6_seerOfRow_32 ?_
      obtain ⟨q4, e5, h⟩ := z_bnd h
      refine iv_X6_295 hc hI (c_X4_itemAt e5) (z_room (by decide) (by decide)) hl.1 (Nat.le_of_ble_eq_true rfl) ⟨Nat.zero_le _, Nat.zero_le _⟩ dX6_seerOfRow_33 (fun H locs hI => ?_)
      obtain ⟨q6, e7, h⟩ := z_bnd h
      refine iv_X6_298 hc hI (c_X3_hearFrom e7) (z_room (by decide) (by decide)) hl.1 (Nat.le_of_ble_eq_true rfl) ⟨Nat.zero_le _, Nat.zero_le _⟩ dX6_seerOfRow_36 (fun H locs hI => ?_)
      refine lv_iinc (v := v4 + 1) (lv' := [(4, .int (v4 + 1)), (0, .ref (z_ad G 0 0)), (1, .int v1), (2, .int v2), (3, .int v3)]) hx hb dX6_seerOfRow_39 hl (k := 4) rfl rfl (by decide) rfl (fun ls hl => ?_)
      refine lv_goto (tgt := 14) hx hb dX6_seerOfRow_42 (by decide) ?_
      exact ih v1 v2 v3 (v4 + 1) _ _ _ _ h hI (lv_sub hl [1, 2, 3, 4, 0] rfl)
set_option maxRecDepth 100000 in
set_option maxHeartbeats 4000000 in
theorem c_X6_seerOfRow {G : z_G} {l : Launch} {a1 : Int32} {a2 : Int32} {a3 : Int32} {M : z_M} {out : z_M} (h : F_X6_seerOfRow a1 a2 a3 M = some out) : z_Met G l yX6_seerOfRow cX6_seerOfRow 5 (some (.object "StairTunes$Seer")) 5 [.ref (z_ad G 0 0), .int a1, .int a2, .int a3] M (some (.ref (z_ad G 15 0))) out := by
  unfold F_X6_seerOfRow at h
  refine z_met_of (by decide) rfl (Nat.le_of_ble_eq_true rfl) (fun p e s m below meth c ls hc hI hl => ?_)
  obtain ⟨⟨hx, hb, hml, hown, hts⟩, hr, hlk⟩ := id hc
  have hl : lv_has ls 5 [(0, .ref (z_ad G 0 0)), (1, .int a1), (2, .int a2), (3, .int a3)] := hl
  refine lv_aload_n hx hb dX6_seerOfRow_0 rfl (lv_at hl 0 rfl) ?_
  refine gf_X6_44 hc hI dX6_seerOfRow_1 ?_
  refine lv_aload_n hx hb dX6_seerOfRow_4 rfl (lv_at hl 0 rfl) ?_
  refine gf_X6_26 hc hI dX6_seerOfRow_5 ?_
  obtain ⟨q1, e2, h⟩ := z_bnd h
  refine iv_X6_292 hc hI (c_X3_lookAt e2) (z_room (by decide) (by decide)) hl.1 (Nat.le_of_ble_eq_true rfl) ⟨Nat.zero_le _, Nat.zero_le _⟩ dX6_seerOfRow_8 (fun H locs hI => ?_)
  refine lv_iconst (v := 0) hx hb dX6_seerOfRow_11 (by decide) ?_
  refine lv_istore (lv' := [(4, .int 0), (0, .ref (z_ad G 0 0)), (1, .int a1), (2, .int a2), (3, .int a3)]) hx hb dX6_seerOfRow_12 hl (by decide) rfl (fun ls hl => ?_)
  exact w_X6_seerOfRow_b14 hc _ a1 a2 a3 0 _ _ _ _ h hI (lv_sub hl [1, 2, 3, 4, 0] rfl)
set_option maxRecDepth 100000 in
set_option maxHeartbeats 4000000 in
theorem c_X6_what {G : z_G} {l : Launch} {a1 : Int32} {a2 : Int32} {a3 : Int32} {a4 : Int32} {a5 : Int32} {a6 : Int32} {a7 : Int32} {M : z_M} {out : (Int32 × z_M)} (h : F_X6_what a1 a2 a3 a4 a5 a6 a7 M = some out) : z_Met G l yX6_what cX6_what 9 (some .int) 7 [.ref (z_ad G 0 0), .int a1, .int a2, .int a3, .int a4, .int a5, .int a6, .int a7] M (some (.int out.1)) out.2 := by
  unfold F_X6_what at h
  refine z_met_of (by decide) rfl (Nat.le_of_ble_eq_true rfl) (fun p e s m below meth c ls hc hI hl => ?_)
  obtain ⟨⟨hx, hb, hml, hown, hts⟩, hr, hlk⟩ := id hc
  have hl : lv_has ls 9 [(0, .ref (z_ad G 0 0)), (1, .int a1), (2, .int a2), (3, .int a3), (4, .int a4), (5, .int a5), (6, .int a6), (7, .int a7)] := hl
  refine lv_aload_n hx hb dX6_what_0 rfl (lv_at hl 0 rfl) ?_
  refine gf_X6_26 hc hI dX6_what_1 ?_
  refine lv_iload_n hx hb dX6_what_4 rfl (lv_at hl 1 rfl) ?_
  obtain ⟨q1, e2, h⟩ := z_bnd h
  refine iv_X6_143 (by decide) hc hI (c_X5_hasTread (by decide) e2) (z_room (by decide) (by decide)) hl.1 (Nat.le_of_ble_eq_true rfl) ⟨Nat.zero_le _, Nat.zero_le _⟩ dX6_what_5 (fun H locs hI => ?_)
  refine lv_if_eq (tgt := 34) hx hb dX6_what_8 (by decide) (fun c3 => ?_) (fun c3 => ?_)
  · replace h := z_ift h c3
    refine lv_ldc (v := (-1000001)) hx hb hown (hts _ wd_1_204) dX6_what_34 ?_
    obtain rfl := Option.some.inj h
    exact z_ri hc hI dX6_what_36
  · replace h := z_iff h c3
    refine lv_iload_n hx hb dX6_what_11 rfl (lv_at hl 2 rfl) ?_
    refine lv_iconst (v := 0) hx hb dX6_what_12 (by decide) ?_
    refine lv_iconst (v := 1) hx hb dX6_what_13 (by decide) ?_
    obtain ⟨q4, e5, h⟩ := z_bnd h
    refine iv_X6_92 hc hI (c_X6_isWithin e5) (z_room (by decide) (by decide)) hl.1 (Nat.le_of_ble_eq_true rfl) ⟨Nat.zero_le _, Nat.zero_le _⟩ dX6_what_14 (fun H locs hI => ?_)
    refine lv_if_eq (tgt := 34) hx hb dX6_what_17 (by decide) (fun c6 => ?_) (fun c6 => ?_)
    · replace h := z_ift h c6
      refine lv_ldc (v := (-1000001)) hx hb hown (hts _ wd_1_204) dX6_what_34 ?_
      obtain rfl := Option.some.inj h
      exact z_ri hc hI dX6_what_36
    · replace h := z_iff h c6
      refine lv_aload_n hx hb dX6_what_20 rfl (lv_at hl 0 rfl) ?_
      refine lv_iload_n hx hb dX6_what_21 rfl (lv_at hl 3 rfl) ?_
      refine lv_iload hx hb dX6_what_22 (lv_at hl 4 rfl) ?_
      refine lv_iload hx hb dX6_what_24 (lv_at hl 5 rfl) ?_
      refine lv_iload hx hb dX6_what_26 (lv_at hl 7 rfl) ?_
      obtain ⟨q7, e8, h⟩ := z_bnd h
      refine iv_X6_229 hc hI (c_X6_isTelling e8) (z_room (by decide) (by decide)) hl.1 (Nat.le_of_ble_eq_true rfl) ⟨Nat.zero_le _, Nat.zero_le _⟩ dX6_what_28 (fun H locs hI => ?_)
      refine lv_if_ne (tgt := 37) hx hb dX6_what_31 (by decide) (fun c9 => ?_) (fun c9 => ?_)
      · replace h := z_iff h c9
        refine lv_aload_n hx hb dX6_what_37 rfl (lv_at hl 0 rfl) ?_
        refine lv_aload_n hx hb dX6_what_38 rfl (lv_at hl 0 rfl) ?_
        refine gf_X6_10 hc hI dX6_what_39 ?_
        refine lv_iload hx hb dX6_what_42 (lv_at hl 5 rfl) ?_
        refine lv_iload hx hb dX6_what_44 (lv_at hl 6 rfl) ?_
        refine lv_iload hx hb dX6_what_46 (lv_at hl 7 rfl) ?_
        obtain ⟨q10, e11, h⟩ := z_bnd h
        refine iv_X6_72 hc hI (c_X4_findingOf e11) (z_room (by decide) (by decide)) hl.1 (Nat.le_of_ble_eq_true rfl) ⟨Nat.zero_le _, Nat.zero_le _⟩ dX6_what_48 (fun H locs hI => ?_)
        refine pf_X6_55 hc hI dX6_what_51 (fun H locs hI => ?_)
        refine lv_aload_n hx hb dX6_what_54 rfl (lv_at hl 0 rfl) ?_
        obtain ⟨M12, h, hI⟩ := z_nM h hI
        refine gf_X6_55 hc hI dX6_what_55 ?_
        refine lv_if_eq (tgt := 69) hx hb dX6_what_58 (by decide) (fun c13 => ?_) (fun c13 => ?_)
        · replace h := z_ift h c13
          refine lv_aload_n hx hb dX6_what_69 rfl (lv_at hl 0 rfl) ?_
          refine lv_iload hx hb dX6_what_70 (lv_at hl 5 rfl) ?_
          refine lv_iload hx hb dX6_what_72 (lv_at hl 6 rfl) ?_
          refine lv_iload hx hb dX6_what_74 (lv_at hl 7 rfl) ?_
          obtain ⟨q14, e15, h⟩ := z_bnd h
          refine iv_X6_233 hc hI (c_X6_seerOfRow e15) (z_room (by decide) (by decide)) hl.1 (Nat.le_of_ble_eq_true rfl) ⟨Nat.zero_le _, Nat.zero_le _⟩ dX6_what_76 (fun H locs hI => ?_)
          refine lv_astore (lv' := [(8, .ref (z_ad G 15 0)), (0, .ref (z_ad G 0 0)), (1, .int a1), (2, .int a2), (3, .int a3), (4, .int a4), (5, .int a5), (6, .int a6), (7, .int a7)]) hx hb dX6_what_79 hl (by decide) rfl (fun ls hl => ?_)
          refine lv_iload_n hx hb dX6_what_81 rfl (lv_at hl 3 rfl) ?_
          refine lv_if_ne (tgt := 97) hx hb dX6_what_82 (by decide) (fun c16 => ?_) (fun c16 => ?_)
          · replace h := z_iff h c16
            refine lv_aload hx hb dX6_what_97 (lv_at hl 0 rfl) ?_
            refine lv_iload_n hx hb dX6_what_99 rfl (lv_at hl 2 rfl) ?_
            refine lv_iload_n hx hb dX6_what_100 rfl (lv_at hl 4 rfl) ?_
            refine lv_iload hx hb dX6_what_101 (lv_at hl 5 rfl) ?_
            obtain ⟨q17, e18, h⟩ := z_bnd h
            refine iv_X6_240 hc hI (c_X3_notesBy e18) (z_room (by decide) (by decide)) hl.1 (Nat.le_of_ble_eq_true rfl) ⟨Nat.zero_le _, Nat.zero_le _⟩ dX6_what_103 (fun H locs hI => ?_)
            obtain rfl := Option.some.inj h
            exact z_ri hc hI dX6_what_106
          · replace h := z_ift h c16
            refine lv_aload hx hb dX6_what_85 (lv_at hl 0 rfl) ?_
            refine lv_iload_n hx hb dX6_what_87 rfl (lv_at hl 2 rfl) ?_
            refine lv_iload_n hx hb dX6_what_88 rfl (lv_at hl 4 rfl) ?_
            refine lv_iload hx hb dX6_what_89 (lv_at hl 5 rfl) ?_
            obtain ⟨q19, e20, h⟩ := z_bnd h
            refine iv_X6_237 hc hI (c_X3_kindsBy e20) (z_room (by decide) (by decide)) hl.1 (Nat.le_of_ble_eq_true rfl) ⟨Nat.zero_le _, Nat.zero_le _⟩ dX6_what_91 (fun H locs hI => ?_)
            refine lv_goto (tgt := 106) hx hb dX6_what_94 (by decide) ?_
            obtain rfl := Option.some.inj h
            exact z_ri hc hI dX6_what_106
        · replace h := z_iff h c13
          refine lv_ldc (v := (-1000010)) hx hb hown (hts _ wd_1_205) dX6_what_61 ?_
          refine lv_aload_n hx hb dX6_what_63 rfl (lv_at hl 0 rfl) ?_
          refine gf_X6_55 hc hI dX6_what_64 ?_
          refine lv_isub hx hb dX6_what_67 ?_
          obtain rfl := Option.some.inj h
          exact z_ri hc hI dX6_what_68
      · replace h := z_ift h c9
        refine lv_ldc (v := (-1000001)) hx hb hown (hts _ wd_1_204) dX6_what_34 ?_
        obtain rfl := Option.some.inj h
        exact z_ri hc hI dX6_what_36
set_option maxRecDepth 100000 in
set_option maxHeartbeats 4000000 in
theorem c_X6_who {G : z_G} {l : Launch} {a1 : Int32} {a2 : Int32} {a3 : Int32} {a4 : Int32} {a5 : Int32} {a6 : Int32} {a7 : Int32} {M : z_M} {out : (Int32 × z_M)} (h : F_X6_who a1 a2 a3 a4 a5 a6 a7 M = some out) : z_Met G l yX6_who cX6_who 8 (some .int) 7 [.ref (z_ad G 0 0), .int a1, .int a2, .int a3, .int a4, .int a5, .int a6, .int a7] M (some (.int out.1)) out.2 := by
  unfold F_X6_who at h
  refine z_met_of (by decide) rfl (Nat.le_of_ble_eq_true rfl) (fun p e s m below meth c ls hc hI hl => ?_)
  obtain ⟨⟨hx, hb, hml, hown, hts⟩, hr, hlk⟩ := id hc
  have hl : lv_has ls 8 [(0, .ref (z_ad G 0 0)), (1, .int a1), (2, .int a2), (3, .int a3), (4, .int a4), (5, .int a5), (6, .int a6), (7, .int a7)] := hl
  refine lv_aload_n hx hb dX6_who_0 rfl (lv_at hl 0 rfl) ?_
  refine gf_X6_26 hc hI dX6_who_1 ?_
  refine lv_iload_n hx hb dX6_who_4 rfl (lv_at hl 1 rfl) ?_
  obtain ⟨q1, e2, h⟩ := z_bnd h
  refine iv_X6_173 (by decide) hc hI (c_X5_hasWalker (by decide) e2) (z_room (by decide) (by decide)) hl.1 (Nat.le_of_ble_eq_true rfl) ⟨Nat.zero_le _, Nat.zero_le _⟩ dX6_who_5 (fun H locs hI => ?_)
  refine lv_if_eq (tgt := 34) hx hb dX6_who_8 (by decide) (fun c3 => ?_) (fun c3 => ?_)
  · replace h := z_ift h c3
    refine lv_ldc (v := (-1000001)) hx hb hown (hts _ wd_1_204) dX6_who_34 ?_
    obtain rfl := Option.some.inj h
    exact z_ri hc hI dX6_who_36
  · replace h := z_iff h c3
    refine lv_iload_n hx hb dX6_who_11 rfl (lv_at hl 2 rfl) ?_
    refine lv_iconst (v := 0) hx hb dX6_who_12 (by decide) ?_
    refine lv_iconst (v := 3) hx hb dX6_who_13 (by decide) ?_
    obtain ⟨q4, e5, h⟩ := z_bnd h
    refine iv_X6_92 hc hI (c_X6_isWithin e5) (z_room (by decide) (by decide)) hl.1 (Nat.le_of_ble_eq_true rfl) ⟨Nat.zero_le _, Nat.zero_le _⟩ dX6_who_14 (fun H locs hI => ?_)
    refine lv_if_eq (tgt := 34) hx hb dX6_who_17 (by decide) (fun c6 => ?_) (fun c6 => ?_)
    · replace h := z_ift h c6
      refine lv_ldc (v := (-1000001)) hx hb hown (hts _ wd_1_204) dX6_who_34 ?_
      obtain rfl := Option.some.inj h
      exact z_ri hc hI dX6_who_36
    · replace h := z_iff h c6
      refine lv_aload_n hx hb dX6_who_20 rfl (lv_at hl 0 rfl) ?_
      refine lv_iload_n hx hb dX6_who_21 rfl (lv_at hl 3 rfl) ?_
      refine lv_iload hx hb dX6_who_22 (lv_at hl 4 rfl) ?_
      refine lv_iload hx hb dX6_who_24 (lv_at hl 5 rfl) ?_
      refine lv_iload hx hb dX6_who_26 (lv_at hl 7 rfl) ?_
      obtain ⟨q7, e8, h⟩ := z_bnd h
      refine iv_X6_229 hc hI (c_X6_isTelling e8) (z_room (by decide) (by decide)) hl.1 (Nat.le_of_ble_eq_true rfl) ⟨Nat.zero_le _, Nat.zero_le _⟩ dX6_who_28 (fun H locs hI => ?_)
      refine lv_if_ne (tgt := 37) hx hb dX6_who_31 (by decide) (fun c9 => ?_) (fun c9 => ?_)
      · replace h := z_iff h c9
        refine lv_aload_n hx hb dX6_who_37 rfl (lv_at hl 0 rfl) ?_
        refine lv_aload_n hx hb dX6_who_38 rfl (lv_at hl 0 rfl) ?_
        refine gf_X6_10 hc hI dX6_who_39 ?_
        refine lv_iload hx hb dX6_who_42 (lv_at hl 5 rfl) ?_
        refine lv_iload hx hb dX6_who_44 (lv_at hl 6 rfl) ?_
        refine lv_iload hx hb dX6_who_46 (lv_at hl 7 rfl) ?_
        obtain ⟨q10, e11, h⟩ := z_bnd h
        refine iv_X6_72 hc hI (c_X4_findingOf e11) (z_room (by decide) (by decide)) hl.1 (Nat.le_of_ble_eq_true rfl) ⟨Nat.zero_le _, Nat.zero_le _⟩ dX6_who_48 (fun H locs hI => ?_)
        refine pf_X6_55 hc hI dX6_who_51 (fun H locs hI => ?_)
        refine lv_aload_n hx hb dX6_who_54 rfl (lv_at hl 0 rfl) ?_
        obtain ⟨M12, h, hI⟩ := z_nM h hI
        refine gf_X6_55 hc hI dX6_who_55 ?_
        refine lv_if_eq (tgt := 69) hx hb dX6_who_58 (by decide) (fun c13 => ?_) (fun c13 => ?_)
        · replace h := z_ift h c13
          refine lv_aload_n hx hb dX6_who_69 rfl (lv_at hl 0 rfl) ?_
          refine lv_iload hx hb dX6_who_70 (lv_at hl 5 rfl) ?_
          refine lv_iload hx hb dX6_who_72 (lv_at hl 6 rfl) ?_
          refine lv_iload hx hb dX6_who_74 (lv_at hl 7 rfl) ?_
          obtain ⟨q14, e15, h⟩ := z_bnd h
          refine iv_X6_233 hc hI (c_X6_seerOfRow e15) (z_room (by decide) (by decide)) hl.1 (Nat.le_of_ble_eq_true rfl) ⟨Nat.zero_le _, Nat.zero_le _⟩ dX6_who_76 (fun H locs hI => ?_)
          refine lv_iload_n hx hb dX6_who_79 rfl (lv_at hl 1 rfl) ?_
          refine lv_iload_n hx hb dX6_who_80 rfl (lv_at hl 2 rfl) ?_
          refine lv_iload_n hx hb dX6_who_81 rfl (lv_at hl 3 rfl) ?_
          refine lv_iload hx hb dX6_who_82 (lv_at hl 4 rfl) ?_
          obtain ⟨q16, e17, h⟩ := z_bnd h
          refine iv_X6_243 hc hI (c_X3_partsBy e17) (z_room (by decide) (by decide)) hl.1 (Nat.le_of_ble_eq_true rfl) ⟨Nat.zero_le _, Nat.zero_le _⟩ dX6_who_84 (fun H locs hI => ?_)
          obtain rfl := Option.some.inj h
          exact z_ri hc hI dX6_who_87
        · replace h := z_iff h c13
          refine lv_ldc (v := (-1000010)) hx hb hown (hts _ wd_1_205) dX6_who_61 ?_
          refine lv_aload_n hx hb dX6_who_63 rfl (lv_at hl 0 rfl) ?_
          refine gf_X6_55 hc hI dX6_who_64 ?_
          refine lv_isub hx hb dX6_who_67 ?_
          obtain rfl := Option.some.inj h
          exact z_ri hc hI dX6_who_68
      · replace h := z_ift h c9
        refine lv_ldc (v := (-1000001)) hx hb hown (hts _ wd_1_204) dX6_who_34 ?_
        obtain rfl := Option.some.inj h
        exact z_ri hc hI dX6_who_36
set_option maxRecDepth 100000 in
set_option maxHeartbeats 4000000 in
theorem c_X6_rots {G : z_G} {l : Launch} {a1 : Int32} {a2 : Int32} {a3 : Int32} {a4 : Int32} {M : z_M} {out : (Int64 × z_M)} (h : F_X6_rots a1 a2 a3 a4 M = some out) : z_Met G l yX6_rots cX6_rots 5 (some .long) 5 [.ref (z_ad G 0 0), .int a1, .int a2, .int a3, .int a4] M (some (.long out.1)) out.2 := by
  unfold F_X6_rots at h
  refine z_met_of (by decide) rfl (Nat.le_of_ble_eq_true rfl) (fun p e s m below meth c ls hc hI hl => ?_)
  obtain ⟨⟨hx, hb, hml, hown, hts⟩, hr, hlk⟩ := id hc
  have hl : lv_has ls 5 [(0, .ref (z_ad G 0 0)), (1, .int a1), (2, .int a2), (3, .int a3), (4, .int a4)] := hl
  refine lv_aload_n hx hb dX6_rots_0 rfl (lv_at hl 0 rfl) ?_
  refine gf_X6_26 hc hI dX6_rots_1 ?_
  refine lv_iload_n hx hb dX6_rots_4 rfl (lv_at hl 1 rfl) ?_
  obtain ⟨q1, e2, h⟩ := z_bnd h
  refine iv_X6_173 (by decide) hc hI (c_X5_hasWalker (by decide) e2) (z_room (by decide) (by decide)) hl.1 (Nat.le_of_ble_eq_true rfl) ⟨Nat.zero_le _, Nat.zero_le _⟩ dX6_rots_5 (fun H locs hI => ?_)
  refine lv_if_eq (tgt := 40) hx hb dX6_rots_8 (by decide) (fun c3 => ?_) (fun c3 => ?_)
  · replace h := z_ift h c3
    refine lv_ldc2 (v := (-1000001)) hx hb hown (hts _ wd_4_30) dX6_rots_40 ?_
    obtain rfl := Option.some.inj h
    exact z_rl hc hI dX6_rots_43
  · replace h := z_iff h c3
    refine lv_aload_n hx hb dX6_rots_11 rfl (lv_at hl 0 rfl) ?_
    refine gf_X6_26 hc hI dX6_rots_12 ?_
    refine lv_iload_n hx hb dX6_rots_15 rfl (lv_at hl 2 rfl) ?_
    obtain ⟨q4, e5, h⟩ := z_bnd h
    refine iv_X6_143 (by decide) hc hI (c_X5_hasTread (by decide) e5) (z_room (by decide) (by decide)) hl.1 (Nat.le_of_ble_eq_true rfl) ⟨Nat.zero_le _, Nat.zero_le _⟩ dX6_rots_16 (fun H locs hI => ?_)
    refine lv_if_eq (tgt := 40) hx hb dX6_rots_19 (by decide) (fun c6 => ?_) (fun c6 => ?_)
    · replace h := z_ift h c6
      refine lv_ldc2 (v := (-1000001)) hx hb hown (hts _ wd_4_30) dX6_rots_40 ?_
      obtain rfl := Option.some.inj h
      exact z_rl hc hI dX6_rots_43
    · replace h := z_iff h c6
      refine lv_iload_n hx hb dX6_rots_22 rfl (lv_at hl 3 rfl) ?_
      refine lv_iconst (v := 0) hx hb dX6_rots_23 (by decide) ?_
      refine lv_bipush (v := 10) hx hb dX6_rots_24 (by decide) ?_
      obtain ⟨q7, e8, h⟩ := z_bnd h
      refine iv_X6_92 hc hI (c_X6_isWithin e8) (z_room (by decide) (by decide)) hl.1 (Nat.le_of_ble_eq_true rfl) ⟨Nat.zero_le _, Nat.zero_le _⟩ dX6_rots_26 (fun H locs hI => ?_)
      refine lv_if_eq (tgt := 40) hx hb dX6_rots_29 (by decide) (fun c9 => ?_) (fun c9 => ?_)
      · replace h := z_ift h c9
        refine lv_ldc2 (v := (-1000001)) hx hb hown (hts _ wd_4_30) dX6_rots_40 ?_
        obtain rfl := Option.some.inj h
        exact z_rl hc hI dX6_rots_43
      · replace h := z_iff h c9
        refine lv_iload hx hb dX6_rots_32 (lv_at hl 4 rfl) ?_
        obtain ⟨q10, e11, h⟩ := z_bnd h
        refine iv_X6_192 hc hI (c_X6_isFirstOrSecond e11) (z_room (by decide) (by decide)) hl.1 (Nat.le_of_ble_eq_true rfl) ⟨Nat.zero_le _, Nat.zero_le _⟩ dX6_rots_34 (fun H locs hI => ?_)
        refine lv_if_ne (tgt := 44) hx hb dX6_rots_37 (by decide) (fun c12 => ?_) (fun c12 => ?_)
        · replace h := z_iff h c12
          refine lv_aload_n hx hb dX6_rots_44 rfl (lv_at hl 0 rfl) ?_
          obtain ⟨q13, e14, h⟩ := z_bnd h
          refine iv_X6_195 hc hI (c_X6_seerOfNow e14) (z_room (by decide) (by decide)) hl.1 (Nat.le_of_ble_eq_true rfl) ⟨Nat.zero_le _, Nat.zero_le _⟩ dX6_rots_45 (fun H locs hI => ?_)
          refine lv_iload_n hx hb dX6_rots_48 rfl (lv_at hl 1 rfl) ?_
          refine lv_iload_n hx hb dX6_rots_49 rfl (lv_at hl 2 rfl) ?_
          refine lv_iload_n hx hb dX6_rots_50 rfl (lv_at hl 3 rfl) ?_
          refine lv_iload hx hb dX6_rots_51 (lv_at hl 4 rfl) ?_
          obtain ⟨q15, e16, h⟩ := z_bnd h
          refine iv_X6_248 hc hI (c_X3_likelihood e16) (z_room (by decide) (by decide)) hl.1 (Nat.le_of_ble_eq_true rfl) ⟨Nat.zero_le _, Nat.zero_le _⟩ dX6_rots_53 (fun H locs hI => ?_)
          obtain rfl := Option.some.inj h
          exact z_rl hc hI dX6_rots_56
        · replace h := z_ift h c12
          refine lv_ldc2 (v := (-1000001)) hx hb hown (hts _ wd_4_30) dX6_rots_40 ?_
          obtain rfl := Option.some.inj h
          exact z_rl hc hI dX6_rots_43
set_option maxRecDepth 100000 in
set_option maxHeartbeats 4000000 in
theorem c_X6_drawn {G : z_G} {l : Launch} {a1 : Int32} {a2 : Int32} {a3 : Int32} {M : z_M} {out : (Int32 × z_M)} (h : F_X6_drawn a1 a2 a3 M = some out) : z_Met G l yX6_drawn cX6_drawn 4 (some .int) 6 [.ref (z_ad G 0 0), .int a1, .int a2, .int a3] M (some (.int out.1)) out.2 := by
  unfold F_X6_drawn at h
  refine z_met_of (by decide) rfl (Nat.le_of_ble_eq_true rfl) (fun p e s m below meth c ls hc hI hl => ?_)
  obtain ⟨⟨hx, hb, hml, hown, hts⟩, hr, hlk⟩ := id hc
  have hl : lv_has ls 4 [(0, .ref (z_ad G 0 0)), (1, .int a1), (2, .int a2), (3, .int a3)] := hl
  refine lv_aload_n hx hb dX6_drawn_0 rfl (lv_at hl 0 rfl) ?_
  refine gf_X6_26 hc hI dX6_drawn_1 ?_
  obtain ⟨q1, e2, h⟩ := z_bnd h
  refine iv_X6_125 (by decide) hc hI (c_X5_stands (by decide) e2) (z_room (by decide) (by decide)) hl.1 (Nat.le_of_ble_eq_true rfl) ⟨Nat.zero_le _, Nat.zero_le _⟩ dX6_drawn_4 (fun H locs hI => ?_)
  refine lv_if_ne (tgt := 13) hx hb dX6_drawn_7 (by decide) (fun c3 => ?_) (fun c3 => ?_)
  · replace h := z_iff h c3
    refine lv_iload_n hx hb dX6_drawn_13 rfl (lv_at hl 1 rfl) ?_
    refine lv_iconst (v := 0) hx hb dX6_drawn_14 (by decide) ?_
    refine lv_bipush (v := 60) hx hb dX6_drawn_15 (by decide) ?_
    obtain ⟨q4, e5, h⟩ := z_bnd h
    refine iv_X6_92 hc hI (c_X6_isWithin e5) (z_room (by decide) (by decide)) hl.1 (Nat.le_of_ble_eq_true rfl) ⟨Nat.zero_le _, Nat.zero_le _⟩ dX6_drawn_17 (fun H locs hI => ?_)
    refine lv_if_eq (tgt := 40) hx hb dX6_drawn_20 (by decide) (fun c6 => ?_) (fun c6 => ?_)
    · replace h := z_ift h c6
      refine lv_ldc (v := (-1000001)) hx hb hown (hts _ wd_1_204) dX6_drawn_40 ?_
      obtain rfl := Option.some.inj h
      exact z_ri hc hI dX6_drawn_42
    · replace h := z_iff h c6
      refine lv_iload_n hx hb dX6_drawn_23 rfl (lv_at hl 2 rfl) ?_
      refine lv_iconst (v := 1) hx hb dX6_drawn_24 (by decide) ?_
      refine lv_ldc (v := 999999) hx hb hown (hts _ wd_4_45) dX6_drawn_25 ?_
      obtain ⟨q7, e8, h⟩ := z_bnd h
      refine iv_X6_92 hc hI (c_X6_isWithin e8) (z_room (by decide) (by decide)) hl.1 (Nat.le_of_ble_eq_true rfl) ⟨Nat.zero_le _, Nat.zero_le _⟩ dX6_drawn_27 (fun H locs hI => ?_)
      refine lv_if_eq (tgt := 40) hx hb dX6_drawn_30 (by decide) (fun c9 => ?_) (fun c9 => ?_)
      · replace h := z_ift h c9
        refine lv_ldc (v := (-1000001)) hx hb hown (hts _ wd_1_204) dX6_drawn_40 ?_
        obtain rfl := Option.some.inj h
        exact z_ri hc hI dX6_drawn_42
      · replace h := z_iff h c9
        refine lv_iload_n hx hb dX6_drawn_33 rfl (lv_at hl 3 rfl) ?_
        obtain ⟨q10, e11, h⟩ := z_bnd h
        refine iv_X6_192 hc hI (c_X6_isFirstOrSecond e11) (z_room (by decide) (by decide)) hl.1 (Nat.le_of_ble_eq_true rfl) ⟨Nat.zero_le _, Nat.zero_le _⟩ dX6_drawn_34 (fun H locs hI => ?_)
        refine lv_if_ne (tgt := 43) hx hb dX6_drawn_37 (by decide) (fun c12 => ?_) (fun c12 => ?_)
        · replace h := z_iff h c12
          refine lv_aload_n hx hb dX6_drawn_43 rfl (lv_at hl 0 rfl) ?_
          obtain ⟨q13, e14, h⟩ := z_bnd h
          refine iv_X6_195 hc hI (c_X6_seerOfNow e14) (z_room (by decide) (by decide)) hl.1 (Nat.le_of_ble_eq_true rfl) ⟨Nat.zero_le _, Nat.zero_le _⟩ dX6_drawn_44 (fun H locs hI => ?_)
          refine lv_iload_n hx hb dX6_drawn_47 rfl (lv_at hl 1 rfl) ?_
          refine lv_iload_n hx hb dX6_drawn_48 rfl (lv_at hl 2 rfl) ?_
          refine lv_iload_n hx hb dX6_drawn_49 rfl (lv_at hl 3 rfl) ?_
          obtain ⟨q15, e16, h⟩ := z_bnd h
          refine iv_X6_253 hc hI (c_X3_weeksBy e16) (z_room (by decide) (by decide)) hl.1 (Nat.le_of_ble_eq_true rfl) ⟨Nat.zero_le _, Nat.zero_le _⟩ dX6_drawn_50 (fun H locs hI => ?_)
          obtain rfl := Option.some.inj h
          exact z_ri hc hI dX6_drawn_53
        · replace h := z_ift h c12
          refine lv_ldc (v := (-1000001)) hx hb hown (hts _ wd_1_204) dX6_drawn_40 ?_
          obtain rfl := Option.some.inj h
          exact z_ri hc hI dX6_drawn_42
  · replace h := z_ift h c3
    refine lv_ldc (v := (-1000002)) hx hb hown (hts _ wd_2_146) dX6_drawn_10 ?_
    obtain rfl := Option.some.inj h
    exact z_ri hc hI dX6_drawn_12
set_option maxRecDepth 100000 in
set_option maxHeartbeats 4000000 in
theorem c_X6_image {G : z_G} {l : Launch} {a1 : Int32} {M : z_M} {out : (Int32 × z_M)} (h : F_X6_image a1 M = some out) : z_Met G l yX6_image cX6_image 3 (some .int) 2 [.ref (z_ad G 0 0), .int a1] M (some (.int out.1)) out.2 := by
  unfold F_X6_image at h
  refine z_met_of (by decide) rfl (Nat.le_of_ble_eq_true rfl) (fun p e s m below meth c ls hc hI hl => ?_)
  obtain ⟨⟨hx, hb, hml, hown, hts⟩, hr, hlk⟩ := id hc
  have hl : lv_has ls 3 [(0, .ref (z_ad G 0 0)), (1, .int a1)] := hl
  refine lv_iload_n hx hb dX6_image_0 rfl (lv_at hl 1 rfl) ?_
  refine lv_iconst (v := 0) hx hb dX6_image_1 (by decide) ?_
  refine lv_iconst (v := 1) hx hb dX6_image_2 (by decide) ?_
  obtain ⟨q1, e2, h⟩ := z_bnd h
  refine iv_X6_92 hc hI (c_X6_isWithin e2) (z_room (by decide) (by decide)) hl.1 (Nat.le_of_ble_eq_true rfl) ⟨Nat.zero_le _, Nat.zero_le _⟩ dX6_image_3 (fun H locs hI => ?_)
  refine lv_if_ne (tgt := 12) hx hb dX6_image_6 (by decide) (fun c3 => ?_) (fun c3 => ?_)
  · replace h := z_iff h c3
    refine lv_aload_n hx hb dX6_image_12 rfl (lv_at hl 0 rfl) ?_
    refine gf_X6_37 hc hI dX6_image_13 ?_
    refine lv_iload_n hx hb dX6_image_16 rfl (lv_at hl 1 rfl) ?_
    obtain ⟨g4, h⟩ := z_grd_some h
    refine ld_k14 hc hI g4 dX6_image_17 ?_
    obtain ⟨g5, h⟩ := z_grd_some h
    refine lv_astore_n (lv' := [(2, .ref (z_ad G 7 (25 + a1.toNatClampNeg))), (0, .ref (z_ad G 0 0)), (1, .int a1)]) hx hb dX6_image_18 rfl hl (by decide) rfl (fun ls hl => ?_)
    refine lv_aload_n hx hb dX6_image_19 rfl (lv_at hl 0 rfl) ?_
    refine lv_ifnull hx hb dX6_image_20 ?_
    refine lv_aload_n hx hb dX6_image_23 rfl (lv_at hl 1 rfl) ?_
    refine gf_X6_26 hc hI dX6_image_24 ?_
    obtain ⟨q6, e7, h⟩ := z_bnd h
    refine iv_X6_125 (by decide) hc hI (c_X5_stands (by decide) e7) (z_room (by decide) (by decide)) hl.1 (Nat.le_of_ble_eq_true rfl) ⟨Nat.zero_le _, Nat.zero_le _⟩ dX6_image_27 (fun H locs hI => ?_)
    refine lv_if_ne (tgt := 36) hx hb dX6_image_30 (by decide) (fun c8 => ?_) (fun c8 => ?_)
    · replace h := z_iff h c8
      refine lv_aload_n hx hb dX6_image_36 rfl (lv_at hl 0 rfl) ?_
      refine lv_aload_n hx hb dX6_image_37 rfl (lv_at hl 1 rfl) ?_
      refine gf_X6_26 hc hI dX6_image_38 ?_
      obtain ⟨q9, e10, h⟩ := z_bnd h
      refine iv_X6_108 g5 hc hI (c_X5_take g5 (o1 := some 24) (fun _ h => by cases h; exact (by decide)) e10) (z_room (by decide) (by decide)) hl.1 (Nat.le_of_ble_eq_true rfl) ⟨Nat.zero_le _, Nat.zero_le _⟩ dX6_image_41 (fun H locs hI => ?_)
      refine lv_iconst (v := 1) hx hb dX6_image_44 (by decide) ?_
      obtain rfl := Option.some.inj h
      exact z_ri hc hI dX6_image_45
    · replace h := z_ift h c8
      refine lv_ldc (v := (-1000002)) hx hb hown (hts _ wd_2_146) dX6_image_33 ?_
      obtain rfl := Option.some.inj h
      exact z_ri hc hI dX6_image_35
  · replace h := z_ift h c3
    refine lv_ldc (v := (-1000001)) hx hb hown (hts _ wd_1_204) dX6_image_9 ?_
    obtain rfl := Option.some.inj h
    exact z_ri hc hI dX6_image_11
set_option maxRecDepth 100000 in
set_option maxHeartbeats 4000000 in
theorem c_X6_restore {G : z_G} {l : Launch} {a1 : Int32} {M : z_M} {out : (Int32 × z_M)} (h : F_X6_restore a1 M = some out) : z_Met G l yX6_restore cX6_restore 3 (some .int) 2 [.ref (z_ad G 0 0), .int a1] M (some (.int out.1)) out.2 := by
  unfold F_X6_restore at h
  refine z_met_of (by decide) rfl (Nat.le_of_ble_eq_true rfl) (fun p e s m below meth c ls hc hI hl => ?_)
  obtain ⟨⟨hx, hb, hml, hown, hts⟩, hr, hlk⟩ := id hc
  have hl : lv_has ls 3 [(0, .ref (z_ad G 0 0)), (1, .int a1)] := hl
  refine lv_iload_n hx hb dX6_restore_0 rfl (lv_at hl 1 rfl) ?_
  refine lv_iconst (v := 0) hx hb dX6_restore_1 (by decide) ?_
  refine lv_iconst (v := 1) hx hb dX6_restore_2 (by decide) ?_
  obtain ⟨q1, e2, h⟩ := z_bnd h
  refine iv_X6_92 hc hI (c_X6_isWithin e2) (z_room (by decide) (by decide)) hl.1 (Nat.le_of_ble_eq_true rfl) ⟨Nat.zero_le _, Nat.zero_le _⟩ dX6_restore_3 (fun H locs hI => ?_)
  refine lv_if_ne (tgt := 12) hx hb dX6_restore_6 (by decide) (fun c3 => ?_) (fun c3 => ?_)
  · replace h := z_iff h c3
    refine lv_aload_n hx hb dX6_restore_12 rfl (lv_at hl 0 rfl) ?_
    refine gf_X6_37 hc hI dX6_restore_13 ?_
    refine lv_iload_n hx hb dX6_restore_16 rfl (lv_at hl 1 rfl) ?_
    obtain ⟨g4, h⟩ := z_grd_some h
    refine ld_k14 hc hI g4 dX6_restore_17 ?_
    obtain ⟨g5, h⟩ := z_grd_some h
    refine lv_astore_n (lv' := [(2, .ref (z_ad G 7 (25 + a1.toNatClampNeg))), (0, .ref (z_ad G 0 0)), (1, .int a1)]) hx hb dX6_restore_18 rfl hl (by decide) rfl (fun ls hl => ?_)
    refine lv_aload_n hx hb dX6_restore_19 rfl (lv_at hl 0 rfl) ?_
    refine lv_ifnull hx hb dX6_restore_20 ?_
    refine lv_aload_n hx hb dX6_restore_23 rfl (lv_at hl 0 rfl) ?_
    obtain ⟨q6, e7, h⟩ := z_bnd h
    refine iv_X6_125 g5 hc hI (c_X5_stands g5 e7) (z_room (by decide) (by decide)) hl.1 (Nat.le_of_ble_eq_true rfl) ⟨Nat.zero_le _, Nat.zero_le _⟩ dX6_restore_24 (fun H locs hI => ?_)
    refine lv_if_ne (tgt := 33) hx hb dX6_restore_27 (by decide) (fun c8 => ?_) (fun c8 => ?_)
    · replace h := z_iff h c8
      refine lv_aload_n hx hb dX6_restore_33 rfl (lv_at hl 1 rfl) ?_
      refine gf_X6_26 hc hI dX6_restore_34 ?_
      refine lv_aload_n hx hb dX6_restore_37 rfl (lv_at hl 0 rfl) ?_
      obtain ⟨q9, e10, h⟩ := z_bnd h
      refine iv_X6_108 (by decide) hc hI (c_X5_take (by decide) (o1 := some (25 + a1.toNatClampNeg)) (fun _ h => by cases h; exact g5) e10) (z_room (by decide) (by decide)) hl.1 (Nat.le_of_ble_eq_true rfl) ⟨Nat.zero_le _, Nat.zero_le _⟩ dX6_restore_38 (fun H locs hI => ?_)
      refine lv_aload_n hx hb dX6_restore_41 rfl (lv_at hl 1 rfl) ?_
      refine gf_X6_33 hc hI dX6_restore_42 ?_
      obtain ⟨q11, e12, h⟩ := z_bnd h
      refine iv_X6_112 hc hI (c_X1_forget e12) (z_room (by decide) (by decide)) hl.1 (Nat.le_of_ble_eq_true rfl) ⟨Nat.zero_le _, Nat.zero_le _⟩ dX6_restore_45 (fun H locs hI => ?_)
      refine lv_iconst (v := 1) hx hb dX6_restore_48 (by decide) ?_
      obtain rfl := Option.some.inj h
      exact z_ri hc hI dX6_restore_49
    · replace h := z_ift h c8
      refine lv_ldc (v := (-1000002)) hx hb hown (hts _ wd_2_146) dX6_restore_30 ?_
      obtain rfl := Option.some.inj h
      exact z_ri hc hI dX6_restore_32
  · replace h := z_ift h c3
    refine lv_ldc (v := (-1000001)) hx hb hown (hts _ wd_1_204) dX6_restore_9 ?_
    obtain rfl := Option.some.inj h
    exact z_ri hc hI dX6_restore_11
set_option maxRecDepth 100000 in
set_option maxHeartbeats 4000000 in
theorem c_X6_kind {G : z_G} {l : Launch} {a1 : Int32} {M : z_M} {out : Int32} (h : F_X6_kind a1 M = some out) : z_Met G l yX6_kind cX6_kind 2 (some .int) 3 [.ref (z_ad G 0 0), .int a1] M (some (.int out)) M := by
  unfold F_X6_kind at h
  refine z_met_of (by decide) rfl (Nat.le_of_ble_eq_true rfl) (fun p e s m below meth c ls hc hI hl => ?_)
  obtain ⟨⟨hx, hb, hml, hown, hts⟩, hr, hlk⟩ := id hc
  have hl : lv_has ls 2 [(0, .ref (z_ad G 0 0)), (1, .int a1)] := hl
  refine lv_aload_n hx hb dX6_kind_0 rfl (lv_at hl 0 rfl) ?_
  refine gf_X6_26 hc hI dX6_kind_1 ?_
  refine lv_iload_n hx hb dX6_kind_4 rfl (lv_at hl 1 rfl) ?_
  obtain ⟨q1, e2, h⟩ := z_bnd h
  refine iv_X6_143 (by decide) hc hI (c_X5_hasTread (by decide) e2) (z_room (by decide) (by decide)) hl.1 (Nat.le_of_ble_eq_true rfl) ⟨Nat.zero_le _, Nat.zero_le _⟩ dX6_kind_5 (fun H locs hI => ?_)
  refine lv_if_eq (tgt := 22) hx hb dX6_kind_8 (by decide) (fun c3 => ?_) (fun c3 => ?_)
  · replace h := z_ift h c3
    refine lv_ldc (v := (-1000001)) hx hb hown (hts _ wd_1_204) dX6_kind_22 ?_
    obtain rfl := Option.some.inj h
    exact z_ri hc hI dX6_kind_24
  · replace h := z_iff h c3
    refine lv_aload_n hx hb dX6_kind_11 rfl (lv_at hl 0 rfl) ?_
    refine gf_X6_26 hc hI dX6_kind_12 ?_
    refine lv_iload_n hx hb dX6_kind_15 rfl (lv_at hl 1 rfl) ?_
    obtain ⟨q4, e5, h⟩ := z_bnd h
    refine iv_X6_256 (by decide) hc hI (c_X5_kindOf (by decide) e5) (z_room (by decide) (by decide)) hl.1 (Nat.le_of_ble_eq_true rfl) ⟨Nat.zero_le _, Nat.zero_le _⟩ dX6_kind_16 (fun H locs hI => ?_)
    refine lv_goto (tgt := 24) hx hb dX6_kind_19 (by decide) ?_
    obtain rfl := Option.some.inj h
    exact z_ri hc hI dX6_kind_24
set_option maxRecDepth 100000 in
set_option maxHeartbeats 4000000 in
theorem w_X6_as_b48 (hc : z_C p s m args meth c RX6 cX6_as 3 (some .int)) {out : (Int32 × z_M)} (v1 : Int32) (s0 : Int32) (M : z_M) (H : Heap) (locs : List Loc) (ls : Array Slot) (h : F_X6_as_b48 v1 s0 M = some out) (hI : z_I G s M H locs) (hl : lv_has ls 3 [(0, .ref (z_ad G 0 0)), (1, .int v1)]) : W p l e (z_rm 3) s m args below meth c H locs 0 0 (MQ below (z_Q G (some (.int out.1)) out.2) args s 0 0 (z_A G)) (F0 m 48 ls [.int s0, .ref (z_ad G 0 0)]) := by
  obtain ⟨⟨hx, hb, hml, hown, hts⟩, hr, hlk⟩ := id hc
  unfold F_X6_as_b48 at h
  refine pf_X6_55 hc hI dX6_as_48 (fun H locs hI => ?_)
  refine lv_aload_n hx hb dX6_as_51 rfl (lv_at hl 0 rfl) ?_
  obtain ⟨M12, h, hI⟩ := z_nM h hI
  refine gf_X6_55 hc hI dX6_as_52 ?_
  refine lv_if_eq (tgt := 68) hx hb dX6_as_55 (by decide) (fun c13 => ?_) (fun c13 => ?_)
  · replace h := z_ift h c13
    refine lv_iload_n hx hb dX6_as_68 rfl (lv_at hl 1 rfl) ?_
    obtain rfl := Option.some.inj h
    exact z_ri hc hI dX6_as_69
  · replace h := z_iff h c13
    refine lv_ldc (v := (-1000010)) hx hb hown (hts _ wd_1_205) dX6_as_58 ?_
    refine lv_aload_n hx hb dX6_as_60 rfl (lv_at hl 0 rfl) ?_
    refine gf_X6_55 hc hI dX6_as_61 ?_
    refine lv_isub hx hb dX6_as_64 ?_
    refine lv_goto (tgt := 69) hx hb dX6_as_65 (by decide) ?_
    obtain rfl := Option.some.inj h
    exact z_ri hc hI dX6_as_69
set_option maxRecDepth 100000 in
set_option maxHeartbeats 4000000 in
theorem c_X6_as {G : z_G} {l : Launch} {a1 : Int32} {a2 : Int32} {M : z_M} {out : (Int32 × z_M)} (h : F_X6_as a1 a2 M = some out) : z_Met G l yX6_as cX6_as 3 (some .int) 3 [.ref (z_ad G 0 0), .int a1, .int a2] M (some (.int out.1)) out.2 := by
  unfold F_X6_as at h
  refine z_met_of (by decide) rfl (Nat.le_of_ble_eq_true rfl) (fun p e s m below meth c ls hc hI hl => ?_)
  obtain ⟨⟨hx, hb, hml, hown, hts⟩, hr, hlk⟩ := id hc
  have hl : lv_has ls 3 [(0, .ref (z_ad G 0 0)), (1, .int a1), (2, .int a2)] := hl
  refine lv_aload_n hx hb dX6_as_0 rfl (lv_at hl 0 rfl) ?_
  refine gf_X6_26 hc hI dX6_as_1 ?_
  refine lv_iload_n hx hb dX6_as_4 rfl (lv_at hl 1 rfl) ?_
  obtain ⟨q1, e2, h⟩ := z_bnd h
  refine iv_X6_143 (by decide) hc hI (c_X5_hasTread (by decide) e2) (z_room (by decide) (by decide)) hl.1 (Nat.le_of_ble_eq_true rfl) ⟨Nat.zero_le _, Nat.zero_le _⟩ dX6_as_5 (fun H locs hI => ?_)
  refine lv_if_eq (tgt := 20) hx hb dX6_as_8 (by decide) (fun c3 => ?_) (fun c3 => ?_)
  · replace h := z_ift h c3
    refine lv_ldc (v := (-1000001)) hx hb hown (hts _ wd_1_204) dX6_as_20 ?_
    obtain rfl := Option.some.inj h
    exact z_ri hc hI dX6_as_22
  · replace h := z_iff h c3
    refine lv_iload_n hx hb dX6_as_11 rfl (lv_at hl 2 rfl) ?_
    refine lv_iconst (v := 0) hx hb dX6_as_12 (by decide) ?_
    refine lv_iconst (v := 5) hx hb dX6_as_13 (by decide) ?_
    obtain ⟨q4, e5, h⟩ := z_bnd h
    refine iv_X6_92 hc hI (c_X6_isWithin e5) (z_room (by decide) (by decide)) hl.1 (Nat.le_of_ble_eq_true rfl) ⟨Nat.zero_le _, Nat.zero_le _⟩ dX6_as_14 (fun H locs hI => ?_)
    refine lv_if_ne (tgt := 23) hx hb dX6_as_17 (by decide) (fun c6 => ?_) (fun c6 => ?_)
    · replace h := z_iff h c6
      refine lv_aload_n hx hb dX6_as_23 rfl (lv_at hl 0 rfl) ?_
      refine lv_aload_n hx hb dX6_as_24 rfl (lv_at hl 0 rfl) ?_
      refine gf_X6_51 hc hI dX6_as_25 ?_
      refine lv_aload_n hx hb dX6_as_28 rfl (lv_at hl 0 rfl) ?_
      refine gf_X6_26 hc hI dX6_as_29 ?_
      refine lv_iload_n hx hb dX6_as_32 rfl (lv_at hl 1 rfl) ?_
      obtain ⟨q7, e8, h⟩ := z_bnd h
      refine iv_X6_256 (by decide) hc hI (c_X5_kindOf (by decide) e8) (z_room (by decide) (by decide)) hl.1 (Nat.le_of_ble_eq_true rfl) ⟨Nat.zero_le _, Nat.zero_le _⟩ dX6_as_33 (fun H locs hI => ?_)
      refine lv_iload_n hx hb dX6_as_36 rfl (lv_at hl 2 rfl) ?_
      obtain ⟨q9, e10, h⟩ := z_bnd h
      refine iv_X6_259 hc hI (c_X0_isA e10) (z_room (by decide) (by decide)) hl.1 (Nat.le_of_ble_eq_true rfl) ⟨Nat.zero_le _, Nat.zero_le _⟩ dX6_as_37 (fun H locs hI => ?_)
      refine lv_if_eq (tgt := 47) hx hb dX6_as_40 (by decide) (fun c11 => ?_) (fun c11 => ?_)
      · replace h := z_ift h c11
        refine lv_iconst (v := 3) hx hb dX6_as_47 (by decide) ?_
        exact w_X6_as_b48 hc a1 3 _ _ _ _ h hI (lv_sub hl [0, 1] rfl)
      · replace h := z_iff h c11
        refine lv_iconst (v := 0) hx hb dX6_as_43 (by decide) ?_
        refine lv_goto (tgt := 48) hx hb dX6_as_44 (by decide) ?_
        exact w_X6_as_b48 hc a1 0 _ _ _ _ h hI (lv_sub hl [0, 1] rfl)
    · replace h := z_ift h c6
      refine lv_ldc (v := (-1000001)) hx hb hown (hts _ wd_1_204) dX6_as_20 ?_
      obtain rfl := Option.some.inj h
      exact z_ri hc hI dX6_as_22
set_option maxRecDepth 100000 in
set_option maxHeartbeats 4000000 in
theorem c_X6_ask {G : z_G} {l : Launch} {a1 : Int32} {a2 : Int32} {M : z_M} {out : (Int32 × z_M)} (h : F_X6_ask a1 a2 M = some out) : z_Met G l yX6_ask cX6_ask 3 (some .int) 49 [.ref (z_ad G 0 0), .int a1, .int a2] M (some (.int out.1)) out.2 := by
  unfold F_X6_ask at h
  refine z_met_of (by decide) rfl (Nat.le_of_ble_eq_true rfl) (fun p e s m below meth c ls hc hI hl => ?_)
  obtain ⟨⟨hx, hb, hml, hown, hts⟩, hr, hlk⟩ := id hc
  have hl : lv_has ls 3 [(0, .ref (z_ad G 0 0)), (1, .int a1), (2, .int a2)] := hl
  refine lv_aload_n hx hb dX6_ask_0 rfl (lv_at hl 0 rfl) ?_
  refine gf_X6_26 hc hI dX6_ask_1 ?_
  refine lv_iload_n hx hb dX6_ask_4 rfl (lv_at hl 1 rfl) ?_
  obtain ⟨q1, e2, h⟩ := z_bnd h
  refine iv_X6_143 (by decide) hc hI (c_X5_hasTread (by decide) e2) (z_room (by decide) (by decide)) hl.1 (Nat.le_of_ble_eq_true rfl) ⟨Nat.zero_le _, Nat.zero_le _⟩ dX6_ask_5 (fun H locs hI => ?_)
  refine lv_if_eq (tgt := 18) hx hb dX6_ask_8 (by decide) (fun c3 => ?_) (fun c3 => ?_)
  · replace h := z_ift h c3
    refine lv_ldc (v := (-1000001)) hx hb hown (hts _ wd_1_204) dX6_ask_18 ?_
    obtain rfl := Option.some.inj h
    exact z_ri hc hI dX6_ask_20
  · replace h := z_iff h c3
    refine lv_iload_n hx hb dX6_ask_11 rfl (lv_at hl 2 rfl) ?_
    obtain ⟨q4, e5, h⟩ := z_bnd h
    refine iv_X6_192 hc hI (c_X6_isFirstOrSecond e5) (z_room (by decide) (by decide)) hl.1 (Nat.le_of_ble_eq_true rfl) ⟨Nat.zero_le _, Nat.zero_le _⟩ dX6_ask_12 (fun H locs hI => ?_)
    refine lv_if_ne (tgt := 21) hx hb dX6_ask_15 (by decide) (fun c6 => ?_) (fun c6 => ?_)
    · replace h := z_iff h c6
      refine lv_aload_n hx hb dX6_ask_21 rfl (lv_at hl 0 rfl) ?_
      refine gf_X6_51 hc hI dX6_ask_22 ?_
      refine lv_aload_n hx hb dX6_ask_25 rfl (lv_at hl 0 rfl) ?_
      refine gf_X6_26 hc hI dX6_ask_26 ?_
      refine lv_iload_n hx hb dX6_ask_29 rfl (lv_at hl 1 rfl) ?_
      refine lv_iload_n hx hb dX6_ask_30 rfl (lv_at hl 2 rfl) ?_
      obtain ⟨q7, e8, h⟩ := z_bnd h
      refine iv_X6_263 hc hI (c_X0_answerOf e8) (z_room (by decide) (by decide)) hl.1 (Nat.le_of_ble_eq_true rfl) ⟨Nat.zero_le _, Nat.zero_le _⟩ dX6_ask_31 (fun H locs hI => ?_)
      obtain rfl := Option.some.inj h
      exact z_ri hc hI dX6_ask_34
    · replace h := z_ift h c6
      refine lv_ldc (v := (-1000001)) hx hb hown (hts _ wd_1_204) dX6_ask_18 ?_
      obtain rfl := Option.some.inj h
      exact z_ri hc hI dX6_ask_20
set_option maxRecDepth 100000 in
set_option maxHeartbeats 4000000 in
theorem c_X6_trace {G : z_G} {l : Launch} {a1 : Int32} {M : z_M} {out : Int32} (h : F_X6_trace a1 M = some out) : z_Met G l yX6_trace cX6_trace 2 (some .int) 2 [.ref (z_ad G 0 0), .int a1] M (some (.int out)) M := by
  unfold F_X6_trace at h
  refine z_met_of (by decide) rfl (Nat.le_of_ble_eq_true rfl) (fun p e s m below meth c ls hc hI hl => ?_)
  obtain ⟨⟨hx, hb, hml, hown, hts⟩, hr, hlk⟩ := id hc
  have hl : lv_has ls 2 [(0, .ref (z_ad G 0 0)), (1, .int a1)] := hl
  refine lv_aload_n hx hb dX6_trace_0 rfl (lv_at hl 0 rfl) ?_
  refine gf_X6_51 hc hI dX6_trace_1 ?_
  refine lv_iload_n hx hb dX6_trace_4 rfl (lv_at hl 1 rfl) ?_
  obtain ⟨q1, e2, h⟩ := z_bnd h
  refine iv_X6_267 hc hI (c_X0_traceAt e2) (z_room (by decide) (by decide)) hl.1 (Nat.le_of_ble_eq_true rfl) ⟨Nat.zero_le _, Nat.zero_le _⟩ dX6_trace_5 (fun H locs hI => ?_)
  obtain rfl := Option.some.inj h
  exact z_ri hc hI dX6_trace_8
set_option maxRecDepth 100000 in
set_option maxHeartbeats 4000000 in
theorem c_X6_count {G : z_G} {l : Launch} {a1 : Int32} {M : z_M} {out : Int32} (h : F_X6_count a1 M = some out) : z_Met G l yX6_count cX6_count 2 (some .int) 2 [.ref (z_ad G 0 0), .int a1] M (some (.int out)) M := by
  unfold F_X6_count at h
  refine z_met_of (by decide) rfl (Nat.le_of_ble_eq_true rfl) (fun p e s m below meth c ls hc hI hl => ?_)
  obtain ⟨⟨hx, hb, hml, hown, hts⟩, hr, hlk⟩ := id hc
  have hl : lv_has ls 2 [(0, .ref (z_ad G 0 0)), (1, .int a1)] := hl
  refine lv_iload_n hx hb dX6_count_0 rfl (lv_at hl 1 rfl) ?_
  by_cases c1 : a1 = 0
  · replace h := z_ift h c1
    refine lv_tableIn (off := 47) (tgt := 48) hx hb dX6_count_1 (by rw [c1]; decide) (by rw [c1]; decide) (by rw [c1]; rfl) (by decide) ?_
    refine lv_aload_n hx hb dX6_count_48 rfl (lv_at hl 0 rfl) ?_
    refine gf_X6_10 hc hI dX6_count_49 ?_
    obtain ⟨q2, e3, h⟩ := z_bnd h
    refine iv_X6_270 hc hI (c_X4_rowCount e3) (z_room (by decide) (by decide)) hl.1 (Nat.le_of_ble_eq_true rfl) ⟨Nat.zero_le _, Nat.zero_le _⟩ dX6_count_52 (fun H locs hI => ?_)
    obtain rfl := Option.some.inj h
    exact z_ri hc hI dX6_count_55
  replace h := z_iff h c1
  by_cases c4 : a1 = 1
  · replace h := z_ift h c4
    refine lv_tableIn (off := 55) (tgt := 56) hx hb dX6_count_1 (by rw [c4]; decide) (by rw [c4]; decide) (by rw [c4]; rfl) (by decide) ?_
    refine lv_aload_n hx hb dX6_count_56 rfl (lv_at hl 0 rfl) ?_
    refine gf_X6_26 hc hI dX6_count_57 ?_
    obtain ⟨q5, e6, h⟩ := z_bnd h
    refine iv_X6_115 (by decide) hc hI (c_X5_treadCount (by decide) e6) (z_room (by decide) (by decide)) hl.1 (Nat.le_of_ble_eq_true rfl) ⟨Nat.zero_le _, Nat.zero_le _⟩ dX6_count_60 (fun H locs hI => ?_)
    obtain rfl := Option.some.inj h
    exact z_ri hc hI dX6_count_63
  replace h := z_iff h c4
  by_cases c7 : a1 = 2
  · replace h := z_ift h c7
    refine lv_tableIn (off := 63) (tgt := 64) hx hb dX6_count_1 (by rw [c7]; decide) (by rw [c7]; decide) (by rw [c7]; rfl) (by decide) ?_
    refine lv_aload_n hx hb dX6_count_64 rfl (lv_at hl 0 rfl) ?_
    refine gf_X6_26 hc hI dX6_count_65 ?_
    obtain ⟨q8, e9, h⟩ := z_bnd h
    refine iv_X6_273 (by decide) hc hI (c_X5_walkerCount (by decide) e9) (z_room (by decide) (by decide)) hl.1 (Nat.le_of_ble_eq_true rfl) ⟨Nat.zero_le _, Nat.zero_le _⟩ dX6_count_68 (fun H locs hI => ?_)
    obtain rfl := Option.some.inj h
    exact z_ri hc hI dX6_count_71
  replace h := z_iff h c7
  by_cases c10 : a1 = 3
  · replace h := z_ift h c10
    refine lv_tableIn (off := 71) (tgt := 72) hx hb dX6_count_1 (by rw [c10]; decide) (by rw [c10]; decide) (by rw [c10]; rfl) (by decide) ?_
    refine lv_aload_n hx hb dX6_count_72 rfl (lv_at hl 0 rfl) ?_
    refine gf_X6_26 hc hI dX6_count_73 ?_
    obtain ⟨q11, e12, h⟩ := z_bnd h
    refine iv_X6_130 (by decide) hc hI (c_X5_dayNumber (by decide) e12) (z_room (by decide) (by decide)) hl.1 (Nat.le_of_ble_eq_true rfl) ⟨Nat.zero_le _, Nat.zero_le _⟩ dX6_count_76 (fun H locs hI => ?_)
    obtain rfl := Option.some.inj h
    exact z_ri hc hI dX6_count_79
  replace h := z_iff h c10
  by_cases c13 : a1 = 4
  · replace h := z_ift h c13
    refine lv_tableIn (off := 79) (tgt := 80) hx hb dX6_count_1 (by rw [c13]; decide) (by rw [c13]; decide) (by rw [c13]; rfl) (by decide) ?_
    refine lv_aload_n hx hb dX6_count_80 rfl (lv_at hl 0 rfl) ?_
    refine gf_X6_26 hc hI dX6_count_81 ?_
    obtain ⟨q14, e15, h⟩ := z_bnd h
    refine iv_X6_276 (by decide) hc hI (c_X5_isWet (by decide) e15) (z_room (by decide) (by decide)) hl.1 (Nat.le_of_ble_eq_true rfl) ⟨Nat.zero_le _, Nat.zero_le _⟩ dX6_count_84 (fun H locs hI => ?_)
    refine lv_if_eq (tgt := 94) hx hb dX6_count_87 (by decide) (fun c16 => ?_) (fun c16 => ?_)
    · replace h := z_ift h c16
      refine lv_iconst (v := 0) hx hb dX6_count_94 (by decide) ?_
      obtain rfl := Option.some.inj h
      exact z_ri hc hI dX6_count_95
    · replace h := z_iff h c16
      refine lv_iconst (v := 1) hx hb dX6_count_90 (by decide) ?_
      refine lv_goto (tgt := 95) hx hb dX6_count_91 (by decide) ?_
      obtain rfl := Option.some.inj h
      exact z_ri hc hI dX6_count_95
  replace h := z_iff h c13
  by_cases c17 : a1 = 5
  · replace h := z_ift h c17
    refine lv_tableIn (off := 95) (tgt := 96) hx hb dX6_count_1 (by rw [c17]; decide) (by rw [c17]; decide) (by rw [c17]; rfl) (by decide) ?_
    refine lv_aload_n hx hb dX6_count_96 rfl (lv_at hl 0 rfl) ?_
    refine gf_X6_26 hc hI dX6_count_97 ?_
    obtain ⟨q18, e19, h⟩ := z_bnd h
    refine iv_X6_153 (by decide) hc hI (c_X5_reachNow (by decide) e19) (z_room (by decide) (by decide)) hl.1 (Nat.le_of_ble_eq_true rfl) ⟨Nat.zero_le _, Nat.zero_le _⟩ dX6_count_100 (fun H locs hI => ?_)
    obtain rfl := Option.some.inj h
    exact z_ri hc hI dX6_count_103
  replace h := z_iff h c17
  by_cases c20 : a1 = 6
  · replace h := z_ift h c20
    refine lv_tableIn (off := 103) (tgt := 104) hx hb dX6_count_1 (by rw [c20]; decide) (by rw [c20]; decide) (by rw [c20]; rfl) (by decide) ?_
    refine lv_aload_n hx hb dX6_count_104 rfl (lv_at hl 0 rfl) ?_
    refine gf_X6_33 hc hI dX6_count_105 ?_
    obtain ⟨q21, e22, h⟩ := z_bnd h
    refine iv_X6_279 hc hI (c_X1_keptCount e22) (z_room (by decide) (by decide)) hl.1 (Nat.le_of_ble_eq_true rfl) ⟨Nat.zero_le _, Nat.zero_le _⟩ dX6_count_108 (fun H locs hI => ?_)
    obtain rfl := Option.some.inj h
    exact z_ri hc hI dX6_count_111
  replace h := z_iff h c20
  by_cases c23 : a1 = 7
  · replace h := z_ift h c23
    refine lv_tableIn (off := 111) (tgt := 112) hx hb dX6_count_1 (by rw [c23]; decide) (by rw [c23]; decide) (by rw [c23]; rfl) (by decide) ?_
    refine lv_aload_n hx hb dX6_count_112 rfl (lv_at hl 0 rfl) ?_
    refine gf_X6_19 hc hI dX6_count_113 ?_
    obtain ⟨q24, e25, h⟩ := z_bnd h
    refine iv_X6_282 hc hI (c_X2_byteCount e25) (z_room (by decide) (by decide)) hl.1 (Nat.le_of_ble_eq_true rfl) ⟨Nat.zero_le _, Nat.zero_le _⟩ dX6_count_116 (fun H locs hI => ?_)
    obtain rfl := Option.some.inj h
    exact z_ri hc hI dX6_count_119
  replace h := z_iff h c23
  refine lv_tableOut (tgt := 120) hx hb dX6_count_1 (by have nc1 := z_ne (n := 0) (by decide) c1; have nc4 := z_ne (n := 1) (by decide) c4; have nc7 := z_ne (n := 2) (by decide) c7; have nc10 := z_ne (n := 3) (by decide) c10; have nc13 := z_ne (n := 4) (by decide) c13; have nc17 := z_ne (n := 5) (by decide) c17; have nc20 := z_ne (n := 6) (by decide) c20; have nc23 := z_ne (n := 7) (by decide) c23; omega) (by decide) ?_
  refine lv_ldc (v := (-1000001)) hx hb hown (hts _ wd_1_204) dX6_count_120 ?_
  obtain rfl := Option.some.inj h
  exact z_ri hc hI dX6_count_122
set_option maxRecDepth 100000 in
set_option maxHeartbeats 4000000 in
theorem c_X6_status {G : z_G} {l : Launch} {M : z_M} {out : Int32} (h : F_X6_status M = some out) : z_Met G l yX6_status cX6_status 1 (some .int) 1 [.ref (z_ad G 0 0)] M (some (.int out)) M := by
  unfold F_X6_status at h
  refine z_met_of (by decide) rfl (Nat.le_of_ble_eq_true rfl) (fun p e s m below meth c ls hc hI hl => ?_)
  obtain ⟨⟨hx, hb, hml, hown, hts⟩, hr, hlk⟩ := id hc
  have hl : lv_has ls 1 [(0, .ref (z_ad G 0 0))] := hl
  refine lv_aload_n hx hb dX6_status_0 rfl (lv_at hl 0 rfl) ?_
  refine gf_X6_55 hc hI dX6_status_1 ?_
  obtain rfl := Option.some.inj h
  exact z_ri hc hI dX6_status_4
end
