section
variable {p : Program} {l : Launch} {e : Env} {s : State} {m : MethodId} {args : Array Value} {below : List Frame} {meth : Method} {c : Code} {G : z_G}
set_option maxRecDepth 100000 in
set_option maxHeartbeats 4000000 in
theorem c_X5_hasTread {G : z_G} {l : Launch} {i : Nat} (hi : i < 29) {a1 : Int32} {M : z_M} {out : Int32} (h : F_X5_hasTread i a1 M = some out) : z_Met G l yX5_hasTread cX5_hasTread 2 (some .boolean) 1 [.ref (z_ad G 7 i), .int a1] M (some (.int out)) M := by
  unfold F_X5_hasTread at h
  refine z_met_of (by decide) rfl (Nat.le_of_ble_eq_true rfl) (fun p e s m below meth c ls hc hI hl => ?_)
  obtain ⟨⟨hx, hb, hml, hown, hts⟩, hr, hlk⟩ := id hc
  have hl : lv_has ls 2 [(0, .ref (z_ad G 7 i)), (1, .int a1)] := hl
  refine lv_iload_n hx hb dX5_hasTread_0 rfl (lv_at hl 1 rfl) ?_
  refine lv_if_lt (tgt := 16) hx hb dX5_hasTread_1 (by decide) (fun c1 => ?_) (fun c1 => ?_)
  · replace h := z_ift h c1
    refine lv_iconst (v := 0) hx hb dX5_hasTread_16 (by decide) ?_
    obtain rfl := Option.some.inj h
    exact z_rz (x := 0) hc hI (by decide) dX5_hasTread_17
  · replace h := z_iff h c1
    refine lv_iload_n hx hb dX5_hasTread_4 rfl (lv_at hl 1 rfl) ?_
    refine lv_aload_n hx hb dX5_hasTread_5 rfl (lv_at hl 0 rfl) ?_
    refine gf_X5_30 hi hc hI dX5_hasTread_6 ?_
    refine lv_icmp_ge (tgt := 16) hx hb dX5_hasTread_9 (by decide) (fun c2 => ?_) (fun c2 => ?_)
    · replace h := z_ift h c2
      refine lv_iconst (v := 0) hx hb dX5_hasTread_16 (by decide) ?_
      obtain rfl := Option.some.inj h
      exact z_rz (x := 0) hc hI (by decide) dX5_hasTread_17
    · replace h := z_iff h c2
      refine lv_iconst (v := 1) hx hb dX5_hasTread_12 (by decide) ?_
      refine lv_goto (tgt := 17) hx hb dX5_hasTread_13 (by decide) ?_
      obtain rfl := Option.some.inj h
      exact z_rz (x := 1) hc hI (by decide) dX5_hasTread_17
set_option maxRecDepth 100000 in
set_option maxHeartbeats 4000000 in
theorem c_X5_kindOf {G : z_G} {l : Launch} {i : Nat} (hi : i < 29) {a1 : Int32} {M : z_M} {out : Int32} (h : F_X5_kindOf i a1 M = some out) : z_Met G l yX5_kindOf cX5_kindOf 2 (some .int) 2 [.ref (z_ad G 7 i), .int a1] M (some (.int out)) M := by
  unfold F_X5_kindOf at h
  refine z_met_of (by decide) rfl (Nat.le_of_ble_eq_true rfl) (fun p e s m below meth c ls hc hI hl => ?_)
  obtain ⟨⟨hx, hb, hml, hown, hts⟩, hr, hlk⟩ := id hc
  have hl : lv_has ls 2 [(0, .ref (z_ad G 7 i)), (1, .int a1)] := hl
  refine lv_aload_n hx hb dX5_kindOf_0 rfl (lv_at hl 0 rfl) ?_
  refine lv_iload_n hx hb dX5_kindOf_1 rfl (lv_at hl 1 rfl) ?_
  obtain ⟨q1, e2, h⟩ := z_bnd h
  refine iv_X5_58 hi hc hI (c_X5_hasTread hi e2) (z_room (by decide) (by decide)) hl.1 (Nat.le_of_ble_eq_true rfl) ⟨Nat.zero_le _, Nat.zero_le _⟩ dX5_kindOf_2 (fun H locs hI => ?_)
  refine lv_if_eq (tgt := 17) hx hb dX5_kindOf_5 (by decide) (fun c3 => ?_) (fun c3 => ?_)
  · replace h := z_ift h c3
    refine lv_iconst (v := 0) hx hb dX5_kindOf_17 (by decide) ?_
    obtain rfl := Option.some.inj h
    exact z_ri hc hI dX5_kindOf_18
  · replace h := z_iff h c3
    refine lv_aload_n hx hb dX5_kindOf_8 rfl (lv_at hl 0 rfl) ?_
    refine gf_X5_9 hi hc hI dX5_kindOf_9 ?_
    refine lv_iload_n hx hb dX5_kindOf_12 rfl (lv_at hl 1 rfl) ?_
    obtain ⟨g4, h⟩ := z_grd_some h
    refine ld_k8 hi hc hI g4 dX5_kindOf_13 ?_
    refine lv_goto (tgt := 18) hx hb dX5_kindOf_14 (by decide) ?_
    obtain rfl := Option.some.inj h
    exact z_ri hc hI dX5_kindOf_18
set_option maxRecDepth 100000 in
set_option maxHeartbeats 4000000 in
theorem c_X5_noteOf {G : z_G} {l : Launch} {i : Nat} (hi : i < 29) {a1 : Int32} {M : z_M} {out : Int32} (h : F_X5_noteOf i a1 M = some out) : z_Met G l yX5_noteOf cX5_noteOf 2 (some .int) 2 [.ref (z_ad G 7 i), .int a1] M (some (.int out)) M := by
  unfold F_X5_noteOf at h
  refine z_met_of (by decide) rfl (Nat.le_of_ble_eq_true rfl) (fun p e s m below meth c ls hc hI hl => ?_)
  obtain ⟨⟨hx, hb, hml, hown, hts⟩, hr, hlk⟩ := id hc
  have hl : lv_has ls 2 [(0, .ref (z_ad G 7 i)), (1, .int a1)] := hl
  refine lv_aload_n hx hb dX5_noteOf_0 rfl (lv_at hl 0 rfl) ?_
  refine lv_iload_n hx hb dX5_noteOf_1 rfl (lv_at hl 1 rfl) ?_
  obtain ⟨q1, e2, h⟩ := z_bnd h
  refine iv_X5_58 hi hc hI (c_X5_hasTread hi e2) (z_room (by decide) (by decide)) hl.1 (Nat.le_of_ble_eq_true rfl) ⟨Nat.zero_le _, Nat.zero_le _⟩ dX5_noteOf_2 (fun H locs hI => ?_)
  refine lv_if_eq (tgt := 17) hx hb dX5_noteOf_5 (by decide) (fun c3 => ?_) (fun c3 => ?_)
  · replace h := z_ift h c3
    refine lv_iconst (v := 0) hx hb dX5_noteOf_17 (by decide) ?_
    obtain rfl := Option.some.inj h
    exact z_ri hc hI dX5_noteOf_18
  · replace h := z_iff h c3
    refine lv_aload_n hx hb dX5_noteOf_8 rfl (lv_at hl 0 rfl) ?_
    refine gf_X5_15 hi hc hI dX5_noteOf_9 ?_
    refine lv_iload_n hx hb dX5_noteOf_12 rfl (lv_at hl 1 rfl) ?_
    obtain ⟨g4, h⟩ := z_grd_some h
    refine ld_k9 hi hc hI g4 dX5_noteOf_13 ?_
    refine lv_goto (tgt := 18) hx hb dX5_noteOf_14 (by decide) ?_
    obtain rfl := Option.some.inj h
    exact z_ri hc hI dX5_noteOf_18
set_option maxRecDepth 100000 in
set_option maxHeartbeats 4000000 in
theorem c_X5_wornOf {G : z_G} {l : Launch} {i : Nat} (hi : i < 29) {a1 : Int32} {M : z_M} {out : Int32} (h : F_X5_wornOf i a1 M = some out) : z_Met G l yX5_wornOf cX5_wornOf 2 (some .int) 2 [.ref (z_ad G 7 i), .int a1] M (some (.int out)) M := by
  unfold F_X5_wornOf at h
  refine z_met_of (by decide) rfl (Nat.le_of_ble_eq_true rfl) (fun p e s m below meth c ls hc hI hl => ?_)
  obtain ⟨⟨hx, hb, hml, hown, hts⟩, hr, hlk⟩ := id hc
  have hl : lv_has ls 2 [(0, .ref (z_ad G 7 i)), (1, .int a1)] := hl
  refine lv_aload_n hx hb dX5_wornOf_0 rfl (lv_at hl 0 rfl) ?_
  refine lv_iload_n hx hb dX5_wornOf_1 rfl (lv_at hl 1 rfl) ?_
  obtain ⟨q1, e2, h⟩ := z_bnd h
  refine iv_X5_58 hi hc hI (c_X5_hasTread hi e2) (z_room (by decide) (by decide)) hl.1 (Nat.le_of_ble_eq_true rfl) ⟨Nat.zero_le _, Nat.zero_le _⟩ dX5_wornOf_2 (fun H locs hI => ?_)
  refine lv_if_eq (tgt := 17) hx hb dX5_wornOf_5 (by decide) (fun c3 => ?_) (fun c3 => ?_)
  · replace h := z_ift h c3
    refine lv_iconst (v := 0) hx hb dX5_wornOf_17 (by decide) ?_
    obtain rfl := Option.some.inj h
    exact z_ri hc hI dX5_wornOf_18
  · replace h := z_iff h c3
    refine lv_aload_n hx hb dX5_wornOf_8 rfl (lv_at hl 0 rfl) ?_
    refine gf_X5_18 hi hc hI dX5_wornOf_9 ?_
    refine lv_iload_n hx hb dX5_wornOf_12 rfl (lv_at hl 1 rfl) ?_
    obtain ⟨g4, h⟩ := z_grd_some h
    refine ld_k10 hi hc hI g4 dX5_wornOf_13 ?_
    refine lv_goto (tgt := 18) hx hb dX5_wornOf_14 (by decide) ?_
    obtain rfl := Option.some.inj h
    exact z_ri hc hI dX5_wornOf_18
set_option maxRecDepth 100000 in
set_option maxHeartbeats 4000000 in
theorem c_X5_take {G : z_G} {l : Launch} {i : Nat} (hi : i < 29) {o1 : Option Nat} (ho : ∀ j, o1 = some j → j < 29) {M : z_M} {out : z_M} (h : F_X5_take i o1 M = some out) : z_Met G l yX5_take cX5_take 2 none 1 [.ref (z_ad G 7 i), z_ov G o1] M (none) out := by
  unfold F_X5_take at h
  refine z_met_of (by decide) rfl (by cases o1 <;> exact Nat.le_of_ble_eq_true rfl) (fun p e s m below meth c ls hc hI hl => ?_)
  obtain ⟨⟨hx, hb, hml, hown, hts⟩, hr, hlk⟩ := id hc
  cases o1 with
  | none =>
    replace h := z_opt_none h
    have hl : lv_has ls 2 [(0, .ref (z_ad G 7 i)), (1, .null)] := hl
    refine lv_aload_nN hx hb dX5_take_0 rfl (lv_at hl 1 rfl) ?_
    refine lv_ifnonnullN hx hb dX5_take_1 ?_
    obtain rfl := Option.some.inj h
    exact z_rv hc hI dX5_take_4
  | some j1 =>
    replace h := z_opt_some h
    have hj1 := ho j1 rfl
    have hl : lv_has ls 2 [(0, .ref (z_ad G 7 i)), (1, .ref (z_ad G 7 j1))] := hl
    refine lv_aload_n hx hb dX5_take_0 rfl (lv_at hl 1 rfl) ?_
    refine lv_ifnonnull (tgt := 5) hx hb dX5_take_1 (by decide) ?_
    refine lv_aload_n hx hb dX5_take_5 rfl (lv_at hl 1 rfl) ?_
    refine gf_X5_9 hj1 hc hI dX5_take_6 ?_
    refine lv_iconst (v := 0) hx hb dX5_take_9 (by decide) ?_
    refine lv_aload_n hx hb dX5_take_10 rfl (lv_at hl 0 rfl) ?_
    refine gf_X5_9 hi hc hI dX5_take_11 ?_
    refine lv_iconst (v := 0) hx hb dX5_take_14 (by decide) ?_
    refine lv_bipush (v := 8) hx hb dX5_take_15 (by decide) ?_
    obtain ⟨g1, h⟩ := z_grd_some h
    refine ac_X5_24 (z_ixT8 hj1) (z_ixT8 hi) (fun _ _ => rfl) (fun _ _ => rfl) hc hI hl.1 g1 (z_frm (by decide)) (z_lrn (Nat.le_of_ble_eq_true rfl)) dX5_take_17 (fun H locs hI => ?_)
    refine lv_aload_n hx hb dX5_take_20 rfl (lv_at hl 1 rfl) ?_
    refine gf_X5_15 hj1 hc hI dX5_take_21 ?_
    refine lv_iconst (v := 0) hx hb dX5_take_24 (by decide) ?_
    refine lv_aload_n hx hb dX5_take_25 rfl (lv_at hl 0 rfl) ?_
    refine gf_X5_15 hi hc hI dX5_take_26 ?_
    refine lv_iconst (v := 0) hx hb dX5_take_29 (by decide) ?_
    refine lv_bipush (v := 8) hx hb dX5_take_30 (by decide) ?_
    obtain ⟨g2, h⟩ := z_grd_some h
    obtain ⟨M3, h, hI⟩ := z_nM h hI
    refine ac_X5_24 (z_ixT9 hj1) (z_ixT9 hi) (fun _ _ => rfl) (fun _ _ => rfl) hc hI hl.1 g2 (z_frm (by decide)) (z_lrn (Nat.le_of_ble_eq_true rfl)) dX5_take_32 (fun H locs hI => ?_)
    refine lv_aload_n hx hb dX5_take_35 rfl (lv_at hl 1 rfl) ?_
    refine gf_X5_18 hj1 hc hI dX5_take_36 ?_
    refine lv_iconst (v := 0) hx hb dX5_take_39 (by decide) ?_
    refine lv_aload_n hx hb dX5_take_40 rfl (lv_at hl 0 rfl) ?_
    refine gf_X5_18 hi hc hI dX5_take_41 ?_
    refine lv_iconst (v := 0) hx hb dX5_take_44 (by decide) ?_
    refine lv_bipush (v := 8) hx hb dX5_take_45 (by decide) ?_
    obtain ⟨g4, h⟩ := z_grd_some h
    obtain ⟨M5, h, hI⟩ := z_nM h hI
    refine ac_X5_24 (z_ixT10 hj1) (z_ixT10 hi) (fun _ _ => rfl) (fun _ _ => rfl) hc hI hl.1 g4 (z_frm (by decide)) (z_lrn (Nat.le_of_ble_eq_true rfl)) dX5_take_47 (fun H locs hI => ?_)
    refine lv_aload_n hx hb dX5_take_50 rfl (lv_at hl 1 rfl) ?_
    refine gf_X5_21 hj1 hc hI dX5_take_51 ?_
    refine lv_iconst (v := 0) hx hb dX5_take_54 (by decide) ?_
    refine lv_aload_n hx hb dX5_take_55 rfl (lv_at hl 0 rfl) ?_
    refine gf_X5_21 hi hc hI dX5_take_56 ?_
    refine lv_iconst (v := 0) hx hb dX5_take_59 (by decide) ?_
    refine lv_bipush (v := 20) hx hb dX5_take_60 (by decide) ?_
    obtain ⟨g6, h⟩ := z_grd_some h
    obtain ⟨M7, h, hI⟩ := z_nM h hI
    refine ac_X5_24 (z_ixT11 hj1) (z_ixT11 hi) (fun _ _ => rfl) (fun _ _ => rfl) hc hI hl.1 g6 (z_frm (by decide)) (z_lrn (Nat.le_of_ble_eq_true rfl)) dX5_take_62 (fun H locs hI => ?_)
    refine lv_aload_n hx hb dX5_take_65 rfl (lv_at hl 0 rfl) ?_
    refine lv_aload_n hx hb dX5_take_66 rfl (lv_at hl 1 rfl) ?_
    obtain ⟨M8, h, hI⟩ := z_nM h hI
    refine gf_X5_30 hj1 hc hI dX5_take_67 ?_
    refine pf_X5_30 hi hc hI dX5_take_70 (fun H locs hI => ?_)
    refine lv_aload_n hx hb dX5_take_73 rfl (lv_at hl 0 rfl) ?_
    refine lv_aload_n hx hb dX5_take_74 rfl (lv_at hl 1 rfl) ?_
    obtain ⟨M9, h, hI⟩ := z_nM h hI
    refine gf_X5_34 hj1 hc hI dX5_take_75 ?_
    refine pf_X5_34 hi hc hI dX5_take_78 (fun H locs hI => ?_)
    refine lv_aload_n hx hb dX5_take_81 rfl (lv_at hl 0 rfl) ?_
    refine lv_aload_n hx hb dX5_take_82 rfl (lv_at hl 1 rfl) ?_
    obtain ⟨M10, h, hI⟩ := z_nM h hI
    refine gf_X5_37 hj1 hc hI dX5_take_83 ?_
    refine pf_X5_37 hi hc hI dX5_take_86 (fun H locs hI => ?_)
    refine lv_aload_n hx hb dX5_take_89 rfl (lv_at hl 0 rfl) ?_
    refine lv_aload_n hx hb dX5_take_90 rfl (lv_at hl 1 rfl) ?_
    obtain ⟨M11, h, hI⟩ := z_nM h hI
    refine gf_X5_40 hj1 hc hI dX5_take_91 ?_
    refine pf_X5_40 hi hc hI dX5_take_94 (fun H locs hI => ?_)
    refine lv_aload_n hx hb dX5_take_97 rfl (lv_at hl 0 rfl) ?_
    refine lv_aload_n hx hb dX5_take_98 rfl (lv_at hl 1 rfl) ?_
    obtain ⟨M12, h, hI⟩ := z_nM h hI
    refine gf_X5_43 hj1 hc hI dX5_take_99 ?_
    refine pf_X5_43 hi hc hI dX5_take_102 (fun H locs hI => ?_)
    obtain rfl := Option.some.inj h
    exact z_rv hc hI dX5_take_105
set_option maxRecDepth 100000 in
set_option maxHeartbeats 4000000 in
theorem c_X5_begin {G : z_G} {l : Launch} {i : Nat} (hi : i < 29) {a1 : Int32} {a2 : Int32} {M : z_M} {out : z_M} (h : F_X5_begin i a1 a2 M = some out) : z_Met G l yX5_begin cX5_begin 3 none 1 [.ref (z_ad G 7 i), .int a1, .int a2] M (none) out := by
  unfold F_X5_begin at h
  refine z_met_of (by decide) rfl (Nat.le_of_ble_eq_true rfl) (fun p e s m below meth c ls hc hI hl => ?_)
  obtain ⟨⟨hx, hb, hml, hown, hts⟩, hr, hlk⟩ := id hc
  have hl : lv_has ls 3 [(0, .ref (z_ad G 7 i)), (1, .int a1), (2, .int a2)] := hl
  refine lv_aload_n hx hb dX5_begin_0 rfl (lv_at hl 0 rfl) ?_
  refine lv_iload_n hx hb dX5_begin_1 rfl (lv_at hl 1 rfl) ?_
  refine pf_X5_37 hi hc hI dX5_begin_2 (fun H locs hI => ?_)
  refine lv_aload_n hx hb dX5_begin_5 rfl (lv_at hl 0 rfl) ?_
  refine lv_iload_n hx hb dX5_begin_6 rfl (lv_at hl 2 rfl) ?_
  obtain ⟨M1, h, hI⟩ := z_nM h hI
  refine pf_X5_40 hi hc hI dX5_begin_7 (fun H locs hI => ?_)
  refine lv_aload_n hx hb dX5_begin_10 rfl (lv_at hl 0 rfl) ?_
  refine lv_iconst (v := 0) hx hb dX5_begin_11 (by decide) ?_
  obtain ⟨M2, h, hI⟩ := z_nM h hI
  refine pf_X5_43 hi hc hI dX5_begin_12 (fun H locs hI => ?_)
  refine lv_aload_n hx hb dX5_begin_15 rfl (lv_at hl 0 rfl) ?_
  refine lv_iconst (v := 0) hx hb dX5_begin_16 (by decide) ?_
  obtain ⟨M3, h, hI⟩ := z_nM h hI
  refine pf_X5_30 hi hc hI dX5_begin_17 (fun H locs hI => ?_)
  refine lv_aload_n hx hb dX5_begin_20 rfl (lv_at hl 0 rfl) ?_
  refine lv_iconst (v := 0) hx hb dX5_begin_21 (by decide) ?_
  obtain ⟨M4, h, hI⟩ := z_nM h hI
  refine pf_X5_34 hi hc hI dX5_begin_22 (fun H locs hI => ?_)
  obtain rfl := Option.some.inj h
  exact z_rv hc hI dX5_begin_25
set_option maxRecDepth 100000 in
set_option maxHeartbeats 4000000 in
theorem c_X5_addTread {G : z_G} {l : Launch} {i : Nat} (hi : i < 29) {a1 : Int32} {a2 : Int32} {M : z_M} {out : z_M} (h : F_X5_addTread i a1 a2 M = some out) : z_Met G l yX5_addTread cX5_addTread 3 none 1 [.ref (z_ad G 7 i), .int a1, .int a2] M (none) out := by
  unfold F_X5_addTread at h
  refine z_met_of (by decide) rfl (Nat.le_of_ble_eq_true rfl) (fun p e s m below meth c ls hc hI hl => ?_)
  obtain ⟨⟨hx, hb, hml, hown, hts⟩, hr, hlk⟩ := id hc
  have hl : lv_has ls 3 [(0, .ref (z_ad G 7 i)), (1, .int a1), (2, .int a2)] := hl
  refine lv_aload_n hx hb dX5_addTread_0 rfl (lv_at hl 0 rfl) ?_
  refine gf_X5_30 hi hc hI dX5_addTread_1 ?_
  refine lv_if_lt (tgt := 16) hx hb dX5_addTread_4 (by decide) (fun c1 => ?_) (fun c1 => ?_)
  · replace h := z_ift h c1
    obtain rfl := Option.some.inj h
    exact z_rv hc hI dX5_addTread_16
  · replace h := z_iff h c1
    refine lv_aload_n hx hb dX5_addTread_7 rfl (lv_at hl 0 rfl) ?_
    refine gf_X5_30 hi hc hI dX5_addTread_8 ?_
    refine lv_bipush (v := 8) hx hb dX5_addTread_11 (by decide) ?_
    refine lv_icmp_lt (tgt := 17) hx hb dX5_addTread_13 (by decide) (fun c2 => ?_) (fun c2 => ?_)
    · replace h := z_ift h c2
      refine lv_aload_n hx hb dX5_addTread_17 rfl (lv_at hl 0 rfl) ?_
      refine gf_X5_9 hi hc hI dX5_addTread_18 ?_
      refine lv_aload_n hx hb dX5_addTread_21 rfl (lv_at hl 0 rfl) ?_
      refine gf_X5_30 hi hc hI dX5_addTread_22 ?_
      refine lv_iload_n hx hb dX5_addTread_25 rfl (lv_at hl 1 rfl) ?_
      obtain ⟨g3, h⟩ := z_grd_some h
      refine st_k8 hi hc hI g3 dX5_addTread_26 (fun H locs hI => ?_)
      refine lv_aload_n hx hb dX5_addTread_27 rfl (lv_at hl 0 rfl) ?_
      refine gf_X5_15 hi hc hI dX5_addTread_28 ?_
      refine lv_aload_n hx hb dX5_addTread_31 rfl (lv_at hl 0 rfl) ?_
      obtain ⟨M4, h, hI⟩ := z_nM h hI
      refine gf_X5_30 hi hc hI dX5_addTread_32 ?_
      refine lv_iload_n hx hb dX5_addTread_35 rfl (lv_at hl 2 rfl) ?_
      obtain ⟨g5, h⟩ := z_grd_some h
      refine st_k9 hi hc hI g5 dX5_addTread_36 (fun H locs hI => ?_)
      refine lv_aload_n hx hb dX5_addTread_37 rfl (lv_at hl 0 rfl) ?_
      refine gf_X5_18 hi hc hI dX5_addTread_38 ?_
      refine lv_aload_n hx hb dX5_addTread_41 rfl (lv_at hl 0 rfl) ?_
      obtain ⟨M6, h, hI⟩ := z_nM h hI
      refine gf_X5_30 hi hc hI dX5_addTread_42 ?_
      refine lv_iconst (v := 0) hx hb dX5_addTread_45 (by decide) ?_
      obtain ⟨g7, h⟩ := z_grd_some h
      refine st_k10 hi hc hI g7 dX5_addTread_46 (fun H locs hI => ?_)
      refine lv_aload_n hx hb dX5_addTread_47 rfl (lv_at hl 0 rfl) ?_
      refine lv_dup hx hb dX5_addTread_48 rfl ?_
      obtain ⟨M8, h, hI⟩ := z_nM h hI
      refine gf_X5_30 hi hc hI dX5_addTread_49 ?_
      refine lv_iconst (v := 1) hx hb dX5_addTread_52 (by decide) ?_
      refine lv_iadd hx hb dX5_addTread_53 ?_
      refine pf_X5_30 hi hc hI dX5_addTread_54 (fun H locs hI => ?_)
      obtain rfl := Option.some.inj h
      exact z_rv hc hI dX5_addTread_57
    · replace h := z_iff h c2
      obtain rfl := Option.some.inj h
      exact z_rv hc hI dX5_addTread_16
set_option maxRecDepth 100000 in
set_option maxHeartbeats 4000000 in
theorem c_X5_addWalker {G : z_G} {l : Launch} {i : Nat} (hi : i < 29) {M : z_M} {out : z_M} (h : F_X5_addWalker i M = some out) : z_Met G l yX5_addWalker cX5_addWalker 1 none 1 [.ref (z_ad G 7 i)] M (none) out := by
  unfold F_X5_addWalker at h
  refine z_met_of (by decide) rfl (Nat.le_of_ble_eq_true rfl) (fun p e s m below meth c ls hc hI hl => ?_)
  obtain ⟨⟨hx, hb, hml, hown, hts⟩, hr, hlk⟩ := id hc
  have hl : lv_has ls 1 [(0, .ref (z_ad G 7 i))] := hl
  refine lv_aload_n hx hb dX5_addWalker_0 rfl (lv_at hl 0 rfl) ?_
  refine gf_X5_34 hi hc hI dX5_addWalker_1 ?_
  refine lv_iconst (v := 5) hx hb dX5_addWalker_4 (by decide) ?_
  refine lv_icmp_ge (tgt := 18) hx hb dX5_addWalker_5 (by decide) (fun c1 => ?_) (fun c1 => ?_)
  · replace h := z_ift h c1
    obtain rfl := Option.some.inj h
    exact z_rv hc hI dX5_addWalker_18
  · replace h := z_iff h c1
    refine lv_aload_n hx hb dX5_addWalker_8 rfl (lv_at hl 0 rfl) ?_
    refine lv_dup hx hb dX5_addWalker_9 rfl ?_
    refine gf_X5_34 hi hc hI dX5_addWalker_10 ?_
    refine lv_iconst (v := 1) hx hb dX5_addWalker_13 (by decide) ?_
    refine lv_iadd hx hb dX5_addWalker_14 ?_
    refine pf_X5_34 hi hc hI dX5_addWalker_15 (fun H locs hI => ?_)
    obtain rfl := Option.some.inj h
    exact z_rv hc hI dX5_addWalker_18
set_option maxRecDepth 100000 in
set_option maxHeartbeats 4000000 in
theorem c_X5_leastOf {G : z_G} {l : Launch} {i : Nat} (hi : i < 29) {a1 : Int32} {M : z_M} {out : Int32} (h : F_X5_leastOf i a1 M = some out) : z_Met G l yX5_leastOf cX5_leastOf 2 (some .int) 1 [.ref (z_ad G 7 i), .int a1] M (some (.int out)) M := by
  unfold F_X5_leastOf at h
  refine z_met_of (by decide) rfl (Nat.le_of_ble_eq_true rfl) (fun p e s m below meth c ls hc hI hl => ?_)
  obtain ⟨⟨hx, hb, hml, hown, hts⟩, hr, hlk⟩ := id hc
  have hl : lv_has ls 2 [(0, .ref (z_ad G 7 i)), (1, .int a1)] := hl
  refine lv_iload_n hx hb dX5_leastOf_0 rfl (lv_at hl 1 rfl) ?_
  refine lv_iconst (v := 2) hx hb dX5_leastOf_1 (by decide) ?_
  refine lv_icmp_ne (tgt := 9) hx hb dX5_leastOf_2 (by decide) (fun c1 => ?_) (fun c1 => ?_)
  · replace h := z_iff h c1
    refine lv_iconst (v := 0) hx hb dX5_leastOf_9 (by decide) ?_
    obtain rfl := Option.some.inj h
    exact z_ri hc hI dX5_leastOf_10
  · replace h := z_ift h c1
    refine lv_iconst (v := 1) hx hb dX5_leastOf_5 (by decide) ?_
    refine lv_goto (tgt := 10) hx hb dX5_leastOf_6 (by decide) ?_
    obtain rfl := Option.some.inj h
    exact z_ri hc hI dX5_leastOf_10
set_option maxRecDepth 100000 in
set_option maxHeartbeats 4000000 in
theorem c_X5_mostOf {G : z_G} {l : Launch} {i : Nat} (hi : i < 29) {a1 : Int32} {M : z_M} {out : Int32} (h : F_X5_mostOf i a1 M = some out) : z_Met G l yX5_mostOf cX5_mostOf 2 (some .int) 1 [.ref (z_ad G 7 i), .int a1] M (some (.int out)) M := by
  unfold F_X5_mostOf at h
  refine z_met_of (by decide) rfl (Nat.le_of_ble_eq_true rfl) (fun p e s m below meth c ls hc hI hl => ?_)
  obtain ⟨⟨hx, hb, hml, hown, hts⟩, hr, hlk⟩ := id hc
  have hl : lv_has ls 2 [(0, .ref (z_ad G 7 i)), (1, .int a1)] := hl
  refine lv_iload_n hx hb dX5_mostOf_0 rfl (lv_at hl 1 rfl) ?_
  by_cases c1 : a1 = 2
  · replace h := z_ift h c1
    refine lv_lookup (off := 27) (tgt := 28) hx hb dX5_mostOf_1 (by decide) (by rw [c1]; decide) (by decide) ?_
    refine lv_iconst (v := 3) hx hb dX5_mostOf_28 (by decide) ?_
    obtain rfl := Option.some.inj h
    exact z_ri hc hI dX5_mostOf_29
  replace h := z_iff h c1
  by_cases c2 : a1 = 3
  · replace h := z_ift h c2
    refine lv_lookup (off := 29) (tgt := 30) hx hb dX5_mostOf_1 (by decide) (by rw [c2]; decide) (by decide) ?_
    refine lv_bipush (v := 20) hx hb dX5_mostOf_30 (by decide) ?_
    obtain rfl := Option.some.inj h
    exact z_ri hc hI dX5_mostOf_32
  replace h := z_iff h c2
  refine lv_lookup (off := 32) (tgt := 33) hx hb dX5_mostOf_1 (by decide) (by have nc1 := (z_ne (n := 2) (by decide) c1).symm; have nc2 := (z_ne (n := 3) (by decide) c2).symm; simp [Op.lookupswitch.offset, *]) (by decide) ?_
  refine lv_aload_n hx hb dX5_mostOf_33 rfl (lv_at hl 0 rfl) ?_
  refine gf_X5_30 hi hc hI dX5_mostOf_34 ?_
  refine lv_iconst (v := 1) hx hb dX5_mostOf_37 (by decide) ?_
  refine lv_isub hx hb dX5_mostOf_38 ?_
  obtain rfl := Option.some.inj h
  exact z_ri hc hI dX5_mostOf_39
set_option maxRecDepth 100000 in
set_option maxHeartbeats 4000000 in
theorem c_X5_hasWalker {G : z_G} {l : Launch} {i : Nat} (hi : i < 29) {a1 : Int32} {M : z_M} {out : Int32} (h : F_X5_hasWalker i a1 M = some out) : z_Met G l yX5_hasWalker cX5_hasWalker 2 (some .boolean) 1 [.ref (z_ad G 7 i), .int a1] M (some (.int out)) M := by
  unfold F_X5_hasWalker at h
  refine z_met_of (by decide) rfl (Nat.le_of_ble_eq_true rfl) (fun p e s m below meth c ls hc hI hl => ?_)
  obtain ⟨⟨hx, hb, hml, hown, hts⟩, hr, hlk⟩ := id hc
  have hl : lv_has ls 2 [(0, .ref (z_ad G 7 i)), (1, .int a1)] := hl
  refine lv_iload_n hx hb dX5_hasWalker_0 rfl (lv_at hl 1 rfl) ?_
  refine lv_if_lt (tgt := 16) hx hb dX5_hasWalker_1 (by decide) (fun c1 => ?_) (fun c1 => ?_)
  · replace h := z_ift h c1
    refine lv_iconst (v := 0) hx hb dX5_hasWalker_16 (by decide) ?_
    obtain rfl := Option.some.inj h
    exact z_rz (x := 0) hc hI (by decide) dX5_hasWalker_17
  · replace h := z_iff h c1
    refine lv_iload_n hx hb dX5_hasWalker_4 rfl (lv_at hl 1 rfl) ?_
    refine lv_aload_n hx hb dX5_hasWalker_5 rfl (lv_at hl 0 rfl) ?_
    refine gf_X5_34 hi hc hI dX5_hasWalker_6 ?_
    refine lv_icmp_ge (tgt := 16) hx hb dX5_hasWalker_9 (by decide) (fun c2 => ?_) (fun c2 => ?_)
    · replace h := z_ift h c2
      refine lv_iconst (v := 0) hx hb dX5_hasWalker_16 (by decide) ?_
      obtain rfl := Option.some.inj h
      exact z_rz (x := 0) hc hI (by decide) dX5_hasWalker_17
    · replace h := z_iff h c2
      refine lv_iconst (v := 1) hx hb dX5_hasWalker_12 (by decide) ?_
      refine lv_goto (tgt := 17) hx hb dX5_hasWalker_13 (by decide) ?_
      obtain rfl := Option.some.inj h
      exact z_rz (x := 1) hc hI (by decide) dX5_hasWalker_17
set_option maxRecDepth 100000 in
set_option maxHeartbeats 4000000 in
theorem c_X5_setPart {G : z_G} {l : Launch} {i : Nat} (hi : i < 29) {a1 : Int32} {a2 : Int32} {a3 : Int32} {M : z_M} {out : z_M} (h : F_X5_setPart i a1 a2 a3 M = some out) : z_Met G l yX5_setPart cX5_setPart 4 none 2 [.ref (z_ad G 7 i), .int a1, .int a2, .int a3] M (none) out := by
  unfold F_X5_setPart at h
  refine z_met_of (by decide) rfl (Nat.le_of_ble_eq_true rfl) (fun p e s m below meth c ls hc hI hl => ?_)
  obtain ⟨⟨hx, hb, hml, hown, hts⟩, hr, hlk⟩ := id hc
  have hl : lv_has ls 4 [(0, .ref (z_ad G 7 i)), (1, .int a1), (2, .int a2), (3, .int a3)] := hl
  refine lv_aload_n hx hb dX5_setPart_0 rfl (lv_at hl 0 rfl) ?_
  refine lv_iload_n hx hb dX5_setPart_1 rfl (lv_at hl 1 rfl) ?_
  obtain ⟨q1, e2, h⟩ := z_bnd h
  refine iv_X5_53 hi hc hI (c_X5_hasWalker hi e2) (z_room (by decide) (by decide)) hl.1 (Nat.le_of_ble_eq_true rfl) ⟨Nat.zero_le _, Nat.zero_le _⟩ dX5_setPart_2 (fun H locs hI => ?_)
  refine lv_if_eq (tgt := 28) hx hb dX5_setPart_5 (by decide) (fun c3 => ?_) (fun c3 => ?_)
  · replace h := z_ift h c3
    obtain rfl := Option.some.inj h
    exact z_rv hc hI dX5_setPart_28
  · replace h := z_iff h c3
    refine lv_iload_n hx hb dX5_setPart_8 rfl (lv_at hl 2 rfl) ?_
    refine lv_if_lt (tgt := 28) hx hb dX5_setPart_9 (by decide) (fun c4 => ?_) (fun c4 => ?_)
    · replace h := z_ift h c4
      obtain rfl := Option.some.inj h
      exact z_rv hc hI dX5_setPart_28
    · replace h := z_iff h c4
      refine lv_iload_n hx hb dX5_setPart_12 rfl (lv_at hl 2 rfl) ?_
      refine lv_iconst (v := 4) hx hb dX5_setPart_13 (by decide) ?_
      refine lv_icmp_ge (tgt := 28) hx hb dX5_setPart_14 (by decide) (fun c5 => ?_) (fun c5 => ?_)
      · replace h := z_ift h c5
        obtain rfl := Option.some.inj h
        exact z_rv hc hI dX5_setPart_28
      · replace h := z_iff h c5
        refine lv_aload_n hx hb dX5_setPart_17 rfl (lv_at hl 0 rfl) ?_
        refine gf_X5_21 hi hc hI dX5_setPart_18 ?_
        refine lv_iload_n hx hb dX5_setPart_21 rfl (lv_at hl 1 rfl) ?_
        refine lv_iconst (v := 4) hx hb dX5_setPart_22 (by decide) ?_
        refine lv_imul hx hb dX5_setPart_23 ?_
        refine lv_iload_n hx hb dX5_setPart_24 rfl (lv_at hl 2 rfl) ?_
        refine lv_iadd hx hb dX5_setPart_25 ?_
        refine lv_iload_n hx hb dX5_setPart_26 rfl (lv_at hl 3 rfl) ?_
        obtain ⟨g6, h⟩ := z_grd_some h
        refine st_k11 hi hc hI g6 dX5_setPart_27 (fun H locs hI => ?_)
        obtain rfl := Option.some.inj h
        exact z_rv hc hI dX5_setPart_28
set_option maxRecDepth 100000 in
set_option maxHeartbeats 4000000 in
theorem w_X5_treadOf_b83 {i : Nat} (hi : i < 29) {M : z_M} (hc : z_C p s m args meth c RX5 cX5_treadOf 8 (some .int)) {out : Int32} (v2 : Int32) (v3 : Int32) (v4 : Int32) (v5 : Int32) (v6 : Int32) (H : Heap) (locs : List Loc) (ls : Array Slot) (h : F_X5_treadOf_b83 i M v2 v3 v4 v5 v6 = some out) (hI : z_I G s M H locs) (hl : lv_has ls 8 [(2, .int v2), (3, .int v3), (4, .int v4), (5, .int v5), (6, .int v6)]) : W p l e (z_rm 2) s m args below meth c H locs 0 0 (MQ below (z_Q G (some (.int out)) M) args s 0 0 (z_A G)) (F0 m 83 ls []) := by
  obtain ⟨⟨hx, hb, hml, hown, hts⟩, hr, hlk⟩ := id hc
  unfold F_X5_treadOf_b83 at h
  refine lv_iload_n hx hb dX5_treadOf_83 rfl (lv_at hl 0 rfl) ?_
  refine lv_iload hx hb dX5_treadOf_84 (lv_at hl 3 rfl) ?_
  refine lv_imul hx hb dX5_treadOf_86 ?_
  refine lv_iload hx hb dX5_treadOf_87 (lv_at hl 4 rfl) ?_
  refine mt_X5_84 hc hl.1 (z_frm (by decide)) (z_lrm (Nat.le_of_ble_eq_true rfl)) ⟨Nat.zero_le _, Nat.zero_le _⟩ dX5_treadOf_89 ?_
  refine z_nI h (fun x14 h => ?_)
  refine lv_istore (lv' := [(7, .int x14), (2, .int v2), (3, .int v3), (4, .int v4), (5, .int v5), (6, .int v6)]) hx hb dX5_treadOf_92 hl (by decide) rfl (fun ls hl => ?_)
  refine lv_iload hx hb dX5_treadOf_94 (lv_at hl 3 rfl) ?_
  refine lv_iload_n hx hb dX5_treadOf_96 rfl (lv_at hl 2 rfl) ?_
  refine lv_icmp_le (tgt := 107) hx hb dX5_treadOf_97 (by decide) (fun c15 => ?_) (fun c15 => ?_)
  · replace h := z_ift h c15
    refine lv_iload_n hx hb dX5_treadOf_107 rfl (lv_at hl 2 rfl) ?_
    refine lv_iload hx hb dX5_treadOf_108 (lv_at hl 0 rfl) ?_
    refine lv_isub hx hb dX5_treadOf_110 ?_
    obtain rfl := Option.some.inj h
    exact z_ri hc hI dX5_treadOf_111
  · replace h := z_iff h c15
    refine lv_iload_n hx hb dX5_treadOf_100 rfl (lv_at hl 2 rfl) ?_
    refine lv_iload hx hb dX5_treadOf_101 (lv_at hl 0 rfl) ?_
    refine lv_iadd hx hb dX5_treadOf_103 ?_
    refine lv_goto (tgt := 111) hx hb dX5_treadOf_104 (by decide) ?_
    obtain rfl := Option.some.inj h
    exact z_ri hc hI dX5_treadOf_111
set_option maxRecDepth 100000 in
set_option maxHeartbeats 4000000 in
theorem c_X5_treadOf {G : z_G} {l : Launch} {i : Nat} (hi : i < 29) {a1 : Int32} {a2 : Int32} {M : z_M} {out : Int32} (h : F_X5_treadOf i a1 a2 M = some out) : z_Met G l yX5_treadOf cX5_treadOf 8 (some .int) 2 [.ref (z_ad G 7 i), .int a1, .int a2] M (some (.int out)) M := by
  unfold F_X5_treadOf at h
  refine z_met_of (by decide) rfl (Nat.le_of_ble_eq_true rfl) (fun p e s m below meth c ls hc hI hl => ?_)
  obtain ⟨⟨hx, hb, hml, hown, hts⟩, hr, hlk⟩ := id hc
  have hl : lv_has ls 8 [(0, .ref (z_ad G 7 i)), (1, .int a1), (2, .int a2)] := hl
  refine lv_aload_n hx hb dX5_treadOf_0 rfl (lv_at hl 0 rfl) ?_
  refine lv_iload_n hx hb dX5_treadOf_1 rfl (lv_at hl 1 rfl) ?_
  obtain ⟨q1, e2, h⟩ := z_bnd h
  refine iv_X5_53 hi hc hI (c_X5_hasWalker hi e2) (z_room (by decide) (by decide)) hl.1 (Nat.le_of_ble_eq_true rfl) ⟨Nat.zero_le _, Nat.zero_le _⟩ dX5_treadOf_2 (fun H locs hI => ?_)
  refine lv_if_eq (tgt := 18) hx hb dX5_treadOf_5 (by decide) (fun c3 => ?_) (fun c3 => ?_)
  · replace h := z_ift h c3
    refine lv_ldc (v := (-1000000)) hx hb hown (hts _ wd_2_171) dX5_treadOf_18 ?_
    obtain rfl := Option.some.inj h
    exact z_ri hc hI dX5_treadOf_20
  · replace h := z_iff h c3
    refine lv_iload_n hx hb dX5_treadOf_8 rfl (lv_at hl 2 rfl) ?_
    refine lv_if_lt (tgt := 18) hx hb dX5_treadOf_9 (by decide) (fun c4 => ?_) (fun c4 => ?_)
    · replace h := z_ift h c4
      refine lv_ldc (v := (-1000000)) hx hb hown (hts _ wd_2_171) dX5_treadOf_18 ?_
      obtain rfl := Option.some.inj h
      exact z_ri hc hI dX5_treadOf_20
    · replace h := z_iff h c4
      refine lv_iload_n hx hb dX5_treadOf_12 rfl (lv_at hl 2 rfl) ?_
      refine lv_bipush (v := 8) hx hb dX5_treadOf_13 (by decide) ?_
      refine lv_icmp_lt (tgt := 21) hx hb dX5_treadOf_15 (by decide) (fun c5 => ?_) (fun c5 => ?_)
      · replace h := z_ift h c5
        refine lv_aload_n hx hb dX5_treadOf_21 rfl (lv_at hl 0 rfl) ?_
        refine gf_X5_21 hi hc hI dX5_treadOf_22 ?_
        refine lv_iload_n hx hb dX5_treadOf_25 rfl (lv_at hl 1 rfl) ?_
        refine lv_iconst (v := 4) hx hb dX5_treadOf_26 (by decide) ?_
        refine lv_imul hx hb dX5_treadOf_27 ?_
        refine lv_iconst (v := 0) hx hb dX5_treadOf_28 (by decide) ?_
        refine lv_iadd hx hb dX5_treadOf_29 ?_
        obtain ⟨g6, h⟩ := z_grd_some h
        refine ld_k11 hi hc hI g6 dX5_treadOf_30 ?_
        refine z_nI h (fun x7 h => ?_)
        refine lv_istore_n (lv' := [(3, .int x7), (0, .ref (z_ad G 7 i)), (1, .int a1), (2, .int a2)]) hx hb dX5_treadOf_31 rfl hl (by decide) rfl (fun ls hl => ?_)
        refine lv_aload_n hx hb dX5_treadOf_32 rfl (lv_at hl 1 rfl) ?_
        refine gf_X5_21 hi hc hI dX5_treadOf_33 ?_
        refine lv_iload_n hx hb dX5_treadOf_36 rfl (lv_at hl 2 rfl) ?_
        refine lv_iconst (v := 4) hx hb dX5_treadOf_37 (by decide) ?_
        refine lv_imul hx hb dX5_treadOf_38 ?_
        refine lv_iconst (v := 1) hx hb dX5_treadOf_39 (by decide) ?_
        refine lv_iadd hx hb dX5_treadOf_40 ?_
        obtain ⟨g8, h⟩ := z_grd_some h
        refine ld_k11 hi hc hI g8 dX5_treadOf_41 ?_
        refine z_nI h (fun x9 h => ?_)
        refine lv_istore (lv' := [(4, .int x9), (3, .int x7), (0, .ref (z_ad G 7 i)), (1, .int a1), (2, .int a2)]) hx hb dX5_treadOf_42 hl (by decide) rfl (fun ls hl => ?_)
        refine lv_aload_n hx hb dX5_treadOf_44 rfl (lv_at hl 2 rfl) ?_
        refine gf_X5_21 hi hc hI dX5_treadOf_45 ?_
        refine lv_iload_n hx hb dX5_treadOf_48 rfl (lv_at hl 3 rfl) ?_
        refine lv_iconst (v := 4) hx hb dX5_treadOf_49 (by decide) ?_
        refine lv_imul hx hb dX5_treadOf_50 ?_
        refine lv_iconst (v := 2) hx hb dX5_treadOf_51 (by decide) ?_
        refine lv_iadd hx hb dX5_treadOf_52 ?_
        obtain ⟨g10, h⟩ := z_grd_some h
        refine ld_k11 hi hc hI g10 dX5_treadOf_53 ?_
        refine z_nI h (fun x11 h => ?_)
        refine lv_istore (lv' := [(5, .int x11), (4, .int x9), (3, .int x7), (0, .ref (z_ad G 7 i)), (1, .int a1), (2, .int a2)]) hx hb dX5_treadOf_54 hl (by decide) rfl (fun ls hl => ?_)
        refine lv_iload hx hb dX5_treadOf_56 (lv_at hl 1 rfl) ?_
        refine lv_iload_n hx hb dX5_treadOf_58 rfl (lv_at hl 2 rfl) ?_
        refine lv_isub hx hb dX5_treadOf_59 ?_
        refine mt_X5_87 hc hl.1 (z_frm (by decide)) (z_lrm (Nat.le_of_ble_eq_true rfl)) ⟨Nat.zero_le _, Nat.zero_le _⟩ dX5_treadOf_60 ?_
        refine z_nI h (fun x12 h => ?_)
        refine lv_istore (lv' := [(6, .int x12), (5, .int x11), (4, .int x9), (3, .int x7), (0, .ref (z_ad G 7 i)), (1, .int a1), (2, .int a2)]) hx hb dX5_treadOf_63 hl (by decide) rfl (fun ls hl => ?_)
        refine lv_iload_n hx hb dX5_treadOf_65 rfl (lv_at hl 6 rfl) ?_
        refine lv_if_le (tgt := 83) hx hb dX5_treadOf_66 (by decide) (fun c13 => ?_) (fun c13 => ?_)
        · replace h := z_ift h c13
          exact w_X5_treadOf_b83 hi hc a2 x7 x9 x11 x12 _ _ _ h hI (lv_sub hl [6, 3, 2, 1, 0] rfl)
        · replace h := z_iff h c13
          refine lv_iload_n hx hb dX5_treadOf_69 rfl (lv_at hl 6 rfl) ?_
          refine lv_iconst (v := 1) hx hb dX5_treadOf_70 (by decide) ?_
          refine lv_isub hx hb dX5_treadOf_71 ?_
          refine lv_iload hx hb dX5_treadOf_72 (lv_at hl 1 rfl) ?_
          refine lv_imul hx hb dX5_treadOf_74 ?_
          refine lv_iload hx hb dX5_treadOf_75 (lv_at hl 0 rfl) ?_
          refine lv_icmp_lt (tgt := 83) hx hb dX5_treadOf_77 (by decide) (fun c16 => ?_) (fun c16 => ?_)
          · replace h := z_ift h c16
            exact w_X5_treadOf_b83 hi hc a2 x7 x9 x11 x12 _ _ _ h hI (lv_sub hl [6, 3, 2, 1, 0] rfl)
          · replace h := z_iff h c16
            refine lv_ldc (v := (-1000000)) hx hb hown (hts _ wd_2_171) dX5_treadOf_80 ?_
            obtain rfl := Option.some.inj h
            exact z_ri hc hI dX5_treadOf_82
      · replace h := z_iff h c5
        refine lv_ldc (v := (-1000000)) hx hb hown (hts _ wd_2_171) dX5_treadOf_18 ?_
        obtain rfl := Option.some.inj h
        exact z_ri hc hI dX5_treadOf_20
set_option maxRecDepth 100000 in
set_option maxHeartbeats 4000000 in
theorem w_X5_longOf_b2 {i : Nat} (hi : i < 29) {M : z_M} (hc : z_C p s m args meth c RX5 cX5_longOf 3 (some .int)) {out : Int32} : ∀ (n : Nat) (v1 : Int32) (v2 : Int32) (H : Heap) (locs : List Loc) (ls : Array Slot) (h : F_X5_longOf_b2 i M n v1 v2 = some out) (hI : z_I G s M H locs) (hl : lv_has ls 3 [(0, .ref (z_ad G 7 i)), (1, .int v1), (2, .int v2)]), W p l e (z_rm 3) s m args below meth c H locs 0 0 (MQ below (z_Q G (some (.int out)) M) args s 0 0 (z_A G)) (F0 m 2 ls []) := by
  obtain ⟨⟨hx, hb, hml, hown, hts⟩, hr, hlk⟩ := id hc
  intro n
  induction n with
  | zero => intro v1 v2 H locs ls h; cases h
  | succ n ih =>
    intro v1 v2 H locs ls h hI hl
    rw [F_X5_longOf_b2] at h
    refine lv_iload_n hx hb dX5_longOf_2 rfl (lv_at hl 2 rfl) ?_
    refine lv_bipush (v := 8) hx hb dX5_longOf_3 (by decide) ?_
    refine lv_icmp_ge (tgt := 27) hx hb dX5_longOf_5 (by decide) (fun c1 => ?_) (fun c1 => ?_)
    · replace h := z_ift h c1
      refine lv_bipush (v := 8) hx hb dX5_longOf_27 (by decide) ?_
      obtain rfl := Option.some.inj h
      exact z_ri hc hI dX5_longOf_29
    · replace h := z_iff h c1
      refine lv_aload_n hx hb dX5_longOf_8 rfl (lv_at hl 0 rfl) ?_
      refine lv_iload_n hx hb dX5_longOf_9 rfl (lv_at hl 1 rfl) ?_
      refine lv_iload_n hx hb dX5_longOf_10 rfl (lv_at hl 2 rfl) ?_
      obtain ⟨q2, e3, h⟩ := z_bnd h
      refine iv_X5_90 hi hc hI (c_X5_treadOf hi e3) (z_room (by decide) (by decide)) hl.1 (Nat.le_of_ble_eq_true rfl) ⟨Nat.zero_le _, Nat.zero_le _⟩ dX5_longOf_11 (fun H locs hI => ?_)
      refine lv_ldc (v := (-1000000)) hx hb hown (hts _ wd_2_171) dX5_longOf_14 ?_
      refine lv_icmp_ne (tgt := 21) hx hb dX5_longOf_16 (by decide) (fun c4 => ?_) (fun c4 => ?_)
      · replace h := z_iff h c4
        refine lv_iinc (v := v2 + 1) (lv' := [(2, .int (v2 + 1)), (0, .ref (z_ad G 7 i)), (1, .int v1)]) hx hb dX5_longOf_21 hl (k := 2) rfl rfl (by decide) rfl (fun ls hl => ?_)
        refine lv_goto (tgt := 2) hx hb dX5_longOf_24 (by decide) ?_
        exact ih v1 (v2 + 1) _ _ _ h hI (lv_sub hl [1, 2, 0] rfl)
      · replace h := z_ift h c4
        refine lv_iload_n hx hb dX5_longOf_19 rfl (lv_at hl 2 rfl) ?_
        obtain rfl := Option.some.inj h
        exact z_ri hc hI dX5_longOf_20
set_option maxRecDepth 100000 in
set_option maxHeartbeats 4000000 in
theorem c_X5_longOf {G : z_G} {l : Launch} {i : Nat} (hi : i < 29) {a1 : Int32} {M : z_M} {out : Int32} (h : F_X5_longOf i a1 M = some out) : z_Met G l yX5_longOf cX5_longOf 3 (some .int) 3 [.ref (z_ad G 7 i), .int a1] M (some (.int out)) M := by
  unfold F_X5_longOf at h
  refine z_met_of (by decide) rfl (Nat.le_of_ble_eq_true rfl) (fun p e s m below meth c ls hc hI hl => ?_)
  obtain ⟨⟨hx, hb, hml, hown, hts⟩, hr, hlk⟩ := id hc
  have hl : lv_has ls 3 [(0, .ref (z_ad G 7 i)), (1, .int a1)] := hl
  refine lv_iconst (v := 0) hx hb dX5_longOf_0 (by decide) ?_
  refine lv_istore_n (lv' := [(2, .int 0), (0, .ref (z_ad G 7 i)), (1, .int a1)]) hx hb dX5_longOf_1 rfl hl (by decide) rfl (fun ls hl => ?_)
  exact w_X5_longOf_b2 hi hc _ a1 0 _ _ _ h hI (lv_sub hl [1, 2, 0] rfl)
set_option maxRecDepth 100000 in
set_option maxHeartbeats 4000000 in
theorem c_X5_partOf {G : z_G} {l : Launch} {i : Nat} (hi : i < 29) {a1 : Int32} {a2 : Int32} {M : z_M} {out : Int32} (h : F_X5_partOf i a1 a2 M = some out) : z_Met G l yX5_partOf cX5_partOf 3 (some .int) 2 [.ref (z_ad G 7 i), .int a1, .int a2] M (some (.int out)) M := by
  unfold F_X5_partOf at h
  refine z_met_of (by decide) rfl (Nat.le_of_ble_eq_true rfl) (fun p e s m below meth c ls hc hI hl => ?_)
  obtain ⟨⟨hx, hb, hml, hown, hts⟩, hr, hlk⟩ := id hc
  have hl : lv_has ls 3 [(0, .ref (z_ad G 7 i)), (1, .int a1), (2, .int a2)] := hl
  refine lv_aload_n hx hb dX5_partOf_0 rfl (lv_at hl 0 rfl) ?_
  refine lv_iload_n hx hb dX5_partOf_1 rfl (lv_at hl 1 rfl) ?_
  obtain ⟨q1, e2, h⟩ := z_bnd h
  refine iv_X5_53 hi hc hI (c_X5_hasWalker hi e2) (z_room (by decide) (by decide)) hl.1 (Nat.le_of_ble_eq_true rfl) ⟨Nat.zero_le _, Nat.zero_le _⟩ dX5_partOf_2 (fun H locs hI => ?_)
  refine lv_if_eq (tgt := 30) hx hb dX5_partOf_5 (by decide) (fun c3 => ?_) (fun c3 => ?_)
  · replace h := z_ift h c3
    refine lv_ldc (v := (-1000000)) hx hb hown (hts _ wd_2_171) dX5_partOf_30 ?_
    obtain rfl := Option.some.inj h
    exact z_ri hc hI dX5_partOf_32
  · replace h := z_iff h c3
    refine lv_iload_n hx hb dX5_partOf_8 rfl (lv_at hl 2 rfl) ?_
    refine lv_if_lt (tgt := 30) hx hb dX5_partOf_9 (by decide) (fun c4 => ?_) (fun c4 => ?_)
    · replace h := z_ift h c4
      refine lv_ldc (v := (-1000000)) hx hb hown (hts _ wd_2_171) dX5_partOf_30 ?_
      obtain rfl := Option.some.inj h
      exact z_ri hc hI dX5_partOf_32
    · replace h := z_iff h c4
      refine lv_iload_n hx hb dX5_partOf_12 rfl (lv_at hl 2 rfl) ?_
      refine lv_iconst (v := 4) hx hb dX5_partOf_13 (by decide) ?_
      refine lv_icmp_ge (tgt := 30) hx hb dX5_partOf_14 (by decide) (fun c5 => ?_) (fun c5 => ?_)
      · replace h := z_ift h c5
        refine lv_ldc (v := (-1000000)) hx hb hown (hts _ wd_2_171) dX5_partOf_30 ?_
        obtain rfl := Option.some.inj h
        exact z_ri hc hI dX5_partOf_32
      · replace h := z_iff h c5
        refine lv_aload_n hx hb dX5_partOf_17 rfl (lv_at hl 0 rfl) ?_
        refine gf_X5_21 hi hc hI dX5_partOf_18 ?_
        refine lv_iload_n hx hb dX5_partOf_21 rfl (lv_at hl 1 rfl) ?_
        refine lv_iconst (v := 4) hx hb dX5_partOf_22 (by decide) ?_
        refine lv_imul hx hb dX5_partOf_23 ?_
        refine lv_iload_n hx hb dX5_partOf_24 rfl (lv_at hl 2 rfl) ?_
        refine lv_iadd hx hb dX5_partOf_25 ?_
        obtain ⟨g6, h⟩ := z_grd_some h
        refine ld_k11 hi hc hI g6 dX5_partOf_26 ?_
        refine lv_goto (tgt := 32) hx hb dX5_partOf_27 (by decide) ?_
        obtain rfl := Option.some.inj h
        exact z_ri hc hI dX5_partOf_32
set_option maxRecDepth 100000 in
set_option maxHeartbeats 4000000 in
theorem c_X5_setWorn {G : z_G} {l : Launch} {i : Nat} (hi : i < 29) {a1 : Int32} {a2 : Int32} {M : z_M} {out : z_M} (h : F_X5_setWorn i a1 a2 M = some out) : z_Met G l yX5_setWorn cX5_setWorn 3 none 2 [.ref (z_ad G 7 i), .int a1, .int a2] M (none) out := by
  unfold F_X5_setWorn at h
  refine z_met_of (by decide) rfl (Nat.le_of_ble_eq_true rfl) (fun p e s m below meth c ls hc hI hl => ?_)
  obtain ⟨⟨hx, hb, hml, hown, hts⟩, hr, hlk⟩ := id hc
  have hl : lv_has ls 3 [(0, .ref (z_ad G 7 i)), (1, .int a1), (2, .int a2)] := hl
  refine lv_aload_n hx hb dX5_setWorn_0 rfl (lv_at hl 0 rfl) ?_
  refine lv_iload_n hx hb dX5_setWorn_1 rfl (lv_at hl 1 rfl) ?_
  obtain ⟨q1, e2, h⟩ := z_bnd h
  refine iv_X5_58 hi hc hI (c_X5_hasTread hi e2) (z_room (by decide) (by decide)) hl.1 (Nat.le_of_ble_eq_true rfl) ⟨Nat.zero_le _, Nat.zero_le _⟩ dX5_setWorn_2 (fun H locs hI => ?_)
  refine lv_if_eq (tgt := 15) hx hb dX5_setWorn_5 (by decide) (fun c3 => ?_) (fun c3 => ?_)
  · replace h := z_ift h c3
    obtain rfl := Option.some.inj h
    exact z_rv hc hI dX5_setWorn_15
  · replace h := z_iff h c3
    refine lv_aload_n hx hb dX5_setWorn_8 rfl (lv_at hl 0 rfl) ?_
    refine gf_X5_18 hi hc hI dX5_setWorn_9 ?_
    refine lv_iload_n hx hb dX5_setWorn_12 rfl (lv_at hl 1 rfl) ?_
    refine lv_iload_n hx hb dX5_setWorn_13 rfl (lv_at hl 2 rfl) ?_
    obtain ⟨g4, h⟩ := z_grd_some h
    refine st_k10 hi hc hI g4 dX5_setWorn_14 (fun H locs hI => ?_)
    obtain rfl := Option.some.inj h
    exact z_rv hc hI dX5_setWorn_15
set_option maxRecDepth 100000 in
set_option maxHeartbeats 4000000 in
theorem w_X5_passDay_b64 {i : Nat} (hi : i < 29) (hc : z_C p s m args meth c RX5 cX5_passDay 5 none) {out : z_M} : ∀ (n : Nat) (v1 : Int32) (M : z_M) (H : Heap) (locs : List Loc) (ls : Array Slot) (h : F_X5_passDay_b64 i n v1 M = some out) (hI : z_I G s M H locs) (hl : lv_has ls 5 [(0, .ref (z_ad G 7 i)), (1, .int v1)]), W p l e (z_rm 4) s m args below meth c H locs 0 0 (MQ below (z_Q G (none) out) args s 0 0 (z_A G)) (F0 m 64 ls []) := by
  obtain ⟨⟨hx, hb, hml, hown, hts⟩, hr, hlk⟩ := id hc
  intro n
  induction n with
  | zero => intro v1 M H locs ls h; cases h
  | succ n ih =>
    intro v1 M H locs ls h hI hl
    rw [F_X5_passDay_b64] at h
    refine lv_iload_n hx hb dX5_passDay_64 rfl (lv_at hl 1 rfl) ?_
    refine lv_aload_n hx hb dX5_passDay_65 rfl (lv_at hl 0 rfl) ?_
    refine gf_X5_34 hi hc hI dX5_passDay_66 ?_
    refine lv_icmp_ge (tgt := 104) hx hb dX5_passDay_69 (by decide) (fun c2 => ?_) (fun c2 => ?_)
    · replace h := z_ift h c2
      refine lv_aload_n hx hb dX5_passDay_104 rfl (lv_at hl 0 rfl) ?_
      refine lv_dup hx hb dX5_passDay_105 rfl ?_
      refine gf_X5_43 hi hc hI dX5_passDay_106 ?_
      refine lv_iconst (v := 1) hx hb dX5_passDay_109 (by decide) ?_
      refine lv_iadd hx hb dX5_passDay_110 ?_
      refine pf_X5_43 hi hc hI dX5_passDay_111 (fun H locs hI => ?_)
      obtain rfl := Option.some.inj h
      exact z_rv hc hI dX5_passDay_114
    · replace h := z_iff h c2
      refine lv_aload_n hx hb dX5_passDay_72 rfl (lv_at hl 0 rfl) ?_
      refine lv_iload_n hx hb dX5_passDay_73 rfl (lv_at hl 1 rfl) ?_
      refine lv_iconst (v := 0) hx hb dX5_passDay_74 (by decide) ?_
      obtain ⟨q3, e4, h⟩ := z_bnd h
      refine iv_X5_93 hi hc hI (c_X5_partOf hi e4) (z_room (by decide) (by decide)) hl.1 (Nat.le_of_ble_eq_true rfl) ⟨Nat.zero_le _, Nat.zero_le _⟩ dX5_passDay_75 (fun H locs hI => ?_)
      refine lv_istore_n (lv' := [(2, .int q3), (0, .ref (z_ad G 7 i)), (1, .int v1)]) hx hb dX5_passDay_78 rfl hl (by decide) rfl (fun ls hl => ?_)
      refine lv_aload_n hx hb dX5_passDay_79 rfl (lv_at hl 1 rfl) ?_
      refine lv_iload_n hx hb dX5_passDay_80 rfl (lv_at hl 2 rfl) ?_
      refine lv_iconst (v := 0) hx hb dX5_passDay_81 (by decide) ?_
      refine lv_aload_n hx hb dX5_passDay_82 rfl (lv_at hl 1 rfl) ?_
      refine lv_iload_n hx hb dX5_passDay_83 rfl (lv_at hl 2 rfl) ?_
      refine lv_iconst (v := 1) hx hb dX5_passDay_84 (by decide) ?_
      obtain ⟨q5, e6, h⟩ := z_bnd h
      refine iv_X5_93 hi hc hI (c_X5_partOf hi e6) (z_room (by decide) (by decide)) hl.1 (Nat.le_of_ble_eq_true rfl) ⟨Nat.zero_le _, Nat.zero_le _⟩ dX5_passDay_85 (fun H locs hI => ?_)
      obtain ⟨q7, e8, h⟩ := z_bnd h
      refine iv_X5_108 hi hc hI (c_X5_setPart hi e8) (z_room (by decide) (by decide)) hl.1 (Nat.le_of_ble_eq_true rfl) ⟨Nat.zero_le _, Nat.zero_le _⟩ dX5_passDay_88 (fun H locs hI => ?_)
      refine lv_aload_n hx hb dX5_passDay_91 rfl (lv_at hl 1 rfl) ?_
      refine lv_iload_n hx hb dX5_passDay_92 rfl (lv_at hl 2 rfl) ?_
      refine lv_iconst (v := 1) hx hb dX5_passDay_93 (by decide) ?_
      refine lv_iload_n hx hb dX5_passDay_94 rfl (lv_at hl 0 rfl) ?_
      obtain ⟨q9, e10, h⟩ := z_bnd h
      refine iv_X5_108 hi hc hI (c_X5_setPart hi e10) (z_room (by decide) (by decide)) hl.1 (Nat.le_of_ble_eq_true rfl) ⟨Nat.zero_le _, Nat.zero_le _⟩ dX5_passDay_95 (fun H locs hI => ?_)
      refine lv_iinc (v := v1 + 1) (lv' := [(1, .int (v1 + 1)), (2, .int q3), (0, .ref (z_ad G 7 i))]) hx hb dX5_passDay_98 hl (k := 2) rfl rfl (by decide) rfl (fun ls hl => ?_)
      refine lv_goto (tgt := 64) hx hb dX5_passDay_101 (by decide) ?_
      exact ih (v1 + 1) _ _ _ _ h hI (lv_sub hl [2, 0] rfl)
set_option maxRecDepth 100000 in
set_option maxHeartbeats 4000000 in
theorem w_X5_passDay_b18 {i : Nat} (hi : i < 29) (hc : z_C p s m args meth c RX5 cX5_passDay 5 none) {out : z_M} {K2 : Int32 → z_M → Option z_M} (hK2 : ∀ (v1 : Int32) (M : z_M) (H : Heap) (locs : List Loc) (ls : Array Slot), K2 v1 M = some out → z_I G s M H locs → lv_has ls 5 [(0, .ref (z_ad G 7 i)), (1, .int v1)] → W p l e (z_rm 4) s m args below meth c H locs 0 0 (MQ below (z_Q G (none) out) args s 0 0 (z_A G)) (F0 m 2 ls [])) : ∀ (n : Nat) (v1 : Int32) (v2 : Int32) (v3 : Int32) (M : z_M) (H : Heap) (locs : List Loc) (ls : Array Slot) (h : F_X5_passDay_b18 i K2 n v1 v2 v3 M = some out) (hI : z_I G s M H locs) (hl : lv_has ls 5 [(0, .ref (z_ad G 7 i)), (1, .int v1), (2, .int v2), (3, .int v3)]), W p l e (z_rm 4) s m args below meth c H locs 0 0 (MQ below (z_Q G (none) out) args s 0 0 (z_A G)) (F0 m 18 ls []) := by
  obtain ⟨⟨hx, hb, hml, hown, hts⟩, hr, hlk⟩ := id hc
  intro n
  induction n with
  | zero => intro v1 v2 v3 M H locs ls h; cases h
  | succ n ih =>
    intro v1 v2 v3 M H locs ls h hI hl
    rw [F_X5_passDay_b18] at h
    refine lv_iload_n hx hb dX5_passDay_18 rfl (lv_at hl 3 rfl) ?_
    refine lv_iload_n hx hb dX5_passDay_19 rfl (lv_at hl 2 rfl) ?_
    refine lv_icmp_ge (tgt := 56) hx hb dX5_passDay_20 (by decide) (fun c13 => ?_) (fun c13 => ?_)
    · replace h := z_ift h c13
      refine lv_iinc (v := v1 + 1) (lv' := [(1, .int (v1 + 1)), (0, .ref (z_ad G 7 i)), (2, .int v2), (3, .int v3)]) hx hb dX5_passDay_56 hl (k := 1) rfl rfl (by decide) rfl (fun ls hl => ?_)
      refine lv_goto (tgt := 2) hx hb dX5_passDay_59 (by decide) ?_
      exact hK2 (v1 + 1) _ _ _ _ h hI (lv_sub hl [1, 0] rfl)
    · replace h := z_iff h c13
      refine lv_aload_n hx hb dX5_passDay_23 rfl (lv_at hl 0 rfl) ?_
      refine lv_iload_n hx hb dX5_passDay_24 rfl (lv_at hl 1 rfl) ?_
      refine lv_iload_n hx hb dX5_passDay_25 rfl (lv_at hl 3 rfl) ?_
      obtain ⟨q14, e15, h⟩ := z_bnd h
      refine iv_X5_90 hi hc hI (c_X5_treadOf hi e15) (z_room (by decide) (by decide)) hl.1 (Nat.le_of_ble_eq_true rfl) ⟨Nat.zero_le _, Nat.zero_le _⟩ dX5_passDay_26 (fun H locs hI => ?_)
      refine lv_istore (lv' := [(4, .int q14), (0, .ref (z_ad G 7 i)), (1, .int v1), (2, .int v2), (3, .int v3)]) hx hb dX5_passDay_29 hl (by decide) rfl (fun ls hl => ?_)
      refine lv_aload_n hx hb dX5_passDay_31 rfl (lv_at hl 1 rfl) ?_
      refine lv_iload hx hb dX5_passDay_32 (lv_at hl 0 rfl) ?_
      refine lv_bipush (v := 99) hx hb dX5_passDay_34 (by decide) ?_
      refine lv_aload_n hx hb dX5_passDay_36 rfl (lv_at hl 1 rfl) ?_
      refine lv_iload hx hb dX5_passDay_37 (lv_at hl 0 rfl) ?_
      obtain ⟨q16, e17, h⟩ := z_bnd h
      refine iv_X5_68 hi hc hI (c_X5_wornOf hi e17) (z_room (by decide) (by decide)) hl.1 (Nat.le_of_ble_eq_true rfl) ⟨Nat.zero_le _, Nat.zero_le _⟩ dX5_passDay_39 (fun H locs hI => ?_)
      refine lv_iconst (v := 1) hx hb dX5_passDay_42 (by decide) ?_
      refine lv_iadd hx hb dX5_passDay_43 ?_
      refine mt_X5_84 hc hl.1 (z_frm (by decide)) (z_lrm (Nat.le_of_ble_eq_true rfl)) ⟨Nat.zero_le _, Nat.zero_le _⟩ dX5_passDay_44 ?_
      obtain ⟨q18, e19, h⟩ := z_bnd h
      refine iv_X5_65 hi hc hI (c_X5_setWorn hi e19) (z_room (by decide) (by decide)) hl.1 (Nat.le_of_ble_eq_true rfl) ⟨Nat.zero_le _, Nat.zero_le _⟩ dX5_passDay_47 (fun H locs hI => ?_)
      refine lv_iinc (v := v3 + 1) (lv' := [(3, .int (v3 + 1)), (4, .int q14), (0, .ref (z_ad G 7 i)), (1, .int v1), (2, .int v2)]) hx hb dX5_passDay_50 hl (k := 4) rfl rfl (by decide) rfl (fun ls hl => ?_)
      refine lv_goto (tgt := 18) hx hb dX5_passDay_53 (by decide) ?_
      exact ih v1 v2 (v3 + 1) _ _ _ _ h hI (lv_sub hl [2, 3, 4, 0] rfl)
set_option maxRecDepth 100000 in
set_option maxHeartbeats 4000000 in
theorem w_X5_passDay_b2 {i : Nat} (hi : i < 29) (hc : z_C p s m args meth c RX5 cX5_passDay 5 none) {out : z_M} : ∀ (n : Nat) (v1 : Int32) (M : z_M) (H : Heap) (locs : List Loc) (ls : Array Slot) (h : F_X5_passDay_b2 i n v1 M = some out) (hI : z_I G s M H locs) (hl : lv_has ls 5 [(0, .ref (z_ad G 7 i)), (1, .int v1)]), W p l e (z_rm 4) s m args below meth c H locs 0 0 (MQ below (z_Q G (none) out) args s 0 0 (z_A G)) (F0 m 2 ls []) := by
  obtain ⟨⟨hx, hb, hml, hown, hts⟩, hr, hlk⟩ := id hc
  intro n
  induction n with
  | zero => intro v1 M H locs ls h; cases h
  | succ n ih =>
    intro v1 M H locs ls h hI hl
    rw [F_X5_passDay_b2] at h
    refine lv_iload_n hx hb dX5_passDay_2 rfl (lv_at hl 1 rfl) ?_
    refine lv_aload_n hx hb dX5_passDay_3 rfl (lv_at hl 0 rfl) ?_
    refine gf_X5_34 hi hc hI dX5_passDay_4 ?_
    refine lv_icmp_ge (tgt := 62) hx hb dX5_passDay_7 (by decide) (fun c1 => ?_) (fun c1 => ?_)
    · replace h := z_ift h c1
      refine lv_iconst (v := 0) hx hb dX5_passDay_62 (by decide) ?_
      refine lv_istore_n (lv' := [(1, .int 0), (0, .ref (z_ad G 7 i))]) hx hb dX5_passDay_63 rfl hl (by decide) rfl (fun ls hl => ?_)
      exact w_X5_passDay_b64 hi hc _ 0 _ _ _ _ h hI (lv_sub hl [1, 0] rfl)
    · replace h := z_iff h c1
      refine lv_aload_n hx hb dX5_passDay_10 rfl (lv_at hl 0 rfl) ?_
      refine lv_iload_n hx hb dX5_passDay_11 rfl (lv_at hl 1 rfl) ?_
      obtain ⟨q11, e12, h⟩ := z_bnd h
      refine iv_X5_105 hi hc hI (c_X5_longOf hi e12) (z_room (by decide) (by decide)) hl.1 (Nat.le_of_ble_eq_true rfl) ⟨Nat.zero_le _, Nat.zero_le _⟩ dX5_passDay_12 (fun H locs hI => ?_)
      refine lv_istore_n (lv' := [(2, .int q11), (0, .ref (z_ad G 7 i)), (1, .int v1)]) hx hb dX5_passDay_15 rfl hl (by decide) rfl (fun ls hl => ?_)
      refine lv_iconst (v := 0) hx hb dX5_passDay_16 (by decide) ?_
      refine lv_istore_n (lv' := [(3, .int 0), (2, .int q11), (0, .ref (z_ad G 7 i)), (1, .int v1)]) hx hb dX5_passDay_17 rfl hl (by decide) rfl (fun ls hl => ?_)
      exact w_X5_passDay_b18 hi hc ih _ v1 q11 0 _ _ _ _ h hI (lv_sub hl [2, 3, 1, 0] rfl)
set_option maxRecDepth 100000 in
set_option maxHeartbeats 4000000 in
theorem c_X5_passDay {G : z_G} {l : Launch} {i : Nat} (hi : i < 29) {M : z_M} {out : z_M} (h : F_X5_passDay i M = some out) : z_Met G l yX5_passDay cX5_passDay 5 none 4 [.ref (z_ad G 7 i)] M (none) out := by
  unfold F_X5_passDay at h
  refine z_met_of (by decide) rfl (Nat.le_of_ble_eq_true rfl) (fun p e s m below meth c ls hc hI hl => ?_)
  obtain ⟨⟨hx, hb, hml, hown, hts⟩, hr, hlk⟩ := id hc
  have hl : lv_has ls 5 [(0, .ref (z_ad G 7 i))] := hl
  refine lv_iconst (v := 0) hx hb dX5_passDay_0 (by decide) ?_
  refine lv_istore_n (lv' := [(1, .int 0), (0, .ref (z_ad G 7 i))]) hx hb dX5_passDay_1 rfl hl (by decide) rfl (fun ls hl => ?_)
  exact w_X5_passDay_b2 hi hc _ 0 _ _ _ _ h hI (lv_sub hl [1, 0] rfl)
set_option maxRecDepth 100000 in
set_option maxHeartbeats 4000000 in
theorem c_X5_toneOf {G : z_G} {l : Launch} {i : Nat} (hi : i < 29) {a1 : Int32} {M : z_M} {out : Int32} (h : F_X5_toneOf i a1 M = some out) : z_Met G l yX5_toneOf cX5_toneOf 2 (some .int) 2 [.ref (z_ad G 7 i), .int a1] M (some (.int out)) M := by
  unfold F_X5_toneOf at h
  refine z_met_of (by decide) rfl (Nat.le_of_ble_eq_true rfl) (fun p e s m below meth c ls hc hI hl => ?_)
  obtain ⟨⟨hx, hb, hml, hown, hts⟩, hr, hlk⟩ := id hc
  have hl : lv_has ls 2 [(0, .ref (z_ad G 7 i)), (1, .int a1)] := hl
  refine lv_aload_n hx hb dX5_toneOf_0 rfl (lv_at hl 0 rfl) ?_
  refine lv_iload_n hx hb dX5_toneOf_1 rfl (lv_at hl 1 rfl) ?_
  obtain ⟨q1, e2, h⟩ := z_bnd h
  refine iv_X5_58 hi hc hI (c_X5_hasTread hi e2) (z_room (by decide) (by decide)) hl.1 (Nat.le_of_ble_eq_true rfl) ⟨Nat.zero_le _, Nat.zero_le _⟩ dX5_toneOf_2 (fun H locs hI => ?_)
  refine lv_if_eq (tgt := 31) hx hb dX5_toneOf_5 (by decide) (fun c3 => ?_) (fun c3 => ?_)
  · replace h := z_ift h c3
    refine lv_iconst (v := 0) hx hb dX5_toneOf_31 (by decide) ?_
    obtain rfl := Option.some.inj h
    exact z_ri hc hI dX5_toneOf_32
  · replace h := z_iff h c3
    refine lv_iconst (v := 0) hx hb dX5_toneOf_8 (by decide) ?_
    refine lv_aload_n hx hb dX5_toneOf_9 rfl (lv_at hl 0 rfl) ?_
    refine gf_X5_15 hi hc hI dX5_toneOf_10 ?_
    refine lv_iload_n hx hb dX5_toneOf_13 rfl (lv_at hl 1 rfl) ?_
    obtain ⟨g4, h⟩ := z_grd_some h
    refine ld_k9 hi hc hI g4 dX5_toneOf_14 ?_
    refine lv_aload_n hx hb dX5_toneOf_15 rfl (lv_at hl 0 rfl) ?_
    refine gf_X5_18 hi hc hI dX5_toneOf_16 ?_
    refine lv_iload_n hx hb dX5_toneOf_19 rfl (lv_at hl 1 rfl) ?_
    obtain ⟨g5, h⟩ := z_grd_some h
    refine ld_k10 hi hc hI g5 dX5_toneOf_20 ?_
    refine lv_bipush (v := 10) hx hb dX5_toneOf_21 (by decide) ?_
    refine lv_idiv hx hb dX5_toneOf_23 (by decide) ?_
    refine lv_isub hx hb dX5_toneOf_24 ?_
    refine mt_X5_74 hc hl.1 (z_frm (by decide)) (z_lrm (Nat.le_of_ble_eq_true rfl)) ⟨Nat.zero_le _, Nat.zero_le _⟩ dX5_toneOf_25 ?_
    refine lv_goto (tgt := 32) hx hb dX5_toneOf_28 (by decide) ?_
    obtain rfl := Option.some.inj h
    exact z_ri hc hI dX5_toneOf_32
set_option maxRecDepth 100000 in
set_option maxHeartbeats 4000000 in
theorem c_X5_placeIn {G : z_G} {l : Launch} {i : Nat} (hi : i < 29) {a1 : Int32} {a2 : Int32} {M : z_M} {out : Int32} (h : F_X5_placeIn i a1 a2 M = some out) : z_Met G l yX5_placeIn cX5_placeIn 3 (some .int) 3 [.ref (z_ad G 7 i), .int a1, .int a2] M (some (.int out)) M := by
  unfold F_X5_placeIn at h
  refine z_met_of (by decide) rfl (Nat.le_of_ble_eq_true rfl) (fun p e s m below meth c ls hc hI hl => ?_)
  obtain ⟨⟨hx, hb, hml, hown, hts⟩, hr, hlk⟩ := id hc
  have hl : lv_has ls 3 [(0, .ref (z_ad G 7 i)), (1, .int a1), (2, .int a2)] := hl
  refine lv_aload_n hx hb dX5_placeIn_0 rfl (lv_at hl 0 rfl) ?_
  refine lv_iload_n hx hb dX5_placeIn_1 rfl (lv_at hl 1 rfl) ?_
  obtain ⟨q1, e2, h⟩ := z_bnd h
  refine iv_X5_53 hi hc hI (c_X5_hasWalker hi e2) (z_room (by decide) (by decide)) hl.1 (Nat.le_of_ble_eq_true rfl) ⟨Nat.zero_le _, Nat.zero_le _⟩ dX5_placeIn_2 (fun H locs hI => ?_)
  refine lv_if_eq (tgt := 24) hx hb dX5_placeIn_5 (by decide) (fun c3 => ?_) (fun c3 => ?_)
  · replace h := z_ift h c3
    refine lv_ldc (v := (-1000000)) hx hb hown (hts _ wd_2_171) dX5_placeIn_24 ?_
    obtain rfl := Option.some.inj h
    exact z_ri hc hI dX5_placeIn_26
  · replace h := z_iff h c3
    refine lv_aload_n hx hb dX5_placeIn_8 rfl (lv_at hl 0 rfl) ?_
    refine lv_iload_n hx hb dX5_placeIn_9 rfl (lv_at hl 1 rfl) ?_
    refine lv_iload_n hx hb dX5_placeIn_10 rfl (lv_at hl 2 rfl) ?_
    refine lv_aload_n hx hb dX5_placeIn_11 rfl (lv_at hl 0 rfl) ?_
    refine lv_iload_n hx hb dX5_placeIn_12 rfl (lv_at hl 1 rfl) ?_
    refine lv_iconst (v := 3) hx hb dX5_placeIn_13 (by decide) ?_
    obtain ⟨q4, e5, h⟩ := z_bnd h
    refine iv_X5_93 hi hc hI (c_X5_partOf hi e5) (z_room (by decide) (by decide)) hl.1 (Nat.le_of_ble_eq_true rfl) ⟨Nat.zero_le _, Nat.zero_le _⟩ dX5_placeIn_14 (fun H locs hI => ?_)
    refine lv_isub hx hb dX5_placeIn_17 ?_
    obtain ⟨q6, e7, h⟩ := z_bnd h
    refine iv_X5_90 hi hc hI (c_X5_treadOf hi e7) (z_room (by decide) (by decide)) hl.1 (Nat.le_of_ble_eq_true rfl) ⟨Nat.zero_le _, Nat.zero_le _⟩ dX5_placeIn_18 (fun H locs hI => ?_)
    refine lv_goto (tgt := 26) hx hb dX5_placeIn_21 (by decide) ?_
    obtain rfl := Option.some.inj h
    exact z_ri hc hI dX5_placeIn_26
set_option maxRecDepth 100000 in
set_option maxHeartbeats 4000000 in
theorem c_J6_bitCount_0f7a4 {G : z_G} {l : Launch} {a1 : Int32} {M : z_M} {out : Int32} (h : F_J6_bitCount_0f7a4 a1 M = some out) : z_Met G l yJ6_bitCount_0f7a4 cJ6_bitCount_0f7a4 1 (some .int) 1 [.int a1] M (some (.int out)) M := by
  unfold F_J6_bitCount_0f7a4 at h
  refine z_met_of (by decide) rfl (Nat.le_of_ble_eq_true rfl) (fun p e s m below meth c ls hc hI hl => ?_)
  obtain ⟨⟨hx, hb, hml, hown, hts⟩, hr, hlk⟩ := id hc
  have hl : lv_has ls 1 [(0, .int a1)] := hl
  refine lv_iload_n hx hb dJ6_bitCount_0f7a4_0 rfl (lv_at hl 0 rfl) ?_
  refine lv_iload_n hx hb dJ6_bitCount_0f7a4_1 rfl (lv_at hl 0 rfl) ?_
  refine lv_iconst (v := 1) hx hb dJ6_bitCount_0f7a4_2 (by decide) ?_
  refine lv_iushr (v := z_ush a1 1) hx hb dJ6_bitCount_0f7a4_3 rfl ?_
  refine lv_ldcw (v := 1431655765) hx hb hown (hts _ wd_3_117) dJ6_bitCount_0f7a4_4 ?_
  refine lv_iand hx hb dJ6_bitCount_0f7a4_7 ?_
  refine lv_isub hx hb dJ6_bitCount_0f7a4_8 ?_
  refine z_nI h (fun x1 h => ?_)
  refine lv_istore_n (lv' := [(0, .int x1)]) hx hb dJ6_bitCount_0f7a4_9 rfl hl (by decide) rfl (fun ls hl => ?_)
  refine lv_iload_n hx hb dJ6_bitCount_0f7a4_10 rfl (lv_at hl 0 rfl) ?_
  refine lv_ldcw (v := 858993459) hx hb hown (hts _ wd_3_118) dJ6_bitCount_0f7a4_11 ?_
  refine lv_iand hx hb dJ6_bitCount_0f7a4_14 ?_
  refine lv_iload_n hx hb dJ6_bitCount_0f7a4_15 rfl (lv_at hl 0 rfl) ?_
  refine lv_iconst (v := 2) hx hb dJ6_bitCount_0f7a4_16 (by decide) ?_
  refine lv_iushr (v := z_ush x1 2) hx hb dJ6_bitCount_0f7a4_17 rfl ?_
  refine lv_ldcw (v := 858993459) hx hb hown (hts _ wd_3_118) dJ6_bitCount_0f7a4_18 ?_
  refine lv_iand hx hb dJ6_bitCount_0f7a4_21 ?_
  refine lv_iadd hx hb dJ6_bitCount_0f7a4_22 ?_
  refine z_nI h (fun x2 h => ?_)
  refine lv_istore_n (lv' := [(0, .int x2)]) hx hb dJ6_bitCount_0f7a4_23 rfl hl (by decide) rfl (fun ls hl => ?_)
  refine lv_iload_n hx hb dJ6_bitCount_0f7a4_24 rfl (lv_at hl 0 rfl) ?_
  refine lv_iload_n hx hb dJ6_bitCount_0f7a4_25 rfl (lv_at hl 0 rfl) ?_
  refine lv_iconst (v := 4) hx hb dJ6_bitCount_0f7a4_26 (by decide) ?_
  refine lv_iushr (v := z_ush x2 4) hx hb dJ6_bitCount_0f7a4_27 rfl ?_
  refine lv_iadd hx hb dJ6_bitCount_0f7a4_28 ?_
  refine lv_ldcw (v := 252645135) hx hb hown (hts _ wd_3_119) dJ6_bitCount_0f7a4_29 ?_
  refine lv_iand hx hb dJ6_bitCount_0f7a4_32 ?_
  refine z_nI h (fun x3 h => ?_)
  refine lv_istore_n (lv' := [(0, .int x3)]) hx hb dJ6_bitCount_0f7a4_33 rfl hl (by decide) rfl (fun ls hl => ?_)
  refine lv_iload_n hx hb dJ6_bitCount_0f7a4_34 rfl (lv_at hl 0 rfl) ?_
  refine lv_iload_n hx hb dJ6_bitCount_0f7a4_35 rfl (lv_at hl 0 rfl) ?_
  refine lv_bipush (v := 8) hx hb dJ6_bitCount_0f7a4_36 (by decide) ?_
  refine lv_iushr (v := z_ush x3 8) hx hb dJ6_bitCount_0f7a4_38 rfl ?_
  refine lv_iadd hx hb dJ6_bitCount_0f7a4_39 ?_
  refine z_nI h (fun x4 h => ?_)
  refine lv_istore_n (lv' := [(0, .int x4)]) hx hb dJ6_bitCount_0f7a4_40 rfl hl (by decide) rfl (fun ls hl => ?_)
  refine lv_iload_n hx hb dJ6_bitCount_0f7a4_41 rfl (lv_at hl 0 rfl) ?_
  refine lv_iload_n hx hb dJ6_bitCount_0f7a4_42 rfl (lv_at hl 0 rfl) ?_
  refine lv_bipush (v := 16) hx hb dJ6_bitCount_0f7a4_43 (by decide) ?_
  refine lv_iushr (v := z_ush x4 16) hx hb dJ6_bitCount_0f7a4_45 rfl ?_
  refine lv_iadd hx hb dJ6_bitCount_0f7a4_46 ?_
  refine z_nI h (fun x5 h => ?_)
  refine lv_istore_n (lv' := [(0, .int x5)]) hx hb dJ6_bitCount_0f7a4_47 rfl hl (by decide) rfl (fun ls hl => ?_)
  refine lv_iload_n hx hb dJ6_bitCount_0f7a4_48 rfl (lv_at hl 0 rfl) ?_
  refine lv_bipush (v := 63) hx hb dJ6_bitCount_0f7a4_49 (by decide) ?_
  refine lv_iand hx hb dJ6_bitCount_0f7a4_51 ?_
  obtain rfl := Option.some.inj h
  exact z_ri hc hI dJ6_bitCount_0f7a4_52
set_option maxRecDepth 100000 in
set_option maxHeartbeats 4000000 in
theorem c_X5_isWet {G : z_G} {l : Launch} {i : Nat} (hi : i < 29) {M : z_M} {out : Int32} (h : F_X5_isWet i M = some out) : z_Met G l yX5_isWet cX5_isWet 1 (some .boolean) 1 [.ref (z_ad G 7 i)] M (some (.int out)) M := by
  unfold F_X5_isWet at h
  refine z_met_of (by decide) rfl (Nat.le_of_ble_eq_true rfl) (fun p e s m below meth c ls hc hI hl => ?_)
  obtain ⟨⟨hx, hb, hml, hown, hts⟩, hr, hlk⟩ := id hc
  have hl : lv_has ls 1 [(0, .ref (z_ad G 7 i))] := hl
  refine lv_aload_n hx hb dX5_isWet_0 rfl (lv_at hl 0 rfl) ?_
  refine gf_X5_37 hi hc hI dX5_isWet_1 ?_
  refine lv_aload_n hx hb dX5_isWet_4 rfl (lv_at hl 0 rfl) ?_
  refine gf_X5_43 hi hc hI dX5_isWet_5 ?_
  refine lv_iconst (v := 4) hx hb dX5_isWet_8 (by decide) ?_
  refine lv_irem hx hb dX5_isWet_9 (by decide) ?_
  refine lv_ishr hx hb dX5_isWet_10 ?_
  refine lv_iconst (v := 1) hx hb dX5_isWet_11 (by decide) ?_
  refine lv_iand hx hb dX5_isWet_12 ?_
  refine lv_iconst (v := 1) hx hb dX5_isWet_13 (by decide) ?_
  refine lv_icmp_ne (tgt := 21) hx hb dX5_isWet_14 (by decide) (fun c1 => ?_) (fun c1 => ?_)
  · replace h := z_iff h c1
    refine lv_iconst (v := 0) hx hb dX5_isWet_21 (by decide) ?_
    obtain rfl := Option.some.inj h
    exact z_rz (x := 0) hc hI (by decide) dX5_isWet_22
  · replace h := z_ift h c1
    refine lv_iconst (v := 1) hx hb dX5_isWet_17 (by decide) ?_
    refine lv_goto (tgt := 22) hx hb dX5_isWet_18 (by decide) ?_
    obtain rfl := Option.some.inj h
    exact z_rz (x := 1) hc hI (by decide) dX5_isWet_22
set_option maxRecDepth 100000 in
set_option maxHeartbeats 4000000 in
theorem c_X5_soundAs {G : z_G} {l : Launch} {i : Nat} (hi : i < 29) {a1 : Int32} {a2 : Int32} {a3 : Int32} {M : z_M} {out : Int32} (h : F_X5_soundAs i a1 a2 a3 M = some out) : z_Met G l yX5_soundAs cX5_soundAs 4 (some .int) 2 [.ref (z_ad G 7 i), .int a1, .int a2, .int a3] M (some (.int out)) M := by
  unfold F_X5_soundAs at h
  refine z_met_of (by decide) rfl (Nat.le_of_ble_eq_true rfl) (fun p e s m below meth c ls hc hI hl => ?_)
  obtain ⟨⟨hx, hb, hml, hown, hts⟩, hr, hlk⟩ := id hc
  have hl : lv_has ls 4 [(0, .ref (z_ad G 7 i)), (1, .int a1), (2, .int a2), (3, .int a3)] := hl
  refine lv_iload_n hx hb dX5_soundAs_0 rfl (lv_at hl 1 rfl) ?_
  by_cases c1 : a1 = 1
  · replace h := z_ift h c1
    refine lv_tableIn (off := 35) (tgt := 36) hx hb dX5_soundAs_1 (by rw [c1]; decide) (by rw [c1]; decide) (by rw [c1]; rfl) (by decide) ?_
    refine lv_iload_n hx hb dX5_soundAs_36 rfl (lv_at hl 2 rfl) ?_
    obtain rfl := Option.some.inj h
    exact z_ri hc hI dX5_soundAs_37
  replace h := z_iff h c1
  by_cases c2 : a1 = 2
  · replace h := z_ift h c2
    refine lv_tableIn (off := 37) (tgt := 38) hx hb dX5_soundAs_1 (by rw [c2]; decide) (by rw [c2]; decide) (by rw [c2]; rfl) (by decide) ?_
    refine lv_aload_n hx hb dX5_soundAs_38 rfl (lv_at hl 0 rfl) ?_
    obtain ⟨q3, e4, h⟩ := z_bnd h
    refine iv_X5_80 hi hc hI (c_X5_isWet hi e4) (z_room (by decide) (by decide)) hl.1 (Nat.le_of_ble_eq_true rfl) ⟨Nat.zero_le _, Nat.zero_le _⟩ dX5_soundAs_39 (fun H locs hI => ?_)
    refine lv_if_eq (tgt := 55) hx hb dX5_soundAs_42 (by decide) (fun c5 => ?_) (fun c5 => ?_)
    · replace h := z_ift h c5
      refine lv_iload_n hx hb dX5_soundAs_55 rfl (lv_at hl 2 rfl) ?_
      obtain rfl := Option.some.inj h
      exact z_ri hc hI dX5_soundAs_56
    · replace h := z_iff h c5
      refine lv_iconst (v := 0) hx hb dX5_soundAs_45 (by decide) ?_
      refine lv_iload_n hx hb dX5_soundAs_46 rfl (lv_at hl 2 rfl) ?_
      refine lv_iconst (v := 1) hx hb dX5_soundAs_47 (by decide) ?_
      refine lv_isub hx hb dX5_soundAs_48 ?_
      refine mt_X5_74 hc hl.1 (z_frm (by decide)) (z_lrm (Nat.le_of_ble_eq_true rfl)) ⟨Nat.zero_le _, Nat.zero_le _⟩ dX5_soundAs_49 ?_
      refine lv_goto (tgt := 56) hx hb dX5_soundAs_52 (by decide) ?_
      obtain rfl := Option.some.inj h
      exact z_ri hc hI dX5_soundAs_56
  replace h := z_iff h c2
  by_cases c6 : a1 = 3
  · replace h := z_ift h c6
    refine lv_tableIn (off := 56) (tgt := 57) hx hb dX5_soundAs_1 (by rw [c6]; decide) (by rw [c6]; decide) (by rw [c6]; rfl) (by decide) ?_
    refine lv_bipush (v := 9) hx hb dX5_soundAs_57 (by decide) ?_
    refine lv_iload_n hx hb dX5_soundAs_59 rfl (lv_at hl 2 rfl) ?_
    refine lv_iload_n hx hb dX5_soundAs_60 rfl (lv_at hl 3 rfl) ?_
    refine lv_iadd hx hb dX5_soundAs_61 ?_
    refine lv_iconst (v := 1) hx hb dX5_soundAs_62 (by decide) ?_
    refine lv_isub hx hb dX5_soundAs_63 ?_
    refine mt_X5_84 hc hl.1 (z_frm (by decide)) (z_lrm (Nat.le_of_ble_eq_true rfl)) ⟨Nat.zero_le _, Nat.zero_le _⟩ dX5_soundAs_64 ?_
    obtain rfl := Option.some.inj h
    exact z_ri hc hI dX5_soundAs_67
  replace h := z_iff h c6
  by_cases c7 : a1 = 4
  · replace h := z_ift h c7
    refine lv_tableIn (off := 81) (tgt := 82) hx hb dX5_soundAs_1 (by rw [c7]; decide) (by rw [c7]; decide) (by rw [c7]; rfl) (by decide) ?_
    refine lv_bipush (v := 10) hx hb dX5_soundAs_82 (by decide) ?_
    obtain rfl := Option.some.inj h
    exact z_ri hc hI dX5_soundAs_84
  replace h := z_iff h c7
  by_cases c8 : a1 = 5
  · replace h := z_ift h c8
    refine lv_tableIn (off := 67) (tgt := 68) hx hb dX5_soundAs_1 (by rw [c8]; decide) (by rw [c8]; decide) (by rw [c8]; rfl) (by decide) ?_
    refine lv_iload_n hx hb dX5_soundAs_68 rfl (lv_at hl 3 rfl) ?_
    refine lv_iconst (v := 3) hx hb dX5_soundAs_69 (by decide) ?_
    refine lv_icmp_ne (tgt := 79) hx hb dX5_soundAs_70 (by decide) (fun c9 => ?_) (fun c9 => ?_)
    · replace h := z_iff h c9
      refine lv_bipush (v := 10) hx hb dX5_soundAs_79 (by decide) ?_
      obtain rfl := Option.some.inj h
      exact z_ri hc hI dX5_soundAs_81
    · replace h := z_ift h c9
      refine lv_iload_n hx hb dX5_soundAs_73 rfl (lv_at hl 2 rfl) ?_
      refine lv_iconst (v := 2) hx hb dX5_soundAs_74 (by decide) ?_
      refine lv_idiv hx hb dX5_soundAs_75 (by decide) ?_
      refine lv_goto (tgt := 81) hx hb dX5_soundAs_76 (by decide) ?_
      obtain rfl := Option.some.inj h
      exact z_ri hc hI dX5_soundAs_81
  replace h := z_iff h c8
  refine lv_tableOut (tgt := 82) hx hb dX5_soundAs_1 (by have nc1 := z_ne (n := 1) (by decide) c1; have nc2 := z_ne (n := 2) (by decide) c2; have nc6 := z_ne (n := 3) (by decide) c6; have nc7 := z_ne (n := 4) (by decide) c7; have nc8 := z_ne (n := 5) (by decide) c8; omega) (by decide) ?_
  refine lv_bipush (v := 10) hx hb dX5_soundAs_82 (by decide) ?_
  obtain rfl := Option.some.inj h
  exact z_ri hc hI dX5_soundAs_84
set_option maxRecDepth 100000 in
set_option maxHeartbeats 4000000 in
theorem w_X5_soundsIn_b98 {i : Nat} (hi : i < 29) {M : z_M} (hc : z_C p s m args meth c RX5 cX5_soundsIn 8 (some .int)) {out : Int32} {K6 : Int32 → Int32 → Int32 → Int32 → Int32 → Option Int32} (hK6 : ∀ (v1 : Int32) (v2 : Int32) (v3 : Int32) (v4 : Int32) (v5 : Int32) (H : Heap) (locs : List Loc) (ls : Array Slot), K6 v1 v2 v3 v4 v5 = some out → z_I G s M H locs → lv_has ls 8 [(0, .ref (z_ad G 7 i)), (1, .int v1), (2, .int v2), (3, .int v3), (4, .int v4), (5, .int v5)] → W p l e (z_rm 3) s m args below meth c H locs 0 0 (MQ below (z_Q G (some (.int out)) M) args s 0 0 (z_A G)) (F0 m 6 ls [])) (v1 : Int32) (v2 : Int32) (v3 : Int32) (v4 : Int32) (v5 : Int32) (H : Heap) (locs : List Loc) (ls : Array Slot) (h : F_X5_soundsIn_b98 i M K6 v1 v2 v3 v4 v5 = some out) (hI : z_I G s M H locs) (hl : lv_has ls 8 [(0, .ref (z_ad G 7 i)), (1, .int v1), (2, .int v2), (3, .int v3), (4, .int v4), (5, .int v5)]) : W p l e (z_rm 3) s m args below meth c H locs 0 0 (MQ below (z_Q G (some (.int out)) M) args s 0 0 (z_A G)) (F0 m 98 ls []) := by
  obtain ⟨⟨hx, hb, hml, hown, hts⟩, hr, hlk⟩ := id hc
  unfold F_X5_soundsIn_b98 at h
  refine lv_iinc (v := v5 + 1) (lv' := [(5, .int (v5 + 1)), (0, .ref (z_ad G 7 i)), (1, .int v1), (2, .int v2), (3, .int v3), (4, .int v4)]) hx hb dX5_soundsIn_98 hl (k := 5) rfl rfl (by decide) rfl (fun ls hl => ?_)
  refine lv_goto (tgt := 6) hx hb dX5_soundsIn_101 (by decide) ?_
  exact hK6 v1 v2 v3 v4 (v5 + 1) _ _ _ h hI (lv_sub hl [1, 2, 3, 4, 5, 0] rfl)
set_option maxRecDepth 100000 in
set_option maxHeartbeats 4000000 in
theorem w_X5_soundsIn_b6 {i : Nat} (hi : i < 29) {M : z_M} (hc : z_C p s m args meth c RX5 cX5_soundsIn 8 (some .int)) {out : Int32} : ∀ (n : Nat) (v1 : Int32) (v2 : Int32) (v3 : Int32) (v4 : Int32) (v5 : Int32) (H : Heap) (locs : List Loc) (ls : Array Slot) (h : F_X5_soundsIn_b6 i M n v1 v2 v3 v4 v5 = some out) (hI : z_I G s M H locs) (hl : lv_has ls 8 [(0, .ref (z_ad G 7 i)), (1, .int v1), (2, .int v2), (3, .int v3), (4, .int v4), (5, .int v5)]), W p l e (z_rm 3) s m args below meth c H locs 0 0 (MQ below (z_Q G (some (.int out)) M) args s 0 0 (z_A G)) (F0 m 6 ls []) := by
  obtain ⟨⟨hx, hb, hml, hown, hts⟩, hr, hlk⟩ := id hc
  intro n
  induction n with
  | zero => intro v1 v2 v3 v4 v5 H locs ls h; cases h
  | succ n ih =>
    intro v1 v2 v3 v4 v5 H locs ls h hI hl
    rw [F_X5_soundsIn_b6] at h
    refine lv_iload hx hb dX5_soundsIn_6 (lv_at hl 5 rfl) ?_
    refine lv_aload_n hx hb dX5_soundsIn_8 rfl (lv_at hl 0 rfl) ?_
    refine gf_X5_34 hi hc hI dX5_soundsIn_9 ?_
    refine lv_icmp_ge (tgt := 104) hx hb dX5_soundsIn_12 (by decide) (fun c1 => ?_) (fun c1 => ?_)
    · replace h := z_ift h c1
      refine lv_iload hx hb dX5_soundsIn_104 (lv_at hl 4 rfl) ?_
      obtain rfl := Option.some.inj h
      exact z_ri hc hI dX5_soundsIn_106
    · replace h := z_iff h c1
      refine lv_aload_n hx hb dX5_soundsIn_15 rfl (lv_at hl 0 rfl) ?_
      refine lv_iload hx hb dX5_soundsIn_16 (lv_at hl 5 rfl) ?_
      refine lv_iload_n hx hb dX5_soundsIn_18 rfl (lv_at hl 1 rfl) ?_
      refine lv_aload_n hx hb dX5_soundsIn_19 rfl (lv_at hl 0 rfl) ?_
      refine lv_iload hx hb dX5_soundsIn_20 (lv_at hl 5 rfl) ?_
      refine lv_iconst (v := 3) hx hb dX5_soundsIn_22 (by decide) ?_
      obtain ⟨q2, e3, h⟩ := z_bnd h
      refine iv_X5_93 hi hc hI (c_X5_partOf hi e3) (z_room (by decide) (by decide)) hl.1 (Nat.le_of_ble_eq_true rfl) ⟨Nat.zero_le _, Nat.zero_le _⟩ dX5_soundsIn_23 (fun H locs hI => ?_)
      refine lv_isub hx hb dX5_soundsIn_26 ?_
      obtain ⟨q4, e5, h⟩ := z_bnd h
      refine iv_X5_90 hi hc hI (c_X5_treadOf hi e5) (z_room (by decide) (by decide)) hl.1 (Nat.le_of_ble_eq_true rfl) ⟨Nat.zero_le _, Nat.zero_le _⟩ dX5_soundsIn_27 (fun H locs hI => ?_)
      refine lv_istore (lv' := [(6, .int q4), (0, .ref (z_ad G 7 i)), (1, .int v1), (2, .int v2), (3, .int v3), (4, .int v4), (5, .int v5)]) hx hb dX5_soundsIn_30 hl (by decide) rfl (fun ls hl => ?_)
      refine lv_aload_n hx hb dX5_soundsIn_32 rfl (lv_at hl 1 rfl) ?_
      refine lv_iload hx hb dX5_soundsIn_33 (lv_at hl 0 rfl) ?_
      obtain ⟨q6, e7, h⟩ := z_bnd h
      refine iv_X5_58 hi hc hI (c_X5_hasTread hi e7) (z_room (by decide) (by decide)) hl.1 (Nat.le_of_ble_eq_true rfl) ⟨Nat.zero_le _, Nat.zero_le _⟩ dX5_soundsIn_35 (fun H locs hI => ?_)
      refine lv_if_eq (tgt := 98) hx hb dX5_soundsIn_38 (by decide) (fun c8 => ?_) (fun c8 => ?_)
      · replace h := z_ift h c8
        exact w_X5_soundsIn_b98 hi hc ih v1 v2 v3 v4 v5 _ _ _ h hI (lv_sub hl [1, 2, 3, 4, 5, 6] rfl)
      · replace h := z_iff h c8
        refine lv_iload hx hb dX5_soundsIn_41 (lv_at hl 0 rfl) ?_
        refine lv_iload_n hx hb dX5_soundsIn_43 rfl (lv_at hl 3 rfl) ?_
        refine lv_icmp_lt (tgt := 98) hx hb dX5_soundsIn_44 (by decide) (fun c9 => ?_) (fun c9 => ?_)
        · replace h := z_ift h c9
          exact w_X5_soundsIn_b98 hi hc ih v1 v2 v3 v4 v5 _ _ _ h hI (lv_sub hl [1, 2, 3, 4, 5, 6] rfl)
        · replace h := z_iff h c9
          refine lv_iload hx hb dX5_soundsIn_47 (lv_at hl 0 rfl) ?_
          refine lv_iload_n hx hb dX5_soundsIn_49 rfl (lv_at hl 4 rfl) ?_
          refine lv_icmp_le (tgt := 56) hx hb dX5_soundsIn_50 (by decide) (fun c10 => ?_) (fun c10 => ?_)
          · replace h := z_ift h c10
            refine lv_aload_n hx hb dX5_soundsIn_56 rfl (lv_at hl 1 rfl) ?_
            refine lv_aload_n hx hb dX5_soundsIn_57 rfl (lv_at hl 1 rfl) ?_
            refine gf_X5_9 hi hc hI dX5_soundsIn_58 ?_
            refine lv_iload hx hb dX5_soundsIn_61 (lv_at hl 0 rfl) ?_
            obtain ⟨g11, h⟩ := z_grd_some h
            refine ld_k8 hi hc hI g11 dX5_soundsIn_63 ?_
            refine lv_aload_n hx hb dX5_soundsIn_64 rfl (lv_at hl 1 rfl) ?_
            refine lv_iload hx hb dX5_soundsIn_65 (lv_at hl 0 rfl) ?_
            obtain ⟨q12, e13, h⟩ := z_bnd h
            refine iv_X5_71 hi hc hI (c_X5_toneOf hi e13) (z_room (by decide) (by decide)) hl.1 (Nat.le_of_ble_eq_true rfl) ⟨Nat.zero_le _, Nat.zero_le _⟩ dX5_soundsIn_67 (fun H locs hI => ?_)
            refine lv_aload_n hx hb dX5_soundsIn_70 rfl (lv_at hl 1 rfl) ?_
            refine lv_iload hx hb dX5_soundsIn_71 (lv_at hl 6 rfl) ?_
            refine lv_iconst (v := 2) hx hb dX5_soundsIn_73 (by decide) ?_
            obtain ⟨q14, e15, h⟩ := z_bnd h
            refine iv_X5_93 hi hc hI (c_X5_partOf hi e15) (z_room (by decide) (by decide)) hl.1 (Nat.le_of_ble_eq_true rfl) ⟨Nat.zero_le _, Nat.zero_le _⟩ dX5_soundsIn_74 (fun H locs hI => ?_)
            obtain ⟨q16, e17, h⟩ := z_bnd h
            refine iv_X5_96 hi hc hI (c_X5_soundAs hi e17) (z_room (by decide) (by decide)) hl.1 (Nat.le_of_ble_eq_true rfl) ⟨Nat.zero_le _, Nat.zero_le _⟩ dX5_soundsIn_77 (fun H locs hI => ?_)
            refine lv_istore (lv' := [(7, .int q16), (6, .int q4), (0, .ref (z_ad G 7 i)), (1, .int v1), (2, .int v2), (3, .int v3), (4, .int v4), (5, .int v5)]) hx hb dX5_soundsIn_80 hl (by decide) rfl (fun ls hl => ?_)
            refine lv_iload hx hb dX5_soundsIn_82 (lv_at hl 0 rfl) ?_
            refine lv_bipush (v := 10) hx hb dX5_soundsIn_84 (by decide) ?_
            refine lv_icmp_eq (tgt := 98) hx hb dX5_soundsIn_86 (by decide) (fun c18 => ?_) (fun c18 => ?_)
            · replace h := z_ift h c18
              exact w_X5_soundsIn_b98 hi hc ih v1 v2 v3 v4 v5 _ _ _ h hI (lv_sub hl [2, 3, 4, 5, 6, 7] rfl)
            · replace h := z_iff h c18
              refine lv_iload hx hb dX5_soundsIn_89 (lv_at hl 6 rfl) ?_
              refine lv_iconst (v := 1) hx hb dX5_soundsIn_91 (by decide) ?_
              refine lv_iload hx hb dX5_soundsIn_92 (lv_at hl 0 rfl) ?_
              refine lv_ishl hx hb dX5_soundsIn_94 ?_
              refine lv_ior hx hb dX5_soundsIn_95 ?_
              refine z_nI h (fun x19 h => ?_)
              refine lv_istore (lv' := [(4, .int x19), (7, .int q16), (6, .int q4), (0, .ref (z_ad G 7 i)), (1, .int v1), (2, .int v2), (3, .int v3), (5, .int v5)]) hx hb dX5_soundsIn_96 hl (by decide) rfl (fun ls hl => ?_)
              exact w_X5_soundsIn_b98 hi hc ih v1 v2 v3 x19 v5 _ _ _ h hI (lv_sub hl [3, 4, 5, 6, 0, 7] rfl)
          · replace h := z_iff h c10
            refine lv_goto (tgt := 98) hx hb dX5_soundsIn_53 (by decide) ?_
            exact w_X5_soundsIn_b98 hi hc ih v1 v2 v3 v4 v5 _ _ _ h hI (lv_sub hl [1, 2, 3, 4, 5, 6] rfl)
set_option maxRecDepth 100000 in
set_option maxHeartbeats 4000000 in
theorem c_X5_soundsIn {G : z_G} {l : Launch} {i : Nat} (hi : i < 29) {a1 : Int32} {a2 : Int32} {a3 : Int32} {M : z_M} {out : Int32} (h : F_X5_soundsIn i a1 a2 a3 M = some out) : z_Met G l yX5_soundsIn cX5_soundsIn 8 (some .int) 3 [.ref (z_ad G 7 i), .int a1, .int a2, .int a3] M (some (.int out)) M := by
  unfold F_X5_soundsIn at h
  refine z_met_of (by decide) rfl (Nat.le_of_ble_eq_true rfl) (fun p e s m below meth c ls hc hI hl => ?_)
  obtain ⟨⟨hx, hb, hml, hown, hts⟩, hr, hlk⟩ := id hc
  have hl : lv_has ls 8 [(0, .ref (z_ad G 7 i)), (1, .int a1), (2, .int a2), (3, .int a3)] := hl
  refine lv_iconst (v := 0) hx hb dX5_soundsIn_0 (by decide) ?_
  refine lv_istore (lv' := [(4, .int 0), (0, .ref (z_ad G 7 i)), (1, .int a1), (2, .int a2), (3, .int a3)]) hx hb dX5_soundsIn_1 hl (by decide) rfl (fun ls hl => ?_)
  refine lv_iconst (v := 0) hx hb dX5_soundsIn_3 (by decide) ?_
  refine lv_istore (lv' := [(5, .int 0), (4, .int 0), (0, .ref (z_ad G 7 i)), (1, .int a1), (2, .int a2), (3, .int a3)]) hx hb dX5_soundsIn_4 hl (by decide) rfl (fun ls hl => ?_)
  exact w_X5_soundsIn_b6 hi hc _ a1 a2 a3 0 0 _ _ _ h hI (lv_sub hl [2, 3, 4, 5, 1, 0] rfl)
set_option maxRecDepth 100000 in
set_option maxHeartbeats 4000000 in
theorem w_X5_tuneNumber_b13 {i : Nat} (hi : i < 29) {M : z_M} (hc : z_C p s m args meth c RX5 cX5_tuneNumber 7 (some .long)) {out : Int64} : ∀ (n : Nat) (v1 : Int32) (v2 : Int64) (v4 : Int32) (v5 : Int32) (H : Heap) (locs : List Loc) (ls : Array Slot) (h : F_X5_tuneNumber_b13 i M n v1 v2 v4 v5 = some out) (hI : z_I G s M H locs) (hl : lv_has ls 7 [(0, .ref (z_ad G 7 i)), (1, .int v1), (2, .long v2), (4, .int v4), (5, .int v5)]), W p l e (z_rm 3) s m args below meth c H locs 0 0 (MQ below (z_Q G (some (.long out)) M) args s 0 0 (z_A G)) (F0 m 13 ls []) := by
  obtain ⟨⟨hx, hb, hml, hown, hts⟩, hr, hlk⟩ := id hc
  intro n
  induction n with
  | zero => intro v1 v2 v4 v5 H locs ls h; cases h
  | succ n ih =>
    intro v1 v2 v4 v5 H locs ls h hI hl
    rw [F_X5_tuneNumber_b13] at h
    refine lv_iload hx hb dX5_tuneNumber_13 (lv_at hl 4 rfl) ?_
    refine lv_bipush (v := 8) hx hb dX5_tuneNumber_15 (by decide) ?_
    refine lv_icmp_ge (tgt := 74) hx hb dX5_tuneNumber_17 (by decide) (fun c3 => ?_) (fun c3 => ?_)
    · replace h := z_ift h c3
      refine lv_lload_n hx hb dX5_tuneNumber_74 rfl (lv_at hl 2 rfl) ?_
      obtain rfl := Option.some.inj h
      exact z_rl hc hI dX5_tuneNumber_75
    · replace h := z_iff h c3
      refine lv_aload_n hx hb dX5_tuneNumber_20 rfl (lv_at hl 0 rfl) ?_
      refine lv_iload_n hx hb dX5_tuneNumber_21 rfl (lv_at hl 1 rfl) ?_
      refine lv_iload hx hb dX5_tuneNumber_22 (lv_at hl 4 rfl) ?_
      obtain ⟨q4, e5, h⟩ := z_bnd h
      refine iv_X5_90 hi hc hI (c_X5_treadOf hi e5) (z_room (by decide) (by decide)) hl.1 (Nat.le_of_ble_eq_true rfl) ⟨Nat.zero_le _, Nat.zero_le _⟩ dX5_tuneNumber_24 (fun H locs hI => ?_)
      refine lv_istore (lv' := [(6, .int q4), (0, .ref (z_ad G 7 i)), (1, .int v1), (2, .long v2), (4, .int v4), (5, .int v5)]) hx hb dX5_tuneNumber_27 hl (by decide) rfl (fun ls hl => ?_)
      refine lv_aload_n hx hb dX5_tuneNumber_29 rfl (lv_at hl 1 rfl) ?_
      refine lv_iload hx hb dX5_tuneNumber_30 (lv_at hl 0 rfl) ?_
      obtain ⟨q6, e7, h⟩ := z_bnd h
      refine iv_X5_58 hi hc hI (c_X5_hasTread hi e7) (z_room (by decide) (by decide)) hl.1 (Nat.le_of_ble_eq_true rfl) ⟨Nat.zero_le _, Nat.zero_le _⟩ dX5_tuneNumber_32 (fun H locs hI => ?_)
      refine lv_if_ne (tgt := 41) hx hb dX5_tuneNumber_35 (by decide) (fun c8 => ?_) (fun c8 => ?_)
      · replace h := z_iff h c8
        refine lv_lload_n hx hb dX5_tuneNumber_41 rfl (lv_at hl 3 rfl) ?_
        refine lv_ldc2 (v := 16) hx hb hown (hts _ wd_3_141) dX5_tuneNumber_42 ?_
        refine lv_lmul hx hb dX5_tuneNumber_45 ?_
        refine lv_aload_n hx hb dX5_tuneNumber_46 rfl (lv_at hl 1 rfl) ?_
        refine lv_aload_n hx hb dX5_tuneNumber_47 rfl (lv_at hl 1 rfl) ?_
        refine gf_X5_9 hi hc hI dX5_tuneNumber_48 ?_
        refine lv_iload hx hb dX5_tuneNumber_51 (lv_at hl 0 rfl) ?_
        obtain ⟨g9, h⟩ := z_grd_some h
        refine ld_k8 hi hc hI g9 dX5_tuneNumber_53 ?_
        refine lv_aload_n hx hb dX5_tuneNumber_54 rfl (lv_at hl 1 rfl) ?_
        refine lv_iload hx hb dX5_tuneNumber_55 (lv_at hl 0 rfl) ?_
        obtain ⟨q10, e11, h⟩ := z_bnd h
        refine iv_X5_71 hi hc hI (c_X5_toneOf hi e11) (z_room (by decide) (by decide)) hl.1 (Nat.le_of_ble_eq_true rfl) ⟨Nat.zero_le _, Nat.zero_le _⟩ dX5_tuneNumber_57 (fun H locs hI => ?_)
        refine lv_iload hx hb dX5_tuneNumber_60 (lv_at hl 4 rfl) ?_
        obtain ⟨q12, e13, h⟩ := z_bnd h
        refine iv_X5_96 hi hc hI (c_X5_soundAs hi e13) (z_room (by decide) (by decide)) hl.1 (Nat.le_of_ble_eq_true rfl) ⟨Nat.zero_le _, Nat.zero_le _⟩ dX5_tuneNumber_62 (fun H locs hI => ?_)
        refine lv_i2l (v := q12.toInt64) hx hb dX5_tuneNumber_65 rfl ?_
        refine lv_ladd hx hb dX5_tuneNumber_66 ?_
        refine z_nL h (fun x14 h => ?_)
        refine lv_lstore_n (lv' := [(2, .long x14), (6, .int q4), (0, .ref (z_ad G 7 i)), (1, .int v1), (4, .int v4), (5, .int v5)]) hx hb dX5_tuneNumber_67 rfl hl (by decide) rfl (fun ls hl => ?_)
        refine lv_iinc (v := v5 + 1) (lv' := [(5, .int (v5 + 1)), (2, .long x14), (6, .int q4), (0, .ref (z_ad G 7 i)), (1, .int v1), (4, .int v4)]) hx hb dX5_tuneNumber_68 hl (k := 5) rfl rfl (by decide) rfl (fun ls hl => ?_)
        refine lv_goto (tgt := 13) hx hb dX5_tuneNumber_71 (by decide) ?_
        exact ih v1 x14 v4 (v5 + 1) _ _ _ h hI (lv_sub hl [3, 4, 1, 5, 0] rfl)
      · replace h := z_ift h c8
        refine lv_goto (tgt := 74) hx hb dX5_tuneNumber_38 (by decide) ?_
        refine lv_lload_n hx hb dX5_tuneNumber_74 rfl (lv_at hl 3 rfl) ?_
        obtain rfl := Option.some.inj h
        exact z_rl hc hI dX5_tuneNumber_75
set_option maxRecDepth 100000 in
set_option maxHeartbeats 4000000 in
theorem c_X5_tuneNumber {G : z_G} {l : Launch} {i : Nat} (hi : i < 29) {a1 : Int32} {M : z_M} {out : Int64} (h : F_X5_tuneNumber i a1 M = some out) : z_Met G l yX5_tuneNumber cX5_tuneNumber 7 (some .long) 3 [.ref (z_ad G 7 i), .int a1] M (some (.long out)) M := by
  unfold F_X5_tuneNumber at h
  refine z_met_of (by decide) rfl (Nat.le_of_ble_eq_true rfl) (fun p e s m below meth c ls hc hI hl => ?_)
  obtain ⟨⟨hx, hb, hml, hown, hts⟩, hr, hlk⟩ := id hc
  have hl : lv_has ls 7 [(0, .ref (z_ad G 7 i)), (1, .int a1)] := hl
  refine lv_lconst (v := 1) hx hb dX5_tuneNumber_0 (by decide) ?_
  refine lv_lstore_n (lv' := [(2, .long 1), (0, .ref (z_ad G 7 i)), (1, .int a1)]) hx hb dX5_tuneNumber_1 rfl hl (by decide) rfl (fun ls hl => ?_)
  refine lv_aload_n hx hb dX5_tuneNumber_2 rfl (lv_at hl 1 rfl) ?_
  refine lv_iload_n hx hb dX5_tuneNumber_3 rfl (lv_at hl 2 rfl) ?_
  refine lv_iconst (v := 2) hx hb dX5_tuneNumber_4 (by decide) ?_
  obtain ⟨q1, e2, h⟩ := z_bnd h
  refine iv_X5_93 hi hc hI (c_X5_partOf hi e2) (z_room (by decide) (by decide)) hl.1 (Nat.le_of_ble_eq_true rfl) ⟨Nat.zero_le _, Nat.zero_le _⟩ dX5_tuneNumber_5 (fun H locs hI => ?_)
  refine lv_istore (lv' := [(4, .int q1), (2, .long 1), (0, .ref (z_ad G 7 i)), (1, .int a1)]) hx hb dX5_tuneNumber_8 hl (by decide) rfl (fun ls hl => ?_)
  refine lv_iconst (v := 0) hx hb dX5_tuneNumber_10 (by decide) ?_
  refine lv_istore (lv' := [(5, .int 0), (4, .int q1), (2, .long 1), (0, .ref (z_ad G 7 i)), (1, .int a1)]) hx hb dX5_tuneNumber_11 hl (by decide) rfl (fun ls hl => ?_)
  exact w_X5_tuneNumber_b13 hi hc _ a1 1 q1 0 _ _ _ h hI (lv_sub hl [3, 4, 2, 1, 0] rfl)
set_option maxRecDepth 100000 in
set_option maxHeartbeats 4000000 in
theorem c_X5_walkerCount {G : z_G} {l : Launch} {i : Nat} (hi : i < 29) {M : z_M} {out : Int32} (h : F_X5_walkerCount i M = some out) : z_Met G l yX5_walkerCount cX5_walkerCount 1 (some .int) 1 [.ref (z_ad G 7 i)] M (some (.int out)) M := by
  unfold F_X5_walkerCount at h
  refine z_met_of (by decide) rfl (Nat.le_of_ble_eq_true rfl) (fun p e s m below meth c ls hc hI hl => ?_)
  obtain ⟨⟨hx, hb, hml, hown, hts⟩, hr, hlk⟩ := id hc
  have hl : lv_has ls 1 [(0, .ref (z_ad G 7 i))] := hl
  refine lv_aload_n hx hb dX5_walkerCount_0 rfl (lv_at hl 0 rfl) ?_
  refine gf_X5_34 hi hc hI dX5_walkerCount_1 ?_
  obtain rfl := Option.some.inj h
  exact z_ri hc hI dX5_walkerCount_4
set_option maxRecDepth 100000 in
set_option maxHeartbeats 4000000 in
theorem c_X5_isNear {G : z_G} {l : Launch} {i : Nat} (hi : i < 29) {a1 : Int32} {a2 : Int32} {M : z_M} {out : Int32} (h : F_X5_isNear i a1 a2 M = some out) : z_Met G l yX5_isNear cX5_isNear 3 (some .boolean) 2 [.ref (z_ad G 7 i), .int a1, .int a2] M (some (.int out)) M := by
  unfold F_X5_isNear at h
  refine z_met_of (by decide) rfl (Nat.le_of_ble_eq_true rfl) (fun p e s m below meth c ls hc hI hl => ?_)
  obtain ⟨⟨hx, hb, hml, hown, hts⟩, hr, hlk⟩ := id hc
  have hl : lv_has ls 3 [(0, .ref (z_ad G 7 i)), (1, .int a1), (2, .int a2)] := hl
  refine lv_aload_n hx hb dX5_isNear_0 rfl (lv_at hl 0 rfl) ?_
  refine lv_iload_n hx hb dX5_isNear_1 rfl (lv_at hl 1 rfl) ?_
  obtain ⟨q1, e2, h⟩ := z_bnd h
  refine iv_X5_58 hi hc hI (c_X5_hasTread hi e2) (z_room (by decide) (by decide)) hl.1 (Nat.le_of_ble_eq_true rfl) ⟨Nat.zero_le _, Nat.zero_le _⟩ dX5_isNear_2 (fun H locs hI => ?_)
  refine lv_if_eq (tgt := 33) hx hb dX5_isNear_5 (by decide) (fun c3 => ?_) (fun c3 => ?_)
  · replace h := z_ift h c3
    refine lv_iconst (v := 0) hx hb dX5_isNear_33 (by decide) ?_
    obtain rfl := Option.some.inj h
    exact z_rz (x := 0) hc hI (by decide) dX5_isNear_34
  · replace h := z_iff h c3
    refine lv_aload_n hx hb dX5_isNear_8 rfl (lv_at hl 0 rfl) ?_
    refine lv_iload_n hx hb dX5_isNear_9 rfl (lv_at hl 2 rfl) ?_
    obtain ⟨q4, e5, h⟩ := z_bnd h
    refine iv_X5_58 hi hc hI (c_X5_hasTread hi e5) (z_room (by decide) (by decide)) hl.1 (Nat.le_of_ble_eq_true rfl) ⟨Nat.zero_le _, Nat.zero_le _⟩ dX5_isNear_10 (fun H locs hI => ?_)
    refine lv_if_eq (tgt := 33) hx hb dX5_isNear_13 (by decide) (fun c6 => ?_) (fun c6 => ?_)
    · replace h := z_ift h c6
      refine lv_iconst (v := 0) hx hb dX5_isNear_33 (by decide) ?_
      obtain rfl := Option.some.inj h
      exact z_rz (x := 0) hc hI (by decide) dX5_isNear_34
    · replace h := z_iff h c6
      refine lv_iload_n hx hb dX5_isNear_16 rfl (lv_at hl 1 rfl) ?_
      refine lv_iload_n hx hb dX5_isNear_17 rfl (lv_at hl 2 rfl) ?_
      refine lv_isub hx hb dX5_isNear_18 ?_
      refine mt_X5_87 hc hl.1 (z_frm (by decide)) (z_lrm (Nat.le_of_ble_eq_true rfl)) ⟨Nat.zero_le _, Nat.zero_le _⟩ dX5_isNear_19 ?_
      refine lv_aload_n hx hb dX5_isNear_22 rfl (lv_at hl 0 rfl) ?_
      refine gf_X5_40 hi hc hI dX5_isNear_23 ?_
      refine lv_icmp_gt (tgt := 33) hx hb dX5_isNear_26 (by decide) (fun c7 => ?_) (fun c7 => ?_)
      · replace h := z_ift h c7
        refine lv_iconst (v := 0) hx hb dX5_isNear_33 (by decide) ?_
        obtain rfl := Option.some.inj h
        exact z_rz (x := 0) hc hI (by decide) dX5_isNear_34
      · replace h := z_iff h c7
        refine lv_iconst (v := 1) hx hb dX5_isNear_29 (by decide) ?_
        refine lv_goto (tgt := 34) hx hb dX5_isNear_30 (by decide) ?_
        obtain rfl := Option.some.inj h
        exact z_rz (x := 1) hc hI (by decide) dX5_isNear_34
set_option maxRecDepth 100000 in
set_option maxHeartbeats 4000000 in
theorem c_X5_treadCount {G : z_G} {l : Launch} {i : Nat} (hi : i < 29) {M : z_M} {out : Int32} (h : F_X5_treadCount i M = some out) : z_Met G l yX5_treadCount cX5_treadCount 1 (some .int) 1 [.ref (z_ad G 7 i)] M (some (.int out)) M := by
  unfold F_X5_treadCount at h
  refine z_met_of (by decide) rfl (Nat.le_of_ble_eq_true rfl) (fun p e s m below meth c ls hc hI hl => ?_)
  obtain ⟨⟨hx, hb, hml, hown, hts⟩, hr, hlk⟩ := id hc
  have hl : lv_has ls 1 [(0, .ref (z_ad G 7 i))] := hl
  refine lv_aload_n hx hb dX5_treadCount_0 rfl (lv_at hl 0 rfl) ?_
  refine gf_X5_30 hi hc hI dX5_treadCount_1 ?_
  obtain rfl := Option.some.inj h
  exact z_ri hc hI dX5_treadCount_4
set_option maxRecDepth 100000 in
set_option maxHeartbeats 4000000 in
theorem c_X5_setNote {G : z_G} {l : Launch} {i : Nat} (hi : i < 29) {a1 : Int32} {a2 : Int32} {M : z_M} {out : z_M} (h : F_X5_setNote i a1 a2 M = some out) : z_Met G l yX5_setNote cX5_setNote 3 none 2 [.ref (z_ad G 7 i), .int a1, .int a2] M (none) out := by
  unfold F_X5_setNote at h
  refine z_met_of (by decide) rfl (Nat.le_of_ble_eq_true rfl) (fun p e s m below meth c ls hc hI hl => ?_)
  obtain ⟨⟨hx, hb, hml, hown, hts⟩, hr, hlk⟩ := id hc
  have hl : lv_has ls 3 [(0, .ref (z_ad G 7 i)), (1, .int a1), (2, .int a2)] := hl
  refine lv_aload_n hx hb dX5_setNote_0 rfl (lv_at hl 0 rfl) ?_
  refine lv_iload_n hx hb dX5_setNote_1 rfl (lv_at hl 1 rfl) ?_
  obtain ⟨q1, e2, h⟩ := z_bnd h
  refine iv_X5_58 hi hc hI (c_X5_hasTread hi e2) (z_room (by decide) (by decide)) hl.1 (Nat.le_of_ble_eq_true rfl) ⟨Nat.zero_le _, Nat.zero_le _⟩ dX5_setNote_2 (fun H locs hI => ?_)
  refine lv_if_eq (tgt := 15) hx hb dX5_setNote_5 (by decide) (fun c3 => ?_) (fun c3 => ?_)
  · replace h := z_ift h c3
    obtain rfl := Option.some.inj h
    exact z_rv hc hI dX5_setNote_15
  · replace h := z_iff h c3
    refine lv_aload_n hx hb dX5_setNote_8 rfl (lv_at hl 0 rfl) ?_
    refine gf_X5_15 hi hc hI dX5_setNote_9 ?_
    refine lv_iload_n hx hb dX5_setNote_12 rfl (lv_at hl 1 rfl) ?_
    refine lv_iload_n hx hb dX5_setNote_13 rfl (lv_at hl 2 rfl) ?_
    obtain ⟨g4, h⟩ := z_grd_some h
    refine st_k9 hi hc hI g4 dX5_setNote_14 (fun H locs hI => ?_)
    obtain rfl := Option.some.inj h
    exact z_rv hc hI dX5_setNote_15
set_option maxRecDepth 100000 in
set_option maxHeartbeats 4000000 in
theorem c_X5_planeTo {G : z_G} {l : Launch} {i : Nat} (hi : i < 29) {a1 : Int32} {a2 : Int32} {M : z_M} {out : z_M} (h : F_X5_planeTo i a1 a2 M = some out) : z_Met G l yX5_planeTo cX5_planeTo 3 none 3 [.ref (z_ad G 7 i), .int a1, .int a2] M (none) out := by
  unfold F_X5_planeTo at h
  refine z_met_of (by decide) rfl (Nat.le_of_ble_eq_true rfl) (fun p e s m below meth c ls hc hI hl => ?_)
  obtain ⟨⟨hx, hb, hml, hown, hts⟩, hr, hlk⟩ := id hc
  have hl : lv_has ls 3 [(0, .ref (z_ad G 7 i)), (1, .int a1), (2, .int a2)] := hl
  refine lv_aload_n hx hb dX5_planeTo_0 rfl (lv_at hl 0 rfl) ?_
  refine lv_iload_n hx hb dX5_planeTo_1 rfl (lv_at hl 1 rfl) ?_
  refine lv_iload_n hx hb dX5_planeTo_2 rfl (lv_at hl 2 rfl) ?_
  obtain ⟨q1, e2, h⟩ := z_bnd h
  refine iv_X5_61 hi hc hI (c_X5_setNote hi e2) (z_room (by decide) (by decide)) hl.1 (Nat.le_of_ble_eq_true rfl) ⟨Nat.zero_le _, Nat.zero_le _⟩ dX5_planeTo_3 (fun H locs hI => ?_)
  refine lv_aload_n hx hb dX5_planeTo_6 rfl (lv_at hl 0 rfl) ?_
  refine lv_iload_n hx hb dX5_planeTo_7 rfl (lv_at hl 1 rfl) ?_
  refine lv_iconst (v := 0) hx hb dX5_planeTo_8 (by decide) ?_
  obtain ⟨q3, e4, h⟩ := z_bnd h
  refine iv_X5_65 hi hc hI (c_X5_setWorn hi e4) (z_room (by decide) (by decide)) hl.1 (Nat.le_of_ble_eq_true rfl) ⟨Nat.zero_le _, Nat.zero_le _⟩ dX5_planeTo_9 (fun H locs hI => ?_)
  obtain rfl := Option.some.inj h
  exact z_rv hc hI dX5_planeTo_12
set_option maxRecDepth 100000 in
set_option maxHeartbeats 4000000 in
theorem c_X5_heardAt {G : z_G} {l : Launch} {i : Nat} (hi : i < 29) {a1 : Int32} {a2 : Int32} {M : z_M} {out : Int32} (h : F_X5_heardAt i a1 a2 M = some out) : z_Met G l yX5_heardAt cX5_heardAt 3 (some .int) 4 [.ref (z_ad G 7 i), .int a1, .int a2] M (some (.int out)) M := by
  unfold F_X5_heardAt at h
  refine z_met_of (by decide) rfl (Nat.le_of_ble_eq_true rfl) (fun p e s m below meth c ls hc hI hl => ?_)
  obtain ⟨⟨hx, hb, hml, hown, hts⟩, hr, hlk⟩ := id hc
  have hl : lv_has ls 3 [(0, .ref (z_ad G 7 i)), (1, .int a1), (2, .int a2)] := hl
  refine lv_aload_n hx hb dX5_heardAt_0 rfl (lv_at hl 0 rfl) ?_
  refine lv_iload_n hx hb dX5_heardAt_1 rfl (lv_at hl 2 rfl) ?_
  refine lv_iload_n hx hb dX5_heardAt_2 rfl (lv_at hl 1 rfl) ?_
  refine lv_aload_n hx hb dX5_heardAt_3 rfl (lv_at hl 0 rfl) ?_
  refine gf_X5_40 hi hc hI dX5_heardAt_4 ?_
  refine lv_isub hx hb dX5_heardAt_7 ?_
  refine lv_iload_n hx hb dX5_heardAt_8 rfl (lv_at hl 1 rfl) ?_
  refine lv_aload_n hx hb dX5_heardAt_9 rfl (lv_at hl 0 rfl) ?_
  refine gf_X5_40 hi hc hI dX5_heardAt_10 ?_
  refine lv_iadd hx hb dX5_heardAt_13 ?_
  obtain ⟨q1, e2, h⟩ := z_bnd h
  refine iv_X5_100 hi hc hI (c_X5_soundsIn hi e2) (z_room (by decide) (by decide)) hl.1 (Nat.le_of_ble_eq_true rfl) ⟨Nat.zero_le _, Nat.zero_le _⟩ dX5_heardAt_14 (fun H locs hI => ?_)
  obtain rfl := Option.some.inj h
  exact z_ri hc hI dX5_heardAt_17
set_option maxRecDepth 100000 in
set_option maxHeartbeats 4000000 in
theorem c_X5_setKind {G : z_G} {l : Launch} {i : Nat} (hi : i < 29) {a1 : Int32} {a2 : Int32} {M : z_M} {out : z_M} (h : F_X5_setKind i a1 a2 M = some out) : z_Met G l yX5_setKind cX5_setKind 3 none 2 [.ref (z_ad G 7 i), .int a1, .int a2] M (none) out := by
  unfold F_X5_setKind at h
  refine z_met_of (by decide) rfl (Nat.le_of_ble_eq_true rfl) (fun p e s m below meth c ls hc hI hl => ?_)
  obtain ⟨⟨hx, hb, hml, hown, hts⟩, hr, hlk⟩ := id hc
  have hl : lv_has ls 3 [(0, .ref (z_ad G 7 i)), (1, .int a1), (2, .int a2)] := hl
  refine lv_aload_n hx hb dX5_setKind_0 rfl (lv_at hl 0 rfl) ?_
  refine lv_iload_n hx hb dX5_setKind_1 rfl (lv_at hl 1 rfl) ?_
  obtain ⟨q1, e2, h⟩ := z_bnd h
  refine iv_X5_58 hi hc hI (c_X5_hasTread hi e2) (z_room (by decide) (by decide)) hl.1 (Nat.le_of_ble_eq_true rfl) ⟨Nat.zero_le _, Nat.zero_le _⟩ dX5_setKind_2 (fun H locs hI => ?_)
  refine lv_if_eq (tgt := 15) hx hb dX5_setKind_5 (by decide) (fun c3 => ?_) (fun c3 => ?_)
  · replace h := z_ift h c3
    obtain rfl := Option.some.inj h
    exact z_rv hc hI dX5_setKind_15
  · replace h := z_iff h c3
    refine lv_aload_n hx hb dX5_setKind_8 rfl (lv_at hl 0 rfl) ?_
    refine gf_X5_9 hi hc hI dX5_setKind_9 ?_
    refine lv_iload_n hx hb dX5_setKind_12 rfl (lv_at hl 1 rfl) ?_
    refine lv_iload_n hx hb dX5_setKind_13 rfl (lv_at hl 2 rfl) ?_
    obtain ⟨g4, h⟩ := z_grd_some h
    refine st_k8 hi hc hI g4 dX5_setKind_14 (fun H locs hI => ?_)
    obtain rfl := Option.some.inj h
    exact z_rv hc hI dX5_setKind_15
set_option maxRecDepth 100000 in
set_option maxHeartbeats 4000000 in
theorem c_X5_soundOf {G : z_G} {l : Launch} {i : Nat} (hi : i < 29) {a1 : Int32} {a2 : Int32} {M : z_M} {out : Int32} (h : F_X5_soundOf i a1 a2 M = some out) : z_Met G l yX5_soundOf cX5_soundOf 4 (some .int) 3 [.ref (z_ad G 7 i), .int a1, .int a2] M (some (.int out)) M := by
  unfold F_X5_soundOf at h
  refine z_met_of (by decide) rfl (Nat.le_of_ble_eq_true rfl) (fun p e s m below meth c ls hc hI hl => ?_)
  obtain ⟨⟨hx, hb, hml, hown, hts⟩, hr, hlk⟩ := id hc
  have hl : lv_has ls 4 [(0, .ref (z_ad G 7 i)), (1, .int a1), (2, .int a2)] := hl
  refine lv_aload_n hx hb dX5_soundOf_0 rfl (lv_at hl 0 rfl) ?_
  refine lv_iload_n hx hb dX5_soundOf_1 rfl (lv_at hl 1 rfl) ?_
  refine lv_iload_n hx hb dX5_soundOf_2 rfl (lv_at hl 2 rfl) ?_
  obtain ⟨q1, e2, h⟩ := z_bnd h
  refine iv_X5_90 hi hc hI (c_X5_treadOf hi e2) (z_room (by decide) (by decide)) hl.1 (Nat.le_of_ble_eq_true rfl) ⟨Nat.zero_le _, Nat.zero_le _⟩ dX5_soundOf_3 (fun H locs hI => ?_)
  refine lv_istore_n (lv' := [(3, .int q1), (0, .ref (z_ad G 7 i)), (1, .int a1), (2, .int a2)]) hx hb dX5_soundOf_6 rfl hl (by decide) rfl (fun ls hl => ?_)
  refine lv_aload_n hx hb dX5_soundOf_7 rfl (lv_at hl 1 rfl) ?_
  refine lv_iload_n hx hb dX5_soundOf_8 rfl (lv_at hl 0 rfl) ?_
  obtain ⟨q3, e4, h⟩ := z_bnd h
  refine iv_X5_58 hi hc hI (c_X5_hasTread hi e4) (z_room (by decide) (by decide)) hl.1 (Nat.le_of_ble_eq_true rfl) ⟨Nat.zero_le _, Nat.zero_le _⟩ dX5_soundOf_9 (fun H locs hI => ?_)
  refine lv_if_eq (tgt := 39) hx hb dX5_soundOf_12 (by decide) (fun c5 => ?_) (fun c5 => ?_)
  · replace h := z_ift h c5
    refine lv_ldc (v := (-1000000)) hx hb hown (hts _ wd_2_171) dX5_soundOf_39 ?_
    obtain rfl := Option.some.inj h
    exact z_ri hc hI dX5_soundOf_41
  · replace h := z_iff h c5
    refine lv_aload_n hx hb dX5_soundOf_15 rfl (lv_at hl 1 rfl) ?_
    refine lv_aload_n hx hb dX5_soundOf_16 rfl (lv_at hl 1 rfl) ?_
    refine gf_X5_9 hi hc hI dX5_soundOf_17 ?_
    refine lv_iload_n hx hb dX5_soundOf_20 rfl (lv_at hl 0 rfl) ?_
    obtain ⟨g6, h⟩ := z_grd_some h
    refine ld_k8 hi hc hI g6 dX5_soundOf_21 ?_
    refine lv_aload_n hx hb dX5_soundOf_22 rfl (lv_at hl 1 rfl) ?_
    refine lv_iload_n hx hb dX5_soundOf_23 rfl (lv_at hl 0 rfl) ?_
    obtain ⟨q7, e8, h⟩ := z_bnd h
    refine iv_X5_71 hi hc hI (c_X5_toneOf hi e8) (z_room (by decide) (by decide)) hl.1 (Nat.le_of_ble_eq_true rfl) ⟨Nat.zero_le _, Nat.zero_le _⟩ dX5_soundOf_24 (fun H locs hI => ?_)
    refine lv_aload_n hx hb dX5_soundOf_27 rfl (lv_at hl 1 rfl) ?_
    refine lv_iload_n hx hb dX5_soundOf_28 rfl (lv_at hl 2 rfl) ?_
    refine lv_iconst (v := 2) hx hb dX5_soundOf_29 (by decide) ?_
    obtain ⟨q9, e10, h⟩ := z_bnd h
    refine iv_X5_93 hi hc hI (c_X5_partOf hi e10) (z_room (by decide) (by decide)) hl.1 (Nat.le_of_ble_eq_true rfl) ⟨Nat.zero_le _, Nat.zero_le _⟩ dX5_soundOf_30 (fun H locs hI => ?_)
    obtain ⟨q11, e12, h⟩ := z_bnd h
    refine iv_X5_96 hi hc hI (c_X5_soundAs hi e12) (z_room (by decide) (by decide)) hl.1 (Nat.le_of_ble_eq_true rfl) ⟨Nat.zero_le _, Nat.zero_le _⟩ dX5_soundOf_33 (fun H locs hI => ?_)
    refine lv_goto (tgt := 41) hx hb dX5_soundOf_36 (by decide) ?_
    obtain rfl := Option.some.inj h
    exact z_ri hc hI dX5_soundOf_41
set_option maxRecDepth 100000 in
set_option maxHeartbeats 4000000 in
theorem w_X5_tonesTogether_b4 {i : Nat} (hi : i < 29) {M : z_M} (hc : z_C p s m args meth c RX5 cX5_tonesTogether 3 (some .int)) {out : Int32} : ∀ (n : Nat) (v1 : Int32) (v2 : Int32) (H : Heap) (locs : List Loc) (ls : Array Slot) (h : F_X5_tonesTogether_b4 i M n v1 v2 = some out) (hI : z_I G s M H locs) (hl : lv_has ls 3 [(0, .ref (z_ad G 7 i)), (1, .int v1), (2, .int v2)]), W p l e (z_rm 3) s m args below meth c H locs 0 0 (MQ below (z_Q G (some (.int out)) M) args s 0 0 (z_A G)) (F0 m 4 ls []) := by
  obtain ⟨⟨hx, hb, hml, hown, hts⟩, hr, hlk⟩ := id hc
  intro n
  induction n with
  | zero => intro v1 v2 H locs ls h; cases h
  | succ n ih =>
    intro v1 v2 H locs ls h hI hl
    rw [F_X5_tonesTogether_b4] at h
    refine lv_iload_n hx hb dX5_tonesTogether_4 rfl (lv_at hl 2 rfl) ?_
    refine lv_aload_n hx hb dX5_tonesTogether_5 rfl (lv_at hl 0 rfl) ?_
    refine gf_X5_30 hi hc hI dX5_tonesTogether_6 ?_
    refine lv_icmp_ge (tgt := 26) hx hb dX5_tonesTogether_9 (by decide) (fun c1 => ?_) (fun c1 => ?_)
    · replace h := z_ift h c1
      refine lv_iload_n hx hb dX5_tonesTogether_26 rfl (lv_at hl 1 rfl) ?_
      obtain rfl := Option.some.inj h
      exact z_ri hc hI dX5_tonesTogether_27
    · replace h := z_iff h c1
      refine lv_iload_n hx hb dX5_tonesTogether_12 rfl (lv_at hl 1 rfl) ?_
      refine lv_aload_n hx hb dX5_tonesTogether_13 rfl (lv_at hl 0 rfl) ?_
      refine lv_iload_n hx hb dX5_tonesTogether_14 rfl (lv_at hl 2 rfl) ?_
      obtain ⟨q2, e3, h⟩ := z_bnd h
      refine iv_X5_71 hi hc hI (c_X5_toneOf hi e3) (z_room (by decide) (by decide)) hl.1 (Nat.le_of_ble_eq_true rfl) ⟨Nat.zero_le _, Nat.zero_le _⟩ dX5_tonesTogether_15 (fun H locs hI => ?_)
      refine lv_iadd hx hb dX5_tonesTogether_18 ?_
      refine z_nI h (fun x4 h => ?_)
      refine lv_istore_n (lv' := [(1, .int x4), (0, .ref (z_ad G 7 i)), (2, .int v2)]) hx hb dX5_tonesTogether_19 rfl hl (by decide) rfl (fun ls hl => ?_)
      refine lv_iinc (v := v2 + 1) (lv' := [(2, .int (v2 + 1)), (1, .int x4), (0, .ref (z_ad G 7 i))]) hx hb dX5_tonesTogether_20 hl (k := 2) rfl rfl (by decide) rfl (fun ls hl => ?_)
      refine lv_goto (tgt := 4) hx hb dX5_tonesTogether_23 (by decide) ?_
      exact ih x4 (v2 + 1) _ _ _ h hI (lv_sub hl [2, 1, 0] rfl)
set_option maxRecDepth 100000 in
set_option maxHeartbeats 4000000 in
theorem c_X5_tonesTogether {G : z_G} {l : Launch} {i : Nat} (hi : i < 29) {M : z_M} {out : Int32} (h : F_X5_tonesTogether i M = some out) : z_Met G l yX5_tonesTogether cX5_tonesTogether 3 (some .int) 3 [.ref (z_ad G 7 i)] M (some (.int out)) M := by
  unfold F_X5_tonesTogether at h
  refine z_met_of (by decide) rfl (Nat.le_of_ble_eq_true rfl) (fun p e s m below meth c ls hc hI hl => ?_)
  obtain ⟨⟨hx, hb, hml, hown, hts⟩, hr, hlk⟩ := id hc
  have hl : lv_has ls 3 [(0, .ref (z_ad G 7 i))] := hl
  refine lv_iconst (v := 0) hx hb dX5_tonesTogether_0 (by decide) ?_
  refine lv_istore_n (lv' := [(1, .int 0), (0, .ref (z_ad G 7 i))]) hx hb dX5_tonesTogether_1 rfl hl (by decide) rfl (fun ls hl => ?_)
  refine lv_iconst (v := 0) hx hb dX5_tonesTogether_2 (by decide) ?_
  refine lv_istore_n (lv' := [(2, .int 0), (1, .int 0), (0, .ref (z_ad G 7 i))]) hx hb dX5_tonesTogether_3 rfl hl (by decide) rfl (fun ls hl => ?_)
  exact w_X5_tonesTogether_b4 hi hc _ 0 0 _ _ _ h hI (lv_sub hl [2, 1, 0] rfl)
set_option maxRecDepth 100000 in
set_option maxHeartbeats 4000000 in
theorem c_X5_stands {G : z_G} {l : Launch} {i : Nat} (hi : i < 29) {M : z_M} {out : Int32} (h : F_X5_stands i M = some out) : z_Met G l yX5_stands cX5_stands 1 (some .boolean) 1 [.ref (z_ad G 7 i)] M (some (.int out)) M := by
  unfold F_X5_stands at h
  refine z_met_of (by decide) rfl (Nat.le_of_ble_eq_true rfl) (fun p e s m below meth c ls hc hI hl => ?_)
  obtain ⟨⟨hx, hb, hml, hown, hts⟩, hr, hlk⟩ := id hc
  have hl : lv_has ls 1 [(0, .ref (z_ad G 7 i))] := hl
  refine lv_aload_n hx hb dX5_stands_0 rfl (lv_at hl 0 rfl) ?_
  refine gf_X5_30 hi hc hI dX5_stands_1 ?_
  refine lv_if_le (tgt := 11) hx hb dX5_stands_4 (by decide) (fun c1 => ?_) (fun c1 => ?_)
  · replace h := z_ift h c1
    refine lv_iconst (v := 0) hx hb dX5_stands_11 (by decide) ?_
    obtain rfl := Option.some.inj h
    exact z_rz (x := 0) hc hI (by decide) dX5_stands_12
  · replace h := z_iff h c1
    refine lv_iconst (v := 1) hx hb dX5_stands_7 (by decide) ?_
    refine lv_goto (tgt := 12) hx hb dX5_stands_8 (by decide) ?_
    obtain rfl := Option.some.inj h
    exact z_rz (x := 1) hc hI (by decide) dX5_stands_12
set_option maxRecDepth 100000 in
set_option maxHeartbeats 4000000 in
theorem c_X5_reachNow {G : z_G} {l : Launch} {i : Nat} (hi : i < 29) {M : z_M} {out : Int32} (h : F_X5_reachNow i M = some out) : z_Met G l yX5_reachNow cX5_reachNow 1 (some .int) 1 [.ref (z_ad G 7 i)] M (some (.int out)) M := by
  unfold F_X5_reachNow at h
  refine z_met_of (by decide) rfl (Nat.le_of_ble_eq_true rfl) (fun p e s m below meth c ls hc hI hl => ?_)
  obtain ⟨⟨hx, hb, hml, hown, hts⟩, hr, hlk⟩ := id hc
  have hl : lv_has ls 1 [(0, .ref (z_ad G 7 i))] := hl
  refine lv_aload_n hx hb dX5_reachNow_0 rfl (lv_at hl 0 rfl) ?_
  refine gf_X5_40 hi hc hI dX5_reachNow_1 ?_
  obtain rfl := Option.some.inj h
  exact z_ri hc hI dX5_reachNow_4
set_option maxRecDepth 100000 in
set_option maxHeartbeats 4000000 in
theorem c_X5_dayNumber {G : z_G} {l : Launch} {i : Nat} (hi : i < 29) {M : z_M} {out : Int32} (h : F_X5_dayNumber i M = some out) : z_Met G l yX5_dayNumber cX5_dayNumber 1 (some .int) 1 [.ref (z_ad G 7 i)] M (some (.int out)) M := by
  unfold F_X5_dayNumber at h
  refine z_met_of (by decide) rfl (Nat.le_of_ble_eq_true rfl) (fun p e s m below meth c ls hc hI hl => ?_)
  obtain ⟨⟨hx, hb, hml, hown, hts⟩, hr, hlk⟩ := id hc
  have hl : lv_has ls 1 [(0, .ref (z_ad G 7 i))] := hl
  refine lv_aload_n hx hb dX5_dayNumber_0 rfl (lv_at hl 0 rfl) ?_
  refine gf_X5_43 hi hc hI dX5_dayNumber_1 ?_
  obtain rfl := Option.some.inj h
  exact z_ri hc hI dX5_dayNumber_4
set_option maxRecDepth 100000 in
set_option maxHeartbeats 4000000 in
theorem c_X5_canBe {G : z_G} {l : Launch} {i : Nat} (hi : i < 29) {a1 : Int32} {a2 : Int32} {M : z_M} {out : Int32} (h : F_X5_canBe i a1 a2 M = some out) : z_Met G l yX5_canBe cX5_canBe 3 (some .boolean) 2 [.ref (z_ad G 7 i), .int a1, .int a2] M (some (.int out)) M := by
  unfold F_X5_canBe at h
  refine z_met_of (by decide) rfl (Nat.le_of_ble_eq_true rfl) (fun p e s m below meth c ls hc hI hl => ?_)
  obtain ⟨⟨hx, hb, hml, hown, hts⟩, hr, hlk⟩ := id hc
  have hl : lv_has ls 3 [(0, .ref (z_ad G 7 i)), (1, .int a1), (2, .int a2)] := hl
  refine lv_iload_n hx hb dX5_canBe_0 rfl (lv_at hl 2 rfl) ?_
  refine lv_aload_n hx hb dX5_canBe_1 rfl (lv_at hl 0 rfl) ?_
  refine lv_iload_n hx hb dX5_canBe_2 rfl (lv_at hl 1 rfl) ?_
  obtain ⟨q1, e2, h⟩ := z_bnd h
  refine iv_X5_46 hi hc hI (c_X5_leastOf hi e2) (z_room (by decide) (by decide)) hl.1 (Nat.le_of_ble_eq_true rfl) ⟨Nat.zero_le _, Nat.zero_le _⟩ dX5_canBe_3 (fun H locs hI => ?_)
  refine lv_icmp_lt (tgt := 22) hx hb dX5_canBe_6 (by decide) (fun c3 => ?_) (fun c3 => ?_)
  · replace h := z_ift h c3
    refine lv_iconst (v := 0) hx hb dX5_canBe_22 (by decide) ?_
    obtain rfl := Option.some.inj h
    exact z_rz (x := 0) hc hI (by decide) dX5_canBe_23
  · replace h := z_iff h c3
    refine lv_iload_n hx hb dX5_canBe_9 rfl (lv_at hl 2 rfl) ?_
    refine lv_aload_n hx hb dX5_canBe_10 rfl (lv_at hl 0 rfl) ?_
    refine lv_iload_n hx hb dX5_canBe_11 rfl (lv_at hl 1 rfl) ?_
    obtain ⟨q4, e5, h⟩ := z_bnd h
    refine iv_X5_50 hi hc hI (c_X5_mostOf hi e5) (z_room (by decide) (by decide)) hl.1 (Nat.le_of_ble_eq_true rfl) ⟨Nat.zero_le _, Nat.zero_le _⟩ dX5_canBe_12 (fun H locs hI => ?_)
    refine lv_icmp_gt (tgt := 22) hx hb dX5_canBe_15 (by decide) (fun c6 => ?_) (fun c6 => ?_)
    · replace h := z_ift h c6
      refine lv_iconst (v := 0) hx hb dX5_canBe_22 (by decide) ?_
      obtain rfl := Option.some.inj h
      exact z_rz (x := 0) hc hI (by decide) dX5_canBe_23
    · replace h := z_iff h c6
      refine lv_iconst (v := 1) hx hb dX5_canBe_18 (by decide) ?_
      refine lv_goto (tgt := 23) hx hb dX5_canBe_19 (by decide) ?_
      obtain rfl := Option.some.inj h
      exact z_rz (x := 1) hc hI (by decide) dX5_canBe_23
set_option maxRecDepth 100000 in
set_option maxHeartbeats 4000000 in
theorem c_X5_setReach {G : z_G} {l : Launch} {i : Nat} (hi : i < 29) {a1 : Int32} {M : z_M} {out : z_M} (h : F_X5_setReach i a1 M = some out) : z_Met G l yX5_setReach cX5_setReach 2 none 1 [.ref (z_ad G 7 i), .int a1] M (none) out := by
  unfold F_X5_setReach at h
  refine z_met_of (by decide) rfl (Nat.le_of_ble_eq_true rfl) (fun p e s m below meth c ls hc hI hl => ?_)
  obtain ⟨⟨hx, hb, hml, hown, hts⟩, hr, hlk⟩ := id hc
  have hl : lv_has ls 2 [(0, .ref (z_ad G 7 i)), (1, .int a1)] := hl
  refine lv_aload_n hx hb dX5_setReach_0 rfl (lv_at hl 0 rfl) ?_
  refine lv_iload_n hx hb dX5_setReach_1 rfl (lv_at hl 1 rfl) ?_
  refine pf_X5_40 hi hc hI dX5_setReach_2 (fun H locs hI => ?_)
  obtain rfl := Option.some.inj h
  exact z_rv hc hI dX5_setReach_5
set_option maxRecDepth 100000 in
set_option maxHeartbeats 4000000 in
theorem w_X5_wornTogether_b4 {i : Nat} (hi : i < 29) {M : z_M} (hc : z_C p s m args meth c RX5 cX5_wornTogether 3 (some .int)) {out : Int32} : ∀ (n : Nat) (v1 : Int32) (v2 : Int32) (H : Heap) (locs : List Loc) (ls : Array Slot) (h : F_X5_wornTogether_b4 i M n v1 v2 = some out) (hI : z_I G s M H locs) (hl : lv_has ls 3 [(0, .ref (z_ad G 7 i)), (1, .int v1), (2, .int v2)]), W p l e (z_rm 3) s m args below meth c H locs 0 0 (MQ below (z_Q G (some (.int out)) M) args s 0 0 (z_A G)) (F0 m 4 ls []) := by
  obtain ⟨⟨hx, hb, hml, hown, hts⟩, hr, hlk⟩ := id hc
  intro n
  induction n with
  | zero => intro v1 v2 H locs ls h; cases h
  | succ n ih =>
    intro v1 v2 H locs ls h hI hl
    rw [F_X5_wornTogether_b4] at h
    refine lv_iload_n hx hb dX5_wornTogether_4 rfl (lv_at hl 2 rfl) ?_
    refine lv_aload_n hx hb dX5_wornTogether_5 rfl (lv_at hl 0 rfl) ?_
    refine gf_X5_30 hi hc hI dX5_wornTogether_6 ?_
    refine lv_icmp_ge (tgt := 26) hx hb dX5_wornTogether_9 (by decide) (fun c1 => ?_) (fun c1 => ?_)
    · replace h := z_ift h c1
      refine lv_iload_n hx hb dX5_wornTogether_26 rfl (lv_at hl 1 rfl) ?_
      obtain rfl := Option.some.inj h
      exact z_ri hc hI dX5_wornTogether_27
    · replace h := z_iff h c1
      refine lv_iload_n hx hb dX5_wornTogether_12 rfl (lv_at hl 1 rfl) ?_
      refine lv_aload_n hx hb dX5_wornTogether_13 rfl (lv_at hl 0 rfl) ?_
      refine lv_iload_n hx hb dX5_wornTogether_14 rfl (lv_at hl 2 rfl) ?_
      obtain ⟨q2, e3, h⟩ := z_bnd h
      refine iv_X5_68 hi hc hI (c_X5_wornOf hi e3) (z_room (by decide) (by decide)) hl.1 (Nat.le_of_ble_eq_true rfl) ⟨Nat.zero_le _, Nat.zero_le _⟩ dX5_wornTogether_15 (fun H locs hI => ?_)
      refine lv_iadd hx hb dX5_wornTogether_18 ?_
      refine z_nI h (fun x4 h => ?_)
      refine lv_istore_n (lv' := [(1, .int x4), (0, .ref (z_ad G 7 i)), (2, .int v2)]) hx hb dX5_wornTogether_19 rfl hl (by decide) rfl (fun ls hl => ?_)
      refine lv_iinc (v := v2 + 1) (lv' := [(2, .int (v2 + 1)), (1, .int x4), (0, .ref (z_ad G 7 i))]) hx hb dX5_wornTogether_20 hl (k := 2) rfl rfl (by decide) rfl (fun ls hl => ?_)
      refine lv_goto (tgt := 4) hx hb dX5_wornTogether_23 (by decide) ?_
      exact ih x4 (v2 + 1) _ _ _ h hI (lv_sub hl [2, 1, 0] rfl)
set_option maxRecDepth 100000 in
set_option maxHeartbeats 4000000 in
theorem c_X5_wornTogether {G : z_G} {l : Launch} {i : Nat} (hi : i < 29) {M : z_M} {out : Int32} (h : F_X5_wornTogether i M = some out) : z_Met G l yX5_wornTogether cX5_wornTogether 3 (some .int) 3 [.ref (z_ad G 7 i)] M (some (.int out)) M := by
  unfold F_X5_wornTogether at h
  refine z_met_of (by decide) rfl (Nat.le_of_ble_eq_true rfl) (fun p e s m below meth c ls hc hI hl => ?_)
  obtain ⟨⟨hx, hb, hml, hown, hts⟩, hr, hlk⟩ := id hc
  have hl : lv_has ls 3 [(0, .ref (z_ad G 7 i))] := hl
  refine lv_iconst (v := 0) hx hb dX5_wornTogether_0 (by decide) ?_
  refine lv_istore_n (lv' := [(1, .int 0), (0, .ref (z_ad G 7 i))]) hx hb dX5_wornTogether_1 rfl hl (by decide) rfl (fun ls hl => ?_)
  refine lv_iconst (v := 0) hx hb dX5_wornTogether_2 (by decide) ?_
  refine lv_istore_n (lv' := [(2, .int 0), (1, .int 0), (0, .ref (z_ad G 7 i))]) hx hb dX5_wornTogether_3 rfl hl (by decide) rfl (fun ls hl => ?_)
  exact w_X5_wornTogether_b4 hi hc _ 0 0 _ _ _ h hI (lv_sub hl [2, 1, 0] rfl)
set_option maxRecDepth 100000 in
set_option maxHeartbeats 4000000 in
theorem w_X5_walkersOn_b39 {i : Nat} (hi : i < 29) {M : z_M} (hc : z_C p s m args meth c RX5 cX5_walkersOn 5 (some .int)) {out : Int32} {K4 : Int32 → Int32 → Int32 → Option Int32} (hK4 : ∀ (v1 : Int32) (v2 : Int32) (v3 : Int32) (H : Heap) (locs : List Loc) (ls : Array Slot), K4 v1 v2 v3 = some out → z_I G s M H locs → lv_has ls 5 [(0, .ref (z_ad G 7 i)), (1, .int v1), (2, .int v2), (3, .int v3)] → W p l e (z_rm 3) s m args below meth c H locs 0 0 (MQ below (z_Q G (some (.int out)) M) args s 0 0 (z_A G)) (F0 m 4 ls [])) {K15 : Int32 → Int32 → Int32 → Int32 → Option Int32} (hK15 : ∀ (v1 : Int32) (v2 : Int32) (v3 : Int32) (v4 : Int32) (H : Heap) (locs : List Loc) (ls : Array Slot), K15 v1 v2 v3 v4 = some out → z_I G s M H locs → lv_has ls 5 [(0, .ref (z_ad G 7 i)), (1, .int v1), (2, .int v2), (3, .int v3), (4, .int v4)] → W p l e (z_rm 3) s m args below meth c H locs 0 0 (MQ below (z_Q G (some (.int out)) M) args s 0 0 (z_A G)) (F0 m 15 ls [])) (v1 : Int32) (v2 : Int32) (v3 : Int32) (v4 : Int32) (H : Heap) (locs : List Loc) (ls : Array Slot) (h : F_X5_walkersOn_b39 i M K4 K15 v1 v2 v3 v4 = some out) (hI : z_I G s M H locs) (hl : lv_has ls 5 [(0, .ref (z_ad G 7 i)), (1, .int v1), (2, .int v2), (3, .int v3), (4, .int v4)]) : W p l e (z_rm 3) s m args below meth c H locs 0 0 (MQ below (z_Q G (some (.int out)) M) args s 0 0 (z_A G)) (F0 m 39 ls []) := by
  obtain ⟨⟨hx, hb, hml, hown, hts⟩, hr, hlk⟩ := id hc
  unfold F_X5_walkersOn_b39 at h
  refine lv_iinc (v := v4 + 1) (lv' := [(4, .int (v4 + 1)), (0, .ref (z_ad G 7 i)), (1, .int v1), (2, .int v2), (3, .int v3)]) hx hb dX5_walkersOn_39 hl (k := 4) rfl rfl (by decide) rfl (fun ls hl => ?_)
  refine lv_goto (tgt := 15) hx hb dX5_walkersOn_42 (by decide) ?_
  exact hK15 v1 v2 v3 (v4 + 1) _ _ _ h hI (lv_sub hl [1, 2, 3, 4, 0] rfl)
set_option maxRecDepth 100000 in
set_option maxHeartbeats 4000000 in
theorem w_X5_walkersOn_b15 {i : Nat} (hi : i < 29) {M : z_M} (hc : z_C p s m args meth c RX5 cX5_walkersOn 5 (some .int)) {out : Int32} {K4 : Int32 → Int32 → Int32 → Option Int32} (hK4 : ∀ (v1 : Int32) (v2 : Int32) (v3 : Int32) (H : Heap) (locs : List Loc) (ls : Array Slot), K4 v1 v2 v3 = some out → z_I G s M H locs → lv_has ls 5 [(0, .ref (z_ad G 7 i)), (1, .int v1), (2, .int v2), (3, .int v3)] → W p l e (z_rm 3) s m args below meth c H locs 0 0 (MQ below (z_Q G (some (.int out)) M) args s 0 0 (z_A G)) (F0 m 4 ls [])) : ∀ (n : Nat) (v1 : Int32) (v2 : Int32) (v3 : Int32) (v4 : Int32) (H : Heap) (locs : List Loc) (ls : Array Slot) (h : F_X5_walkersOn_b15 i M K4 n v1 v2 v3 v4 = some out) (hI : z_I G s M H locs) (hl : lv_has ls 5 [(0, .ref (z_ad G 7 i)), (1, .int v1), (2, .int v2), (3, .int v3), (4, .int v4)]), W p l e (z_rm 3) s m args below meth c H locs 0 0 (MQ below (z_Q G (some (.int out)) M) args s 0 0 (z_A G)) (F0 m 15 ls []) := by
  obtain ⟨⟨hx, hb, hml, hown, hts⟩, hr, hlk⟩ := id hc
  intro n
  induction n with
  | zero => intro v1 v2 v3 v4 H locs ls h; cases h
  | succ n ih =>
    intro v1 v2 v3 v4 H locs ls h hI hl
    rw [F_X5_walkersOn_b15] at h
    refine lv_iload hx hb dX5_walkersOn_15 (lv_at hl 4 rfl) ?_
    refine lv_bipush (v := 8) hx hb dX5_walkersOn_17 (by decide) ?_
    refine lv_icmp_ge (tgt := 45) hx hb dX5_walkersOn_19 (by decide) (fun c2 => ?_) (fun c2 => ?_)
    · replace h := z_ift h c2
      refine lv_iinc (v := v3 + 1) (lv' := [(3, .int (v3 + 1)), (0, .ref (z_ad G 7 i)), (1, .int v1), (2, .int v2), (4, .int v4)]) hx hb dX5_walkersOn_45 hl (k := 3) rfl rfl (by decide) rfl (fun ls hl => ?_)
      refine lv_goto (tgt := 4) hx hb dX5_walkersOn_48 (by decide) ?_
      exact hK4 v1 v2 (v3 + 1) _ _ _ h hI (lv_sub hl [1, 2, 3, 0] rfl)
    · replace h := z_iff h c2
      refine lv_aload_n hx hb dX5_walkersOn_22 rfl (lv_at hl 0 rfl) ?_
      refine lv_iload_n hx hb dX5_walkersOn_23 rfl (lv_at hl 3 rfl) ?_
      refine lv_iload hx hb dX5_walkersOn_24 (lv_at hl 4 rfl) ?_
      obtain ⟨q3, e4, h⟩ := z_bnd h
      refine iv_X5_90 hi hc hI (c_X5_treadOf hi e4) (z_room (by decide) (by decide)) hl.1 (Nat.le_of_ble_eq_true rfl) ⟨Nat.zero_le _, Nat.zero_le _⟩ dX5_walkersOn_26 (fun H locs hI => ?_)
      refine lv_iload_n hx hb dX5_walkersOn_29 rfl (lv_at hl 1 rfl) ?_
      refine lv_icmp_ne (tgt := 39) hx hb dX5_walkersOn_30 (by decide) (fun c5 => ?_) (fun c5 => ?_)
      · replace h := z_iff h c5
        exact w_X5_walkersOn_b39 hi hc hK4 ih v1 v2 v3 v4 _ _ _ h hI hl
      · replace h := z_ift h c5
        refine lv_iload_n hx hb dX5_walkersOn_33 rfl (lv_at hl 2 rfl) ?_
        refine lv_iconst (v := 1) hx hb dX5_walkersOn_34 (by decide) ?_
        refine lv_iload_n hx hb dX5_walkersOn_35 rfl (lv_at hl 3 rfl) ?_
        refine lv_ishl hx hb dX5_walkersOn_36 ?_
        refine lv_ior hx hb dX5_walkersOn_37 ?_
        refine z_nI h (fun x6 h => ?_)
        refine lv_istore_n (lv' := [(2, .int x6), (0, .ref (z_ad G 7 i)), (1, .int v1), (3, .int v3), (4, .int v4)]) hx hb dX5_walkersOn_38 rfl hl (by decide) rfl (fun ls hl => ?_)
        exact w_X5_walkersOn_b39 hi hc hK4 ih v1 x6 v3 v4 _ _ _ h hI (lv_sub hl [1, 2, 0, 3, 4] rfl)
set_option maxRecDepth 100000 in
set_option maxHeartbeats 4000000 in
theorem w_X5_walkersOn_b4 {i : Nat} (hi : i < 29) {M : z_M} (hc : z_C p s m args meth c RX5 cX5_walkersOn 5 (some .int)) {out : Int32} : ∀ (n : Nat) (v1 : Int32) (v2 : Int32) (v3 : Int32) (H : Heap) (locs : List Loc) (ls : Array Slot) (h : F_X5_walkersOn_b4 i M n v1 v2 v3 = some out) (hI : z_I G s M H locs) (hl : lv_has ls 5 [(0, .ref (z_ad G 7 i)), (1, .int v1), (2, .int v2), (3, .int v3)]), W p l e (z_rm 3) s m args below meth c H locs 0 0 (MQ below (z_Q G (some (.int out)) M) args s 0 0 (z_A G)) (F0 m 4 ls []) := by
  obtain ⟨⟨hx, hb, hml, hown, hts⟩, hr, hlk⟩ := id hc
  intro n
  induction n with
  | zero => intro v1 v2 v3 H locs ls h; cases h
  | succ n ih =>
    intro v1 v2 v3 H locs ls h hI hl
    rw [F_X5_walkersOn_b4] at h
    refine lv_iload_n hx hb dX5_walkersOn_4 rfl (lv_at hl 3 rfl) ?_
    refine lv_aload_n hx hb dX5_walkersOn_5 rfl (lv_at hl 0 rfl) ?_
    refine gf_X5_34 hi hc hI dX5_walkersOn_6 ?_
    refine lv_icmp_ge (tgt := 51) hx hb dX5_walkersOn_9 (by decide) (fun c1 => ?_) (fun c1 => ?_)
    · replace h := z_ift h c1
      refine lv_iload_n hx hb dX5_walkersOn_51 rfl (lv_at hl 2 rfl) ?_
      obtain rfl := Option.some.inj h
      exact z_ri hc hI dX5_walkersOn_52
    · replace h := z_iff h c1
      refine lv_iconst (v := 0) hx hb dX5_walkersOn_12 (by decide) ?_
      refine lv_istore (lv' := [(4, .int 0), (0, .ref (z_ad G 7 i)), (1, .int v1), (2, .int v2), (3, .int v3)]) hx hb dX5_walkersOn_13 hl (by decide) rfl (fun ls hl => ?_)
      exact w_X5_walkersOn_b15 hi hc ih _ v1 v2 v3 0 _ _ _ h hI (lv_sub hl [1, 2, 3, 4, 0] rfl)
set_option maxRecDepth 100000 in
set_option maxHeartbeats 4000000 in
theorem c_X5_walkersOn {G : z_G} {l : Launch} {i : Nat} (hi : i < 29) {a1 : Int32} {M : z_M} {out : Int32} (h : F_X5_walkersOn i a1 M = some out) : z_Met G l yX5_walkersOn cX5_walkersOn 5 (some .int) 3 [.ref (z_ad G 7 i), .int a1] M (some (.int out)) M := by
  unfold F_X5_walkersOn at h
  refine z_met_of (by decide) rfl (Nat.le_of_ble_eq_true rfl) (fun p e s m below meth c ls hc hI hl => ?_)
  obtain ⟨⟨hx, hb, hml, hown, hts⟩, hr, hlk⟩ := id hc
  have hl : lv_has ls 5 [(0, .ref (z_ad G 7 i)), (1, .int a1)] := hl
  refine lv_iconst (v := 0) hx hb dX5_walkersOn_0 (by decide) ?_
  refine lv_istore_n (lv' := [(2, .int 0), (0, .ref (z_ad G 7 i)), (1, .int a1)]) hx hb dX5_walkersOn_1 rfl hl (by decide) rfl (fun ls hl => ?_)
  refine lv_iconst (v := 0) hx hb dX5_walkersOn_2 (by decide) ?_
  refine lv_istore_n (lv' := [(3, .int 0), (2, .int 0), (0, .ref (z_ad G 7 i)), (1, .int a1)]) hx hb dX5_walkersOn_3 rfl hl (by decide) rfl (fun ls hl => ?_)
  exact w_X5_walkersOn_b4 hi hc _ a1 0 0 _ _ _ h hI (lv_sub hl [2, 3, 1, 0] rfl)
end
