section
variable {p : Program} {l : Launch} {e : Env} {s : State} {m : MethodId} {args : Array Value} {below : List Frame} {meth : Method} {c : Code} {G : z_G}
set_option maxRecDepth 100000 in
set_option maxHeartbeats 4000000 in
theorem c_X7_toneOf {G : z_G} {l : Launch} {a1 : Int32} {M : z_M} {out : Int32} (h : F_X7_toneOf a1 M = some out) : z_Met G l yX7_toneOf cX7_toneOf 3 (some .int) 1 [.ref (z_ad G 21 0), .int a1] M (some (.int out)) M := by
  unfold F_X7_toneOf at h
  refine z_met_of (by decide) rfl (Nat.le_of_ble_eq_true rfl) (fun p e s m below meth c ls hc hI hl => ?_)
  obtain ⟨⟨hx, hb, hml, hown, hts⟩, hr, hlk⟩ := id hc
  have hl : lv_has ls 3 [(0, .ref (z_ad G 21 0)), (1, .int a1)] := hl
  refine lv_aload_n hx hb dX7_toneOf_0 rfl (lv_at hl 0 rfl) ?_
  refine gf_X7_19 hc hI dX7_toneOf_1 ?_
  refine lv_bipush (v := 13) hx hb dX7_toneOf_4 (by decide) ?_
  refine lv_iload_n hx hb dX7_toneOf_6 rfl (lv_at hl 1 rfl) ?_
  refine lv_iadd hx hb dX7_toneOf_7 ?_
  obtain ⟨g1, h⟩ := z_grd_some h
  refine ld_k25 hc hI g1 dX7_toneOf_8 ?_
  refine lv_aload_n hx hb dX7_toneOf_9 rfl (lv_at hl 0 rfl) ?_
  refine gf_X7_19 hc hI dX7_toneOf_10 ?_
  refine lv_bipush (v := 21) hx hb dX7_toneOf_13 (by decide) ?_
  refine lv_iload_n hx hb dX7_toneOf_15 rfl (lv_at hl 1 rfl) ?_
  refine lv_iadd hx hb dX7_toneOf_16 ?_
  obtain ⟨g2, h⟩ := z_grd_some h
  refine ld_k25 hc hI g2 dX7_toneOf_17 ?_
  refine lv_bipush (v := 10) hx hb dX7_toneOf_18 (by decide) ?_
  refine lv_idiv hx hb dX7_toneOf_20 (by decide) ?_
  refine lv_isub hx hb dX7_toneOf_21 ?_
  refine z_nI h (fun x3 h => ?_)
  refine lv_istore_n (lv' := [(2, .int x3), (0, .ref (z_ad G 21 0)), (1, .int a1)]) hx hb dX7_toneOf_22 rfl hl (by decide) rfl (fun ls hl => ?_)
  refine lv_iload_n hx hb dX7_toneOf_23 rfl (lv_at hl 0 rfl) ?_
  refine lv_if_ge (tgt := 31) hx hb dX7_toneOf_24 (by decide) (fun c4 => ?_) (fun c4 => ?_)
  · replace h := z_ift h c4
    refine lv_iload_n hx hb dX7_toneOf_31 rfl (lv_at hl 0 rfl) ?_
    obtain rfl := Option.some.inj h
    exact z_ri hc hI dX7_toneOf_32
  · replace h := z_iff h c4
    refine lv_iconst (v := 0) hx hb dX7_toneOf_27 (by decide) ?_
    refine lv_goto (tgt := 32) hx hb dX7_toneOf_28 (by decide) ?_
    obtain rfl := Option.some.inj h
    exact z_ri hc hI dX7_toneOf_32
set_option maxRecDepth 100000 in
set_option maxHeartbeats 4000000 in
theorem c_X7_isWet {G : z_G} {l : Launch} {M : z_M} {out : Int32} (h : F_X7_isWet M = some out) : z_Met G l yX7_isWet cX7_isWet 1 (some .boolean) 2 [.ref (z_ad G 21 0)] M (some (.int out)) M := by
  unfold F_X7_isWet at h
  refine z_met_of (by decide) rfl (Nat.le_of_ble_eq_true rfl) (fun p e s m below meth c ls hc hI hl => ?_)
  obtain ⟨⟨hx, hb, hml, hown, hts⟩, hr, hlk⟩ := id hc
  have hl : lv_has ls 1 [(0, .ref (z_ad G 21 0))] := hl
  refine lv_aload_n hx hb dX7_isWet_0 rfl (lv_at hl 0 rfl) ?_
  refine gf_X7_19 hc hI dX7_isWet_1 ?_
  refine lv_iconst (v := 2) hx hb dX7_isWet_4 (by decide) ?_
  obtain ⟨g1, h⟩ := z_grd_some h
  refine ld_k25 hc hI g1 dX7_isWet_5 ?_
  refine lv_aload_n hx hb dX7_isWet_6 rfl (lv_at hl 0 rfl) ?_
  refine gf_X7_19 hc hI dX7_isWet_7 ?_
  refine lv_iconst (v := 4) hx hb dX7_isWet_10 (by decide) ?_
  obtain ⟨g2, h⟩ := z_grd_some h
  refine ld_k25 hc hI g2 dX7_isWet_11 ?_
  refine lv_iconst (v := 4) hx hb dX7_isWet_12 (by decide) ?_
  refine lv_irem hx hb dX7_isWet_13 (by decide) ?_
  obtain ⟨q3, e4, h⟩ := z_bnd h
  refine iv_X7_156 hc hI (c_X7_has e4) (z_room (by decide) (by decide)) hl.1 (Nat.le_of_ble_eq_true rfl) ⟨Nat.zero_le _, Nat.zero_le _⟩ dX7_isWet_14 (fun H locs hI => ?_)
  obtain ⟨g5, h⟩ := z_grd_some h
  obtain rfl := Option.some.inj h
  exact z_rz hc hI g5 dX7_isWet_17
set_option maxRecDepth 100000 in
set_option maxHeartbeats 4000000 in
theorem c_X7_sound {G : z_G} {l : Launch} {a1 : Int32} {a2 : Int32} {M : z_M} {out : Int32} (h : F_X7_sound a1 a2 M = some out) : z_Met G l yX7_sound cX7_sound 4 (some .int) 3 [.ref (z_ad G 21 0), .int a1, .int a2] M (some (.int out)) M := by
  unfold F_X7_sound at h
  refine z_met_of (by decide) rfl (Nat.le_of_ble_eq_true rfl) (fun p e s m below meth c ls hc hI hl => ?_)
  obtain ⟨⟨hx, hb, hml, hown, hts⟩, hr, hlk⟩ := id hc
  have hl : lv_has ls 4 [(0, .ref (z_ad G 21 0)), (1, .int a1), (2, .int a2)] := hl
  refine lv_aload_n hx hb dX7_sound_0 rfl (lv_at hl 0 rfl) ?_
  refine lv_iload_n hx hb dX7_sound_1 rfl (lv_at hl 1 rfl) ?_
  obtain ⟨q1, e2, h⟩ := z_bnd h
  refine iv_X7_160 hc hI (c_X7_toneOf e2) (z_room (by decide) (by decide)) hl.1 (Nat.le_of_ble_eq_true rfl) ⟨Nat.zero_le _, Nat.zero_le _⟩ dX7_sound_2 (fun H locs hI => ?_)
  refine lv_istore_n (lv' := [(3, .int q1), (0, .ref (z_ad G 21 0)), (1, .int a1), (2, .int a2)]) hx hb dX7_sound_5 rfl hl (by decide) rfl (fun ls hl => ?_)
  refine lv_aload_n hx hb dX7_sound_6 rfl (lv_at hl 1 rfl) ?_
  refine gf_X7_19 hc hI dX7_sound_7 ?_
  refine lv_iconst (v := 5) hx hb dX7_sound_10 (by decide) ?_
  refine lv_iload_n hx hb dX7_sound_11 rfl (lv_at hl 2 rfl) ?_
  refine lv_iadd hx hb dX7_sound_12 ?_
  obtain ⟨g3, h⟩ := z_grd_some h
  refine ld_k25 hc hI g3 dX7_sound_13 ?_
  by_cases c4 : (z_gi M 25 0 ((5 : Int32) + a1).toNatClampNeg) = 1
  · replace h := z_ift h c4
    refine lv_tableIn (off := 30) (tgt := 44) hx hb dX7_sound_14 (by rw [c4]; decide) (by rw [c4]; decide) (by rw [c4]; rfl) (by decide) ?_
    refine lv_iload_n hx hb dX7_sound_44 rfl (lv_at hl 0 rfl) ?_
    obtain rfl := Option.some.inj h
    exact z_ri hc hI dX7_sound_45
  replace h := z_iff h c4
  by_cases c5 : (z_gi M 25 0 ((5 : Int32) + a1).toNatClampNeg) = 2
  · replace h := z_ift h c5
    refine lv_tableIn (off := 32) (tgt := 46) hx hb dX7_sound_14 (by rw [c5]; decide) (by rw [c5]; decide) (by rw [c5]; rfl) (by decide) ?_
    refine lv_aload_n hx hb dX7_sound_46 rfl (lv_at hl 1 rfl) ?_
    obtain ⟨q6, e7, h⟩ := z_bnd h
    refine iv_X7_163 hc hI (c_X7_isWet e7) (z_room (by decide) (by decide)) hl.1 (Nat.le_of_ble_eq_true rfl) ⟨Nat.zero_le _, Nat.zero_le _⟩ dX7_sound_47 (fun H locs hI => ?_)
    refine lv_if_eq (tgt := 63) hx hb dX7_sound_50 (by decide) (fun c8 => ?_) (fun c8 => ?_)
    · replace h := z_ift h c8
      refine lv_iload_n hx hb dX7_sound_63 rfl (lv_at hl 0 rfl) ?_
      obtain rfl := Option.some.inj h
      exact z_ri hc hI dX7_sound_64
    · replace h := z_iff h c8
      refine lv_iload_n hx hb dX7_sound_53 rfl (lv_at hl 0 rfl) ?_
      refine lv_if_le (tgt := 63) hx hb dX7_sound_54 (by decide) (fun c9 => ?_) (fun c9 => ?_)
      · replace h := z_ift h c9
        refine lv_iload_n hx hb dX7_sound_63 rfl (lv_at hl 0 rfl) ?_
        obtain rfl := Option.some.inj h
        exact z_ri hc hI dX7_sound_64
      · replace h := z_iff h c9
        refine lv_iload_n hx hb dX7_sound_57 rfl (lv_at hl 0 rfl) ?_
        refine lv_iconst (v := 1) hx hb dX7_sound_58 (by decide) ?_
        refine lv_isub hx hb dX7_sound_59 ?_
        refine lv_goto (tgt := 64) hx hb dX7_sound_60 (by decide) ?_
        obtain rfl := Option.some.inj h
        exact z_ri hc hI dX7_sound_64
  replace h := z_iff h c5
  by_cases c10 : (z_gi M 25 0 ((5 : Int32) + a1).toNatClampNeg) = 3
  · replace h := z_ift h c10
    refine lv_tableIn (off := 51) (tgt := 65) hx hb dX7_sound_14 (by rw [c10]; decide) (by rw [c10]; decide) (by rw [c10]; rfl) (by decide) ?_
    refine lv_iload_n hx hb dX7_sound_65 rfl (lv_at hl 0 rfl) ?_
    refine lv_iload_n hx hb dX7_sound_66 rfl (lv_at hl 3 rfl) ?_
    refine lv_iadd hx hb dX7_sound_67 ?_
    refine lv_iconst (v := 1) hx hb dX7_sound_68 (by decide) ?_
    refine lv_isub hx hb dX7_sound_69 ?_
    refine lv_bipush (v := 9) hx hb dX7_sound_70 (by decide) ?_
    refine lv_icmp_le (tgt := 80) hx hb dX7_sound_72 (by decide) (fun c11 => ?_) (fun c11 => ?_)
    · replace h := z_ift h c11
      refine lv_iload_n hx hb dX7_sound_80 rfl (lv_at hl 0 rfl) ?_
      refine lv_iload_n hx hb dX7_sound_81 rfl (lv_at hl 3 rfl) ?_
      refine lv_iadd hx hb dX7_sound_82 ?_
      refine lv_iconst (v := 1) hx hb dX7_sound_83 (by decide) ?_
      refine lv_isub hx hb dX7_sound_84 ?_
      obtain rfl := Option.some.inj h
      exact z_ri hc hI dX7_sound_85
    · replace h := z_iff h c11
      refine lv_bipush (v := 9) hx hb dX7_sound_75 (by decide) ?_
      refine lv_goto (tgt := 85) hx hb dX7_sound_77 (by decide) ?_
      obtain rfl := Option.some.inj h
      exact z_ri hc hI dX7_sound_85
  replace h := z_iff h c10
  by_cases c12 : (z_gi M 25 0 ((5 : Int32) + a1).toNatClampNeg) = 4
  · replace h := z_ift h c12
    refine lv_tableIn (off := 72) (tgt := 86) hx hb dX7_sound_14 (by rw [c12]; decide) (by rw [c12]; decide) (by rw [c12]; rfl) (by decide) ?_
    refine lv_iconst (v := (-1)) hx hb dX7_sound_86 (by decide) ?_
    obtain rfl := Option.some.inj h
    exact z_ri hc hI dX7_sound_87
  replace h := z_iff h c12
  refine lv_tableOut (tgt := 88) hx hb dX7_sound_14 (by have nc4 := z_ne (n := 1) (by decide) c4; have nc5 := z_ne (n := 2) (by decide) c5; have nc10 := z_ne (n := 3) (by decide) c10; have nc12 := z_ne (n := 4) (by decide) c12; omega) (by decide) ?_
  refine lv_iload_n hx hb dX7_sound_88 rfl (lv_at hl 3 rfl) ?_
  refine lv_iconst (v := 3) hx hb dX7_sound_89 (by decide) ?_
  refine lv_icmp_ne (tgt := 99) hx hb dX7_sound_90 (by decide) (fun c13 => ?_) (fun c13 => ?_)
  · replace h := z_iff h c13
    refine lv_iconst (v := (-1)) hx hb dX7_sound_99 (by decide) ?_
    obtain rfl := Option.some.inj h
    exact z_ri hc hI dX7_sound_100
  · replace h := z_ift h c13
    refine lv_iload_n hx hb dX7_sound_93 rfl (lv_at hl 0 rfl) ?_
    refine lv_iconst (v := 2) hx hb dX7_sound_94 (by decide) ?_
    refine lv_idiv hx hb dX7_sound_95 (by decide) ?_
    refine lv_goto (tgt := 100) hx hb dX7_sound_96 (by decide) ?_
    obtain rfl := Option.some.inj h
    exact z_ri hc hI dX7_sound_100
set_option maxRecDepth 100000 in
set_option maxHeartbeats 4000000 in
theorem w_X7_heardAt_b82 {M : z_M} (hc : z_C p s m args meth c RX7 cX7_heardAt 7 (some .int)) {out : Int32} {K5 : Int32 → Int32 → Int32 → Int32 → Option Int32} (hK5 : ∀ (v1 : Int32) (v2 : Int32) (v3 : Int32) (v4 : Int32) (H : Heap) (locs : List Loc) (ls : Array Slot), K5 v1 v2 v3 v4 = some out → z_I G s M H locs → lv_has ls 7 [(0, .ref (z_ad G 21 0)), (1, .int v1), (2, .int v2), (3, .int v3), (4, .int v4)] → W p l e (z_rm 4) s m args below meth c H locs 0 0 (MQ below (z_Q G (some (.int out)) M) args s 0 0 (z_A G)) (F0 m 5 ls [])) (v1 : Int32) (v2 : Int32) (v4 : Int32) (s0 : Int32) (s1 : Int32) (H : Heap) (locs : List Loc) (ls : Array Slot) (h : F_X7_heardAt_b82 M K5 v1 v2 v4 s0 s1 = some out) (hI : z_I G s M H locs) (hl : lv_has ls 7 [(0, .ref (z_ad G 21 0)), (1, .int v1), (2, .int v2), (4, .int v4)]) : W p l e (z_rm 4) s m args below meth c H locs 0 0 (MQ below (z_Q G (some (.int out)) M) args s 0 0 (z_A G)) (F0 m 82 ls [.int s0, .int s1]) := by
  obtain ⟨⟨hx, hb, hml, hown, hts⟩, hr, hlk⟩ := id hc
  unfold F_X7_heardAt_b82 at h
  refine lv_ior hx hb dX7_heardAt_82 ?_
  refine z_nI h (fun x10 h => ?_)
  refine lv_istore_n (lv' := [(3, .int x10), (0, .ref (z_ad G 21 0)), (1, .int v1), (2, .int v2), (4, .int v4)]) hx hb dX7_heardAt_83 rfl hl (by decide) rfl (fun ls hl => ?_)
  refine lv_iinc (v := v4 + 1) (lv' := [(4, .int (v4 + 1)), (3, .int x10), (0, .ref (z_ad G 21 0)), (1, .int v1), (2, .int v2)]) hx hb dX7_heardAt_84 hl (k := 4) rfl rfl (by decide) rfl (fun ls hl => ?_)
  refine lv_goto (tgt := 5) hx hb dX7_heardAt_87 (by decide) ?_
  exact hK5 v1 v2 x10 (v4 + 1) _ _ _ h hI (lv_sub hl [2, 3, 4, 1, 0] rfl)
set_option maxRecDepth 100000 in
set_option maxHeartbeats 4000000 in
theorem w_X7_heardAt_b81 {M : z_M} (hc : z_C p s m args meth c RX7 cX7_heardAt 7 (some .int)) {out : Int32} {K5 : Int32 → Int32 → Int32 → Int32 → Option Int32} (hK5 : ∀ (v1 : Int32) (v2 : Int32) (v3 : Int32) (v4 : Int32) (H : Heap) (locs : List Loc) (ls : Array Slot), K5 v1 v2 v3 v4 = some out → z_I G s M H locs → lv_has ls 7 [(0, .ref (z_ad G 21 0)), (1, .int v1), (2, .int v2), (3, .int v3), (4, .int v4)] → W p l e (z_rm 4) s m args below meth c H locs 0 0 (MQ below (z_Q G (some (.int out)) M) args s 0 0 (z_A G)) (F0 m 5 ls [])) (v1 : Int32) (v2 : Int32) (v4 : Int32) (s0 : Int32) (H : Heap) (locs : List Loc) (ls : Array Slot) (h : F_X7_heardAt_b81 M K5 v1 v2 v4 s0 = some out) (hI : z_I G s M H locs) (hl : lv_has ls 7 [(0, .ref (z_ad G 21 0)), (1, .int v1), (2, .int v2), (4, .int v4)]) : W p l e (z_rm 4) s m args below meth c H locs 0 0 (MQ below (z_Q G (some (.int out)) M) args s 0 0 (z_A G)) (F0 m 81 ls [.int s0]) := by
  obtain ⟨⟨hx, hb, hml, hown, hts⟩, hr, hlk⟩ := id hc
  unfold F_X7_heardAt_b81 at h
  refine lv_iconst (v := 0) hx hb dX7_heardAt_81 (by decide) ?_
  exact w_X7_heardAt_b82 hc hK5 v1 v2 v4 0 s0 _ _ _ h hI hl
set_option maxRecDepth 100000 in
set_option maxHeartbeats 4000000 in
theorem w_X7_heardAt_b50 {M : z_M} (hc : z_C p s m args meth c RX7 cX7_heardAt 7 (some .int)) {out : Int32} {K5 : Int32 → Int32 → Int32 → Int32 → Option Int32} (hK5 : ∀ (v1 : Int32) (v2 : Int32) (v3 : Int32) (v4 : Int32) (H : Heap) (locs : List Loc) (ls : Array Slot), K5 v1 v2 v3 v4 = some out → z_I G s M H locs → lv_has ls 7 [(0, .ref (z_ad G 21 0)), (1, .int v1), (2, .int v2), (3, .int v3), (4, .int v4)] → W p l e (z_rm 4) s m args below meth c H locs 0 0 (MQ below (z_Q G (some (.int out)) M) args s 0 0 (z_A G)) (F0 m 5 ls [])) (v1 : Int32) (v2 : Int32) (v3 : Int32) (v4 : Int32) (v5 : Int32) (s0 : Int32) (H : Heap) (locs : List Loc) (ls : Array Slot) (h : F_X7_heardAt_b50 M K5 v1 v2 v3 v4 v5 s0 = some out) (hI : z_I G s M H locs) (hl : lv_has ls 7 [(0, .ref (z_ad G 21 0)), (1, .int v1), (2, .int v2), (3, .int v3), (4, .int v4), (5, .int v5)]) : W p l e (z_rm 4) s m args below meth c H locs 0 0 (MQ below (z_Q G (some (.int out)) M) args s 0 0 (z_A G)) (F0 m 50 ls [.int s0]) := by
  obtain ⟨⟨hx, hb, hml, hown, hts⟩, hr, hlk⟩ := id hc
  unfold F_X7_heardAt_b50 at h
  refine lv_istore (lv' := [(6, .int s0), (0, .ref (z_ad G 21 0)), (1, .int v1), (2, .int v2), (3, .int v3), (4, .int v4), (5, .int v5)]) hx hb dX7_heardAt_50 hl (by decide) rfl (fun ls hl => ?_)
  refine lv_iload_n hx hb dX7_heardAt_52 rfl (lv_at hl 4 rfl) ?_
  refine lv_iload hx hb dX7_heardAt_53 (lv_at hl 0 rfl) ?_
  refine lv_if_lt (tgt := 81) hx hb dX7_heardAt_55 (by decide) (fun c9 => ?_) (fun c9 => ?_)
  · replace h := z_ift h c9
    exact w_X7_heardAt_b81 hc hK5 v1 v2 v4 v3 _ _ _ h hI (lv_sub hl [1, 2, 3, 5] rfl)
  · replace h := z_iff h c9
    refine lv_iload hx hb dX7_heardAt_58 (lv_at hl 6 rfl) ?_
    refine lv_iload_n hx hb dX7_heardAt_60 rfl (lv_at hl 2 rfl) ?_
    refine lv_isub hx hb dX7_heardAt_61 ?_
    obtain ⟨q11, e12, h⟩ := z_bnd h
    refine iv_X7_147 hc hI (c_X7_size e12) (z_room (by decide) (by decide)) hl.1 (Nat.le_of_ble_eq_true rfl) ⟨Nat.zero_le _, Nat.zero_le _⟩ dX7_heardAt_62 (fun H locs hI => ?_)
    refine lv_aload_n hx hb dX7_heardAt_65 rfl (lv_at hl 1 rfl) ?_
    refine gf_X7_19 hc hI dX7_heardAt_66 ?_
    refine lv_iconst (v := 3) hx hb dX7_heardAt_69 (by decide) ?_
    obtain ⟨g13, h⟩ := z_grd_some h
    refine ld_k25 hc hI g13 dX7_heardAt_70 ?_
    refine lv_icmp_gt (tgt := 81) hx hb dX7_heardAt_71 (by decide) (fun c14 => ?_) (fun c14 => ?_)
    · replace h := z_ift h c14
      exact w_X7_heardAt_b81 hc hK5 v1 v2 v4 v3 _ _ _ h hI (lv_sub hl [1, 2, 3, 5] rfl)
    · replace h := z_iff h c14
      refine lv_iconst (v := 1) hx hb dX7_heardAt_74 (by decide) ?_
      refine lv_iload hx hb dX7_heardAt_75 (lv_at hl 0 rfl) ?_
      refine lv_ishl hx hb dX7_heardAt_77 ?_
      refine lv_goto (tgt := 82) hx hb dX7_heardAt_78 (by decide) ?_
      exact w_X7_heardAt_b82 hc hK5 v1 v2 v4 ((1 : Int32) <<< (s0 &&& 31)) v3 _ _ _ h hI (lv_sub hl [1, 2, 3, 5] rfl)
set_option maxRecDepth 100000 in
set_option maxHeartbeats 4000000 in
theorem w_X7_heardAt_b5 {M : z_M} (hc : z_C p s m args meth c RX7 cX7_heardAt 7 (some .int)) {out : Int32} : ∀ (n : Nat) (v1 : Int32) (v2 : Int32) (v3 : Int32) (v4 : Int32) (H : Heap) (locs : List Loc) (ls : Array Slot) (h : F_X7_heardAt_b5 M n v1 v2 v3 v4 = some out) (hI : z_I G s M H locs) (hl : lv_has ls 7 [(0, .ref (z_ad G 21 0)), (1, .int v1), (2, .int v2), (3, .int v3), (4, .int v4)]), W p l e (z_rm 4) s m args below meth c H locs 0 0 (MQ below (z_Q G (some (.int out)) M) args s 0 0 (z_A G)) (F0 m 5 ls []) := by
  obtain ⟨⟨hx, hb, hml, hown, hts⟩, hr, hlk⟩ := id hc
  intro n
  induction n with
  | zero => intro v1 v2 v3 v4 H locs ls h; cases h
  | succ n ih =>
    intro v1 v2 v3 v4 H locs ls h hI hl
    rw [F_X7_heardAt_b5] at h
    refine lv_iload hx hb dX7_heardAt_5 (lv_at hl 4 rfl) ?_
    refine lv_aload_n hx hb dX7_heardAt_7 rfl (lv_at hl 0 rfl) ?_
    refine gf_X7_19 hc hI dX7_heardAt_8 ?_
    refine lv_iconst (v := 1) hx hb dX7_heardAt_11 (by decide) ?_
    obtain ⟨g1, h⟩ := z_grd_some h
    refine ld_k25 hc hI g1 dX7_heardAt_12 ?_
    refine lv_icmp_ge (tgt := 90) hx hb dX7_heardAt_13 (by decide) (fun c2 => ?_) (fun c2 => ?_)
    · replace h := z_ift h c2
      refine lv_iload_n hx hb dX7_heardAt_90 rfl (lv_at hl 3 rfl) ?_
      obtain rfl := Option.some.inj h
      exact z_ri hc hI dX7_heardAt_91
    · replace h := z_iff h c2
      refine lv_aload_n hx hb dX7_heardAt_16 rfl (lv_at hl 0 rfl) ?_
      refine lv_iload hx hb dX7_heardAt_17 (lv_at hl 4 rfl) ?_
      refine lv_iload_n hx hb dX7_heardAt_19 rfl (lv_at hl 2 rfl) ?_
      obtain ⟨q3, e4, h⟩ := z_bnd h
      refine iv_X7_166 hc hI (c_X7_at e4) (z_room (by decide) (by decide)) hl.1 (Nat.le_of_ble_eq_true rfl) ⟨Nat.zero_le _, Nat.zero_le _⟩ dX7_heardAt_20 (fun H locs hI => ?_)
      refine lv_istore (lv' := [(5, .int q3), (0, .ref (z_ad G 21 0)), (1, .int v1), (2, .int v2), (3, .int v3), (4, .int v4)]) hx hb dX7_heardAt_23 hl (by decide) rfl (fun ls hl => ?_)
      refine lv_iload hx hb dX7_heardAt_25 (lv_at hl 0 rfl) ?_
      refine lv_if_ge (tgt := 34) hx hb dX7_heardAt_27 (by decide) (fun c5 => ?_) (fun c5 => ?_)
      · replace h := z_ift h c5
        refine lv_aload_n hx hb dX7_heardAt_34 rfl (lv_at hl 1 rfl) ?_
        refine lv_iload hx hb dX7_heardAt_35 (lv_at hl 0 rfl) ?_
        refine lv_aload_n hx hb dX7_heardAt_37 rfl (lv_at hl 1 rfl) ?_
        refine gf_X7_19 hc hI dX7_heardAt_38 ?_
        refine lv_bipush (v := 39) hx hb dX7_heardAt_41 (by decide) ?_
        refine lv_iload hx hb dX7_heardAt_43 (lv_at hl 5 rfl) ?_
        refine lv_iadd hx hb dX7_heardAt_45 ?_
        obtain ⟨g6, h⟩ := z_grd_some h
        refine ld_k25 hc hI g6 dX7_heardAt_46 ?_
        obtain ⟨q7, e8, h⟩ := z_bnd h
        refine iv_X7_169 hc hI (c_X7_sound e8) (z_room (by decide) (by decide)) hl.1 (Nat.le_of_ble_eq_true rfl) ⟨Nat.zero_le _, Nat.zero_le _⟩ dX7_heardAt_47 (fun H locs hI => ?_)
        exact w_X7_heardAt_b50 hc ih v1 v2 v3 v4 q3 q7 _ _ _ h hI (lv_sub hl [1, 2, 3, 4, 5, 0] rfl)
      · replace h := z_iff h c5
        refine lv_iconst (v := (-1)) hx hb dX7_heardAt_30 (by decide) ?_
        refine lv_goto (tgt := 50) hx hb dX7_heardAt_31 (by decide) ?_
        exact w_X7_heardAt_b50 hc ih v1 v2 v3 v4 q3 (-1) _ _ _ h hI (lv_sub hl [1, 2, 3, 4, 5, 0] rfl)
set_option maxRecDepth 100000 in
set_option maxHeartbeats 4000000 in
theorem c_X7_heardAt {G : z_G} {l : Launch} {a1 : Int32} {a2 : Int32} {M : z_M} {out : Int32} (h : F_X7_heardAt a1 a2 M = some out) : z_Met G l yX7_heardAt cX7_heardAt 7 (some .int) 4 [.ref (z_ad G 21 0), .int a1, .int a2] M (some (.int out)) M := by
  unfold F_X7_heardAt at h
  refine z_met_of (by decide) rfl (Nat.le_of_ble_eq_true rfl) (fun p e s m below meth c ls hc hI hl => ?_)
  obtain ⟨⟨hx, hb, hml, hown, hts⟩, hr, hlk⟩ := id hc
  have hl : lv_has ls 7 [(0, .ref (z_ad G 21 0)), (1, .int a1), (2, .int a2)] := hl
  refine lv_iconst (v := 0) hx hb dX7_heardAt_0 (by decide) ?_
  refine lv_istore_n (lv' := [(3, .int 0), (0, .ref (z_ad G 21 0)), (1, .int a1), (2, .int a2)]) hx hb dX7_heardAt_1 rfl hl (by decide) rfl (fun ls hl => ?_)
  refine lv_iconst (v := 0) hx hb dX7_heardAt_2 (by decide) ?_
  refine lv_istore (lv' := [(4, .int 0), (3, .int 0), (0, .ref (z_ad G 21 0)), (1, .int a1), (2, .int a2)]) hx hb dX7_heardAt_3 hl (by decide) rfl (fun ls hl => ?_)
  exact w_X7_heardAt_b5 hc _ a1 a2 0 0 _ _ _ h hI (lv_sub hl [2, 3, 4, 1, 0] rfl)
set_option maxRecDepth 100000 in
set_option maxHeartbeats 4000000 in
theorem w_X7_oneDay_b68 (hc : z_C p s m args meth c RX7 cX7_oneDay 4 none) {out : z_M} {K2 : Int32 → z_M → Option z_M} (hK2 : ∀ (v1 : Int32) (M : z_M) (H : Heap) (locs : List Loc) (ls : Array Slot), K2 v1 M = some out → z_I G s M H locs → lv_has ls 4 [(0, .ref (z_ad G 21 0)), (1, .int v1)] → W p l e (z_rm 3) s m args below meth c H locs 0 0 (MQ below (z_Q G (none) out) args s 0 0 (z_A G)) (F0 m 2 ls [])) {K14 : Int32 → Int32 → z_M → Option z_M} (hK14 : ∀ (v1 : Int32) (v2 : Int32) (M : z_M) (H : Heap) (locs : List Loc) (ls : Array Slot), K14 v1 v2 M = some out → z_I G s M H locs → lv_has ls 4 [(0, .ref (z_ad G 21 0)), (1, .int v1), (2, .int v2)] → W p l e (z_rm 3) s m args below meth c H locs 0 0 (MQ below (z_Q G (none) out) args s 0 0 (z_A G)) (F0 m 14 ls [])) (v1 : Int32) (v2 : Int32) (s0 : Int32) (s1 : Int32) (M : z_M) (H : Heap) (locs : List Loc) (ls : Array Slot) (h : F_X7_oneDay_b68 K2 K14 v1 v2 s0 s1 M = some out) (hI : z_I G s M H locs) (hl : lv_has ls 4 [(0, .ref (z_ad G 21 0)), (1, .int v1), (2, .int v2)]) : W p l e (z_rm 3) s m args below meth c H locs 0 0 (MQ below (z_Q G (none) out) args s 0 0 (z_A G)) (F0 m 68 ls [.int s0, .int s1, .ref (z_ad G 25 0)]) := by
  obtain ⟨⟨hx, hb, hml, hown, hts⟩, hr, hlk⟩ := id hc
  unfold F_X7_oneDay_b68 at h
  obtain ⟨g19, h⟩ := z_grd_some h
  refine st_k25 hc hI g19 dX7_oneDay_68 (fun H locs hI => ?_)
  refine lv_iinc (v := v2 + 1) (lv' := [(2, .int (v2 + 1)), (0, .ref (z_ad G 21 0)), (1, .int v1)]) hx hb dX7_oneDay_69 hl (k := 2) rfl rfl (by decide) rfl (fun ls hl => ?_)
  refine lv_goto (tgt := 14) hx hb dX7_oneDay_72 (by decide) ?_
  exact hK14 v1 (v2 + 1) _ _ _ _ h hI (lv_sub hl [1, 2, 0] rfl)
set_option maxRecDepth 100000 in
set_option maxHeartbeats 4000000 in
theorem w_X7_oneDay_b14 (hc : z_C p s m args meth c RX7 cX7_oneDay 4 none) {out : z_M} {K2 : Int32 → z_M → Option z_M} (hK2 : ∀ (v1 : Int32) (M : z_M) (H : Heap) (locs : List Loc) (ls : Array Slot), K2 v1 M = some out → z_I G s M H locs → lv_has ls 4 [(0, .ref (z_ad G 21 0)), (1, .int v1)] → W p l e (z_rm 3) s m args below meth c H locs 0 0 (MQ below (z_Q G (none) out) args s 0 0 (z_A G)) (F0 m 2 ls [])) : ∀ (n : Nat) (v1 : Int32) (v2 : Int32) (M : z_M) (H : Heap) (locs : List Loc) (ls : Array Slot) (h : F_X7_oneDay_b14 K2 n v1 v2 M = some out) (hI : z_I G s M H locs) (hl : lv_has ls 4 [(0, .ref (z_ad G 21 0)), (1, .int v1), (2, .int v2)]), W p l e (z_rm 3) s m args below meth c H locs 0 0 (MQ below (z_Q G (none) out) args s 0 0 (z_A G)) (F0 m 14 ls []) := by
  obtain ⟨⟨hx, hb, hml, hown, hts⟩, hr, hlk⟩ := id hc
  intro n
  induction n with
  | zero => intro v1 v2 M H locs ls h; cases h
  | succ n ih =>
    intro v1 v2 M H locs ls h hI hl
    rw [F_X7_oneDay_b14] at h
    refine lv_iload_n hx hb dX7_oneDay_14 rfl (lv_at hl 2 rfl) ?_
    refine lv_aload_n hx hb dX7_oneDay_15 rfl (lv_at hl 0 rfl) ?_
    refine lv_iload_n hx hb dX7_oneDay_16 rfl (lv_at hl 1 rfl) ?_
    obtain ⟨q5, e6, h⟩ := z_bnd h
    refine iv_X7_150 hc hI (c_X7_longOf e6) (z_room (by decide) (by decide)) hl.1 (Nat.le_of_ble_eq_true rfl) ⟨Nat.zero_le _, Nat.zero_le _⟩ dX7_oneDay_17 (fun H locs hI => ?_)
    refine lv_icmp_ge (tgt := 75) hx hb dX7_oneDay_20 (by decide) (fun c7 => ?_) (fun c7 => ?_)
    · replace h := z_ift h c7
      refine lv_aload_n hx hb dX7_oneDay_75 rfl (lv_at hl 0 rfl) ?_
      refine gf_X7_19 hc hI dX7_oneDay_76 ?_
      refine lv_bipush (v := 29) hx hb dX7_oneDay_79 (by decide) ?_
      refine lv_iload_n hx hb dX7_oneDay_81 rfl (lv_at hl 1 rfl) ?_
      refine lv_iadd hx hb dX7_oneDay_82 ?_
      obtain ⟨g8, h⟩ := z_grd_some h
      refine ld_k25 hc hI g8 dX7_oneDay_83 ?_
      refine z_nI h (fun x9 h => ?_)
      refine lv_istore_n (lv' := [(2, .int x9), (0, .ref (z_ad G 21 0)), (1, .int v1)]) hx hb dX7_oneDay_84 rfl hl (by decide) rfl (fun ls hl => ?_)
      refine lv_aload_n hx hb dX7_oneDay_85 rfl (lv_at hl 1 rfl) ?_
      refine gf_X7_19 hc hI dX7_oneDay_86 ?_
      refine lv_bipush (v := 29) hx hb dX7_oneDay_89 (by decide) ?_
      refine lv_iload_n hx hb dX7_oneDay_91 rfl (lv_at hl 2 rfl) ?_
      refine lv_iadd hx hb dX7_oneDay_92 ?_
      refine lv_aload_n hx hb dX7_oneDay_93 rfl (lv_at hl 1 rfl) ?_
      refine gf_X7_19 hc hI dX7_oneDay_94 ?_
      refine lv_bipush (v := 34) hx hb dX7_oneDay_97 (by decide) ?_
      refine lv_iload_n hx hb dX7_oneDay_99 rfl (lv_at hl 2 rfl) ?_
      refine lv_iadd hx hb dX7_oneDay_100 ?_
      obtain ⟨g10, h⟩ := z_grd_some h
      refine ld_k25 hc hI g10 dX7_oneDay_101 ?_
      obtain ⟨g11, h⟩ := z_grd_some h
      refine st_k25 hc hI g11 dX7_oneDay_102 (fun H locs hI => ?_)
      refine lv_aload_n hx hb dX7_oneDay_103 rfl (lv_at hl 1 rfl) ?_
      refine gf_X7_19 hc hI dX7_oneDay_104 ?_
      refine lv_bipush (v := 34) hx hb dX7_oneDay_107 (by decide) ?_
      refine lv_iload_n hx hb dX7_oneDay_109 rfl (lv_at hl 2 rfl) ?_
      refine lv_iadd hx hb dX7_oneDay_110 ?_
      refine lv_iload_n hx hb dX7_oneDay_111 rfl (lv_at hl 0 rfl) ?_
      obtain ⟨g12, h⟩ := z_grd_some h
      obtain ⟨M13, h, hI⟩ := z_nM h hI
      refine st_k25 hc hI g12 dX7_oneDay_112 (fun H locs hI => ?_)
      refine lv_iinc (v := v1 + 1) (lv' := [(1, .int (v1 + 1)), (2, .int x9), (0, .ref (z_ad G 21 0))]) hx hb dX7_oneDay_113 hl (k := 2) rfl rfl (by decide) rfl (fun ls hl => ?_)
      refine lv_goto (tgt := 2) hx hb dX7_oneDay_116 (by decide) ?_
      exact hK2 (v1 + 1) _ _ _ _ h hI (lv_sub hl [2, 0] rfl)
    · replace h := z_iff h c7
      refine lv_aload_n hx hb dX7_oneDay_23 rfl (lv_at hl 0 rfl) ?_
      refine lv_iload_n hx hb dX7_oneDay_24 rfl (lv_at hl 1 rfl) ?_
      refine lv_iload_n hx hb dX7_oneDay_25 rfl (lv_at hl 2 rfl) ?_
      obtain ⟨q14, e15, h⟩ := z_bnd h
      refine iv_X7_153 hc hI (c_X7_treadOf e15) (z_room (by decide) (by decide)) hl.1 (Nat.le_of_ble_eq_true rfl) ⟨Nat.zero_le _, Nat.zero_le _⟩ dX7_oneDay_26 (fun H locs hI => ?_)
      refine lv_istore_n (lv' := [(3, .int q14), (0, .ref (z_ad G 21 0)), (1, .int v1), (2, .int v2)]) hx hb dX7_oneDay_29 rfl hl (by decide) rfl (fun ls hl => ?_)
      refine lv_aload_n hx hb dX7_oneDay_30 rfl (lv_at hl 1 rfl) ?_
      refine gf_X7_19 hc hI dX7_oneDay_31 ?_
      refine lv_bipush (v := 21) hx hb dX7_oneDay_34 (by decide) ?_
      refine lv_iload_n hx hb dX7_oneDay_36 rfl (lv_at hl 0 rfl) ?_
      refine lv_iadd hx hb dX7_oneDay_37 ?_
      refine lv_aload_n hx hb dX7_oneDay_38 rfl (lv_at hl 1 rfl) ?_
      refine gf_X7_19 hc hI dX7_oneDay_39 ?_
      refine lv_bipush (v := 21) hx hb dX7_oneDay_42 (by decide) ?_
      refine lv_iload_n hx hb dX7_oneDay_44 rfl (lv_at hl 0 rfl) ?_
      refine lv_iadd hx hb dX7_oneDay_45 ?_
      obtain ⟨g16, h⟩ := z_grd_some h
      refine ld_k25 hc hI g16 dX7_oneDay_46 ?_
      refine lv_bipush (v := 99) hx hb dX7_oneDay_47 (by decide) ?_
      refine lv_icmp_ne (tgt := 57) hx hb dX7_oneDay_49 (by decide) (fun c17 => ?_) (fun c17 => ?_)
      · replace h := z_iff h c17
        refine lv_aload_n hx hb dX7_oneDay_57 rfl (lv_at hl 1 rfl) ?_
        refine gf_X7_19 hc hI dX7_oneDay_58 ?_
        refine lv_bipush (v := 21) hx hb dX7_oneDay_61 (by decide) ?_
        refine lv_iload_n hx hb dX7_oneDay_63 rfl (lv_at hl 0 rfl) ?_
        refine lv_iadd hx hb dX7_oneDay_64 ?_
        obtain ⟨g18, h⟩ := z_grd_some h
        refine ld_k25 hc hI g18 dX7_oneDay_65 ?_
        refine lv_iconst (v := 1) hx hb dX7_oneDay_66 (by decide) ?_
        refine lv_iadd hx hb dX7_oneDay_67 ?_
        exact w_X7_oneDay_b68 hc hK2 ih v1 v2 ((z_gi M 25 0 ((21 : Int32) + q14).toNatClampNeg) + 1) ((21 : Int32) + q14) _ _ _ _ h hI (lv_sub hl [1, 2, 3] rfl)
      · replace h := z_ift h c17
        refine lv_bipush (v := 99) hx hb dX7_oneDay_52 (by decide) ?_
        refine lv_goto (tgt := 68) hx hb dX7_oneDay_54 (by decide) ?_
        exact w_X7_oneDay_b68 hc hK2 ih v1 v2 99 ((21 : Int32) + q14) _ _ _ _ h hI (lv_sub hl [1, 2, 3] rfl)
set_option maxRecDepth 100000 in
set_option maxHeartbeats 4000000 in
theorem w_X7_oneDay_b2 (hc : z_C p s m args meth c RX7 cX7_oneDay 4 none) {out : z_M} : ∀ (n : Nat) (v1 : Int32) (M : z_M) (H : Heap) (locs : List Loc) (ls : Array Slot) (h : F_X7_oneDay_b2 n v1 M = some out) (hI : z_I G s M H locs) (hl : lv_has ls 4 [(0, .ref (z_ad G 21 0)), (1, .int v1)]), W p l e (z_rm 3) s m args below meth c H locs 0 0 (MQ below (z_Q G (none) out) args s 0 0 (z_A G)) (F0 m 2 ls []) := by
  obtain ⟨⟨hx, hb, hml, hown, hts⟩, hr, hlk⟩ := id hc
  intro n
  induction n with
  | zero => intro v1 M H locs ls h; cases h
  | succ n ih =>
    intro v1 M H locs ls h hI hl
    rw [F_X7_oneDay_b2] at h
    refine lv_iload_n hx hb dX7_oneDay_2 rfl (lv_at hl 1 rfl) ?_
    refine lv_aload_n hx hb dX7_oneDay_3 rfl (lv_at hl 0 rfl) ?_
    refine gf_X7_19 hc hI dX7_oneDay_4 ?_
    refine lv_iconst (v := 1) hx hb dX7_oneDay_7 (by decide) ?_
    obtain ⟨g1, h⟩ := z_grd_some h
    refine ld_k25 hc hI g1 dX7_oneDay_8 ?_
    refine lv_icmp_ge (tgt := 119) hx hb dX7_oneDay_9 (by decide) (fun c2 => ?_) (fun c2 => ?_)
    · replace h := z_ift h c2
      refine lv_aload_n hx hb dX7_oneDay_119 rfl (lv_at hl 0 rfl) ?_
      refine gf_X7_19 hc hI dX7_oneDay_120 ?_
      refine lv_iconst (v := 4) hx hb dX7_oneDay_123 (by decide) ?_
      refine lv_dup2_11 hx hb dX7_oneDay_124 rfl rfl ?_
      obtain ⟨g3, h⟩ := z_grd_some h
      refine ld_k25 hc hI g3 dX7_oneDay_125 ?_
      refine lv_iconst (v := 1) hx hb dX7_oneDay_126 (by decide) ?_
      refine lv_iadd hx hb dX7_oneDay_127 ?_
      obtain ⟨g4, h⟩ := z_grd_some h
      refine st_k25 hc hI g4 dX7_oneDay_128 (fun H locs hI => ?_)
      obtain rfl := Option.some.inj h
      exact z_rv hc hI dX7_oneDay_129
    · replace h := z_iff h c2
      refine lv_iconst (v := 0) hx hb dX7_oneDay_12 (by decide) ?_
      refine lv_istore_n (lv' := [(2, .int 0), (0, .ref (z_ad G 21 0)), (1, .int v1)]) hx hb dX7_oneDay_13 rfl hl (by decide) rfl (fun ls hl => ?_)
      exact w_X7_oneDay_b14 hc ih _ v1 0 _ _ _ _ h hI (lv_sub hl [1, 2, 0] rfl)
set_option maxRecDepth 100000 in
set_option maxHeartbeats 4000000 in
theorem c_X7_oneDay {G : z_G} {l : Launch} {M : z_M} {out : z_M} (h : F_X7_oneDay M = some out) : z_Met G l yX7_oneDay cX7_oneDay 4 none 3 [.ref (z_ad G 21 0)] M (none) out := by
  unfold F_X7_oneDay at h
  refine z_met_of (by decide) rfl (Nat.le_of_ble_eq_true rfl) (fun p e s m below meth c ls hc hI hl => ?_)
  obtain ⟨⟨hx, hb, hml, hown, hts⟩, hr, hlk⟩ := id hc
  have hl : lv_has ls 4 [(0, .ref (z_ad G 21 0))] := hl
  refine lv_iconst (v := 0) hx hb dX7_oneDay_0 (by decide) ?_
  refine lv_istore_n (lv' := [(1, .int 0), (0, .ref (z_ad G 21 0))]) hx hb dX7_oneDay_1 rfl hl (by decide) rfl (fun ls hl => ?_)
  exact w_X7_oneDay_b2 hc _ 0 _ _ _ _ h hI (lv_sub hl [1, 0] rfl)
set_option maxRecDepth 100000 in
set_option maxHeartbeats 4000000 in
theorem w_X7_note_b51 (hc : z_C p s m args meth c RX7 cX7_note 2 none) {out : z_M} : ∀ (n : Nat) (v1 : Int32) (M : z_M) (H : Heap) (locs : List Loc) (ls : Array Slot) (h : F_X7_note_b51 n v1 M = some out) (hI : z_I G s M H locs) (hl : lv_has ls 2 [(0, .ref (z_ad G 21 0)), (1, .int v1)]), W p l e (z_rm 1) s m args below meth c H locs 0 0 (MQ below (z_Q G (none) out) args s 0 0 (z_A G)) (F0 m 51 ls []) := by
  obtain ⟨⟨hx, hb, hml, hown, hts⟩, hr, hlk⟩ := id hc
  intro n
  induction n with
  | zero => intro v1 M H locs ls h; cases h
  | succ n ih =>
    intro v1 M H locs ls h hI hl
    rw [F_X7_note_b51] at h
    refine lv_iload_n hx hb dX7_note_51 rfl (lv_at hl 1 rfl) ?_
    refine lv_bipush (v := 49) hx hb dX7_note_52 (by decide) ?_
    refine lv_icmp_ge (tgt := 83) hx hb dX7_note_54 (by decide) (fun c2 => ?_) (fun c2 => ?_)
    · replace h := z_ift h c2
      refine lv_aload_n hx hb dX7_note_83 rfl (lv_at hl 0 rfl) ?_
      refine lv_dup hx hb dX7_note_84 rfl ?_
      refine gf_X7_142 hc hI dX7_note_85 ?_
      refine lv_iconst (v := 1) hx hb dX7_note_88 (by decide) ?_
      refine lv_iadd hx hb dX7_note_89 ?_
      refine pf_X7_142 hc hI dX7_note_90 (fun H locs hI => ?_)
      obtain rfl := Option.some.inj h
      exact z_rv hc hI dX7_note_93
    · replace h := z_iff h c2
      refine lv_aload_n hx hb dX7_note_57 rfl (lv_at hl 0 rfl) ?_
      refine gf_X7_31 hc hI dX7_note_58 ?_
      refine lv_bipush (v := 49) hx hb dX7_note_61 (by decide) ?_
      refine lv_aload_n hx hb dX7_note_63 rfl (lv_at hl 0 rfl) ?_
      refine gf_X7_142 hc hI dX7_note_64 ?_
      refine lv_imul hx hb dX7_note_67 ?_
      refine lv_iload_n hx hb dX7_note_68 rfl (lv_at hl 1 rfl) ?_
      refine lv_iadd hx hb dX7_note_69 ?_
      refine lv_aload_n hx hb dX7_note_70 rfl (lv_at hl 0 rfl) ?_
      refine gf_X7_19 hc hI dX7_note_71 ?_
      refine lv_iload_n hx hb dX7_note_74 rfl (lv_at hl 1 rfl) ?_
      obtain ⟨g3, h⟩ := z_grd_some h
      refine ld_k25 hc hI g3 dX7_note_75 ?_
      obtain ⟨g4, h⟩ := z_grd_some h
      refine st_k29 hc hI g4 dX7_note_76 (fun H locs hI => ?_)
      refine lv_iinc (v := v1 + 1) (lv' := [(1, .int (v1 + 1)), (0, .ref (z_ad G 21 0))]) hx hb dX7_note_77 hl (k := 1) rfl rfl (by decide) rfl (fun ls hl => ?_)
      refine lv_goto (tgt := 51) hx hb dX7_note_80 (by decide) ?_
      exact ih (v1 + 1) _ _ _ _ h hI (lv_sub hl [1, 0] rfl)
set_option maxRecDepth 100000 in
set_option maxHeartbeats 4000000 in
theorem w_X7_note_b49 (hc : z_C p s m args meth c RX7 cX7_note 2 none) {out : z_M} (M : z_M) (H : Heap) (locs : List Loc) (ls : Array Slot) (h : F_X7_note_b49 M = some out) (hI : z_I G s M H locs) (hl : lv_has ls 2 [(0, .ref (z_ad G 21 0))]) : W p l e (z_rm 1) s m args below meth c H locs 0 0 (MQ below (z_Q G (none) out) args s 0 0 (z_A G)) (F0 m 49 ls []) := by
  obtain ⟨⟨hx, hb, hml, hown, hts⟩, hr, hlk⟩ := id hc
  unfold F_X7_note_b49 at h
  refine lv_iconst (v := 0) hx hb dX7_note_49 (by decide) ?_
  refine lv_istore_n (lv' := [(1, .int 0), (0, .ref (z_ad G 21 0))]) hx hb dX7_note_50 rfl hl (by decide) rfl (fun ls hl => ?_)
  exact w_X7_note_b51 hc _ 0 _ _ _ _ h hI (lv_sub hl [1, 0] rfl)
set_option maxRecDepth 100000 in
set_option maxHeartbeats 4000000 in
theorem w_X7_note_b11 (hc : z_C p s m args meth c RX7 cX7_note 2 none) {out : z_M} : ∀ (n : Nat) (v1 : Int32) (M : z_M) (H : Heap) (locs : List Loc) (ls : Array Slot) (h : F_X7_note_b11 n v1 M = some out) (hI : z_I G s M H locs) (hl : lv_has ls 2 [(0, .ref (z_ad G 21 0)), (1, .int v1)]), W p l e (z_rm 1) s m args below meth c H locs 0 0 (MQ below (z_Q G (none) out) args s 0 0 (z_A G)) (F0 m 11 ls []) := by
  obtain ⟨⟨hx, hb, hml, hown, hts⟩, hr, hlk⟩ := id hc
  intro n
  induction n with
  | zero => intro v1 M H locs ls h; cases h
  | succ n ih =>
    intro v1 M H locs ls h hI hl
    rw [F_X7_note_b11] at h
    refine lv_iload_n hx hb dX7_note_11 rfl (lv_at hl 1 rfl) ?_
    refine lv_sipush (v := 1127) hx hb dX7_note_12 (by decide) ?_
    refine lv_icmp_ge (tgt := 39) hx hb dX7_note_15 (by decide) (fun c5 => ?_) (fun c5 => ?_)
    · replace h := z_ift h c5
      refine lv_aload_n hx hb dX7_note_39 rfl (lv_at hl 0 rfl) ?_
      refine lv_dup hx hb dX7_note_40 rfl ?_
      refine gf_X7_142 hc hI dX7_note_41 ?_
      refine lv_iconst (v := 1) hx hb dX7_note_44 (by decide) ?_
      refine lv_isub hx hb dX7_note_45 ?_
      refine pf_X7_142 hc hI dX7_note_46 (fun H locs hI => ?_)
      exact w_X7_note_b49 hc _ _ _ _ h hI (lv_sub hl [0] rfl)
    · replace h := z_iff h c5
      refine lv_aload_n hx hb dX7_note_18 rfl (lv_at hl 0 rfl) ?_
      refine gf_X7_31 hc hI dX7_note_19 ?_
      refine lv_iload_n hx hb dX7_note_22 rfl (lv_at hl 1 rfl) ?_
      refine lv_aload_n hx hb dX7_note_23 rfl (lv_at hl 0 rfl) ?_
      refine gf_X7_31 hc hI dX7_note_24 ?_
      refine lv_iload_n hx hb dX7_note_27 rfl (lv_at hl 1 rfl) ?_
      refine lv_bipush (v := 49) hx hb dX7_note_28 (by decide) ?_
      refine lv_iadd hx hb dX7_note_30 ?_
      obtain ⟨g6, h⟩ := z_grd_some h
      refine ld_k29 hc hI g6 dX7_note_31 ?_
      obtain ⟨g7, h⟩ := z_grd_some h
      refine st_k29 hc hI g7 dX7_note_32 (fun H locs hI => ?_)
      refine lv_iinc (v := v1 + 1) (lv' := [(1, .int (v1 + 1)), (0, .ref (z_ad G 21 0))]) hx hb dX7_note_33 hl (k := 1) rfl rfl (by decide) rfl (fun ls hl => ?_)
      refine lv_goto (tgt := 11) hx hb dX7_note_36 (by decide) ?_
      exact ih (v1 + 1) _ _ _ _ h hI (lv_sub hl [1, 0] rfl)
set_option maxRecDepth 100000 in
set_option maxHeartbeats 4000000 in
theorem c_X7_note {G : z_G} {l : Launch} {M : z_M} {out : z_M} (h : F_X7_note M = some out) : z_Met G l yX7_note cX7_note 2 none 1 [.ref (z_ad G 21 0)] M (none) out := by
  unfold F_X7_note at h
  refine z_met_of (by decide) rfl (Nat.le_of_ble_eq_true rfl) (fun p e s m below meth c ls hc hI hl => ?_)
  obtain ⟨⟨hx, hb, hml, hown, hts⟩, hr, hlk⟩ := id hc
  have hl : lv_has ls 2 [(0, .ref (z_ad G 21 0))] := hl
  refine lv_aload_n hx hb dX7_note_0 rfl (lv_at hl 0 rfl) ?_
  refine gf_X7_142 hc hI dX7_note_1 ?_
  refine lv_bipush (v := 24) hx hb dX7_note_4 (by decide) ?_
  refine lv_icmp_ne (tgt := 49) hx hb dX7_note_6 (by decide) (fun c1 => ?_) (fun c1 => ?_)
  · replace h := z_iff h c1
    exact w_X7_note_b49 hc _ _ _ _ h hI hl
  · replace h := z_ift h c1
    refine lv_iconst (v := 0) hx hb dX7_note_9 (by decide) ?_
    refine lv_istore_n (lv' := [(1, .int 0), (0, .ref (z_ad G 21 0))]) hx hb dX7_note_10 rfl hl (by decide) rfl (fun ls hl => ?_)
    exact w_X7_note_b11 hc _ 0 _ _ _ _ h hI (lv_sub hl [1, 0] rfl)
set_option maxRecDepth 100000 in
set_option maxHeartbeats 4000000 in
theorem w_X7_undo_b22 (hc : z_C p s m args meth c RX7 cX7_undo 2 (some .int)) {out : (Int32 × z_M)} : ∀ (n : Nat) (v1 : Int32) (M : z_M) (H : Heap) (locs : List Loc) (ls : Array Slot) (h : F_X7_undo_b22 n v1 M = some out) (hI : z_I G s M H locs) (hl : lv_has ls 2 [(0, .ref (z_ad G 21 0)), (1, .int v1)]), W p l e (z_rm 1) s m args below meth c H locs 0 0 (MQ below (z_Q G (some (.int out.1)) out.2) args s 0 0 (z_A G)) (F0 m 22 ls []) := by
  obtain ⟨⟨hx, hb, hml, hown, hts⟩, hr, hlk⟩ := id hc
  intro n
  induction n with
  | zero => intro v1 M H locs ls h; cases h
  | succ n ih =>
    intro v1 M H locs ls h hI hl
    rw [F_X7_undo_b22] at h
    refine lv_iload_n hx hb dX7_undo_22 rfl (lv_at hl 1 rfl) ?_
    refine lv_bipush (v := 49) hx hb dX7_undo_23 (by decide) ?_
    refine lv_icmp_ge (tgt := 54) hx hb dX7_undo_25 (by decide) (fun c2 => ?_) (fun c2 => ?_)
    · replace h := z_ift h c2
      refine lv_aload_n hx hb dX7_undo_54 rfl (lv_at hl 0 rfl) ?_
      refine gf_X7_142 hc hI dX7_undo_55 ?_
      obtain rfl := Option.some.inj h
      exact z_ri hc hI dX7_undo_58
    · replace h := z_iff h c2
      refine lv_aload_n hx hb dX7_undo_28 rfl (lv_at hl 0 rfl) ?_
      refine gf_X7_19 hc hI dX7_undo_29 ?_
      refine lv_iload_n hx hb dX7_undo_32 rfl (lv_at hl 1 rfl) ?_
      refine lv_aload_n hx hb dX7_undo_33 rfl (lv_at hl 0 rfl) ?_
      refine gf_X7_31 hc hI dX7_undo_34 ?_
      refine lv_bipush (v := 49) hx hb dX7_undo_37 (by decide) ?_
      refine lv_aload_n hx hb dX7_undo_39 rfl (lv_at hl 0 rfl) ?_
      refine gf_X7_142 hc hI dX7_undo_40 ?_
      refine lv_imul hx hb dX7_undo_43 ?_
      refine lv_iload_n hx hb dX7_undo_44 rfl (lv_at hl 1 rfl) ?_
      refine lv_iadd hx hb dX7_undo_45 ?_
      obtain ⟨g3, h⟩ := z_grd_some h
      refine ld_k29 hc hI g3 dX7_undo_46 ?_
      obtain ⟨g4, h⟩ := z_grd_some h
      refine st_k25 hc hI g4 dX7_undo_47 (fun H locs hI => ?_)
      refine lv_iinc (v := v1 + 1) (lv' := [(1, .int (v1 + 1)), (0, .ref (z_ad G 21 0))]) hx hb dX7_undo_48 hl (k := 1) rfl rfl (by decide) rfl (fun ls hl => ?_)
      refine lv_goto (tgt := 22) hx hb dX7_undo_51 (by decide) ?_
      exact ih (v1 + 1) _ _ _ _ h hI (lv_sub hl [1, 0] rfl)
set_option maxRecDepth 100000 in
set_option maxHeartbeats 4000000 in
theorem c_X7_undo {G : z_G} {l : Launch} {M : z_M} {out : (Int32 × z_M)} (h : F_X7_undo M = some out) : z_Met G l yX7_undo cX7_undo 2 (some .int) 1 [.ref (z_ad G 21 0)] M (some (.int out.1)) out.2 := by
  unfold F_X7_undo at h
  refine z_met_of (by decide) rfl (Nat.le_of_ble_eq_true rfl) (fun p e s m below meth c ls hc hI hl => ?_)
  obtain ⟨⟨hx, hb, hml, hown, hts⟩, hr, hlk⟩ := id hc
  have hl : lv_has ls 2 [(0, .ref (z_ad G 21 0))] := hl
  refine lv_aload_n hx hb dX7_undo_0 rfl (lv_at hl 0 rfl) ?_
  refine gf_X7_142 hc hI dX7_undo_1 ?_
  refine lv_if_ne (tgt := 10) hx hb dX7_undo_4 (by decide) (fun c1 => ?_) (fun c1 => ?_)
  · replace h := z_iff h c1
    refine lv_aload_n hx hb dX7_undo_10 rfl (lv_at hl 0 rfl) ?_
    refine lv_dup hx hb dX7_undo_11 rfl ?_
    refine gf_X7_142 hc hI dX7_undo_12 ?_
    refine lv_iconst (v := 1) hx hb dX7_undo_15 (by decide) ?_
    refine lv_isub hx hb dX7_undo_16 ?_
    refine pf_X7_142 hc hI dX7_undo_17 (fun H locs hI => ?_)
    refine lv_iconst (v := 0) hx hb dX7_undo_20 (by decide) ?_
    refine lv_istore_n (lv' := [(1, .int 0), (0, .ref (z_ad G 21 0))]) hx hb dX7_undo_21 rfl hl (by decide) rfl (fun ls hl => ?_)
    exact w_X7_undo_b22 hc _ 0 _ _ _ _ h hI (lv_sub hl [1, 0] rfl)
  · replace h := z_ift h c1
    refine lv_ldc (v := (-1000002)) hx hb hown (hts _ wd_5_88) dX7_undo_7 ?_
    obtain rfl := Option.some.inj h
    exact z_ri hc hI dX7_undo_9
set_option maxRecDepth 100000 in
set_option maxHeartbeats 4000000 in
theorem w_X7_allWorn_b4 {M : z_M} (hc : z_C p s m args meth c RX7 cX7_allWorn 3 (some .int)) {out : Int32} : ∀ (n : Nat) (v1 : Int32) (v2 : Int32) (H : Heap) (locs : List Loc) (ls : Array Slot) (h : F_X7_allWorn_b4 M n v1 v2 = some out) (hI : z_I G s M H locs) (hl : lv_has ls 3 [(0, .ref (z_ad G 21 0)), (1, .int v1), (2, .int v2)]), W p l e (z_rm 1) s m args below meth c H locs 0 0 (MQ below (z_Q G (some (.int out)) M) args s 0 0 (z_A G)) (F0 m 4 ls []) := by
  obtain ⟨⟨hx, hb, hml, hown, hts⟩, hr, hlk⟩ := id hc
  intro n
  induction n with
  | zero => intro v1 v2 H locs ls h; cases h
  | succ n ih =>
    intro v1 v2 H locs ls h hI hl
    rw [F_X7_allWorn_b4] at h
    refine lv_iload_n hx hb dX7_allWorn_4 rfl (lv_at hl 2 rfl) ?_
    refine lv_aload_n hx hb dX7_allWorn_5 rfl (lv_at hl 0 rfl) ?_
    refine gf_X7_19 hc hI dX7_allWorn_6 ?_
    refine lv_iconst (v := 0) hx hb dX7_allWorn_9 (by decide) ?_
    obtain ⟨g1, h⟩ := z_grd_some h
    refine ld_k25 hc hI g1 dX7_allWorn_10 ?_
    refine lv_icmp_ge (tgt := 32) hx hb dX7_allWorn_11 (by decide) (fun c2 => ?_) (fun c2 => ?_)
    · replace h := z_ift h c2
      refine lv_iload_n hx hb dX7_allWorn_32 rfl (lv_at hl 1 rfl) ?_
      obtain rfl := Option.some.inj h
      exact z_ri hc hI dX7_allWorn_33
    · replace h := z_iff h c2
      refine lv_iload_n hx hb dX7_allWorn_14 rfl (lv_at hl 1 rfl) ?_
      refine lv_aload_n hx hb dX7_allWorn_15 rfl (lv_at hl 0 rfl) ?_
      refine gf_X7_19 hc hI dX7_allWorn_16 ?_
      refine lv_bipush (v := 21) hx hb dX7_allWorn_19 (by decide) ?_
      refine lv_iload_n hx hb dX7_allWorn_21 rfl (lv_at hl 2 rfl) ?_
      refine lv_iadd hx hb dX7_allWorn_22 ?_
      obtain ⟨g3, h⟩ := z_grd_some h
      refine ld_k25 hc hI g3 dX7_allWorn_23 ?_
      refine lv_iadd hx hb dX7_allWorn_24 ?_
      refine z_nI h (fun x4 h => ?_)
      refine lv_istore_n (lv' := [(1, .int x4), (0, .ref (z_ad G 21 0)), (2, .int v2)]) hx hb dX7_allWorn_25 rfl hl (by decide) rfl (fun ls hl => ?_)
      refine lv_iinc (v := v2 + 1) (lv' := [(2, .int (v2 + 1)), (1, .int x4), (0, .ref (z_ad G 21 0))]) hx hb dX7_allWorn_26 hl (k := 2) rfl rfl (by decide) rfl (fun ls hl => ?_)
      refine lv_goto (tgt := 4) hx hb dX7_allWorn_29 (by decide) ?_
      exact ih x4 (v2 + 1) _ _ _ h hI (lv_sub hl [2, 1, 0] rfl)
set_option maxRecDepth 100000 in
set_option maxHeartbeats 4000000 in
theorem c_X7_allWorn {G : z_G} {l : Launch} {M : z_M} {out : Int32} (h : F_X7_allWorn M = some out) : z_Met G l yX7_allWorn cX7_allWorn 3 (some .int) 1 [.ref (z_ad G 21 0)] M (some (.int out)) M := by
  unfold F_X7_allWorn at h
  refine z_met_of (by decide) rfl (Nat.le_of_ble_eq_true rfl) (fun p e s m below meth c ls hc hI hl => ?_)
  obtain ⟨⟨hx, hb, hml, hown, hts⟩, hr, hlk⟩ := id hc
  have hl : lv_has ls 3 [(0, .ref (z_ad G 21 0))] := hl
  refine lv_iconst (v := 0) hx hb dX7_allWorn_0 (by decide) ?_
  refine lv_istore_n (lv' := [(1, .int 0), (0, .ref (z_ad G 21 0))]) hx hb dX7_allWorn_1 rfl hl (by decide) rfl (fun ls hl => ?_)
  refine lv_iconst (v := 0) hx hb dX7_allWorn_2 (by decide) ?_
  refine lv_istore_n (lv' := [(2, .int 0), (1, .int 0), (0, .ref (z_ad G 21 0))]) hx hb dX7_allWorn_3 rfl hl (by decide) rfl (fun ls hl => ?_)
  exact w_X7_allWorn_b4 hc _ 0 0 _ _ _ h hI (lv_sub hl [2, 1, 0] rfl)
set_option maxRecDepth 100000 in
set_option maxHeartbeats 4000000 in
theorem w_X7_days_b44 (hc : z_C p s m args meth c RX7 cX7_days 3 (some .int)) {out : (Int32 × z_M)} : ∀ (n : Nat) (v1 : Int32) (v2 : Int32) (M : z_M) (H : Heap) (locs : List Loc) (ls : Array Slot) (h : F_X7_days_b44 n v1 v2 M = some out) (hI : z_I G s M H locs) (hl : lv_has ls 3 [(0, .ref (z_ad G 21 0)), (1, .int v1), (2, .int v2)]), W p l e (z_rm 4) s m args below meth c H locs 0 0 (MQ below (z_Q G (some (.int out.1)) out.2) args s 0 0 (z_A G)) (F0 m 44 ls []) := by
  obtain ⟨⟨hx, hb, hml, hown, hts⟩, hr, hlk⟩ := id hc
  intro n
  induction n with
  | zero => intro v1 v2 M H locs ls h; cases h
  | succ n ih =>
    intro v1 v2 M H locs ls h hI hl
    rw [F_X7_days_b44] at h
    refine lv_iload_n hx hb dX7_days_44 rfl (lv_at hl 2 rfl) ?_
    refine lv_iload_n hx hb dX7_days_45 rfl (lv_at hl 1 rfl) ?_
    refine lv_icmp_ge (tgt := 63) hx hb dX7_days_46 (by decide) (fun c7 => ?_) (fun c7 => ?_)
    · replace h := z_ift h c7
      refine lv_aload_n hx hb dX7_days_63 rfl (lv_at hl 0 rfl) ?_
      obtain ⟨q8, e9, h⟩ := z_bnd h
      refine iv_X7_181 hc hI (c_X7_allWorn e9) (z_room (by decide) (by decide)) hl.1 (Nat.le_of_ble_eq_true rfl) ⟨Nat.zero_le _, Nat.zero_le _⟩ dX7_days_64 (fun H locs hI => ?_)
      obtain rfl := Option.some.inj h
      exact z_ri hc hI dX7_days_67
    · replace h := z_iff h c7
      refine lv_aload_n hx hb dX7_days_49 rfl (lv_at hl 0 rfl) ?_
      obtain ⟨q10, e11, h⟩ := z_bnd h
      refine iv_X7_175 hc hI (c_X7_note e11) (z_room (by decide) (by decide)) hl.1 (Nat.le_of_ble_eq_true rfl) ⟨Nat.zero_le _, Nat.zero_le _⟩ dX7_days_50 (fun H locs hI => ?_)
      refine lv_aload_n hx hb dX7_days_53 rfl (lv_at hl 0 rfl) ?_
      obtain ⟨q12, e13, h⟩ := z_bnd h
      refine iv_X7_178 hc hI (c_X7_oneDay e13) (z_room (by decide) (by decide)) hl.1 (Nat.le_of_ble_eq_true rfl) ⟨Nat.zero_le _, Nat.zero_le _⟩ dX7_days_54 (fun H locs hI => ?_)
      refine lv_iinc (v := v2 + 1) (lv' := [(2, .int (v2 + 1)), (0, .ref (z_ad G 21 0)), (1, .int v1)]) hx hb dX7_days_57 hl (k := 2) rfl rfl (by decide) rfl (fun ls hl => ?_)
      refine lv_goto (tgt := 44) hx hb dX7_days_60 (by decide) ?_
      exact ih v1 (v2 + 1) _ _ _ _ h hI (lv_sub hl [1, 2, 0] rfl)
set_option maxRecDepth 100000 in
set_option maxHeartbeats 4000000 in
theorem c_X7_days {G : z_G} {l : Launch} {a1 : Int32} {M : z_M} {out : (Int32 × z_M)} (h : F_X7_days a1 M = some out) : z_Met G l yX7_days cX7_days 3 (some .int) 4 [.ref (z_ad G 21 0), .int a1] M (some (.int out.1)) out.2 := by
  unfold F_X7_days at h
  refine z_met_of (by decide) rfl (Nat.le_of_ble_eq_true rfl) (fun p e s m below meth c ls hc hI hl => ?_)
  obtain ⟨⟨hx, hb, hml, hown, hts⟩, hr, hlk⟩ := id hc
  have hl : lv_has ls 3 [(0, .ref (z_ad G 21 0)), (1, .int a1)] := hl
  refine lv_aload_n hx hb dX7_days_0 rfl (lv_at hl 0 rfl) ?_
  refine gf_X7_138 hc hI dX7_days_1 ?_
  refine lv_if_ne (tgt := 10) hx hb dX7_days_4 (by decide) (fun c1 => ?_) (fun c1 => ?_)
  · replace h := z_iff h c1
    refine lv_iload_n hx hb dX7_days_10 rfl (lv_at hl 1 rfl) ?_
    refine lv_i2l (v := a1.toInt64) hx hb dX7_days_11 rfl ?_
    refine lv_lconst (v := 1) hx hb dX7_days_12 (by decide) ?_
    refine lv_ldc2 (v := 24) hx hb hown (hts _ wd_5_93) dX7_days_13 ?_
    obtain ⟨q2, e3, h⟩ := z_bnd h
    refine iv_X7_54 hc hI (c_X7_in e3) (z_room (by decide) (by decide)) hl.1 (Nat.le_of_ble_eq_true rfl) ⟨Nat.zero_le _, Nat.zero_le _⟩ dX7_days_16 (fun H locs hI => ?_)
    refine lv_if_ne (tgt := 25) hx hb dX7_days_19 (by decide) (fun c4 => ?_) (fun c4 => ?_)
    · replace h := z_iff h c4
      refine lv_aload_n hx hb dX7_days_25 rfl (lv_at hl 0 rfl) ?_
      refine gf_X7_19 hc hI dX7_days_26 ?_
      refine lv_iconst (v := 4) hx hb dX7_days_29 (by decide) ?_
      obtain ⟨g5, h⟩ := z_grd_some h
      refine ld_k25 hc hI g5 dX7_days_30 ?_
      refine lv_iload_n hx hb dX7_days_31 rfl (lv_at hl 1 rfl) ?_
      refine lv_iadd hx hb dX7_days_32 ?_
      refine lv_sipush (v := 999) hx hb dX7_days_33 (by decide) ?_
      refine lv_icmp_le (tgt := 42) hx hb dX7_days_36 (by decide) (fun c6 => ?_) (fun c6 => ?_)
      · replace h := z_ift h c6
        refine lv_iconst (v := 0) hx hb dX7_days_42 (by decide) ?_
        refine lv_istore_n (lv' := [(2, .int 0), (0, .ref (z_ad G 21 0)), (1, .int a1)]) hx hb dX7_days_43 rfl hl (by decide) rfl (fun ls hl => ?_)
        exact w_X7_days_b44 hc _ a1 0 _ _ _ _ h hI (lv_sub hl [1, 2, 0] rfl)
      · replace h := z_iff h c6
        refine lv_ldc (v := (-1000003)) hx hb hown (hts _ wd_5_35) dX7_days_39 ?_
        obtain rfl := Option.some.inj h
        exact z_ri hc hI dX7_days_41
    · replace h := z_ift h c4
      refine lv_ldc (v := (-1000001)) hx hb hown (hts _ wd_5_5) dX7_days_22 ?_
      obtain rfl := Option.some.inj h
      exact z_ri hc hI dX7_days_24
  · replace h := z_ift h c1
    refine lv_ldc (v := (-1000002)) hx hb hown (hts _ wd_5_88) dX7_days_7 ?_
    obtain rfl := Option.some.inj h
    exact z_ri hc hI dX7_days_9
set_option maxRecDepth 100000 in
set_option maxHeartbeats 4000000 in
theorem c_X7_planeTo {G : z_G} {l : Launch} {a1 : Int32} {a2 : Int32} {M : z_M} {out : z_M} (h : F_X7_planeTo a1 a2 M = some out) : z_Met G l yX7_planeTo cX7_planeTo 3 none 1 [.ref (z_ad G 21 0), .int a1, .int a2] M (none) out := by
  unfold F_X7_planeTo at h
  refine z_met_of (by decide) rfl (Nat.le_of_ble_eq_true rfl) (fun p e s m below meth c ls hc hI hl => ?_)
  obtain ⟨⟨hx, hb, hml, hown, hts⟩, hr, hlk⟩ := id hc
  have hl : lv_has ls 3 [(0, .ref (z_ad G 21 0)), (1, .int a1), (2, .int a2)] := hl
  refine lv_aload_n hx hb dX7_planeTo_0 rfl (lv_at hl 0 rfl) ?_
  refine gf_X7_19 hc hI dX7_planeTo_1 ?_
  refine lv_bipush (v := 13) hx hb dX7_planeTo_4 (by decide) ?_
  refine lv_iload_n hx hb dX7_planeTo_6 rfl (lv_at hl 1 rfl) ?_
  refine lv_iadd hx hb dX7_planeTo_7 ?_
  refine lv_iload_n hx hb dX7_planeTo_8 rfl (lv_at hl 2 rfl) ?_
  obtain ⟨g1, h⟩ := z_grd_some h
  refine st_k25 hc hI g1 dX7_planeTo_9 (fun H locs hI => ?_)
  refine lv_aload_n hx hb dX7_planeTo_10 rfl (lv_at hl 0 rfl) ?_
  refine gf_X7_19 hc hI dX7_planeTo_11 ?_
  refine lv_bipush (v := 21) hx hb dX7_planeTo_14 (by decide) ?_
  refine lv_iload_n hx hb dX7_planeTo_16 rfl (lv_at hl 1 rfl) ?_
  refine lv_iadd hx hb dX7_planeTo_17 ?_
  refine lv_iconst (v := 0) hx hb dX7_planeTo_18 (by decide) ?_
  obtain ⟨g2, h⟩ := z_grd_some h
  obtain ⟨M3, h, hI⟩ := z_nM h hI
  refine st_k25 hc hI g2 dX7_planeTo_19 (fun H locs hI => ?_)
  obtain rfl := Option.some.inj h
  exact z_rv hc hI dX7_planeTo_20
set_option maxRecDepth 100000 in
set_option maxHeartbeats 4000000 in
theorem c_X7_plane {G : z_G} {l : Launch} {a1 : Int32} {a2 : Int32} {M : z_M} {out : (Int32 × z_M)} (h : F_X7_plane a1 a2 M = some out) : z_Met G l yX7_plane cX7_plane 4 (some .int) 3 [.ref (z_ad G 21 0), .int a1, .int a2] M (some (.int out.1)) out.2 := by
  unfold F_X7_plane at h
  refine z_met_of (by decide) rfl (Nat.le_of_ble_eq_true rfl) (fun p e s m below meth c ls hc hI hl => ?_)
  obtain ⟨⟨hx, hb, hml, hown, hts⟩, hr, hlk⟩ := id hc
  have hl : lv_has ls 4 [(0, .ref (z_ad G 21 0)), (1, .int a1), (2, .int a2)] := hl
  refine lv_aload_n hx hb dX7_plane_0 rfl (lv_at hl 0 rfl) ?_
  refine lv_iload_n hx hb dX7_plane_1 rfl (lv_at hl 1 rfl) ?_
  obtain ⟨q1, e2, h⟩ := z_bnd h
  refine iv_X7_185 hc hI (c_X7_isTread e2) (z_room (by decide) (by decide)) hl.1 (Nat.le_of_ble_eq_true rfl) ⟨Nat.zero_le _, Nat.zero_le _⟩ dX7_plane_2 (fun H locs hI => ?_)
  refine lv_if_eq (tgt := 20) hx hb dX7_plane_5 (by decide) (fun c3 => ?_) (fun c3 => ?_)
  · replace h := z_ift h c3
    refine lv_ldc (v := (-1000001)) hx hb hown (hts _ wd_5_5) dX7_plane_20 ?_
    obtain rfl := Option.some.inj h
    exact z_ri hc hI dX7_plane_22
  · replace h := z_iff h c3
    refine lv_iload_n hx hb dX7_plane_8 rfl (lv_at hl 2 rfl) ?_
    refine lv_i2l (v := a2.toInt64) hx hb dX7_plane_9 rfl ?_
    refine lv_lconst (v := 0) hx hb dX7_plane_10 (by decide) ?_
    refine lv_ldc2 (v := 9) hx hb hown (hts _ wd_5_125) dX7_plane_11 ?_
    obtain ⟨q4, e5, h⟩ := z_bnd h
    refine iv_X7_54 hc hI (c_X7_in e5) (z_room (by decide) (by decide)) hl.1 (Nat.le_of_ble_eq_true rfl) ⟨Nat.zero_le _, Nat.zero_le _⟩ dX7_plane_14 (fun H locs hI => ?_)
    refine lv_if_ne (tgt := 23) hx hb dX7_plane_17 (by decide) (fun c6 => ?_) (fun c6 => ?_)
    · replace h := z_iff h c6
      refine lv_aload_n hx hb dX7_plane_23 rfl (lv_at hl 0 rfl) ?_
      obtain ⟨q7, e8, h⟩ := z_bnd h
      refine iv_X7_175 hc hI (c_X7_note e8) (z_room (by decide) (by decide)) hl.1 (Nat.le_of_ble_eq_true rfl) ⟨Nat.zero_le _, Nat.zero_le _⟩ dX7_plane_24 (fun H locs hI => ?_)
      refine lv_aload_n hx hb dX7_plane_27 rfl (lv_at hl 0 rfl) ?_
      refine lv_iload_n hx hb dX7_plane_28 rfl (lv_at hl 1 rfl) ?_
      obtain ⟨q9, e10, h⟩ := z_bnd h
      refine iv_X7_160 hc hI (c_X7_toneOf e10) (z_room (by decide) (by decide)) hl.1 (Nat.le_of_ble_eq_true rfl) ⟨Nat.zero_le _, Nat.zero_le _⟩ dX7_plane_29 (fun H locs hI => ?_)
      refine lv_istore_n (lv' := [(3, .int q9), (0, .ref (z_ad G 21 0)), (1, .int a1), (2, .int a2)]) hx hb dX7_plane_32 rfl hl (by decide) rfl (fun ls hl => ?_)
      refine lv_aload_n hx hb dX7_plane_33 rfl (lv_at hl 1 rfl) ?_
      refine lv_iload_n hx hb dX7_plane_34 rfl (lv_at hl 2 rfl) ?_
      refine lv_iload_n hx hb dX7_plane_35 rfl (lv_at hl 3 rfl) ?_
      obtain ⟨q11, e12, h⟩ := z_bnd h
      refine iv_X7_190 hc hI (c_X7_planeTo e12) (z_room (by decide) (by decide)) hl.1 (Nat.le_of_ble_eq_true rfl) ⟨Nat.zero_le _, Nat.zero_le _⟩ dX7_plane_36 (fun H locs hI => ?_)
      refine lv_iload_n hx hb dX7_plane_39 rfl (lv_at hl 0 rfl) ?_
      obtain rfl := Option.some.inj h
      exact z_ri hc hI dX7_plane_40
    · replace h := z_ift h c6
      refine lv_ldc (v := (-1000001)) hx hb hown (hts _ wd_5_5) dX7_plane_20 ?_
      obtain rfl := Option.some.inj h
      exact z_ri hc hI dX7_plane_22
set_option maxRecDepth 100000 in
set_option maxHeartbeats 4000000 in
theorem c_X7_reach {G : z_G} {l : Launch} {a1 : Int32} {M : z_M} {out : (Int32 × z_M)} (h : F_X7_reach a1 M = some out) : z_Met G l yX7_reach cX7_reach 3 (some .int) 2 [.ref (z_ad G 21 0), .int a1] M (some (.int out.1)) out.2 := by
  unfold F_X7_reach at h
  refine z_met_of (by decide) rfl (Nat.le_of_ble_eq_true rfl) (fun p e s m below meth c ls hc hI hl => ?_)
  obtain ⟨⟨hx, hb, hml, hown, hts⟩, hr, hlk⟩ := id hc
  have hl : lv_has ls 3 [(0, .ref (z_ad G 21 0)), (1, .int a1)] := hl
  refine lv_aload_n hx hb dX7_reach_0 rfl (lv_at hl 0 rfl) ?_
  refine gf_X7_138 hc hI dX7_reach_1 ?_
  refine lv_if_ne (tgt := 10) hx hb dX7_reach_4 (by decide) (fun c1 => ?_) (fun c1 => ?_)
  · replace h := z_iff h c1
    refine lv_iload_n hx hb dX7_reach_10 rfl (lv_at hl 1 rfl) ?_
    refine lv_i2l (v := a1.toInt64) hx hb dX7_reach_11 rfl ?_
    refine lv_lconst (v := 0) hx hb dX7_reach_12 (by decide) ?_
    refine lv_ldc2 (v := 9) hx hb hown (hts _ wd_5_125) dX7_reach_13 ?_
    obtain ⟨q2, e3, h⟩ := z_bnd h
    refine iv_X7_54 hc hI (c_X7_in e3) (z_room (by decide) (by decide)) hl.1 (Nat.le_of_ble_eq_true rfl) ⟨Nat.zero_le _, Nat.zero_le _⟩ dX7_reach_16 (fun H locs hI => ?_)
    refine lv_if_ne (tgt := 25) hx hb dX7_reach_19 (by decide) (fun c4 => ?_) (fun c4 => ?_)
    · replace h := z_iff h c4
      refine lv_aload_n hx hb dX7_reach_25 rfl (lv_at hl 0 rfl) ?_
      obtain ⟨q5, e6, h⟩ := z_bnd h
      refine iv_X7_175 hc hI (c_X7_note e6) (z_room (by decide) (by decide)) hl.1 (Nat.le_of_ble_eq_true rfl) ⟨Nat.zero_le _, Nat.zero_le _⟩ dX7_reach_26 (fun H locs hI => ?_)
      refine lv_aload_n hx hb dX7_reach_29 rfl (lv_at hl 0 rfl) ?_
      refine gf_X7_19 hc hI dX7_reach_30 ?_
      refine lv_iconst (v := 3) hx hb dX7_reach_33 (by decide) ?_
      obtain ⟨g7, h⟩ := z_grd_some h
      refine ld_k25 hc hI g7 dX7_reach_34 ?_
      refine z_nI h (fun x8 h => ?_)
      refine lv_istore_n (lv' := [(2, .int x8), (0, .ref (z_ad G 21 0)), (1, .int a1)]) hx hb dX7_reach_35 rfl hl (by decide) rfl (fun ls hl => ?_)
      refine lv_aload_n hx hb dX7_reach_36 rfl (lv_at hl 1 rfl) ?_
      refine gf_X7_19 hc hI dX7_reach_37 ?_
      refine lv_iconst (v := 3) hx hb dX7_reach_40 (by decide) ?_
      refine lv_iload_n hx hb dX7_reach_41 rfl (lv_at hl 2 rfl) ?_
      obtain ⟨g9, h⟩ := z_grd_some h
      refine st_k25 hc hI g9 dX7_reach_42 (fun H locs hI => ?_)
      refine lv_iload_n hx hb dX7_reach_43 rfl (lv_at hl 0 rfl) ?_
      obtain rfl := Option.some.inj h
      exact z_ri hc hI dX7_reach_44
    · replace h := z_ift h c4
      refine lv_ldc (v := (-1000001)) hx hb hown (hts _ wd_5_5) dX7_reach_22 ?_
      obtain rfl := Option.some.inj h
      exact z_ri hc hI dX7_reach_24
  · replace h := z_ift h c1
    refine lv_ldc (v := (-1000002)) hx hb hown (hts _ wd_5_88) dX7_reach_7 ?_
    obtain rfl := Option.some.inj h
    exact z_ri hc hI dX7_reach_9
set_option maxRecDepth 100000 in
set_option maxHeartbeats 4000000 in
theorem c_X7_way {G : z_G} {l : Launch} {a1 : Int32} {a2 : Int32} {a3 : Int32} {M : z_M} {out : (Int32 × z_M)} (h : F_X7_way a1 a2 a3 M = some out) : z_Met G l yX7_way cX7_way 4 (some .int) 3 [.ref (z_ad G 21 0), .int a1, .int a2, .int a3] M (some (.int out.1)) out.2 := by
  unfold F_X7_way at h
  refine z_met_of (by decide) rfl (Nat.le_of_ble_eq_true rfl) (fun p e s m below meth c ls hc hI hl => ?_)
  obtain ⟨⟨hx, hb, hml, hown, hts⟩, hr, hlk⟩ := id hc
  have hl : lv_has ls 4 [(0, .ref (z_ad G 21 0)), (1, .int a1), (2, .int a2), (3, .int a3)] := hl
  refine lv_aload_n hx hb dX7_way_0 rfl (lv_at hl 0 rfl) ?_
  refine lv_iload_n hx hb dX7_way_1 rfl (lv_at hl 1 rfl) ?_
  obtain ⟨q1, e2, h⟩ := z_bnd h
  refine iv_X7_194 hc hI (c_X7_isWalker e2) (z_room (by decide) (by decide)) hl.1 (Nat.le_of_ble_eq_true rfl) ⟨Nat.zero_le _, Nat.zero_le _⟩ dX7_way_2 (fun H locs hI => ?_)
  refine lv_if_eq (tgt := 24) hx hb dX7_way_5 (by decide) (fun c3 => ?_) (fun c3 => ?_)
  · replace h := z_ift h c3
    refine lv_ldc (v := (-1000001)) hx hb hown (hts _ wd_5_5) dX7_way_24 ?_
    obtain rfl := Option.some.inj h
    exact z_ri hc hI dX7_way_26
  · replace h := z_iff h c3
    refine lv_aload_n hx hb dX7_way_8 rfl (lv_at hl 0 rfl) ?_
    refine lv_iload_n hx hb dX7_way_9 rfl (lv_at hl 2 rfl) ?_
    obtain ⟨q4, e5, h⟩ := z_bnd h
    refine iv_X7_185 hc hI (c_X7_isTread e5) (z_room (by decide) (by decide)) hl.1 (Nat.le_of_ble_eq_true rfl) ⟨Nat.zero_le _, Nat.zero_le _⟩ dX7_way_10 (fun H locs hI => ?_)
    refine lv_if_eq (tgt := 24) hx hb dX7_way_13 (by decide) (fun c6 => ?_) (fun c6 => ?_)
    · replace h := z_ift h c6
      refine lv_ldc (v := (-1000001)) hx hb hown (hts _ wd_5_5) dX7_way_24 ?_
      obtain rfl := Option.some.inj h
      exact z_ri hc hI dX7_way_26
    · replace h := z_iff h c6
      refine lv_aload_n hx hb dX7_way_16 rfl (lv_at hl 0 rfl) ?_
      refine lv_iload_n hx hb dX7_way_17 rfl (lv_at hl 3 rfl) ?_
      obtain ⟨q7, e8, h⟩ := z_bnd h
      refine iv_X7_185 hc hI (c_X7_isTread e8) (z_room (by decide) (by decide)) hl.1 (Nat.le_of_ble_eq_true rfl) ⟨Nat.zero_le _, Nat.zero_le _⟩ dX7_way_18 (fun H locs hI => ?_)
      refine lv_if_ne (tgt := 27) hx hb dX7_way_21 (by decide) (fun c9 => ?_) (fun c9 => ?_)
      · replace h := z_iff h c9
        refine lv_aload_n hx hb dX7_way_27 rfl (lv_at hl 0 rfl) ?_
        obtain ⟨q10, e11, h⟩ := z_bnd h
        refine iv_X7_175 hc hI (c_X7_note e11) (z_room (by decide) (by decide)) hl.1 (Nat.le_of_ble_eq_true rfl) ⟨Nat.zero_le _, Nat.zero_le _⟩ dX7_way_28 (fun H locs hI => ?_)
        refine lv_aload_n hx hb dX7_way_31 rfl (lv_at hl 0 rfl) ?_
        refine gf_X7_19 hc hI dX7_way_32 ?_
        refine lv_bipush (v := 29) hx hb dX7_way_35 (by decide) ?_
        refine lv_iload_n hx hb dX7_way_37 rfl (lv_at hl 1 rfl) ?_
        refine lv_iadd hx hb dX7_way_38 ?_
        refine lv_iload_n hx hb dX7_way_39 rfl (lv_at hl 2 rfl) ?_
        obtain ⟨g12, h⟩ := z_grd_some h
        refine st_k25 hc hI g12 dX7_way_40 (fun H locs hI => ?_)
        refine lv_aload_n hx hb dX7_way_41 rfl (lv_at hl 0 rfl) ?_
        refine gf_X7_19 hc hI dX7_way_42 ?_
        refine lv_bipush (v := 34) hx hb dX7_way_45 (by decide) ?_
        refine lv_iload_n hx hb dX7_way_47 rfl (lv_at hl 1 rfl) ?_
        refine lv_iadd hx hb dX7_way_48 ?_
        refine lv_iload_n hx hb dX7_way_49 rfl (lv_at hl 3 rfl) ?_
        obtain ⟨g13, h⟩ := z_grd_some h
        obtain ⟨M14, h, hI⟩ := z_nM h hI
        refine st_k25 hc hI g13 dX7_way_50 (fun H locs hI => ?_)
        refine lv_aload_n hx hb dX7_way_51 rfl (lv_at hl 0 rfl) ?_
        refine lv_iload_n hx hb dX7_way_52 rfl (lv_at hl 1 rfl) ?_
        obtain ⟨q15, e16, h⟩ := z_bnd h
        refine iv_X7_150 hc hI (c_X7_longOf e16) (z_room (by decide) (by decide)) hl.1 (Nat.le_of_ble_eq_true rfl) ⟨Nat.zero_le _, Nat.zero_le _⟩ dX7_way_53 (fun H locs hI => ?_)
        obtain rfl := Option.some.inj h
        exact z_ri hc hI dX7_way_56
      · replace h := z_ift h c9
        refine lv_ldc (v := (-1000001)) hx hb hown (hts _ wd_5_5) dX7_way_24 ?_
        obtain rfl := Option.some.inj h
        exact z_ri hc hI dX7_way_26
set_option maxRecDepth 100000 in
set_option maxHeartbeats 4000000 in
theorem c_X7_gait {G : z_G} {l : Launch} {a1 : Int32} {a2 : Int32} {a3 : Int32} {M : z_M} {out : (Int32 × z_M)} (h : F_X7_gait a1 a2 a3 M = some out) : z_Met G l yX7_gait cX7_gait 4 (some .int) 3 [.ref (z_ad G 21 0), .int a1, .int a2, .int a3] M (some (.int out.1)) out.2 := by
  unfold F_X7_gait at h
  refine z_met_of (by decide) rfl (Nat.le_of_ble_eq_true rfl) (fun p e s m below meth c ls hc hI hl => ?_)
  obtain ⟨⟨hx, hb, hml, hown, hts⟩, hr, hlk⟩ := id hc
  have hl : lv_has ls 4 [(0, .ref (z_ad G 21 0)), (1, .int a1), (2, .int a2), (3, .int a3)] := hl
  refine lv_aload_n hx hb dX7_gait_0 rfl (lv_at hl 0 rfl) ?_
  refine lv_iload_n hx hb dX7_gait_1 rfl (lv_at hl 1 rfl) ?_
  obtain ⟨q1, e2, h⟩ := z_bnd h
  refine iv_X7_194 hc hI (c_X7_isWalker e2) (z_room (by decide) (by decide)) hl.1 (Nat.le_of_ble_eq_true rfl) ⟨Nat.zero_le _, Nat.zero_le _⟩ dX7_gait_2 (fun H locs hI => ?_)
  refine lv_if_eq (tgt := 32) hx hb dX7_gait_5 (by decide) (fun c3 => ?_) (fun c3 => ?_)
  · replace h := z_ift h c3
    refine lv_ldc (v := (-1000001)) hx hb hown (hts _ wd_5_5) dX7_gait_32 ?_
    obtain rfl := Option.some.inj h
    exact z_ri hc hI dX7_gait_34
  · replace h := z_iff h c3
    refine lv_iload_n hx hb dX7_gait_8 rfl (lv_at hl 2 rfl) ?_
    refine lv_i2l (v := a2.toInt64) hx hb dX7_gait_9 rfl ?_
    refine lv_lconst (v := 1) hx hb dX7_gait_10 (by decide) ?_
    refine lv_ldc2 (v := 3) hx hb hown (hts _ wd_5_150) dX7_gait_11 ?_
    obtain ⟨q4, e5, h⟩ := z_bnd h
    refine iv_X7_54 hc hI (c_X7_in e5) (z_room (by decide) (by decide)) hl.1 (Nat.le_of_ble_eq_true rfl) ⟨Nat.zero_le _, Nat.zero_le _⟩ dX7_gait_14 (fun H locs hI => ?_)
    refine lv_if_eq (tgt := 32) hx hb dX7_gait_17 (by decide) (fun c6 => ?_) (fun c6 => ?_)
    · replace h := z_ift h c6
      refine lv_ldc (v := (-1000001)) hx hb hown (hts _ wd_5_5) dX7_gait_32 ?_
      obtain rfl := Option.some.inj h
      exact z_ri hc hI dX7_gait_34
    · replace h := z_iff h c6
      refine lv_iload_n hx hb dX7_gait_20 rfl (lv_at hl 3 rfl) ?_
      refine lv_i2l (v := a3.toInt64) hx hb dX7_gait_21 rfl ?_
      refine lv_lconst (v := 0) hx hb dX7_gait_22 (by decide) ?_
      refine lv_ldc2 (v := 20) hx hb hown (hts _ wd_5_151) dX7_gait_23 ?_
      obtain ⟨q7, e8, h⟩ := z_bnd h
      refine iv_X7_54 hc hI (c_X7_in e8) (z_room (by decide) (by decide)) hl.1 (Nat.le_of_ble_eq_true rfl) ⟨Nat.zero_le _, Nat.zero_le _⟩ dX7_gait_26 (fun H locs hI => ?_)
      refine lv_if_ne (tgt := 35) hx hb dX7_gait_29 (by decide) (fun c9 => ?_) (fun c9 => ?_)
      · replace h := z_iff h c9
        refine lv_aload_n hx hb dX7_gait_35 rfl (lv_at hl 0 rfl) ?_
        obtain ⟨q10, e11, h⟩ := z_bnd h
        refine iv_X7_175 hc hI (c_X7_note e11) (z_room (by decide) (by decide)) hl.1 (Nat.le_of_ble_eq_true rfl) ⟨Nat.zero_le _, Nat.zero_le _⟩ dX7_gait_36 (fun H locs hI => ?_)
        refine lv_aload_n hx hb dX7_gait_39 rfl (lv_at hl 0 rfl) ?_
        refine gf_X7_19 hc hI dX7_gait_40 ?_
        refine lv_bipush (v := 39) hx hb dX7_gait_43 (by decide) ?_
        refine lv_iload_n hx hb dX7_gait_45 rfl (lv_at hl 1 rfl) ?_
        refine lv_iadd hx hb dX7_gait_46 ?_
        refine lv_iload_n hx hb dX7_gait_47 rfl (lv_at hl 2 rfl) ?_
        obtain ⟨g12, h⟩ := z_grd_some h
        refine st_k25 hc hI g12 dX7_gait_48 (fun H locs hI => ?_)
        refine lv_aload_n hx hb dX7_gait_49 rfl (lv_at hl 0 rfl) ?_
        refine gf_X7_19 hc hI dX7_gait_50 ?_
        refine lv_bipush (v := 44) hx hb dX7_gait_53 (by decide) ?_
        refine lv_iload_n hx hb dX7_gait_55 rfl (lv_at hl 1 rfl) ?_
        refine lv_iadd hx hb dX7_gait_56 ?_
        refine lv_iload_n hx hb dX7_gait_57 rfl (lv_at hl 3 rfl) ?_
        obtain ⟨g13, h⟩ := z_grd_some h
        obtain ⟨M14, h, hI⟩ := z_nM h hI
        refine st_k25 hc hI g13 dX7_gait_58 (fun H locs hI => ?_)
        refine lv_aload_n hx hb dX7_gait_59 rfl (lv_at hl 0 rfl) ?_
        refine lv_iload_n hx hb dX7_gait_60 rfl (lv_at hl 1 rfl) ?_
        obtain ⟨q15, e16, h⟩ := z_bnd h
        refine iv_X7_150 hc hI (c_X7_longOf e16) (z_room (by decide) (by decide)) hl.1 (Nat.le_of_ble_eq_true rfl) ⟨Nat.zero_le _, Nat.zero_le _⟩ dX7_gait_61 (fun H locs hI => ?_)
        obtain rfl := Option.some.inj h
        exact z_ri hc hI dX7_gait_64
      · replace h := z_ift h c9
        refine lv_ldc (v := (-1000001)) hx hb hown (hts _ wd_5_5) dX7_gait_32 ?_
        obtain rfl := Option.some.inj h
        exact z_ri hc hI dX7_gait_34
set_option maxRecDepth 100000 in
set_option maxHeartbeats 4000000 in
theorem w_X7_whoSteps_b46 {M : z_M} (hc : z_C p s m args meth c RX7 cX7_whoSteps 5 (some .int)) {out : Int32} {K4 : Int32 → Int32 → Int32 → Option Int32} (hK4 : ∀ (v1 : Int32) (v2 : Int32) (v3 : Int32) (H : Heap) (locs : List Loc) (ls : Array Slot), K4 v1 v2 v3 = some out → z_I G s M H locs → lv_has ls 5 [(0, .ref (z_ad G 21 0)), (1, .int v1), (2, .int v2), (3, .int v3)] → W p l e (z_rm 3) s m args below meth c H locs 0 0 (MQ below (z_Q G (some (.int out)) M) args s 0 0 (z_A G)) (F0 m 4 ls [])) {K17 : Int32 → Int32 → Int32 → Int32 → Option Int32} (hK17 : ∀ (v1 : Int32) (v2 : Int32) (v3 : Int32) (v4 : Int32) (H : Heap) (locs : List Loc) (ls : Array Slot), K17 v1 v2 v3 v4 = some out → z_I G s M H locs → lv_has ls 5 [(0, .ref (z_ad G 21 0)), (1, .int v1), (2, .int v2), (3, .int v3), (4, .int v4)] → W p l e (z_rm 3) s m args below meth c H locs 0 0 (MQ below (z_Q G (some (.int out)) M) args s 0 0 (z_A G)) (F0 m 17 ls [])) (v1 : Int32) (v3 : Int32) (v4 : Int32) (s0 : Int32) (s1 : Int32) (H : Heap) (locs : List Loc) (ls : Array Slot) (h : F_X7_whoSteps_b46 M K4 K17 v1 v3 v4 s0 s1 = some out) (hI : z_I G s M H locs) (hl : lv_has ls 5 [(0, .ref (z_ad G 21 0)), (1, .int v1), (3, .int v3), (4, .int v4)]) : W p l e (z_rm 3) s m args below meth c H locs 0 0 (MQ below (z_Q G (some (.int out)) M) args s 0 0 (z_A G)) (F0 m 46 ls [.int s0, .int s1]) := by
  obtain ⟨⟨hx, hb, hml, hown, hts⟩, hr, hlk⟩ := id hc
  unfold F_X7_whoSteps_b46 at h
  refine lv_ior hx hb dX7_whoSteps_46 ?_
  refine z_nI h (fun x9 h => ?_)
  refine lv_istore_n (lv' := [(2, .int x9), (0, .ref (z_ad G 21 0)), (1, .int v1), (3, .int v3), (4, .int v4)]) hx hb dX7_whoSteps_47 rfl hl (by decide) rfl (fun ls hl => ?_)
  refine lv_iinc (v := v4 + 1) (lv' := [(4, .int (v4 + 1)), (2, .int x9), (0, .ref (z_ad G 21 0)), (1, .int v1), (3, .int v3)]) hx hb dX7_whoSteps_48 hl (k := 4) rfl rfl (by decide) rfl (fun ls hl => ?_)
  refine lv_goto (tgt := 17) hx hb dX7_whoSteps_51 (by decide) ?_
  exact hK17 v1 x9 v3 (v4 + 1) _ _ _ h hI (lv_sub hl [2, 3, 1, 4, 0] rfl)
set_option maxRecDepth 100000 in
set_option maxHeartbeats 4000000 in
theorem w_X7_whoSteps_b17 {M : z_M} (hc : z_C p s m args meth c RX7 cX7_whoSteps 5 (some .int)) {out : Int32} {K4 : Int32 → Int32 → Int32 → Option Int32} (hK4 : ∀ (v1 : Int32) (v2 : Int32) (v3 : Int32) (H : Heap) (locs : List Loc) (ls : Array Slot), K4 v1 v2 v3 = some out → z_I G s M H locs → lv_has ls 5 [(0, .ref (z_ad G 21 0)), (1, .int v1), (2, .int v2), (3, .int v3)] → W p l e (z_rm 3) s m args below meth c H locs 0 0 (MQ below (z_Q G (some (.int out)) M) args s 0 0 (z_A G)) (F0 m 4 ls [])) : ∀ (n : Nat) (v1 : Int32) (v2 : Int32) (v3 : Int32) (v4 : Int32) (H : Heap) (locs : List Loc) (ls : Array Slot) (h : F_X7_whoSteps_b17 M K4 n v1 v2 v3 v4 = some out) (hI : z_I G s M H locs) (hl : lv_has ls 5 [(0, .ref (z_ad G 21 0)), (1, .int v1), (2, .int v2), (3, .int v3), (4, .int v4)]), W p l e (z_rm 3) s m args below meth c H locs 0 0 (MQ below (z_Q G (some (.int out)) M) args s 0 0 (z_A G)) (F0 m 17 ls []) := by
  obtain ⟨⟨hx, hb, hml, hown, hts⟩, hr, hlk⟩ := id hc
  intro n
  induction n with
  | zero => intro v1 v2 v3 v4 H locs ls h; cases h
  | succ n ih =>
    intro v1 v2 v3 v4 H locs ls h hI hl
    rw [F_X7_whoSteps_b17] at h
    refine lv_iload hx hb dX7_whoSteps_17 (lv_at hl 4 rfl) ?_
    refine lv_aload_n hx hb dX7_whoSteps_19 rfl (lv_at hl 0 rfl) ?_
    refine lv_iload_n hx hb dX7_whoSteps_20 rfl (lv_at hl 3 rfl) ?_
    obtain ⟨q3, e4, h⟩ := z_bnd h
    refine iv_X7_150 hc hI (c_X7_longOf e4) (z_room (by decide) (by decide)) hl.1 (Nat.le_of_ble_eq_true rfl) ⟨Nat.zero_le _, Nat.zero_le _⟩ dX7_whoSteps_21 (fun H locs hI => ?_)
    refine lv_icmp_ge (tgt := 54) hx hb dX7_whoSteps_24 (by decide) (fun c5 => ?_) (fun c5 => ?_)
    · replace h := z_ift h c5
      refine lv_iinc (v := v3 + 1) (lv' := [(3, .int (v3 + 1)), (0, .ref (z_ad G 21 0)), (1, .int v1), (2, .int v2), (4, .int v4)]) hx hb dX7_whoSteps_54 hl (k := 3) rfl rfl (by decide) rfl (fun ls hl => ?_)
      refine lv_goto (tgt := 4) hx hb dX7_whoSteps_57 (by decide) ?_
      exact hK4 v1 v2 (v3 + 1) _ _ _ h hI (lv_sub hl [1, 2, 3, 0] rfl)
    · replace h := z_iff h c5
      refine lv_iload_n hx hb dX7_whoSteps_27 rfl (lv_at hl 2 rfl) ?_
      refine lv_aload_n hx hb dX7_whoSteps_28 rfl (lv_at hl 0 rfl) ?_
      refine lv_iload_n hx hb dX7_whoSteps_29 rfl (lv_at hl 3 rfl) ?_
      refine lv_iload hx hb dX7_whoSteps_30 (lv_at hl 4 rfl) ?_
      obtain ⟨q6, e7, h⟩ := z_bnd h
      refine iv_X7_153 hc hI (c_X7_treadOf e7) (z_room (by decide) (by decide)) hl.1 (Nat.le_of_ble_eq_true rfl) ⟨Nat.zero_le _, Nat.zero_le _⟩ dX7_whoSteps_32 (fun H locs hI => ?_)
      refine lv_iload_n hx hb dX7_whoSteps_35 rfl (lv_at hl 1 rfl) ?_
      refine lv_icmp_ne (tgt := 45) hx hb dX7_whoSteps_36 (by decide) (fun c8 => ?_) (fun c8 => ?_)
      · replace h := z_iff h c8
        refine lv_iconst (v := 0) hx hb dX7_whoSteps_45 (by decide) ?_
        exact w_X7_whoSteps_b46 hc hK4 ih v1 v3 v4 0 v2 _ _ _ h hI (lv_sub hl [0, 1, 3, 4] rfl)
      · replace h := z_ift h c8
        refine lv_iconst (v := 1) hx hb dX7_whoSteps_39 (by decide) ?_
        refine lv_iload_n hx hb dX7_whoSteps_40 rfl (lv_at hl 3 rfl) ?_
        refine lv_ishl hx hb dX7_whoSteps_41 ?_
        refine lv_goto (tgt := 46) hx hb dX7_whoSteps_42 (by decide) ?_
        exact w_X7_whoSteps_b46 hc hK4 ih v1 v3 v4 ((1 : Int32) <<< (v3 &&& 31)) v2 _ _ _ h hI (lv_sub hl [0, 1, 3, 4] rfl)
set_option maxRecDepth 100000 in
set_option maxHeartbeats 4000000 in
theorem w_X7_whoSteps_b4 {M : z_M} (hc : z_C p s m args meth c RX7 cX7_whoSteps 5 (some .int)) {out : Int32} : ∀ (n : Nat) (v1 : Int32) (v2 : Int32) (v3 : Int32) (H : Heap) (locs : List Loc) (ls : Array Slot) (h : F_X7_whoSteps_b4 M n v1 v2 v3 = some out) (hI : z_I G s M H locs) (hl : lv_has ls 5 [(0, .ref (z_ad G 21 0)), (1, .int v1), (2, .int v2), (3, .int v3)]), W p l e (z_rm 3) s m args below meth c H locs 0 0 (MQ below (z_Q G (some (.int out)) M) args s 0 0 (z_A G)) (F0 m 4 ls []) := by
  obtain ⟨⟨hx, hb, hml, hown, hts⟩, hr, hlk⟩ := id hc
  intro n
  induction n with
  | zero => intro v1 v2 v3 H locs ls h; cases h
  | succ n ih =>
    intro v1 v2 v3 H locs ls h hI hl
    rw [F_X7_whoSteps_b4] at h
    refine lv_iload_n hx hb dX7_whoSteps_4 rfl (lv_at hl 3 rfl) ?_
    refine lv_aload_n hx hb dX7_whoSteps_5 rfl (lv_at hl 0 rfl) ?_
    refine gf_X7_19 hc hI dX7_whoSteps_6 ?_
    refine lv_iconst (v := 1) hx hb dX7_whoSteps_9 (by decide) ?_
    obtain ⟨g1, h⟩ := z_grd_some h
    refine ld_k25 hc hI g1 dX7_whoSteps_10 ?_
    refine lv_icmp_ge (tgt := 60) hx hb dX7_whoSteps_11 (by decide) (fun c2 => ?_) (fun c2 => ?_)
    · replace h := z_ift h c2
      refine lv_iload_n hx hb dX7_whoSteps_60 rfl (lv_at hl 2 rfl) ?_
      obtain rfl := Option.some.inj h
      exact z_ri hc hI dX7_whoSteps_61
    · replace h := z_iff h c2
      refine lv_iconst (v := 0) hx hb dX7_whoSteps_14 (by decide) ?_
      refine lv_istore (lv' := [(4, .int 0), (0, .ref (z_ad G 21 0)), (1, .int v1), (2, .int v2), (3, .int v3)]) hx hb dX7_whoSteps_15 hl (by decide) rfl (fun ls hl => ?_)
      exact w_X7_whoSteps_b17 hc ih _ v1 v2 v3 0 _ _ _ h hI (lv_sub hl [1, 2, 3, 4, 0] rfl)
set_option maxRecDepth 100000 in
set_option maxHeartbeats 4000000 in
theorem c_X7_whoSteps {G : z_G} {l : Launch} {a1 : Int32} {M : z_M} {out : Int32} (h : F_X7_whoSteps a1 M = some out) : z_Met G l yX7_whoSteps cX7_whoSteps 5 (some .int) 3 [.ref (z_ad G 21 0), .int a1] M (some (.int out)) M := by
  unfold F_X7_whoSteps at h
  refine z_met_of (by decide) rfl (Nat.le_of_ble_eq_true rfl) (fun p e s m below meth c ls hc hI hl => ?_)
  obtain ⟨⟨hx, hb, hml, hown, hts⟩, hr, hlk⟩ := id hc
  have hl : lv_has ls 5 [(0, .ref (z_ad G 21 0)), (1, .int a1)] := hl
  refine lv_iconst (v := 0) hx hb dX7_whoSteps_0 (by decide) ?_
  refine lv_istore_n (lv' := [(2, .int 0), (0, .ref (z_ad G 21 0)), (1, .int a1)]) hx hb dX7_whoSteps_1 rfl hl (by decide) rfl (fun ls hl => ?_)
  refine lv_iconst (v := 0) hx hb dX7_whoSteps_2 (by decide) ?_
  refine lv_istore_n (lv' := [(3, .int 0), (2, .int 0), (0, .ref (z_ad G 21 0)), (1, .int a1)]) hx hb dX7_whoSteps_3 rfl hl (by decide) rfl (fun ls hl => ?_)
  exact w_X7_whoSteps_b4 hc _ a1 0 0 _ _ _ h hI (lv_sub hl [2, 3, 1, 0] rfl)
set_option maxRecDepth 100000 in
set_option maxHeartbeats 4000000 in
theorem w_X7_tread_b20 {M : z_M} (hc : z_C p s m args meth c RX7 cX7_tread 3 (some .int)) {out : Int32} (H : Heap) (locs : List Loc) (ls : Array Slot) (h : F_X7_tread_b20 M = some out) (hI : z_I G s M H locs) (hl : lv_has ls 3 []) : W p l e (z_rm 4) s m args below meth c H locs 0 0 (MQ below (z_Q G (some (.int out)) M) args s 0 0 (z_A G)) (F0 m 20 ls []) := by
  obtain ⟨⟨hx, hb, hml, hown, hts⟩, hr, hlk⟩ := id hc
  unfold F_X7_tread_b20 at h
  refine lv_ldc (v := (-1000001)) hx hb hown (hts _ wd_5_5) dX7_tread_20 ?_
  refine lv_goto (tgt := 76) hx hb dX7_tread_22 (by decide) ?_
  obtain rfl := Option.some.inj h
  exact z_ri hc hI dX7_tread_76
set_option maxRecDepth 100000 in
set_option maxHeartbeats 4000000 in
theorem c_X7_tread {G : z_G} {l : Launch} {a1 : Int32} {a2 : Int32} {M : z_M} {out : Int32} (h : F_X7_tread a1 a2 M = some out) : z_Met G l yX7_tread cX7_tread 3 (some .int) 4 [.ref (z_ad G 21 0), .int a1, .int a2] M (some (.int out)) M := by
  unfold F_X7_tread at h
  refine z_met_of (by decide) rfl (Nat.le_of_ble_eq_true rfl) (fun p e s m below meth c ls hc hI hl => ?_)
  obtain ⟨⟨hx, hb, hml, hown, hts⟩, hr, hlk⟩ := id hc
  have hl : lv_has ls 3 [(0, .ref (z_ad G 21 0)), (1, .int a1), (2, .int a2)] := hl
  refine lv_aload_n hx hb dX7_tread_0 rfl (lv_at hl 0 rfl) ?_
  refine lv_iload_n hx hb dX7_tread_1 rfl (lv_at hl 1 rfl) ?_
  obtain ⟨q1, e2, h⟩ := z_bnd h
  refine iv_X7_185 hc hI (c_X7_isTread e2) (z_room (by decide) (by decide)) hl.1 (Nat.le_of_ble_eq_true rfl) ⟨Nat.zero_le _, Nat.zero_le _⟩ dX7_tread_2 (fun H locs hI => ?_)
  refine lv_if_eq (tgt := 20) hx hb dX7_tread_5 (by decide) (fun c3 => ?_) (fun c3 => ?_)
  · replace h := z_ift h c3
    exact w_X7_tread_b20 hc _ _ _ h hI (lv_sub hl [] rfl)
  · replace h := z_iff h c3
    refine lv_iload_n hx hb dX7_tread_8 rfl (lv_at hl 2 rfl) ?_
    refine lv_i2l (v := a2.toInt64) hx hb dX7_tread_9 rfl ?_
    refine lv_lconst (v := 0) hx hb dX7_tread_10 (by decide) ?_
    refine lv_ldc2 (v := 3) hx hb hown (hts _ wd_5_150) dX7_tread_11 ?_
    obtain ⟨q4, e5, h⟩ := z_bnd h
    refine iv_X7_54 hc hI (c_X7_in e5) (z_room (by decide) (by decide)) hl.1 (Nat.le_of_ble_eq_true rfl) ⟨Nat.zero_le _, Nat.zero_le _⟩ dX7_tread_14 (fun H locs hI => ?_)
    refine lv_if_ne (tgt := 25) hx hb dX7_tread_17 (by decide) (fun c6 => ?_) (fun c6 => ?_)
    · replace h := z_iff h c6
      refine lv_iload_n hx hb dX7_tread_25 rfl (lv_at hl 2 rfl) ?_
      refine lv_if_ne (tgt := 41) hx hb dX7_tread_26 (by decide) (fun c7 => ?_) (fun c7 => ?_)
      · replace h := z_iff h c7
        refine lv_iload_n hx hb dX7_tread_41 rfl (lv_at hl 2 rfl) ?_
        refine lv_iconst (v := 1) hx hb dX7_tread_42 (by decide) ?_
        refine lv_icmp_ne (tgt := 58) hx hb dX7_tread_43 (by decide) (fun c8 => ?_) (fun c8 => ?_)
        · replace h := z_iff h c8
          refine lv_iload_n hx hb dX7_tread_58 rfl (lv_at hl 2 rfl) ?_
          refine lv_iconst (v := 2) hx hb dX7_tread_59 (by decide) ?_
          refine lv_icmp_ne (tgt := 71) hx hb dX7_tread_60 (by decide) (fun c9 => ?_) (fun c9 => ?_)
          · replace h := z_iff h c9
            refine lv_aload_n hx hb dX7_tread_71 rfl (lv_at hl 0 rfl) ?_
            refine lv_iload_n hx hb dX7_tread_72 rfl (lv_at hl 1 rfl) ?_
            obtain ⟨q10, e11, h⟩ := z_bnd h
            refine iv_X7_201 hc hI (c_X7_whoSteps e11) (z_room (by decide) (by decide)) hl.1 (Nat.le_of_ble_eq_true rfl) ⟨Nat.zero_le _, Nat.zero_le _⟩ dX7_tread_73 (fun H locs hI => ?_)
            obtain rfl := Option.some.inj h
            exact z_ri hc hI dX7_tread_76
          · replace h := z_ift h c9
            refine lv_aload_n hx hb dX7_tread_63 rfl (lv_at hl 0 rfl) ?_
            refine lv_iload_n hx hb dX7_tread_64 rfl (lv_at hl 1 rfl) ?_
            obtain ⟨q12, e13, h⟩ := z_bnd h
            refine iv_X7_160 hc hI (c_X7_toneOf e13) (z_room (by decide) (by decide)) hl.1 (Nat.le_of_ble_eq_true rfl) ⟨Nat.zero_le _, Nat.zero_le _⟩ dX7_tread_65 (fun H locs hI => ?_)
            refine lv_goto (tgt := 76) hx hb dX7_tread_68 (by decide) ?_
            obtain rfl := Option.some.inj h
            exact z_ri hc hI dX7_tread_76
        · replace h := z_ift h c8
          refine lv_aload_n hx hb dX7_tread_46 rfl (lv_at hl 0 rfl) ?_
          refine gf_X7_19 hc hI dX7_tread_47 ?_
          refine lv_bipush (v := 21) hx hb dX7_tread_50 (by decide) ?_
          refine lv_iload_n hx hb dX7_tread_52 rfl (lv_at hl 1 rfl) ?_
          refine lv_iadd hx hb dX7_tread_53 ?_
          obtain ⟨g14, h⟩ := z_grd_some h
          refine ld_k25 hc hI g14 dX7_tread_54 ?_
          refine lv_goto (tgt := 76) hx hb dX7_tread_55 (by decide) ?_
          obtain rfl := Option.some.inj h
          exact z_ri hc hI dX7_tread_76
      · replace h := z_ift h c7
        refine lv_aload_n hx hb dX7_tread_29 rfl (lv_at hl 0 rfl) ?_
        refine gf_X7_19 hc hI dX7_tread_30 ?_
        refine lv_bipush (v := 13) hx hb dX7_tread_33 (by decide) ?_
        refine lv_iload_n hx hb dX7_tread_35 rfl (lv_at hl 1 rfl) ?_
        refine lv_iadd hx hb dX7_tread_36 ?_
        obtain ⟨g15, h⟩ := z_grd_some h
        refine ld_k25 hc hI g15 dX7_tread_37 ?_
        refine lv_goto (tgt := 76) hx hb dX7_tread_38 (by decide) ?_
        obtain rfl := Option.some.inj h
        exact z_ri hc hI dX7_tread_76
    · replace h := z_ift h c6
      exact w_X7_tread_b20 hc _ _ _ h hI (lv_sub hl [] rfl)
set_option maxRecDepth 100000 in
set_option maxHeartbeats 4000000 in
theorem w_X7_walker_b20 {M : z_M} (hc : z_C p s m args meth c RX7 cX7_walker 3 (some .int)) {out : Int32} (H : Heap) (locs : List Loc) (ls : Array Slot) (h : F_X7_walker_b20 M = some out) (hI : z_I G s M H locs) (hl : lv_has ls 3 []) : W p l e (z_rm 3) s m args below meth c H locs 0 0 (MQ below (z_Q G (some (.int out)) M) args s 0 0 (z_A G)) (F0 m 20 ls []) := by
  obtain ⟨⟨hx, hb, hml, hown, hts⟩, hr, hlk⟩ := id hc
  unfold F_X7_walker_b20 at h
  refine lv_ldc (v := (-1000001)) hx hb hown (hts _ wd_5_5) dX7_walker_20 ?_
  refine lv_goto (tgt := 38) hx hb dX7_walker_22 (by decide) ?_
  obtain rfl := Option.some.inj h
  exact z_ri hc hI dX7_walker_38
set_option maxRecDepth 100000 in
set_option maxHeartbeats 4000000 in
theorem c_X7_walker {G : z_G} {l : Launch} {a1 : Int32} {a2 : Int32} {M : z_M} {out : Int32} (h : F_X7_walker a1 a2 M = some out) : z_Met G l yX7_walker cX7_walker 3 (some .int) 3 [.ref (z_ad G 21 0), .int a1, .int a2] M (some (.int out)) M := by
  unfold F_X7_walker at h
  refine z_met_of (by decide) rfl (Nat.le_of_ble_eq_true rfl) (fun p e s m below meth c ls hc hI hl => ?_)
  obtain ⟨⟨hx, hb, hml, hown, hts⟩, hr, hlk⟩ := id hc
  have hl : lv_has ls 3 [(0, .ref (z_ad G 21 0)), (1, .int a1), (2, .int a2)] := hl
  refine lv_aload_n hx hb dX7_walker_0 rfl (lv_at hl 0 rfl) ?_
  refine lv_iload_n hx hb dX7_walker_1 rfl (lv_at hl 1 rfl) ?_
  obtain ⟨q1, e2, h⟩ := z_bnd h
  refine iv_X7_194 hc hI (c_X7_isWalker e2) (z_room (by decide) (by decide)) hl.1 (Nat.le_of_ble_eq_true rfl) ⟨Nat.zero_le _, Nat.zero_le _⟩ dX7_walker_2 (fun H locs hI => ?_)
  refine lv_if_eq (tgt := 20) hx hb dX7_walker_5 (by decide) (fun c3 => ?_) (fun c3 => ?_)
  · replace h := z_ift h c3
    exact w_X7_walker_b20 hc _ _ _ h hI (lv_sub hl [] rfl)
  · replace h := z_iff h c3
    refine lv_iload_n hx hb dX7_walker_8 rfl (lv_at hl 2 rfl) ?_
    refine lv_i2l (v := a2.toInt64) hx hb dX7_walker_9 rfl ?_
    refine lv_lconst (v := 0) hx hb dX7_walker_10 (by decide) ?_
    refine lv_ldc2 (v := 3) hx hb hown (hts _ wd_5_150) dX7_walker_11 ?_
    obtain ⟨q4, e5, h⟩ := z_bnd h
    refine iv_X7_54 hc hI (c_X7_in e5) (z_room (by decide) (by decide)) hl.1 (Nat.le_of_ble_eq_true rfl) ⟨Nat.zero_le _, Nat.zero_le _⟩ dX7_walker_14 (fun H locs hI => ?_)
    refine lv_if_ne (tgt := 25) hx hb dX7_walker_17 (by decide) (fun c6 => ?_) (fun c6 => ?_)
    · replace h := z_iff h c6
      refine lv_aload_n hx hb dX7_walker_25 rfl (lv_at hl 0 rfl) ?_
      refine gf_X7_19 hc hI dX7_walker_26 ?_
      refine lv_bipush (v := 29) hx hb dX7_walker_29 (by decide) ?_
      refine lv_iconst (v := 5) hx hb dX7_walker_31 (by decide) ?_
      refine lv_iload_n hx hb dX7_walker_32 rfl (lv_at hl 2 rfl) ?_
      refine lv_imul hx hb dX7_walker_33 ?_
      refine lv_iadd hx hb dX7_walker_34 ?_
      refine lv_iload_n hx hb dX7_walker_35 rfl (lv_at hl 1 rfl) ?_
      refine lv_iadd hx hb dX7_walker_36 ?_
      obtain ⟨g7, h⟩ := z_grd_some h
      refine ld_k25 hc hI g7 dX7_walker_37 ?_
      obtain rfl := Option.some.inj h
      exact z_ri hc hI dX7_walker_38
    · replace h := z_ift h c6
      exact w_X7_walker_b20 hc _ _ _ h hI (lv_sub hl [] rfl)
set_option maxRecDepth 100000 in
set_option maxHeartbeats 4000000 in
theorem c_X7_tuneOf {G : z_G} {l : Launch} {a1 : Int32} {a2 : Int32} {M : z_M} {out : Int32} (h : F_X7_tuneOf a1 a2 M = some out) : z_Met G l yX7_tuneOf cX7_tuneOf 4 (some .int) 4 [.ref (z_ad G 21 0), .int a1, .int a2] M (some (.int out)) M := by
  unfold F_X7_tuneOf at h
  refine z_met_of (by decide) rfl (Nat.le_of_ble_eq_true rfl) (fun p e s m below meth c ls hc hI hl => ?_)
  obtain ⟨⟨hx, hb, hml, hown, hts⟩, hr, hlk⟩ := id hc
  have hl : lv_has ls 4 [(0, .ref (z_ad G 21 0)), (1, .int a1), (2, .int a2)] := hl
  refine lv_aload_n hx hb dX7_tuneOf_0 rfl (lv_at hl 0 rfl) ?_
  refine lv_aload_n hx hb dX7_tuneOf_1 rfl (lv_at hl 0 rfl) ?_
  refine lv_iload_n hx hb dX7_tuneOf_2 rfl (lv_at hl 1 rfl) ?_
  refine lv_iload_n hx hb dX7_tuneOf_3 rfl (lv_at hl 2 rfl) ?_
  obtain ⟨q1, e2, h⟩ := z_bnd h
  refine iv_X7_153 hc hI (c_X7_treadOf e2) (z_room (by decide) (by decide)) hl.1 (Nat.le_of_ble_eq_true rfl) ⟨Nat.zero_le _, Nat.zero_le _⟩ dX7_tuneOf_4 (fun H locs hI => ?_)
  refine lv_aload_n hx hb dX7_tuneOf_7 rfl (lv_at hl 0 rfl) ?_
  refine gf_X7_19 hc hI dX7_tuneOf_8 ?_
  refine lv_bipush (v := 39) hx hb dX7_tuneOf_11 (by decide) ?_
  refine lv_iload_n hx hb dX7_tuneOf_13 rfl (lv_at hl 1 rfl) ?_
  refine lv_iadd hx hb dX7_tuneOf_14 ?_
  obtain ⟨g3, h⟩ := z_grd_some h
  refine ld_k25 hc hI g3 dX7_tuneOf_15 ?_
  obtain ⟨q4, e5, h⟩ := z_bnd h
  refine iv_X7_169 hc hI (c_X7_sound e5) (z_room (by decide) (by decide)) hl.1 (Nat.le_of_ble_eq_true rfl) ⟨Nat.zero_le _, Nat.zero_le _⟩ dX7_tuneOf_16 (fun H locs hI => ?_)
  refine lv_istore_n (lv' := [(3, .int q4), (0, .ref (z_ad G 21 0)), (1, .int a1), (2, .int a2)]) hx hb dX7_tuneOf_19 rfl hl (by decide) rfl (fun ls hl => ?_)
  refine lv_iload_n hx hb dX7_tuneOf_20 rfl (lv_at hl 0 rfl) ?_
  refine lv_if_ge (tgt := 29) hx hb dX7_tuneOf_21 (by decide) (fun c6 => ?_) (fun c6 => ?_)
  · replace h := z_ift h c6
    refine lv_iload_n hx hb dX7_tuneOf_29 rfl (lv_at hl 0 rfl) ?_
    obtain rfl := Option.some.inj h
    exact z_ri hc hI dX7_tuneOf_30
  · replace h := z_iff h c6
    refine lv_bipush (v := 10) hx hb dX7_tuneOf_24 (by decide) ?_
    refine lv_goto (tgt := 30) hx hb dX7_tuneOf_26 (by decide) ?_
    obtain rfl := Option.some.inj h
    exact z_ri hc hI dX7_tuneOf_30
set_option maxRecDepth 100000 in
set_option maxHeartbeats 4000000 in
theorem c_X7_tune {G : z_G} {l : Launch} {a1 : Int32} {a2 : Int32} {M : z_M} {out : Int32} (h : F_X7_tune a1 a2 M = some out) : z_Met G l yX7_tune cX7_tune 3 (some .int) 5 [.ref (z_ad G 21 0), .int a1, .int a2] M (some (.int out)) M := by
  unfold F_X7_tune at h
  refine z_met_of (by decide) rfl (Nat.le_of_ble_eq_true rfl) (fun p e s m below meth c ls hc hI hl => ?_)
  obtain ⟨⟨hx, hb, hml, hown, hts⟩, hr, hlk⟩ := id hc
  have hl : lv_has ls 3 [(0, .ref (z_ad G 21 0)), (1, .int a1), (2, .int a2)] := hl
  refine lv_aload_n hx hb dX7_tune_0 rfl (lv_at hl 0 rfl) ?_
  refine lv_iload_n hx hb dX7_tune_1 rfl (lv_at hl 1 rfl) ?_
  obtain ⟨q1, e2, h⟩ := z_bnd h
  refine iv_X7_194 hc hI (c_X7_isWalker e2) (z_room (by decide) (by decide)) hl.1 (Nat.le_of_ble_eq_true rfl) ⟨Nat.zero_le _, Nat.zero_le _⟩ dX7_tune_2 (fun H locs hI => ?_)
  refine lv_if_eq (tgt := 12) hx hb dX7_tune_5 (by decide) (fun c3 => ?_) (fun c3 => ?_)
  · replace h := z_ift h c3
    refine lv_ldc (v := (-1000001)) hx hb hown (hts _ wd_5_5) dX7_tune_12 ?_
    obtain rfl := Option.some.inj h
    exact z_ri hc hI dX7_tune_14
  · replace h := z_iff h c3
    refine lv_iload_n hx hb dX7_tune_8 rfl (lv_at hl 2 rfl) ?_
    refine lv_if_ge (tgt := 15) hx hb dX7_tune_9 (by decide) (fun c4 => ?_) (fun c4 => ?_)
    · replace h := z_ift h c4
      refine lv_iload_n hx hb dX7_tune_15 rfl (lv_at hl 2 rfl) ?_
      refine lv_aload_n hx hb dX7_tune_16 rfl (lv_at hl 0 rfl) ?_
      refine lv_iload_n hx hb dX7_tune_17 rfl (lv_at hl 1 rfl) ?_
      obtain ⟨q5, e6, h⟩ := z_bnd h
      refine iv_X7_150 hc hI (c_X7_longOf e6) (z_room (by decide) (by decide)) hl.1 (Nat.le_of_ble_eq_true rfl) ⟨Nat.zero_le _, Nat.zero_le _⟩ dX7_tune_18 (fun H locs hI => ?_)
      refine lv_icmp_ge (tgt := 33) hx hb dX7_tune_21 (by decide) (fun c7 => ?_) (fun c7 => ?_)
      · replace h := z_ift h c7
        refine lv_ldc (v := (-1000000)) hx hb hown (hts _ wd_5_183) dX7_tune_33 ?_
        obtain rfl := Option.some.inj h
        exact z_ri hc hI dX7_tune_35
      · replace h := z_iff h c7
        refine lv_aload_n hx hb dX7_tune_24 rfl (lv_at hl 0 rfl) ?_
        refine lv_iload_n hx hb dX7_tune_25 rfl (lv_at hl 1 rfl) ?_
        refine lv_iload_n hx hb dX7_tune_26 rfl (lv_at hl 2 rfl) ?_
        obtain ⟨q8, e9, h⟩ := z_bnd h
        refine iv_X7_204 hc hI (c_X7_tuneOf e9) (z_room (by decide) (by decide)) hl.1 (Nat.le_of_ble_eq_true rfl) ⟨Nat.zero_le _, Nat.zero_le _⟩ dX7_tune_27 (fun H locs hI => ?_)
        refine lv_goto (tgt := 35) hx hb dX7_tune_30 (by decide) ?_
        obtain rfl := Option.some.inj h
        exact z_ri hc hI dX7_tune_35
    · replace h := z_iff h c4
      refine lv_ldc (v := (-1000001)) hx hb hown (hts _ wd_5_5) dX7_tune_12 ?_
      obtain rfl := Option.some.inj h
      exact z_ri hc hI dX7_tune_14
set_option maxRecDepth 100000 in
set_option maxHeartbeats 4000000 in
theorem c_X7_where {G : z_G} {l : Launch} {a1 : Int32} {a2 : Int32} {M : z_M} {out : Int32} (h : F_X7_where a1 a2 M = some out) : z_Met G l yX7_where cX7_where 4 (some .int) 4 [.ref (z_ad G 21 0), .int a1, .int a2] M (some (.int out)) M := by
  unfold F_X7_where at h
  refine z_met_of (by decide) rfl (Nat.le_of_ble_eq_true rfl) (fun p e s m below meth c ls hc hI hl => ?_)
  obtain ⟨⟨hx, hb, hml, hown, hts⟩, hr, hlk⟩ := id hc
  have hl : lv_has ls 4 [(0, .ref (z_ad G 21 0)), (1, .int a1), (2, .int a2)] := hl
  refine lv_aload_n hx hb dX7_where_0 rfl (lv_at hl 0 rfl) ?_
  refine lv_iload_n hx hb dX7_where_1 rfl (lv_at hl 1 rfl) ?_
  obtain ⟨q1, e2, h⟩ := z_bnd h
  refine iv_X7_194 hc hI (c_X7_isWalker e2) (z_room (by decide) (by decide)) hl.1 (Nat.le_of_ble_eq_true rfl) ⟨Nat.zero_le _, Nat.zero_le _⟩ dX7_where_2 (fun H locs hI => ?_)
  refine lv_if_eq (tgt := 15) hx hb dX7_where_5 (by decide) (fun c3 => ?_) (fun c3 => ?_)
  · replace h := z_ift h c3
    refine lv_ldc (v := (-1000001)) hx hb hown (hts _ wd_5_5) dX7_where_15 ?_
    obtain rfl := Option.some.inj h
    exact z_ri hc hI dX7_where_17
  · replace h := z_iff h c3
    refine lv_iload_n hx hb dX7_where_8 rfl (lv_at hl 2 rfl) ?_
    obtain ⟨q4, e5, h⟩ := z_bnd h
    refine iv_X7_208 hc hI (c_X7_isMinute e5) (z_room (by decide) (by decide)) hl.1 (Nat.le_of_ble_eq_true rfl) ⟨Nat.zero_le _, Nat.zero_le _⟩ dX7_where_9 (fun H locs hI => ?_)
    refine lv_if_ne (tgt := 18) hx hb dX7_where_12 (by decide) (fun c6 => ?_) (fun c6 => ?_)
    · replace h := z_iff h c6
      refine lv_aload_n hx hb dX7_where_18 rfl (lv_at hl 0 rfl) ?_
      refine lv_iload_n hx hb dX7_where_19 rfl (lv_at hl 1 rfl) ?_
      refine lv_iload_n hx hb dX7_where_20 rfl (lv_at hl 2 rfl) ?_
      obtain ⟨q7, e8, h⟩ := z_bnd h
      refine iv_X7_166 hc hI (c_X7_at e8) (z_room (by decide) (by decide)) hl.1 (Nat.le_of_ble_eq_true rfl) ⟨Nat.zero_le _, Nat.zero_le _⟩ dX7_where_21 (fun H locs hI => ?_)
      refine lv_istore_n (lv' := [(3, .int q7), (0, .ref (z_ad G 21 0)), (1, .int a1), (2, .int a2)]) hx hb dX7_where_24 rfl hl (by decide) rfl (fun ls hl => ?_)
      refine lv_iload_n hx hb dX7_where_25 rfl (lv_at hl 0 rfl) ?_
      refine lv_if_ge (tgt := 34) hx hb dX7_where_26 (by decide) (fun c9 => ?_) (fun c9 => ?_)
      · replace h := z_ift h c9
        refine lv_iload_n hx hb dX7_where_34 rfl (lv_at hl 0 rfl) ?_
        obtain rfl := Option.some.inj h
        exact z_ri hc hI dX7_where_35
      · replace h := z_iff h c9
        refine lv_ldc (v := (-1000000)) hx hb hown (hts _ wd_5_183) dX7_where_29 ?_
        refine lv_goto (tgt := 35) hx hb dX7_where_31 (by decide) ?_
        obtain rfl := Option.some.inj h
        exact z_ri hc hI dX7_where_35
    · replace h := z_ift h c6
      refine lv_ldc (v := (-1000001)) hx hb hown (hts _ wd_5_5) dX7_where_15 ?_
      obtain rfl := Option.some.inj h
      exact z_ri hc hI dX7_where_17
set_option maxRecDepth 100000 in
set_option maxHeartbeats 4000000 in
theorem c_X7_heard {G : z_G} {l : Launch} {a1 : Int32} {a2 : Int32} {M : z_M} {out : Int32} (h : F_X7_heard a1 a2 M = some out) : z_Met G l yX7_heard cX7_heard 3 (some .int) 5 [.ref (z_ad G 21 0), .int a1, .int a2] M (some (.int out)) M := by
  unfold F_X7_heard at h
  refine z_met_of (by decide) rfl (Nat.le_of_ble_eq_true rfl) (fun p e s m below meth c ls hc hI hl => ?_)
  obtain ⟨⟨hx, hb, hml, hown, hts⟩, hr, hlk⟩ := id hc
  have hl : lv_has ls 3 [(0, .ref (z_ad G 21 0)), (1, .int a1), (2, .int a2)] := hl
  refine lv_aload_n hx hb dX7_heard_0 rfl (lv_at hl 0 rfl) ?_
  refine lv_iload_n hx hb dX7_heard_1 rfl (lv_at hl 1 rfl) ?_
  obtain ⟨q1, e2, h⟩ := z_bnd h
  refine iv_X7_185 hc hI (c_X7_isTread e2) (z_room (by decide) (by decide)) hl.1 (Nat.le_of_ble_eq_true rfl) ⟨Nat.zero_le _, Nat.zero_le _⟩ dX7_heard_2 (fun H locs hI => ?_)
  refine lv_if_eq (tgt := 24) hx hb dX7_heard_5 (by decide) (fun c3 => ?_) (fun c3 => ?_)
  · replace h := z_ift h c3
    refine lv_ldc (v := (-1000001)) hx hb hown (hts _ wd_5_5) dX7_heard_24 ?_
    obtain rfl := Option.some.inj h
    exact z_ri hc hI dX7_heard_26
  · replace h := z_iff h c3
    refine lv_iload_n hx hb dX7_heard_8 rfl (lv_at hl 2 rfl) ?_
    obtain ⟨q4, e5, h⟩ := z_bnd h
    refine iv_X7_208 hc hI (c_X7_isMinute e5) (z_room (by decide) (by decide)) hl.1 (Nat.le_of_ble_eq_true rfl) ⟨Nat.zero_le _, Nat.zero_le _⟩ dX7_heard_9 (fun H locs hI => ?_)
    refine lv_if_eq (tgt := 24) hx hb dX7_heard_12 (by decide) (fun c6 => ?_) (fun c6 => ?_)
    · replace h := z_ift h c6
      refine lv_ldc (v := (-1000001)) hx hb hown (hts _ wd_5_5) dX7_heard_24 ?_
      obtain rfl := Option.some.inj h
      exact z_ri hc hI dX7_heard_26
    · replace h := z_iff h c6
      refine lv_aload_n hx hb dX7_heard_15 rfl (lv_at hl 0 rfl) ?_
      refine lv_iload_n hx hb dX7_heard_16 rfl (lv_at hl 1 rfl) ?_
      refine lv_iload_n hx hb dX7_heard_17 rfl (lv_at hl 2 rfl) ?_
      obtain ⟨q7, e8, h⟩ := z_bnd h
      refine iv_X7_211 hc hI (c_X7_heardAt e8) (z_room (by decide) (by decide)) hl.1 (Nat.le_of_ble_eq_true rfl) ⟨Nat.zero_le _, Nat.zero_le _⟩ dX7_heard_18 (fun H locs hI => ?_)
      refine lv_goto (tgt := 26) hx hb dX7_heard_21 (by decide) ?_
      obtain rfl := Option.some.inj h
      exact z_ri hc hI dX7_heard_26
set_option maxRecDepth 100000 in
set_option maxHeartbeats 4000000 in
theorem w_X7_putAside_b2 (hc : z_C p s m args meth c RX7 cX7_putAside 2 none) {out : z_M} : ∀ (n : Nat) (v1 : Int32) (M : z_M) (H : Heap) (locs : List Loc) (ls : Array Slot) (h : F_X7_putAside_b2 n v1 M = some out) (hI : z_I G s M H locs) (hl : lv_has ls 2 [(0, .ref (z_ad G 21 0)), (1, .int v1)]), W p l e (z_rm 1) s m args below meth c H locs 0 0 (MQ below (z_Q G (none) out) args s 0 0 (z_A G)) (F0 m 2 ls []) := by
  obtain ⟨⟨hx, hb, hml, hown, hts⟩, hr, hlk⟩ := id hc
  intro n
  induction n with
  | zero => intro v1 M H locs ls h; cases h
  | succ n ih =>
    intro v1 M H locs ls h hI hl
    rw [F_X7_putAside_b2] at h
    refine lv_iload_n hx hb dX7_putAside_2 rfl (lv_at hl 1 rfl) ?_
    refine lv_bipush (v := 49) hx hb dX7_putAside_3 (by decide) ?_
    refine lv_icmp_ge (tgt := 26) hx hb dX7_putAside_5 (by decide) (fun c1 => ?_) (fun c1 => ?_)
    · replace h := z_ift h c1
      obtain rfl := Option.some.inj h
      exact z_rv hc hI dX7_putAside_26
    · replace h := z_iff h c1
      refine lv_aload_n hx hb dX7_putAside_8 rfl (lv_at hl 0 rfl) ?_
      refine gf_X7_34 hc hI dX7_putAside_9 ?_
      refine lv_iload_n hx hb dX7_putAside_12 rfl (lv_at hl 1 rfl) ?_
      refine lv_aload_n hx hb dX7_putAside_13 rfl (lv_at hl 0 rfl) ?_
      refine gf_X7_19 hc hI dX7_putAside_14 ?_
      refine lv_iload_n hx hb dX7_putAside_17 rfl (lv_at hl 1 rfl) ?_
      obtain ⟨g2, h⟩ := z_grd_some h
      refine ld_k25 hc hI g2 dX7_putAside_18 ?_
      obtain ⟨g3, h⟩ := z_grd_some h
      refine st_k30 hc hI g3 dX7_putAside_19 (fun H locs hI => ?_)
      refine lv_iinc (v := v1 + 1) (lv' := [(1, .int (v1 + 1)), (0, .ref (z_ad G 21 0))]) hx hb dX7_putAside_20 hl (k := 1) rfl rfl (by decide) rfl (fun ls hl => ?_)
      refine lv_goto (tgt := 2) hx hb dX7_putAside_23 (by decide) ?_
      exact ih (v1 + 1) _ _ _ _ h hI (lv_sub hl [1, 0] rfl)
set_option maxRecDepth 100000 in
set_option maxHeartbeats 4000000 in
theorem c_X7_putAside {G : z_G} {l : Launch} {M : z_M} {out : z_M} (h : F_X7_putAside M = some out) : z_Met G l yX7_putAside cX7_putAside 2 none 1 [.ref (z_ad G 21 0)] M (none) out := by
  unfold F_X7_putAside at h
  refine z_met_of (by decide) rfl (Nat.le_of_ble_eq_true rfl) (fun p e s m below meth c ls hc hI hl => ?_)
  obtain ⟨⟨hx, hb, hml, hown, hts⟩, hr, hlk⟩ := id hc
  have hl : lv_has ls 2 [(0, .ref (z_ad G 21 0))] := hl
  refine lv_iconst (v := 0) hx hb dX7_putAside_0 (by decide) ?_
  refine lv_istore_n (lv' := [(1, .int 0), (0, .ref (z_ad G 21 0))]) hx hb dX7_putAside_1 rfl hl (by decide) rfl (fun ls hl => ?_)
  exact w_X7_putAside_b2 hc _ 0 _ _ _ _ h hI (lv_sub hl [1, 0] rfl)
set_option maxRecDepth 100000 in
set_option maxHeartbeats 4000000 in
theorem w_X7_takeBack_b2 (hc : z_C p s m args meth c RX7 cX7_takeBack 2 none) {out : z_M} : ∀ (n : Nat) (v1 : Int32) (M : z_M) (H : Heap) (locs : List Loc) (ls : Array Slot) (h : F_X7_takeBack_b2 n v1 M = some out) (hI : z_I G s M H locs) (hl : lv_has ls 2 [(0, .ref (z_ad G 21 0)), (1, .int v1)]), W p l e (z_rm 1) s m args below meth c H locs 0 0 (MQ below (z_Q G (none) out) args s 0 0 (z_A G)) (F0 m 2 ls []) := by
  obtain ⟨⟨hx, hb, hml, hown, hts⟩, hr, hlk⟩ := id hc
  intro n
  induction n with
  | zero => intro v1 M H locs ls h; cases h
  | succ n ih =>
    intro v1 M H locs ls h hI hl
    rw [F_X7_takeBack_b2] at h
    refine lv_iload_n hx hb dX7_takeBack_2 rfl (lv_at hl 1 rfl) ?_
    refine lv_bipush (v := 49) hx hb dX7_takeBack_3 (by decide) ?_
    refine lv_icmp_ge (tgt := 26) hx hb dX7_takeBack_5 (by decide) (fun c1 => ?_) (fun c1 => ?_)
    · replace h := z_ift h c1
      obtain rfl := Option.some.inj h
      exact z_rv hc hI dX7_takeBack_26
    · replace h := z_iff h c1
      refine lv_aload_n hx hb dX7_takeBack_8 rfl (lv_at hl 0 rfl) ?_
      refine gf_X7_19 hc hI dX7_takeBack_9 ?_
      refine lv_iload_n hx hb dX7_takeBack_12 rfl (lv_at hl 1 rfl) ?_
      refine lv_aload_n hx hb dX7_takeBack_13 rfl (lv_at hl 0 rfl) ?_
      refine gf_X7_34 hc hI dX7_takeBack_14 ?_
      refine lv_iload_n hx hb dX7_takeBack_17 rfl (lv_at hl 1 rfl) ?_
      obtain ⟨g2, h⟩ := z_grd_some h
      refine ld_k30 hc hI g2 dX7_takeBack_18 ?_
      obtain ⟨g3, h⟩ := z_grd_some h
      refine st_k25 hc hI g3 dX7_takeBack_19 (fun H locs hI => ?_)
      refine lv_iinc (v := v1 + 1) (lv' := [(1, .int (v1 + 1)), (0, .ref (z_ad G 21 0))]) hx hb dX7_takeBack_20 hl (k := 1) rfl rfl (by decide) rfl (fun ls hl => ?_)
      refine lv_goto (tgt := 2) hx hb dX7_takeBack_23 (by decide) ?_
      exact ih (v1 + 1) _ _ _ _ h hI (lv_sub hl [1, 0] rfl)
set_option maxRecDepth 100000 in
set_option maxHeartbeats 4000000 in
theorem c_X7_takeBack {G : z_G} {l : Launch} {M : z_M} {out : z_M} (h : F_X7_takeBack M = some out) : z_Met G l yX7_takeBack cX7_takeBack 2 none 1 [.ref (z_ad G 21 0)] M (none) out := by
  unfold F_X7_takeBack at h
  refine z_met_of (by decide) rfl (Nat.le_of_ble_eq_true rfl) (fun p e s m below meth c ls hc hI hl => ?_)
  obtain ⟨⟨hx, hb, hml, hown, hts⟩, hr, hlk⟩ := id hc
  have hl : lv_has ls 2 [(0, .ref (z_ad G 21 0))] := hl
  refine lv_iconst (v := 0) hx hb dX7_takeBack_0 (by decide) ?_
  refine lv_istore_n (lv' := [(1, .int 0), (0, .ref (z_ad G 21 0))]) hx hb dX7_takeBack_1 rfl hl (by decide) rfl (fun ls hl => ?_)
  exact w_X7_takeBack_b2 hc _ 0 _ _ _ _ h hI (lv_sub hl [1, 0] rfl)
set_option maxRecDepth 100000 in
set_option maxHeartbeats 4000000 in
theorem c_X7_isWhat {G : z_G} {l : Launch} {a1 : Int32} {M : z_M} {out : Int32} (h : F_X7_isWhat a1 M = some out) : z_Met G l yX7_isWhat cX7_isWhat 1 (some .boolean) 2 [.int a1] M (some (.int out)) M := by
  unfold F_X7_isWhat at h
  refine z_met_of (by decide) rfl (Nat.le_of_ble_eq_true rfl) (fun p e s m below meth c ls hc hI hl => ?_)
  obtain ⟨⟨hx, hb, hml, hown, hts⟩, hr, hlk⟩ := id hc
  have hl : lv_has ls 1 [(0, .int a1)] := hl
  refine lv_iload_n hx hb dX7_isWhat_0 rfl (lv_at hl 0 rfl) ?_
  refine lv_i2l (v := a1.toInt64) hx hb dX7_isWhat_1 rfl ?_
  refine lv_lconst (v := 0) hx hb dX7_isWhat_2 (by decide) ?_
  refine lv_lconst (v := 1) hx hb dX7_isWhat_3 (by decide) ?_
  obtain ⟨q1, e2, h⟩ := z_bnd h
  refine iv_X7_54 hc hI (c_X7_in e2) (z_room (by decide) (by decide)) hl.1 (Nat.le_of_ble_eq_true rfl) ⟨Nat.zero_le _, Nat.zero_le _⟩ dX7_isWhat_4 (fun H locs hI => ?_)
  obtain ⟨g3, h⟩ := z_grd_some h
  obtain rfl := Option.some.inj h
  exact z_rz hc hI g3 dX7_isWhat_7
set_option maxRecDepth 100000 in
set_option maxHeartbeats 4000000 in
theorem w_X7_ahead_b74 (hc : z_C p s m args meth c RX7 cX7_ahead 5 (some .int)) {out : (Int32 × z_M)} (s0 : Int32) (M : z_M) (H : Heap) (locs : List Loc) (ls : Array Slot) (h : F_X7_ahead_b74 s0 M = some out) (hI : z_I G s M H locs) (hl : lv_has ls 5 [(0, .ref (z_ad G 21 0))]) : W p l e (z_rm 4) s m args below meth c H locs 0 0 (MQ below (z_Q G (some (.int out.1)) out.2) args s 0 0 (z_A G)) (F0 m 74 ls [.int s0]) := by
  obtain ⟨⟨hx, hb, hml, hown, hts⟩, hr, hlk⟩ := id hc
  unfold F_X7_ahead_b74 at h
  refine lv_istore (lv' := [(4, .int s0), (0, .ref (z_ad G 21 0))]) hx hb dX7_ahead_74 hl (by decide) rfl (fun ls hl => ?_)
  refine lv_aload_n hx hb dX7_ahead_76 rfl (lv_at hl 1 rfl) ?_
  obtain ⟨q15, e16, h⟩ := z_bnd h
  refine iv_X7_222 hc hI (c_X7_takeBack e16) (z_room (by decide) (by decide)) hl.1 (Nat.le_of_ble_eq_true rfl) ⟨Nat.zero_le _, Nat.zero_le _⟩ dX7_ahead_77 (fun H locs hI => ?_)
  refine lv_iload hx hb dX7_ahead_80 (lv_at hl 0 rfl) ?_
  obtain rfl := Option.some.inj h
  exact z_ri hc hI dX7_ahead_82
set_option maxRecDepth 100000 in
set_option maxHeartbeats 4000000 in
theorem w_X7_ahead_b37 (hc : z_C p s m args meth c RX7 cX7_ahead 5 (some .int)) {out : (Int32 × z_M)} : ∀ (n : Nat) (v1 : Int32) (v2 : Int32) (v3 : Int32) (v4 : Int32) (M : z_M) (H : Heap) (locs : List Loc) (ls : Array Slot) (h : F_X7_ahead_b37 n v1 v2 v3 v4 M = some out) (hI : z_I G s M H locs) (hl : lv_has ls 5 [(0, .ref (z_ad G 21 0)), (1, .int v1), (2, .int v2), (3, .int v3), (4, .int v4)]), W p l e (z_rm 4) s m args below meth c H locs 0 0 (MQ below (z_Q G (some (.int out.1)) out.2) args s 0 0 (z_A G)) (F0 m 37 ls []) := by
  obtain ⟨⟨hx, hb, hml, hown, hts⟩, hr, hlk⟩ := id hc
  intro n
  induction n with
  | zero => intro v1 v2 v3 v4 M H locs ls h; cases h
  | succ n ih =>
    intro v1 v2 v3 v4 M H locs ls h hI hl
    rw [F_X7_ahead_b37] at h
    refine lv_iload hx hb dX7_ahead_37 (lv_at hl 4 rfl) ?_
    refine lv_iload_n hx hb dX7_ahead_39 rfl (lv_at hl 2 rfl) ?_
    refine lv_icmp_ge (tgt := 53) hx hb dX7_ahead_40 (by decide) (fun c12 => ?_) (fun c12 => ?_)
    · replace h := z_ift h c12
      refine lv_iload_n hx hb dX7_ahead_53 rfl (lv_at hl 3 rfl) ?_
      refine lv_if_ne (tgt := 65) hx hb dX7_ahead_54 (by decide) (fun c13 => ?_) (fun c13 => ?_)
      · replace h := z_iff h c13
        refine lv_aload_n hx hb dX7_ahead_65 rfl (lv_at hl 0 rfl) ?_
        refine gf_X7_19 hc hI dX7_ahead_66 ?_
        refine lv_bipush (v := 21) hx hb dX7_ahead_69 (by decide) ?_
        refine lv_iload_n hx hb dX7_ahead_71 rfl (lv_at hl 1 rfl) ?_
        refine lv_iadd hx hb dX7_ahead_72 ?_
        obtain ⟨g14, h⟩ := z_grd_some h
        refine ld_k25 hc hI g14 dX7_ahead_73 ?_
        exact w_X7_ahead_b74 hc (z_gi M 25 0 ((21 : Int32) + v1).toNatClampNeg) _ _ _ _ h hI (lv_sub hl [0] rfl)
      · replace h := z_ift h c13
        refine lv_aload_n hx hb dX7_ahead_57 rfl (lv_at hl 0 rfl) ?_
        refine lv_iload_n hx hb dX7_ahead_58 rfl (lv_at hl 1 rfl) ?_
        obtain ⟨q17, e18, h⟩ := z_bnd h
        refine iv_X7_160 hc hI (c_X7_toneOf e18) (z_room (by decide) (by decide)) hl.1 (Nat.le_of_ble_eq_true rfl) ⟨Nat.zero_le _, Nat.zero_le _⟩ dX7_ahead_59 (fun H locs hI => ?_)
        refine lv_goto (tgt := 74) hx hb dX7_ahead_62 (by decide) ?_
        exact w_X7_ahead_b74 hc q17 _ _ _ _ h hI (lv_sub hl [0] rfl)
    · replace h := z_iff h c12
      refine lv_aload_n hx hb dX7_ahead_43 rfl (lv_at hl 0 rfl) ?_
      obtain ⟨q19, e20, h⟩ := z_bnd h
      refine iv_X7_178 hc hI (c_X7_oneDay e20) (z_room (by decide) (by decide)) hl.1 (Nat.le_of_ble_eq_true rfl) ⟨Nat.zero_le _, Nat.zero_le _⟩ dX7_ahead_44 (fun H locs hI => ?_)
      refine lv_iinc (v := v4 + 1) (lv' := [(4, .int (v4 + 1)), (0, .ref (z_ad G 21 0)), (1, .int v1), (2, .int v2), (3, .int v3)]) hx hb dX7_ahead_47 hl (k := 4) rfl rfl (by decide) rfl (fun ls hl => ?_)
      refine lv_goto (tgt := 37) hx hb dX7_ahead_50 (by decide) ?_
      exact ih v1 v2 v3 (v4 + 1) _ _ _ _ h hI (lv_sub hl [1, 2, 3, 4, 0] rfl)
set_option maxRecDepth 100000 in
set_option maxHeartbeats 4000000 in
theorem c_X7_ahead {G : z_G} {l : Launch} {a1 : Int32} {a2 : Int32} {a3 : Int32} {M : z_M} {out : (Int32 × z_M)} (h : F_X7_ahead a1 a2 a3 M = some out) : z_Met G l yX7_ahead cX7_ahead 5 (some .int) 4 [.ref (z_ad G 21 0), .int a1, .int a2, .int a3] M (some (.int out.1)) out.2 := by
  unfold F_X7_ahead at h
  refine z_met_of (by decide) rfl (Nat.le_of_ble_eq_true rfl) (fun p e s m below meth c ls hc hI hl => ?_)
  obtain ⟨⟨hx, hb, hml, hown, hts⟩, hr, hlk⟩ := id hc
  have hl : lv_has ls 5 [(0, .ref (z_ad G 21 0)), (1, .int a1), (2, .int a2), (3, .int a3)] := hl
  refine lv_aload_n hx hb dX7_ahead_0 rfl (lv_at hl 0 rfl) ?_
  refine lv_iload_n hx hb dX7_ahead_1 rfl (lv_at hl 1 rfl) ?_
  obtain ⟨q1, e2, h⟩ := z_bnd h
  refine iv_X7_185 hc hI (c_X7_isTread e2) (z_room (by decide) (by decide)) hl.1 (Nat.le_of_ble_eq_true rfl) ⟨Nat.zero_le _, Nat.zero_le _⟩ dX7_ahead_2 (fun H locs hI => ?_)
  refine lv_if_eq (tgt := 27) hx hb dX7_ahead_5 (by decide) (fun c3 => ?_) (fun c3 => ?_)
  · replace h := z_ift h c3
    refine lv_ldc (v := (-1000001)) hx hb hown (hts _ wd_5_5) dX7_ahead_27 ?_
    obtain rfl := Option.some.inj h
    exact z_ri hc hI dX7_ahead_29
  · replace h := z_iff h c3
    refine lv_iload_n hx hb dX7_ahead_8 rfl (lv_at hl 2 rfl) ?_
    refine lv_i2l (v := a2.toInt64) hx hb dX7_ahead_9 rfl ?_
    refine lv_lconst (v := 0) hx hb dX7_ahead_10 (by decide) ?_
    refine lv_ldc2 (v := 60) hx hb hown (hts _ wd_5_208) dX7_ahead_11 ?_
    obtain ⟨q4, e5, h⟩ := z_bnd h
    refine iv_X7_54 hc hI (c_X7_in e5) (z_room (by decide) (by decide)) hl.1 (Nat.le_of_ble_eq_true rfl) ⟨Nat.zero_le _, Nat.zero_le _⟩ dX7_ahead_14 (fun H locs hI => ?_)
    refine lv_if_eq (tgt := 27) hx hb dX7_ahead_17 (by decide) (fun c6 => ?_) (fun c6 => ?_)
    · replace h := z_ift h c6
      refine lv_ldc (v := (-1000001)) hx hb hown (hts _ wd_5_5) dX7_ahead_27 ?_
      obtain rfl := Option.some.inj h
      exact z_ri hc hI dX7_ahead_29
    · replace h := z_iff h c6
      refine lv_iload_n hx hb dX7_ahead_20 rfl (lv_at hl 3 rfl) ?_
      obtain ⟨q7, e8, h⟩ := z_bnd h
      refine iv_X7_216 hc hI (c_X7_isWhat e8) (z_room (by decide) (by decide)) hl.1 (Nat.le_of_ble_eq_true rfl) ⟨Nat.zero_le _, Nat.zero_le _⟩ dX7_ahead_21 (fun H locs hI => ?_)
      refine lv_if_ne (tgt := 30) hx hb dX7_ahead_24 (by decide) (fun c9 => ?_) (fun c9 => ?_)
      · replace h := z_iff h c9
        refine lv_aload_n hx hb dX7_ahead_30 rfl (lv_at hl 0 rfl) ?_
        obtain ⟨q10, e11, h⟩ := z_bnd h
        refine iv_X7_219 hc hI (c_X7_putAside e11) (z_room (by decide) (by decide)) hl.1 (Nat.le_of_ble_eq_true rfl) ⟨Nat.zero_le _, Nat.zero_le _⟩ dX7_ahead_31 (fun H locs hI => ?_)
        refine lv_iconst (v := 0) hx hb dX7_ahead_34 (by decide) ?_
        refine lv_istore (lv' := [(4, .int 0), (0, .ref (z_ad G 21 0)), (1, .int a1), (2, .int a2), (3, .int a3)]) hx hb dX7_ahead_35 hl (by decide) rfl (fun ls hl => ?_)
        exact w_X7_ahead_b37 hc _ a1 a2 a3 0 _ _ _ _ h hI (lv_sub hl [1, 2, 3, 4, 0] rfl)
      · replace h := z_ift h c9
        refine lv_ldc (v := (-1000001)) hx hb hown (hts _ wd_5_5) dX7_ahead_27 ?_
        obtain rfl := Option.some.inj h
        exact z_ri hc hI dX7_ahead_29
set_option maxRecDepth 100000 in
set_option maxHeartbeats 4000000 in
theorem c_X7_length {G : z_G} {l : Launch} {a1 : Int32} {M : z_M} {out : Int32} (h : F_X7_length a1 M = some out) : z_Met G l yX7_length cX7_length 2 (some .int) 3 [.ref (z_ad G 21 0), .int a1] M (some (.int out)) M := by
  unfold F_X7_length at h
  refine z_met_of (by decide) rfl (Nat.le_of_ble_eq_true rfl) (fun p e s m below meth c ls hc hI hl => ?_)
  obtain ⟨⟨hx, hb, hml, hown, hts⟩, hr, hlk⟩ := id hc
  have hl : lv_has ls 2 [(0, .ref (z_ad G 21 0)), (1, .int a1)] := hl
  refine lv_aload_n hx hb dX7_length_0 rfl (lv_at hl 0 rfl) ?_
  refine lv_iload_n hx hb dX7_length_1 rfl (lv_at hl 1 rfl) ?_
  obtain ⟨q1, e2, h⟩ := z_bnd h
  refine iv_X7_194 hc hI (c_X7_isWalker e2) (z_room (by decide) (by decide)) hl.1 (Nat.le_of_ble_eq_true rfl) ⟨Nat.zero_le _, Nat.zero_le _⟩ dX7_length_2 (fun H locs hI => ?_)
  refine lv_if_eq (tgt := 16) hx hb dX7_length_5 (by decide) (fun c3 => ?_) (fun c3 => ?_)
  · replace h := z_ift h c3
    refine lv_ldc (v := (-1000001)) hx hb hown (hts _ wd_5_5) dX7_length_16 ?_
    obtain rfl := Option.some.inj h
    exact z_ri hc hI dX7_length_18
  · replace h := z_iff h c3
    refine lv_aload_n hx hb dX7_length_8 rfl (lv_at hl 0 rfl) ?_
    refine lv_iload_n hx hb dX7_length_9 rfl (lv_at hl 1 rfl) ?_
    obtain ⟨q4, e5, h⟩ := z_bnd h
    refine iv_X7_150 hc hI (c_X7_longOf e5) (z_room (by decide) (by decide)) hl.1 (Nat.le_of_ble_eq_true rfl) ⟨Nat.zero_le _, Nat.zero_le _⟩ dX7_length_10 (fun H locs hI => ?_)
    refine lv_goto (tgt := 18) hx hb dX7_length_13 (by decide) ?_
    obtain rfl := Option.some.inj h
    exact z_ri hc hI dX7_length_18
set_option maxRecDepth 100000 in
set_option maxHeartbeats 4000000 in
theorem w_X7_meet_b109 {M : z_M} (hc : z_C p s m args meth c RX7 cX7_meet 7 (some .int)) {out : Int32} {K26 : Int32 → Int32 → Int32 → Option Int32} (hK26 : ∀ (v1 : Int32) (v2 : Int32) (v3 : Int32) (H : Heap) (locs : List Loc) (ls : Array Slot), K26 v1 v2 v3 = some out → z_I G s M H locs → lv_has ls 7 [(0, .ref (z_ad G 21 0)), (1, .int v1), (2, .int v2), (3, .int v3)] → W p l e (z_rm 4) s m args below meth c H locs 0 0 (MQ below (z_Q G (some (.int out)) M) args s 0 0 (z_A G)) (F0 m 26 ls [])) (v1 : Int32) (v2 : Int32) (v3 : Int32) (H : Heap) (locs : List Loc) (ls : Array Slot) (h : F_X7_meet_b109 M K26 v1 v2 v3 = some out) (hI : z_I G s M H locs) (hl : lv_has ls 7 [(0, .ref (z_ad G 21 0)), (1, .int v1), (2, .int v2), (3, .int v3)]) : W p l e (z_rm 4) s m args below meth c H locs 0 0 (MQ below (z_Q G (some (.int out)) M) args s 0 0 (z_A G)) (F0 m 109 ls []) := by
  obtain ⟨⟨hx, hb, hml, hown, hts⟩, hr, hlk⟩ := id hc
  unfold F_X7_meet_b109 at h
  refine lv_iinc (v := v3 + 1) (lv' := [(3, .int (v3 + 1)), (0, .ref (z_ad G 21 0)), (1, .int v1), (2, .int v2)]) hx hb dX7_meet_109 hl (k := 3) rfl rfl (by decide) rfl (fun ls hl => ?_)
  refine lv_goto (tgt := 26) hx hb dX7_meet_112 (by decide) ?_
  exact hK26 v1 v2 (v3 + 1) _ _ _ h hI (lv_sub hl [1, 2, 3, 0] rfl)
set_option maxRecDepth 100000 in
set_option maxHeartbeats 4000000 in
theorem w_X7_meet_b83 {M : z_M} (hc : z_C p s m args meth c RX7 cX7_meet 7 (some .int)) {out : Int32} {K26 : Int32 → Int32 → Int32 → Option Int32} (hK26 : ∀ (v1 : Int32) (v2 : Int32) (v3 : Int32) (H : Heap) (locs : List Loc) (ls : Array Slot), K26 v1 v2 v3 = some out → z_I G s M H locs → lv_has ls 7 [(0, .ref (z_ad G 21 0)), (1, .int v1), (2, .int v2), (3, .int v3)] → W p l e (z_rm 4) s m args below meth c H locs 0 0 (MQ below (z_Q G (some (.int out)) M) args s 0 0 (z_A G)) (F0 m 26 ls [])) (v1 : Int32) (v2 : Int32) (v3 : Int32) (v4 : Int32) (v5 : Int32) (s0 : Int32) (H : Heap) (locs : List Loc) (ls : Array Slot) (h : F_X7_meet_b83 M K26 v1 v2 v3 v4 v5 s0 = some out) (hI : z_I G s M H locs) (hl : lv_has ls 7 [(0, .ref (z_ad G 21 0)), (1, .int v1), (2, .int v2), (3, .int v3), (4, .int v4), (5, .int v5)]) : W p l e (z_rm 4) s m args below meth c H locs 0 0 (MQ below (z_Q G (some (.int out)) M) args s 0 0 (z_A G)) (F0 m 83 ls [.int s0]) := by
  obtain ⟨⟨hx, hb, hml, hown, hts⟩, hr, hlk⟩ := id hc
  unfold F_X7_meet_b83 at h
  refine lv_istore (lv' := [(6, .int s0), (0, .ref (z_ad G 21 0)), (1, .int v1), (2, .int v2), (3, .int v3), (4, .int v4), (5, .int v5)]) hx hb dX7_meet_83 hl (by decide) rfl (fun ls hl => ?_)
  refine lv_iload hx hb dX7_meet_85 (lv_at hl 5 rfl) ?_
  refine lv_if_lt (tgt := 109) hx hb dX7_meet_87 (by decide) (fun c14 => ?_) (fun c14 => ?_)
  · replace h := z_ift h c14
    exact w_X7_meet_b109 hc hK26 v1 v2 v3 _ _ _ h hI (lv_sub hl [1, 2, 3, 4] rfl)
  · replace h := z_iff h c14
    refine lv_iload hx hb dX7_meet_90 (lv_at hl 6 rfl) ?_
    refine lv_if_lt (tgt := 109) hx hb dX7_meet_92 (by decide) (fun c15 => ?_) (fun c15 => ?_)
    · replace h := z_ift h c15
      exact w_X7_meet_b109 hc hK26 v1 v2 v3 _ _ _ h hI (lv_sub hl [1, 2, 3, 4] rfl)
    · replace h := z_iff h c15
      refine lv_iload hx hb dX7_meet_95 (lv_at hl 5 rfl) ?_
      refine lv_iload hx hb dX7_meet_97 (lv_at hl 6 rfl) ?_
      refine lv_icmp_eq (tgt := 107) hx hb dX7_meet_99 (by decide) (fun c16 => ?_) (fun c16 => ?_)
      · replace h := z_ift h c16
        refine lv_iload_n hx hb dX7_meet_107 rfl (lv_at hl 4 rfl) ?_
        obtain rfl := Option.some.inj h
        exact z_ri hc hI dX7_meet_108
      · replace h := z_iff h c16
        refine lv_iload hx hb dX7_meet_102 (lv_at hl 0 rfl) ?_
        refine lv_if_eq (tgt := 109) hx hb dX7_meet_104 (by decide) (fun c17 => ?_) (fun c17 => ?_)
        · replace h := z_ift h c17
          exact w_X7_meet_b109 hc hK26 v1 v2 v3 _ _ _ h hI (lv_sub hl [1, 2, 3, 4] rfl)
        · replace h := z_iff h c17
          refine lv_iload_n hx hb dX7_meet_107 rfl (lv_at hl 4 rfl) ?_
          obtain rfl := Option.some.inj h
          exact z_ri hc hI dX7_meet_108
set_option maxRecDepth 100000 in
set_option maxHeartbeats 4000000 in
theorem w_X7_meet_b82 {M : z_M} (hc : z_C p s m args meth c RX7 cX7_meet 7 (some .int)) {out : Int32} {K26 : Int32 → Int32 → Int32 → Option Int32} (hK26 : ∀ (v1 : Int32) (v2 : Int32) (v3 : Int32) (H : Heap) (locs : List Loc) (ls : Array Slot), K26 v1 v2 v3 = some out → z_I G s M H locs → lv_has ls 7 [(0, .ref (z_ad G 21 0)), (1, .int v1), (2, .int v2), (3, .int v3)] → W p l e (z_rm 4) s m args below meth c H locs 0 0 (MQ below (z_Q G (some (.int out)) M) args s 0 0 (z_A G)) (F0 m 26 ls [])) (v1 : Int32) (v2 : Int32) (v3 : Int32) (v4 : Int32) (v5 : Int32) (H : Heap) (locs : List Loc) (ls : Array Slot) (h : F_X7_meet_b82 M K26 v1 v2 v3 v4 v5 = some out) (hI : z_I G s M H locs) (hl : lv_has ls 7 [(0, .ref (z_ad G 21 0)), (1, .int v1), (2, .int v2), (3, .int v3), (4, .int v4), (5, .int v5)]) : W p l e (z_rm 4) s m args below meth c H locs 0 0 (MQ below (z_Q G (some (.int out)) M) args s 0 0 (z_A G)) (F0 m 82 ls []) := by
  obtain ⟨⟨hx, hb, hml, hown, hts⟩, hr, hlk⟩ := id hc
  unfold F_X7_meet_b82 at h
  refine lv_iconst (v := 0) hx hb dX7_meet_82 (by decide) ?_
  exact w_X7_meet_b83 hc hK26 v1 v2 v3 v4 v5 0 _ _ _ h hI hl
set_option maxRecDepth 100000 in
set_option maxHeartbeats 4000000 in
theorem w_X7_meet_b26 {M : z_M} (hc : z_C p s m args meth c RX7 cX7_meet 7 (some .int)) {out : Int32} : ∀ (n : Nat) (v1 : Int32) (v2 : Int32) (v3 : Int32) (H : Heap) (locs : List Loc) (ls : Array Slot) (h : F_X7_meet_b26 M n v1 v2 v3 = some out) (hI : z_I G s M H locs) (hl : lv_has ls 7 [(0, .ref (z_ad G 21 0)), (1, .int v1), (2, .int v2), (3, .int v3)]), W p l e (z_rm 4) s m args below meth c H locs 0 0 (MQ below (z_Q G (some (.int out)) M) args s 0 0 (z_A G)) (F0 m 26 ls []) := by
  obtain ⟨⟨hx, hb, hml, hown, hts⟩, hr, hlk⟩ := id hc
  intro n
  induction n with
  | zero => intro v1 v2 v3 H locs ls h; cases h
  | succ n ih =>
    intro v1 v2 v3 H locs ls h hI hl
    rw [F_X7_meet_b26] at h
    refine lv_iload_n hx hb dX7_meet_26 rfl (lv_at hl 3 rfl) ?_
    refine lv_bipush (v := 30) hx hb dX7_meet_27 (by decide) ?_
    refine lv_icmp_ge (tgt := 115) hx hb dX7_meet_29 (by decide) (fun c8 => ?_) (fun c8 => ?_)
    · replace h := z_ift h c8
      refine lv_ldc (v := (-1000000)) hx hb hown (hts _ wd_5_183) dX7_meet_115 ?_
      obtain rfl := Option.some.inj h
      exact z_ri hc hI dX7_meet_117
    · replace h := z_iff h c8
      refine lv_aload_n hx hb dX7_meet_32 rfl (lv_at hl 0 rfl) ?_
      refine lv_iload_n hx hb dX7_meet_33 rfl (lv_at hl 1 rfl) ?_
      refine lv_iload_n hx hb dX7_meet_34 rfl (lv_at hl 3 rfl) ?_
      obtain ⟨q9, e10, h⟩ := z_bnd h
      refine iv_X7_166 hc hI (c_X7_at e10) (z_room (by decide) (by decide)) hl.1 (Nat.le_of_ble_eq_true rfl) ⟨Nat.zero_le _, Nat.zero_le _⟩ dX7_meet_35 (fun H locs hI => ?_)
      refine lv_istore (lv' := [(4, .int q9), (0, .ref (z_ad G 21 0)), (1, .int v1), (2, .int v2), (3, .int v3)]) hx hb dX7_meet_38 hl (by decide) rfl (fun ls hl => ?_)
      refine lv_aload_n hx hb dX7_meet_40 rfl (lv_at hl 1 rfl) ?_
      refine lv_iload_n hx hb dX7_meet_41 rfl (lv_at hl 3 rfl) ?_
      refine lv_iload_n hx hb dX7_meet_42 rfl (lv_at hl 4 rfl) ?_
      obtain ⟨q11, e12, h⟩ := z_bnd h
      refine iv_X7_166 hc hI (c_X7_at e12) (z_room (by decide) (by decide)) hl.1 (Nat.le_of_ble_eq_true rfl) ⟨Nat.zero_le _, Nat.zero_le _⟩ dX7_meet_43 (fun H locs hI => ?_)
      refine lv_istore (lv' := [(5, .int q11), (4, .int q9), (0, .ref (z_ad G 21 0)), (1, .int v1), (2, .int v2), (3, .int v3)]) hx hb dX7_meet_46 hl (by decide) rfl (fun ls hl => ?_)
      refine lv_iload_n hx hb dX7_meet_48 rfl (lv_at hl 5 rfl) ?_
      refine lv_if_le (tgt := 82) hx hb dX7_meet_49 (by decide) (fun c13 => ?_) (fun c13 => ?_)
      · replace h := z_ift h c13
        exact w_X7_meet_b82 hc ih v1 v2 v3 q9 q11 _ _ _ h hI (lv_sub hl [2, 3, 4, 5, 1, 0] rfl)
      · replace h := z_iff h c13
        refine lv_iload hx hb dX7_meet_52 (lv_at hl 1 rfl) ?_
        refine lv_aload_n hx hb dX7_meet_54 rfl (lv_at hl 2 rfl) ?_
        refine lv_iload_n hx hb dX7_meet_55 rfl (lv_at hl 4 rfl) ?_
        refine lv_iload_n hx hb dX7_meet_56 rfl (lv_at hl 5 rfl) ?_
        refine lv_iconst (v := 1) hx hb dX7_meet_57 (by decide) ?_
        refine lv_isub hx hb dX7_meet_58 ?_
        obtain ⟨q18, e19, h⟩ := z_bnd h
        refine iv_X7_166 hc hI (c_X7_at e19) (z_room (by decide) (by decide)) hl.1 (Nat.le_of_ble_eq_true rfl) ⟨Nat.zero_le _, Nat.zero_le _⟩ dX7_meet_59 (fun H locs hI => ?_)
        refine lv_icmp_ne (tgt := 82) hx hb dX7_meet_62 (by decide) (fun c20 => ?_) (fun c20 => ?_)
        · replace h := z_iff h c20
          exact w_X7_meet_b82 hc ih v1 v2 v3 q9 q11 _ _ _ h hI (lv_sub hl [2, 3, 4, 5, 1, 0] rfl)
        · replace h := z_ift h c20
          refine lv_iload hx hb dX7_meet_65 (lv_at hl 0 rfl) ?_
          refine lv_aload_n hx hb dX7_meet_67 rfl (lv_at hl 2 rfl) ?_
          refine lv_iload_n hx hb dX7_meet_68 rfl (lv_at hl 3 rfl) ?_
          refine lv_iload_n hx hb dX7_meet_69 rfl (lv_at hl 5 rfl) ?_
          refine lv_iconst (v := 1) hx hb dX7_meet_70 (by decide) ?_
          refine lv_isub hx hb dX7_meet_71 ?_
          obtain ⟨q21, e22, h⟩ := z_bnd h
          refine iv_X7_166 hc hI (c_X7_at e22) (z_room (by decide) (by decide)) hl.1 (Nat.le_of_ble_eq_true rfl) ⟨Nat.zero_le _, Nat.zero_le _⟩ dX7_meet_72 (fun H locs hI => ?_)
          refine lv_icmp_ne (tgt := 82) hx hb dX7_meet_75 (by decide) (fun c23 => ?_) (fun c23 => ?_)
          · replace h := z_iff h c23
            exact w_X7_meet_b82 hc ih v1 v2 v3 q9 q11 _ _ _ h hI (lv_sub hl [2, 3, 4, 5, 1, 0] rfl)
          · replace h := z_ift h c23
            refine lv_iconst (v := 1) hx hb dX7_meet_78 (by decide) ?_
            refine lv_goto (tgt := 83) hx hb dX7_meet_79 (by decide) ?_
            exact w_X7_meet_b83 hc ih v1 v2 v3 q9 q11 1 _ _ _ h hI (lv_sub hl [2, 3, 4, 5, 1, 0] rfl)
set_option maxRecDepth 100000 in
set_option maxHeartbeats 4000000 in
theorem c_X7_meet {G : z_G} {l : Launch} {a1 : Int32} {a2 : Int32} {M : z_M} {out : Int32} (h : F_X7_meet a1 a2 M = some out) : z_Met G l yX7_meet cX7_meet 7 (some .int) 4 [.ref (z_ad G 21 0), .int a1, .int a2] M (some (.int out)) M := by
  unfold F_X7_meet at h
  refine z_met_of (by decide) rfl (Nat.le_of_ble_eq_true rfl) (fun p e s m below meth c ls hc hI hl => ?_)
  obtain ⟨⟨hx, hb, hml, hown, hts⟩, hr, hlk⟩ := id hc
  have hl : lv_has ls 7 [(0, .ref (z_ad G 21 0)), (1, .int a1), (2, .int a2)] := hl
  refine lv_aload_n hx hb dX7_meet_0 rfl (lv_at hl 0 rfl) ?_
  refine lv_iload_n hx hb dX7_meet_1 rfl (lv_at hl 1 rfl) ?_
  obtain ⟨q1, e2, h⟩ := z_bnd h
  refine iv_X7_194 hc hI (c_X7_isWalker e2) (z_room (by decide) (by decide)) hl.1 (Nat.le_of_ble_eq_true rfl) ⟨Nat.zero_le _, Nat.zero_le _⟩ dX7_meet_2 (fun H locs hI => ?_)
  refine lv_if_eq (tgt := 21) hx hb dX7_meet_5 (by decide) (fun c3 => ?_) (fun c3 => ?_)
  · replace h := z_ift h c3
    refine lv_ldc (v := (-1000001)) hx hb hown (hts _ wd_5_5) dX7_meet_21 ?_
    obtain rfl := Option.some.inj h
    exact z_ri hc hI dX7_meet_23
  · replace h := z_iff h c3
    refine lv_aload_n hx hb dX7_meet_8 rfl (lv_at hl 0 rfl) ?_
    refine lv_iload_n hx hb dX7_meet_9 rfl (lv_at hl 2 rfl) ?_
    obtain ⟨q4, e5, h⟩ := z_bnd h
    refine iv_X7_194 hc hI (c_X7_isWalker e5) (z_room (by decide) (by decide)) hl.1 (Nat.le_of_ble_eq_true rfl) ⟨Nat.zero_le _, Nat.zero_le _⟩ dX7_meet_10 (fun H locs hI => ?_)
    refine lv_if_eq (tgt := 21) hx hb dX7_meet_13 (by decide) (fun c6 => ?_) (fun c6 => ?_)
    · replace h := z_ift h c6
      refine lv_ldc (v := (-1000001)) hx hb hown (hts _ wd_5_5) dX7_meet_21 ?_
      obtain rfl := Option.some.inj h
      exact z_ri hc hI dX7_meet_23
    · replace h := z_iff h c6
      refine lv_iload_n hx hb dX7_meet_16 rfl (lv_at hl 1 rfl) ?_
      refine lv_iload_n hx hb dX7_meet_17 rfl (lv_at hl 2 rfl) ?_
      refine lv_icmp_ne (tgt := 24) hx hb dX7_meet_18 (by decide) (fun c7 => ?_) (fun c7 => ?_)
      · replace h := z_iff h c7
        refine lv_iconst (v := 0) hx hb dX7_meet_24 (by decide) ?_
        refine lv_istore_n (lv' := [(3, .int 0), (0, .ref (z_ad G 21 0)), (1, .int a1), (2, .int a2)]) hx hb dX7_meet_25 rfl hl (by decide) rfl (fun ls hl => ?_)
        exact w_X7_meet_b26 hc _ a1 a2 0 _ _ _ h hI (lv_sub hl [1, 2, 3, 0] rfl)
      · replace h := z_ift h c7
        refine lv_ldc (v := (-1000001)) hx hb hown (hts _ wd_5_5) dX7_meet_21 ?_
        obtain rfl := Option.some.inj h
        exact z_ri hc hI dX7_meet_23
set_option maxRecDepth 100000 in
set_option maxHeartbeats 4000000 in
theorem w_X7_allIn_b62 {M : z_M} (hc : z_C p s m args meth c RX7 cX7_allIn 6 (some .int)) {out : Int32} {K4 : Int32 → Int32 → Int32 → Option Int32} (hK4 : ∀ (v1 : Int32) (v2 : Int32) (v3 : Int32) (H : Heap) (locs : List Loc) (ls : Array Slot), K4 v1 v2 v3 = some out → z_I G s M H locs → lv_has ls 6 [(0, .ref (z_ad G 21 0)), (1, .int v1), (2, .int v2), (3, .int v3)] → W p l e (z_rm 4) s m args below meth c H locs 0 0 (MQ below (z_Q G (some (.int out)) M) args s 0 0 (z_A G)) (F0 m 4 ls [])) (v1 : Int32) (v3 : Int32) (s0 : Int32) (s1 : Int32) (H : Heap) (locs : List Loc) (ls : Array Slot) (h : F_X7_allIn_b62 M K4 v1 v3 s0 s1 = some out) (hI : z_I G s M H locs) (hl : lv_has ls 6 [(0, .ref (z_ad G 21 0)), (1, .int v1), (3, .int v3)]) : W p l e (z_rm 4) s m args below meth c H locs 0 0 (MQ below (z_Q G (some (.int out)) M) args s 0 0 (z_A G)) (F0 m 62 ls [.int s0, .int s1]) := by
  obtain ⟨⟨hx, hb, hml, hown, hts⟩, hr, hlk⟩ := id hc
  unfold F_X7_allIn_b62 at h
  refine lv_ior hx hb dX7_allIn_62 ?_
  refine z_nI h (fun x10 h => ?_)
  refine lv_istore_n (lv' := [(2, .int x10), (0, .ref (z_ad G 21 0)), (1, .int v1), (3, .int v3)]) hx hb dX7_allIn_63 rfl hl (by decide) rfl (fun ls hl => ?_)
  refine lv_iinc (v := v3 + 1) (lv' := [(3, .int (v3 + 1)), (2, .int x10), (0, .ref (z_ad G 21 0)), (1, .int v1)]) hx hb dX7_allIn_64 hl (k := 3) rfl rfl (by decide) rfl (fun ls hl => ?_)
  refine lv_goto (tgt := 4) hx hb dX7_allIn_67 (by decide) ?_
  exact hK4 v1 x10 (v3 + 1) _ _ _ h hI (lv_sub hl [2, 3, 1, 0] rfl)
set_option maxRecDepth 100000 in
set_option maxHeartbeats 4000000 in
theorem w_X7_allIn_b46 {M : z_M} (hc : z_C p s m args meth c RX7 cX7_allIn 6 (some .int)) {out : Int32} {K4 : Int32 → Int32 → Int32 → Option Int32} (hK4 : ∀ (v1 : Int32) (v2 : Int32) (v3 : Int32) (H : Heap) (locs : List Loc) (ls : Array Slot), K4 v1 v2 v3 = some out → z_I G s M H locs → lv_has ls 6 [(0, .ref (z_ad G 21 0)), (1, .int v1), (2, .int v2), (3, .int v3)] → W p l e (z_rm 4) s m args below meth c H locs 0 0 (MQ below (z_Q G (some (.int out)) M) args s 0 0 (z_A G)) (F0 m 4 ls [])) (v1 : Int32) (v2 : Int32) (v3 : Int32) (s0 : Int32) (H : Heap) (locs : List Loc) (ls : Array Slot) (h : F_X7_allIn_b46 M K4 v1 v2 v3 s0 = some out) (hI : z_I G s M H locs) (hl : lv_has ls 6 [(0, .ref (z_ad G 21 0)), (1, .int v1), (2, .int v2), (3, .int v3)]) : W p l e (z_rm 4) s m args below meth c H locs 0 0 (MQ below (z_Q G (some (.int out)) M) args s 0 0 (z_A G)) (F0 m 46 ls [.int s0]) := by
  obtain ⟨⟨hx, hb, hml, hown, hts⟩, hr, hlk⟩ := id hc
  unfold F_X7_allIn_b46 at h
  refine lv_istore (lv' := [(5, .int s0), (0, .ref (z_ad G 21 0)), (1, .int v1), (2, .int v2), (3, .int v3)]) hx hb dX7_allIn_46 hl (by decide) rfl (fun ls hl => ?_)
  refine lv_iload_n hx hb dX7_allIn_48 rfl (lv_at hl 3 rfl) ?_
  refine lv_iload hx hb dX7_allIn_49 (lv_at hl 0 rfl) ?_
  refine lv_if_lt (tgt := 61) hx hb dX7_allIn_51 (by decide) (fun c9 => ?_) (fun c9 => ?_)
  · replace h := z_ift h c9
    refine lv_iconst (v := 0) hx hb dX7_allIn_61 (by decide) ?_
    exact w_X7_allIn_b62 hc hK4 v1 v3 0 v2 _ _ _ h hI (lv_sub hl [1, 2, 4] rfl)
  · replace h := z_iff h c9
    refine lv_iconst (v := 1) hx hb dX7_allIn_54 (by decide) ?_
    refine lv_iload hx hb dX7_allIn_55 (lv_at hl 0 rfl) ?_
    refine lv_ishl hx hb dX7_allIn_57 ?_
    refine lv_goto (tgt := 62) hx hb dX7_allIn_58 (by decide) ?_
    exact w_X7_allIn_b62 hc hK4 v1 v3 ((1 : Int32) <<< (s0 &&& 31)) v2 _ _ _ h hI (lv_sub hl [1, 2, 4] rfl)
set_option maxRecDepth 100000 in
set_option maxHeartbeats 4000000 in
theorem w_X7_allIn_b4 {M : z_M} (hc : z_C p s m args meth c RX7 cX7_allIn 6 (some .int)) {out : Int32} : ∀ (n : Nat) (v1 : Int32) (v2 : Int32) (v3 : Int32) (H : Heap) (locs : List Loc) (ls : Array Slot) (h : F_X7_allIn_b4 M n v1 v2 v3 = some out) (hI : z_I G s M H locs) (hl : lv_has ls 6 [(0, .ref (z_ad G 21 0)), (1, .int v1), (2, .int v2), (3, .int v3)]), W p l e (z_rm 4) s m args below meth c H locs 0 0 (MQ below (z_Q G (some (.int out)) M) args s 0 0 (z_A G)) (F0 m 4 ls []) := by
  obtain ⟨⟨hx, hb, hml, hown, hts⟩, hr, hlk⟩ := id hc
  intro n
  induction n with
  | zero => intro v1 v2 v3 H locs ls h; cases h
  | succ n ih =>
    intro v1 v2 v3 H locs ls h hI hl
    rw [F_X7_allIn_b4] at h
    refine lv_iload_n hx hb dX7_allIn_4 rfl (lv_at hl 3 rfl) ?_
    refine lv_aload_n hx hb dX7_allIn_5 rfl (lv_at hl 0 rfl) ?_
    refine gf_X7_19 hc hI dX7_allIn_6 ?_
    refine lv_iconst (v := 1) hx hb dX7_allIn_9 (by decide) ?_
    obtain ⟨g1, h⟩ := z_grd_some h
    refine ld_k25 hc hI g1 dX7_allIn_10 ?_
    refine lv_icmp_ge (tgt := 70) hx hb dX7_allIn_11 (by decide) (fun c2 => ?_) (fun c2 => ?_)
    · replace h := z_ift h c2
      refine lv_iload_n hx hb dX7_allIn_70 rfl (lv_at hl 2 rfl) ?_
      obtain rfl := Option.some.inj h
      exact z_ri hc hI dX7_allIn_71
    · replace h := z_iff h c2
      refine lv_aload_n hx hb dX7_allIn_14 rfl (lv_at hl 0 rfl) ?_
      refine lv_iload_n hx hb dX7_allIn_15 rfl (lv_at hl 3 rfl) ?_
      refine lv_iload_n hx hb dX7_allIn_16 rfl (lv_at hl 1 rfl) ?_
      obtain ⟨q3, e4, h⟩ := z_bnd h
      refine iv_X7_166 hc hI (c_X7_at e4) (z_room (by decide) (by decide)) hl.1 (Nat.le_of_ble_eq_true rfl) ⟨Nat.zero_le _, Nat.zero_le _⟩ dX7_allIn_17 (fun H locs hI => ?_)
      refine lv_istore (lv' := [(4, .int q3), (0, .ref (z_ad G 21 0)), (1, .int v1), (2, .int v2), (3, .int v3)]) hx hb dX7_allIn_20 hl (by decide) rfl (fun ls hl => ?_)
      refine lv_iload hx hb dX7_allIn_22 (lv_at hl 0 rfl) ?_
      refine lv_if_ge (tgt := 31) hx hb dX7_allIn_24 (by decide) (fun c5 => ?_) (fun c5 => ?_)
      · replace h := z_ift h c5
        refine lv_aload_n hx hb dX7_allIn_31 rfl (lv_at hl 1 rfl) ?_
        refine lv_iload hx hb dX7_allIn_32 (lv_at hl 0 rfl) ?_
        refine lv_aload_n hx hb dX7_allIn_34 rfl (lv_at hl 1 rfl) ?_
        refine gf_X7_19 hc hI dX7_allIn_35 ?_
        refine lv_bipush (v := 39) hx hb dX7_allIn_38 (by decide) ?_
        refine lv_iload_n hx hb dX7_allIn_40 rfl (lv_at hl 4 rfl) ?_
        refine lv_iadd hx hb dX7_allIn_41 ?_
        obtain ⟨g6, h⟩ := z_grd_some h
        refine ld_k25 hc hI g6 dX7_allIn_42 ?_
        obtain ⟨q7, e8, h⟩ := z_bnd h
        refine iv_X7_169 hc hI (c_X7_sound e8) (z_room (by decide) (by decide)) hl.1 (Nat.le_of_ble_eq_true rfl) ⟨Nat.zero_le _, Nat.zero_le _⟩ dX7_allIn_43 (fun H locs hI => ?_)
        exact w_X7_allIn_b46 hc ih v1 v2 v3 q7 _ _ _ h hI (lv_sub hl [1, 2, 3, 4] rfl)
      · replace h := z_iff h c5
        refine lv_iconst (v := (-1)) hx hb dX7_allIn_27 (by decide) ?_
        refine lv_goto (tgt := 46) hx hb dX7_allIn_28 (by decide) ?_
        exact w_X7_allIn_b46 hc ih v1 v2 v3 (-1) _ _ _ h hI (lv_sub hl [1, 2, 3, 4] rfl)
end
