section
variable {p : Program} {l : Launch} {e : Env} {s : State} {m : MethodId} {args : Array Value} {below : List Frame} {meth : Method} {c : Code} {G : z_G}
set_option maxRecDepth 100000 in
set_option maxHeartbeats 4000000 in
theorem c_X3_lookAt {G : z_G} {l : Launch} {M : z_M} {out : z_M} (h : F_X3_lookAt M = some out) : z_Met G l yX3_lookAt cX3_lookAt 2 none 2 [.ref (z_ad G 15 0), .ref (z_ad G 7 24)] M (none) out := by
  unfold F_X3_lookAt at h
  refine z_met_of (by decide) rfl (Nat.le_of_ble_eq_true rfl) (fun p e s m below meth c ls hc hI hl => ?_)
  obtain ⟨⟨hx, hb, hml, hown, hts⟩, hr, hlk⟩ := id hc
  have hl : lv_has ls 2 [(0, .ref (z_ad G 15 0)), (1, .ref (z_ad G 7 24))] := hl
  refine lv_aload_n hx hb dX3_lookAt_0 rfl (lv_at hl 0 rfl) ?_
  refine gf_X3_12 hc hI dX3_lookAt_1 ?_
  refine lv_aload_n hx hb dX3_lookAt_4 rfl (lv_at hl 1 rfl) ?_
  obtain ⟨q1, e2, h⟩ := z_bnd h
  refine iv_X3_29 (by decide) hc hI (c_X5_take (by decide) (o1 := some 24) (fun _ h => by cases h; exact (by decide)) e2) (z_room (by decide) (by decide)) hl.1 (Nat.le_of_ble_eq_true rfl) ⟨Nat.zero_le _, Nat.zero_le _⟩ dX3_lookAt_5 (fun H locs hI => ?_)
  refine lv_aload_n hx hb dX3_lookAt_8 rfl (lv_at hl 0 rfl) ?_
  refine lv_iconst (v := 0) hx hb dX3_lookAt_9 (by decide) ?_
  refine pf_X3_33 hc hI dX3_lookAt_10 (fun H locs hI => ?_)
  obtain rfl := Option.some.inj h
  exact z_rv hc hI dX3_lookAt_13
set_option maxRecDepth 100000 in
set_option maxHeartbeats 4000000 in
theorem c_X3_hearFrom {G : z_G} {l : Launch} {a1 : Int32} {M : z_M} {out : z_M} (h : F_X3_hearFrom a1 M = some out) : z_Met G l yX3_hearFrom cX3_hearFrom 2 none 1 [.ref (z_ad G 15 0), .int a1] M (none) out := by
  unfold F_X3_hearFrom at h
  refine z_met_of (by decide) rfl (Nat.le_of_ble_eq_true rfl) (fun p e s m below meth c ls hc hI hl => ?_)
  obtain ⟨⟨hx, hb, hml, hown, hts⟩, hr, hlk⟩ := id hc
  have hl : lv_has ls 2 [(0, .ref (z_ad G 15 0)), (1, .int a1)] := hl
  refine lv_aload_n hx hb dX3_hearFrom_0 rfl (lv_at hl 0 rfl) ?_
  refine gf_X3_33 hc hI dX3_hearFrom_1 ?_
  refine lv_if_lt (tgt := 36) hx hb dX3_hearFrom_4 (by decide) (fun c1 => ?_) (fun c1 => ?_)
  · replace h := z_ift h c1
    obtain rfl := Option.some.inj h
    exact z_rv hc hI dX3_hearFrom_36
  · replace h := z_iff h c1
    refine lv_aload_n hx hb dX3_hearFrom_7 rfl (lv_at hl 0 rfl) ?_
    refine gf_X3_33 hc hI dX3_hearFrom_8 ?_
    refine lv_bipush (v := 12) hx hb dX3_hearFrom_11 (by decide) ?_
    refine lv_icmp_ge (tgt := 36) hx hb dX3_hearFrom_13 (by decide) (fun c2 => ?_) (fun c2 => ?_)
    · replace h := z_ift h c2
      obtain rfl := Option.some.inj h
      exact z_rv hc hI dX3_hearFrom_36
    · replace h := z_iff h c2
      refine lv_aload_n hx hb dX3_hearFrom_16 rfl (lv_at hl 0 rfl) ?_
      refine gf_X3_18 hc hI dX3_hearFrom_17 ?_
      refine lv_aload_n hx hb dX3_hearFrom_20 rfl (lv_at hl 0 rfl) ?_
      refine gf_X3_33 hc hI dX3_hearFrom_21 ?_
      refine lv_iload_n hx hb dX3_hearFrom_24 rfl (lv_at hl 1 rfl) ?_
      obtain ⟨g3, h⟩ := z_grd_some h
      refine st_k16 hc hI g3 dX3_hearFrom_25 (fun H locs hI => ?_)
      refine lv_aload_n hx hb dX3_hearFrom_26 rfl (lv_at hl 0 rfl) ?_
      refine lv_dup hx hb dX3_hearFrom_27 rfl ?_
      obtain ⟨M4, h, hI⟩ := z_nM h hI
      refine gf_X3_33 hc hI dX3_hearFrom_28 ?_
      refine lv_iconst (v := 1) hx hb dX3_hearFrom_31 (by decide) ?_
      refine lv_iadd hx hb dX3_hearFrom_32 ?_
      refine pf_X3_33 hc hI dX3_hearFrom_33 (fun H locs hI => ?_)
      obtain rfl := Option.some.inj h
      exact z_rv hc hI dX3_hearFrom_36
set_option maxRecDepth 100000 in
set_option maxHeartbeats 4000000 in
theorem w_X3_treadIn_b3 (hc : z_C p s m args meth c RX3 cX3_treadIn 5 (some .int)) {out : (Int32 × z_M)} : ∀ (n : Nat) (v1 : Int32) (v2 : Int32) (v3 : Int32) (v4 : Int32) (M : z_M) (H : Heap) (locs : List Loc) (ls : Array Slot) (h : F_X3_treadIn_b3 n v1 v2 v3 v4 M = some out) (hI : z_I G s M H locs) (hl : lv_has ls 5 [(0, .ref (z_ad G 15 0)), (1, .int v1), (2, .int v2), (3, .int v3), (4, .int v4)]), W p l e (z_rm 5) s m args below meth c H locs 0 0 (MQ below (z_Q G (some (.int out.1)) out.2) args s 0 0 (z_A G)) (F0 m 3 ls []) := by
  obtain ⟨⟨hx, hb, hml, hown, hts⟩, hr, hlk⟩ := id hc
  intro n
  induction n with
  | zero => intro v1 v2 v3 v4 M H locs ls h; cases h
  | succ n ih =>
    intro v1 v2 v3 v4 M H locs ls h hI hl
    rw [F_X3_treadIn_b3] at h
    refine lv_iload hx hb dX3_treadIn_3 (lv_at hl 4 rfl) ?_
    refine lv_iload_n hx hb dX3_treadIn_5 rfl (lv_at hl 2 rfl) ?_
    refine lv_icmp_ge (tgt := 22) hx hb dX3_treadIn_6 (by decide) (fun c1 => ?_) (fun c1 => ?_)
    · replace h := z_ift h c1
      refine lv_iload_n hx hb dX3_treadIn_22 rfl (lv_at hl 3 rfl) ?_
      refine lv_if_ne (tgt := 37) hx hb dX3_treadIn_23 (by decide) (fun c2 => ?_) (fun c2 => ?_)
      · replace h := z_iff h c2
        refine lv_aload_n hx hb dX3_treadIn_37 rfl (lv_at hl 0 rfl) ?_
        refine gf_X3_12 hc hI dX3_treadIn_38 ?_
        refine lv_iload_n hx hb dX3_treadIn_41 rfl (lv_at hl 1 rfl) ?_
        obtain ⟨q3, e4, h⟩ := z_bnd h
        refine iv_X3_44 (by decide) hc hI (c_X5_wornOf (by decide) e4) (z_room (by decide) (by decide)) hl.1 (Nat.le_of_ble_eq_true rfl) ⟨Nat.zero_le _, Nat.zero_le _⟩ dX3_treadIn_42 (fun H locs hI => ?_)
        obtain rfl := Option.some.inj h
        exact z_ri hc hI dX3_treadIn_45
      · replace h := z_ift h c2
        refine lv_aload_n hx hb dX3_treadIn_26 rfl (lv_at hl 0 rfl) ?_
        refine gf_X3_12 hc hI dX3_treadIn_27 ?_
        refine lv_iload_n hx hb dX3_treadIn_30 rfl (lv_at hl 1 rfl) ?_
        obtain ⟨q5, e6, h⟩ := z_bnd h
        refine iv_X3_40 (by decide) hc hI (c_X5_toneOf (by decide) e6) (z_room (by decide) (by decide)) hl.1 (Nat.le_of_ble_eq_true rfl) ⟨Nat.zero_le _, Nat.zero_le _⟩ dX3_treadIn_31 (fun H locs hI => ?_)
        refine lv_goto (tgt := 45) hx hb dX3_treadIn_34 (by decide) ?_
        obtain rfl := Option.some.inj h
        exact z_ri hc hI dX3_treadIn_45
    · replace h := z_iff h c1
      refine lv_aload_n hx hb dX3_treadIn_9 rfl (lv_at hl 0 rfl) ?_
      refine gf_X3_12 hc hI dX3_treadIn_10 ?_
      obtain ⟨q7, e8, h⟩ := z_bnd h
      refine iv_X3_37 (by decide) hc hI (c_X5_passDay (by decide) e8) (z_room (by decide) (by decide)) hl.1 (Nat.le_of_ble_eq_true rfl) ⟨Nat.zero_le _, Nat.zero_le _⟩ dX3_treadIn_13 (fun H locs hI => ?_)
      refine lv_iinc (v := v4 + 1) (lv' := [(4, .int (v4 + 1)), (0, .ref (z_ad G 15 0)), (1, .int v1), (2, .int v2), (3, .int v3)]) hx hb dX3_treadIn_16 hl (k := 4) rfl rfl (by decide) rfl (fun ls hl => ?_)
      refine lv_goto (tgt := 3) hx hb dX3_treadIn_19 (by decide) ?_
      exact ih v1 v2 v3 (v4 + 1) _ _ _ _ h hI (lv_sub hl [1, 2, 3, 4, 0] rfl)
set_option maxRecDepth 100000 in
set_option maxHeartbeats 4000000 in
theorem c_X3_treadIn {G : z_G} {l : Launch} {a1 : Int32} {a2 : Int32} {a3 : Int32} {M : z_M} {out : (Int32 × z_M)} (h : F_X3_treadIn a1 a2 a3 M = some out) : z_Met G l yX3_treadIn cX3_treadIn 5 (some .int) 5 [.ref (z_ad G 15 0), .int a1, .int a2, .int a3] M (some (.int out.1)) out.2 := by
  unfold F_X3_treadIn at h
  refine z_met_of (by decide) rfl (Nat.le_of_ble_eq_true rfl) (fun p e s m below meth c ls hc hI hl => ?_)
  obtain ⟨⟨hx, hb, hml, hown, hts⟩, hr, hlk⟩ := id hc
  have hl : lv_has ls 5 [(0, .ref (z_ad G 15 0)), (1, .int a1), (2, .int a2), (3, .int a3)] := hl
  refine lv_iconst (v := 0) hx hb dX3_treadIn_0 (by decide) ?_
  refine lv_istore (lv' := [(4, .int 0), (0, .ref (z_ad G 15 0)), (1, .int a1), (2, .int a2), (3, .int a3)]) hx hb dX3_treadIn_1 hl (by decide) rfl (fun ls hl => ?_)
  exact w_X3_treadIn_b3 hc _ a1 a2 a3 0 _ _ _ _ h hI (lv_sub hl [1, 2, 3, 4, 0] rfl)
set_option maxRecDepth 100000 in
set_option maxHeartbeats 4000000 in
theorem w_X3_meetingOf_b90 {M : z_M} (hc : z_C p s m args meth c RX3 cX3_meetingOf 9 (some .int)) {out : Int32} {K10 : Int32 → Int32 → Int32 → Int32 → Int32 → Option Int32} (hK10 : ∀ (v1 : Int32) (v2 : Int32) (v3 : Int32) (v4 : Int32) (v5 : Int32) (H : Heap) (locs : List Loc) (ls : Array Slot), K10 v1 v2 v3 v4 v5 = some out → z_I G s M H locs → lv_has ls 9 [(0, .ref (z_ad G 15 0)), (1, .int v1), (2, .int v2), (3, .int v3), (4, .int v4), (5, .int v5)] → W p l e (z_rm 4) s m args below meth c H locs 0 0 (MQ below (z_Q G (some (.int out)) M) args s 0 0 (z_A G)) (F0 m 10 ls [])) (v1 : Int32) (v2 : Int32) (v5 : Int32) (v6 : Int32) (v7 : Int32) (H : Heap) (locs : List Loc) (ls : Array Slot) (h : F_X3_meetingOf_b90 M K10 v1 v2 v5 v6 v7 = some out) (hI : z_I G s M H locs) (hl : lv_has ls 9 [(0, .ref (z_ad G 15 0)), (1, .int v1), (2, .int v2), (5, .int v5), (6, .int v6), (7, .int v7)]) : W p l e (z_rm 4) s m args below meth c H locs 0 0 (MQ below (z_Q G (some (.int out)) M) args s 0 0 (z_A G)) (F0 m 90 ls []) := by
  obtain ⟨⟨hx, hb, hml, hown, hts⟩, hr, hlk⟩ := id hc
  unfold F_X3_meetingOf_b90 at h
  refine lv_iload hx hb dX3_meetingOf_90 (lv_at hl 4 rfl) ?_
  refine lv_istore_n (lv' := [(3, .int v6), (0, .ref (z_ad G 15 0)), (1, .int v1), (2, .int v2), (5, .int v5), (6, .int v6), (7, .int v7)]) hx hb dX3_meetingOf_92 rfl hl (by decide) rfl (fun ls hl => ?_)
  refine lv_iload hx hb dX3_meetingOf_93 (lv_at hl 6 rfl) ?_
  refine lv_istore (lv' := [(4, .int v7), (3, .int v6), (0, .ref (z_ad G 15 0)), (1, .int v1), (2, .int v2), (5, .int v5), (6, .int v6), (7, .int v7)]) hx hb dX3_meetingOf_95 hl (by decide) rfl (fun ls hl => ?_)
  refine lv_iinc (v := v5 + 1) (lv' := [(5, .int (v5 + 1)), (4, .int v7), (3, .int v6), (0, .ref (z_ad G 15 0)), (1, .int v1), (2, .int v2), (6, .int v6), (7, .int v7)]) hx hb dX3_meetingOf_97 hl (k := 5) rfl rfl (by decide) rfl (fun ls hl => ?_)
  refine lv_goto (tgt := 10) hx hb dX3_meetingOf_100 (by decide) ?_
  exact hK10 v1 v2 v6 v7 (v5 + 1) _ _ _ h hI (lv_sub hl [3, 4, 5, 2, 1, 0] rfl)
set_option maxRecDepth 100000 in
set_option maxHeartbeats 4000000 in
theorem w_X3_meetingOf_b60 {M : z_M} (hc : z_C p s m args meth c RX3 cX3_meetingOf 9 (some .int)) {out : Int32} {K10 : Int32 → Int32 → Int32 → Int32 → Int32 → Option Int32} (hK10 : ∀ (v1 : Int32) (v2 : Int32) (v3 : Int32) (v4 : Int32) (v5 : Int32) (H : Heap) (locs : List Loc) (ls : Array Slot), K10 v1 v2 v3 v4 v5 = some out → z_I G s M H locs → lv_has ls 9 [(0, .ref (z_ad G 15 0)), (1, .int v1), (2, .int v2), (3, .int v3), (4, .int v4), (5, .int v5)] → W p l e (z_rm 4) s m args below meth c H locs 0 0 (MQ below (z_Q G (some (.int out)) M) args s 0 0 (z_A G)) (F0 m 10 ls [])) (v1 : Int32) (v2 : Int32) (v3 : Int32) (v4 : Int32) (v5 : Int32) (v6 : Int32) (v7 : Int32) (s0 : Int32) (H : Heap) (locs : List Loc) (ls : Array Slot) (h : F_X3_meetingOf_b60 M K10 v1 v2 v3 v4 v5 v6 v7 s0 = some out) (hI : z_I G s M H locs) (hl : lv_has ls 9 [(0, .ref (z_ad G 15 0)), (1, .int v1), (2, .int v2), (3, .int v3), (4, .int v4), (5, .int v5), (6, .int v6), (7, .int v7)]) : W p l e (z_rm 4) s m args below meth c H locs 0 0 (MQ below (z_Q G (some (.int out)) M) args s 0 0 (z_A G)) (F0 m 60 ls [.int s0]) := by
  obtain ⟨⟨hx, hb, hml, hown, hts⟩, hr, hlk⟩ := id hc
  unfold F_X3_meetingOf_b60 at h
  refine lv_istore (lv' := [(8, .int s0), (0, .ref (z_ad G 15 0)), (1, .int v1), (2, .int v2), (3, .int v3), (4, .int v4), (5, .int v5), (6, .int v6), (7, .int v7)]) hx hb dX3_meetingOf_60 hl (by decide) rfl (fun ls hl => ?_)
  refine lv_iload hx hb dX3_meetingOf_62 (lv_at hl 0 rfl) ?_
  refine lv_if_eq (tgt := 90) hx hb dX3_meetingOf_64 (by decide) (fun c7 => ?_) (fun c7 => ?_)
  · replace h := z_ift h c7
    exact w_X3_meetingOf_b90 hc hK10 v1 v2 v5 v6 v7 _ _ _ h hI (lv_sub hl [1, 2, 3, 6, 7, 8] rfl)
  · replace h := z_iff h c7
    refine lv_iload hx hb dX3_meetingOf_67 (lv_at hl 7 rfl) ?_
    refine lv_iload hx hb dX3_meetingOf_69 (lv_at hl 8 rfl) ?_
    refine lv_icmp_eq (tgt := 87) hx hb dX3_meetingOf_71 (by decide) (fun c8 => ?_) (fun c8 => ?_)
    · replace h := z_ift h c8
      refine lv_iload hx hb dX3_meetingOf_87 (lv_at hl 6 rfl) ?_
      obtain rfl := Option.some.inj h
      exact z_ri hc hI dX3_meetingOf_89
    · replace h := z_iff h c8
      refine lv_iload hx hb dX3_meetingOf_74 (lv_at hl 7 rfl) ?_
      refine lv_iload hx hb dX3_meetingOf_76 (lv_at hl 5 rfl) ?_
      refine lv_icmp_ne (tgt := 90) hx hb dX3_meetingOf_78 (by decide) (fun c9 => ?_) (fun c9 => ?_)
      · replace h := z_iff h c9
        exact w_X3_meetingOf_b90 hc hK10 v1 v2 v5 v6 v7 _ _ _ h hI (lv_sub hl [1, 2, 3, 6, 7, 8] rfl)
      · replace h := z_ift h c9
        refine lv_iload hx hb dX3_meetingOf_81 (lv_at hl 8 rfl) ?_
        refine lv_iload_n hx hb dX3_meetingOf_83 rfl (lv_at hl 4 rfl) ?_
        refine lv_icmp_ne (tgt := 90) hx hb dX3_meetingOf_84 (by decide) (fun c10 => ?_) (fun c10 => ?_)
        · replace h := z_iff h c10
          exact w_X3_meetingOf_b90 hc hK10 v1 v2 v5 v6 v7 _ _ _ h hI (lv_sub hl [1, 2, 3, 6, 7, 8] rfl)
        · replace h := z_ift h c10
          refine lv_iload hx hb dX3_meetingOf_87 (lv_at hl 6 rfl) ?_
          obtain rfl := Option.some.inj h
          exact z_ri hc hI dX3_meetingOf_89
set_option maxRecDepth 100000 in
set_option maxHeartbeats 4000000 in
theorem w_X3_meetingOf_b59 {M : z_M} (hc : z_C p s m args meth c RX3 cX3_meetingOf 9 (some .int)) {out : Int32} {K10 : Int32 → Int32 → Int32 → Int32 → Int32 → Option Int32} (hK10 : ∀ (v1 : Int32) (v2 : Int32) (v3 : Int32) (v4 : Int32) (v5 : Int32) (H : Heap) (locs : List Loc) (ls : Array Slot), K10 v1 v2 v3 v4 v5 = some out → z_I G s M H locs → lv_has ls 9 [(0, .ref (z_ad G 15 0)), (1, .int v1), (2, .int v2), (3, .int v3), (4, .int v4), (5, .int v5)] → W p l e (z_rm 4) s m args below meth c H locs 0 0 (MQ below (z_Q G (some (.int out)) M) args s 0 0 (z_A G)) (F0 m 10 ls [])) (v1 : Int32) (v2 : Int32) (v3 : Int32) (v4 : Int32) (v5 : Int32) (v6 : Int32) (v7 : Int32) (H : Heap) (locs : List Loc) (ls : Array Slot) (h : F_X3_meetingOf_b59 M K10 v1 v2 v3 v4 v5 v6 v7 = some out) (hI : z_I G s M H locs) (hl : lv_has ls 9 [(0, .ref (z_ad G 15 0)), (1, .int v1), (2, .int v2), (3, .int v3), (4, .int v4), (5, .int v5), (6, .int v6), (7, .int v7)]) : W p l e (z_rm 4) s m args below meth c H locs 0 0 (MQ below (z_Q G (some (.int out)) M) args s 0 0 (z_A G)) (F0 m 59 ls []) := by
  obtain ⟨⟨hx, hb, hml, hown, hts⟩, hr, hlk⟩ := id hc
  unfold F_X3_meetingOf_b59 at h
  refine lv_iconst (v := 0) hx hb dX3_meetingOf_59 (by decide) ?_
  exact w_X3_meetingOf_b60 hc hK10 v1 v2 v3 v4 v5 v6 v7 0 _ _ _ h hI hl
set_option maxRecDepth 100000 in
set_option maxHeartbeats 4000000 in
theorem w_X3_meetingOf_b10 {M : z_M} (hc : z_C p s m args meth c RX3 cX3_meetingOf 9 (some .int)) {out : Int32} : ∀ (n : Nat) (v1 : Int32) (v2 : Int32) (v3 : Int32) (v4 : Int32) (v5 : Int32) (H : Heap) (locs : List Loc) (ls : Array Slot) (h : F_X3_meetingOf_b10 M n v1 v2 v3 v4 v5 = some out) (hI : z_I G s M H locs) (hl : lv_has ls 9 [(0, .ref (z_ad G 15 0)), (1, .int v1), (2, .int v2), (3, .int v3), (4, .int v4), (5, .int v5)]), W p l e (z_rm 4) s m args below meth c H locs 0 0 (MQ below (z_Q G (some (.int out)) M) args s 0 0 (z_A G)) (F0 m 10 ls []) := by
  obtain ⟨⟨hx, hb, hml, hown, hts⟩, hr, hlk⟩ := id hc
  intro n
  induction n with
  | zero => intro v1 v2 v3 v4 v5 H locs ls h; cases h
  | succ n ih =>
    intro v1 v2 v3 v4 v5 H locs ls h hI hl
    rw [F_X3_meetingOf_b10] at h
    refine lv_iload hx hb dX3_meetingOf_10 (lv_at hl 5 rfl) ?_
    refine lv_bipush (v := 30) hx hb dX3_meetingOf_12 (by decide) ?_
    refine lv_icmp_ge (tgt := 103) hx hb dX3_meetingOf_14 (by decide) (fun c1 => ?_) (fun c1 => ?_)
    · replace h := z_ift h c1
      refine lv_ldc (v := (-1000000)) hx hb hown (hts _ wd_3_103) dX3_meetingOf_103 ?_
      obtain rfl := Option.some.inj h
      exact z_ri hc hI dX3_meetingOf_105
    · replace h := z_iff h c1
      refine lv_aload_n hx hb dX3_meetingOf_17 rfl (lv_at hl 0 rfl) ?_
      refine gf_X3_12 hc hI dX3_meetingOf_18 ?_
      refine lv_iload_n hx hb dX3_meetingOf_21 rfl (lv_at hl 1 rfl) ?_
      refine lv_iload hx hb dX3_meetingOf_22 (lv_at hl 5 rfl) ?_
      obtain ⟨q2, e3, h⟩ := z_bnd h
      refine iv_X3_48 (by decide) hc hI (c_X5_placeIn (by decide) e3) (z_room (by decide) (by decide)) hl.1 (Nat.le_of_ble_eq_true rfl) ⟨Nat.zero_le _, Nat.zero_le _⟩ dX3_meetingOf_24 (fun H locs hI => ?_)
      refine lv_istore (lv' := [(6, .int q2), (0, .ref (z_ad G 15 0)), (1, .int v1), (2, .int v2), (3, .int v3), (4, .int v4), (5, .int v5)]) hx hb dX3_meetingOf_27 hl (by decide) rfl (fun ls hl => ?_)
      refine lv_aload_n hx hb dX3_meetingOf_29 rfl (lv_at hl 1 rfl) ?_
      refine gf_X3_12 hc hI dX3_meetingOf_30 ?_
      refine lv_iload_n hx hb dX3_meetingOf_33 rfl (lv_at hl 3 rfl) ?_
      refine lv_iload hx hb dX3_meetingOf_34 (lv_at hl 6 rfl) ?_
      obtain ⟨q4, e5, h⟩ := z_bnd h
      refine iv_X3_48 (by decide) hc hI (c_X5_placeIn (by decide) e5) (z_room (by decide) (by decide)) hl.1 (Nat.le_of_ble_eq_true rfl) ⟨Nat.zero_le _, Nat.zero_le _⟩ dX3_meetingOf_36 (fun H locs hI => ?_)
      refine lv_istore (lv' := [(7, .int q4), (6, .int q2), (0, .ref (z_ad G 15 0)), (1, .int v1), (2, .int v2), (3, .int v3), (4, .int v4), (5, .int v5)]) hx hb dX3_meetingOf_39 hl (by decide) rfl (fun ls hl => ?_)
      refine lv_iload hx hb dX3_meetingOf_41 (lv_at hl 1 rfl) ?_
      refine lv_ldc (v := (-1000000)) hx hb hown (hts _ wd_3_103) dX3_meetingOf_43 ?_
      refine lv_icmp_eq (tgt := 59) hx hb dX3_meetingOf_45 (by decide) (fun c6 => ?_) (fun c6 => ?_)
      · replace h := z_ift h c6
        exact w_X3_meetingOf_b59 hc ih v1 v2 v3 v4 v5 q2 q4 _ _ _ h hI (lv_sub hl [2, 3, 4, 5, 6, 7, 1, 0] rfl)
      · replace h := z_iff h c6
        refine lv_iload hx hb dX3_meetingOf_48 (lv_at hl 0 rfl) ?_
        refine lv_ldc (v := (-1000000)) hx hb hown (hts _ wd_3_103) dX3_meetingOf_50 ?_
        refine lv_icmp_eq (tgt := 59) hx hb dX3_meetingOf_52 (by decide) (fun c11 => ?_) (fun c11 => ?_)
        · replace h := z_ift h c11
          exact w_X3_meetingOf_b59 hc ih v1 v2 v3 v4 v5 q2 q4 _ _ _ h hI (lv_sub hl [2, 3, 4, 5, 6, 7, 1, 0] rfl)
        · replace h := z_iff h c11
          refine lv_iconst (v := 1) hx hb dX3_meetingOf_55 (by decide) ?_
          refine lv_goto (tgt := 60) hx hb dX3_meetingOf_56 (by decide) ?_
          exact w_X3_meetingOf_b60 hc ih v1 v2 v3 v4 v5 q2 q4 1 _ _ _ h hI (lv_sub hl [2, 3, 4, 5, 6, 7, 1, 0] rfl)
set_option maxRecDepth 100000 in
set_option maxHeartbeats 4000000 in
theorem c_X3_meetingOf {G : z_G} {l : Launch} {a1 : Int32} {a2 : Int32} {M : z_M} {out : Int32} (h : F_X3_meetingOf a1 a2 M = some out) : z_Met G l yX3_meetingOf cX3_meetingOf 9 (some .int) 4 [.ref (z_ad G 15 0), .int a1, .int a2] M (some (.int out)) M := by
  unfold F_X3_meetingOf at h
  refine z_met_of (by decide) rfl (Nat.le_of_ble_eq_true rfl) (fun p e s m below meth c ls hc hI hl => ?_)
  obtain ⟨⟨hx, hb, hml, hown, hts⟩, hr, hlk⟩ := id hc
  have hl : lv_has ls 9 [(0, .ref (z_ad G 15 0)), (1, .int a1), (2, .int a2)] := hl
  refine lv_ldc (v := (-1000000)) hx hb hown (hts _ wd_3_103) dX3_meetingOf_0 ?_
  refine lv_istore_n (lv' := [(3, .int (-1000000)), (0, .ref (z_ad G 15 0)), (1, .int a1), (2, .int a2)]) hx hb dX3_meetingOf_2 rfl hl (by decide) rfl (fun ls hl => ?_)
  refine lv_ldc (v := (-1000000)) hx hb hown (hts _ wd_3_103) dX3_meetingOf_3 ?_
  refine lv_istore (lv' := [(4, .int (-1000000)), (3, .int (-1000000)), (0, .ref (z_ad G 15 0)), (1, .int a1), (2, .int a2)]) hx hb dX3_meetingOf_5 hl (by decide) rfl (fun ls hl => ?_)
  refine lv_iconst (v := 0) hx hb dX3_meetingOf_7 (by decide) ?_
  refine lv_istore (lv' := [(5, .int 0), (4, .int (-1000000)), (3, .int (-1000000)), (0, .ref (z_ad G 15 0)), (1, .int a1), (2, .int a2)]) hx hb dX3_meetingOf_8 hl (by decide) rfl (fun ls hl => ?_)
  exact w_X3_meetingOf_b10 hc _ a1 a2 (-1000000) (-1000000) 0 _ _ _ h hI (lv_sub hl [3, 4, 5, 2, 1, 0] rfl)
set_option maxRecDepth 100000 in
set_option maxHeartbeats 4000000 in
theorem w_X3_fullestMinute_b43 {M : z_M} (hc : z_C p s m args meth c RX3 cX3_fullestMinute 6 (some .int)) {out : Int32} {K7 : Int32 → Int32 → Int32 → Int32 → Option Int32} (hK7 : ∀ (v1 : Int32) (v2 : Int32) (v3 : Int32) (v4 : Int32) (H : Heap) (locs : List Loc) (ls : Array Slot), K7 v1 v2 v3 v4 = some out → z_I G s M H locs → lv_has ls 6 [(0, .ref (z_ad G 15 0)), (1, .int v1), (2, .int v2), (3, .int v3), (4, .int v4)] → W p l e (z_rm 4) s m args below meth c H locs 0 0 (MQ below (z_Q G (some (.int out)) M) args s 0 0 (z_A G)) (F0 m 7 ls [])) (v1 : Int32) (v2 : Int32) (v3 : Int32) (v4 : Int32) (H : Heap) (locs : List Loc) (ls : Array Slot) (h : F_X3_fullestMinute_b43 M K7 v1 v2 v3 v4 = some out) (hI : z_I G s M H locs) (hl : lv_has ls 6 [(0, .ref (z_ad G 15 0)), (1, .int v1), (2, .int v2), (3, .int v3), (4, .int v4)]) : W p l e (z_rm 4) s m args below meth c H locs 0 0 (MQ below (z_Q G (some (.int out)) M) args s 0 0 (z_A G)) (F0 m 43 ls []) := by
  obtain ⟨⟨hx, hb, hml, hown, hts⟩, hr, hlk⟩ := id hc
  unfold F_X3_fullestMinute_b43 at h
  refine lv_iinc (v := v4 + 1) (lv' := [(4, .int (v4 + 1)), (0, .ref (z_ad G 15 0)), (1, .int v1), (2, .int v2), (3, .int v3)]) hx hb dX3_fullestMinute_43 hl (k := 4) rfl rfl (by decide) rfl (fun ls hl => ?_)
  refine lv_goto (tgt := 7) hx hb dX3_fullestMinute_46 (by decide) ?_
  exact hK7 v1 v2 v3 (v4 + 1) _ _ _ h hI (lv_sub hl [1, 2, 3, 4, 0] rfl)
set_option maxRecDepth 100000 in
set_option maxHeartbeats 4000000 in
theorem w_X3_fullestMinute_b7 {M : z_M} (hc : z_C p s m args meth c RX3 cX3_fullestMinute 6 (some .int)) {out : Int32} : ∀ (n : Nat) (v1 : Int32) (v2 : Int32) (v3 : Int32) (v4 : Int32) (H : Heap) (locs : List Loc) (ls : Array Slot) (h : F_X3_fullestMinute_b7 M n v1 v2 v3 v4 = some out) (hI : z_I G s M H locs) (hl : lv_has ls 6 [(0, .ref (z_ad G 15 0)), (1, .int v1), (2, .int v2), (3, .int v3), (4, .int v4)]), W p l e (z_rm 4) s m args below meth c H locs 0 0 (MQ below (z_Q G (some (.int out)) M) args s 0 0 (z_A G)) (F0 m 7 ls []) := by
  obtain ⟨⟨hx, hb, hml, hown, hts⟩, hr, hlk⟩ := id hc
  intro n
  induction n with
  | zero => intro v1 v2 v3 v4 H locs ls h; cases h
  | succ n ih =>
    intro v1 v2 v3 v4 H locs ls h hI hl
    rw [F_X3_fullestMinute_b7] at h
    refine lv_iload hx hb dX3_fullestMinute_7 (lv_at hl 4 rfl) ?_
    refine lv_bipush (v := 30) hx hb dX3_fullestMinute_9 (by decide) ?_
    refine lv_icmp_ge (tgt := 49) hx hb dX3_fullestMinute_11 (by decide) (fun c1 => ?_) (fun c1 => ?_)
    · replace h := z_ift h c1
      refine lv_iload_n hx hb dX3_fullestMinute_49 rfl (lv_at hl 1 rfl) ?_
      refine lv_if_ne (tgt := 57) hx hb dX3_fullestMinute_50 (by decide) (fun c2 => ?_) (fun c2 => ?_)
      · replace h := z_iff h c2
        refine lv_iload_n hx hb dX3_fullestMinute_57 rfl (lv_at hl 3 rfl) ?_
        obtain rfl := Option.some.inj h
        exact z_ri hc hI dX3_fullestMinute_58
      · replace h := z_ift h c2
        refine lv_iload_n hx hb dX3_fullestMinute_53 rfl (lv_at hl 2 rfl) ?_
        refine lv_goto (tgt := 58) hx hb dX3_fullestMinute_54 (by decide) ?_
        obtain rfl := Option.some.inj h
        exact z_ri hc hI dX3_fullestMinute_58
    · replace h := z_iff h c1
      refine lv_aload_n hx hb dX3_fullestMinute_14 rfl (lv_at hl 0 rfl) ?_
      refine gf_X3_12 hc hI dX3_fullestMinute_15 ?_
      refine lv_iload hx hb dX3_fullestMinute_18 (lv_at hl 4 rfl) ?_
      refine lv_iconst (v := 0) hx hb dX3_fullestMinute_20 (by decide) ?_
      refine lv_bipush (v := 8) hx hb dX3_fullestMinute_21 (by decide) ?_
      obtain ⟨q3, e4, h⟩ := z_bnd h
      refine iv_X3_52 (by decide) hc hI (c_X5_soundsIn (by decide) e4) (z_room (by decide) (by decide)) hl.1 (Nat.le_of_ble_eq_true rfl) ⟨Nat.zero_le _, Nat.zero_le _⟩ dX3_fullestMinute_23 (fun H locs hI => ?_)
      obtain ⟨q5, e6, h⟩ := z_bnd h
      refine iv_X3_56 hc hI (c_J6_bitCount_0f7a4 e6) (z_room (by decide) (by decide)) hl.1 (Nat.le_of_ble_eq_true rfl) ⟨Nat.zero_le _, Nat.zero_le _⟩ dX3_fullestMinute_26 (fun H locs hI => ?_)
      refine lv_istore (lv' := [(5, .int q5), (0, .ref (z_ad G 15 0)), (1, .int v1), (2, .int v2), (3, .int v3), (4, .int v4)]) hx hb dX3_fullestMinute_29 hl (by decide) rfl (fun ls hl => ?_)
      refine lv_iload hx hb dX3_fullestMinute_31 (lv_at hl 0 rfl) ?_
      refine lv_iload_n hx hb dX3_fullestMinute_33 rfl (lv_at hl 4 rfl) ?_
      refine lv_icmp_le (tgt := 43) hx hb dX3_fullestMinute_34 (by decide) (fun c7 => ?_) (fun c7 => ?_)
      · replace h := z_ift h c7
        exact w_X3_fullestMinute_b43 hc ih v1 v2 v3 v4 _ _ _ h hI (lv_sub hl [1, 2, 3, 4, 5] rfl)
      · replace h := z_iff h c7
        refine lv_iload hx hb dX3_fullestMinute_37 (lv_at hl 5 rfl) ?_
        refine lv_istore_n (lv' := [(2, .int v4), (5, .int q5), (0, .ref (z_ad G 15 0)), (1, .int v1), (3, .int v3), (4, .int v4)]) hx hb dX3_fullestMinute_39 rfl hl (by decide) rfl (fun ls hl => ?_)
        refine lv_iload hx hb dX3_fullestMinute_40 (lv_at hl 1 rfl) ?_
        refine lv_istore_n (lv' := [(3, .int q5), (2, .int v4), (5, .int q5), (0, .ref (z_ad G 15 0)), (1, .int v1), (4, .int v4)]) hx hb dX3_fullestMinute_42 rfl hl (by decide) rfl (fun ls hl => ?_)
        exact w_X3_fullestMinute_b43 hc ih v1 v4 q5 v4 _ _ _ h hI (lv_sub hl [3, 4, 1, 0, 5] rfl)
set_option maxRecDepth 100000 in
set_option maxHeartbeats 4000000 in
theorem c_X3_fullestMinute {G : z_G} {l : Launch} {a1 : Int32} {M : z_M} {out : Int32} (h : F_X3_fullestMinute a1 M = some out) : z_Met G l yX3_fullestMinute cX3_fullestMinute 6 (some .int) 4 [.ref (z_ad G 15 0), .int a1] M (some (.int out)) M := by
  unfold F_X3_fullestMinute at h
  refine z_met_of (by decide) rfl (Nat.le_of_ble_eq_true rfl) (fun p e s m below meth c ls hc hI hl => ?_)
  obtain ⟨⟨hx, hb, hml, hown, hts⟩, hr, hlk⟩ := id hc
  have hl : lv_has ls 6 [(0, .ref (z_ad G 15 0)), (1, .int a1)] := hl
  refine lv_iconst (v := 0) hx hb dX3_fullestMinute_0 (by decide) ?_
  refine lv_istore_n (lv' := [(2, .int 0), (0, .ref (z_ad G 15 0)), (1, .int a1)]) hx hb dX3_fullestMinute_1 rfl hl (by decide) rfl (fun ls hl => ?_)
  refine lv_iconst (v := 0) hx hb dX3_fullestMinute_2 (by decide) ?_
  refine lv_istore_n (lv' := [(3, .int 0), (2, .int 0), (0, .ref (z_ad G 15 0)), (1, .int a1)]) hx hb dX3_fullestMinute_3 rfl hl (by decide) rfl (fun ls hl => ?_)
  refine lv_iconst (v := 0) hx hb dX3_fullestMinute_4 (by decide) ?_
  refine lv_istore (lv' := [(4, .int 0), (3, .int 0), (2, .int 0), (0, .ref (z_ad G 15 0)), (1, .int a1)]) hx hb dX3_fullestMinute_5 hl (by decide) rfl (fun ls hl => ?_)
  exact w_X3_fullestMinute_b7 hc _ a1 0 0 0 _ _ _ h hI (lv_sub hl [3, 4, 2, 1, 0] rfl)
set_option maxRecDepth 100000 in
set_option maxHeartbeats 4000000 in
theorem w_X3_numberTunes_b14 (hc : z_C p s m args meth c RX3 cX3_numberTunes 3 (some .int)) {out : (Int32 × z_M)} : ∀ (n : Nat) (v1 : Int32) (v2 : Int32) (M : z_M) (H : Heap) (locs : List Loc) (ls : Array Slot) (h : F_X3_numberTunes_b14 n v1 v2 M = some out) (hI : z_I G s M H locs) (hl : lv_has ls 3 [(0, .ref (z_ad G 15 0)), (1, .int v1), (2, .int v2)]), W p l e (z_rm 4) s m args below meth c H locs 0 0 (MQ below (z_Q G (some (.int out.1)) out.2) args s 0 0 (z_A G)) (F0 m 14 ls []) := by
  obtain ⟨⟨hx, hb, hml, hown, hts⟩, hr, hlk⟩ := id hc
  intro n
  induction n with
  | zero => intro v1 v2 M H locs ls h; cases h
  | succ n ih =>
    intro v1 v2 M H locs ls h hI hl
    rw [F_X3_numberTunes_b14] at h
    refine lv_iload_n hx hb dX3_numberTunes_14 rfl (lv_at hl 2 rfl) ?_
    refine lv_iload_n hx hb dX3_numberTunes_15 rfl (lv_at hl 1 rfl) ?_
    refine lv_icmp_ge (tgt := 39) hx hb dX3_numberTunes_16 (by decide) (fun c4 => ?_) (fun c4 => ?_)
    · replace h := z_ift h c4
      refine lv_iload_n hx hb dX3_numberTunes_39 rfl (lv_at hl 1 rfl) ?_
      obtain rfl := Option.some.inj h
      exact z_ri hc hI dX3_numberTunes_40
    · replace h := z_iff h c4
      refine lv_aload_n hx hb dX3_numberTunes_19 rfl (lv_at hl 0 rfl) ?_
      refine gf_X3_25 hc hI dX3_numberTunes_20 ?_
      refine lv_iload_n hx hb dX3_numberTunes_23 rfl (lv_at hl 2 rfl) ?_
      refine lv_aload_n hx hb dX3_numberTunes_24 rfl (lv_at hl 0 rfl) ?_
      refine gf_X3_12 hc hI dX3_numberTunes_25 ?_
      refine lv_iload_n hx hb dX3_numberTunes_28 rfl (lv_at hl 2 rfl) ?_
      obtain ⟨q5, e6, h⟩ := z_bnd h
      refine iv_X3_73 (by decide) hc hI (c_X5_tuneNumber (by decide) e6) (z_room (by decide) (by decide)) hl.1 (Nat.le_of_ble_eq_true rfl) ⟨Nat.zero_le _, Nat.zero_le _⟩ dX3_numberTunes_29 (fun H locs hI => ?_)
      obtain ⟨g7, h⟩ := z_grd_some h
      refine z_lst hc hI g7 dX3_numberTunes_32 (fun H locs hI => ?_)
      refine lv_iinc (v := v2 + 1) (lv' := [(2, .int (v2 + 1)), (0, .ref (z_ad G 15 0)), (1, .int v1)]) hx hb dX3_numberTunes_33 hl (k := 2) rfl rfl (by decide) rfl (fun ls hl => ?_)
      refine lv_goto (tgt := 14) hx hb dX3_numberTunes_36 (by decide) ?_
      exact ih v1 (v2 + 1) _ _ _ _ h hI (lv_sub hl [1, 2, 0] rfl)
set_option maxRecDepth 100000 in
set_option maxHeartbeats 4000000 in
theorem c_X3_numberTunes {G : z_G} {l : Launch} {M : z_M} {out : (Int32 × z_M)} (h : F_X3_numberTunes M = some out) : z_Met G l yX3_numberTunes cX3_numberTunes 3 (some .int) 4 [.ref (z_ad G 15 0)] M (some (.int out.1)) out.2 := by
  unfold F_X3_numberTunes at h
  refine z_met_of (by decide) rfl (Nat.le_of_ble_eq_true rfl) (fun p e s m below meth c ls hc hI hl => ?_)
  obtain ⟨⟨hx, hb, hml, hown, hts⟩, hr, hlk⟩ := id hc
  have hl : lv_has ls 3 [(0, .ref (z_ad G 15 0))] := hl
  refine lv_aload_n hx hb dX3_numberTunes_0 rfl (lv_at hl 0 rfl) ?_
  refine gf_X3_12 hc hI dX3_numberTunes_1 ?_
  obtain ⟨q1, e2, h⟩ := z_bnd h
  refine iv_X3_65 (by decide) hc hI (c_X5_walkerCount (by decide) e2) (z_room (by decide) (by decide)) hl.1 (Nat.le_of_ble_eq_true rfl) ⟨Nat.zero_le _, Nat.zero_le _⟩ dX3_numberTunes_4 (fun H locs hI => ?_)
  refine lv_iconst (v := 5) hx hb dX3_numberTunes_7 (by decide) ?_
  refine mt_X3_68 hc hl.1 (z_frm (by decide)) (z_lrm (Nat.le_of_ble_eq_true rfl)) ⟨Nat.zero_le _, Nat.zero_le _⟩ dX3_numberTunes_8 ?_
  refine z_nI h (fun x3 h => ?_)
  refine lv_istore_n (lv' := [(1, .int x3), (0, .ref (z_ad G 15 0))]) hx hb dX3_numberTunes_11 rfl hl (by decide) rfl (fun ls hl => ?_)
  refine lv_iconst (v := 0) hx hb dX3_numberTunes_12 (by decide) ?_
  refine lv_istore_n (lv' := [(2, .int 0), (1, .int x3), (0, .ref (z_ad G 15 0))]) hx hb dX3_numberTunes_13 rfl hl (by decide) rfl (fun ls hl => ?_)
  exact w_X3_numberTunes_b14 hc _ x3 0 _ _ _ _ h hI (lv_sub hl [2, 1, 0] rfl)
set_option maxRecDepth 100000 in
set_option maxHeartbeats 4000000 in
theorem w_X3_twinCount_b45 (hc : z_C p s m args meth c RX3 cX3_twinCount 5 (some .int)) {out : (Int32 × z_M)} {K9 : Int32 → Int32 → Int32 → z_M → Option (Int32 × z_M)} (hK9 : ∀ (v1 : Int32) (v2 : Int32) (v3 : Int32) (M : z_M) (H : Heap) (locs : List Loc) (ls : Array Slot), K9 v1 v2 v3 M = some out → z_I G s M H locs → lv_has ls 5 [(0, .ref (z_ad G 15 0)), (1, .int v1), (2, .int v2), (3, .int v3)] → W p l e (z_rm 5) s m args below meth c H locs 0 0 (MQ below (z_Q G (some (.int out.1)) out.2) args s 0 0 (z_A G)) (F0 m 9 ls [])) {K19 : Int32 → Int32 → Int32 → Int32 → z_M → Option (Int32 × z_M)} (hK19 : ∀ (v1 : Int32) (v2 : Int32) (v3 : Int32) (v4 : Int32) (M : z_M) (H : Heap) (locs : List Loc) (ls : Array Slot), K19 v1 v2 v3 v4 M = some out → z_I G s M H locs → lv_has ls 5 [(0, .ref (z_ad G 15 0)), (1, .int v1), (2, .int v2), (3, .int v3), (4, .int v4)] → W p l e (z_rm 5) s m args below meth c H locs 0 0 (MQ below (z_Q G (some (.int out.1)) out.2) args s 0 0 (z_A G)) (F0 m 19 ls [])) (v1 : Int32) (v2 : Int32) (v3 : Int32) (v4 : Int32) (M : z_M) (H : Heap) (locs : List Loc) (ls : Array Slot) (h : F_X3_twinCount_b45 K9 K19 v1 v2 v3 v4 M = some out) (hI : z_I G s M H locs) (hl : lv_has ls 5 [(0, .ref (z_ad G 15 0)), (1, .int v1), (2, .int v2), (3, .int v3), (4, .int v4)]) : W p l e (z_rm 5) s m args below meth c H locs 0 0 (MQ below (z_Q G (some (.int out.1)) out.2) args s 0 0 (z_A G)) (F0 m 45 ls []) := by
  obtain ⟨⟨hx, hb, hml, hown, hts⟩, hr, hlk⟩ := id hc
  unfold F_X3_twinCount_b45 at h
  refine lv_iinc (v := v4 + 1) (lv' := [(4, .int (v4 + 1)), (0, .ref (z_ad G 15 0)), (1, .int v1), (2, .int v2), (3, .int v3)]) hx hb dX3_twinCount_45 hl (k := 4) rfl rfl (by decide) rfl (fun ls hl => ?_)
  refine lv_goto (tgt := 19) hx hb dX3_twinCount_48 (by decide) ?_
  exact hK19 v1 v2 v3 (v4 + 1) _ _ _ _ h hI (lv_sub hl [1, 2, 3, 4, 0] rfl)
set_option maxRecDepth 100000 in
set_option maxHeartbeats 4000000 in
theorem w_X3_twinCount_b19 (hc : z_C p s m args meth c RX3 cX3_twinCount 5 (some .int)) {out : (Int32 × z_M)} {K9 : Int32 → Int32 → Int32 → z_M → Option (Int32 × z_M)} (hK9 : ∀ (v1 : Int32) (v2 : Int32) (v3 : Int32) (M : z_M) (H : Heap) (locs : List Loc) (ls : Array Slot), K9 v1 v2 v3 M = some out → z_I G s M H locs → lv_has ls 5 [(0, .ref (z_ad G 15 0)), (1, .int v1), (2, .int v2), (3, .int v3)] → W p l e (z_rm 5) s m args below meth c H locs 0 0 (MQ below (z_Q G (some (.int out.1)) out.2) args s 0 0 (z_A G)) (F0 m 9 ls [])) : ∀ (n : Nat) (v1 : Int32) (v2 : Int32) (v3 : Int32) (v4 : Int32) (M : z_M) (H : Heap) (locs : List Loc) (ls : Array Slot) (h : F_X3_twinCount_b19 K9 n v1 v2 v3 v4 M = some out) (hI : z_I G s M H locs) (hl : lv_has ls 5 [(0, .ref (z_ad G 15 0)), (1, .int v1), (2, .int v2), (3, .int v3), (4, .int v4)]), W p l e (z_rm 5) s m args below meth c H locs 0 0 (MQ below (z_Q G (some (.int out.1)) out.2) args s 0 0 (z_A G)) (F0 m 19 ls []) := by
  obtain ⟨⟨hx, hb, hml, hown, hts⟩, hr, hlk⟩ := id hc
  intro n
  induction n with
  | zero => intro v1 v2 v3 v4 M H locs ls h; cases h
  | succ n ih =>
    intro v1 v2 v3 v4 M H locs ls h hI hl
    rw [F_X3_twinCount_b19] at h
    refine lv_iload hx hb dX3_twinCount_19 (lv_at hl 4 rfl) ?_
    refine lv_iload_n hx hb dX3_twinCount_21 rfl (lv_at hl 1 rfl) ?_
    refine lv_icmp_ge (tgt := 51) hx hb dX3_twinCount_22 (by decide) (fun c5 => ?_) (fun c5 => ?_)
    · replace h := z_ift h c5
      refine lv_iinc (v := v3 + 1) (lv' := [(3, .int (v3 + 1)), (0, .ref (z_ad G 15 0)), (1, .int v1), (2, .int v2), (4, .int v4)]) hx hb dX3_twinCount_51 hl (k := 3) rfl rfl (by decide) rfl (fun ls hl => ?_)
      refine lv_goto (tgt := 9) hx hb dX3_twinCount_54 (by decide) ?_
      exact hK9 v1 v2 (v3 + 1) _ _ _ _ h hI (lv_sub hl [1, 2, 3, 0] rfl)
    · replace h := z_iff h c5
      refine lv_aload_n hx hb dX3_twinCount_25 rfl (lv_at hl 0 rfl) ?_
      refine gf_X3_25 hc hI dX3_twinCount_26 ?_
      refine lv_iload_n hx hb dX3_twinCount_29 rfl (lv_at hl 3 rfl) ?_
      obtain ⟨g6, h⟩ := z_grd_some h
      refine z_lld hc hI g6 dX3_twinCount_30 ?_
      refine lv_aload_n hx hb dX3_twinCount_31 rfl (lv_at hl 0 rfl) ?_
      refine gf_X3_25 hc hI dX3_twinCount_32 ?_
      refine lv_iload hx hb dX3_twinCount_35 (lv_at hl 4 rfl) ?_
      obtain ⟨g7, h⟩ := z_grd_some h
      refine z_lld hc hI g7 dX3_twinCount_37 ?_
      refine W.lcmp hx hb dX3_twinCount_38 ?_
      refine lv_if_ne (tgt := 45) hx hb dX3_twinCount_39 (by decide) (fun c8 => ?_) (fun c8 => ?_)
      · replace h := z_iff h c8
        exact w_X3_twinCount_b45 hc hK9 ih v1 v2 v3 v4 _ _ _ _ h hI hl
      · replace h := z_ift h c8
        refine lv_iinc (v := v2 + 1) (lv' := [(2, .int (v2 + 1)), (0, .ref (z_ad G 15 0)), (1, .int v1), (3, .int v3), (4, .int v4)]) hx hb dX3_twinCount_42 hl (k := 2) rfl rfl (by decide) rfl (fun ls hl => ?_)
        exact w_X3_twinCount_b45 hc hK9 ih v1 (v2 + 1) v3 v4 _ _ _ _ h hI (lv_sub hl [1, 2, 0, 3, 4] rfl)
set_option maxRecDepth 100000 in
set_option maxHeartbeats 4000000 in
theorem w_X3_twinCount_b9 (hc : z_C p s m args meth c RX3 cX3_twinCount 5 (some .int)) {out : (Int32 × z_M)} : ∀ (n : Nat) (v1 : Int32) (v2 : Int32) (v3 : Int32) (M : z_M) (H : Heap) (locs : List Loc) (ls : Array Slot) (h : F_X3_twinCount_b9 n v1 v2 v3 M = some out) (hI : z_I G s M H locs) (hl : lv_has ls 5 [(0, .ref (z_ad G 15 0)), (1, .int v1), (2, .int v2), (3, .int v3)]), W p l e (z_rm 5) s m args below meth c H locs 0 0 (MQ below (z_Q G (some (.int out.1)) out.2) args s 0 0 (z_A G)) (F0 m 9 ls []) := by
  obtain ⟨⟨hx, hb, hml, hown, hts⟩, hr, hlk⟩ := id hc
  intro n
  induction n with
  | zero => intro v1 v2 v3 M H locs ls h; cases h
  | succ n ih =>
    intro v1 v2 v3 M H locs ls h hI hl
    rw [F_X3_twinCount_b9] at h
    refine lv_iload_n hx hb dX3_twinCount_9 rfl (lv_at hl 3 rfl) ?_
    refine lv_iload_n hx hb dX3_twinCount_10 rfl (lv_at hl 1 rfl) ?_
    refine lv_icmp_ge (tgt := 57) hx hb dX3_twinCount_11 (by decide) (fun c3 => ?_) (fun c3 => ?_)
    · replace h := z_ift h c3
      refine lv_iload_n hx hb dX3_twinCount_57 rfl (lv_at hl 2 rfl) ?_
      obtain rfl := Option.some.inj h
      exact z_ri hc hI dX3_twinCount_58
    · replace h := z_iff h c3
      refine lv_iload_n hx hb dX3_twinCount_14 rfl (lv_at hl 3 rfl) ?_
      refine lv_iconst (v := 1) hx hb dX3_twinCount_15 (by decide) ?_
      refine lv_iadd hx hb dX3_twinCount_16 ?_
      refine z_nI h (fun x4 h => ?_)
      refine lv_istore (lv' := [(4, .int x4), (0, .ref (z_ad G 15 0)), (1, .int v1), (2, .int v2), (3, .int v3)]) hx hb dX3_twinCount_17 hl (by decide) rfl (fun ls hl => ?_)
      exact w_X3_twinCount_b19 hc ih _ v1 v2 v3 x4 _ _ _ _ h hI (lv_sub hl [1, 2, 3, 4, 0] rfl)
set_option maxRecDepth 100000 in
set_option maxHeartbeats 4000000 in
theorem c_X3_twinCount {G : z_G} {l : Launch} {M : z_M} {out : (Int32 × z_M)} (h : F_X3_twinCount M = some out) : z_Met G l yX3_twinCount cX3_twinCount 5 (some .int) 5 [.ref (z_ad G 15 0)] M (some (.int out.1)) out.2 := by
  unfold F_X3_twinCount at h
  refine z_met_of (by decide) rfl (Nat.le_of_ble_eq_true rfl) (fun p e s m below meth c ls hc hI hl => ?_)
  obtain ⟨⟨hx, hb, hml, hown, hts⟩, hr, hlk⟩ := id hc
  have hl : lv_has ls 5 [(0, .ref (z_ad G 15 0))] := hl
  refine lv_aload_n hx hb dX3_twinCount_0 rfl (lv_at hl 0 rfl) ?_
  obtain ⟨q1, e2, h⟩ := z_bnd h
  refine iv_X3_61 hc hI (c_X3_numberTunes e2) (z_room (by decide) (by decide)) hl.1 (Nat.le_of_ble_eq_true rfl) ⟨Nat.zero_le _, Nat.zero_le _⟩ dX3_twinCount_1 (fun H locs hI => ?_)
  refine lv_istore_n (lv' := [(1, .int q1.1), (0, .ref (z_ad G 15 0))]) hx hb dX3_twinCount_4 rfl hl (by decide) rfl (fun ls hl => ?_)
  refine lv_iconst (v := 0) hx hb dX3_twinCount_5 (by decide) ?_
  refine lv_istore_n (lv' := [(2, .int 0), (1, .int q1.1), (0, .ref (z_ad G 15 0))]) hx hb dX3_twinCount_6 rfl hl (by decide) rfl (fun ls hl => ?_)
  refine lv_iconst (v := 0) hx hb dX3_twinCount_7 (by decide) ?_
  refine lv_istore_n (lv' := [(3, .int 0), (2, .int 0), (1, .int q1.1), (0, .ref (z_ad G 15 0))]) hx hb dX3_twinCount_8 rfl hl (by decide) rfl (fun ls hl => ?_)
  exact w_X3_twinCount_b9 hc _ q1.1 0 0 _ _ _ _ h hI (lv_sub hl [3, 2, 1, 0] rfl)
set_option maxRecDepth 100000 in
set_option maxHeartbeats 4000000 in
theorem w_X3_firstTwins_b16 (hc : z_C p s m args meth c RX3 cX3_firstTwins 4 (some .int)) {out : (Int32 × z_M)} {K7 : Int32 → Int32 → z_M → Option (Int32 × z_M)} (hK7 : ∀ (v1 : Int32) (v2 : Int32) (M : z_M) (H : Heap) (locs : List Loc) (ls : Array Slot), K7 v1 v2 M = some out → z_I G s M H locs → lv_has ls 4 [(0, .ref (z_ad G 15 0)), (1, .int v1), (2, .int v2)] → W p l e (z_rm 5) s m args below meth c H locs 0 0 (MQ below (z_Q G (some (.int out.1)) out.2) args s 0 0 (z_A G)) (F0 m 7 ls [])) : ∀ (n : Nat) (v1 : Int32) (v2 : Int32) (v3 : Int32) (M : z_M) (H : Heap) (locs : List Loc) (ls : Array Slot) (h : F_X3_firstTwins_b16 K7 n v1 v2 v3 M = some out) (hI : z_I G s M H locs) (hl : lv_has ls 4 [(0, .ref (z_ad G 15 0)), (1, .int v1), (2, .int v2), (3, .int v3)]), W p l e (z_rm 5) s m args below meth c H locs 0 0 (MQ below (z_Q G (some (.int out.1)) out.2) args s 0 0 (z_A G)) (F0 m 16 ls []) := by
  obtain ⟨⟨hx, hb, hml, hown, hts⟩, hr, hlk⟩ := id hc
  intro n
  induction n with
  | zero => intro v1 v2 v3 M H locs ls h; cases h
  | succ n ih =>
    intro v1 v2 v3 M H locs ls h hI hl
    rw [F_X3_firstTwins_b16] at h
    refine lv_iload_n hx hb dX3_firstTwins_16 rfl (lv_at hl 3 rfl) ?_
    refine lv_iload_n hx hb dX3_firstTwins_17 rfl (lv_at hl 1 rfl) ?_
    refine lv_icmp_ge (tgt := 50) hx hb dX3_firstTwins_18 (by decide) (fun c5 => ?_) (fun c5 => ?_)
    · replace h := z_ift h c5
      refine lv_iinc (v := v2 + 1) (lv' := [(2, .int (v2 + 1)), (0, .ref (z_ad G 15 0)), (1, .int v1), (3, .int v3)]) hx hb dX3_firstTwins_50 hl (k := 2) rfl rfl (by decide) rfl (fun ls hl => ?_)
      refine lv_goto (tgt := 7) hx hb dX3_firstTwins_53 (by decide) ?_
      exact hK7 v1 (v2 + 1) _ _ _ _ h hI (lv_sub hl [1, 2, 0] rfl)
    · replace h := z_iff h c5
      refine lv_aload_n hx hb dX3_firstTwins_21 rfl (lv_at hl 0 rfl) ?_
      refine gf_X3_25 hc hI dX3_firstTwins_22 ?_
      refine lv_iload_n hx hb dX3_firstTwins_25 rfl (lv_at hl 2 rfl) ?_
      obtain ⟨g6, h⟩ := z_grd_some h
      refine z_lld hc hI g6 dX3_firstTwins_26 ?_
      refine lv_aload_n hx hb dX3_firstTwins_27 rfl (lv_at hl 0 rfl) ?_
      refine gf_X3_25 hc hI dX3_firstTwins_28 ?_
      refine lv_iload_n hx hb dX3_firstTwins_31 rfl (lv_at hl 3 rfl) ?_
      obtain ⟨g7, h⟩ := z_grd_some h
      refine z_lld hc hI g7 dX3_firstTwins_32 ?_
      refine W.lcmp hx hb dX3_firstTwins_33 ?_
      refine lv_if_ne (tgt := 44) hx hb dX3_firstTwins_34 (by decide) (fun c8 => ?_) (fun c8 => ?_)
      · replace h := z_iff h c8
        refine lv_iinc (v := v3 + 1) (lv' := [(3, .int (v3 + 1)), (0, .ref (z_ad G 15 0)), (1, .int v1), (2, .int v2)]) hx hb dX3_firstTwins_44 hl (k := 3) rfl rfl (by decide) rfl (fun ls hl => ?_)
        refine lv_goto (tgt := 16) hx hb dX3_firstTwins_47 (by decide) ?_
        exact ih v1 v2 (v3 + 1) _ _ _ _ h hI (lv_sub hl [1, 2, 3, 0] rfl)
      · replace h := z_ift h c8
        refine lv_bipush (v := 10) hx hb dX3_firstTwins_37 (by decide) ?_
        refine lv_iload_n hx hb dX3_firstTwins_39 rfl (lv_at hl 2 rfl) ?_
        refine lv_imul hx hb dX3_firstTwins_40 ?_
        refine lv_iload_n hx hb dX3_firstTwins_41 rfl (lv_at hl 3 rfl) ?_
        refine lv_iadd hx hb dX3_firstTwins_42 ?_
        obtain rfl := Option.some.inj h
        exact z_ri hc hI dX3_firstTwins_43
set_option maxRecDepth 100000 in
set_option maxHeartbeats 4000000 in
theorem w_X3_firstTwins_b7 (hc : z_C p s m args meth c RX3 cX3_firstTwins 4 (some .int)) {out : (Int32 × z_M)} : ∀ (n : Nat) (v1 : Int32) (v2 : Int32) (M : z_M) (H : Heap) (locs : List Loc) (ls : Array Slot) (h : F_X3_firstTwins_b7 n v1 v2 M = some out) (hI : z_I G s M H locs) (hl : lv_has ls 4 [(0, .ref (z_ad G 15 0)), (1, .int v1), (2, .int v2)]), W p l e (z_rm 5) s m args below meth c H locs 0 0 (MQ below (z_Q G (some (.int out.1)) out.2) args s 0 0 (z_A G)) (F0 m 7 ls []) := by
  obtain ⟨⟨hx, hb, hml, hown, hts⟩, hr, hlk⟩ := id hc
  intro n
  induction n with
  | zero => intro v1 v2 M H locs ls h; cases h
  | succ n ih =>
    intro v1 v2 M H locs ls h hI hl
    rw [F_X3_firstTwins_b7] at h
    refine lv_iload_n hx hb dX3_firstTwins_7 rfl (lv_at hl 2 rfl) ?_
    refine lv_iload_n hx hb dX3_firstTwins_8 rfl (lv_at hl 1 rfl) ?_
    refine lv_icmp_ge (tgt := 56) hx hb dX3_firstTwins_9 (by decide) (fun c3 => ?_) (fun c3 => ?_)
    · replace h := z_ift h c3
      refine lv_ldc (v := (-1000000)) hx hb hown (hts _ wd_3_103) dX3_firstTwins_56 ?_
      obtain rfl := Option.some.inj h
      exact z_ri hc hI dX3_firstTwins_58
    · replace h := z_iff h c3
      refine lv_iload_n hx hb dX3_firstTwins_12 rfl (lv_at hl 2 rfl) ?_
      refine lv_iconst (v := 1) hx hb dX3_firstTwins_13 (by decide) ?_
      refine lv_iadd hx hb dX3_firstTwins_14 ?_
      refine z_nI h (fun x4 h => ?_)
      refine lv_istore_n (lv' := [(3, .int x4), (0, .ref (z_ad G 15 0)), (1, .int v1), (2, .int v2)]) hx hb dX3_firstTwins_15 rfl hl (by decide) rfl (fun ls hl => ?_)
      exact w_X3_firstTwins_b16 hc ih _ v1 v2 x4 _ _ _ _ h hI (lv_sub hl [1, 2, 3, 0] rfl)
set_option maxRecDepth 100000 in
set_option maxHeartbeats 4000000 in
theorem c_X3_firstTwins {G : z_G} {l : Launch} {M : z_M} {out : (Int32 × z_M)} (h : F_X3_firstTwins M = some out) : z_Met G l yX3_firstTwins cX3_firstTwins 4 (some .int) 5 [.ref (z_ad G 15 0)] M (some (.int out.1)) out.2 := by
  unfold F_X3_firstTwins at h
  refine z_met_of (by decide) rfl (Nat.le_of_ble_eq_true rfl) (fun p e s m below meth c ls hc hI hl => ?_)
  obtain ⟨⟨hx, hb, hml, hown, hts⟩, hr, hlk⟩ := id hc
  have hl : lv_has ls 4 [(0, .ref (z_ad G 15 0))] := hl
  refine lv_aload_n hx hb dX3_firstTwins_0 rfl (lv_at hl 0 rfl) ?_
  obtain ⟨q1, e2, h⟩ := z_bnd h
  refine iv_X3_61 hc hI (c_X3_numberTunes e2) (z_room (by decide) (by decide)) hl.1 (Nat.le_of_ble_eq_true rfl) ⟨Nat.zero_le _, Nat.zero_le _⟩ dX3_firstTwins_1 (fun H locs hI => ?_)
  refine lv_istore_n (lv' := [(1, .int q1.1), (0, .ref (z_ad G 15 0))]) hx hb dX3_firstTwins_4 rfl hl (by decide) rfl (fun ls hl => ?_)
  refine lv_iconst (v := 0) hx hb dX3_firstTwins_5 (by decide) ?_
  refine lv_istore_n (lv' := [(2, .int 0), (1, .int q1.1), (0, .ref (z_ad G 15 0))]) hx hb dX3_firstTwins_6 rfl hl (by decide) rfl (fun ls hl => ?_)
  exact w_X3_firstTwins_b7 hc _ q1.1 0 _ _ _ _ h hI (lv_sub hl [2, 1, 0] rfl)
set_option maxRecDepth 100000 in
set_option maxHeartbeats 4000000 in
theorem w_X3_isSmaller_b17 {M : z_M} (hc : z_C p s m args meth c RX3 cX3_isSmaller 2 (some .boolean)) {out : Int32} (H : Heap) (locs : List Loc) (ls : Array Slot) (h : F_X3_isSmaller_b17 M = some out) (hI : z_I G s M H locs) (hl : lv_has ls 2 []) : W p l e (z_rm 2) s m args below meth c H locs 0 0 (MQ below (z_Q G (some (.int out)) M) args s 0 0 (z_A G)) (F0 m 17 ls []) := by
  obtain ⟨⟨hx, hb, hml, hown, hts⟩, hr, hlk⟩ := id hc
  unfold F_X3_isSmaller_b17 at h
  refine lv_iconst (v := 1) hx hb dX3_isSmaller_17 (by decide) ?_
  refine lv_goto (tgt := 22) hx hb dX3_isSmaller_18 (by decide) ?_
  obtain rfl := Option.some.inj h
  exact z_rz (x := 1) hc hI (by decide) dX3_isSmaller_22
set_option maxRecDepth 100000 in
set_option maxHeartbeats 4000000 in
theorem c_X3_isSmaller {G : z_G} {l : Launch} {a1 : Int32} {a2 : Int32} {M : z_M} {out : Int32} (h : F_X3_isSmaller a1 a2 M = some out) : z_Met G l yX3_isSmaller cX3_isSmaller 2 (some .boolean) 2 [.int a1, .int a2] M (some (.int out)) M := by
  unfold F_X3_isSmaller at h
  refine z_met_of (by decide) rfl (Nat.le_of_ble_eq_true rfl) (fun p e s m below meth c ls hc hI hl => ?_)
  obtain ⟨⟨hx, hb, hml, hown, hts⟩, hr, hlk⟩ := id hc
  have hl : lv_has ls 2 [(0, .int a1), (1, .int a2)] := hl
  refine lv_iload_n hx hb dX3_isSmaller_0 rfl (lv_at hl 1 rfl) ?_
  refine lv_ldc (v := (-1000000)) hx hb hown (hts _ wd_3_103) dX3_isSmaller_1 ?_
  refine lv_icmp_eq (tgt := 17) hx hb dX3_isSmaller_3 (by decide) (fun c1 => ?_) (fun c1 => ?_)
  · replace h := z_ift h c1
    exact w_X3_isSmaller_b17 hc _ _ _ h hI (lv_sub hl [] rfl)
  · replace h := z_iff h c1
    refine lv_iload_n hx hb dX3_isSmaller_6 rfl (lv_at hl 0 rfl) ?_
    obtain ⟨q2, e3, h⟩ := z_bnd h
    refine iv_X3_56 hc hI (c_J6_bitCount_0f7a4 e3) (z_room (by decide) (by decide)) hl.1 (Nat.le_of_ble_eq_true rfl) ⟨Nat.zero_le _, Nat.zero_le _⟩ dX3_isSmaller_7 (fun H locs hI => ?_)
    refine lv_iload_n hx hb dX3_isSmaller_10 rfl (lv_at hl 1 rfl) ?_
    obtain ⟨q4, e5, h⟩ := z_bnd h
    refine iv_X3_56 hc hI (c_J6_bitCount_0f7a4 e5) (z_room (by decide) (by decide)) hl.1 (Nat.le_of_ble_eq_true rfl) ⟨Nat.zero_le _, Nat.zero_le _⟩ dX3_isSmaller_11 (fun H locs hI => ?_)
    refine lv_icmp_ge (tgt := 21) hx hb dX3_isSmaller_14 (by decide) (fun c6 => ?_) (fun c6 => ?_)
    · replace h := z_ift h c6
      refine lv_iconst (v := 0) hx hb dX3_isSmaller_21 (by decide) ?_
      obtain rfl := Option.some.inj h
      exact z_rz (x := 0) hc hI (by decide) dX3_isSmaller_22
    · replace h := z_iff h c6
      exact w_X3_isSmaller_b17 hc _ _ _ h hI (lv_sub hl [] rfl)
set_option maxRecDepth 100000 in
set_option maxHeartbeats 4000000 in
theorem w_X3_isUnheard_b101 {M : z_M} (hc : z_C p s m args meth c RX3 cX3_isUnheard 8 (some .boolean)) {out : Int32} {K14 : Int32 → Int32 → Int32 → Int32 → Int32 → Option Int32} (hK14 : ∀ (v1 : Int32) (v2 : Int32) (v3 : Int32) (v4 : Int32) (v5 : Int32) (H : Heap) (locs : List Loc) (ls : Array Slot), K14 v1 v2 v3 v4 v5 = some out → z_I G s M H locs → lv_has ls 8 [(0, .ref (z_ad G 15 0)), (1, .int v1), (2, .int v2), (3, .int v3), (4, .int v4), (5, .int v5)] → W p l e (z_rm 3) s m args below meth c H locs 0 0 (MQ below (z_Q G (some (.int out)) M) args s 0 0 (z_A G)) (F0 m 14 ls [])) (v1 : Int32) (v2 : Int32) (v3 : Int32) (v4 : Int32) (v5 : Int32) (H : Heap) (locs : List Loc) (ls : Array Slot) (h : F_X3_isUnheard_b101 M K14 v1 v2 v3 v4 v5 = some out) (hI : z_I G s M H locs) (hl : lv_has ls 8 [(0, .ref (z_ad G 15 0)), (1, .int v1), (2, .int v2), (3, .int v3), (4, .int v4), (5, .int v5)]) : W p l e (z_rm 3) s m args below meth c H locs 0 0 (MQ below (z_Q G (some (.int out)) M) args s 0 0 (z_A G)) (F0 m 101 ls []) := by
  obtain ⟨⟨hx, hb, hml, hown, hts⟩, hr, hlk⟩ := id hc
  unfold F_X3_isUnheard_b101 at h
  refine lv_iinc (v := v5 + 1) (lv' := [(5, .int (v5 + 1)), (0, .ref (z_ad G 15 0)), (1, .int v1), (2, .int v2), (3, .int v3), (4, .int v4)]) hx hb dX3_isUnheard_101 hl (k := 5) rfl rfl (by decide) rfl (fun ls hl => ?_)
  refine lv_goto (tgt := 14) hx hb dX3_isUnheard_104 (by decide) ?_
  exact hK14 v1 v2 v3 v4 (v5 + 1) _ _ _ h hI (lv_sub hl [1, 2, 3, 4, 5, 0] rfl)
set_option maxRecDepth 100000 in
set_option maxHeartbeats 4000000 in
theorem w_X3_isUnheard_b72 {M : z_M} (hc : z_C p s m args meth c RX3 cX3_isUnheard 8 (some .boolean)) {out : Int32} {K14 : Int32 → Int32 → Int32 → Int32 → Int32 → Option Int32} (hK14 : ∀ (v1 : Int32) (v2 : Int32) (v3 : Int32) (v4 : Int32) (v5 : Int32) (H : Heap) (locs : List Loc) (ls : Array Slot), K14 v1 v2 v3 v4 v5 = some out → z_I G s M H locs → lv_has ls 8 [(0, .ref (z_ad G 15 0)), (1, .int v1), (2, .int v2), (3, .int v3), (4, .int v4), (5, .int v5)] → W p l e (z_rm 3) s m args below meth c H locs 0 0 (MQ below (z_Q G (some (.int out)) M) args s 0 0 (z_A G)) (F0 m 14 ls [])) (v1 : Int32) (v2 : Int32) (v3 : Int32) (v4 : Int32) (v5 : Int32) (v6 : Int32) (s0 : Int32) (H : Heap) (locs : List Loc) (ls : Array Slot) (h : F_X3_isUnheard_b72 M K14 v1 v2 v3 v4 v5 v6 s0 = some out) (hI : z_I G s M H locs) (hl : lv_has ls 8 [(0, .ref (z_ad G 15 0)), (1, .int v1), (2, .int v2), (3, .int v3), (4, .int v4), (5, .int v5), (6, .int v6)]) : W p l e (z_rm 3) s m args below meth c H locs 0 0 (MQ below (z_Q G (some (.int out)) M) args s 0 0 (z_A G)) (F0 m 72 ls [.int s0]) := by
  obtain ⟨⟨hx, hb, hml, hown, hts⟩, hr, hlk⟩ := id hc
  unfold F_X3_isUnheard_b72 at h
  refine lv_istore (lv' := [(7, .int s0), (0, .ref (z_ad G 15 0)), (1, .int v1), (2, .int v2), (3, .int v3), (4, .int v4), (5, .int v5), (6, .int v6)]) hx hb dX3_isUnheard_72 hl (by decide) rfl (fun ls hl => ?_)
  refine lv_aload_n hx hb dX3_isUnheard_74 rfl (lv_at hl 1 rfl) ?_
  refine gf_X3_12 hc hI dX3_isUnheard_75 ?_
  refine lv_iload hx hb dX3_isUnheard_78 (lv_at hl 0 rfl) ?_
  refine lv_aload_n hx hb dX3_isUnheard_80 rfl (lv_at hl 1 rfl) ?_
  refine gf_X3_12 hc hI dX3_isUnheard_81 ?_
  refine lv_iload hx hb dX3_isUnheard_84 (lv_at hl 7 rfl) ?_
  obtain ⟨q12, e13, h⟩ := z_bnd h
  refine iv_X3_40 (by decide) hc hI (c_X5_toneOf (by decide) e13) (z_room (by decide) (by decide)) hl.1 (Nat.le_of_ble_eq_true rfl) ⟨Nat.zero_le _, Nat.zero_le _⟩ dX3_isUnheard_86 (fun H locs hI => ?_)
  refine lv_iload hx hb dX3_isUnheard_89 (lv_at hl 5 rfl) ?_
  obtain ⟨q14, e15, h⟩ := z_bnd h
  refine iv_X3_109 (by decide) hc hI (c_X5_soundAs (by decide) e15) (z_room (by decide) (by decide)) hl.1 (Nat.le_of_ble_eq_true rfl) ⟨Nat.zero_le _, Nat.zero_le _⟩ dX3_isUnheard_91 (fun H locs hI => ?_)
  refine lv_bipush (v := 10) hx hb dX3_isUnheard_94 (by decide) ?_
  refine lv_icmp_eq (tgt := 101) hx hb dX3_isUnheard_96 (by decide) (fun c16 => ?_) (fun c16 => ?_)
  · replace h := z_ift h c16
    exact w_X3_isUnheard_b101 hc hK14 v1 v2 v3 v4 v5 _ _ _ h hI (lv_sub hl [1, 2, 3, 4, 5, 6] rfl)
  · replace h := z_iff h c16
    refine lv_iconst (v := 0) hx hb dX3_isUnheard_99 (by decide) ?_
    obtain rfl := Option.some.inj h
    exact z_rz (x := 0) hc hI (by decide) dX3_isUnheard_100
set_option maxRecDepth 100000 in
set_option maxHeartbeats 4000000 in
theorem w_X3_isUnheard_b14 {M : z_M} (hc : z_C p s m args meth c RX3 cX3_isUnheard 8 (some .boolean)) {out : Int32} : ∀ (n : Nat) (v1 : Int32) (v2 : Int32) (v3 : Int32) (v4 : Int32) (v5 : Int32) (H : Heap) (locs : List Loc) (ls : Array Slot) (h : F_X3_isUnheard_b14 M n v1 v2 v3 v4 v5 = some out) (hI : z_I G s M H locs) (hl : lv_has ls 8 [(0, .ref (z_ad G 15 0)), (1, .int v1), (2, .int v2), (3, .int v3), (4, .int v4), (5, .int v5)]), W p l e (z_rm 3) s m args below meth c H locs 0 0 (MQ below (z_Q G (some (.int out)) M) args s 0 0 (z_A G)) (F0 m 14 ls []) := by
  obtain ⟨⟨hx, hb, hml, hown, hts⟩, hr, hlk⟩ := id hc
  intro n
  induction n with
  | zero => intro v1 v2 v3 v4 v5 H locs ls h; cases h
  | succ n ih =>
    intro v1 v2 v3 v4 v5 H locs ls h hI hl
    rw [F_X3_isUnheard_b14] at h
    refine lv_iload hx hb dX3_isUnheard_14 (lv_at hl 5 rfl) ?_
    refine lv_bipush (v := 8) hx hb dX3_isUnheard_16 (by decide) ?_
    refine lv_icmp_ge (tgt := 107) hx hb dX3_isUnheard_18 (by decide) (fun c3 => ?_) (fun c3 => ?_)
    · replace h := z_ift h c3
      refine lv_iconst (v := 1) hx hb dX3_isUnheard_107 (by decide) ?_
      obtain rfl := Option.some.inj h
      exact z_rz (x := 1) hc hI (by decide) dX3_isUnheard_108
    · replace h := z_iff h c3
      refine lv_aload_n hx hb dX3_isUnheard_21 rfl (lv_at hl 0 rfl) ?_
      refine gf_X3_12 hc hI dX3_isUnheard_22 ?_
      refine lv_iload_n hx hb dX3_isUnheard_25 rfl (lv_at hl 1 rfl) ?_
      refine lv_iload hx hb dX3_isUnheard_26 (lv_at hl 5 rfl) ?_
      obtain ⟨q4, e5, h⟩ := z_bnd h
      refine iv_X3_100 (by decide) hc hI (c_X5_treadOf (by decide) e5) (z_room (by decide) (by decide)) hl.1 (Nat.le_of_ble_eq_true rfl) ⟨Nat.zero_le _, Nat.zero_le _⟩ dX3_isUnheard_28 (fun H locs hI => ?_)
      refine lv_istore (lv' := [(6, .int q4), (0, .ref (z_ad G 15 0)), (1, .int v1), (2, .int v2), (3, .int v3), (4, .int v4), (5, .int v5)]) hx hb dX3_isUnheard_31 hl (by decide) rfl (fun ls hl => ?_)
      refine lv_aload_n hx hb dX3_isUnheard_33 rfl (lv_at hl 1 rfl) ?_
      refine gf_X3_12 hc hI dX3_isUnheard_34 ?_
      refine lv_iload hx hb dX3_isUnheard_37 (lv_at hl 0 rfl) ?_
      refine lv_iload_n hx hb dX3_isUnheard_39 rfl (lv_at hl 3 rfl) ?_
      obtain ⟨q6, e7, h⟩ := z_bnd h
      refine iv_X3_103 (by decide) hc hI (c_X5_isNear (by decide) e7) (z_room (by decide) (by decide)) hl.1 (Nat.le_of_ble_eq_true rfl) ⟨Nat.zero_le _, Nat.zero_le _⟩ dX3_isUnheard_40 (fun H locs hI => ?_)
      refine lv_if_ne (tgt := 49) hx hb dX3_isUnheard_43 (by decide) (fun c8 => ?_) (fun c8 => ?_)
      · replace h := z_iff h c8
        refine lv_iload_n hx hb dX3_isUnheard_49 rfl (lv_at hl 4 rfl) ?_
        refine lv_iload hx hb dX3_isUnheard_50 (lv_at hl 0 rfl) ?_
        refine lv_ishr hx hb dX3_isUnheard_52 ?_
        refine lv_iconst (v := 1) hx hb dX3_isUnheard_53 (by decide) ?_
        refine lv_iand hx hb dX3_isUnheard_54 ?_
        refine lv_iconst (v := 1) hx hb dX3_isUnheard_55 (by decide) ?_
        refine lv_icmp_ne (tgt := 63) hx hb dX3_isUnheard_56 (by decide) (fun c9 => ?_) (fun c9 => ?_)
        · replace h := z_iff h c9
          refine lv_aload_n hx hb dX3_isUnheard_63 rfl (lv_at hl 1 rfl) ?_
          refine gf_X3_12 hc hI dX3_isUnheard_64 ?_
          refine lv_iload hx hb dX3_isUnheard_67 (lv_at hl 0 rfl) ?_
          obtain ⟨q10, e11, h⟩ := z_bnd h
          refine iv_X3_106 (by decide) hc hI (c_X5_kindOf (by decide) e11) (z_room (by decide) (by decide)) hl.1 (Nat.le_of_ble_eq_true rfl) ⟨Nat.zero_le _, Nat.zero_le _⟩ dX3_isUnheard_69 (fun H locs hI => ?_)
          exact w_X3_isUnheard_b72 hc ih v1 v2 v3 v4 v5 q4 q10 _ _ _ h hI (lv_sub hl [1, 2, 3, 4, 5, 6, 0] rfl)
        · replace h := z_ift h c9
          refine lv_iconst (v := 5) hx hb dX3_isUnheard_59 (by decide) ?_
          refine lv_goto (tgt := 72) hx hb dX3_isUnheard_60 (by decide) ?_
          exact w_X3_isUnheard_b72 hc ih v1 v2 v3 v4 v5 q4 5 _ _ _ h hI (lv_sub hl [1, 2, 3, 4, 5, 6, 0] rfl)
      · replace h := z_ift h c8
        refine lv_goto (tgt := 101) hx hb dX3_isUnheard_46 (by decide) ?_
        exact w_X3_isUnheard_b101 hc ih v1 v2 v3 v4 v5 _ _ _ h hI (lv_sub hl [1, 2, 3, 4, 5, 6] rfl)
set_option maxRecDepth 100000 in
set_option maxHeartbeats 4000000 in
theorem c_X3_isUnheard {G : z_G} {l : Launch} {a1 : Int32} {a2 : Int32} {a3 : Int32} {M : z_M} {out : Int32} (h : F_X3_isUnheard a1 a2 a3 M = some out) : z_Met G l yX3_isUnheard cX3_isUnheard 8 (some .boolean) 3 [.ref (z_ad G 15 0), .int a1, .int a2, .int a3] M (some (.int out)) M := by
  unfold F_X3_isUnheard at h
  refine z_met_of (by decide) rfl (Nat.le_of_ble_eq_true rfl) (fun p e s m below meth c ls hc hI hl => ?_)
  obtain ⟨⟨hx, hb, hml, hown, hts⟩, hr, hlk⟩ := id hc
  have hl : lv_has ls 8 [(0, .ref (z_ad G 15 0)), (1, .int a1), (2, .int a2), (3, .int a3)] := hl
  refine lv_aload_n hx hb dX3_isUnheard_0 rfl (lv_at hl 0 rfl) ?_
  refine gf_X3_12 hc hI dX3_isUnheard_1 ?_
  refine lv_iload_n hx hb dX3_isUnheard_4 rfl (lv_at hl 1 rfl) ?_
  refine lv_iconst (v := 2) hx hb dX3_isUnheard_5 (by decide) ?_
  obtain ⟨q1, e2, h⟩ := z_bnd h
  refine iv_X3_97 (by decide) hc hI (c_X5_partOf (by decide) e2) (z_room (by decide) (by decide)) hl.1 (Nat.le_of_ble_eq_true rfl) ⟨Nat.zero_le _, Nat.zero_le _⟩ dX3_isUnheard_6 (fun H locs hI => ?_)
  refine lv_istore (lv' := [(4, .int q1), (0, .ref (z_ad G 15 0)), (1, .int a1), (2, .int a2), (3, .int a3)]) hx hb dX3_isUnheard_9 hl (by decide) rfl (fun ls hl => ?_)
  refine lv_iconst (v := 0) hx hb dX3_isUnheard_11 (by decide) ?_
  refine lv_istore (lv' := [(5, .int 0), (4, .int q1), (0, .ref (z_ad G 15 0)), (1, .int a1), (2, .int a2), (3, .int a3)]) hx hb dX3_isUnheard_12 hl (by decide) rfl (fun ls hl => ?_)
  exact w_X3_isUnheard_b14 hc _ a1 a2 a3 q1 0 _ _ _ h hI (lv_sub hl [2, 3, 4, 5, 1, 0] rfl)
set_option maxRecDepth 100000 in
set_option maxHeartbeats 4000000 in
theorem c_X3_sizeOf {G : z_G} {l : Launch} {a1 : Int32} {M : z_M} {out : Int32} (h : F_X3_sizeOf a1 M = some out) : z_Met G l yX3_sizeOf cX3_sizeOf 1 (some .int) 2 [.int a1] M (some (.int out)) M := by
  unfold F_X3_sizeOf at h
  refine z_met_of (by decide) rfl (Nat.le_of_ble_eq_true rfl) (fun p e s m below meth c ls hc hI hl => ?_)
  obtain ⟨⟨hx, hb, hml, hown, hts⟩, hr, hlk⟩ := id hc
  have hl : lv_has ls 1 [(0, .int a1)] := hl
  refine lv_iload_n hx hb dX3_sizeOf_0 rfl (lv_at hl 0 rfl) ?_
  refine lv_ldc (v := (-1000000)) hx hb hown (hts _ wd_3_103) dX3_sizeOf_1 ?_
  refine lv_icmp_ne (tgt := 11) hx hb dX3_sizeOf_3 (by decide) (fun c1 => ?_) (fun c1 => ?_)
  · replace h := z_iff h c1
    refine lv_iload_n hx hb dX3_sizeOf_11 rfl (lv_at hl 0 rfl) ?_
    obtain ⟨q2, e3, h⟩ := z_bnd h
    refine iv_X3_56 hc hI (c_J6_bitCount_0f7a4 e3) (z_room (by decide) (by decide)) hl.1 (Nat.le_of_ble_eq_true rfl) ⟨Nat.zero_le _, Nat.zero_le _⟩ dX3_sizeOf_12 (fun H locs hI => ?_)
    obtain rfl := Option.some.inj h
    exact z_ri hc hI dX3_sizeOf_15
  · replace h := z_ift h c1
    refine lv_ldc (v := (-1000000)) hx hb hown (hts _ wd_3_103) dX3_sizeOf_6 ?_
    refine lv_goto (tgt := 15) hx hb dX3_sizeOf_8 (by decide) ?_
    obtain rfl := Option.some.inj h
    exact z_ri hc hI dX3_sizeOf_15
set_option maxRecDepth 100000 in
set_option maxHeartbeats 4000000 in
theorem w_X3_fewestFelts_b50 {M : z_M} (hc : z_C p s m args meth c RX3 cX3_fewestFelts 7 (some .int)) {out : Int32} {K18 : Int32 → Int32 → Int32 → Int32 → Int32 → Int32 → Option Int32} (hK18 : ∀ (v1 : Int32) (v2 : Int32) (v3 : Int32) (v4 : Int32) (v5 : Int32) (v6 : Int32) (H : Heap) (locs : List Loc) (ls : Array Slot), K18 v1 v2 v3 v4 v5 v6 = some out → z_I G s M H locs → lv_has ls 7 [(0, .ref (z_ad G 15 0)), (1, .int v1), (2, .int v2), (3, .int v3), (4, .int v4), (5, .int v5), (6, .int v6)] → W p l e (z_rm 4) s m args below meth c H locs 0 0 (MQ below (z_Q G (some (.int out)) M) args s 0 0 (z_A G)) (F0 m 18 ls [])) (v1 : Int32) (v2 : Int32) (v3 : Int32) (v4 : Int32) (v5 : Int32) (v6 : Int32) (H : Heap) (locs : List Loc) (ls : Array Slot) (h : F_X3_fewestFelts_b50 M K18 v1 v2 v3 v4 v5 v6 = some out) (hI : z_I G s M H locs) (hl : lv_has ls 7 [(0, .ref (z_ad G 15 0)), (1, .int v1), (2, .int v2), (3, .int v3), (4, .int v4), (5, .int v5), (6, .int v6)]) : W p l e (z_rm 4) s m args below meth c H locs 0 0 (MQ below (z_Q G (some (.int out)) M) args s 0 0 (z_A G)) (F0 m 50 ls []) := by
  obtain ⟨⟨hx, hb, hml, hown, hts⟩, hr, hlk⟩ := id hc
  unfold F_X3_fewestFelts_b50 at h
  refine lv_iinc (v := v6 + 1) (lv' := [(6, .int (v6 + 1)), (0, .ref (z_ad G 15 0)), (1, .int v1), (2, .int v2), (3, .int v3), (4, .int v4), (5, .int v5)]) hx hb dX3_fewestFelts_50 hl (k := 6) rfl rfl (by decide) rfl (fun ls hl => ?_)
  refine lv_goto (tgt := 18) hx hb dX3_fewestFelts_53 (by decide) ?_
  exact hK18 v1 v2 v3 v4 v5 (v6 + 1) _ _ _ h hI (lv_sub hl [1, 2, 3, 4, 5, 6, 0] rfl)
set_option maxRecDepth 100000 in
set_option maxHeartbeats 4000000 in
theorem w_X3_fewestFelts_b18 {M : z_M} (hc : z_C p s m args meth c RX3 cX3_fewestFelts 7 (some .int)) {out : Int32} : ∀ (n : Nat) (v1 : Int32) (v2 : Int32) (v3 : Int32) (v4 : Int32) (v5 : Int32) (v6 : Int32) (H : Heap) (locs : List Loc) (ls : Array Slot) (h : F_X3_fewestFelts_b18 M n v1 v2 v3 v4 v5 v6 = some out) (hI : z_I G s M H locs) (hl : lv_has ls 7 [(0, .ref (z_ad G 15 0)), (1, .int v1), (2, .int v2), (3, .int v3), (4, .int v4), (5, .int v5), (6, .int v6)]), W p l e (z_rm 4) s m args below meth c H locs 0 0 (MQ below (z_Q G (some (.int out)) M) args s 0 0 (z_A G)) (F0 m 18 ls []) := by
  obtain ⟨⟨hx, hb, hml, hown, hts⟩, hr, hlk⟩ := id hc
  intro n
  induction n with
  | zero => intro v1 v2 v3 v4 v5 v6 H locs ls h; cases h
  | succ n ih =>
    intro v1 v2 v3 v4 v5 v6 H locs ls h hI hl
    rw [F_X3_fewestFelts_b18] at h
    refine lv_iload hx hb dX3_fewestFelts_18 (lv_at hl 6 rfl) ?_
    refine lv_iload hx hb dX3_fewestFelts_20 (lv_at hl 5 rfl) ?_
    refine lv_icmp_ge (tgt := 56) hx hb dX3_fewestFelts_22 (by decide) (fun c4 => ?_) (fun c4 => ?_)
    · replace h := z_ift h c4
      refine lv_iload_n hx hb dX3_fewestFelts_56 rfl (lv_at hl 3 rfl) ?_
      refine lv_if_ne (tgt := 68) hx hb dX3_fewestFelts_57 (by decide) (fun c5 => ?_) (fun c5 => ?_)
      · replace h := z_iff h c5
        refine lv_iload hx hb dX3_fewestFelts_68 (lv_at hl 4 rfl) ?_
        obtain rfl := Option.some.inj h
        exact z_ri hc hI dX3_fewestFelts_70
      · replace h := z_ift h c5
        refine lv_iload hx hb dX3_fewestFelts_60 (lv_at hl 4 rfl) ?_
        obtain ⟨q6, e7, h⟩ := z_bnd h
        refine iv_X3_88 hc hI (c_X3_sizeOf e7) (z_room (by decide) (by decide)) hl.1 (Nat.le_of_ble_eq_true rfl) ⟨Nat.zero_le _, Nat.zero_le _⟩ dX3_fewestFelts_62 (fun H locs hI => ?_)
        refine lv_goto (tgt := 70) hx hb dX3_fewestFelts_65 (by decide) ?_
        obtain rfl := Option.some.inj h
        exact z_ri hc hI dX3_fewestFelts_70
    · replace h := z_iff h c4
      refine lv_iload hx hb dX3_fewestFelts_25 (lv_at hl 6 rfl) ?_
      refine lv_iload hx hb dX3_fewestFelts_27 (lv_at hl 4 rfl) ?_
      obtain ⟨q8, e9, h⟩ := z_bnd h
      refine iv_X3_80 hc hI (c_X3_isSmaller e9) (z_room (by decide) (by decide)) hl.1 (Nat.le_of_ble_eq_true rfl) ⟨Nat.zero_le _, Nat.zero_le _⟩ dX3_fewestFelts_29 (fun H locs hI => ?_)
      refine lv_if_eq (tgt := 50) hx hb dX3_fewestFelts_32 (by decide) (fun c10 => ?_) (fun c10 => ?_)
      · replace h := z_ift h c10
        exact w_X3_fewestFelts_b50 hc ih v1 v2 v3 v4 v5 v6 _ _ _ h hI hl
      · replace h := z_iff h c10
        refine lv_aload_n hx hb dX3_fewestFelts_35 rfl (lv_at hl 0 rfl) ?_
        refine lv_iload_n hx hb dX3_fewestFelts_36 rfl (lv_at hl 1 rfl) ?_
        refine lv_iload_n hx hb dX3_fewestFelts_37 rfl (lv_at hl 2 rfl) ?_
        refine lv_iload hx hb dX3_fewestFelts_38 (lv_at hl 6 rfl) ?_
        obtain ⟨q11, e12, h⟩ := z_bnd h
        refine iv_X3_84 hc hI (c_X3_isUnheard e12) (z_room (by decide) (by decide)) hl.1 (Nat.le_of_ble_eq_true rfl) ⟨Nat.zero_le _, Nat.zero_le _⟩ dX3_fewestFelts_40 (fun H locs hI => ?_)
        refine lv_if_eq (tgt := 50) hx hb dX3_fewestFelts_43 (by decide) (fun c13 => ?_) (fun c13 => ?_)
        · replace h := z_ift h c13
          exact w_X3_fewestFelts_b50 hc ih v1 v2 v3 v4 v5 v6 _ _ _ h hI hl
        · replace h := z_iff h c13
          refine lv_iload hx hb dX3_fewestFelts_46 (lv_at hl 6 rfl) ?_
          refine lv_istore (lv' := [(4, .int v6), (0, .ref (z_ad G 15 0)), (1, .int v1), (2, .int v2), (3, .int v3), (5, .int v5), (6, .int v6)]) hx hb dX3_fewestFelts_48 hl (by decide) rfl (fun ls hl => ?_)
          exact w_X3_fewestFelts_b50 hc ih v1 v2 v3 v6 v5 v6 _ _ _ h hI (lv_sub hl [1, 2, 3, 4, 0, 5, 6] rfl)
set_option maxRecDepth 100000 in
set_option maxHeartbeats 4000000 in
theorem c_X3_fewestFelts {G : z_G} {l : Launch} {a1 : Int32} {a2 : Int32} {a3 : Int32} {M : z_M} {out : Int32} (h : F_X3_fewestFelts a1 a2 a3 M = some out) : z_Met G l yX3_fewestFelts cX3_fewestFelts 7 (some .int) 4 [.ref (z_ad G 15 0), .int a1, .int a2, .int a3] M (some (.int out)) M := by
  unfold F_X3_fewestFelts at h
  refine z_met_of (by decide) rfl (Nat.le_of_ble_eq_true rfl) (fun p e s m below meth c ls hc hI hl => ?_)
  obtain ⟨⟨hx, hb, hml, hown, hts⟩, hr, hlk⟩ := id hc
  have hl : lv_has ls 7 [(0, .ref (z_ad G 15 0)), (1, .int a1), (2, .int a2), (3, .int a3)] := hl
  refine lv_ldc (v := (-1000000)) hx hb hown (hts _ wd_3_103) dX3_fewestFelts_0 ?_
  refine lv_istore (lv' := [(4, .int (-1000000)), (0, .ref (z_ad G 15 0)), (1, .int a1), (2, .int a2), (3, .int a3)]) hx hb dX3_fewestFelts_2 hl (by decide) rfl (fun ls hl => ?_)
  refine lv_iconst (v := 1) hx hb dX3_fewestFelts_4 (by decide) ?_
  refine lv_aload_n hx hb dX3_fewestFelts_5 rfl (lv_at hl 1 rfl) ?_
  refine gf_X3_12 hc hI dX3_fewestFelts_6 ?_
  obtain ⟨q1, e2, h⟩ := z_bnd h
  refine iv_X3_77 (by decide) hc hI (c_X5_treadCount (by decide) e2) (z_room (by decide) (by decide)) hl.1 (Nat.le_of_ble_eq_true rfl) ⟨Nat.zero_le _, Nat.zero_le _⟩ dX3_fewestFelts_9 (fun H locs hI => ?_)
  refine lv_ishl hx hb dX3_fewestFelts_12 ?_
  refine z_nI h (fun x3 h => ?_)
  refine lv_istore (lv' := [(5, .int x3), (4, .int (-1000000)), (0, .ref (z_ad G 15 0)), (1, .int a1), (2, .int a2), (3, .int a3)]) hx hb dX3_fewestFelts_13 hl (by decide) rfl (fun ls hl => ?_)
  refine lv_iconst (v := 0) hx hb dX3_fewestFelts_15 (by decide) ?_
  refine lv_istore (lv' := [(6, .int 0), (5, .int x3), (4, .int (-1000000)), (0, .ref (z_ad G 15 0)), (1, .int a1), (2, .int a2), (3, .int a3)]) hx hb dX3_fewestFelts_16 hl (by decide) rfl (fun ls hl => ?_)
  exact w_X3_fewestFelts_b18 hc _ a1 a2 a3 (-1000000) x3 0 _ _ _ h hI (lv_sub hl [3, 4, 5, 6, 2, 1, 0] rfl)
set_option maxRecDepth 100000 in
set_option maxHeartbeats 4000000 in
theorem w_X3_doorsHearing_b31 {M : z_M} (hc : z_C p s m args meth c RX3 cX3_doorsHearing 4 (some .int)) {out : Int32} {K4 : Int32 → Int32 → Int32 → Option Int32} (hK4 : ∀ (v1 : Int32) (v2 : Int32) (v3 : Int32) (H : Heap) (locs : List Loc) (ls : Array Slot), K4 v1 v2 v3 = some out → z_I G s M H locs → lv_has ls 4 [(0, .ref (z_ad G 15 0)), (1, .int v1), (2, .int v2), (3, .int v3)] → W p l e (z_rm 4) s m args below meth c H locs 0 0 (MQ below (z_Q G (some (.int out)) M) args s 0 0 (z_A G)) (F0 m 4 ls [])) (v1 : Int32) (v2 : Int32) (v3 : Int32) (H : Heap) (locs : List Loc) (ls : Array Slot) (h : F_X3_doorsHearing_b31 M K4 v1 v2 v3 = some out) (hI : z_I G s M H locs) (hl : lv_has ls 4 [(0, .ref (z_ad G 15 0)), (1, .int v1), (2, .int v2), (3, .int v3)]) : W p l e (z_rm 4) s m args below meth c H locs 0 0 (MQ below (z_Q G (some (.int out)) M) args s 0 0 (z_A G)) (F0 m 31 ls []) := by
  obtain ⟨⟨hx, hb, hml, hown, hts⟩, hr, hlk⟩ := id hc
  unfold F_X3_doorsHearing_b31 at h
  refine lv_iinc (v := v3 + 1) (lv' := [(3, .int (v3 + 1)), (0, .ref (z_ad G 15 0)), (1, .int v1), (2, .int v2)]) hx hb dX3_doorsHearing_31 hl (k := 3) rfl rfl (by decide) rfl (fun ls hl => ?_)
  refine lv_goto (tgt := 4) hx hb dX3_doorsHearing_34 (by decide) ?_
  exact hK4 v1 v2 (v3 + 1) _ _ _ h hI (lv_sub hl [1, 2, 3, 0] rfl)
set_option maxRecDepth 100000 in
set_option maxHeartbeats 4000000 in
theorem w_X3_doorsHearing_b4 {M : z_M} (hc : z_C p s m args meth c RX3 cX3_doorsHearing 4 (some .int)) {out : Int32} : ∀ (n : Nat) (v1 : Int32) (v2 : Int32) (v3 : Int32) (H : Heap) (locs : List Loc) (ls : Array Slot) (h : F_X3_doorsHearing_b4 M n v1 v2 v3 = some out) (hI : z_I G s M H locs) (hl : lv_has ls 4 [(0, .ref (z_ad G 15 0)), (1, .int v1), (2, .int v2), (3, .int v3)]), W p l e (z_rm 4) s m args below meth c H locs 0 0 (MQ below (z_Q G (some (.int out)) M) args s 0 0 (z_A G)) (F0 m 4 ls []) := by
  obtain ⟨⟨hx, hb, hml, hown, hts⟩, hr, hlk⟩ := id hc
  intro n
  induction n with
  | zero => intro v1 v2 v3 H locs ls h; cases h
  | succ n ih =>
    intro v1 v2 v3 H locs ls h hI hl
    rw [F_X3_doorsHearing_b4] at h
    refine lv_iload_n hx hb dX3_doorsHearing_4 rfl (lv_at hl 3 rfl) ?_
    refine lv_aload_n hx hb dX3_doorsHearing_5 rfl (lv_at hl 0 rfl) ?_
    refine gf_X3_12 hc hI dX3_doorsHearing_6 ?_
    obtain ⟨q1, e2, h⟩ := z_bnd h
    refine iv_X3_77 (by decide) hc hI (c_X5_treadCount (by decide) e2) (z_room (by decide) (by decide)) hl.1 (Nat.le_of_ble_eq_true rfl) ⟨Nat.zero_le _, Nat.zero_le _⟩ dX3_doorsHearing_9 (fun H locs hI => ?_)
    refine lv_icmp_ge (tgt := 37) hx hb dX3_doorsHearing_12 (by decide) (fun c3 => ?_) (fun c3 => ?_)
    · replace h := z_ift h c3
      refine lv_iload_n hx hb dX3_doorsHearing_37 rfl (lv_at hl 2 rfl) ?_
      obtain rfl := Option.some.inj h
      exact z_ri hc hI dX3_doorsHearing_38
    · replace h := z_iff h c3
      refine lv_aload_n hx hb dX3_doorsHearing_15 rfl (lv_at hl 0 rfl) ?_
      refine lv_iload_n hx hb dX3_doorsHearing_16 rfl (lv_at hl 1 rfl) ?_
      refine lv_iload_n hx hb dX3_doorsHearing_17 rfl (lv_at hl 3 rfl) ?_
      refine lv_iconst (v := 0) hx hb dX3_doorsHearing_18 (by decide) ?_
      obtain ⟨q4, e5, h⟩ := z_bnd h
      refine iv_X3_84 hc hI (c_X3_isUnheard e5) (z_room (by decide) (by decide)) hl.1 (Nat.le_of_ble_eq_true rfl) ⟨Nat.zero_le _, Nat.zero_le _⟩ dX3_doorsHearing_19 (fun H locs hI => ?_)
      refine lv_if_ne (tgt := 31) hx hb dX3_doorsHearing_22 (by decide) (fun c6 => ?_) (fun c6 => ?_)
      · replace h := z_iff h c6
        exact w_X3_doorsHearing_b31 hc ih v1 v2 v3 _ _ _ h hI hl
      · replace h := z_ift h c6
        refine lv_iload_n hx hb dX3_doorsHearing_25 rfl (lv_at hl 2 rfl) ?_
        refine lv_iconst (v := 1) hx hb dX3_doorsHearing_26 (by decide) ?_
        refine lv_iload_n hx hb dX3_doorsHearing_27 rfl (lv_at hl 3 rfl) ?_
        refine lv_ishl hx hb dX3_doorsHearing_28 ?_
        refine lv_ior hx hb dX3_doorsHearing_29 ?_
        refine z_nI h (fun x7 h => ?_)
        refine lv_istore_n (lv' := [(2, .int x7), (0, .ref (z_ad G 15 0)), (1, .int v1), (3, .int v3)]) hx hb dX3_doorsHearing_30 rfl hl (by decide) rfl (fun ls hl => ?_)
        exact w_X3_doorsHearing_b31 hc ih v1 x7 v3 _ _ _ h hI (lv_sub hl [1, 2, 0, 3] rfl)
set_option maxRecDepth 100000 in
set_option maxHeartbeats 4000000 in
theorem c_X3_doorsHearing {G : z_G} {l : Launch} {a1 : Int32} {M : z_M} {out : Int32} (h : F_X3_doorsHearing a1 M = some out) : z_Met G l yX3_doorsHearing cX3_doorsHearing 4 (some .int) 4 [.ref (z_ad G 15 0), .int a1] M (some (.int out)) M := by
  unfold F_X3_doorsHearing at h
  refine z_met_of (by decide) rfl (Nat.le_of_ble_eq_true rfl) (fun p e s m below meth c ls hc hI hl => ?_)
  obtain ⟨⟨hx, hb, hml, hown, hts⟩, hr, hlk⟩ := id hc
  have hl : lv_has ls 4 [(0, .ref (z_ad G 15 0)), (1, .int a1)] := hl
  refine lv_iconst (v := 0) hx hb dX3_doorsHearing_0 (by decide) ?_
  refine lv_istore_n (lv' := [(2, .int 0), (0, .ref (z_ad G 15 0)), (1, .int a1)]) hx hb dX3_doorsHearing_1 rfl hl (by decide) rfl (fun ls hl => ?_)
  refine lv_iconst (v := 0) hx hb dX3_doorsHearing_2 (by decide) ?_
  refine lv_istore_n (lv' := [(3, .int 0), (2, .int 0), (0, .ref (z_ad G 15 0)), (1, .int a1)]) hx hb dX3_doorsHearing_3 rfl hl (by decide) rfl (fun ls hl => ?_)
  exact w_X3_doorsHearing_b4 hc _ a1 0 0 _ _ _ h hI (lv_sub hl [2, 3, 1, 0] rfl)
set_option maxRecDepth 100000 in
set_option maxHeartbeats 4000000 in
theorem w_X3_hearAll_b2 {M : z_M} (hc : z_C p s m args meth c RX3 cX3_hearAll 4 (some .boolean)) {out : Int32} : ∀ (n : Nat) (v1 : Int32) (v2 : Int32) (v3 : Int32) (H : Heap) (locs : List Loc) (ls : Array Slot) (h : F_X3_hearAll_b2 M n v1 v2 v3 = some out) (hI : z_I G s M H locs) (hl : lv_has ls 4 [(0, .ref (z_ad G 15 0)), (1, .int v1), (2, .int v2), (3, .int v3)]), W p l e (z_rm 1) s m args below meth c H locs 0 0 (MQ below (z_Q G (some (.int out)) M) args s 0 0 (z_A G)) (F0 m 2 ls []) := by
  obtain ⟨⟨hx, hb, hml, hown, hts⟩, hr, hlk⟩ := id hc
  intro n
  induction n with
  | zero => intro v1 v2 v3 H locs ls h; cases h
  | succ n ih =>
    intro v1 v2 v3 H locs ls h hI hl
    rw [F_X3_hearAll_b2] at h
    refine lv_iload_n hx hb dX3_hearAll_2 rfl (lv_at hl 3 rfl) ?_
    refine lv_iload_n hx hb dX3_hearAll_3 rfl (lv_at hl 2 rfl) ?_
    refine lv_icmp_ge (tgt := 31) hx hb dX3_hearAll_4 (by decide) (fun c1 => ?_) (fun c1 => ?_)
    · replace h := z_ift h c1
      refine lv_iconst (v := 1) hx hb dX3_hearAll_31 (by decide) ?_
      obtain rfl := Option.some.inj h
      exact z_rz (x := 1) hc hI (by decide) dX3_hearAll_32
    · replace h := z_iff h c1
      refine lv_iload_n hx hb dX3_hearAll_7 rfl (lv_at hl 3 rfl) ?_
      refine lv_iconst (v := 5) hx hb dX3_hearAll_8 (by decide) ?_
      refine lv_icmp_ge (tgt := 31) hx hb dX3_hearAll_9 (by decide) (fun c2 => ?_) (fun c2 => ?_)
      · replace h := z_ift h c2
        refine lv_iconst (v := 1) hx hb dX3_hearAll_31 (by decide) ?_
        obtain rfl := Option.some.inj h
        exact z_rz (x := 1) hc hI (by decide) dX3_hearAll_32
      · replace h := z_iff h c2
        refine lv_aload_n hx hb dX3_hearAll_12 rfl (lv_at hl 0 rfl) ?_
        refine gf_X3_22 hc hI dX3_hearAll_13 ?_
        refine lv_iload_n hx hb dX3_hearAll_16 rfl (lv_at hl 3 rfl) ?_
        obtain ⟨g3, h⟩ := z_grd_some h
        refine ld_k17 hc hI g3 dX3_hearAll_17 ?_
        refine lv_iload_n hx hb dX3_hearAll_18 rfl (lv_at hl 1 rfl) ?_
        refine lv_iand hx hb dX3_hearAll_19 ?_
        refine lv_if_ne (tgt := 25) hx hb dX3_hearAll_20 (by decide) (fun c4 => ?_) (fun c4 => ?_)
        · replace h := z_iff h c4
          refine lv_iinc (v := v3 + 1) (lv' := [(3, .int (v3 + 1)), (0, .ref (z_ad G 15 0)), (1, .int v1), (2, .int v2)]) hx hb dX3_hearAll_25 hl (k := 3) rfl rfl (by decide) rfl (fun ls hl => ?_)
          refine lv_goto (tgt := 2) hx hb dX3_hearAll_28 (by decide) ?_
          exact ih v1 v2 (v3 + 1) _ _ _ h hI (lv_sub hl [1, 2, 3, 0] rfl)
        · replace h := z_ift h c4
          refine lv_iconst (v := 0) hx hb dX3_hearAll_23 (by decide) ?_
          obtain rfl := Option.some.inj h
          exact z_rz (x := 0) hc hI (by decide) dX3_hearAll_24
set_option maxRecDepth 100000 in
set_option maxHeartbeats 4000000 in
theorem c_X3_hearAll {G : z_G} {l : Launch} {a1 : Int32} {a2 : Int32} {M : z_M} {out : Int32} (h : F_X3_hearAll a1 a2 M = some out) : z_Met G l yX3_hearAll cX3_hearAll 4 (some .boolean) 1 [.ref (z_ad G 15 0), .int a1, .int a2] M (some (.int out)) M := by
  unfold F_X3_hearAll at h
  refine z_met_of (by decide) rfl (Nat.le_of_ble_eq_true rfl) (fun p e s m below meth c ls hc hI hl => ?_)
  obtain ⟨⟨hx, hb, hml, hown, hts⟩, hr, hlk⟩ := id hc
  have hl : lv_has ls 4 [(0, .ref (z_ad G 15 0)), (1, .int a1), (2, .int a2)] := hl
  refine lv_iconst (v := 0) hx hb dX3_hearAll_0 (by decide) ?_
  refine lv_istore_n (lv' := [(3, .int 0), (0, .ref (z_ad G 15 0)), (1, .int a1), (2, .int a2)]) hx hb dX3_hearAll_1 rfl hl (by decide) rfl (fun ls hl => ?_)
  exact w_X3_hearAll_b2 hc _ a1 a2 0 _ _ _ h hI (lv_sub hl [1, 2, 3, 0] rfl)
set_option maxRecDepth 100000 in
set_option maxHeartbeats 4000000 in
theorem w_X3_fewestDoors_b82 (hc : z_C p s m args meth c RX3 cX3_fewestDoors 6 (some .int)) {out : (Int32 × z_M)} {K53 : Int32 → Int32 → Int32 → Int32 → Int32 → z_M → Option (Int32 × z_M)} (hK53 : ∀ (v1 : Int32) (v2 : Int32) (v3 : Int32) (v4 : Int32) (v5 : Int32) (M : z_M) (H : Heap) (locs : List Loc) (ls : Array Slot), K53 v1 v2 v3 v4 v5 M = some out → z_I G s M H locs → lv_has ls 6 [(0, .ref (z_ad G 15 0)), (1, .int v1), (2, .int v2), (3, .int v3), (4, .int v4), (5, .int v5)] → W p l e (z_rm 5) s m args below meth c H locs 0 0 (MQ below (z_Q G (some (.int out.1)) out.2) args s 0 0 (z_A G)) (F0 m 53 ls [])) (v1 : Int32) (v2 : Int32) (v3 : Int32) (v4 : Int32) (v5 : Int32) (M : z_M) (H : Heap) (locs : List Loc) (ls : Array Slot) (h : F_X3_fewestDoors_b82 K53 v1 v2 v3 v4 v5 M = some out) (hI : z_I G s M H locs) (hl : lv_has ls 6 [(0, .ref (z_ad G 15 0)), (1, .int v1), (2, .int v2), (3, .int v3), (4, .int v4), (5, .int v5)]) : W p l e (z_rm 5) s m args below meth c H locs 0 0 (MQ below (z_Q G (some (.int out.1)) out.2) args s 0 0 (z_A G)) (F0 m 82 ls []) := by
  obtain ⟨⟨hx, hb, hml, hown, hts⟩, hr, hlk⟩ := id hc
  unfold F_X3_fewestDoors_b82 at h
  refine lv_iinc (v := v5 + 1) (lv' := [(5, .int (v5 + 1)), (0, .ref (z_ad G 15 0)), (1, .int v1), (2, .int v2), (3, .int v3), (4, .int v4)]) hx hb dX3_fewestDoors_82 hl (k := 5) rfl rfl (by decide) rfl (fun ls hl => ?_)
  refine lv_goto (tgt := 53) hx hb dX3_fewestDoors_85 (by decide) ?_
  exact hK53 v1 v2 v3 v4 (v5 + 1) _ _ _ _ h hI (lv_sub hl [1, 2, 3, 4, 5, 0] rfl)
set_option maxRecDepth 100000 in
set_option maxHeartbeats 4000000 in
theorem w_X3_fewestDoors_b53 (hc : z_C p s m args meth c RX3 cX3_fewestDoors 6 (some .int)) {out : (Int32 × z_M)} : ∀ (n : Nat) (v1 : Int32) (v2 : Int32) (v3 : Int32) (v4 : Int32) (v5 : Int32) (M : z_M) (H : Heap) (locs : List Loc) (ls : Array Slot) (h : F_X3_fewestDoors_b53 n v1 v2 v3 v4 v5 M = some out) (hI : z_I G s M H locs) (hl : lv_has ls 6 [(0, .ref (z_ad G 15 0)), (1, .int v1), (2, .int v2), (3, .int v3), (4, .int v4), (5, .int v5)]), W p l e (z_rm 5) s m args below meth c H locs 0 0 (MQ below (z_Q G (some (.int out.1)) out.2) args s 0 0 (z_A G)) (F0 m 53 ls []) := by
  obtain ⟨⟨hx, hb, hml, hown, hts⟩, hr, hlk⟩ := id hc
  intro n
  induction n with
  | zero => intro v1 v2 v3 v4 v5 M H locs ls h; cases h
  | succ n ih =>
    intro v1 v2 v3 v4 v5 M H locs ls h hI hl
    rw [F_X3_fewestDoors_b53] at h
    refine lv_iload hx hb dX3_fewestDoors_53 (lv_at hl 5 rfl) ?_
    refine lv_iload hx hb dX3_fewestDoors_55 (lv_at hl 4 rfl) ?_
    refine lv_icmp_ge (tgt := 88) hx hb dX3_fewestDoors_57 (by decide) (fun c8 => ?_) (fun c8 => ?_)
    · replace h := z_ift h c8
      refine lv_iload_n hx hb dX3_fewestDoors_88 rfl (lv_at hl 1 rfl) ?_
      refine lv_if_ne (tgt := 99) hx hb dX3_fewestDoors_89 (by decide) (fun c9 => ?_) (fun c9 => ?_)
      · replace h := z_iff h c9
        refine lv_iload_n hx hb dX3_fewestDoors_99 rfl (lv_at hl 3 rfl) ?_
        obtain rfl := Option.some.inj h
        exact z_ri hc hI dX3_fewestDoors_100
      · replace h := z_ift h c9
        refine lv_iload_n hx hb dX3_fewestDoors_92 rfl (lv_at hl 3 rfl) ?_
        obtain ⟨q10, e11, h⟩ := z_bnd h
        refine iv_X3_88 hc hI (c_X3_sizeOf e11) (z_room (by decide) (by decide)) hl.1 (Nat.le_of_ble_eq_true rfl) ⟨Nat.zero_le _, Nat.zero_le _⟩ dX3_fewestDoors_93 (fun H locs hI => ?_)
        refine lv_goto (tgt := 100) hx hb dX3_fewestDoors_96 (by decide) ?_
        obtain rfl := Option.some.inj h
        exact z_ri hc hI dX3_fewestDoors_100
    · replace h := z_iff h c8
      refine lv_iload hx hb dX3_fewestDoors_60 (lv_at hl 5 rfl) ?_
      refine lv_iload_n hx hb dX3_fewestDoors_62 rfl (lv_at hl 3 rfl) ?_
      obtain ⟨q12, e13, h⟩ := z_bnd h
      refine iv_X3_80 hc hI (c_X3_isSmaller e13) (z_room (by decide) (by decide)) hl.1 (Nat.le_of_ble_eq_true rfl) ⟨Nat.zero_le _, Nat.zero_le _⟩ dX3_fewestDoors_63 (fun H locs hI => ?_)
      refine lv_if_eq (tgt := 82) hx hb dX3_fewestDoors_66 (by decide) (fun c14 => ?_) (fun c14 => ?_)
      · replace h := z_ift h c14
        exact w_X3_fewestDoors_b82 hc ih v1 v2 v3 v4 v5 _ _ _ _ h hI hl
      · replace h := z_iff h c14
        refine lv_aload_n hx hb dX3_fewestDoors_69 rfl (lv_at hl 0 rfl) ?_
        refine lv_iload hx hb dX3_fewestDoors_70 (lv_at hl 5 rfl) ?_
        refine lv_iload_n hx hb dX3_fewestDoors_72 rfl (lv_at hl 2 rfl) ?_
        obtain ⟨q15, e16, h⟩ := z_bnd h
        refine iv_X3_94 hc hI (c_X3_hearAll e16) (z_room (by decide) (by decide)) hl.1 (Nat.le_of_ble_eq_true rfl) ⟨Nat.zero_le _, Nat.zero_le _⟩ dX3_fewestDoors_73 (fun H locs hI => ?_)
        refine lv_if_eq (tgt := 82) hx hb dX3_fewestDoors_76 (by decide) (fun c17 => ?_) (fun c17 => ?_)
        · replace h := z_ift h c17
          exact w_X3_fewestDoors_b82 hc ih v1 v2 v3 v4 v5 _ _ _ _ h hI hl
        · replace h := z_iff h c17
          refine lv_iload hx hb dX3_fewestDoors_79 (lv_at hl 5 rfl) ?_
          refine lv_istore_n (lv' := [(3, .int v5), (0, .ref (z_ad G 15 0)), (1, .int v1), (2, .int v2), (4, .int v4), (5, .int v5)]) hx hb dX3_fewestDoors_81 rfl hl (by decide) rfl (fun ls hl => ?_)
          exact w_X3_fewestDoors_b82 hc ih v1 v2 v5 v4 v5 _ _ _ _ h hI (lv_sub hl [1, 2, 3, 0, 4, 5] rfl)
set_option maxRecDepth 100000 in
set_option maxHeartbeats 4000000 in
theorem w_X3_fewestDoors_b14 (hc : z_C p s m args meth c RX3 cX3_fewestDoors 6 (some .int)) {out : (Int32 × z_M)} : ∀ (n : Nat) (v1 : Int32) (v2 : Int32) (v3 : Int32) (M : z_M) (H : Heap) (locs : List Loc) (ls : Array Slot) (h : F_X3_fewestDoors_b14 n v1 v2 v3 M = some out) (hI : z_I G s M H locs) (hl : lv_has ls 6 [(0, .ref (z_ad G 15 0)), (1, .int v1), (2, .int v2), (3, .int v3)]), W p l e (z_rm 5) s m args below meth c H locs 0 0 (MQ below (z_Q G (some (.int out.1)) out.2) args s 0 0 (z_A G)) (F0 m 14 ls []) := by
  obtain ⟨⟨hx, hb, hml, hown, hts⟩, hr, hlk⟩ := id hc
  intro n
  induction n with
  | zero => intro v1 v2 v3 M H locs ls h; cases h
  | succ n ih =>
    intro v1 v2 v3 M H locs ls h hI hl
    rw [F_X3_fewestDoors_b14] at h
    refine lv_iload_n hx hb dX3_fewestDoors_14 rfl (lv_at hl 3 rfl) ?_
    refine lv_iload_n hx hb dX3_fewestDoors_15 rfl (lv_at hl 2 rfl) ?_
    refine lv_icmp_ge (tgt := 36) hx hb dX3_fewestDoors_16 (by decide) (fun c4 => ?_) (fun c4 => ?_)
    · replace h := z_ift h c4
      refine lv_ldc (v := (-1000000)) hx hb hown (hts _ wd_3_103) dX3_fewestDoors_36 ?_
      refine lv_istore_n (lv' := [(3, .int (-1000000)), (0, .ref (z_ad G 15 0)), (1, .int v1), (2, .int v2)]) hx hb dX3_fewestDoors_38 rfl hl (by decide) rfl (fun ls hl => ?_)
      refine lv_iconst (v := 1) hx hb dX3_fewestDoors_39 (by decide) ?_
      refine lv_aload_n hx hb dX3_fewestDoors_40 rfl (lv_at hl 1 rfl) ?_
      refine gf_X3_12 hc hI dX3_fewestDoors_41 ?_
      obtain ⟨q5, e6, h⟩ := z_bnd h
      refine iv_X3_77 (by decide) hc hI (c_X5_treadCount (by decide) e6) (z_room (by decide) (by decide)) hl.1 (Nat.le_of_ble_eq_true rfl) ⟨Nat.zero_le _, Nat.zero_le _⟩ dX3_fewestDoors_44 (fun H locs hI => ?_)
      refine lv_ishl hx hb dX3_fewestDoors_47 ?_
      refine z_nI h (fun x7 h => ?_)
      refine lv_istore (lv' := [(4, .int x7), (3, .int (-1000000)), (0, .ref (z_ad G 15 0)), (1, .int v1), (2, .int v2)]) hx hb dX3_fewestDoors_48 hl (by decide) rfl (fun ls hl => ?_)
      refine lv_iconst (v := 0) hx hb dX3_fewestDoors_50 (by decide) ?_
      refine lv_istore (lv' := [(5, .int 0), (4, .int x7), (3, .int (-1000000)), (0, .ref (z_ad G 15 0)), (1, .int v1), (2, .int v2)]) hx hb dX3_fewestDoors_51 hl (by decide) rfl (fun ls hl => ?_)
      exact w_X3_fewestDoors_b53 hc _ v1 v2 (-1000000) x7 0 _ _ _ _ h hI (lv_sub hl [3, 4, 5, 2, 1, 0] rfl)
    · replace h := z_iff h c4
      refine lv_aload_n hx hb dX3_fewestDoors_19 rfl (lv_at hl 0 rfl) ?_
      refine gf_X3_22 hc hI dX3_fewestDoors_20 ?_
      refine lv_iload_n hx hb dX3_fewestDoors_23 rfl (lv_at hl 3 rfl) ?_
      refine lv_aload_n hx hb dX3_fewestDoors_24 rfl (lv_at hl 0 rfl) ?_
      refine lv_iload_n hx hb dX3_fewestDoors_25 rfl (lv_at hl 3 rfl) ?_
      obtain ⟨q18, e19, h⟩ := z_bnd h
      refine iv_X3_91 hc hI (c_X3_doorsHearing e19) (z_room (by decide) (by decide)) hl.1 (Nat.le_of_ble_eq_true rfl) ⟨Nat.zero_le _, Nat.zero_le _⟩ dX3_fewestDoors_26 (fun H locs hI => ?_)
      obtain ⟨g20, h⟩ := z_grd_some h
      refine st_k17 hc hI g20 dX3_fewestDoors_29 (fun H locs hI => ?_)
      refine lv_iinc (v := v3 + 1) (lv' := [(3, .int (v3 + 1)), (0, .ref (z_ad G 15 0)), (1, .int v1), (2, .int v2)]) hx hb dX3_fewestDoors_30 hl (k := 3) rfl rfl (by decide) rfl (fun ls hl => ?_)
      refine lv_goto (tgt := 14) hx hb dX3_fewestDoors_33 (by decide) ?_
      exact ih v1 v2 (v3 + 1) _ _ _ _ h hI (lv_sub hl [1, 2, 3, 0] rfl)
set_option maxRecDepth 100000 in
set_option maxHeartbeats 4000000 in
theorem c_X3_fewestDoors {G : z_G} {l : Launch} {a1 : Int32} {M : z_M} {out : (Int32 × z_M)} (h : F_X3_fewestDoors a1 M = some out) : z_Met G l yX3_fewestDoors cX3_fewestDoors 6 (some .int) 5 [.ref (z_ad G 15 0), .int a1] M (some (.int out.1)) out.2 := by
  unfold F_X3_fewestDoors at h
  refine z_met_of (by decide) rfl (Nat.le_of_ble_eq_true rfl) (fun p e s m below meth c ls hc hI hl => ?_)
  obtain ⟨⟨hx, hb, hml, hown, hts⟩, hr, hlk⟩ := id hc
  have hl : lv_has ls 6 [(0, .ref (z_ad G 15 0)), (1, .int a1)] := hl
  refine lv_aload_n hx hb dX3_fewestDoors_0 rfl (lv_at hl 0 rfl) ?_
  refine gf_X3_12 hc hI dX3_fewestDoors_1 ?_
  obtain ⟨q1, e2, h⟩ := z_bnd h
  refine iv_X3_65 (by decide) hc hI (c_X5_walkerCount (by decide) e2) (z_room (by decide) (by decide)) hl.1 (Nat.le_of_ble_eq_true rfl) ⟨Nat.zero_le _, Nat.zero_le _⟩ dX3_fewestDoors_4 (fun H locs hI => ?_)
  refine lv_iconst (v := 5) hx hb dX3_fewestDoors_7 (by decide) ?_
  refine mt_X3_68 hc hl.1 (z_frm (by decide)) (z_lrm (Nat.le_of_ble_eq_true rfl)) ⟨Nat.zero_le _, Nat.zero_le _⟩ dX3_fewestDoors_8 ?_
  refine z_nI h (fun x3 h => ?_)
  refine lv_istore_n (lv' := [(2, .int x3), (0, .ref (z_ad G 15 0)), (1, .int a1)]) hx hb dX3_fewestDoors_11 rfl hl (by decide) rfl (fun ls hl => ?_)
  refine lv_iconst (v := 0) hx hb dX3_fewestDoors_12 (by decide) ?_
  refine lv_istore_n (lv' := [(3, .int 0), (2, .int x3), (0, .ref (z_ad G 15 0)), (1, .int a1)]) hx hb dX3_fewestDoors_13 rfl hl (by decide) rfl (fun ls hl => ?_)
  exact w_X3_fewestDoors_b14 hc _ a1 x3 0 _ _ _ _ h hI (lv_sub hl [2, 3, 1, 0] rfl)
set_option maxRecDepth 100000 in
set_option maxHeartbeats 4000000 in
theorem w_X3_bestPlaning_b93 (hc : z_C p s m args meth c RX3 cX3_bestPlaning 9 (some .int)) {out : (Int32 × z_M)} {K8 : Int32 → Int32 → Int32 → Int32 → z_M → Option (Int32 × z_M)} (hK8 : ∀ (v1 : Int32) (v2 : Int32) (v3 : Int32) (v4 : Int32) (M : z_M) (H : Heap) (locs : List Loc) (ls : Array Slot), K8 v1 v2 v3 v4 M = some out → z_I G s M H locs → lv_has ls 9 [(0, .ref (z_ad G 15 0)), (1, .int v1), (2, .int v2), (3, .int v3), (4, .int v4)] → W p l e (z_rm 6) s m args below meth c H locs 0 0 (MQ below (z_Q G (some (.int out.1)) out.2) args s 0 0 (z_A G)) (F0 m 8 ls [])) {K45 : Int32 → Int32 → Int32 → Int32 → Int32 → Int32 → Int32 → z_M → Option (Int32 × z_M)} (hK45 : ∀ (v1 : Int32) (v2 : Int32) (v3 : Int32) (v4 : Int32) (v5 : Int32) (v6 : Int32) (v7 : Int32) (M : z_M) (H : Heap) (locs : List Loc) (ls : Array Slot), K45 v1 v2 v3 v4 v5 v6 v7 M = some out → z_I G s M H locs → lv_has ls 9 [(0, .ref (z_ad G 15 0)), (1, .int v1), (2, .int v2), (3, .int v3), (4, .int v4), (5, .int v5), (6, .int v6), (7, .int v7)] → W p l e (z_rm 6) s m args below meth c H locs 0 0 (MQ below (z_Q G (some (.int out.1)) out.2) args s 0 0 (z_A G)) (F0 m 45 ls [])) (v1 : Int32) (v2 : Int32) (v3 : Int32) (v4 : Int32) (v5 : Int32) (v6 : Int32) (v7 : Int32) (M : z_M) (H : Heap) (locs : List Loc) (ls : Array Slot) (h : F_X3_bestPlaning_b93 K8 K45 v1 v2 v3 v4 v5 v6 v7 M = some out) (hI : z_I G s M H locs) (hl : lv_has ls 9 [(0, .ref (z_ad G 15 0)), (1, .int v1), (2, .int v2), (3, .int v3), (4, .int v4), (5, .int v5), (6, .int v6), (7, .int v7)]) : W p l e (z_rm 6) s m args below meth c H locs 0 0 (MQ below (z_Q G (some (.int out.1)) out.2) args s 0 0 (z_A G)) (F0 m 93 ls []) := by
  obtain ⟨⟨hx, hb, hml, hown, hts⟩, hr, hlk⟩ := id hc
  unfold F_X3_bestPlaning_b93 at h
  refine lv_iinc (v := v7 + 1) (lv' := [(7, .int (v7 + 1)), (0, .ref (z_ad G 15 0)), (1, .int v1), (2, .int v2), (3, .int v3), (4, .int v4), (5, .int v5), (6, .int v6)]) hx hb dX3_bestPlaning_93 hl (k := 7) rfl rfl (by decide) rfl (fun ls hl => ?_)
  refine lv_goto (tgt := 45) hx hb dX3_bestPlaning_96 (by decide) ?_
  exact hK45 v1 v2 v3 v4 v5 v6 (v7 + 1) _ _ _ _ h hI (lv_sub hl [1, 2, 3, 4, 5, 6, 7, 0] rfl)
set_option maxRecDepth 100000 in
set_option maxHeartbeats 4000000 in
theorem w_X3_bestPlaning_b81 (hc : z_C p s m args meth c RX3 cX3_bestPlaning 9 (some .int)) {out : (Int32 × z_M)} {K8 : Int32 → Int32 → Int32 → Int32 → z_M → Option (Int32 × z_M)} (hK8 : ∀ (v1 : Int32) (v2 : Int32) (v3 : Int32) (v4 : Int32) (M : z_M) (H : Heap) (locs : List Loc) (ls : Array Slot), K8 v1 v2 v3 v4 M = some out → z_I G s M H locs → lv_has ls 9 [(0, .ref (z_ad G 15 0)), (1, .int v1), (2, .int v2), (3, .int v3), (4, .int v4)] → W p l e (z_rm 6) s m args below meth c H locs 0 0 (MQ below (z_Q G (some (.int out.1)) out.2) args s 0 0 (z_A G)) (F0 m 8 ls [])) {K45 : Int32 → Int32 → Int32 → Int32 → Int32 → Int32 → Int32 → z_M → Option (Int32 × z_M)} (hK45 : ∀ (v1 : Int32) (v2 : Int32) (v3 : Int32) (v4 : Int32) (v5 : Int32) (v6 : Int32) (v7 : Int32) (M : z_M) (H : Heap) (locs : List Loc) (ls : Array Slot), K45 v1 v2 v3 v4 v5 v6 v7 M = some out → z_I G s M H locs → lv_has ls 9 [(0, .ref (z_ad G 15 0)), (1, .int v1), (2, .int v2), (3, .int v3), (4, .int v4), (5, .int v5), (6, .int v6), (7, .int v7)] → W p l e (z_rm 6) s m args below meth c H locs 0 0 (MQ below (z_Q G (some (.int out.1)) out.2) args s 0 0 (z_A G)) (F0 m 45 ls [])) (v1 : Int32) (v4 : Int32) (v5 : Int32) (v6 : Int32) (v7 : Int32) (v8 : Int32) (M : z_M) (H : Heap) (locs : List Loc) (ls : Array Slot) (h : F_X3_bestPlaning_b81 K8 K45 v1 v4 v5 v6 v7 v8 M = some out) (hI : z_I G s M H locs) (hl : lv_has ls 9 [(0, .ref (z_ad G 15 0)), (1, .int v1), (4, .int v4), (5, .int v5), (6, .int v6), (7, .int v7), (8, .int v8)]) : W p l e (z_rm 6) s m args below meth c H locs 0 0 (MQ below (z_Q G (some (.int out.1)) out.2) args s 0 0 (z_A G)) (F0 m 81 ls []) := by
  obtain ⟨⟨hx, hb, hml, hown, hts⟩, hr, hlk⟩ := id hc
  unfold F_X3_bestPlaning_b81 at h
  refine lv_bipush (v := 10) hx hb dX3_bestPlaning_81 (by decide) ?_
  refine lv_iload hx hb dX3_bestPlaning_83 (lv_at hl 2 rfl) ?_
  refine lv_imul hx hb dX3_bestPlaning_85 ?_
  refine lv_iload hx hb dX3_bestPlaning_86 (lv_at hl 5 rfl) ?_
  refine lv_iadd hx hb dX3_bestPlaning_88 ?_
  refine z_nI h (fun x19 h => ?_)
  refine lv_istore_n (lv' := [(2, .int x19), (0, .ref (z_ad G 15 0)), (1, .int v1), (4, .int v4), (5, .int v5), (6, .int v6), (7, .int v7), (8, .int v8)]) hx hb dX3_bestPlaning_89 rfl hl (by decide) rfl (fun ls hl => ?_)
  refine lv_iload hx hb dX3_bestPlaning_90 (lv_at hl 7 rfl) ?_
  refine lv_istore_n (lv' := [(3, .int v8), (2, .int x19), (0, .ref (z_ad G 15 0)), (1, .int v1), (4, .int v4), (5, .int v5), (6, .int v6), (7, .int v7), (8, .int v8)]) hx hb dX3_bestPlaning_92 rfl hl (by decide) rfl (fun ls hl => ?_)
  exact w_X3_bestPlaning_b93 hc hK8 hK45 v1 x19 v8 v4 v5 v6 v7 _ _ _ _ h hI (lv_sub hl [2, 3, 1, 0, 4, 5, 6, 7] rfl)
set_option maxRecDepth 100000 in
set_option maxHeartbeats 4000000 in
theorem w_X3_bestPlaning_b45 (hc : z_C p s m args meth c RX3 cX3_bestPlaning 9 (some .int)) {out : (Int32 × z_M)} {K8 : Int32 → Int32 → Int32 → Int32 → z_M → Option (Int32 × z_M)} (hK8 : ∀ (v1 : Int32) (v2 : Int32) (v3 : Int32) (v4 : Int32) (M : z_M) (H : Heap) (locs : List Loc) (ls : Array Slot), K8 v1 v2 v3 v4 M = some out → z_I G s M H locs → lv_has ls 9 [(0, .ref (z_ad G 15 0)), (1, .int v1), (2, .int v2), (3, .int v3), (4, .int v4)] → W p l e (z_rm 6) s m args below meth c H locs 0 0 (MQ below (z_Q G (some (.int out.1)) out.2) args s 0 0 (z_A G)) (F0 m 8 ls [])) : ∀ (n : Nat) (v1 : Int32) (v2 : Int32) (v3 : Int32) (v4 : Int32) (v5 : Int32) (v6 : Int32) (v7 : Int32) (M : z_M) (H : Heap) (locs : List Loc) (ls : Array Slot) (h : F_X3_bestPlaning_b45 K8 n v1 v2 v3 v4 v5 v6 v7 M = some out) (hI : z_I G s M H locs) (hl : lv_has ls 9 [(0, .ref (z_ad G 15 0)), (1, .int v1), (2, .int v2), (3, .int v3), (4, .int v4), (5, .int v5), (6, .int v6), (7, .int v7)]), W p l e (z_rm 6) s m args below meth c H locs 0 0 (MQ below (z_Q G (some (.int out.1)) out.2) args s 0 0 (z_A G)) (F0 m 45 ls []) := by
  obtain ⟨⟨hx, hb, hml, hown, hts⟩, hr, hlk⟩ := id hc
  intro n
  induction n with
  | zero => intro v1 v2 v3 v4 v5 v6 v7 M H locs ls h; cases h
  | succ n ih =>
    intro v1 v2 v3 v4 v5 v6 v7 M H locs ls h hI hl
    rw [F_X3_bestPlaning_b45] at h
    refine lv_iload hx hb dX3_bestPlaning_45 (lv_at hl 7 rfl) ?_
    refine lv_bipush (v := 9) hx hb dX3_bestPlaning_47 (by decide) ?_
    refine lv_icmp_gt (tgt := 99) hx hb dX3_bestPlaning_49 (by decide) (fun c9 => ?_) (fun c9 => ?_)
    · replace h := z_ift h c9
      refine lv_aload_n hx hb dX3_bestPlaning_99 rfl (lv_at hl 0 rfl) ?_
      refine gf_X3_12 hc hI dX3_bestPlaning_100 ?_
      refine lv_iload hx hb dX3_bestPlaning_103 (lv_at hl 4 rfl) ?_
      refine lv_iload hx hb dX3_bestPlaning_105 (lv_at hl 5 rfl) ?_
      obtain ⟨q10, e11, h⟩ := z_bnd h
      refine iv_X3_122 (by decide) hc hI (c_X5_setNote (by decide) e11) (z_room (by decide) (by decide)) hl.1 (Nat.le_of_ble_eq_true rfl) ⟨Nat.zero_le _, Nat.zero_le _⟩ dX3_bestPlaning_107 (fun H locs hI => ?_)
      refine lv_aload_n hx hb dX3_bestPlaning_110 rfl (lv_at hl 0 rfl) ?_
      refine gf_X3_12 hc hI dX3_bestPlaning_111 ?_
      refine lv_iload hx hb dX3_bestPlaning_114 (lv_at hl 4 rfl) ?_
      refine lv_iload hx hb dX3_bestPlaning_116 (lv_at hl 6 rfl) ?_
      obtain ⟨q12, e13, h⟩ := z_bnd h
      refine iv_X3_125 (by decide) hc hI (c_X5_setWorn (by decide) e13) (z_room (by decide) (by decide)) hl.1 (Nat.le_of_ble_eq_true rfl) ⟨Nat.zero_le _, Nat.zero_le _⟩ dX3_bestPlaning_118 (fun H locs hI => ?_)
      refine lv_iinc (v := v4 + 1) (lv' := [(4, .int (v4 + 1)), (0, .ref (z_ad G 15 0)), (1, .int v1), (2, .int v2), (3, .int v3), (5, .int v5), (6, .int v6), (7, .int v7)]) hx hb dX3_bestPlaning_121 hl (k := 4) rfl rfl (by decide) rfl (fun ls hl => ?_)
      refine lv_goto (tgt := 8) hx hb dX3_bestPlaning_124 (by decide) ?_
      exact hK8 v1 v2 v3 (v4 + 1) _ _ _ _ h hI (lv_sub hl [1, 2, 3, 4, 0] rfl)
    · replace h := z_iff h c9
      refine lv_aload_n hx hb dX3_bestPlaning_52 rfl (lv_at hl 0 rfl) ?_
      refine gf_X3_12 hc hI dX3_bestPlaning_53 ?_
      refine lv_iload hx hb dX3_bestPlaning_56 (lv_at hl 4 rfl) ?_
      refine lv_iload hx hb dX3_bestPlaning_58 (lv_at hl 7 rfl) ?_
      obtain ⟨q14, e15, h⟩ := z_bnd h
      refine iv_X3_115 (by decide) hc hI (c_X5_planeTo (by decide) e15) (z_room (by decide) (by decide)) hl.1 (Nat.le_of_ble_eq_true rfl) ⟨Nat.zero_le _, Nat.zero_le _⟩ dX3_bestPlaning_60 (fun H locs hI => ?_)
      refine lv_aload_n hx hb dX3_bestPlaning_63 rfl (lv_at hl 0 rfl) ?_
      obtain ⟨q16, e17, h⟩ := z_bnd h
      refine iv_X3_119 hc hI (c_X3_twinCount e17) (z_room (by decide) (by decide)) hl.1 (Nat.le_of_ble_eq_true rfl) ⟨Nat.zero_le _, Nat.zero_le _⟩ dX3_bestPlaning_64 (fun H locs hI => ?_)
      refine lv_istore (lv' := [(8, .int q16.1), (0, .ref (z_ad G 15 0)), (1, .int v1), (2, .int v2), (3, .int v3), (4, .int v4), (5, .int v5), (6, .int v6), (7, .int v7)]) hx hb dX3_bestPlaning_67 hl (by decide) rfl (fun ls hl => ?_)
      refine lv_iload_n hx hb dX3_bestPlaning_69 rfl (lv_at hl 3 rfl) ?_
      refine lv_ldc (v := (-1000000)) hx hb hown (hts _ wd_3_103) dX3_bestPlaning_70 ?_
      refine lv_icmp_eq (tgt := 81) hx hb dX3_bestPlaning_72 (by decide) (fun c18 => ?_) (fun c18 => ?_)
      · replace h := z_ift h c18
        exact w_X3_bestPlaning_b81 hc hK8 ih v1 v4 v5 v6 v7 q16.1 _ _ _ _ h hI (lv_sub hl [1, 2, 5, 6, 7, 8, 0] rfl)
      · replace h := z_iff h c18
        refine lv_iload hx hb dX3_bestPlaning_75 (lv_at hl 0 rfl) ?_
        refine lv_iload_n hx hb dX3_bestPlaning_77 rfl (lv_at hl 4 rfl) ?_
        refine lv_icmp_ge (tgt := 93) hx hb dX3_bestPlaning_78 (by decide) (fun c20 => ?_) (fun c20 => ?_)
        · replace h := z_ift h c20
          exact w_X3_bestPlaning_b93 hc hK8 ih v1 v2 v3 v4 v5 v6 v7 _ _ _ _ h hI (lv_sub hl [1, 2, 3, 4, 5, 6, 7, 8] rfl)
        · replace h := z_iff h c20
          exact w_X3_bestPlaning_b81 hc hK8 ih v1 v4 v5 v6 v7 q16.1 _ _ _ _ h hI (lv_sub hl [1, 2, 5, 6, 7, 8, 0] rfl)
set_option maxRecDepth 100000 in
set_option maxHeartbeats 4000000 in
theorem w_X3_bestPlaning_b8 (hc : z_C p s m args meth c RX3 cX3_bestPlaning 9 (some .int)) {out : (Int32 × z_M)} : ∀ (n : Nat) (v1 : Int32) (v2 : Int32) (v3 : Int32) (v4 : Int32) (M : z_M) (H : Heap) (locs : List Loc) (ls : Array Slot) (h : F_X3_bestPlaning_b8 n v1 v2 v3 v4 M = some out) (hI : z_I G s M H locs) (hl : lv_has ls 9 [(0, .ref (z_ad G 15 0)), (1, .int v1), (2, .int v2), (3, .int v3), (4, .int v4)]), W p l e (z_rm 6) s m args below meth c H locs 0 0 (MQ below (z_Q G (some (.int out.1)) out.2) args s 0 0 (z_A G)) (F0 m 8 ls []) := by
  obtain ⟨⟨hx, hb, hml, hown, hts⟩, hr, hlk⟩ := id hc
  intro n
  induction n with
  | zero => intro v1 v2 v3 v4 M H locs ls h; cases h
  | succ n ih =>
    intro v1 v2 v3 v4 M H locs ls h hI hl
    rw [F_X3_bestPlaning_b8] at h
    refine lv_iload hx hb dX3_bestPlaning_8 (lv_at hl 4 rfl) ?_
    refine lv_aload_n hx hb dX3_bestPlaning_10 rfl (lv_at hl 0 rfl) ?_
    refine gf_X3_12 hc hI dX3_bestPlaning_11 ?_
    obtain ⟨q1, e2, h⟩ := z_bnd h
    refine iv_X3_77 (by decide) hc hI (c_X5_treadCount (by decide) e2) (z_room (by decide) (by decide)) hl.1 (Nat.le_of_ble_eq_true rfl) ⟨Nat.zero_le _, Nat.zero_le _⟩ dX3_bestPlaning_14 (fun H locs hI => ?_)
    refine lv_icmp_ge (tgt := 127) hx hb dX3_bestPlaning_17 (by decide) (fun c3 => ?_) (fun c3 => ?_)
    · replace h := z_ift h c3
      refine lv_iload_n hx hb dX3_bestPlaning_127 rfl (lv_at hl 1 rfl) ?_
      refine lv_if_ne (tgt := 135) hx hb dX3_bestPlaning_128 (by decide) (fun c4 => ?_) (fun c4 => ?_)
      · replace h := z_iff h c4
        refine lv_iload_n hx hb dX3_bestPlaning_135 rfl (lv_at hl 3 rfl) ?_
        obtain rfl := Option.some.inj h
        exact z_ri hc hI dX3_bestPlaning_136
      · replace h := z_ift h c4
        refine lv_iload_n hx hb dX3_bestPlaning_131 rfl (lv_at hl 2 rfl) ?_
        refine lv_goto (tgt := 136) hx hb dX3_bestPlaning_132 (by decide) ?_
        obtain rfl := Option.some.inj h
        exact z_ri hc hI dX3_bestPlaning_136
    · replace h := z_iff h c3
      refine lv_aload_n hx hb dX3_bestPlaning_20 rfl (lv_at hl 0 rfl) ?_
      refine gf_X3_12 hc hI dX3_bestPlaning_21 ?_
      refine lv_iload hx hb dX3_bestPlaning_24 (lv_at hl 4 rfl) ?_
      obtain ⟨q5, e6, h⟩ := z_bnd h
      refine iv_X3_112 (by decide) hc hI (c_X5_noteOf (by decide) e6) (z_room (by decide) (by decide)) hl.1 (Nat.le_of_ble_eq_true rfl) ⟨Nat.zero_le _, Nat.zero_le _⟩ dX3_bestPlaning_26 (fun H locs hI => ?_)
      refine lv_istore (lv' := [(5, .int q5), (0, .ref (z_ad G 15 0)), (1, .int v1), (2, .int v2), (3, .int v3), (4, .int v4)]) hx hb dX3_bestPlaning_29 hl (by decide) rfl (fun ls hl => ?_)
      refine lv_aload_n hx hb dX3_bestPlaning_31 rfl (lv_at hl 1 rfl) ?_
      refine gf_X3_12 hc hI dX3_bestPlaning_32 ?_
      refine lv_iload hx hb dX3_bestPlaning_35 (lv_at hl 5 rfl) ?_
      obtain ⟨q7, e8, h⟩ := z_bnd h
      refine iv_X3_44 (by decide) hc hI (c_X5_wornOf (by decide) e8) (z_room (by decide) (by decide)) hl.1 (Nat.le_of_ble_eq_true rfl) ⟨Nat.zero_le _, Nat.zero_le _⟩ dX3_bestPlaning_37 (fun H locs hI => ?_)
      refine lv_istore (lv' := [(6, .int q7), (5, .int q5), (0, .ref (z_ad G 15 0)), (1, .int v1), (2, .int v2), (3, .int v3), (4, .int v4)]) hx hb dX3_bestPlaning_40 hl (by decide) rfl (fun ls hl => ?_)
      refine lv_iconst (v := 0) hx hb dX3_bestPlaning_42 (by decide) ?_
      refine lv_istore (lv' := [(7, .int 0), (6, .int q7), (5, .int q5), (0, .ref (z_ad G 15 0)), (1, .int v1), (2, .int v2), (3, .int v3), (4, .int v4)]) hx hb dX3_bestPlaning_43 hl (by decide) rfl (fun ls hl => ?_)
      exact w_X3_bestPlaning_b45 hc ih _ v1 v2 v3 v4 q5 q7 0 _ _ _ _ h hI (lv_sub hl [3, 4, 5, 6, 7, 2, 1, 0] rfl)
set_option maxRecDepth 100000 in
set_option maxHeartbeats 4000000 in
theorem c_X3_bestPlaning {G : z_G} {l : Launch} {a1 : Int32} {M : z_M} {out : (Int32 × z_M)} (h : F_X3_bestPlaning a1 M = some out) : z_Met G l yX3_bestPlaning cX3_bestPlaning 9 (some .int) 6 [.ref (z_ad G 15 0), .int a1] M (some (.int out.1)) out.2 := by
  unfold F_X3_bestPlaning at h
  refine z_met_of (by decide) rfl (Nat.le_of_ble_eq_true rfl) (fun p e s m below meth c ls hc hI hl => ?_)
  obtain ⟨⟨hx, hb, hml, hown, hts⟩, hr, hlk⟩ := id hc
  have hl : lv_has ls 9 [(0, .ref (z_ad G 15 0)), (1, .int a1)] := hl
  refine lv_ldc (v := (-1000000)) hx hb hown (hts _ wd_3_103) dX3_bestPlaning_0 ?_
  refine lv_istore_n (lv' := [(2, .int (-1000000)), (0, .ref (z_ad G 15 0)), (1, .int a1)]) hx hb dX3_bestPlaning_2 rfl hl (by decide) rfl (fun ls hl => ?_)
  refine lv_iconst (v := 0) hx hb dX3_bestPlaning_3 (by decide) ?_
  refine lv_istore_n (lv' := [(3, .int 0), (2, .int (-1000000)), (0, .ref (z_ad G 15 0)), (1, .int a1)]) hx hb dX3_bestPlaning_4 rfl hl (by decide) rfl (fun ls hl => ?_)
  refine lv_iconst (v := 0) hx hb dX3_bestPlaning_5 (by decide) ?_
  refine lv_istore (lv' := [(4, .int 0), (3, .int 0), (2, .int (-1000000)), (0, .ref (z_ad G 15 0)), (1, .int a1)]) hx hb dX3_bestPlaning_6 hl (by decide) rfl (fun ls hl => ?_)
  exact w_X3_bestPlaning_b8 hc _ a1 (-1000000) 0 0 _ _ _ _ h hI (lv_sub hl [3, 4, 2, 1, 0] rfl)
set_option maxRecDepth 100000 in
set_option maxHeartbeats 4000000 in
theorem w_X3_isRise_b24 {M : z_M} (hc : z_C p s m args meth c RX3 cX3_isRise 7 (some .boolean)) {out : Int32} : ∀ (n : Nat) (v2 : Int32) (v3 : Int32) (v4 : Int32) (v5 : Int32) (v6 : Int32) (H : Heap) (locs : List Loc) (ls : Array Slot) (h : F_X3_isRise_b24 M n v2 v3 v4 v5 v6 = some out) (hI : z_I G s M H locs) (hl : lv_has ls 7 [(0, .ref (z_ad G 15 0)), (2, .int v2), (3, .int v3), (4, .int v4), (5, .int v5), (6, .int v6)]), W p l e (z_rm 5) s m args below meth c H locs 0 0 (MQ below (z_Q G (some (.int out)) M) args s 0 0 (z_A G)) (F0 m 24 ls []) := by
  obtain ⟨⟨hx, hb, hml, hown, hts⟩, hr, hlk⟩ := id hc
  intro n
  induction n with
  | zero => intro v2 v3 v4 v5 v6 H locs ls h; cases h
  | succ n ih =>
    intro v2 v3 v4 v5 v6 H locs ls h hI hl
    rw [F_X3_isRise_b24] at h
    refine lv_iload hx hb dX3_isRise_24 (lv_at hl 5 rfl) ?_
    refine lv_iload hx hb dX3_isRise_26 (lv_at hl 4 rfl) ?_
    refine lv_icmp_ge (tgt := 59) hx hb dX3_isRise_28 (by decide) (fun c5 => ?_) (fun c5 => ?_)
    · replace h := z_ift h c5
      refine lv_iconst (v := 0) hx hb dX3_isRise_59 (by decide) ?_
      obtain rfl := Option.some.inj h
      exact z_rz (x := 0) hc hI (by decide) dX3_isRise_60
    · replace h := z_iff h c5
      refine lv_aload_n hx hb dX3_isRise_31 rfl (lv_at hl 0 rfl) ?_
      refine gf_X3_12 hc hI dX3_isRise_32 ?_
      refine lv_iload_n hx hb dX3_isRise_35 rfl (lv_at hl 1 rfl) ?_
      refine lv_iload hx hb dX3_isRise_36 (lv_at hl 3 rfl) ?_
      refine lv_iload hx hb dX3_isRise_38 (lv_at hl 5 rfl) ?_
      refine lv_iadd hx hb dX3_isRise_40 ?_
      obtain ⟨q6, e7, h⟩ := z_bnd h
      refine iv_X3_138 (by decide) hc hI (c_X5_heardAt (by decide) e7) (z_room (by decide) (by decide)) hl.1 (Nat.le_of_ble_eq_true rfl) ⟨Nat.zero_le _, Nat.zero_le _⟩ dX3_isRise_41 (fun H locs hI => ?_)
      obtain ⟨q8, e9, h⟩ := z_bnd h
      refine iv_X3_56 hc hI (c_J6_bitCount_0f7a4 e9) (z_room (by decide) (by decide)) hl.1 (Nat.le_of_ble_eq_true rfl) ⟨Nat.zero_le _, Nat.zero_le _⟩ dX3_isRise_44 (fun H locs hI => ?_)
      refine lv_iload_n hx hb dX3_isRise_47 rfl (lv_at hl 2 rfl) ?_
      refine lv_icmp_lt (tgt := 53) hx hb dX3_isRise_48 (by decide) (fun c10 => ?_) (fun c10 => ?_)
      · replace h := z_ift h c10
        refine lv_iinc (v := v6 + 1) (lv' := [(6, .int (v6 + 1)), (0, .ref (z_ad G 15 0)), (2, .int v2), (3, .int v3), (4, .int v4), (5, .int v5)]) hx hb dX3_isRise_53 hl (k := 5) rfl rfl (by decide) rfl (fun ls hl => ?_)
        refine lv_goto (tgt := 24) hx hb dX3_isRise_56 (by decide) ?_
        exact ih v2 v3 v4 v5 (v6 + 1) _ _ _ h hI (lv_sub hl [1, 2, 3, 4, 5, 0] rfl)
      · replace h := z_iff h c10
        refine lv_iconst (v := 1) hx hb dX3_isRise_51 (by decide) ?_
        obtain rfl := Option.some.inj h
        exact z_rz (x := 1) hc hI (by decide) dX3_isRise_52
set_option maxRecDepth 100000 in
set_option maxHeartbeats 4000000 in
theorem c_X3_isRise {G : z_G} {l : Launch} {a1 : Int32} {a2 : Int32} {a3 : Int32} {M : z_M} {out : Int32} (h : F_X3_isRise a1 a2 a3 M = some out) : z_Met G l yX3_isRise cX3_isRise 7 (some .boolean) 5 [.ref (z_ad G 15 0), .int a1, .int a2, .int a3] M (some (.int out)) M := by
  unfold F_X3_isRise at h
  refine z_met_of (by decide) rfl (Nat.le_of_ble_eq_true rfl) (fun p e s m below meth c ls hc hI hl => ?_)
  obtain ⟨⟨hx, hb, hml, hown, hts⟩, hr, hlk⟩ := id hc
  have hl : lv_has ls 7 [(0, .ref (z_ad G 15 0)), (1, .int a1), (2, .int a2), (3, .int a3)] := hl
  refine lv_aload_n hx hb dX3_isRise_0 rfl (lv_at hl 0 rfl) ?_
  refine gf_X3_12 hc hI dX3_isRise_1 ?_
  refine lv_iload_n hx hb dX3_isRise_4 rfl (lv_at hl 1 rfl) ?_
  refine lv_iconst (v := 3) hx hb dX3_isRise_5 (by decide) ?_
  obtain ⟨q1, e2, h⟩ := z_bnd h
  refine iv_X3_97 (by decide) hc hI (c_X5_partOf (by decide) e2) (z_room (by decide) (by decide)) hl.1 (Nat.le_of_ble_eq_true rfl) ⟨Nat.zero_le _, Nat.zero_le _⟩ dX3_isRise_6 (fun H locs hI => ?_)
  refine lv_istore (lv' := [(4, .int q1), (0, .ref (z_ad G 15 0)), (1, .int a1), (2, .int a2), (3, .int a3)]) hx hb dX3_isRise_9 hl (by decide) rfl (fun ls hl => ?_)
  refine lv_aload_n hx hb dX3_isRise_11 rfl (lv_at hl 1 rfl) ?_
  refine gf_X3_12 hc hI dX3_isRise_12 ?_
  refine lv_iload_n hx hb dX3_isRise_15 rfl (lv_at hl 2 rfl) ?_
  obtain ⟨q3, e4, h⟩ := z_bnd h
  refine iv_X3_135 (by decide) hc hI (c_X5_longOf (by decide) e4) (z_room (by decide) (by decide)) hl.1 (Nat.le_of_ble_eq_true rfl) ⟨Nat.zero_le _, Nat.zero_le _⟩ dX3_isRise_16 (fun H locs hI => ?_)
  refine lv_istore (lv' := [(5, .int q3), (4, .int q1), (0, .ref (z_ad G 15 0)), (1, .int a1), (2, .int a2), (3, .int a3)]) hx hb dX3_isRise_19 hl (by decide) rfl (fun ls hl => ?_)
  refine lv_iconst (v := 0) hx hb dX3_isRise_21 (by decide) ?_
  refine lv_istore (lv' := [(6, .int 0), (5, .int q3), (4, .int q1), (0, .ref (z_ad G 15 0)), (1, .int a1), (2, .int a2), (3, .int a3)]) hx hb dX3_isRise_22 hl (by decide) rfl (fun ls hl => ?_)
  exact w_X3_isRise_b24 hc _ a2 a3 q1 q3 0 _ _ _ h hI (lv_sub hl [3, 5, 6, 2, 1, 0] rfl)
set_option maxRecDepth 100000 in
set_option maxHeartbeats 4000000 in
theorem w_X3_risesOf_b81 (hc : z_C p s m args meth c RX3 cX3_risesOf 9 (some .int)) {out : (Int32 × z_M)} {K10 : Int32 → Int32 → Int32 → Int32 → Int32 → Int32 → Int32 → z_M → Option (Int32 × z_M)} (hK10 : ∀ (v1 : Int32) (v2 : Int32) (v3 : Int32) (v4 : Int32) (v5 : Int32) (v6 : Int32) (v7 : Int32) (M : z_M) (H : Heap) (locs : List Loc) (ls : Array Slot), K10 v1 v2 v3 v4 v5 v6 v7 M = some out → z_I G s M H locs → lv_has ls 9 [(0, .ref (z_ad G 15 0)), (1, .int v1), (2, .int v2), (3, .int v3), (4, .int v4), (5, .int v5), (6, .int v6), (7, .int v7)] → W p l e (z_rm 6) s m args below meth c H locs 0 0 (MQ below (z_Q G (some (.int out.1)) out.2) args s 0 0 (z_A G)) (F0 m 10 ls [])) {K19 : Int32 → Int32 → Int32 → Int32 → Int32 → Int32 → Int32 → Int32 → z_M → Option (Int32 × z_M)} (hK19 : ∀ (v1 : Int32) (v2 : Int32) (v3 : Int32) (v4 : Int32) (v5 : Int32) (v6 : Int32) (v7 : Int32) (v8 : Int32) (M : z_M) (H : Heap) (locs : List Loc) (ls : Array Slot), K19 v1 v2 v3 v4 v5 v6 v7 v8 M = some out → z_I G s M H locs → lv_has ls 9 [(0, .ref (z_ad G 15 0)), (1, .int v1), (2, .int v2), (3, .int v3), (4, .int v4), (5, .int v5), (6, .int v6), (7, .int v7), (8, .int v8)] → W p l e (z_rm 6) s m args below meth c H locs 0 0 (MQ below (z_Q G (some (.int out.1)) out.2) args s 0 0 (z_A G)) (F0 m 19 ls [])) (v1 : Int32) (v2 : Int32) (v3 : Int32) (v4 : Int32) (v5 : Int32) (v6 : Int32) (v7 : Int32) (v8 : Int32) (M : z_M) (H : Heap) (locs : List Loc) (ls : Array Slot) (h : F_X3_risesOf_b81 K10 K19 v1 v2 v3 v4 v5 v6 v7 v8 M = some out) (hI : z_I G s M H locs) (hl : lv_has ls 9 [(0, .ref (z_ad G 15 0)), (1, .int v1), (2, .int v2), (3, .int v3), (4, .int v4), (5, .int v5), (6, .int v6), (7, .int v7), (8, .int v8)]) : W p l e (z_rm 6) s m args below meth c H locs 0 0 (MQ below (z_Q G (some (.int out.1)) out.2) args s 0 0 (z_A G)) (F0 m 81 ls []) := by
  obtain ⟨⟨hx, hb, hml, hown, hts⟩, hr, hlk⟩ := id hc
  unfold F_X3_risesOf_b81 at h
  refine lv_iinc (v := v8 + 1) (lv' := [(8, .int (v8 + 1)), (0, .ref (z_ad G 15 0)), (1, .int v1), (2, .int v2), (3, .int v3), (4, .int v4), (5, .int v5), (6, .int v6), (7, .int v7)]) hx hb dX3_risesOf_81 hl (k := 8) rfl rfl (by decide) rfl (fun ls hl => ?_)
  refine lv_goto (tgt := 19) hx hb dX3_risesOf_84 (by decide) ?_
  exact hK19 v1 v2 v3 v4 v5 v6 v7 (v8 + 1) _ _ _ _ h hI (lv_sub hl [1, 2, 3, 4, 5, 6, 7, 8, 0] rfl)
set_option maxRecDepth 100000 in
set_option maxHeartbeats 4000000 in
theorem w_X3_risesOf_b19 (hc : z_C p s m args meth c RX3 cX3_risesOf 9 (some .int)) {out : (Int32 × z_M)} {K10 : Int32 → Int32 → Int32 → Int32 → Int32 → Int32 → Int32 → z_M → Option (Int32 × z_M)} (hK10 : ∀ (v1 : Int32) (v2 : Int32) (v3 : Int32) (v4 : Int32) (v5 : Int32) (v6 : Int32) (v7 : Int32) (M : z_M) (H : Heap) (locs : List Loc) (ls : Array Slot), K10 v1 v2 v3 v4 v5 v6 v7 M = some out → z_I G s M H locs → lv_has ls 9 [(0, .ref (z_ad G 15 0)), (1, .int v1), (2, .int v2), (3, .int v3), (4, .int v4), (5, .int v5), (6, .int v6), (7, .int v7)] → W p l e (z_rm 6) s m args below meth c H locs 0 0 (MQ below (z_Q G (some (.int out.1)) out.2) args s 0 0 (z_A G)) (F0 m 10 ls [])) : ∀ (n : Nat) (v1 : Int32) (v2 : Int32) (v3 : Int32) (v4 : Int32) (v5 : Int32) (v6 : Int32) (v7 : Int32) (v8 : Int32) (M : z_M) (H : Heap) (locs : List Loc) (ls : Array Slot) (h : F_X3_risesOf_b19 K10 n v1 v2 v3 v4 v5 v6 v7 v8 M = some out) (hI : z_I G s M H locs) (hl : lv_has ls 9 [(0, .ref (z_ad G 15 0)), (1, .int v1), (2, .int v2), (3, .int v3), (4, .int v4), (5, .int v5), (6, .int v6), (7, .int v7), (8, .int v8)]), W p l e (z_rm 6) s m args below meth c H locs 0 0 (MQ below (z_Q G (some (.int out.1)) out.2) args s 0 0 (z_A G)) (F0 m 19 ls []) := by
  obtain ⟨⟨hx, hb, hml, hown, hts⟩, hr, hlk⟩ := id hc
  intro n
  induction n with
  | zero => intro v1 v2 v3 v4 v5 v6 v7 v8 M H locs ls h; cases h
  | succ n ih =>
    intro v1 v2 v3 v4 v5 v6 v7 v8 M H locs ls h hI hl
    rw [F_X3_risesOf_b19] at h
    refine lv_iload hx hb dX3_risesOf_19 (lv_at hl 8 rfl) ?_
    refine lv_bipush (v := 20) hx hb dX3_risesOf_21 (by decide) ?_
    refine lv_icmp_gt (tgt := 87) hx hb dX3_risesOf_23 (by decide) (fun c3 => ?_) (fun c3 => ?_)
    · replace h := z_ift h c3
      refine lv_iinc (v := v7 + 1) (lv' := [(7, .int (v7 + 1)), (0, .ref (z_ad G 15 0)), (1, .int v1), (2, .int v2), (3, .int v3), (4, .int v4), (5, .int v5), (6, .int v6), (8, .int v8)]) hx hb dX3_risesOf_87 hl (k := 7) rfl rfl (by decide) rfl (fun ls hl => ?_)
      refine lv_goto (tgt := 10) hx hb dX3_risesOf_90 (by decide) ?_
      exact hK10 v1 v2 v3 v4 v5 v6 (v7 + 1) _ _ _ _ h hI (lv_sub hl [1, 2, 3, 4, 5, 6, 7, 0] rfl)
    · replace h := z_iff h c3
      refine lv_aload_n hx hb dX3_risesOf_26 rfl (lv_at hl 0 rfl) ?_
      refine gf_X3_12 hc hI dX3_risesOf_27 ?_
      refine lv_iload_n hx hb dX3_risesOf_30 rfl (lv_at hl 1 rfl) ?_
      refine lv_iconst (v := 2) hx hb dX3_risesOf_31 (by decide) ?_
      refine lv_iload hx hb dX3_risesOf_32 (lv_at hl 7 rfl) ?_
      obtain ⟨q4, e5, h⟩ := z_bnd h
      refine iv_X3_128 (by decide) hc hI (c_X5_setPart (by decide) e5) (z_room (by decide) (by decide)) hl.1 (Nat.le_of_ble_eq_true rfl) ⟨Nat.zero_le _, Nat.zero_le _⟩ dX3_risesOf_34 (fun H locs hI => ?_)
      refine lv_aload_n hx hb dX3_risesOf_37 rfl (lv_at hl 0 rfl) ?_
      refine gf_X3_12 hc hI dX3_risesOf_38 ?_
      refine lv_iload_n hx hb dX3_risesOf_41 rfl (lv_at hl 1 rfl) ?_
      refine lv_iconst (v := 3) hx hb dX3_risesOf_42 (by decide) ?_
      refine lv_iload hx hb dX3_risesOf_43 (lv_at hl 8 rfl) ?_
      obtain ⟨q6, e7, h⟩ := z_bnd h
      refine iv_X3_128 (by decide) hc hI (c_X5_setPart (by decide) e7) (z_room (by decide) (by decide)) hl.1 (Nat.le_of_ble_eq_true rfl) ⟨Nat.zero_le _, Nat.zero_le _⟩ dX3_risesOf_45 (fun H locs hI => ?_)
      refine lv_aload_n hx hb dX3_risesOf_48 rfl (lv_at hl 0 rfl) ?_
      refine lv_iload_n hx hb dX3_risesOf_49 rfl (lv_at hl 1 rfl) ?_
      refine lv_iload_n hx hb dX3_risesOf_50 rfl (lv_at hl 2 rfl) ?_
      refine lv_iload_n hx hb dX3_risesOf_51 rfl (lv_at hl 3 rfl) ?_
      obtain ⟨q8, e9, h⟩ := z_bnd h
      refine iv_X3_132 hc hI (c_X3_isRise e9) (z_room (by decide) (by decide)) hl.1 (Nat.le_of_ble_eq_true rfl) ⟨Nat.zero_le _, Nat.zero_le _⟩ dX3_risesOf_52 (fun H locs hI => ?_)
      refine lv_if_ne (tgt := 61) hx hb dX3_risesOf_55 (by decide) (fun c10 => ?_) (fun c10 => ?_)
      · replace h := z_iff h c10
        refine lv_iinc (v := v5 + 1) (lv' := [(5, .int (v5 + 1)), (0, .ref (z_ad G 15 0)), (1, .int v1), (2, .int v2), (3, .int v3), (4, .int v4), (6, .int v6), (7, .int v7), (8, .int v8)]) hx hb dX3_risesOf_61 hl (k := 5) rfl rfl (by decide) rfl (fun ls hl => ?_)
        refine lv_iload hx hb dX3_risesOf_64 (lv_at hl 6 rfl) ?_
        refine lv_ldc (v := (-1000000)) hx hb hown (hts _ wd_3_103) dX3_risesOf_66 ?_
        refine lv_icmp_ne (tgt := 81) hx hb dX3_risesOf_68 (by decide) (fun c11 => ?_) (fun c11 => ?_)
        · replace h := z_iff h c11
          exact w_X3_risesOf_b81 hc hK10 ih v1 v2 v3 v4 (v5 + 1) v6 v7 v8 _ _ _ _ h hI (lv_sub hl [1, 2, 3, 4, 5, 0, 6, 7, 8] rfl)
        · replace h := z_ift h c11
          refine lv_bipush (v := 100) hx hb dX3_risesOf_71 (by decide) ?_
          refine lv_iload hx hb dX3_risesOf_73 (lv_at hl 7 rfl) ?_
          refine lv_imul hx hb dX3_risesOf_75 ?_
          refine lv_iload hx hb dX3_risesOf_76 (lv_at hl 8 rfl) ?_
          refine lv_iadd hx hb dX3_risesOf_78 ?_
          refine z_nI h (fun x12 h => ?_)
          refine lv_istore (lv' := [(6, .int x12), (5, .int (v5 + 1)), (0, .ref (z_ad G 15 0)), (1, .int v1), (2, .int v2), (3, .int v3), (4, .int v4), (7, .int v7), (8, .int v8)]) hx hb dX3_risesOf_79 hl (by decide) rfl (fun ls hl => ?_)
          exact w_X3_risesOf_b81 hc hK10 ih v1 v2 v3 v4 (v5 + 1) x12 v7 v8 _ _ _ _ h hI (lv_sub hl [2, 3, 4, 5, 6, 1, 0, 7, 8] rfl)
      · replace h := z_ift h c10
        refine lv_goto (tgt := 81) hx hb dX3_risesOf_58 (by decide) ?_
        exact w_X3_risesOf_b81 hc hK10 ih v1 v2 v3 v4 v5 v6 v7 v8 _ _ _ _ h hI hl
set_option maxRecDepth 100000 in
set_option maxHeartbeats 4000000 in
theorem w_X3_risesOf_b10 (hc : z_C p s m args meth c RX3 cX3_risesOf 9 (some .int)) {out : (Int32 × z_M)} : ∀ (n : Nat) (v1 : Int32) (v2 : Int32) (v3 : Int32) (v4 : Int32) (v5 : Int32) (v6 : Int32) (v7 : Int32) (M : z_M) (H : Heap) (locs : List Loc) (ls : Array Slot) (h : F_X3_risesOf_b10 n v1 v2 v3 v4 v5 v6 v7 M = some out) (hI : z_I G s M H locs) (hl : lv_has ls 9 [(0, .ref (z_ad G 15 0)), (1, .int v1), (2, .int v2), (3, .int v3), (4, .int v4), (5, .int v5), (6, .int v6), (7, .int v7)]), W p l e (z_rm 6) s m args below meth c H locs 0 0 (MQ below (z_Q G (some (.int out.1)) out.2) args s 0 0 (z_A G)) (F0 m 10 ls []) := by
  obtain ⟨⟨hx, hb, hml, hown, hts⟩, hr, hlk⟩ := id hc
  intro n
  induction n with
  | zero => intro v1 v2 v3 v4 v5 v6 v7 M H locs ls h; cases h
  | succ n ih =>
    intro v1 v2 v3 v4 v5 v6 v7 M H locs ls h hI hl
    rw [F_X3_risesOf_b10] at h
    refine lv_iload hx hb dX3_risesOf_10 (lv_at hl 7 rfl) ?_
    refine lv_iconst (v := 3) hx hb dX3_risesOf_12 (by decide) ?_
    refine lv_icmp_gt (tgt := 93) hx hb dX3_risesOf_13 (by decide) (fun c1 => ?_) (fun c1 => ?_)
    · replace h := z_ift h c1
      refine lv_iload hx hb dX3_risesOf_93 (lv_at hl 4 rfl) ?_
      refine lv_if_ne (tgt := 103) hx hb dX3_risesOf_95 (by decide) (fun c2 => ?_) (fun c2 => ?_)
      · replace h := z_iff h c2
        refine lv_iload hx hb dX3_risesOf_103 (lv_at hl 6 rfl) ?_
        obtain rfl := Option.some.inj h
        exact z_ri hc hI dX3_risesOf_105
      · replace h := z_ift h c2
        refine lv_iload hx hb dX3_risesOf_98 (lv_at hl 5 rfl) ?_
        refine lv_goto (tgt := 105) hx hb dX3_risesOf_100 (by decide) ?_
        obtain rfl := Option.some.inj h
        exact z_ri hc hI dX3_risesOf_105
    · replace h := z_iff h c1
      refine lv_iconst (v := 0) hx hb dX3_risesOf_16 (by decide) ?_
      refine lv_istore (lv' := [(8, .int 0), (0, .ref (z_ad G 15 0)), (1, .int v1), (2, .int v2), (3, .int v3), (4, .int v4), (5, .int v5), (6, .int v6), (7, .int v7)]) hx hb dX3_risesOf_17 hl (by decide) rfl (fun ls hl => ?_)
      exact w_X3_risesOf_b19 hc ih _ v1 v2 v3 v4 v5 v6 v7 0 _ _ _ _ h hI (lv_sub hl [1, 2, 3, 4, 5, 6, 7, 8, 0] rfl)
set_option maxRecDepth 100000 in
set_option maxHeartbeats 4000000 in
theorem c_X3_risesOf {G : z_G} {l : Launch} {a1 : Int32} {a2 : Int32} {a3 : Int32} {a4 : Int32} {M : z_M} {out : (Int32 × z_M)} (h : F_X3_risesOf a1 a2 a3 a4 M = some out) : z_Met G l yX3_risesOf cX3_risesOf 9 (some .int) 6 [.ref (z_ad G 15 0), .int a1, .int a2, .int a3, .int a4] M (some (.int out.1)) out.2 := by
  unfold F_X3_risesOf at h
  refine z_met_of (by decide) rfl (Nat.le_of_ble_eq_true rfl) (fun p e s m below meth c ls hc hI hl => ?_)
  obtain ⟨⟨hx, hb, hml, hown, hts⟩, hr, hlk⟩ := id hc
  have hl : lv_has ls 9 [(0, .ref (z_ad G 15 0)), (1, .int a1), (2, .int a2), (3, .int a3), (4, .int a4)] := hl
  refine lv_iconst (v := 0) hx hb dX3_risesOf_0 (by decide) ?_
  refine lv_istore (lv' := [(5, .int 0), (0, .ref (z_ad G 15 0)), (1, .int a1), (2, .int a2), (3, .int a3), (4, .int a4)]) hx hb dX3_risesOf_1 hl (by decide) rfl (fun ls hl => ?_)
  refine lv_ldc (v := (-1000000)) hx hb hown (hts _ wd_3_103) dX3_risesOf_3 ?_
  refine lv_istore (lv' := [(6, .int (-1000000)), (5, .int 0), (0, .ref (z_ad G 15 0)), (1, .int a1), (2, .int a2), (3, .int a3), (4, .int a4)]) hx hb dX3_risesOf_5 hl (by decide) rfl (fun ls hl => ?_)
  refine lv_iconst (v := 1) hx hb dX3_risesOf_7 (by decide) ?_
  refine lv_istore (lv' := [(7, .int 1), (6, .int (-1000000)), (5, .int 0), (0, .ref (z_ad G 15 0)), (1, .int a1), (2, .int a2), (3, .int a3), (4, .int a4)]) hx hb dX3_risesOf_8 hl (by decide) rfl (fun ls hl => ?_)
  exact w_X3_risesOf_b10 hc _ a1 a2 a3 a4 0 (-1000000) 1 _ _ _ _ h hI (lv_sub hl [3, 4, 5, 6, 7, 2, 1, 0] rfl)
set_option maxRecDepth 100000 in
set_option maxHeartbeats 4000000 in
theorem w_X3_isHeardSo_b2 {M : z_M} (hc : z_C p s m args meth c RX3 cX3_isHeardSo 4 (some .boolean)) {out : Int32} : ∀ (n : Nat) (v1 : Int32) (v2 : Int32) (v3 : Int32) (H : Heap) (locs : List Loc) (ls : Array Slot) (h : F_X3_isHeardSo_b2 M n v1 v2 v3 = some out) (hI : z_I G s M H locs) (hl : lv_has ls 4 [(0, .ref (z_ad G 15 0)), (1, .int v1), (2, .int v2), (3, .int v3)]), W p l e (z_rm 5) s m args below meth c H locs 0 0 (MQ below (z_Q G (some (.int out)) M) args s 0 0 (z_A G)) (F0 m 2 ls []) := by
  obtain ⟨⟨hx, hb, hml, hown, hts⟩, hr, hlk⟩ := id hc
  intro n
  induction n with
  | zero => intro v1 v2 v3 H locs ls h; cases h
  | succ n ih =>
    intro v1 v2 v3 H locs ls h hI hl
    rw [F_X3_isHeardSo_b2] at h
    refine lv_iload_n hx hb dX3_isHeardSo_2 rfl (lv_at hl 3 rfl) ?_
    refine lv_aload_n hx hb dX3_isHeardSo_3 rfl (lv_at hl 0 rfl) ?_
    refine gf_X3_33 hc hI dX3_isHeardSo_4 ?_
    refine lv_icmp_ge (tgt := 44) hx hb dX3_isHeardSo_7 (by decide) (fun c1 => ?_) (fun c1 => ?_)
    · replace h := z_ift h c1
      refine lv_iconst (v := 1) hx hb dX3_isHeardSo_44 (by decide) ?_
      obtain rfl := Option.some.inj h
      exact z_rz (x := 1) hc hI (by decide) dX3_isHeardSo_45
    · replace h := z_iff h c1
      refine lv_iload_n hx hb dX3_isHeardSo_10 rfl (lv_at hl 3 rfl) ?_
      refine lv_bipush (v := 12) hx hb dX3_isHeardSo_11 (by decide) ?_
      refine lv_icmp_ge (tgt := 44) hx hb dX3_isHeardSo_13 (by decide) (fun c2 => ?_) (fun c2 => ?_)
      · replace h := z_ift h c2
        refine lv_iconst (v := 1) hx hb dX3_isHeardSo_44 (by decide) ?_
        obtain rfl := Option.some.inj h
        exact z_rz (x := 1) hc hI (by decide) dX3_isHeardSo_45
      · replace h := z_iff h c2
        refine lv_aload_n hx hb dX3_isHeardSo_16 rfl (lv_at hl 0 rfl) ?_
        refine gf_X3_18 hc hI dX3_isHeardSo_17 ?_
        refine lv_iload_n hx hb dX3_isHeardSo_20 rfl (lv_at hl 3 rfl) ?_
        obtain ⟨g3, h⟩ := z_grd_some h
        refine ld_k16 hc hI g3 dX3_isHeardSo_21 ?_
        refine lv_aload_n hx hb dX3_isHeardSo_22 rfl (lv_at hl 0 rfl) ?_
        refine gf_X3_12 hc hI dX3_isHeardSo_23 ?_
        refine lv_iload_n hx hb dX3_isHeardSo_26 rfl (lv_at hl 1 rfl) ?_
        refine lv_iload_n hx hb dX3_isHeardSo_27 rfl (lv_at hl 2 rfl) ?_
        refine lv_iload_n hx hb dX3_isHeardSo_28 rfl (lv_at hl 3 rfl) ?_
        refine lv_iadd hx hb dX3_isHeardSo_29 ?_
        obtain ⟨q4, e5, h⟩ := z_bnd h
        refine iv_X3_138 (by decide) hc hI (c_X5_heardAt (by decide) e5) (z_room (by decide) (by decide)) hl.1 (Nat.le_of_ble_eq_true rfl) ⟨Nat.zero_le _, Nat.zero_le _⟩ dX3_isHeardSo_30 (fun H locs hI => ?_)
        refine lv_icmp_eq (tgt := 38) hx hb dX3_isHeardSo_33 (by decide) (fun c6 => ?_) (fun c6 => ?_)
        · replace h := z_ift h c6
          refine lv_iinc (v := v3 + 1) (lv' := [(3, .int (v3 + 1)), (0, .ref (z_ad G 15 0)), (1, .int v1), (2, .int v2)]) hx hb dX3_isHeardSo_38 hl (k := 3) rfl rfl (by decide) rfl (fun ls hl => ?_)
          refine lv_goto (tgt := 2) hx hb dX3_isHeardSo_41 (by decide) ?_
          exact ih v1 v2 (v3 + 1) _ _ _ h hI (lv_sub hl [1, 2, 3, 0] rfl)
        · replace h := z_iff h c6
          refine lv_iconst (v := 0) hx hb dX3_isHeardSo_36 (by decide) ?_
          obtain rfl := Option.some.inj h
          exact z_rz (x := 0) hc hI (by decide) dX3_isHeardSo_37
set_option maxRecDepth 100000 in
set_option maxHeartbeats 4000000 in
theorem c_X3_isHeardSo {G : z_G} {l : Launch} {a1 : Int32} {a2 : Int32} {M : z_M} {out : Int32} (h : F_X3_isHeardSo a1 a2 M = some out) : z_Met G l yX3_isHeardSo cX3_isHeardSo 4 (some .boolean) 5 [.ref (z_ad G 15 0), .int a1, .int a2] M (some (.int out)) M := by
  unfold F_X3_isHeardSo at h
  refine z_met_of (by decide) rfl (Nat.le_of_ble_eq_true rfl) (fun p e s m below meth c ls hc hI hl => ?_)
  obtain ⟨⟨hx, hb, hml, hown, hts⟩, hr, hlk⟩ := id hc
  have hl : lv_has ls 4 [(0, .ref (z_ad G 15 0)), (1, .int a1), (2, .int a2)] := hl
  refine lv_iconst (v := 0) hx hb dX3_isHeardSo_0 (by decide) ?_
  refine lv_istore_n (lv' := [(3, .int 0), (0, .ref (z_ad G 15 0)), (1, .int a1), (2, .int a2)]) hx hb dX3_isHeardSo_1 rfl hl (by decide) rfl (fun ls hl => ?_)
  exact w_X3_isHeardSo_b2 hc _ a1 a2 0 _ _ _ h hI (lv_sub hl [1, 2, 3, 0] rfl)
set_option maxRecDepth 100000 in
set_option maxHeartbeats 4000000 in
theorem w_X3_kindsBy_b40 (hc : z_C p s m args meth c RX3 cX3_kindsBy 6 (some .int)) {out : (Int32 × z_M)} {K6 : Int32 → Int32 → Int32 → Int32 → Int32 → z_M → Option (Int32 × z_M)} (hK6 : ∀ (v1 : Int32) (v2 : Int32) (v3 : Int32) (v4 : Int32) (v5 : Int32) (M : z_M) (H : Heap) (locs : List Loc) (ls : Array Slot), K6 v1 v2 v3 v4 v5 M = some out → z_I G s M H locs → lv_has ls 6 [(0, .ref (z_ad G 15 0)), (1, .int v1), (2, .int v2), (3, .int v3), (4, .int v4), (5, .int v5)] → W p l e (z_rm 6) s m args below meth c H locs 0 0 (MQ below (z_Q G (some (.int out.1)) out.2) args s 0 0 (z_A G)) (F0 m 6 ls [])) (v1 : Int32) (v2 : Int32) (v3 : Int32) (v4 : Int32) (v5 : Int32) (M : z_M) (H : Heap) (locs : List Loc) (ls : Array Slot) (h : F_X3_kindsBy_b40 K6 v1 v2 v3 v4 v5 M = some out) (hI : z_I G s M H locs) (hl : lv_has ls 6 [(0, .ref (z_ad G 15 0)), (1, .int v1), (2, .int v2), (3, .int v3), (4, .int v4), (5, .int v5)]) : W p l e (z_rm 6) s m args below meth c H locs 0 0 (MQ below (z_Q G (some (.int out.1)) out.2) args s 0 0 (z_A G)) (F0 m 40 ls []) := by
  obtain ⟨⟨hx, hb, hml, hown, hts⟩, hr, hlk⟩ := id hc
  unfold F_X3_kindsBy_b40 at h
  refine lv_iinc (v := v5 + 1) (lv' := [(5, .int (v5 + 1)), (0, .ref (z_ad G 15 0)), (1, .int v1), (2, .int v2), (3, .int v3), (4, .int v4)]) hx hb dX3_kindsBy_40 hl (k := 5) rfl rfl (by decide) rfl (fun ls hl => ?_)
  refine lv_goto (tgt := 6) hx hb dX3_kindsBy_43 (by decide) ?_
  exact hK6 v1 v2 v3 v4 (v5 + 1) _ _ _ _ h hI (lv_sub hl [1, 2, 3, 4, 5, 0] rfl)
set_option maxRecDepth 100000 in
set_option maxHeartbeats 4000000 in
theorem w_X3_kindsBy_b6 (hc : z_C p s m args meth c RX3 cX3_kindsBy 6 (some .int)) {out : (Int32 × z_M)} : ∀ (n : Nat) (v1 : Int32) (v2 : Int32) (v3 : Int32) (v4 : Int32) (v5 : Int32) (M : z_M) (H : Heap) (locs : List Loc) (ls : Array Slot) (h : F_X3_kindsBy_b6 n v1 v2 v3 v4 v5 M = some out) (hI : z_I G s M H locs) (hl : lv_has ls 6 [(0, .ref (z_ad G 15 0)), (1, .int v1), (2, .int v2), (3, .int v3), (4, .int v4), (5, .int v5)]), W p l e (z_rm 6) s m args below meth c H locs 0 0 (MQ below (z_Q G (some (.int out.1)) out.2) args s 0 0 (z_A G)) (F0 m 6 ls []) := by
  obtain ⟨⟨hx, hb, hml, hown, hts⟩, hr, hlk⟩ := id hc
  intro n
  induction n with
  | zero => intro v1 v2 v3 v4 v5 M H locs ls h; cases h
  | succ n ih =>
    intro v1 v2 v3 v4 v5 M H locs ls h hI hl
    rw [F_X3_kindsBy_b6] at h
    refine lv_iload hx hb dX3_kindsBy_6 (lv_at hl 5 rfl) ?_
    refine lv_iconst (v := 5) hx hb dX3_kindsBy_8 (by decide) ?_
    refine lv_icmp_gt (tgt := 46) hx hb dX3_kindsBy_9 (by decide) (fun c1 => ?_) (fun c1 => ?_)
    · replace h := z_ift h c1
      refine lv_iload hx hb dX3_kindsBy_46 (lv_at hl 4 rfl) ?_
      obtain rfl := Option.some.inj h
      exact z_ri hc hI dX3_kindsBy_48
    · replace h := z_iff h c1
      refine lv_aload_n hx hb dX3_kindsBy_12 rfl (lv_at hl 0 rfl) ?_
      refine gf_X3_12 hc hI dX3_kindsBy_13 ?_
      refine lv_iload_n hx hb dX3_kindsBy_16 rfl (lv_at hl 1 rfl) ?_
      refine lv_iload hx hb dX3_kindsBy_17 (lv_at hl 5 rfl) ?_
      obtain ⟨q2, e3, h⟩ := z_bnd h
      refine iv_X3_141 (by decide) hc hI (c_X5_setKind (by decide) e3) (z_room (by decide) (by decide)) hl.1 (Nat.le_of_ble_eq_true rfl) ⟨Nat.zero_le _, Nat.zero_le _⟩ dX3_kindsBy_19 (fun H locs hI => ?_)
      refine lv_aload_n hx hb dX3_kindsBy_22 rfl (lv_at hl 0 rfl) ?_
      refine lv_iload_n hx hb dX3_kindsBy_23 rfl (lv_at hl 2 rfl) ?_
      refine lv_iload_n hx hb dX3_kindsBy_24 rfl (lv_at hl 3 rfl) ?_
      obtain ⟨q4, e5, h⟩ := z_bnd h
      refine iv_X3_144 hc hI (c_X3_isHeardSo e5) (z_room (by decide) (by decide)) hl.1 (Nat.le_of_ble_eq_true rfl) ⟨Nat.zero_le _, Nat.zero_le _⟩ dX3_kindsBy_25 (fun H locs hI => ?_)
      refine lv_if_eq (tgt := 40) hx hb dX3_kindsBy_28 (by decide) (fun c6 => ?_) (fun c6 => ?_)
      · replace h := z_ift h c6
        exact w_X3_kindsBy_b40 hc ih v1 v2 v3 v4 v5 _ _ _ _ h hI hl
      · replace h := z_iff h c6
        refine lv_iload hx hb dX3_kindsBy_31 (lv_at hl 4 rfl) ?_
        refine lv_iconst (v := 1) hx hb dX3_kindsBy_33 (by decide) ?_
        refine lv_iload hx hb dX3_kindsBy_34 (lv_at hl 5 rfl) ?_
        refine lv_ishl hx hb dX3_kindsBy_36 ?_
        refine lv_ior hx hb dX3_kindsBy_37 ?_
        refine z_nI h (fun x7 h => ?_)
        refine lv_istore (lv' := [(4, .int x7), (0, .ref (z_ad G 15 0)), (1, .int v1), (2, .int v2), (3, .int v3), (5, .int v5)]) hx hb dX3_kindsBy_38 hl (by decide) rfl (fun ls hl => ?_)
        exact w_X3_kindsBy_b40 hc ih v1 v2 v3 x7 v5 _ _ _ _ h hI (lv_sub hl [1, 2, 3, 4, 0, 5] rfl)
set_option maxRecDepth 100000 in
set_option maxHeartbeats 4000000 in
theorem c_X3_kindsBy {G : z_G} {l : Launch} {a1 : Int32} {a2 : Int32} {a3 : Int32} {M : z_M} {out : (Int32 × z_M)} (h : F_X3_kindsBy a1 a2 a3 M = some out) : z_Met G l yX3_kindsBy cX3_kindsBy 6 (some .int) 6 [.ref (z_ad G 15 0), .int a1, .int a2, .int a3] M (some (.int out.1)) out.2 := by
  unfold F_X3_kindsBy at h
  refine z_met_of (by decide) rfl (Nat.le_of_ble_eq_true rfl) (fun p e s m below meth c ls hc hI hl => ?_)
  obtain ⟨⟨hx, hb, hml, hown, hts⟩, hr, hlk⟩ := id hc
  have hl : lv_has ls 6 [(0, .ref (z_ad G 15 0)), (1, .int a1), (2, .int a2), (3, .int a3)] := hl
  refine lv_iconst (v := 0) hx hb dX3_kindsBy_0 (by decide) ?_
  refine lv_istore (lv' := [(4, .int 0), (0, .ref (z_ad G 15 0)), (1, .int a1), (2, .int a2), (3, .int a3)]) hx hb dX3_kindsBy_1 hl (by decide) rfl (fun ls hl => ?_)
  refine lv_iconst (v := 1) hx hb dX3_kindsBy_3 (by decide) ?_
  refine lv_istore (lv' := [(5, .int 1), (4, .int 0), (0, .ref (z_ad G 15 0)), (1, .int a1), (2, .int a2), (3, .int a3)]) hx hb dX3_kindsBy_4 hl (by decide) rfl (fun ls hl => ?_)
  exact w_X3_kindsBy_b6 hc _ a1 a2 a3 0 1 _ _ _ _ h hI (lv_sub hl [2, 3, 4, 5, 1, 0] rfl)
set_option maxRecDepth 100000 in
set_option maxHeartbeats 4000000 in
theorem w_X3_notesBy_b41 (hc : z_C p s m args meth c RX3 cX3_notesBy 6 (some .int)) {out : (Int32 × z_M)} {K6 : Int32 → Int32 → Int32 → Int32 → Int32 → z_M → Option (Int32 × z_M)} (hK6 : ∀ (v1 : Int32) (v2 : Int32) (v3 : Int32) (v4 : Int32) (v5 : Int32) (M : z_M) (H : Heap) (locs : List Loc) (ls : Array Slot), K6 v1 v2 v3 v4 v5 M = some out → z_I G s M H locs → lv_has ls 6 [(0, .ref (z_ad G 15 0)), (1, .int v1), (2, .int v2), (3, .int v3), (4, .int v4), (5, .int v5)] → W p l e (z_rm 6) s m args below meth c H locs 0 0 (MQ below (z_Q G (some (.int out.1)) out.2) args s 0 0 (z_A G)) (F0 m 6 ls [])) (v1 : Int32) (v2 : Int32) (v3 : Int32) (v4 : Int32) (v5 : Int32) (M : z_M) (H : Heap) (locs : List Loc) (ls : Array Slot) (h : F_X3_notesBy_b41 K6 v1 v2 v3 v4 v5 M = some out) (hI : z_I G s M H locs) (hl : lv_has ls 6 [(0, .ref (z_ad G 15 0)), (1, .int v1), (2, .int v2), (3, .int v3), (4, .int v4), (5, .int v5)]) : W p l e (z_rm 6) s m args below meth c H locs 0 0 (MQ below (z_Q G (some (.int out.1)) out.2) args s 0 0 (z_A G)) (F0 m 41 ls []) := by
  obtain ⟨⟨hx, hb, hml, hown, hts⟩, hr, hlk⟩ := id hc
  unfold F_X3_notesBy_b41 at h
  refine lv_iinc (v := v5 + 1) (lv' := [(5, .int (v5 + 1)), (0, .ref (z_ad G 15 0)), (1, .int v1), (2, .int v2), (3, .int v3), (4, .int v4)]) hx hb dX3_notesBy_41 hl (k := 5) rfl rfl (by decide) rfl (fun ls hl => ?_)
  refine lv_goto (tgt := 6) hx hb dX3_notesBy_44 (by decide) ?_
  exact hK6 v1 v2 v3 v4 (v5 + 1) _ _ _ _ h hI (lv_sub hl [1, 2, 3, 4, 5, 0] rfl)
set_option maxRecDepth 100000 in
set_option maxHeartbeats 4000000 in
theorem w_X3_notesBy_b6 (hc : z_C p s m args meth c RX3 cX3_notesBy 6 (some .int)) {out : (Int32 × z_M)} : ∀ (n : Nat) (v1 : Int32) (v2 : Int32) (v3 : Int32) (v4 : Int32) (v5 : Int32) (M : z_M) (H : Heap) (locs : List Loc) (ls : Array Slot) (h : F_X3_notesBy_b6 n v1 v2 v3 v4 v5 M = some out) (hI : z_I G s M H locs) (hl : lv_has ls 6 [(0, .ref (z_ad G 15 0)), (1, .int v1), (2, .int v2), (3, .int v3), (4, .int v4), (5, .int v5)]), W p l e (z_rm 6) s m args below meth c H locs 0 0 (MQ below (z_Q G (some (.int out.1)) out.2) args s 0 0 (z_A G)) (F0 m 6 ls []) := by
  obtain ⟨⟨hx, hb, hml, hown, hts⟩, hr, hlk⟩ := id hc
  intro n
  induction n with
  | zero => intro v1 v2 v3 v4 v5 M H locs ls h; cases h
  | succ n ih =>
    intro v1 v2 v3 v4 v5 M H locs ls h hI hl
    rw [F_X3_notesBy_b6] at h
    refine lv_iload hx hb dX3_notesBy_6 (lv_at hl 5 rfl) ?_
    refine lv_bipush (v := 9) hx hb dX3_notesBy_8 (by decide) ?_
    refine lv_icmp_gt (tgt := 47) hx hb dX3_notesBy_10 (by decide) (fun c1 => ?_) (fun c1 => ?_)
    · replace h := z_ift h c1
      refine lv_iload hx hb dX3_notesBy_47 (lv_at hl 4 rfl) ?_
      obtain rfl := Option.some.inj h
      exact z_ri hc hI dX3_notesBy_49
    · replace h := z_iff h c1
      refine lv_aload_n hx hb dX3_notesBy_13 rfl (lv_at hl 0 rfl) ?_
      refine gf_X3_12 hc hI dX3_notesBy_14 ?_
      refine lv_iload_n hx hb dX3_notesBy_17 rfl (lv_at hl 1 rfl) ?_
      refine lv_iload hx hb dX3_notesBy_18 (lv_at hl 5 rfl) ?_
      obtain ⟨q2, e3, h⟩ := z_bnd h
      refine iv_X3_122 (by decide) hc hI (c_X5_setNote (by decide) e3) (z_room (by decide) (by decide)) hl.1 (Nat.le_of_ble_eq_true rfl) ⟨Nat.zero_le _, Nat.zero_le _⟩ dX3_notesBy_20 (fun H locs hI => ?_)
      refine lv_aload_n hx hb dX3_notesBy_23 rfl (lv_at hl 0 rfl) ?_
      refine lv_iload_n hx hb dX3_notesBy_24 rfl (lv_at hl 2 rfl) ?_
      refine lv_iload_n hx hb dX3_notesBy_25 rfl (lv_at hl 3 rfl) ?_
      obtain ⟨q4, e5, h⟩ := z_bnd h
      refine iv_X3_144 hc hI (c_X3_isHeardSo e5) (z_room (by decide) (by decide)) hl.1 (Nat.le_of_ble_eq_true rfl) ⟨Nat.zero_le _, Nat.zero_le _⟩ dX3_notesBy_26 (fun H locs hI => ?_)
      refine lv_if_eq (tgt := 41) hx hb dX3_notesBy_29 (by decide) (fun c6 => ?_) (fun c6 => ?_)
      · replace h := z_ift h c6
        exact w_X3_notesBy_b41 hc ih v1 v2 v3 v4 v5 _ _ _ _ h hI hl
      · replace h := z_iff h c6
        refine lv_iload hx hb dX3_notesBy_32 (lv_at hl 4 rfl) ?_
        refine lv_iconst (v := 1) hx hb dX3_notesBy_34 (by decide) ?_
        refine lv_iload hx hb dX3_notesBy_35 (lv_at hl 5 rfl) ?_
        refine lv_ishl hx hb dX3_notesBy_37 ?_
        refine lv_ior hx hb dX3_notesBy_38 ?_
        refine z_nI h (fun x7 h => ?_)
        refine lv_istore (lv' := [(4, .int x7), (0, .ref (z_ad G 15 0)), (1, .int v1), (2, .int v2), (3, .int v3), (5, .int v5)]) hx hb dX3_notesBy_39 hl (by decide) rfl (fun ls hl => ?_)
        exact w_X3_notesBy_b41 hc ih v1 v2 v3 x7 v5 _ _ _ _ h hI (lv_sub hl [1, 2, 3, 4, 0, 5] rfl)
set_option maxRecDepth 100000 in
set_option maxHeartbeats 4000000 in
theorem c_X3_notesBy {G : z_G} {l : Launch} {a1 : Int32} {a2 : Int32} {a3 : Int32} {M : z_M} {out : (Int32 × z_M)} (h : F_X3_notesBy a1 a2 a3 M = some out) : z_Met G l yX3_notesBy cX3_notesBy 6 (some .int) 6 [.ref (z_ad G 15 0), .int a1, .int a2, .int a3] M (some (.int out.1)) out.2 := by
  unfold F_X3_notesBy at h
  refine z_met_of (by decide) rfl (Nat.le_of_ble_eq_true rfl) (fun p e s m below meth c ls hc hI hl => ?_)
  obtain ⟨⟨hx, hb, hml, hown, hts⟩, hr, hlk⟩ := id hc
  have hl : lv_has ls 6 [(0, .ref (z_ad G 15 0)), (1, .int a1), (2, .int a2), (3, .int a3)] := hl
  refine lv_iconst (v := 0) hx hb dX3_notesBy_0 (by decide) ?_
  refine lv_istore (lv' := [(4, .int 0), (0, .ref (z_ad G 15 0)), (1, .int a1), (2, .int a2), (3, .int a3)]) hx hb dX3_notesBy_1 hl (by decide) rfl (fun ls hl => ?_)
  refine lv_iconst (v := 0) hx hb dX3_notesBy_3 (by decide) ?_
  refine lv_istore (lv' := [(5, .int 0), (4, .int 0), (0, .ref (z_ad G 15 0)), (1, .int a1), (2, .int a2), (3, .int a3)]) hx hb dX3_notesBy_4 hl (by decide) rfl (fun ls hl => ?_)
  exact w_X3_notesBy_b6 hc _ a1 a2 a3 0 0 _ _ _ _ h hI (lv_sub hl [2, 3, 4, 5, 1, 0] rfl)
set_option maxRecDepth 100000 in
set_option maxHeartbeats 4000000 in
theorem w_X3_partsBy_b56 (hc : z_C p s m args meth c RX3 cX3_partsBy 7 (some .int)) {out : (Int32 × z_M)} {K13 : Int32 → Int32 → Int32 → Int32 → Int32 → Int32 → z_M → Option (Int32 × z_M)} (hK13 : ∀ (v1 : Int32) (v2 : Int32) (v3 : Int32) (v4 : Int32) (v5 : Int32) (v6 : Int32) (M : z_M) (H : Heap) (locs : List Loc) (ls : Array Slot), K13 v1 v2 v3 v4 v5 v6 M = some out → z_I G s M H locs → lv_has ls 7 [(0, .ref (z_ad G 15 0)), (1, .int v1), (2, .int v2), (3, .int v3), (4, .int v4), (5, .int v5), (6, .int v6)] → W p l e (z_rm 6) s m args below meth c H locs 0 0 (MQ below (z_Q G (some (.int out.1)) out.2) args s 0 0 (z_A G)) (F0 m 13 ls [])) (v1 : Int32) (v2 : Int32) (v3 : Int32) (v4 : Int32) (v5 : Int32) (v6 : Int32) (M : z_M) (H : Heap) (locs : List Loc) (ls : Array Slot) (h : F_X3_partsBy_b56 K13 v1 v2 v3 v4 v5 v6 M = some out) (hI : z_I G s M H locs) (hl : lv_has ls 7 [(0, .ref (z_ad G 15 0)), (1, .int v1), (2, .int v2), (3, .int v3), (4, .int v4), (5, .int v5), (6, .int v6)]) : W p l e (z_rm 6) s m args below meth c H locs 0 0 (MQ below (z_Q G (some (.int out.1)) out.2) args s 0 0 (z_A G)) (F0 m 56 ls []) := by
  obtain ⟨⟨hx, hb, hml, hown, hts⟩, hr, hlk⟩ := id hc
  unfold F_X3_partsBy_b56 at h
  refine lv_iinc (v := v6 + 1) (lv' := [(6, .int (v6 + 1)), (0, .ref (z_ad G 15 0)), (1, .int v1), (2, .int v2), (3, .int v3), (4, .int v4), (5, .int v5)]) hx hb dX3_partsBy_56 hl (k := 6) rfl rfl (by decide) rfl (fun ls hl => ?_)
  refine lv_goto (tgt := 13) hx hb dX3_partsBy_59 (by decide) ?_
  exact hK13 v1 v2 v3 v4 v5 (v6 + 1) _ _ _ _ h hI (lv_sub hl [1, 2, 3, 4, 5, 6, 0] rfl)
set_option maxRecDepth 100000 in
set_option maxHeartbeats 4000000 in
theorem w_X3_partsBy_b13 (hc : z_C p s m args meth c RX3 cX3_partsBy 7 (some .int)) {out : (Int32 × z_M)} : ∀ (n : Nat) (v1 : Int32) (v2 : Int32) (v3 : Int32) (v4 : Int32) (v5 : Int32) (v6 : Int32) (M : z_M) (H : Heap) (locs : List Loc) (ls : Array Slot) (h : F_X3_partsBy_b13 n v1 v2 v3 v4 v5 v6 M = some out) (hI : z_I G s M H locs) (hl : lv_has ls 7 [(0, .ref (z_ad G 15 0)), (1, .int v1), (2, .int v2), (3, .int v3), (4, .int v4), (5, .int v5), (6, .int v6)]), W p l e (z_rm 6) s m args below meth c H locs 0 0 (MQ below (z_Q G (some (.int out.1)) out.2) args s 0 0 (z_A G)) (F0 m 13 ls []) := by
  obtain ⟨⟨hx, hb, hml, hown, hts⟩, hr, hlk⟩ := id hc
  intro n
  induction n with
  | zero => intro v1 v2 v3 v4 v5 v6 M H locs ls h; cases h
  | succ n ih =>
    intro v1 v2 v3 v4 v5 v6 M H locs ls h hI hl
    rw [F_X3_partsBy_b13] at h
    refine lv_iload hx hb dX3_partsBy_13 (lv_at hl 6 rfl) ?_
    refine lv_aload_n hx hb dX3_partsBy_15 rfl (lv_at hl 0 rfl) ?_
    refine gf_X3_12 hc hI dX3_partsBy_16 ?_
    refine lv_iload_n hx hb dX3_partsBy_19 rfl (lv_at hl 2 rfl) ?_
    obtain ⟨q3, e4, h⟩ := z_bnd h
    refine iv_X3_150 (by decide) hc hI (c_X5_mostOf (by decide) e4) (z_room (by decide) (by decide)) hl.1 (Nat.le_of_ble_eq_true rfl) ⟨Nat.zero_le _, Nat.zero_le _⟩ dX3_partsBy_20 (fun H locs hI => ?_)
    refine lv_icmp_gt (tgt := 62) hx hb dX3_partsBy_23 (by decide) (fun c5 => ?_) (fun c5 => ?_)
    · replace h := z_ift h c5
      refine lv_iload hx hb dX3_partsBy_62 (lv_at hl 5 rfl) ?_
      obtain rfl := Option.some.inj h
      exact z_ri hc hI dX3_partsBy_64
    · replace h := z_iff h c5
      refine lv_aload_n hx hb dX3_partsBy_26 rfl (lv_at hl 0 rfl) ?_
      refine gf_X3_12 hc hI dX3_partsBy_27 ?_
      refine lv_iload_n hx hb dX3_partsBy_30 rfl (lv_at hl 1 rfl) ?_
      refine lv_iload_n hx hb dX3_partsBy_31 rfl (lv_at hl 2 rfl) ?_
      refine lv_iload hx hb dX3_partsBy_32 (lv_at hl 6 rfl) ?_
      obtain ⟨q6, e7, h⟩ := z_bnd h
      refine iv_X3_128 (by decide) hc hI (c_X5_setPart (by decide) e7) (z_room (by decide) (by decide)) hl.1 (Nat.le_of_ble_eq_true rfl) ⟨Nat.zero_le _, Nat.zero_le _⟩ dX3_partsBy_34 (fun H locs hI => ?_)
      refine lv_aload_n hx hb dX3_partsBy_37 rfl (lv_at hl 0 rfl) ?_
      refine lv_iload_n hx hb dX3_partsBy_38 rfl (lv_at hl 3 rfl) ?_
      refine lv_iload hx hb dX3_partsBy_39 (lv_at hl 4 rfl) ?_
      obtain ⟨q8, e9, h⟩ := z_bnd h
      refine iv_X3_144 hc hI (c_X3_isHeardSo e9) (z_room (by decide) (by decide)) hl.1 (Nat.le_of_ble_eq_true rfl) ⟨Nat.zero_le _, Nat.zero_le _⟩ dX3_partsBy_41 (fun H locs hI => ?_)
      refine lv_if_eq (tgt := 56) hx hb dX3_partsBy_44 (by decide) (fun c10 => ?_) (fun c10 => ?_)
      · replace h := z_ift h c10
        exact w_X3_partsBy_b56 hc ih v1 v2 v3 v4 v5 v6 _ _ _ _ h hI hl
      · replace h := z_iff h c10
        refine lv_iload hx hb dX3_partsBy_47 (lv_at hl 5 rfl) ?_
        refine lv_iconst (v := 1) hx hb dX3_partsBy_49 (by decide) ?_
        refine lv_iload hx hb dX3_partsBy_50 (lv_at hl 6 rfl) ?_
        refine lv_ishl hx hb dX3_partsBy_52 ?_
        refine lv_ior hx hb dX3_partsBy_53 ?_
        refine z_nI h (fun x11 h => ?_)
        refine lv_istore (lv' := [(5, .int x11), (0, .ref (z_ad G 15 0)), (1, .int v1), (2, .int v2), (3, .int v3), (4, .int v4), (6, .int v6)]) hx hb dX3_partsBy_54 hl (by decide) rfl (fun ls hl => ?_)
        exact w_X3_partsBy_b56 hc ih v1 v2 v3 v4 x11 v6 _ _ _ _ h hI (lv_sub hl [1, 2, 3, 4, 5, 0, 6] rfl)
set_option maxRecDepth 100000 in
set_option maxHeartbeats 4000000 in
theorem c_X3_partsBy {G : z_G} {l : Launch} {a1 : Int32} {a2 : Int32} {a3 : Int32} {a4 : Int32} {M : z_M} {out : (Int32 × z_M)} (h : F_X3_partsBy a1 a2 a3 a4 M = some out) : z_Met G l yX3_partsBy cX3_partsBy 7 (some .int) 6 [.ref (z_ad G 15 0), .int a1, .int a2, .int a3, .int a4] M (some (.int out.1)) out.2 := by
  unfold F_X3_partsBy at h
  refine z_met_of (by decide) rfl (Nat.le_of_ble_eq_true rfl) (fun p e s m below meth c ls hc hI hl => ?_)
  obtain ⟨⟨hx, hb, hml, hown, hts⟩, hr, hlk⟩ := id hc
  have hl : lv_has ls 7 [(0, .ref (z_ad G 15 0)), (1, .int a1), (2, .int a2), (3, .int a3), (4, .int a4)] := hl
  refine lv_iconst (v := 0) hx hb dX3_partsBy_0 (by decide) ?_
  refine lv_istore (lv' := [(5, .int 0), (0, .ref (z_ad G 15 0)), (1, .int a1), (2, .int a2), (3, .int a3), (4, .int a4)]) hx hb dX3_partsBy_1 hl (by decide) rfl (fun ls hl => ?_)
  refine lv_aload_n hx hb dX3_partsBy_3 rfl (lv_at hl 1 rfl) ?_
  refine gf_X3_12 hc hI dX3_partsBy_4 ?_
  refine lv_iload_n hx hb dX3_partsBy_7 rfl (lv_at hl 3 rfl) ?_
  obtain ⟨q1, e2, h⟩ := z_bnd h
  refine iv_X3_147 (by decide) hc hI (c_X5_leastOf (by decide) e2) (z_room (by decide) (by decide)) hl.1 (Nat.le_of_ble_eq_true rfl) ⟨Nat.zero_le _, Nat.zero_le _⟩ dX3_partsBy_8 (fun H locs hI => ?_)
  refine lv_istore (lv' := [(6, .int q1), (5, .int 0), (0, .ref (z_ad G 15 0)), (1, .int a1), (2, .int a2), (3, .int a3), (4, .int a4)]) hx hb dX3_partsBy_11 hl (by decide) rfl (fun ls hl => ?_)
  exact w_X3_partsBy_b13 hc _ a1 a2 a3 a4 0 q1 _ _ _ _ h hI (lv_sub hl [2, 3, 4, 5, 6, 1, 0] rfl)
set_option maxRecDepth 100000 in
set_option maxHeartbeats 4000000 in
theorem w_X3_commonDivisor_b9 {M : z_M} (hc : z_C p s m args meth c RX3 cX3_commonDivisor 11 (some .long)) {out : Int64} : ∀ (n : Nat) (v4 : Int64) (v6 : Int64) (v8 : Int32) (H : Heap) (locs : List Loc) (ls : Array Slot) (h : F_X3_commonDivisor_b9 M n v4 v6 v8 = some out) (hI : z_I G s M H locs) (hl : lv_has ls 11 [(4, .long v4), (6, .long v6), (8, .int v8)]), W p l e (z_rm 1) s m args below meth c H locs 0 0 (MQ below (z_Q G (some (.long out)) M) args s 0 0 (z_A G)) (F0 m 9 ls []) := by
  obtain ⟨⟨hx, hb, hml, hown, hts⟩, hr, hlk⟩ := id hc
  intro n
  induction n with
  | zero => intro v4 v6 v8 H locs ls h; cases h
  | succ n ih =>
    intro v4 v6 v8 H locs ls h hI hl
    rw [F_X3_commonDivisor_b9] at h
    refine lv_iload hx hb dX3_commonDivisor_9 (lv_at hl 2 rfl) ?_
    refine lv_bipush (v := 100) hx hb dX3_commonDivisor_11 (by decide) ?_
    refine lv_icmp_ge (tgt := 44) hx hb dX3_commonDivisor_13 (by decide) (fun c1 => ?_) (fun c1 => ?_)
    · replace h := z_ift h c1
      refine lv_lload hx hb dX3_commonDivisor_44 (lv_at hl 0 rfl) ?_
      obtain rfl := Option.some.inj h
      exact z_rl hc hI dX3_commonDivisor_46
    · replace h := z_iff h c1
      refine lv_lload hx hb dX3_commonDivisor_16 (lv_at hl 1 rfl) ?_
      refine lv_lconst (v := 0) hx hb dX3_commonDivisor_18 (by decide) ?_
      refine W.lcmp hx hb dX3_commonDivisor_19 ?_
      refine lv_if_eq (tgt := 44) hx hb dX3_commonDivisor_20 (by decide) (fun c2 => ?_) (fun c2 => ?_)
      · replace h := z_ift h c2
        refine lv_lload hx hb dX3_commonDivisor_44 (lv_at hl 0 rfl) ?_
        obtain rfl := Option.some.inj h
        exact z_rl hc hI dX3_commonDivisor_46
      · replace h := z_iff h c2
        refine lv_lload hx hb dX3_commonDivisor_23 (lv_at hl 0 rfl) ?_
        refine lv_lload hx hb dX3_commonDivisor_25 (lv_at hl 1 rfl) ?_
        obtain ⟨g3, h⟩ := z_grd_some h
        refine lv_lrem hx hb dX3_commonDivisor_27 g3 ?_
        refine z_nL h (fun x4 h => ?_)
        refine lv_lstore (lv' := [(9, .long x4), (4, .long v4), (6, .long v6), (8, .int v8)]) hx hb dX3_commonDivisor_28 hl (by decide) rfl (fun ls hl => ?_)
        refine lv_lload hx hb dX3_commonDivisor_30 (lv_at hl 2 rfl) ?_
        refine lv_lstore (lv' := [(4, .long v6), (9, .long x4), (6, .long v6), (8, .int v8)]) hx hb dX3_commonDivisor_32 hl (by decide) rfl (fun ls hl => ?_)
        refine lv_lload hx hb dX3_commonDivisor_34 (lv_at hl 1 rfl) ?_
        refine lv_lstore (lv' := [(6, .long x4), (4, .long v6), (9, .long x4), (8, .int v8)]) hx hb dX3_commonDivisor_36 hl (by decide) rfl (fun ls hl => ?_)
        refine lv_iinc (v := v8 + 1) (lv' := [(8, .int (v8 + 1)), (6, .long x4), (4, .long v6), (9, .long x4)]) hx hb dX3_commonDivisor_38 hl (k := 3) rfl rfl (by decide) rfl (fun ls hl => ?_)
        refine lv_goto (tgt := 9) hx hb dX3_commonDivisor_41 (by decide) ?_
        exact ih v6 x4 (v8 + 1) _ _ _ h hI (lv_sub hl [2, 1, 0] rfl)
set_option maxRecDepth 100000 in
set_option maxHeartbeats 4000000 in
theorem c_X3_commonDivisor {G : z_G} {l : Launch} {a1 : Int64} {a2 : Int64} {M : z_M} {out : Int64} (h : F_X3_commonDivisor a1 a2 M = some out) : z_Met G l yX3_commonDivisor cX3_commonDivisor 11 (some .long) 1 [.long a1, .long a2] M (some (.long out)) M := by
  unfold F_X3_commonDivisor at h
  refine z_met_of (by decide) rfl (Nat.le_of_ble_eq_true rfl) (fun p e s m below meth c ls hc hI hl => ?_)
  obtain ⟨⟨hx, hb, hml, hown, hts⟩, hr, hlk⟩ := id hc
  have hl : lv_has ls 11 [(0, .long a1), (2, .long a2)] := hl
  refine lv_lload_n hx hb dX3_commonDivisor_0 rfl (lv_at hl 0 rfl) ?_
  refine lv_lstore (lv' := [(4, .long a1), (0, .long a1), (2, .long a2)]) hx hb dX3_commonDivisor_1 hl (by decide) rfl (fun ls hl => ?_)
  refine lv_lload_n hx hb dX3_commonDivisor_3 rfl (lv_at hl 2 rfl) ?_
  refine lv_lstore (lv' := [(6, .long a2), (4, .long a1), (0, .long a1), (2, .long a2)]) hx hb dX3_commonDivisor_4 hl (by decide) rfl (fun ls hl => ?_)
  refine lv_iconst (v := 0) hx hb dX3_commonDivisor_6 (by decide) ?_
  refine lv_istore (lv' := [(8, .int 0), (6, .long a2), (4, .long a1), (0, .long a1), (2, .long a2)]) hx hb dX3_commonDivisor_7 hl (by decide) rfl (fun ls hl => ?_)
  exact w_X3_commonDivisor_b9 hc _ a1 a2 0 _ _ _ h hI (lv_sub hl [2, 1, 0] rfl)
set_option maxRecDepth 100000 in
set_option maxHeartbeats 4000000 in
theorem w_X3_likelihood_b103 {M : z_M} (hc : z_C p s m args meth c RX3 cX3_likelihood 13 (some .long)) {out : Int64} {K9 : Int32 → Int32 → Int32 → Int32 → Int64 → Int64 → Int32 → Option Int64} (hK9 : ∀ (v1 : Int32) (v2 : Int32) (v3 : Int32) (v4 : Int32) (v5 : Int64) (v7 : Int64) (v9 : Int32) (H : Heap) (locs : List Loc) (ls : Array Slot), K9 v1 v2 v3 v4 v5 v7 v9 = some out → z_I G s M H locs → lv_has ls 13 [(0, .ref (z_ad G 15 0)), (1, .int v1), (2, .int v2), (3, .int v3), (4, .int v4), (5, .long v5), (7, .long v7), (9, .int v9)] → W p l e (z_rm 4) s m args below meth c H locs 0 0 (MQ below (z_Q G (some (.long out)) M) args s 0 0 (z_A G)) (F0 m 9 ls [])) (v1 : Int32) (v2 : Int32) (v3 : Int32) (v4 : Int32) (v5 : Int64) (v7 : Int64) (v9 : Int32) (H : Heap) (locs : List Loc) (ls : Array Slot) (h : F_X3_likelihood_b103 M K9 v1 v2 v3 v4 v5 v7 v9 = some out) (hI : z_I G s M H locs) (hl : lv_has ls 13 [(0, .ref (z_ad G 15 0)), (1, .int v1), (2, .int v2), (3, .int v3), (4, .int v4), (5, .long v5), (7, .long v7), (9, .int v9)]) : W p l e (z_rm 4) s m args below meth c H locs 0 0 (MQ below (z_Q G (some (.long out)) M) args s 0 0 (z_A G)) (F0 m 103 ls []) := by
  obtain ⟨⟨hx, hb, hml, hown, hts⟩, hr, hlk⟩ := id hc
  unfold F_X3_likelihood_b103 at h
  refine lv_iinc (v := v9 + 1) (lv' := [(9, .int (v9 + 1)), (0, .ref (z_ad G 15 0)), (1, .int v1), (2, .int v2), (3, .int v3), (4, .int v4), (5, .long v5), (7, .long v7)]) hx hb dX3_likelihood_103 hl (k := 7) rfl rfl (by decide) rfl (fun ls hl => ?_)
  refine lv_goto (tgt := 9) hx hb dX3_likelihood_106 (by decide) ?_
  exact hK9 v1 v2 v3 v4 v5 v7 (v9 + 1) _ _ _ h hI (lv_sub hl [1, 2, 3, 4, 5, 6, 7, 0] rfl)
set_option maxRecDepth 100000 in
set_option maxHeartbeats 4000000 in
theorem w_X3_likelihood_b85 {M : z_M} (hc : z_C p s m args meth c RX3 cX3_likelihood 13 (some .long)) {out : Int64} {K9 : Int32 → Int32 → Int32 → Int32 → Int64 → Int64 → Int32 → Option Int64} (hK9 : ∀ (v1 : Int32) (v2 : Int32) (v3 : Int32) (v4 : Int32) (v5 : Int64) (v7 : Int64) (v9 : Int32) (H : Heap) (locs : List Loc) (ls : Array Slot), K9 v1 v2 v3 v4 v5 v7 v9 = some out → z_I G s M H locs → lv_has ls 13 [(0, .ref (z_ad G 15 0)), (1, .int v1), (2, .int v2), (3, .int v3), (4, .int v4), (5, .long v5), (7, .long v7), (9, .int v9)] → W p l e (z_rm 4) s m args below meth c H locs 0 0 (MQ below (z_Q G (some (.long out)) M) args s 0 0 (z_A G)) (F0 m 9 ls [])) (v1 : Int32) (v2 : Int32) (v3 : Int32) (v4 : Int32) (v5 : Int64) (v7 : Int64) (v9 : Int32) (H : Heap) (locs : List Loc) (ls : Array Slot) (h : F_X3_likelihood_b85 M K9 v1 v2 v3 v4 v5 v7 v9 = some out) (hI : z_I G s M H locs) (hl : lv_has ls 13 [(0, .ref (z_ad G 15 0)), (1, .int v1), (2, .int v2), (3, .int v3), (4, .int v4), (5, .long v5), (7, .long v7), (9, .int v9)]) : W p l e (z_rm 4) s m args below meth c H locs 0 0 (MQ below (z_Q G (some (.long out)) M) args s 0 0 (z_A G)) (F0 m 85 ls []) := by
  obtain ⟨⟨hx, hb, hml, hown, hts⟩, hr, hlk⟩ := id hc
  unfold F_X3_likelihood_b85 at h
  refine lv_aload_n hx hb dX3_likelihood_85 rfl (lv_at hl 0 rfl) ?_
  refine gf_X3_12 hc hI dX3_likelihood_86 ?_
  refine lv_iload_n hx hb dX3_likelihood_89 rfl (lv_at hl 1 rfl) ?_
  refine lv_iload hx hb dX3_likelihood_90 (lv_at hl 7 rfl) ?_
  obtain ⟨q17, e18, h⟩ := z_bnd h
  refine iv_X3_155 (by decide) hc hI (c_X5_soundOf (by decide) e18) (z_room (by decide) (by decide)) hl.1 (Nat.le_of_ble_eq_true rfl) ⟨Nat.zero_le _, Nat.zero_le _⟩ dX3_likelihood_92 (fun H locs hI => ?_)
  refine lv_bipush (v := 10) hx hb dX3_likelihood_95 (by decide) ?_
  refine lv_icmp_eq (tgt := 103) hx hb dX3_likelihood_97 (by decide) (fun c19 => ?_) (fun c19 => ?_)
  · replace h := z_ift h c19
    exact w_X3_likelihood_b103 hc hK9 v1 v2 v3 v4 v5 v7 v9 _ _ _ h hI hl
  · replace h := z_iff h c19
    refine lv_lconst (v := 0) hx hb dX3_likelihood_100 (by decide) ?_
    refine lv_lstore (lv' := [(7, .long 0), (0, .ref (z_ad G 15 0)), (1, .int v1), (2, .int v2), (3, .int v3), (4, .int v4), (5, .long v5), (9, .int v9)]) hx hb dX3_likelihood_101 hl (by decide) rfl (fun ls hl => ?_)
    exact w_X3_likelihood_b103 hc hK9 v1 v2 v3 v4 v5 0 v9 _ _ _ h hI (lv_sub hl [1, 2, 3, 4, 5, 6, 0, 7] rfl)
set_option maxRecDepth 100000 in
set_option maxHeartbeats 4000000 in
theorem w_X3_likelihood_b9 {M : z_M} (hc : z_C p s m args meth c RX3 cX3_likelihood 13 (some .long)) {out : Int64} : ∀ (n : Nat) (v1 : Int32) (v2 : Int32) (v3 : Int32) (v4 : Int32) (v5 : Int64) (v7 : Int64) (v9 : Int32) (H : Heap) (locs : List Loc) (ls : Array Slot) (h : F_X3_likelihood_b9 M n v1 v2 v3 v4 v5 v7 v9 = some out) (hI : z_I G s M H locs) (hl : lv_has ls 13 [(0, .ref (z_ad G 15 0)), (1, .int v1), (2, .int v2), (3, .int v3), (4, .int v4), (5, .long v5), (7, .long v7), (9, .int v9)]), W p l e (z_rm 4) s m args below meth c H locs 0 0 (MQ below (z_Q G (some (.long out)) M) args s 0 0 (z_A G)) (F0 m 9 ls []) := by
  obtain ⟨⟨hx, hb, hml, hown, hts⟩, hr, hlk⟩ := id hc
  intro n
  induction n with
  | zero => intro v1 v2 v3 v4 v5 v7 v9 H locs ls h; cases h
  | succ n ih =>
    intro v1 v2 v3 v4 v5 v7 v9 H locs ls h hI hl
    rw [F_X3_likelihood_b9] at h
    refine lv_iload hx hb dX3_likelihood_9 (lv_at hl 7 rfl) ?_
    refine lv_bipush (v := 8) hx hb dX3_likelihood_11 (by decide) ?_
    refine lv_icmp_ge (tgt := 109) hx hb dX3_likelihood_13 (by decide) (fun c1 => ?_) (fun c1 => ?_)
    · replace h := z_ift h c1
      refine lv_lload hx hb dX3_likelihood_109 (lv_at hl 5 rfl) ?_
      refine lv_lload hx hb dX3_likelihood_111 (lv_at hl 6 rfl) ?_
      refine lv_lsub hx hb dX3_likelihood_113 ?_
      refine z_nL h (fun x2 h => ?_)
      refine lv_lstore (lv' := [(9, .long x2), (0, .ref (z_ad G 15 0)), (1, .int v1), (2, .int v2), (3, .int v3), (4, .int v4), (5, .long v5), (7, .long v7)]) hx hb dX3_likelihood_114 hl (by decide) rfl (fun ls hl => ?_)
      refine lv_lload hx hb dX3_likelihood_116 (lv_at hl 6 rfl) ?_
      refine lv_lload hx hb dX3_likelihood_118 (lv_at hl 0 rfl) ?_
      obtain ⟨q3, e4, h⟩ := z_bnd h
      refine iv_X3_158 hc hI (c_X3_commonDivisor e4) (z_room (by decide) (by decide)) hl.1 (Nat.le_of_ble_eq_true rfl) ⟨Nat.zero_le _, Nat.zero_le _⟩ dX3_likelihood_120 (fun H locs hI => ?_)
      refine lv_lstore (lv' := [(11, .long q3), (9, .long x2), (0, .ref (z_ad G 15 0)), (1, .int v1), (2, .int v2), (3, .int v3), (4, .int v4), (5, .long v5), (7, .long v7)]) hx hb dX3_likelihood_123 hl (by decide) rfl (fun ls hl => ?_)
      refine lv_lload hx hb dX3_likelihood_125 (lv_at hl 0 rfl) ?_
      refine lv_lconst (v := 1) hx hb dX3_likelihood_127 (by decide) ?_
      refine W.lcmp hx hb dX3_likelihood_128 ?_
      refine lv_if_ge (tgt := 136) hx hb dX3_likelihood_129 (by decide) (fun c5 => ?_) (fun c5 => ?_)
      · replace h := z_ift h c5
        refine lv_iload hx hb dX3_likelihood_136 (lv_at hl 6 rfl) ?_
        refine lv_if_ne (tgt := 149) hx hb dX3_likelihood_138 (by decide) (fun c6 => ?_) (fun c6 => ?_)
        · replace h := z_iff h c6
          refine lv_lload hx hb dX3_likelihood_149 (lv_at hl 7 rfl) ?_
          refine lv_lload hx hb dX3_likelihood_151 (lv_at hl 0 rfl) ?_
          obtain ⟨g7, h⟩ := z_grd_some h
          refine lv_ldiv hx hb dX3_likelihood_153 g7 ?_
          obtain rfl := Option.some.inj h
          exact z_rl hc hI dX3_likelihood_154
        · replace h := z_ift h c6
          refine lv_lload hx hb dX3_likelihood_141 (lv_at hl 1 rfl) ?_
          refine lv_lload hx hb dX3_likelihood_143 (lv_at hl 0 rfl) ?_
          obtain ⟨g8, h⟩ := z_grd_some h
          refine lv_ldiv hx hb dX3_likelihood_145 g8 ?_
          refine lv_goto (tgt := 154) hx hb dX3_likelihood_146 (by decide) ?_
          obtain rfl := Option.some.inj h
          exact z_rl hc hI dX3_likelihood_154
      · replace h := z_iff h c5
        refine lv_ldc2 (v := (-1000000)) hx hb hown (hts _ wd_4_40) dX3_likelihood_132 ?_
        obtain rfl := Option.some.inj h
        exact z_rl hc hI dX3_likelihood_135
    · replace h := z_iff h c1
      refine lv_aload_n hx hb dX3_likelihood_16 rfl (lv_at hl 0 rfl) ?_
      refine gf_X3_12 hc hI dX3_likelihood_17 ?_
      refine lv_iload_n hx hb dX3_likelihood_20 rfl (lv_at hl 1 rfl) ?_
      refine lv_iload hx hb dX3_likelihood_21 (lv_at hl 7 rfl) ?_
      obtain ⟨q9, e10, h⟩ := z_bnd h
      refine iv_X3_100 (by decide) hc hI (c_X5_treadOf (by decide) e10) (z_room (by decide) (by decide)) hl.1 (Nat.le_of_ble_eq_true rfl) ⟨Nat.zero_le _, Nat.zero_le _⟩ dX3_likelihood_23 (fun H locs hI => ?_)
      refine lv_istore (lv' := [(10, .int q9), (0, .ref (z_ad G 15 0)), (1, .int v1), (2, .int v2), (3, .int v3), (4, .int v4), (5, .long v5), (7, .long v7), (9, .int v9)]) hx hb dX3_likelihood_26 hl (by decide) rfl (fun ls hl => ?_)
      refine lv_aload_n hx hb dX3_likelihood_28 rfl (lv_at hl 1 rfl) ?_
      refine gf_X3_12 hc hI dX3_likelihood_29 ?_
      refine lv_iload hx hb dX3_likelihood_32 (lv_at hl 0 rfl) ?_
      refine lv_iload_n hx hb dX3_likelihood_34 rfl (lv_at hl 3 rfl) ?_
      obtain ⟨q11, e12, h⟩ := z_bnd h
      refine iv_X3_103 (by decide) hc hI (c_X5_isNear (by decide) e12) (z_room (by decide) (by decide)) hl.1 (Nat.le_of_ble_eq_true rfl) ⟨Nat.zero_le _, Nat.zero_le _⟩ dX3_likelihood_35 (fun H locs hI => ?_)
      refine lv_if_ne (tgt := 44) hx hb dX3_likelihood_38 (by decide) (fun c13 => ?_) (fun c13 => ?_)
      · replace h := z_iff h c13
        refine lv_aload_n hx hb dX3_likelihood_44 rfl (lv_at hl 1 rfl) ?_
        refine gf_X3_12 hc hI dX3_likelihood_45 ?_
        refine lv_iload hx hb dX3_likelihood_48 (lv_at hl 0 rfl) ?_
        obtain ⟨q14, e15, h⟩ := z_bnd h
        refine iv_X3_106 (by decide) hc hI (c_X5_kindOf (by decide) e15) (z_room (by decide) (by decide)) hl.1 (Nat.le_of_ble_eq_true rfl) ⟨Nat.zero_le _, Nat.zero_le _⟩ dX3_likelihood_50 (fun H locs hI => ?_)
        refine lv_istore (lv' := [(11, .int q14), (10, .int q9), (0, .ref (z_ad G 15 0)), (1, .int v1), (2, .int v2), (3, .int v3), (4, .int v4), (5, .long v5), (7, .long v7), (9, .int v9)]) hx hb dX3_likelihood_53 hl (by decide) rfl (fun ls hl => ?_)
        refine lv_iload hx hb dX3_likelihood_55 (lv_at hl 0 rfl) ?_
        refine lv_iconst (v := 4) hx hb dX3_likelihood_57 (by decide) ?_
        refine lv_icmp_eq (tgt := 85) hx hb dX3_likelihood_58 (by decide) (fun c16 => ?_) (fun c16 => ?_)
        · replace h := z_ift h c16
          exact w_X3_likelihood_b85 hc ih v1 v2 v3 v4 v5 v7 v9 _ _ _ h hI (lv_sub hl [2, 3, 4, 5, 6, 7, 8, 9] rfl)
        · replace h := z_iff h c16
          refine lv_iload hx hb dX3_likelihood_61 (lv_at hl 0 rfl) ?_
          refine lv_iconst (v := 5) hx hb dX3_likelihood_63 (by decide) ?_
          refine lv_icmp_eq (tgt := 85) hx hb dX3_likelihood_64 (by decide) (fun c20 => ?_) (fun c20 => ?_)
          · replace h := z_ift h c20
            exact w_X3_likelihood_b85 hc ih v1 v2 v3 v4 v5 v7 v9 _ _ _ h hI (lv_sub hl [2, 3, 4, 5, 6, 7, 8, 9] rfl)
          · replace h := z_iff h c20
            refine lv_lload hx hb dX3_likelihood_67 (lv_at hl 7 rfl) ?_
            refine lv_ldc2 (v := 10) hx hb hown (hts _ wd_4_35) dX3_likelihood_69 ?_
            refine lv_lmul hx hb dX3_likelihood_72 ?_
            refine z_nL h (fun x21 h => ?_)
            refine lv_lstore (lv' := [(5, .long x21), (11, .int q14), (10, .int q9), (0, .ref (z_ad G 15 0)), (1, .int v1), (2, .int v2), (3, .int v3), (4, .int v4), (7, .long v7), (9, .int v9)]) hx hb dX3_likelihood_73 hl (by decide) rfl (fun ls hl => ?_)
            refine lv_lload hx hb dX3_likelihood_75 (lv_at hl 8 rfl) ?_
            refine lv_iload_n hx hb dX3_likelihood_77 rfl (lv_at hl 6 rfl) ?_
            refine lv_i2l (v := v3.toInt64) hx hb dX3_likelihood_78 rfl ?_
            refine lv_lmul hx hb dX3_likelihood_79 ?_
            refine z_nL h (fun x22 h => ?_)
            refine lv_lstore (lv' := [(7, .long x22), (5, .long x21), (11, .int q14), (10, .int q9), (0, .ref (z_ad G 15 0)), (1, .int v1), (2, .int v2), (3, .int v3), (4, .int v4), (9, .int v9)]) hx hb dX3_likelihood_80 hl (by decide) rfl (fun ls hl => ?_)
            refine lv_goto (tgt := 103) hx hb dX3_likelihood_82 (by decide) ?_
            exact w_X3_likelihood_b103 hc ih v1 v2 v3 v4 x21 x22 v9 _ _ _ h hI (lv_sub hl [4, 5, 6, 7, 8, 1, 0, 9] rfl)
      · replace h := z_ift h c13
        refine lv_goto (tgt := 103) hx hb dX3_likelihood_41 (by decide) ?_
        exact w_X3_likelihood_b103 hc ih v1 v2 v3 v4 v5 v7 v9 _ _ _ h hI (lv_sub hl [1, 2, 3, 4, 5, 6, 7, 8] rfl)
set_option maxRecDepth 100000 in
set_option maxHeartbeats 4000000 in
theorem c_X3_likelihood {G : z_G} {l : Launch} {a1 : Int32} {a2 : Int32} {a3 : Int32} {a4 : Int32} {M : z_M} {out : Int64} (h : F_X3_likelihood a1 a2 a3 a4 M = some out) : z_Met G l yX3_likelihood cX3_likelihood 13 (some .long) 4 [.ref (z_ad G 15 0), .int a1, .int a2, .int a3, .int a4] M (some (.long out)) M := by
  unfold F_X3_likelihood at h
  refine z_met_of (by decide) rfl (Nat.le_of_ble_eq_true rfl) (fun p e s m below meth c ls hc hI hl => ?_)
  obtain ⟨⟨hx, hb, hml, hown, hts⟩, hr, hlk⟩ := id hc
  have hl : lv_has ls 13 [(0, .ref (z_ad G 15 0)), (1, .int a1), (2, .int a2), (3, .int a3), (4, .int a4)] := hl
  refine lv_lconst (v := 1) hx hb dX3_likelihood_0 (by decide) ?_
  refine lv_lstore (lv' := [(5, .long 1), (0, .ref (z_ad G 15 0)), (1, .int a1), (2, .int a2), (3, .int a3), (4, .int a4)]) hx hb dX3_likelihood_1 hl (by decide) rfl (fun ls hl => ?_)
  refine lv_lconst (v := 1) hx hb dX3_likelihood_3 (by decide) ?_
  refine lv_lstore (lv' := [(7, .long 1), (5, .long 1), (0, .ref (z_ad G 15 0)), (1, .int a1), (2, .int a2), (3, .int a3), (4, .int a4)]) hx hb dX3_likelihood_4 hl (by decide) rfl (fun ls hl => ?_)
  refine lv_iconst (v := 0) hx hb dX3_likelihood_6 (by decide) ?_
  refine lv_istore (lv' := [(9, .int 0), (7, .long 1), (5, .long 1), (0, .ref (z_ad G 15 0)), (1, .int a1), (2, .int a2), (3, .int a3), (4, .int a4)]) hx hb dX3_likelihood_7 hl (by decide) rfl (fun ls hl => ?_)
  exact w_X3_likelihood_b9 hc _ a1 a2 a3 a4 1 1 0 _ _ _ h hI (lv_sub hl [3, 4, 5, 6, 7, 2, 1, 0] rfl)
set_option maxRecDepth 100000 in
set_option maxHeartbeats 4000000 in
theorem w_X3_soundingSteps_b51 {M : z_M} (hc : z_C p s m args meth c RX3 cX3_soundingSteps 5 (some .int)) {out : Int32} {K4 : Int32 → Int32 → Option Int32} (hK4 : ∀ (v1 : Int32) (v2 : Int32) (H : Heap) (locs : List Loc) (ls : Array Slot), K4 v1 v2 = some out → z_I G s M H locs → lv_has ls 5 [(0, .ref (z_ad G 15 0)), (1, .int v1), (2, .int v2)] → W p l e (z_rm 4) s m args below meth c H locs 0 0 (MQ below (z_Q G (some (.int out)) M) args s 0 0 (z_A G)) (F0 m 4 ls [])) {K27 : Int32 → Int32 → Int32 → Int32 → Option Int32} (hK27 : ∀ (v1 : Int32) (v2 : Int32) (v3 : Int32) (v4 : Int32) (H : Heap) (locs : List Loc) (ls : Array Slot), K27 v1 v2 v3 v4 = some out → z_I G s M H locs → lv_has ls 5 [(0, .ref (z_ad G 15 0)), (1, .int v1), (2, .int v2), (3, .int v3), (4, .int v4)] → W p l e (z_rm 4) s m args below meth c H locs 0 0 (MQ below (z_Q G (some (.int out)) M) args s 0 0 (z_A G)) (F0 m 27 ls [])) (v1 : Int32) (v2 : Int32) (v3 : Int32) (v4 : Int32) (H : Heap) (locs : List Loc) (ls : Array Slot) (h : F_X3_soundingSteps_b51 M K4 K27 v1 v2 v3 v4 = some out) (hI : z_I G s M H locs) (hl : lv_has ls 5 [(0, .ref (z_ad G 15 0)), (1, .int v1), (2, .int v2), (3, .int v3), (4, .int v4)]) : W p l e (z_rm 4) s m args below meth c H locs 0 0 (MQ below (z_Q G (some (.int out)) M) args s 0 0 (z_A G)) (F0 m 51 ls []) := by
  obtain ⟨⟨hx, hb, hml, hown, hts⟩, hr, hlk⟩ := id hc
  unfold F_X3_soundingSteps_b51 at h
  refine lv_iinc (v := v4 + 1) (lv' := [(4, .int (v4 + 1)), (0, .ref (z_ad G 15 0)), (1, .int v1), (2, .int v2), (3, .int v3)]) hx hb dX3_soundingSteps_51 hl (k := 4) rfl rfl (by decide) rfl (fun ls hl => ?_)
  refine lv_goto (tgt := 27) hx hb dX3_soundingSteps_54 (by decide) ?_
  exact hK27 v1 v2 v3 (v4 + 1) _ _ _ h hI (lv_sub hl [1, 2, 3, 4, 0] rfl)
set_option maxRecDepth 100000 in
set_option maxHeartbeats 4000000 in
theorem w_X3_soundingSteps_b27 {M : z_M} (hc : z_C p s m args meth c RX3 cX3_soundingSteps 5 (some .int)) {out : Int32} {K4 : Int32 → Int32 → Option Int32} (hK4 : ∀ (v1 : Int32) (v2 : Int32) (H : Heap) (locs : List Loc) (ls : Array Slot), K4 v1 v2 = some out → z_I G s M H locs → lv_has ls 5 [(0, .ref (z_ad G 15 0)), (1, .int v1), (2, .int v2)] → W p l e (z_rm 4) s m args below meth c H locs 0 0 (MQ below (z_Q G (some (.int out)) M) args s 0 0 (z_A G)) (F0 m 4 ls [])) : ∀ (n : Nat) (v1 : Int32) (v2 : Int32) (v3 : Int32) (v4 : Int32) (H : Heap) (locs : List Loc) (ls : Array Slot) (h : F_X3_soundingSteps_b27 M K4 n v1 v2 v3 v4 = some out) (hI : z_I G s M H locs) (hl : lv_has ls 5 [(0, .ref (z_ad G 15 0)), (1, .int v1), (2, .int v2), (3, .int v3), (4, .int v4)]), W p l e (z_rm 4) s m args below meth c H locs 0 0 (MQ below (z_Q G (some (.int out)) M) args s 0 0 (z_A G)) (F0 m 27 ls []) := by
  obtain ⟨⟨hx, hb, hml, hown, hts⟩, hr, hlk⟩ := id hc
  intro n
  induction n with
  | zero => intro v1 v2 v3 v4 H locs ls h; cases h
  | succ n ih =>
    intro v1 v2 v3 v4 H locs ls h hI hl
    rw [F_X3_soundingSteps_b27] at h
    refine lv_iload hx hb dX3_soundingSteps_27 (lv_at hl 4 rfl) ?_
    refine lv_iload_n hx hb dX3_soundingSteps_29 rfl (lv_at hl 3 rfl) ?_
    refine lv_icmp_ge (tgt := 57) hx hb dX3_soundingSteps_30 (by decide) (fun c6 => ?_) (fun c6 => ?_)
    · replace h := z_ift h c6
      refine lv_iinc (v := v2 + 1) (lv' := [(2, .int (v2 + 1)), (0, .ref (z_ad G 15 0)), (1, .int v1), (3, .int v3), (4, .int v4)]) hx hb dX3_soundingSteps_57 hl (k := 2) rfl rfl (by decide) rfl (fun ls hl => ?_)
      refine lv_goto (tgt := 4) hx hb dX3_soundingSteps_60 (by decide) ?_
      exact hK4 v1 (v2 + 1) _ _ _ h hI (lv_sub hl [1, 2, 0] rfl)
    · replace h := z_iff h c6
      refine lv_aload_n hx hb dX3_soundingSteps_33 rfl (lv_at hl 0 rfl) ?_
      refine gf_X3_12 hc hI dX3_soundingSteps_34 ?_
      refine lv_iload_n hx hb dX3_soundingSteps_37 rfl (lv_at hl 2 rfl) ?_
      refine lv_iload hx hb dX3_soundingSteps_38 (lv_at hl 4 rfl) ?_
      obtain ⟨q7, e8, h⟩ := z_bnd h
      refine iv_X3_155 (by decide) hc hI (c_X5_soundOf (by decide) e8) (z_room (by decide) (by decide)) hl.1 (Nat.le_of_ble_eq_true rfl) ⟨Nat.zero_le _, Nat.zero_le _⟩ dX3_soundingSteps_40 (fun H locs hI => ?_)
      refine lv_bipush (v := 10) hx hb dX3_soundingSteps_43 (by decide) ?_
      refine lv_icmp_eq (tgt := 51) hx hb dX3_soundingSteps_45 (by decide) (fun c9 => ?_) (fun c9 => ?_)
      · replace h := z_ift h c9
        exact w_X3_soundingSteps_b51 hc hK4 ih v1 v2 v3 v4 _ _ _ h hI hl
      · replace h := z_iff h c9
        refine lv_iinc (v := v1 + 1) (lv' := [(1, .int (v1 + 1)), (0, .ref (z_ad G 15 0)), (2, .int v2), (3, .int v3), (4, .int v4)]) hx hb dX3_soundingSteps_48 hl (k := 1) rfl rfl (by decide) rfl (fun ls hl => ?_)
        exact w_X3_soundingSteps_b51 hc hK4 ih (v1 + 1) v2 v3 v4 _ _ _ h hI (lv_sub hl [1, 0, 2, 3, 4] rfl)
set_option maxRecDepth 100000 in
set_option maxHeartbeats 4000000 in
theorem w_X3_soundingSteps_b4 {M : z_M} (hc : z_C p s m args meth c RX3 cX3_soundingSteps 5 (some .int)) {out : Int32} : ∀ (n : Nat) (v1 : Int32) (v2 : Int32) (H : Heap) (locs : List Loc) (ls : Array Slot) (h : F_X3_soundingSteps_b4 M n v1 v2 = some out) (hI : z_I G s M H locs) (hl : lv_has ls 5 [(0, .ref (z_ad G 15 0)), (1, .int v1), (2, .int v2)]), W p l e (z_rm 4) s m args below meth c H locs 0 0 (MQ below (z_Q G (some (.int out)) M) args s 0 0 (z_A G)) (F0 m 4 ls []) := by
  obtain ⟨⟨hx, hb, hml, hown, hts⟩, hr, hlk⟩ := id hc
  intro n
  induction n with
  | zero => intro v1 v2 H locs ls h; cases h
  | succ n ih =>
    intro v1 v2 H locs ls h hI hl
    rw [F_X3_soundingSteps_b4] at h
    refine lv_iload_n hx hb dX3_soundingSteps_4 rfl (lv_at hl 2 rfl) ?_
    refine lv_aload_n hx hb dX3_soundingSteps_5 rfl (lv_at hl 0 rfl) ?_
    refine gf_X3_12 hc hI dX3_soundingSteps_6 ?_
    obtain ⟨q1, e2, h⟩ := z_bnd h
    refine iv_X3_65 (by decide) hc hI (c_X5_walkerCount (by decide) e2) (z_room (by decide) (by decide)) hl.1 (Nat.le_of_ble_eq_true rfl) ⟨Nat.zero_le _, Nat.zero_le _⟩ dX3_soundingSteps_9 (fun H locs hI => ?_)
    refine lv_icmp_ge (tgt := 63) hx hb dX3_soundingSteps_12 (by decide) (fun c3 => ?_) (fun c3 => ?_)
    · replace h := z_ift h c3
      refine lv_iload_n hx hb dX3_soundingSteps_63 rfl (lv_at hl 1 rfl) ?_
      obtain rfl := Option.some.inj h
      exact z_ri hc hI dX3_soundingSteps_64
    · replace h := z_iff h c3
      refine lv_aload_n hx hb dX3_soundingSteps_15 rfl (lv_at hl 0 rfl) ?_
      refine gf_X3_12 hc hI dX3_soundingSteps_16 ?_
      refine lv_iload_n hx hb dX3_soundingSteps_19 rfl (lv_at hl 2 rfl) ?_
      obtain ⟨q4, e5, h⟩ := z_bnd h
      refine iv_X3_135 (by decide) hc hI (c_X5_longOf (by decide) e5) (z_room (by decide) (by decide)) hl.1 (Nat.le_of_ble_eq_true rfl) ⟨Nat.zero_le _, Nat.zero_le _⟩ dX3_soundingSteps_20 (fun H locs hI => ?_)
      refine lv_istore_n (lv' := [(3, .int q4), (0, .ref (z_ad G 15 0)), (1, .int v1), (2, .int v2)]) hx hb dX3_soundingSteps_23 rfl hl (by decide) rfl (fun ls hl => ?_)
      refine lv_iconst (v := 0) hx hb dX3_soundingSteps_24 (by decide) ?_
      refine lv_istore (lv' := [(4, .int 0), (3, .int q4), (0, .ref (z_ad G 15 0)), (1, .int v1), (2, .int v2)]) hx hb dX3_soundingSteps_25 hl (by decide) rfl (fun ls hl => ?_)
      exact w_X3_soundingSteps_b27 hc ih _ v1 v2 q4 0 _ _ _ h hI (lv_sub hl [2, 3, 4, 1, 0] rfl)
set_option maxRecDepth 100000 in
set_option maxHeartbeats 4000000 in
theorem c_X3_soundingSteps {G : z_G} {l : Launch} {M : z_M} {out : Int32} (h : F_X3_soundingSteps M = some out) : z_Met G l yX3_soundingSteps cX3_soundingSteps 5 (some .int) 4 [.ref (z_ad G 15 0)] M (some (.int out)) M := by
  unfold F_X3_soundingSteps at h
  refine z_met_of (by decide) rfl (Nat.le_of_ble_eq_true rfl) (fun p e s m below meth c ls hc hI hl => ?_)
  obtain ⟨⟨hx, hb, hml, hown, hts⟩, hr, hlk⟩ := id hc
  have hl : lv_has ls 5 [(0, .ref (z_ad G 15 0))] := hl
  refine lv_iconst (v := 0) hx hb dX3_soundingSteps_0 (by decide) ?_
  refine lv_istore_n (lv' := [(1, .int 0), (0, .ref (z_ad G 15 0))]) hx hb dX3_soundingSteps_1 rfl hl (by decide) rfl (fun ls hl => ?_)
  refine lv_iconst (v := 0) hx hb dX3_soundingSteps_2 (by decide) ?_
  refine lv_istore_n (lv' := [(2, .int 0), (1, .int 0), (0, .ref (z_ad G 15 0))]) hx hb dX3_soundingSteps_3 rfl hl (by decide) rfl (fun ls hl => ?_)
  exact w_X3_soundingSteps_b4 hc _ 0 0 _ _ _ h hI (lv_sub hl [2, 1, 0] rfl)
set_option maxRecDepth 100000 in
set_option maxHeartbeats 4000000 in
theorem w_X3_weeksBy_b126 (hc : z_C p s m args meth c RX3 cX3_weeksBy 10 (some .int)) {out : (Int32 × z_M)} {K43 : Int32 → Int32 → Int32 → Int32 → Int64 → Int32 → Int32 → z_M → Option (Int32 × z_M)} (hK43 : ∀ (v1 : Int32) (v3 : Int32) (v4 : Int32) (v5 : Int32) (v6 : Int64) (v8 : Int32) (v9 : Int32) (M : z_M) (H : Heap) (locs : List Loc) (ls : Array Slot), K43 v1 v3 v4 v5 v6 v8 v9 M = some out → z_I G s M H locs → lv_has ls 10 [(0, .ref (z_ad G 15 0)), (1, .int v1), (3, .int v3), (4, .int v4), (5, .int v5), (6, .long v6), (8, .int v8), (9, .int v9)] → W p l e (z_rm 5) s m args below meth c H locs 0 0 (MQ below (z_Q G (some (.int out.1)) out.2) args s 0 0 (z_A G)) (F0 m 43 ls [])) (v1 : Int32) (v3 : Int32) (v4 : Int32) (v5 : Int32) (v6 : Int64) (v8 : Int32) (v9 : Int32) (M : z_M) (H : Heap) (locs : List Loc) (ls : Array Slot) (h : F_X3_weeksBy_b126 K43 v1 v3 v4 v5 v6 v8 v9 M = some out) (hI : z_I G s M H locs) (hl : lv_has ls 10 [(0, .ref (z_ad G 15 0)), (1, .int v1), (3, .int v3), (4, .int v4), (5, .int v5), (6, .long v6), (8, .int v8), (9, .int v9)]) : W p l e (z_rm 5) s m args below meth c H locs 0 0 (MQ below (z_Q G (some (.int out.1)) out.2) args s 0 0 (z_A G)) (F0 m 126 ls []) := by
  obtain ⟨⟨hx, hb, hml, hown, hts⟩, hr, hlk⟩ := id hc
  unfold F_X3_weeksBy_b126 at h
  refine lv_iload hx hb dX3_weeksBy_126 (lv_at hl 6 rfl) ?_
  refine lv_aload_n hx hb dX3_weeksBy_128 rfl (lv_at hl 0 rfl) ?_
  obtain ⟨q15, e16, h⟩ := z_bnd h
  refine iv_X3_174 hc hI (c_X3_soundingSteps e16) (z_room (by decide) (by decide)) hl.1 (Nat.le_of_ble_eq_true rfl) ⟨Nat.zero_le _, Nat.zero_le _⟩ dX3_weeksBy_129 (fun H locs hI => ?_)
  refine lv_iadd hx hb dX3_weeksBy_132 ?_
  refine z_nI h (fun x17 h => ?_)
  refine lv_istore (lv' := [(8, .int x17), (0, .ref (z_ad G 15 0)), (1, .int v1), (3, .int v3), (4, .int v4), (5, .int v5), (6, .long v6), (9, .int v9)]) hx hb dX3_weeksBy_133 hl (by decide) rfl (fun ls hl => ?_)
  refine lv_aload_n hx hb dX3_weeksBy_135 rfl (lv_at hl 1 rfl) ?_
  refine gf_X3_12 hc hI dX3_weeksBy_136 ?_
  obtain ⟨q18, e19, h⟩ := z_bnd h
  refine iv_X3_37 (by decide) hc hI (c_X5_passDay (by decide) e19) (z_room (by decide) (by decide)) hl.1 (Nat.le_of_ble_eq_true rfl) ⟨Nat.zero_le _, Nat.zero_le _⟩ dX3_weeksBy_139 (fun H locs hI => ?_)
  refine lv_iinc (v := v9 + 1) (lv' := [(9, .int (v9 + 1)), (8, .int x17), (0, .ref (z_ad G 15 0)), (1, .int v1), (3, .int v3), (4, .int v4), (5, .int v5), (6, .long v6)]) hx hb dX3_weeksBy_142 hl (k := 7) rfl rfl (by decide) rfl (fun ls hl => ?_)
  refine lv_goto (tgt := 43) hx hb dX3_weeksBy_145 (by decide) ?_
  exact hK43 v1 v3 v4 v5 v6 x17 (v9 + 1) _ _ _ _ h hI (lv_sub hl [2, 3, 4, 5, 6, 7, 1, 0] rfl)
set_option maxRecDepth 100000 in
set_option maxHeartbeats 4000000 in
theorem w_X3_weeksBy_b93 (hc : z_C p s m args meth c RX3 cX3_weeksBy 10 (some .int)) {out : (Int32 × z_M)} {K43 : Int32 → Int32 → Int32 → Int32 → Int64 → Int32 → Int32 → z_M → Option (Int32 × z_M)} (hK43 : ∀ (v1 : Int32) (v3 : Int32) (v4 : Int32) (v5 : Int32) (v6 : Int64) (v8 : Int32) (v9 : Int32) (M : z_M) (H : Heap) (locs : List Loc) (ls : Array Slot), K43 v1 v3 v4 v5 v6 v8 v9 M = some out → z_I G s M H locs → lv_has ls 10 [(0, .ref (z_ad G 15 0)), (1, .int v1), (3, .int v3), (4, .int v4), (5, .int v5), (6, .long v6), (8, .int v8), (9, .int v9)] → W p l e (z_rm 5) s m args below meth c H locs 0 0 (MQ below (z_Q G (some (.int out.1)) out.2) args s 0 0 (z_A G)) (F0 m 43 ls [])) (v1 : Int32) (v3 : Int32) (v4 : Int32) (v5 : Int32) (v6 : Int64) (v8 : Int32) (v9 : Int32) (M : z_M) (H : Heap) (locs : List Loc) (ls : Array Slot) (h : F_X3_weeksBy_b93 K43 v1 v3 v4 v5 v6 v8 v9 M = some out) (hI : z_I G s M H locs) (hl : lv_has ls 10 [(0, .ref (z_ad G 15 0)), (1, .int v1), (3, .int v3), (4, .int v4), (5, .int v5), (6, .long v6), (8, .int v8), (9, .int v9)]) : W p l e (z_rm 5) s m args below meth c H locs 0 0 (MQ below (z_Q G (some (.int out.1)) out.2) args s 0 0 (z_A G)) (F0 m 93 ls []) := by
  obtain ⟨⟨hx, hb, hml, hown, hts⟩, hr, hlk⟩ := id hc
  unfold F_X3_weeksBy_b93 at h
  refine lv_lload hx hb dX3_weeksBy_93 (lv_at hl 5 rfl) ?_
  refine lv_ldc2 (v := 4) hx hb hown (hts _ wd_4_53) dX3_weeksBy_95 ?_
  refine lv_lrem hx hb dX3_weeksBy_98 (by decide) ?_
  refine lv_lconst (v := 0) hx hb dX3_weeksBy_99 (by decide) ?_
  refine W.lcmp hx hb dX3_weeksBy_100 ?_
  refine lv_if_ne (tgt := 126) hx hb dX3_weeksBy_101 (by decide) (fun c14 => ?_) (fun c14 => ?_)
  · replace h := z_iff h c14
    exact w_X3_weeksBy_b126 hc hK43 v1 v3 v4 v5 v6 v8 v9 _ _ _ _ h hI hl
  · replace h := z_ift h c14
    refine lv_aload_n hx hb dX3_weeksBy_104 rfl (lv_at hl 0 rfl) ?_
    refine gf_X3_12 hc hI dX3_weeksBy_105 ?_
    refine lv_lload hx hb dX3_weeksBy_108 (lv_at hl 5 rfl) ?_
    refine lv_iload hx hb dX3_weeksBy_110 (lv_at hl 4 rfl) ?_
    refine lv_i2l (v := v5.toInt64) hx hb dX3_weeksBy_112 rfl ?_
    obtain ⟨g20, h⟩ := z_grd_some h
    refine lv_lrem hx hb dX3_weeksBy_113 g20 ?_
    refine lv_l2i (v := (v6 - v6 / v5.toInt64 * v5.toInt64).toInt32) hx hb dX3_weeksBy_114 rfl ?_
    refine lv_iconst (v := 3) hx hb dX3_weeksBy_115 (by decide) ?_
    refine lv_lload hx hb dX3_weeksBy_116 (lv_at hl 5 rfl) ?_
    refine lv_ldc2 (v := 21) hx hb hown (hts _ wd_4_54) dX3_weeksBy_118 ?_
    refine lv_lrem hx hb dX3_weeksBy_121 (by decide) ?_
    refine lv_l2i (v := (v6 - v6 / 21 * 21).toInt32) hx hb dX3_weeksBy_122 rfl ?_
    obtain ⟨q21, e22, h⟩ := z_bnd h
    refine iv_X3_128 (by decide) hc hI (c_X5_setPart (by decide) e22) (z_room (by decide) (by decide)) hl.1 (Nat.le_of_ble_eq_true rfl) ⟨Nat.zero_le _, Nat.zero_le _⟩ dX3_weeksBy_123 (fun H locs hI => ?_)
    exact w_X3_weeksBy_b126 hc hK43 v1 v3 v4 v5 v6 v8 v9 _ _ _ _ h hI hl
set_option maxRecDepth 100000 in
set_option maxHeartbeats 4000000 in
theorem w_X3_weeksBy_b43 (hc : z_C p s m args meth c RX3 cX3_weeksBy 10 (some .int)) {out : (Int32 × z_M)} : ∀ (n : Nat) (v1 : Int32) (v3 : Int32) (v4 : Int32) (v5 : Int32) (v6 : Int64) (v8 : Int32) (v9 : Int32) (M : z_M) (H : Heap) (locs : List Loc) (ls : Array Slot) (h : F_X3_weeksBy_b43 n v1 v3 v4 v5 v6 v8 v9 M = some out) (hI : z_I G s M H locs) (hl : lv_has ls 10 [(0, .ref (z_ad G 15 0)), (1, .int v1), (3, .int v3), (4, .int v4), (5, .int v5), (6, .long v6), (8, .int v8), (9, .int v9)]), W p l e (z_rm 5) s m args below meth c H locs 0 0 (MQ below (z_Q G (some (.int out.1)) out.2) args s 0 0 (z_A G)) (F0 m 43 ls []) := by
  obtain ⟨⟨hx, hb, hml, hown, hts⟩, hr, hlk⟩ := id hc
  intro n
  induction n with
  | zero => intro v1 v3 v4 v5 v6 v8 v9 M H locs ls h; cases h
  | succ n ih =>
    intro v1 v3 v4 v5 v6 v8 v9 M H locs ls h hI hl
    rw [F_X3_weeksBy_b43] at h
    refine lv_iload hx hb dX3_weeksBy_43 (lv_at hl 7 rfl) ?_
    refine lv_iload_n hx hb dX3_weeksBy_45 rfl (lv_at hl 1 rfl) ?_
    refine lv_icmp_ge (tgt := 148) hx hb dX3_weeksBy_46 (by decide) (fun c8 => ?_) (fun c8 => ?_)
    · replace h := z_ift h c8
      refine lv_iload_n hx hb dX3_weeksBy_148 rfl (lv_at hl 2 rfl) ?_
      refine lv_if_ne (tgt := 157) hx hb dX3_weeksBy_149 (by decide) (fun c9 => ?_) (fun c9 => ?_)
      · replace h := z_iff h c9
        refine lv_aload_n hx hb dX3_weeksBy_157 rfl (lv_at hl 0 rfl) ?_
        refine gf_X3_12 hc hI dX3_weeksBy_158 ?_
        obtain ⟨q10, e11, h⟩ := z_bnd h
        refine iv_X3_177 (by decide) hc hI (c_X5_tonesTogether (by decide) e11) (z_room (by decide) (by decide)) hl.1 (Nat.le_of_ble_eq_true rfl) ⟨Nat.zero_le _, Nat.zero_le _⟩ dX3_weeksBy_161 (fun H locs hI => ?_)
        obtain rfl := Option.some.inj h
        exact z_ri hc hI dX3_weeksBy_164
      · replace h := z_ift h c9
        refine lv_iload hx hb dX3_weeksBy_152 (lv_at hl 6 rfl) ?_
        refine lv_goto (tgt := 164) hx hb dX3_weeksBy_154 (by decide) ?_
        obtain rfl := Option.some.inj h
        exact z_ri hc hI dX3_weeksBy_164
    · replace h := z_iff h c8
      refine lv_lload hx hb dX3_weeksBy_49 (lv_at hl 5 rfl) ?_
      refine lv_ldc2 (v := 16807) hx hb hown (hts _ wd_4_50) dX3_weeksBy_51 ?_
      refine lv_lmul hx hb dX3_weeksBy_54 ?_
      refine lv_ldc2 (v := 2147483647) hx hb hown (hts _ wd_4_51) dX3_weeksBy_55 ?_
      refine lv_lrem hx hb dX3_weeksBy_58 (by decide) ?_
      refine z_nL h (fun x12 h => ?_)
      refine lv_lstore (lv' := [(6, .long x12), (0, .ref (z_ad G 15 0)), (1, .int v1), (3, .int v3), (4, .int v4), (5, .int v5), (8, .int v8), (9, .int v9)]) hx hb dX3_weeksBy_59 hl (by decide) rfl (fun ls hl => ?_)
      refine lv_lload hx hb dX3_weeksBy_61 (lv_at hl 0 rfl) ?_
      refine lv_ldc2 (v := 3) hx hb hown (hts _ wd_4_52) dX3_weeksBy_63 ?_
      refine lv_lrem hx hb dX3_weeksBy_66 (by decide) ?_
      refine lv_lconst (v := 0) hx hb dX3_weeksBy_67 (by decide) ?_
      refine W.lcmp hx hb dX3_weeksBy_68 ?_
      refine lv_if_ne (tgt := 93) hx hb dX3_weeksBy_69 (by decide) (fun c13 => ?_) (fun c13 => ?_)
      · replace h := z_iff h c13
        exact w_X3_weeksBy_b93 hc ih v1 v3 v4 v5 x12 v8 v9 _ _ _ _ h hI (lv_sub hl [1, 2, 3, 4, 5, 0, 6, 7] rfl)
      · replace h := z_ift h c13
        refine lv_aload_n hx hb dX3_weeksBy_72 rfl (lv_at hl 1 rfl) ?_
        refine gf_X3_12 hc hI dX3_weeksBy_73 ?_
        refine lv_lload hx hb dX3_weeksBy_76 (lv_at hl 0 rfl) ?_
        refine lv_iload hx hb dX3_weeksBy_78 (lv_at hl 4 rfl) ?_
        refine lv_i2l (v := v4.toInt64) hx hb dX3_weeksBy_80 rfl ?_
        obtain ⟨g23, h⟩ := z_grd_some h
        refine lv_lrem hx hb dX3_weeksBy_81 g23 ?_
        refine lv_l2i (v := (x12 - x12 / v4.toInt64 * v4.toInt64).toInt32) hx hb dX3_weeksBy_82 rfl ?_
        refine lv_lload hx hb dX3_weeksBy_83 (lv_at hl 0 rfl) ?_
        refine lv_ldc2 (v := 10) hx hb hown (hts _ wd_4_35) dX3_weeksBy_85 ?_
        refine lv_lrem hx hb dX3_weeksBy_88 (by decide) ?_
        refine lv_l2i (v := (x12 - x12 / 10 * 10).toInt32) hx hb dX3_weeksBy_89 rfl ?_
        obtain ⟨q24, e25, h⟩ := z_bnd h
        refine iv_X3_115 (by decide) hc hI (c_X5_planeTo (by decide) e25) (z_room (by decide) (by decide)) hl.1 (Nat.le_of_ble_eq_true rfl) ⟨Nat.zero_le _, Nat.zero_le _⟩ dX3_weeksBy_90 (fun H locs hI => ?_)
        exact w_X3_weeksBy_b93 hc ih v1 v3 v4 v5 x12 v8 v9 _ _ _ _ h hI (lv_sub hl [1, 2, 3, 4, 5, 0, 6, 7] rfl)
set_option maxRecDepth 100000 in
set_option maxHeartbeats 4000000 in
theorem c_X3_weeksBy {G : z_G} {l : Launch} {a1 : Int32} {a2 : Int32} {a3 : Int32} {M : z_M} {out : (Int32 × z_M)} (h : F_X3_weeksBy a1 a2 a3 M = some out) : z_Met G l yX3_weeksBy cX3_weeksBy 10 (some .int) 5 [.ref (z_ad G 15 0), .int a1, .int a2, .int a3] M (some (.int out.1)) out.2 := by
  unfold F_X3_weeksBy at h
  refine z_met_of (by decide) rfl (Nat.le_of_ble_eq_true rfl) (fun p e s m below meth c ls hc hI hl => ?_)
  obtain ⟨⟨hx, hb, hml, hown, hts⟩, hr, hlk⟩ := id hc
  have hl : lv_has ls 10 [(0, .ref (z_ad G 15 0)), (1, .int a1), (2, .int a2), (3, .int a3)] := hl
  refine lv_aload_n hx hb dX3_weeksBy_0 rfl (lv_at hl 0 rfl) ?_
  refine gf_X3_12 hc hI dX3_weeksBy_1 ?_
  obtain ⟨q1, e2, h⟩ := z_bnd h
  refine iv_X3_77 (by decide) hc hI (c_X5_treadCount (by decide) e2) (z_room (by decide) (by decide)) hl.1 (Nat.le_of_ble_eq_true rfl) ⟨Nat.zero_le _, Nat.zero_le _⟩ dX3_weeksBy_4 (fun H locs hI => ?_)
  refine lv_istore (lv' := [(4, .int q1), (0, .ref (z_ad G 15 0)), (1, .int a1), (2, .int a2), (3, .int a3)]) hx hb dX3_weeksBy_7 hl (by decide) rfl (fun ls hl => ?_)
  refine lv_aload_n hx hb dX3_weeksBy_9 rfl (lv_at hl 1 rfl) ?_
  refine gf_X3_12 hc hI dX3_weeksBy_10 ?_
  obtain ⟨q3, e4, h⟩ := z_bnd h
  refine iv_X3_65 (by decide) hc hI (c_X5_walkerCount (by decide) e4) (z_room (by decide) (by decide)) hl.1 (Nat.le_of_ble_eq_true rfl) ⟨Nat.zero_le _, Nat.zero_le _⟩ dX3_weeksBy_13 (fun H locs hI => ?_)
  refine lv_istore (lv' := [(5, .int q3), (4, .int q1), (0, .ref (z_ad G 15 0)), (1, .int a1), (2, .int a2), (3, .int a3)]) hx hb dX3_weeksBy_16 hl (by decide) rfl (fun ls hl => ?_)
  refine lv_iload hx hb dX3_weeksBy_18 (lv_at hl 1 rfl) ?_
  refine lv_iconst (v := 1) hx hb dX3_weeksBy_20 (by decide) ?_
  refine lv_icmp_lt (tgt := 30) hx hb dX3_weeksBy_21 (by decide) (fun c5 => ?_) (fun c5 => ?_)
  · replace h := z_ift h c5
    refine lv_ldc (v := (-1000000)) hx hb hown (hts _ wd_3_103) dX3_weeksBy_30 ?_
    obtain rfl := Option.some.inj h
    exact z_ri hc hI dX3_weeksBy_32
  · replace h := z_iff h c5
    refine lv_iload hx hb dX3_weeksBy_24 (lv_at hl 0 rfl) ?_
    refine lv_iconst (v := 1) hx hb dX3_weeksBy_26 (by decide) ?_
    refine lv_icmp_ge (tgt := 33) hx hb dX3_weeksBy_27 (by decide) (fun c6 => ?_) (fun c6 => ?_)
    · replace h := z_ift h c6
      refine lv_iload_n hx hb dX3_weeksBy_33 rfl (lv_at hl 4 rfl) ?_
      refine lv_i2l (v := a2.toInt64) hx hb dX3_weeksBy_34 rfl ?_
      refine z_nL h (fun x7 h => ?_)
      refine lv_lstore (lv' := [(6, .long x7), (5, .int q3), (4, .int q1), (0, .ref (z_ad G 15 0)), (1, .int a1), (2, .int a2), (3, .int a3)]) hx hb dX3_weeksBy_35 hl (by decide) rfl (fun ls hl => ?_)
      refine lv_iconst (v := 0) hx hb dX3_weeksBy_37 (by decide) ?_
      refine lv_istore (lv' := [(8, .int 0), (6, .long x7), (5, .int q3), (4, .int q1), (0, .ref (z_ad G 15 0)), (1, .int a1), (2, .int a2), (3, .int a3)]) hx hb dX3_weeksBy_38 hl (by decide) rfl (fun ls hl => ?_)
      refine lv_iconst (v := 0) hx hb dX3_weeksBy_40 (by decide) ?_
      refine lv_istore (lv' := [(9, .int 0), (8, .int 0), (6, .long x7), (5, .int q3), (4, .int q1), (0, .ref (z_ad G 15 0)), (1, .int a1), (2, .int a2), (3, .int a3)]) hx hb dX3_weeksBy_41 hl (by decide) rfl (fun ls hl => ?_)
      exact w_X3_weeksBy_b43 hc _ a1 a3 q1 q3 x7 0 0 _ _ _ _ h hI (lv_sub hl [5, 6, 8, 4, 3, 2, 1, 0] rfl)
    · replace h := z_iff h c6
      refine lv_ldc (v := (-1000000)) hx hb hown (hts _ wd_3_103) dX3_weeksBy_30 ?_
      obtain rfl := Option.some.inj h
      exact z_ri hc hI dX3_weeksBy_32
end
