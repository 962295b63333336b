section
variable {p : Program} {l : Launch} {e : Env} {s : State} {m : MethodId} {args : Array Value} {below : List Frame} {meth : Method} {c : Code} {G : z_G}
set_option maxRecDepth 100000 in
set_option maxHeartbeats 4000000 in
theorem c_X4_isRow {G : z_G} {l : Launch} {a1 : Int32} {M : z_M} {out : Int32} (h : F_X4_isRow a1 M = some out) : z_Met G l yX4_isRow cX4_isRow 2 (some .boolean) 1 [.ref (z_ad G 1 0), .int a1] M (some (.int out)) M := by
  unfold F_X4_isRow at h
  refine z_met_of (by decide) rfl (Nat.le_of_ble_eq_true rfl) (fun p e s m below meth c ls hc hI hl => ?_)
  obtain ⟨⟨hx, hb, hml, hown, hts⟩, hr, hlk⟩ := id hc
  have hl : lv_has ls 2 [(0, .ref (z_ad G 1 0)), (1, .int a1)] := hl
  refine lv_iload_n hx hb dX4_isRow_0 rfl (lv_at hl 1 rfl) ?_
  refine lv_if_lt (tgt := 14) hx hb dX4_isRow_1 (by decide) (fun c1 => ?_) (fun c1 => ?_)
  · replace h := z_ift h c1
    refine lv_iconst (v := 0) hx hb dX4_isRow_14 (by decide) ?_
    obtain rfl := Option.some.inj h
    exact z_rz (x := 0) hc hI (by decide) dX4_isRow_15
  · replace h := z_iff h c1
    refine lv_iload_n hx hb dX4_isRow_4 rfl (lv_at hl 1 rfl) ?_
    refine lv_bipush (v := 8) hx hb dX4_isRow_5 (by decide) ?_
    refine lv_icmp_ge (tgt := 14) hx hb dX4_isRow_7 (by decide) (fun c2 => ?_) (fun c2 => ?_)
    · replace h := z_ift h c2
      refine lv_iconst (v := 0) hx hb dX4_isRow_14 (by decide) ?_
      obtain rfl := Option.some.inj h
      exact z_rz (x := 0) hc hI (by decide) dX4_isRow_15
    · replace h := z_iff h c2
      refine lv_iconst (v := 1) hx hb dX4_isRow_10 (by decide) ?_
      refine lv_goto (tgt := 15) hx hb dX4_isRow_11 (by decide) ?_
      obtain rfl := Option.some.inj h
      exact z_rz (x := 1) hc hI (by decide) dX4_isRow_15
set_option maxRecDepth 100000 in
set_option maxHeartbeats 4000000 in
theorem c_X4_isLane {G : z_G} {l : Launch} {a1 : Int32} {M : z_M} {out : Int32} (h : F_X4_isLane a1 M = some out) : z_Met G l yX4_isLane cX4_isLane 2 (some .boolean) 1 [.ref (z_ad G 1 0), .int a1] M (some (.int out)) M := by
  unfold F_X4_isLane at h
  refine z_met_of (by decide) rfl (Nat.le_of_ble_eq_true rfl) (fun p e s m below meth c ls hc hI hl => ?_)
  obtain ⟨⟨hx, hb, hml, hown, hts⟩, hr, hlk⟩ := id hc
  have hl : lv_has ls 2 [(0, .ref (z_ad G 1 0)), (1, .int a1)] := hl
  refine lv_iload_n hx hb dX4_isLane_0 rfl (lv_at hl 1 rfl) ?_
  refine lv_if_lt (tgt := 13) hx hb dX4_isLane_1 (by decide) (fun c1 => ?_) (fun c1 => ?_)
  · replace h := z_ift h c1
    refine lv_iconst (v := 0) hx hb dX4_isLane_13 (by decide) ?_
    obtain rfl := Option.some.inj h
    exact z_rz (x := 0) hc hI (by decide) dX4_isLane_14
  · replace h := z_iff h c1
    refine lv_iload_n hx hb dX4_isLane_4 rfl (lv_at hl 1 rfl) ?_
    refine lv_iconst (v := 3) hx hb dX4_isLane_5 (by decide) ?_
    refine lv_icmp_ge (tgt := 13) hx hb dX4_isLane_6 (by decide) (fun c2 => ?_) (fun c2 => ?_)
    · replace h := z_ift h c2
      refine lv_iconst (v := 0) hx hb dX4_isLane_13 (by decide) ?_
      obtain rfl := Option.some.inj h
      exact z_rz (x := 0) hc hI (by decide) dX4_isLane_14
    · replace h := z_iff h c2
      refine lv_iconst (v := 1) hx hb dX4_isLane_9 (by decide) ?_
      refine lv_goto (tgt := 14) hx hb dX4_isLane_10 (by decide) ?_
      obtain rfl := Option.some.inj h
      exact z_rz (x := 1) hc hI (by decide) dX4_isLane_14
set_option maxRecDepth 100000 in
set_option maxHeartbeats 4000000 in
theorem w_X4_isMissing_b17 {M : z_M} (hc : z_C p s m args meth c RX4 cX4_isMissing 2 (some .boolean)) {out : Int32} (H : Heap) (locs : List Loc) (ls : Array Slot) (h : F_X4_isMissing_b17 M = some out) (hI : z_I G s M H locs) (hl : lv_has ls 2 []) : W p l e (z_rm 2) s m args below meth c H locs 0 0 (MQ below (z_Q G (some (.int out)) M) args s 0 0 (z_A G)) (F0 m 17 ls []) := by
  obtain ⟨⟨hx, hb, hml, hown, hts⟩, hr, hlk⟩ := id hc
  unfold F_X4_isMissing_b17 at h
  refine lv_iconst (v := 1) hx hb dX4_isMissing_17 (by decide) ?_
  refine lv_goto (tgt := 22) hx hb dX4_isMissing_18 (by decide) ?_
  obtain rfl := Option.some.inj h
  exact z_rz (x := 1) hc hI (by decide) dX4_isMissing_22
set_option maxRecDepth 100000 in
set_option maxHeartbeats 4000000 in
theorem c_X4_isMissing {G : z_G} {l : Launch} {a1 : Int32} {M : z_M} {out : Int32} (h : F_X4_isMissing a1 M = some out) : z_Met G l yX4_isMissing cX4_isMissing 2 (some .boolean) 2 [.ref (z_ad G 1 0), .int a1] M (some (.int out)) M := by
  unfold F_X4_isMissing at h
  refine z_met_of (by decide) rfl (Nat.le_of_ble_eq_true rfl) (fun p e s m below meth c ls hc hI hl => ?_)
  obtain ⟨⟨hx, hb, hml, hown, hts⟩, hr, hlk⟩ := id hc
  have hl : lv_has ls 2 [(0, .ref (z_ad G 1 0)), (1, .int a1)] := hl
  refine lv_aload_n hx hb dX4_isMissing_0 rfl (lv_at hl 0 rfl) ?_
  refine lv_iload_n hx hb dX4_isMissing_1 rfl (lv_at hl 1 rfl) ?_
  obtain ⟨q1, e2, h⟩ := z_bnd h
  refine iv_X4_21 hc hI (c_X4_isRow e2) (z_room (by decide) (by decide)) hl.1 (Nat.le_of_ble_eq_true rfl) ⟨Nat.zero_le _, Nat.zero_le _⟩ dX4_isMissing_2 (fun H locs hI => ?_)
  refine lv_if_eq (tgt := 17) hx hb dX4_isMissing_5 (by decide) (fun c3 => ?_) (fun c3 => ?_)
  · replace h := z_ift h c3
    exact w_X4_isMissing_b17 hc _ _ _ h hI (lv_sub hl [] rfl)
  · replace h := z_iff h c3
    refine lv_aload_n hx hb dX4_isMissing_8 rfl (lv_at hl 0 rfl) ?_
    refine gf_X4_18 hc hI dX4_isMissing_9 ?_
    refine lv_iload_n hx hb dX4_isMissing_12 rfl (lv_at hl 1 rfl) ?_
    obtain ⟨g4, h⟩ := z_grd_some h
    refine ld_k4 hc hI g4 dX4_isMissing_13 ?_
    refine lv_if_ge (tgt := 21) hx hb dX4_isMissing_14 (by decide) (fun c5 => ?_) (fun c5 => ?_)
    · replace h := z_ift h c5
      refine lv_iconst (v := 0) hx hb dX4_isMissing_21 (by decide) ?_
      obtain rfl := Option.some.inj h
      exact z_rz (x := 0) hc hI (by decide) dX4_isMissing_22
    · replace h := z_iff h c5
      exact w_X4_isMissing_b17 hc _ _ _ h hI (lv_sub hl [] rfl)
set_option maxRecDepth 100000 in
set_option maxHeartbeats 4000000 in
theorem w_X4_rowCount_b22 {M : z_M} (hc : z_C p s m args meth c RX4 cX4_rowCount 3 (some .int)) {out : Int32} {K4 : Int32 → Int32 → Option Int32} (hK4 : ∀ (v1 : Int32) (v2 : Int32) (H : Heap) (locs : List Loc) (ls : Array Slot), K4 v1 v2 = some out → z_I G s M H locs → lv_has ls 3 [(0, .ref (z_ad G 1 0)), (1, .int v1), (2, .int v2)] → W p l e (z_rm 1) s m args below meth c H locs 0 0 (MQ below (z_Q G (some (.int out)) M) args s 0 0 (z_A G)) (F0 m 4 ls [])) (v1 : Int32) (v2 : Int32) (H : Heap) (locs : List Loc) (ls : Array Slot) (h : F_X4_rowCount_b22 M K4 v1 v2 = some out) (hI : z_I G s M H locs) (hl : lv_has ls 3 [(0, .ref (z_ad G 1 0)), (1, .int v1), (2, .int v2)]) : W p l e (z_rm 1) s m args below meth c H locs 0 0 (MQ below (z_Q G (some (.int out)) M) args s 0 0 (z_A G)) (F0 m 22 ls []) := by
  obtain ⟨⟨hx, hb, hml, hown, hts⟩, hr, hlk⟩ := id hc
  unfold F_X4_rowCount_b22 at h
  refine lv_iinc (v := v2 + 1) (lv' := [(2, .int (v2 + 1)), (0, .ref (z_ad G 1 0)), (1, .int v1)]) hx hb dX4_rowCount_22 hl (k := 2) rfl rfl (by decide) rfl (fun ls hl => ?_)
  refine lv_goto (tgt := 4) hx hb dX4_rowCount_25 (by decide) ?_
  exact hK4 v1 (v2 + 1) _ _ _ h hI (lv_sub hl [1, 2, 0] rfl)
set_option maxRecDepth 100000 in
set_option maxHeartbeats 4000000 in
theorem w_X4_rowCount_b4 {M : z_M} (hc : z_C p s m args meth c RX4 cX4_rowCount 3 (some .int)) {out : Int32} : ∀ (n : Nat) (v1 : Int32) (v2 : Int32) (H : Heap) (locs : List Loc) (ls : Array Slot) (h : F_X4_rowCount_b4 M n v1 v2 = some out) (hI : z_I G s M H locs) (hl : lv_has ls 3 [(0, .ref (z_ad G 1 0)), (1, .int v1), (2, .int v2)]), W p l e (z_rm 1) s m args below meth c H locs 0 0 (MQ below (z_Q G (some (.int out)) M) args s 0 0 (z_A G)) (F0 m 4 ls []) := by
  obtain ⟨⟨hx, hb, hml, hown, hts⟩, hr, hlk⟩ := id hc
  intro n
  induction n with
  | zero => intro v1 v2 H locs ls h; cases h
  | succ n ih =>
    intro v1 v2 H locs ls h hI hl
    rw [F_X4_rowCount_b4] at h
    refine lv_iload_n hx hb dX4_rowCount_4 rfl (lv_at hl 2 rfl) ?_
    refine lv_bipush (v := 8) hx hb dX4_rowCount_5 (by decide) ?_
    refine lv_icmp_ge (tgt := 28) hx hb dX4_rowCount_7 (by decide) (fun c1 => ?_) (fun c1 => ?_)
    · replace h := z_ift h c1
      refine lv_iload_n hx hb dX4_rowCount_28 rfl (lv_at hl 1 rfl) ?_
      obtain rfl := Option.some.inj h
      exact z_ri hc hI dX4_rowCount_29
    · replace h := z_iff h c1
      refine lv_aload_n hx hb dX4_rowCount_10 rfl (lv_at hl 0 rfl) ?_
      refine gf_X4_18 hc hI dX4_rowCount_11 ?_
      refine lv_iload_n hx hb dX4_rowCount_14 rfl (lv_at hl 2 rfl) ?_
      obtain ⟨g2, h⟩ := z_grd_some h
      refine ld_k4 hc hI g2 dX4_rowCount_15 ?_
      refine lv_if_lt (tgt := 22) hx hb dX4_rowCount_16 (by decide) (fun c3 => ?_) (fun c3 => ?_)
      · replace h := z_ift h c3
        exact w_X4_rowCount_b22 hc ih v1 v2 _ _ _ h hI hl
      · replace h := z_iff h c3
        refine lv_iinc (v := v1 + 1) (lv' := [(1, .int (v1 + 1)), (0, .ref (z_ad G 1 0)), (2, .int v2)]) hx hb dX4_rowCount_19 hl (k := 1) rfl rfl (by decide) rfl (fun ls hl => ?_)
        exact w_X4_rowCount_b22 hc ih (v1 + 1) v2 _ _ _ h hI (lv_sub hl [1, 0, 2] rfl)
set_option maxRecDepth 100000 in
set_option maxHeartbeats 4000000 in
theorem c_X4_rowCount {G : z_G} {l : Launch} {M : z_M} {out : Int32} (h : F_X4_rowCount M = some out) : z_Met G l yX4_rowCount cX4_rowCount 3 (some .int) 1 [.ref (z_ad G 1 0)] M (some (.int out)) M := by
  unfold F_X4_rowCount at h
  refine z_met_of (by decide) rfl (Nat.le_of_ble_eq_true rfl) (fun p e s m below meth c ls hc hI hl => ?_)
  obtain ⟨⟨hx, hb, hml, hown, hts⟩, hr, hlk⟩ := id hc
  have hl : lv_has ls 3 [(0, .ref (z_ad G 1 0))] := hl
  refine lv_iconst (v := 0) hx hb dX4_rowCount_0 (by decide) ?_
  refine lv_istore_n (lv' := [(1, .int 0), (0, .ref (z_ad G 1 0))]) hx hb dX4_rowCount_1 rfl hl (by decide) rfl (fun ls hl => ?_)
  refine lv_iconst (v := 0) hx hb dX4_rowCount_2 (by decide) ?_
  refine lv_istore_n (lv' := [(2, .int 0), (1, .int 0), (0, .ref (z_ad G 1 0))]) hx hb dX4_rowCount_3 rfl hl (by decide) rfl (fun ls hl => ?_)
  exact w_X4_rowCount_b4 hc _ 0 0 _ _ _ h hI (lv_sub hl [2, 1, 0] rfl)
set_option maxRecDepth 100000 in
set_option maxHeartbeats 4000000 in
theorem w_X4_findingOf_b45 {M : z_M} (hc : z_C p s m args meth c RX4 cX4_findingOf 5 (some .int)) {out : Int32} (s0 : Int32) (H : Heap) (locs : List Loc) (ls : Array Slot) (h : F_X4_findingOf_b45 M s0 = some out) (hI : z_I G s M H locs) (hl : lv_has ls 5 []) : W p l e (z_rm 3) s m args below meth c H locs 0 0 (MQ below (z_Q G (some (.int out)) M) args s 0 0 (z_A G)) (F0 m 45 ls [.int s0]) := by
  obtain ⟨⟨hx, hb, hml, hown, hts⟩, hr, hlk⟩ := id hc
  unfold F_X4_findingOf_b45 at h
  refine lv_istore (lv' := [(4, .int s0)]) hx hb dX4_findingOf_45 hl (by decide) rfl (fun ls hl => ?_)
  refine lv_iload hx hb dX4_findingOf_47 (lv_at hl 0 rfl) ?_
  refine lv_if_eq (tgt := 56) hx hb dX4_findingOf_49 (by decide) (fun c5 => ?_) (fun c5 => ?_)
  · replace h := z_ift h c5
    refine lv_iconst (v := 2) hx hb dX4_findingOf_56 (by decide) ?_
    obtain rfl := Option.some.inj h
    exact z_ri hc hI dX4_findingOf_57
  · replace h := z_iff h c5
    refine lv_iconst (v := 0) hx hb dX4_findingOf_52 (by decide) ?_
    refine lv_goto (tgt := 57) hx hb dX4_findingOf_53 (by decide) ?_
    obtain rfl := Option.some.inj h
    exact z_ri hc hI dX4_findingOf_57
set_option maxRecDepth 100000 in
set_option maxHeartbeats 4000000 in
theorem w_X4_findingOf_b44 {M : z_M} (hc : z_C p s m args meth c RX4 cX4_findingOf 5 (some .int)) {out : Int32} (H : Heap) (locs : List Loc) (ls : Array Slot) (h : F_X4_findingOf_b44 M = some out) (hI : z_I G s M H locs) (hl : lv_has ls 5 []) : W p l e (z_rm 3) s m args below meth c H locs 0 0 (MQ below (z_Q G (some (.int out)) M) args s 0 0 (z_A G)) (F0 m 44 ls []) := by
  obtain ⟨⟨hx, hb, hml, hown, hts⟩, hr, hlk⟩ := id hc
  unfold F_X4_findingOf_b44 at h
  refine lv_iconst (v := 0) hx hb dX4_findingOf_44 (by decide) ?_
  exact w_X4_findingOf_b45 hc 0 _ _ _ h hI hl
set_option maxRecDepth 100000 in
set_option maxHeartbeats 4000000 in
theorem c_X4_findingOf {G : z_G} {l : Launch} {a1 : Int32} {a2 : Int32} {a3 : Int32} {M : z_M} {out : Int32} (h : F_X4_findingOf a1 a2 a3 M = some out) : z_Met G l yX4_findingOf cX4_findingOf 5 (some .int) 3 [.ref (z_ad G 1 0), .int a1, .int a2, .int a3] M (some (.int out)) M := by
  unfold F_X4_findingOf at h
  refine z_met_of (by decide) rfl (Nat.le_of_ble_eq_true rfl) (fun p e s m below meth c ls hc hI hl => ?_)
  obtain ⟨⟨hx, hb, hml, hown, hts⟩, hr, hlk⟩ := id hc
  have hl : lv_has ls 5 [(0, .ref (z_ad G 1 0)), (1, .int a1), (2, .int a2), (3, .int a3)] := hl
  refine lv_aload_n hx hb dX4_findingOf_0 rfl (lv_at hl 0 rfl) ?_
  refine lv_iload_n hx hb dX4_findingOf_1 rfl (lv_at hl 1 rfl) ?_
  obtain ⟨q1, e2, h⟩ := z_bnd h
  refine iv_X4_25 hc hI (c_X4_isMissing e2) (z_room (by decide) (by decide)) hl.1 (Nat.le_of_ble_eq_true rfl) ⟨Nat.zero_le _, Nat.zero_le _⟩ dX4_findingOf_2 (fun H locs hI => ?_)
  refine lv_if_eq (tgt := 10) hx hb dX4_findingOf_5 (by decide) (fun c3 => ?_) (fun c3 => ?_)
  · replace h := z_ift h c3
    refine lv_iload_n hx hb dX4_findingOf_10 rfl (lv_at hl 2 rfl) ?_
    refine lv_if_lt (tgt := 44) hx hb dX4_findingOf_11 (by decide) (fun c4 => ?_) (fun c4 => ?_)
    · replace h := z_ift h c4
      exact w_X4_findingOf_b44 hc _ _ _ h hI (lv_sub hl [] rfl)
    · replace h := z_iff h c4
      refine lv_iload_n hx hb dX4_findingOf_14 rfl (lv_at hl 3 rfl) ?_
      refine lv_if_lt (tgt := 44) hx hb dX4_findingOf_15 (by decide) (fun c6 => ?_) (fun c6 => ?_)
      · replace h := z_ift h c6
        exact w_X4_findingOf_b44 hc _ _ _ h hI (lv_sub hl [] rfl)
      · replace h := z_iff h c6
        refine lv_iload_n hx hb dX4_findingOf_18 rfl (lv_at hl 3 rfl) ?_
        refine lv_aload_n hx hb dX4_findingOf_19 rfl (lv_at hl 0 rfl) ?_
        refine gf_X4_18 hc hI dX4_findingOf_20 ?_
        refine lv_iload_n hx hb dX4_findingOf_23 rfl (lv_at hl 1 rfl) ?_
        obtain ⟨g7, h⟩ := z_grd_some h
        refine ld_k4 hc hI g7 dX4_findingOf_24 ?_
        refine lv_icmp_gt (tgt := 44) hx hb dX4_findingOf_25 (by decide) (fun c8 => ?_) (fun c8 => ?_)
        · replace h := z_ift h c8
          exact w_X4_findingOf_b44 hc _ _ _ h hI (lv_sub hl [] rfl)
        · replace h := z_iff h c8
          refine lv_iload_n hx hb dX4_findingOf_28 rfl (lv_at hl 2 rfl) ?_
          refine lv_aload_n hx hb dX4_findingOf_29 rfl (lv_at hl 0 rfl) ?_
          refine gf_X4_18 hc hI dX4_findingOf_30 ?_
          refine lv_iload_n hx hb dX4_findingOf_33 rfl (lv_at hl 1 rfl) ?_
          obtain ⟨g9, h⟩ := z_grd_some h
          refine ld_k4 hc hI g9 dX4_findingOf_34 ?_
          refine lv_iload_n hx hb dX4_findingOf_35 rfl (lv_at hl 3 rfl) ?_
          refine lv_isub hx hb dX4_findingOf_36 ?_
          refine lv_icmp_gt (tgt := 44) hx hb dX4_findingOf_37 (by decide) (fun c10 => ?_) (fun c10 => ?_)
          · replace h := z_ift h c10
            exact w_X4_findingOf_b44 hc _ _ _ h hI (lv_sub hl [] rfl)
          · replace h := z_iff h c10
            refine lv_iconst (v := 1) hx hb dX4_findingOf_40 (by decide) ?_
            refine lv_goto (tgt := 45) hx hb dX4_findingOf_41 (by decide) ?_
            exact w_X4_findingOf_b45 hc 1 _ _ _ h hI (lv_sub hl [] rfl)
  · replace h := z_iff h c3
    refine lv_iconst (v := 1) hx hb dX4_findingOf_8 (by decide) ?_
    obtain rfl := Option.some.inj h
    exact z_ri hc hI dX4_findingOf_9
set_option maxRecDepth 100000 in
set_option maxHeartbeats 4000000 in
theorem c_X4_findingOfCopy {G : z_G} {l : Launch} {a1 : Int32} {a2 : Int32} {a3 : Int32} {a4 : Int32} {a5 : Int32} {M : z_M} {out : Int32} (h : F_X4_findingOfCopy a1 a2 a3 a4 a5 M = some out) : z_Met G l yX4_findingOfCopy cX4_findingOfCopy 7 (some .int) 4 [.ref (z_ad G 1 0), .int a1, .int a2, .int a3, .int a4, .int a5] M (some (.int out)) M := by
  unfold F_X4_findingOfCopy at h
  refine z_met_of (by decide) rfl (Nat.le_of_ble_eq_true rfl) (fun p e s m below meth c ls hc hI hl => ?_)
  obtain ⟨⟨hx, hb, hml, hown, hts⟩, hr, hlk⟩ := id hc
  have hl : lv_has ls 7 [(0, .ref (z_ad G 1 0)), (1, .int a1), (2, .int a2), (3, .int a3), (4, .int a4), (5, .int a5)] := hl
  refine lv_aload_n hx hb dX4_findingOfCopy_0 rfl (lv_at hl 0 rfl) ?_
  refine lv_iload_n hx hb dX4_findingOfCopy_1 rfl (lv_at hl 1 rfl) ?_
  obtain ⟨q1, e2, h⟩ := z_bnd h
  refine iv_X4_25 hc hI (c_X4_isMissing e2) (z_room (by decide) (by decide)) hl.1 (Nat.le_of_ble_eq_true rfl) ⟨Nat.zero_le _, Nat.zero_le _⟩ dX4_findingOfCopy_2 (fun H locs hI => ?_)
  refine lv_if_ne (tgt := 16) hx hb dX4_findingOfCopy_5 (by decide) (fun c3 => ?_) (fun c3 => ?_)
  · replace h := z_iff h c3
    refine lv_iconst (v := 1) hx hb dX4_findingOfCopy_16 (by decide) ?_
    obtain rfl := Option.some.inj h
    exact z_ri hc hI dX4_findingOfCopy_17
  · replace h := z_ift h c3
    refine lv_aload_n hx hb dX4_findingOfCopy_8 rfl (lv_at hl 0 rfl) ?_
    refine lv_iload_n hx hb dX4_findingOfCopy_9 rfl (lv_at hl 3 rfl) ?_
    obtain ⟨q4, e5, h⟩ := z_bnd h
    refine iv_X4_25 hc hI (c_X4_isMissing e5) (z_room (by decide) (by decide)) hl.1 (Nat.le_of_ble_eq_true rfl) ⟨Nat.zero_le _, Nat.zero_le _⟩ dX4_findingOfCopy_10 (fun H locs hI => ?_)
    refine lv_if_eq (tgt := 18) hx hb dX4_findingOfCopy_13 (by decide) (fun c6 => ?_) (fun c6 => ?_)
    · replace h := z_ift h c6
      refine lv_aload_n hx hb dX4_findingOfCopy_18 rfl (lv_at hl 0 rfl) ?_
      refine gf_X4_15 hc hI dX4_findingOfCopy_19 ?_
      refine lv_iload_n hx hb dX4_findingOfCopy_22 rfl (lv_at hl 1 rfl) ?_
      obtain ⟨g7, h⟩ := z_grd_some h
      refine ld_k3 hc hI g7 dX4_findingOfCopy_23 ?_
      refine lv_aload_n hx hb dX4_findingOfCopy_24 rfl (lv_at hl 0 rfl) ?_
      refine gf_X4_15 hc hI dX4_findingOfCopy_25 ?_
      refine lv_iload_n hx hb dX4_findingOfCopy_28 rfl (lv_at hl 3 rfl) ?_
      obtain ⟨g8, h⟩ := z_grd_some h
      refine ld_k3 hc hI g8 dX4_findingOfCopy_29 ?_
      refine lv_icmp_eq (tgt := 35) hx hb dX4_findingOfCopy_30 (by decide) (fun c9 => ?_) (fun c9 => ?_)
      · replace h := z_ift h c9
        refine lv_aload_n hx hb dX4_findingOfCopy_35 rfl (lv_at hl 0 rfl) ?_
        refine lv_iload_n hx hb dX4_findingOfCopy_36 rfl (lv_at hl 1 rfl) ?_
        refine lv_iload_n hx hb dX4_findingOfCopy_37 rfl (lv_at hl 2 rfl) ?_
        refine lv_iload hx hb dX4_findingOfCopy_38 (lv_at hl 5 rfl) ?_
        obtain ⟨q10, e11, h⟩ := z_bnd h
        refine iv_X4_28 hc hI (c_X4_findingOf e11) (z_room (by decide) (by decide)) hl.1 (Nat.le_of_ble_eq_true rfl) ⟨Nat.zero_le _, Nat.zero_le _⟩ dX4_findingOfCopy_40 (fun H locs hI => ?_)
        refine lv_istore (lv' := [(6, .int q10), (0, .ref (z_ad G 1 0)), (1, .int a1), (2, .int a2), (3, .int a3), (4, .int a4), (5, .int a5)]) hx hb dX4_findingOfCopy_43 hl (by decide) rfl (fun ls hl => ?_)
        refine lv_iload hx hb dX4_findingOfCopy_45 (lv_at hl 0 rfl) ?_
        refine lv_if_eq (tgt := 55) hx hb dX4_findingOfCopy_47 (by decide) (fun c12 => ?_) (fun c12 => ?_)
        · replace h := z_ift h c12
          refine lv_aload_n hx hb dX4_findingOfCopy_55 rfl (lv_at hl 1 rfl) ?_
          refine lv_iload_n hx hb dX4_findingOfCopy_56 rfl (lv_at hl 4 rfl) ?_
          refine lv_iload hx hb dX4_findingOfCopy_57 (lv_at hl 5 rfl) ?_
          refine lv_iload hx hb dX4_findingOfCopy_59 (lv_at hl 6 rfl) ?_
          obtain ⟨q13, e14, h⟩ := z_bnd h
          refine iv_X4_28 hc hI (c_X4_findingOf e14) (z_room (by decide) (by decide)) hl.1 (Nat.le_of_ble_eq_true rfl) ⟨Nat.zero_le _, Nat.zero_le _⟩ dX4_findingOfCopy_61 (fun H locs hI => ?_)
          obtain rfl := Option.some.inj h
          exact z_ri hc hI dX4_findingOfCopy_64
        · replace h := z_iff h c12
          refine lv_iload hx hb dX4_findingOfCopy_50 (lv_at hl 0 rfl) ?_
          refine lv_goto (tgt := 64) hx hb dX4_findingOfCopy_52 (by decide) ?_
          obtain rfl := Option.some.inj h
          exact z_ri hc hI dX4_findingOfCopy_64
      · replace h := z_iff h c9
        refine lv_iconst (v := 5) hx hb dX4_findingOfCopy_33 (by decide) ?_
        obtain rfl := Option.some.inj h
        exact z_ri hc hI dX4_findingOfCopy_34
    · replace h := z_iff h c6
      refine lv_iconst (v := 1) hx hb dX4_findingOfCopy_16 (by decide) ?_
      obtain rfl := Option.some.inj h
      exact z_ri hc hI dX4_findingOfCopy_17
set_option maxRecDepth 100000 in
set_option maxHeartbeats 4000000 in
theorem w_X4_lay_b38 (hc : z_C p s m args meth c RX4 cX4_lay 5 (some .int)) {out : (Int32 × z_M)} : ∀ (n : Nat) (v1 : Int32) (v3 : Int32) (v4 : Int32) (M : z_M) (H : Heap) (locs : List Loc) (ls : Array Slot) (h : F_X4_lay_b38 n v1 v3 v4 M = some out) (hI : z_I G s M H locs) (hl : lv_has ls 5 [(0, .ref (z_ad G 1 0)), (1, .int v1), (3, .int v3), (4, .int v4)]), W p l e (z_rm 2) s m args below meth c H locs 0 0 (MQ below (z_Q G (some (.int out.1)) out.2) args s 0 0 (z_A G)) (F0 m 38 ls []) := by
  obtain ⟨⟨hx, hb, hml, hown, hts⟩, hr, hlk⟩ := id hc
  intro n
  induction n with
  | zero => intro v1 v3 v4 M H locs ls h; cases h
  | succ n ih =>
    intro v1 v3 v4 M H locs ls h hI hl
    rw [F_X4_lay_b38] at h
    refine lv_iload hx hb dX4_lay_38 (lv_at hl 3 rfl) ?_
    refine lv_iload_n hx hb dX4_lay_40 rfl (lv_at hl 2 rfl) ?_
    refine lv_icmp_ge (tgt := 63) hx hb dX4_lay_41 (by decide) (fun c9 => ?_) (fun c9 => ?_)
    · replace h := z_ift h c9
      refine lv_iload_n hx hb dX4_lay_63 rfl (lv_at hl 2 rfl) ?_
      obtain rfl := Option.some.inj h
      exact z_ri hc hI dX4_lay_64
    · replace h := z_iff h c9
      refine lv_aload_n hx hb dX4_lay_44 rfl (lv_at hl 0 rfl) ?_
      refine gf_X4_11 hc hI dX4_lay_45 ?_
      refine lv_iload_n hx hb dX4_lay_48 rfl (lv_at hl 1 rfl) ?_
      refine lv_bipush (v := 40) hx hb dX4_lay_49 (by decide) ?_
      refine lv_imul hx hb dX4_lay_51 ?_
      refine lv_iload hx hb dX4_lay_52 (lv_at hl 3 rfl) ?_
      refine lv_iadd hx hb dX4_lay_54 ?_
      refine lv_iconst (v := 0) hx hb dX4_lay_55 (by decide) ?_
      obtain ⟨g10, h⟩ := z_grd_some h
      refine st_k2 hc hI g10 dX4_lay_56 (fun H locs hI => ?_)
      refine lv_iinc (v := v4 + 1) (lv' := [(4, .int (v4 + 1)), (0, .ref (z_ad G 1 0)), (1, .int v1), (3, .int v3)]) hx hb dX4_lay_57 hl (k := 3) rfl rfl (by decide) rfl (fun ls hl => ?_)
      refine lv_goto (tgt := 38) hx hb dX4_lay_60 (by decide) ?_
      exact ih v1 v3 (v4 + 1) _ _ _ _ h hI (lv_sub hl [1, 2, 3, 0] rfl)
set_option maxRecDepth 100000 in
set_option maxHeartbeats 4000000 in
theorem c_X4_lay {G : z_G} {l : Launch} {a1 : Int32} {a2 : Int32} {a3 : Int32} {M : z_M} {out : (Int32 × z_M)} (h : F_X4_lay a1 a2 a3 M = some out) : z_Met G l yX4_lay cX4_lay 5 (some .int) 2 [.ref (z_ad G 1 0), .int a1, .int a2, .int a3] M (some (.int out.1)) out.2 := by
  unfold F_X4_lay at h
  refine z_met_of (by decide) rfl (Nat.le_of_ble_eq_true rfl) (fun p e s m below meth c ls hc hI hl => ?_)
  obtain ⟨⟨hx, hb, hml, hown, hts⟩, hr, hlk⟩ := id hc
  have hl : lv_has ls 5 [(0, .ref (z_ad G 1 0)), (1, .int a1), (2, .int a2), (3, .int a3)] := hl
  refine lv_aload_n hx hb dX4_lay_0 rfl (lv_at hl 0 rfl) ?_
  refine lv_iload_n hx hb dX4_lay_1 rfl (lv_at hl 1 rfl) ?_
  obtain ⟨q1, e2, h⟩ := z_bnd h
  refine iv_X4_21 hc hI (c_X4_isRow e2) (z_room (by decide) (by decide)) hl.1 (Nat.le_of_ble_eq_true rfl) ⟨Nat.zero_le _, Nat.zero_le _⟩ dX4_lay_2 (fun H locs hI => ?_)
  refine lv_if_eq (tgt := 18) hx hb dX4_lay_5 (by decide) (fun c3 => ?_) (fun c3 => ?_)
  · replace h := z_ift h c3
    refine lv_ldc (v := (-1000001)) hx hb hown (hts _ wd_1_211) dX4_lay_18 ?_
    obtain rfl := Option.some.inj h
    exact z_ri hc hI dX4_lay_20
  · replace h := z_iff h c3
    refine lv_iload_n hx hb dX4_lay_8 rfl (lv_at hl 3 rfl) ?_
    refine lv_if_lt (tgt := 18) hx hb dX4_lay_9 (by decide) (fun c4 => ?_) (fun c4 => ?_)
    · replace h := z_ift h c4
      refine lv_ldc (v := (-1000001)) hx hb hown (hts _ wd_1_211) dX4_lay_18 ?_
      obtain rfl := Option.some.inj h
      exact z_ri hc hI dX4_lay_20
    · replace h := z_iff h c4
      refine lv_iload_n hx hb dX4_lay_12 rfl (lv_at hl 3 rfl) ?_
      refine lv_bipush (v := 40) hx hb dX4_lay_13 (by decide) ?_
      refine lv_icmp_le (tgt := 21) hx hb dX4_lay_15 (by decide) (fun c5 => ?_) (fun c5 => ?_)
      · replace h := z_ift h c5
        refine lv_aload_n hx hb dX4_lay_21 rfl (lv_at hl 0 rfl) ?_
        refine gf_X4_15 hc hI dX4_lay_22 ?_
        refine lv_iload_n hx hb dX4_lay_25 rfl (lv_at hl 1 rfl) ?_
        refine lv_iload_n hx hb dX4_lay_26 rfl (lv_at hl 2 rfl) ?_
        obtain ⟨g6, h⟩ := z_grd_some h
        refine st_k3 hc hI g6 dX4_lay_27 (fun H locs hI => ?_)
        refine lv_aload_n hx hb dX4_lay_28 rfl (lv_at hl 0 rfl) ?_
        refine gf_X4_18 hc hI dX4_lay_29 ?_
        refine lv_iload_n hx hb dX4_lay_32 rfl (lv_at hl 1 rfl) ?_
        refine lv_iload_n hx hb dX4_lay_33 rfl (lv_at hl 3 rfl) ?_
        obtain ⟨g7, h⟩ := z_grd_some h
        obtain ⟨M8, h, hI⟩ := z_nM h hI
        refine st_k4 hc hI g7 dX4_lay_34 (fun H locs hI => ?_)
        refine lv_iconst (v := 0) hx hb dX4_lay_35 (by decide) ?_
        refine lv_istore (lv' := [(4, .int 0), (0, .ref (z_ad G 1 0)), (1, .int a1), (2, .int a2), (3, .int a3)]) hx hb dX4_lay_36 hl (by decide) rfl (fun ls hl => ?_)
        exact w_X4_lay_b38 hc _ a1 a3 0 _ _ _ _ h hI (lv_sub hl [1, 2, 4, 0] rfl)
      · replace h := z_iff h c5
        refine lv_ldc (v := (-1000001)) hx hb hown (hts _ wd_1_211) dX4_lay_18 ?_
        obtain rfl := Option.some.inj h
        exact z_ri hc hI dX4_lay_20
set_option maxRecDepth 100000 in
set_option maxHeartbeats 4000000 in
theorem w_X4_put_b46 (hc : z_C p s m args meth c RX4 cX4_put 5 (some .int)) {out : (Int32 × z_M)} (v1 : Int32) (v2 : Int32) (v4 : Int32) (M : z_M) (H : Heap) (locs : List Loc) (ls : Array Slot) (h : F_X4_put_b46 v1 v2 v4 M = some out) (hI : z_I G s M H locs) (hl : lv_has ls 5 [(0, .ref (z_ad G 1 0)), (1, .int v1), (2, .int v2), (4, .int v4)]) : W p l e (z_rm 4) s m args below meth c H locs 0 0 (MQ below (z_Q G (some (.int out.1)) out.2) args s 0 0 (z_A G)) (F0 m 46 ls []) := by
  obtain ⟨⟨hx, hb, hml, hown, hts⟩, hr, hlk⟩ := id hc
  unfold F_X4_put_b46 at h
  refine lv_aload_n hx hb dX4_put_46 rfl (lv_at hl 0 rfl) ?_
  refine gf_X4_11 hc hI dX4_put_47 ?_
  refine lv_iload_n hx hb dX4_put_50 rfl (lv_at hl 1 rfl) ?_
  refine lv_bipush (v := 40) hx hb dX4_put_51 (by decide) ?_
  refine lv_imul hx hb dX4_put_53 ?_
  refine lv_iload_n hx hb dX4_put_54 rfl (lv_at hl 2 rfl) ?_
  refine lv_iadd hx hb dX4_put_55 ?_
  refine lv_iload hx hb dX4_put_56 (lv_at hl 3 rfl) ?_
  obtain ⟨g8, h⟩ := z_grd_some h
  refine st_k2 hc hI g8 dX4_put_58 (fun H locs hI => ?_)
  refine lv_iload hx hb dX4_put_59 (lv_at hl 3 rfl) ?_
  obtain rfl := Option.some.inj h
  exact z_ri hc hI dX4_put_61
set_option maxRecDepth 100000 in
set_option maxHeartbeats 4000000 in
theorem c_X4_put {G : z_G} {l : Launch} {a1 : Int32} {a2 : Int32} {a3 : Int32} {M : z_M} {out : (Int32 × z_M)} (h : F_X4_put a1 a2 a3 M = some out) : z_Met G l yX4_put cX4_put 5 (some .int) 4 [.ref (z_ad G 1 0), .int a1, .int a2, .int a3] M (some (.int out.1)) out.2 := by
  unfold F_X4_put at h
  refine z_met_of (by decide) rfl (Nat.le_of_ble_eq_true rfl) (fun p e s m below meth c ls hc hI hl => ?_)
  obtain ⟨⟨hx, hb, hml, hown, hts⟩, hr, hlk⟩ := id hc
  have hl : lv_has ls 5 [(0, .ref (z_ad G 1 0)), (1, .int a1), (2, .int a2), (3, .int a3)] := hl
  refine lv_aload_n hx hb dX4_put_0 rfl (lv_at hl 0 rfl) ?_
  refine lv_iload_n hx hb dX4_put_1 rfl (lv_at hl 1 rfl) ?_
  refine lv_iload_n hx hb dX4_put_2 rfl (lv_at hl 2 rfl) ?_
  refine lv_iconst (v := 1) hx hb dX4_put_3 (by decide) ?_
  obtain ⟨q1, e2, h⟩ := z_bnd h
  refine iv_X4_28 hc hI (c_X4_findingOf e2) (z_room (by decide) (by decide)) hl.1 (Nat.le_of_ble_eq_true rfl) ⟨Nat.zero_le _, Nat.zero_le _⟩ dX4_put_4 (fun H locs hI => ?_)
  refine lv_if_eq (tgt := 13) hx hb dX4_put_7 (by decide) (fun c3 => ?_) (fun c3 => ?_)
  · replace h := z_ift h c3
    refine lv_iload_n hx hb dX4_put_13 rfl (lv_at hl 3 rfl) ?_
    refine lv_istore (lv' := [(4, .int a3), (0, .ref (z_ad G 1 0)), (1, .int a1), (2, .int a2), (3, .int a3)]) hx hb dX4_put_14 hl (by decide) rfl (fun ls hl => ?_)
    refine lv_aload_n hx hb dX4_put_16 rfl (lv_at hl 1 rfl) ?_
    refine gf_X4_15 hc hI dX4_put_17 ?_
    refine lv_iload_n hx hb dX4_put_20 rfl (lv_at hl 2 rfl) ?_
    obtain ⟨g4, h⟩ := z_grd_some h
    refine ld_k3 hc hI g4 dX4_put_21 ?_
    refine lv_if_ne (tgt := 32) hx hb dX4_put_22 (by decide) (fun c5 => ?_) (fun c5 => ?_)
    · replace h := z_iff h c5
      refine lv_aload_n hx hb dX4_put_32 rfl (lv_at hl 1 rfl) ?_
      refine gf_X4_15 hc hI dX4_put_33 ?_
      refine lv_iload_n hx hb dX4_put_36 rfl (lv_at hl 2 rfl) ?_
      obtain ⟨g6, h⟩ := z_grd_some h
      refine ld_k3 hc hI g6 dX4_put_37 ?_
      refine lv_iconst (v := 1) hx hb dX4_put_38 (by decide) ?_
      refine lv_icmp_ne (tgt := 46) hx hb dX4_put_39 (by decide) (fun c7 => ?_) (fun c7 => ?_)
      · replace h := z_iff h c7
        exact w_X4_put_b46 hc a1 a2 a3 _ _ _ _ h hI (lv_sub hl [1, 2, 3, 0] rfl)
      · replace h := z_ift h c7
        refine lv_iload_n hx hb dX4_put_42 rfl (lv_at hl 4 rfl) ?_
        refine lv_i2s (v := a3.toInt16.toInt32) hx hb dX4_put_43 rfl ?_
        refine z_nI h (fun x9 h => ?_)
        refine lv_istore (lv' := [(4, .int x9), (0, .ref (z_ad G 1 0)), (1, .int a1), (2, .int a2), (3, .int a3)]) hx hb dX4_put_44 hl (by decide) rfl (fun ls hl => ?_)
        exact w_X4_put_b46 hc a1 a2 x9 _ _ _ _ h hI (lv_sub hl [1, 2, 3, 0] rfl)
    · replace h := z_ift h c5
      refine lv_iload_n hx hb dX4_put_25 rfl (lv_at hl 4 rfl) ?_
      refine lv_i2b (v := a3.toInt8.toInt32) hx hb dX4_put_26 rfl ?_
      refine z_nI h (fun x10 h => ?_)
      refine lv_istore (lv' := [(4, .int x10), (0, .ref (z_ad G 1 0)), (1, .int a1), (2, .int a2), (3, .int a3)]) hx hb dX4_put_27 hl (by decide) rfl (fun ls hl => ?_)
      refine lv_goto (tgt := 46) hx hb dX4_put_29 (by decide) ?_
      exact w_X4_put_b46 hc a1 a2 x10 _ _ _ _ h hI (lv_sub hl [1, 2, 3, 0] rfl)
  · replace h := z_iff h c3
    refine lv_ldc (v := (-1000001)) hx hb hown (hts _ wd_1_211) dX4_put_10 ?_
    obtain rfl := Option.some.inj h
    exact z_ri hc hI dX4_put_12
set_option maxRecDepth 100000 in
set_option maxHeartbeats 4000000 in
theorem c_X4_itemAt {G : z_G} {l : Launch} {a1 : Int32} {a2 : Int32} {M : z_M} {out : Int32} (h : F_X4_itemAt a1 a2 M = some out) : z_Met G l yX4_itemAt cX4_itemAt 3 (some .int) 4 [.ref (z_ad G 1 0), .int a1, .int a2] M (some (.int out)) M := by
  unfold F_X4_itemAt at h
  refine z_met_of (by decide) rfl (Nat.le_of_ble_eq_true rfl) (fun p e s m below meth c ls hc hI hl => ?_)
  obtain ⟨⟨hx, hb, hml, hown, hts⟩, hr, hlk⟩ := id hc
  have hl : lv_has ls 3 [(0, .ref (z_ad G 1 0)), (1, .int a1), (2, .int a2)] := hl
  refine lv_aload_n hx hb dX4_itemAt_0 rfl (lv_at hl 0 rfl) ?_
  refine lv_iload_n hx hb dX4_itemAt_1 rfl (lv_at hl 1 rfl) ?_
  refine lv_iload_n hx hb dX4_itemAt_2 rfl (lv_at hl 2 rfl) ?_
  refine lv_iconst (v := 1) hx hb dX4_itemAt_3 (by decide) ?_
  obtain ⟨q1, e2, h⟩ := z_bnd h
  refine iv_X4_28 hc hI (c_X4_findingOf e2) (z_room (by decide) (by decide)) hl.1 (Nat.le_of_ble_eq_true rfl) ⟨Nat.zero_le _, Nat.zero_le _⟩ dX4_itemAt_4 (fun H locs hI => ?_)
  refine lv_if_eq (tgt := 14) hx hb dX4_itemAt_7 (by decide) (fun c3 => ?_) (fun c3 => ?_)
  · replace h := z_ift h c3
    refine lv_aload_n hx hb dX4_itemAt_14 rfl (lv_at hl 0 rfl) ?_
    refine gf_X4_11 hc hI dX4_itemAt_15 ?_
    refine lv_iload_n hx hb dX4_itemAt_18 rfl (lv_at hl 1 rfl) ?_
    refine lv_bipush (v := 40) hx hb dX4_itemAt_19 (by decide) ?_
    refine lv_imul hx hb dX4_itemAt_21 ?_
    refine lv_iload_n hx hb dX4_itemAt_22 rfl (lv_at hl 2 rfl) ?_
    refine lv_iadd hx hb dX4_itemAt_23 ?_
    obtain ⟨g4, h⟩ := z_grd_some h
    refine ld_k2 hc hI g4 dX4_itemAt_24 ?_
    obtain rfl := Option.some.inj h
    exact z_ri hc hI dX4_itemAt_25
  · replace h := z_iff h c3
    refine lv_iconst (v := 0) hx hb dX4_itemAt_10 (by decide) ?_
    refine lv_goto (tgt := 25) hx hb dX4_itemAt_11 (by decide) ?_
    obtain rfl := Option.some.inj h
    exact z_ri hc hI dX4_itemAt_25
set_option maxRecDepth 100000 in
set_option maxHeartbeats 4000000 in
theorem c_X4_move {G : z_G} {l : Launch} {a1 : Int32} {a2 : Int32} {a3 : Int32} {a4 : Int32} {a5 : Int32} {M : z_M} {out : (Int32 × z_M)} (h : F_X4_move a1 a2 a3 a4 a5 M = some out) : z_Met G l yX4_move cX4_move 6 (some .int) 5 [.ref (z_ad G 1 0), .int a1, .int a2, .int a3, .int a4, .int a5] M (some (.int out.1)) out.2 := by
  unfold F_X4_move at h
  refine z_met_of (by decide) rfl (Nat.le_of_ble_eq_true rfl) (fun p e s m below meth c ls hc hI hl => ?_)
  obtain ⟨⟨hx, hb, hml, hown, hts⟩, hr, hlk⟩ := id hc
  have hl : lv_has ls 6 [(0, .ref (z_ad G 1 0)), (1, .int a1), (2, .int a2), (3, .int a3), (4, .int a4), (5, .int a5)] := hl
  refine lv_aload_n hx hb dX4_move_0 rfl (lv_at hl 0 rfl) ?_
  refine lv_iload_n hx hb dX4_move_1 rfl (lv_at hl 1 rfl) ?_
  refine lv_iload_n hx hb dX4_move_2 rfl (lv_at hl 2 rfl) ?_
  refine lv_iload_n hx hb dX4_move_3 rfl (lv_at hl 3 rfl) ?_
  refine lv_iload hx hb dX4_move_4 (lv_at hl 4 rfl) ?_
  refine lv_iload hx hb dX4_move_6 (lv_at hl 5 rfl) ?_
  obtain ⟨q1, e2, h⟩ := z_bnd h
  refine iv_X4_33 hc hI (c_X4_findingOfCopy e2) (z_room (by decide) (by decide)) hl.1 (Nat.le_of_ble_eq_true rfl) ⟨Nat.zero_le _, Nat.zero_le _⟩ dX4_move_8 (fun H locs hI => ?_)
  refine lv_if_eq (tgt := 17) hx hb dX4_move_11 (by decide) (fun c3 => ?_) (fun c3 => ?_)
  · replace h := z_ift h c3
    refine lv_aload_n hx hb dX4_move_17 rfl (lv_at hl 0 rfl) ?_
    refine gf_X4_11 hc hI dX4_move_18 ?_
    refine lv_iload_n hx hb dX4_move_21 rfl (lv_at hl 1 rfl) ?_
    refine lv_bipush (v := 40) hx hb dX4_move_22 (by decide) ?_
    refine lv_imul hx hb dX4_move_24 ?_
    refine lv_iload_n hx hb dX4_move_25 rfl (lv_at hl 2 rfl) ?_
    refine lv_iadd hx hb dX4_move_26 ?_
    refine lv_aload_n hx hb dX4_move_27 rfl (lv_at hl 0 rfl) ?_
    refine gf_X4_11 hc hI dX4_move_28 ?_
    refine lv_iload_n hx hb dX4_move_31 rfl (lv_at hl 3 rfl) ?_
    refine lv_bipush (v := 40) hx hb dX4_move_32 (by decide) ?_
    refine lv_imul hx hb dX4_move_34 ?_
    refine lv_iload hx hb dX4_move_35 (lv_at hl 4 rfl) ?_
    refine lv_iadd hx hb dX4_move_37 ?_
    refine lv_iload hx hb dX4_move_38 (lv_at hl 5 rfl) ?_
    obtain ⟨g4, h⟩ := z_grd_some h
    refine ac_X4_37 z_ix2 z_ix2 (fun _ _ => rfl) (fun _ _ => rfl) hc hI hl.1 g4 (z_frm (by decide)) (z_lrn (Nat.le_of_ble_eq_true rfl)) dX4_move_40 (fun H locs hI => ?_)
    refine lv_iload hx hb dX4_move_43 (lv_at hl 5 rfl) ?_
    obtain rfl := Option.some.inj h
    exact z_ri hc hI dX4_move_45
  · replace h := z_iff h c3
    refine lv_ldc (v := (-1000001)) hx hb hown (hts _ wd_1_211) dX4_move_14 ?_
    obtain rfl := Option.some.inj h
    exact z_ri hc hI dX4_move_16
set_option maxRecDepth 100000 in
set_option maxHeartbeats 4000000 in
theorem c_X4_takeAway {G : z_G} {l : Launch} {a1 : Int32} {M : z_M} {out : (Int32 × z_M)} (h : F_X4_takeAway a1 M = some out) : z_Met G l yX4_takeAway cX4_takeAway 3 (some .int) 3 [.ref (z_ad G 1 0), .int a1] M (some (.int out.1)) out.2 := by
  unfold F_X4_takeAway at h
  refine z_met_of (by decide) rfl (Nat.le_of_ble_eq_true rfl) (fun p e s m below meth c ls hc hI hl => ?_)
  obtain ⟨⟨hx, hb, hml, hown, hts⟩, hr, hlk⟩ := id hc
  have hl : lv_has ls 3 [(0, .ref (z_ad G 1 0)), (1, .int a1)] := hl
  refine lv_aload_n hx hb dX4_takeAway_0 rfl (lv_at hl 0 rfl) ?_
  refine lv_iload_n hx hb dX4_takeAway_1 rfl (lv_at hl 1 rfl) ?_
  obtain ⟨q1, e2, h⟩ := z_bnd h
  refine iv_X4_25 hc hI (c_X4_isMissing e2) (z_room (by decide) (by decide)) hl.1 (Nat.le_of_ble_eq_true rfl) ⟨Nat.zero_le _, Nat.zero_le _⟩ dX4_takeAway_2 (fun H locs hI => ?_)
  refine lv_if_eq (tgt := 11) hx hb dX4_takeAway_5 (by decide) (fun c3 => ?_) (fun c3 => ?_)
  · replace h := z_ift h c3
    refine lv_aload_n hx hb dX4_takeAway_11 rfl (lv_at hl 0 rfl) ?_
    refine gf_X4_18 hc hI dX4_takeAway_12 ?_
    refine lv_iload_n hx hb dX4_takeAway_15 rfl (lv_at hl 1 rfl) ?_
    obtain ⟨g4, h⟩ := z_grd_some h
    refine ld_k4 hc hI g4 dX4_takeAway_16 ?_
    refine z_nI h (fun x5 h => ?_)
    refine lv_istore_n (lv' := [(2, .int x5), (0, .ref (z_ad G 1 0)), (1, .int a1)]) hx hb dX4_takeAway_17 rfl hl (by decide) rfl (fun ls hl => ?_)
    refine lv_aload_n hx hb dX4_takeAway_18 rfl (lv_at hl 1 rfl) ?_
    refine gf_X4_18 hc hI dX4_takeAway_19 ?_
    refine lv_iload_n hx hb dX4_takeAway_22 rfl (lv_at hl 2 rfl) ?_
    refine lv_iconst (v := (-1)) hx hb dX4_takeAway_23 (by decide) ?_
    obtain ⟨g6, h⟩ := z_grd_some h
    refine st_k4 hc hI g6 dX4_takeAway_24 (fun H locs hI => ?_)
    refine lv_iload_n hx hb dX4_takeAway_25 rfl (lv_at hl 0 rfl) ?_
    obtain rfl := Option.some.inj h
    exact z_ri hc hI dX4_takeAway_26
  · replace h := z_iff h c3
    refine lv_ldc (v := (-1000001)) hx hb hown (hts _ wd_1_211) dX4_takeAway_8 ?_
    obtain rfl := Option.some.inj h
    exact z_ri hc hI dX4_takeAway_10
end
