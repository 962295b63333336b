section
variable {p : Program} {l : Launch} {e : Env} {s : State} {m : MethodId} {args : Array Value} {below : List Frame} {meth : Method} {c : Code} {G : z_G}
set_option maxRecDepth 100000 in
set_option maxHeartbeats 4000000 in
theorem w_X7_isSo_b44 {M : z_M} (hc : z_C p s m args meth c RX7 cX7_isSo 7 (some .boolean)) {out : Int32} {K6 : Int32 → Int32 → Int32 → Int32 → Int32 → Int32 → Option Int32} (hK6 : ∀ (v1 : Int32) (v2 : Int32) (v3 : Int32) (v4 : Int32) (v5 : Int32) (v6 : Int32) (H : Heap) (locs : List Loc) (ls : Array Slot), K6 v1 v2 v3 v4 v5 v6 = some out → z_I G s M H locs → lv_has ls 7 [(0, .ref (z_ad G 21 0)), (1, .int v1), (2, .int v2), (3, .int v3), (4, .int v4), (5, .int v5), (6, .int v6)] → W p l e (z_rm 5) s m args below meth c H locs 0 0 (MQ below (z_Q G (some (.int out)) M) args s 0 0 (z_A G)) (F0 m 6 ls [])) (v1 : Int32) (v2 : Int32) (v3 : Int32) (v4 : Int32) (v6 : Int32) (s0 : Int32) (H : Heap) (locs : List Loc) (ls : Array Slot) (h : F_X7_isSo_b44 M K6 v1 v2 v3 v4 v6 s0 = some out) (hI : z_I G s M H locs) (hl : lv_has ls 7 [(0, .ref (z_ad G 21 0)), (1, .int v1), (2, .int v2), (3, .int v3), (4, .int v4), (6, .int v6)]) : W p l e (z_rm 5) s m args below meth c H locs 0 0 (MQ below (z_Q G (some (.int out)) M) args s 0 0 (z_A G)) (F0 m 44 ls [.int s0]) := by
  obtain ⟨⟨hx, hb, hml, hown, hts⟩, hr, hlk⟩ := id hc
  unfold F_X7_isSo_b44 at h
  refine lv_istore (lv' := [(5, .int s0), (0, .ref (z_ad G 21 0)), (1, .int v1), (2, .int v2), (3, .int v3), (4, .int v4), (6, .int v6)]) hx hb dX7_isSo_44 hl (by decide) rfl (fun ls hl => ?_)
  refine lv_iinc (v := v6 + 1) (lv' := [(6, .int (v6 + 1)), (5, .int s0), (0, .ref (z_ad G 21 0)), (1, .int v1), (2, .int v2), (3, .int v3), (4, .int v4)]) hx hb dX7_isSo_46 hl (k := 6) rfl rfl (by decide) rfl (fun ls hl => ?_)
  refine lv_goto (tgt := 6) hx hb dX7_isSo_49 (by decide) ?_
  exact hK6 v1 v2 v3 v4 s0 (v6 + 1) _ _ _ h hI (lv_sub hl [2, 3, 4, 5, 6, 1, 0] rfl)
set_option maxRecDepth 100000 in
set_option maxHeartbeats 4000000 in
theorem w_X7_isSo_b6 {M : z_M} (hc : z_C p s m args meth c RX7 cX7_isSo 7 (some .boolean)) {out : Int32} : ∀ (n : Nat) (v1 : Int32) (v2 : Int32) (v3 : Int32) (v4 : Int32) (v5 : Int32) (v6 : Int32) (H : Heap) (locs : List Loc) (ls : Array Slot) (h : F_X7_isSo_b6 M n v1 v2 v3 v4 v5 v6 = some out) (hI : z_I G s M H locs) (hl : lv_has ls 7 [(0, .ref (z_ad G 21 0)), (1, .int v1), (2, .int v2), (3, .int v3), (4, .int v4), (5, .int v5), (6, .int v6)]), W p l e (z_rm 5) s m args below meth c H locs 0 0 (MQ below (z_Q G (some (.int out)) M) args s 0 0 (z_A G)) (F0 m 6 ls []) := by
  obtain ⟨⟨hx, hb, hml, hown, hts⟩, hr, hlk⟩ := id hc
  intro n
  induction n with
  | zero => intro v1 v2 v3 v4 v5 v6 H locs ls h; cases h
  | succ n ih =>
    intro v1 v2 v3 v4 v5 v6 H locs ls h hI hl
    rw [F_X7_isSo_b6] at h
    refine lv_iload hx hb dX7_isSo_6 (lv_at hl 6 rfl) ?_
    refine lv_iload hx hb dX7_isSo_8 (lv_at hl 4 rfl) ?_
    refine lv_icmp_ge (tgt := 52) hx hb dX7_isSo_10 (by decide) (fun c1 => ?_) (fun c1 => ?_)
    · replace h := z_ift h c1
      refine lv_iload hx hb dX7_isSo_52 (lv_at hl 5 rfl) ?_
      obtain ⟨g2, h⟩ := z_grd_some h
      obtain rfl := Option.some.inj h
      exact z_rz hc hI g2 dX7_isSo_54
    · replace h := z_iff h c1
      refine lv_iload hx hb dX7_isSo_13 (lv_at hl 5 rfl) ?_
      refine lv_if_eq (tgt := 52) hx hb dX7_isSo_15 (by decide) (fun c3 => ?_) (fun c3 => ?_)
      · replace h := z_ift h c3
        refine lv_iload hx hb dX7_isSo_52 (lv_at hl 5 rfl) ?_
        obtain ⟨g4, h⟩ := z_grd_some h
        obtain rfl := Option.some.inj h
        exact z_rz hc hI g4 dX7_isSo_54
      · replace h := z_iff h c3
        refine lv_aload_n hx hb dX7_isSo_18 rfl (lv_at hl 0 rfl) ?_
        refine gf_X7_16 hc hI dX7_isSo_19 ?_
        refine lv_iload_n hx hb dX7_isSo_22 rfl (lv_at hl 3 rfl) ?_
        refine lv_iload hx hb dX7_isSo_23 (lv_at hl 6 rfl) ?_
        refine lv_iadd hx hb dX7_isSo_25 ?_
        obtain ⟨g5, h⟩ := z_grd_some h
        refine ld_k24 hc hI g5 dX7_isSo_26 ?_
        refine lv_aload_n hx hb dX7_isSo_27 rfl (lv_at hl 0 rfl) ?_
        refine lv_iload_n hx hb dX7_isSo_28 rfl (lv_at hl 1 rfl) ?_
        refine lv_iload_n hx hb dX7_isSo_29 rfl (lv_at hl 2 rfl) ?_
        refine lv_iload hx hb dX7_isSo_30 (lv_at hl 6 rfl) ?_
        refine lv_iadd hx hb dX7_isSo_32 ?_
        obtain ⟨q6, e7, h⟩ := z_bnd h
        refine iv_X7_211 hc hI (c_X7_heardAt e7) (z_room (by decide) (by decide)) hl.1 (Nat.le_of_ble_eq_true rfl) ⟨Nat.zero_le _, Nat.zero_le _⟩ dX7_isSo_33 (fun H locs hI => ?_)
        refine lv_icmp_ne (tgt := 43) hx hb dX7_isSo_36 (by decide) (fun c8 => ?_) (fun c8 => ?_)
        · replace h := z_iff h c8
          refine lv_iconst (v := 0) hx hb dX7_isSo_43 (by decide) ?_
          exact w_X7_isSo_b44 hc ih v1 v2 v3 v4 v6 0 _ _ _ h hI (lv_sub hl [0, 1, 2, 3, 4, 6] rfl)
        · replace h := z_ift h c8
          refine lv_iconst (v := 1) hx hb dX7_isSo_39 (by decide) ?_
          refine lv_goto (tgt := 44) hx hb dX7_isSo_40 (by decide) ?_
          exact w_X7_isSo_b44 hc ih v1 v2 v3 v4 v6 1 _ _ _ h hI (lv_sub hl [0, 1, 2, 3, 4, 6] rfl)
set_option maxRecDepth 100000 in
set_option maxHeartbeats 4000000 in
theorem c_X7_isSo {G : z_G} {l : Launch} {a1 : Int32} {a2 : Int32} {a3 : Int32} {a4 : Int32} {M : z_M} {out : Int32} (h : F_X7_isSo a1 a2 a3 a4 M = some out) : z_Met G l yX7_isSo cX7_isSo 7 (some .boolean) 5 [.ref (z_ad G 21 0), .int a1, .int a2, .int a3, .int a4] M (some (.int out)) M := by
  unfold F_X7_isSo at h
  refine z_met_of (by decide) rfl (Nat.le_of_ble_eq_true rfl) (fun p e s m below meth c ls hc hI hl => ?_)
  obtain ⟨⟨hx, hb, hml, hown, hts⟩, hr, hlk⟩ := id hc
  have hl : lv_has ls 7 [(0, .ref (z_ad G 21 0)), (1, .int a1), (2, .int a2), (3, .int a3), (4, .int a4)] := hl
  refine lv_iconst (v := 1) hx hb dX7_isSo_0 (by decide) ?_
  refine lv_istore (lv' := [(5, .int 1), (0, .ref (z_ad G 21 0)), (1, .int a1), (2, .int a2), (3, .int a3), (4, .int a4)]) hx hb dX7_isSo_1 hl (by decide) rfl (fun ls hl => ?_)
  refine lv_iconst (v := 0) hx hb dX7_isSo_3 (by decide) ?_
  refine lv_istore (lv' := [(6, .int 0), (5, .int 1), (0, .ref (z_ad G 21 0)), (1, .int a1), (2, .int a2), (3, .int a3), (4, .int a4)]) hx hb dX7_isSo_4 hl (by decide) rfl (fun ls hl => ?_)
  exact w_X7_isSo_b6 hc _ a1 a2 a3 a4 1 0 _ _ _ h hI (lv_sub hl [2, 3, 4, 5, 6, 1, 0] rfl)
set_option maxRecDepth 100000 in
set_option maxHeartbeats 4000000 in
theorem w_X7_fits_b53 (hc : z_C p s m args meth c RX7 cX7_fits 11 (some .int)) {out : (Int32 × z_M)} {K14 : Int32 → Int32 → Int32 → Int32 → Int32 → Int32 → Int32 → Int32 → Int32 → z_M → Option (Int32 × z_M)} (hK14 : ∀ (v1 : Int32) (v3 : Int32) (v4 : Int32) (v5 : Int32) (v6 : Int32) (v7 : Int32) (v8 : Int32) (v9 : Int32) (v10 : Int32) (M : z_M) (H : Heap) (locs : List Loc) (ls : Array Slot), K14 v1 v3 v4 v5 v6 v7 v8 v9 v10 M = some out → z_I G s M H locs → lv_has ls 11 [(0, .ref (z_ad G 21 0)), (1, .int v1), (3, .int v3), (4, .int v4), (5, .int v5), (6, .int v6), (7, .int v7), (8, .int v8), (9, .int v9), (10, .int v10)] → W p l e (z_rm 6) s m args below meth c H locs 0 0 (MQ below (z_Q G (some (.int out.1)) out.2) args s 0 0 (z_A G)) (F0 m 14 ls [])) (v1 : Int32) (v3 : Int32) (v4 : Int32) (v5 : Int32) (v6 : Int32) (v7 : Int32) (v8 : Int32) (v10 : Int32) (s0 : Int32) (s1 : Int32) (M : z_M) (H : Heap) (locs : List Loc) (ls : Array Slot) (h : F_X7_fits_b53 K14 v1 v3 v4 v5 v6 v7 v8 v10 s0 s1 M = some out) (hI : z_I G s M H locs) (hl : lv_has ls 11 [(0, .ref (z_ad G 21 0)), (1, .int v1), (3, .int v3), (4, .int v4), (5, .int v5), (6, .int v6), (7, .int v7), (8, .int v8), (10, .int v10)]) : W p l e (z_rm 6) s m args below meth c H locs 0 0 (MQ below (z_Q G (some (.int out.1)) out.2) args s 0 0 (z_A G)) (F0 m 53 ls [.int s0, .int s1]) := by
  obtain ⟨⟨hx, hb, hml, hown, hts⟩, hr, hlk⟩ := id hc
  unfold F_X7_fits_b53 at h
  refine lv_ior hx hb dX7_fits_53 ?_
  refine z_nI h (fun x11 h => ?_)
  refine lv_istore (lv' := [(9, .int x11), (0, .ref (z_ad G 21 0)), (1, .int v1), (3, .int v3), (4, .int v4), (5, .int v5), (6, .int v6), (7, .int v7), (8, .int v8), (10, .int v10)]) hx hb dX7_fits_54 hl (by decide) rfl (fun ls hl => ?_)
  refine lv_iinc (v := v10 + 1) (lv' := [(10, .int (v10 + 1)), (9, .int x11), (0, .ref (z_ad G 21 0)), (1, .int v1), (3, .int v3), (4, .int v4), (5, .int v5), (6, .int v6), (7, .int v7), (8, .int v8)]) hx hb dX7_fits_56 hl (k := 9) rfl rfl (by decide) rfl (fun ls hl => ?_)
  refine lv_goto (tgt := 14) hx hb dX7_fits_59 (by decide) ?_
  exact hK14 v1 v3 v4 v5 v6 v7 v8 x11 (v10 + 1) _ _ _ _ h hI (lv_sub hl [2, 3, 4, 5, 6, 7, 8, 9, 1, 0] rfl)
set_option maxRecDepth 100000 in
set_option maxHeartbeats 4000000 in
theorem w_X7_fits_b14 (hc : z_C p s m args meth c RX7 cX7_fits 11 (some .int)) {out : (Int32 × z_M)} : ∀ (n : Nat) (v1 : Int32) (v3 : Int32) (v4 : Int32) (v5 : Int32) (v6 : Int32) (v7 : Int32) (v8 : Int32) (v9 : Int32) (v10 : Int32) (M : z_M) (H : Heap) (locs : List Loc) (ls : Array Slot) (h : F_X7_fits_b14 n v1 v3 v4 v5 v6 v7 v8 v9 v10 M = some out) (hI : z_I G s M H locs) (hl : lv_has ls 11 [(0, .ref (z_ad G 21 0)), (1, .int v1), (3, .int v3), (4, .int v4), (5, .int v5), (6, .int v6), (7, .int v7), (8, .int v8), (9, .int v9), (10, .int v10)]), W p l e (z_rm 6) s m args below meth c H locs 0 0 (MQ below (z_Q G (some (.int out.1)) out.2) args s 0 0 (z_A G)) (F0 m 14 ls []) := by
  obtain ⟨⟨hx, hb, hml, hown, hts⟩, hr, hlk⟩ := id hc
  intro n
  induction n with
  | zero => intro v1 v3 v4 v5 v6 v7 v8 v9 v10 M H locs ls h; cases h
  | succ n ih =>
    intro v1 v3 v4 v5 v6 v7 v8 v9 v10 M H locs ls h hI hl
    rw [F_X7_fits_b14] at h
    refine lv_iload hx hb dX7_fits_14 (lv_at hl 9 rfl) ?_
    refine lv_iload_n hx hb dX7_fits_16 rfl (lv_at hl 2 rfl) ?_
    refine lv_icmp_gt (tgt := 62) hx hb dX7_fits_17 (by decide) (fun c3 => ?_) (fun c3 => ?_)
    · replace h := z_ift h c3
      refine lv_aload_n hx hb dX7_fits_62 rfl (lv_at hl 0 rfl) ?_
      refine gf_X7_19 hc hI dX7_fits_63 ?_
      refine lv_iload_n hx hb dX7_fits_66 rfl (lv_at hl 1 rfl) ?_
      refine lv_iload hx hb dX7_fits_67 (lv_at hl 7 rfl) ?_
      obtain ⟨g4, h⟩ := z_grd_some h
      refine st_k25 hc hI g4 dX7_fits_69 (fun H locs hI => ?_)
      refine lv_aload_n hx hb dX7_fits_70 rfl (lv_at hl 0 rfl) ?_
      refine lv_iload hx hb dX7_fits_71 (lv_at hl 8 rfl) ?_
      obtain ⟨q5, e6, h⟩ := z_bnd h
      refine iv_X7_69 hc hI (c_X7_well e6) (z_room (by decide) (by decide)) hl.1 (Nat.le_of_ble_eq_true rfl) ⟨Nat.zero_le _, Nat.zero_le _⟩ dX7_fits_73 (fun H locs hI => ?_)
      obtain rfl := Option.some.inj h
      exact z_ri hc hI dX7_fits_76
    · replace h := z_iff h c3
      refine lv_aload_n hx hb dX7_fits_20 rfl (lv_at hl 0 rfl) ?_
      refine gf_X7_19 hc hI dX7_fits_21 ?_
      refine lv_iload_n hx hb dX7_fits_24 rfl (lv_at hl 1 rfl) ?_
      refine lv_iload hx hb dX7_fits_25 (lv_at hl 9 rfl) ?_
      obtain ⟨g7, h⟩ := z_grd_some h
      refine st_k25 hc hI g7 dX7_fits_27 (fun H locs hI => ?_)
      refine lv_iload hx hb dX7_fits_28 (lv_at hl 8 rfl) ?_
      refine lv_aload_n hx hb dX7_fits_30 rfl (lv_at hl 0 rfl) ?_
      refine lv_iload hx hb dX7_fits_31 (lv_at hl 3 rfl) ?_
      refine lv_iload hx hb dX7_fits_33 (lv_at hl 4 rfl) ?_
      refine lv_iload hx hb dX7_fits_35 (lv_at hl 5 rfl) ?_
      refine lv_iload hx hb dX7_fits_37 (lv_at hl 6 rfl) ?_
      obtain ⟨q8, e9, h⟩ := z_bnd h
      refine iv_X7_250 hc hI (c_X7_isSo e9) (z_room (by decide) (by decide)) hl.1 (Nat.le_of_ble_eq_true rfl) ⟨Nat.zero_le _, Nat.zero_le _⟩ dX7_fits_39 (fun H locs hI => ?_)
      refine lv_if_eq (tgt := 52) hx hb dX7_fits_42 (by decide) (fun c10 => ?_) (fun c10 => ?_)
      · replace h := z_ift h c10
        refine lv_iconst (v := 0) hx hb dX7_fits_52 (by decide) ?_
        exact w_X7_fits_b53 hc ih v1 v3 v4 v5 v6 v7 v8 v10 0 v9 _ _ _ _ h hI (lv_sub hl [0, 1, 2, 3, 4, 5, 6, 7, 9] rfl)
      · replace h := z_iff h c10
        refine lv_iconst (v := 1) hx hb dX7_fits_45 (by decide) ?_
        refine lv_iload hx hb dX7_fits_46 (lv_at hl 9 rfl) ?_
        refine lv_ishl hx hb dX7_fits_48 ?_
        refine lv_goto (tgt := 53) hx hb dX7_fits_49 (by decide) ?_
        exact w_X7_fits_b53 hc ih v1 v3 v4 v5 v6 v7 v8 v10 ((1 : Int32) <<< (v10 &&& 31)) v9 _ _ _ _ h hI (lv_sub hl [0, 1, 2, 3, 4, 5, 6, 7, 9] rfl)
set_option maxRecDepth 100000 in
set_option maxHeartbeats 4000000 in
theorem c_X7_fits {G : z_G} {l : Launch} {a1 : Int32} {a2 : Int32} {a3 : Int32} {a4 : Int32} {a5 : Int32} {a6 : Int32} {a7 : Int32} {M : z_M} {out : (Int32 × z_M)} (h : F_X7_fits a1 a2 a3 a4 a5 a6 a7 M = some out) : z_Met G l yX7_fits cX7_fits 11 (some .int) 6 [.ref (z_ad G 21 0), .int a1, .int a2, .int a3, .int a4, .int a5, .int a6, .int a7] M (some (.int out.1)) out.2 := by
  unfold F_X7_fits at h
  refine z_met_of (by decide) rfl (Nat.le_of_ble_eq_true rfl) (fun p e s m below meth c ls hc hI hl => ?_)
  obtain ⟨⟨hx, hb, hml, hown, hts⟩, hr, hlk⟩ := id hc
  have hl : lv_has ls 11 [(0, .ref (z_ad G 21 0)), (1, .int a1), (2, .int a2), (3, .int a3), (4, .int a4), (5, .int a5), (6, .int a6), (7, .int a7)] := hl
  refine lv_aload_n hx hb dX7_fits_0 rfl (lv_at hl 0 rfl) ?_
  refine gf_X7_19 hc hI dX7_fits_1 ?_
  refine lv_iload_n hx hb dX7_fits_4 rfl (lv_at hl 1 rfl) ?_
  obtain ⟨g1, h⟩ := z_grd_some h
  refine ld_k25 hc hI g1 dX7_fits_5 ?_
  refine z_nI h (fun x2 h => ?_)
  refine lv_istore (lv' := [(8, .int x2), (0, .ref (z_ad G 21 0)), (1, .int a1), (2, .int a2), (3, .int a3), (4, .int a4), (5, .int a5), (6, .int a6), (7, .int a7)]) hx hb dX7_fits_6 hl (by decide) rfl (fun ls hl => ?_)
  refine lv_iconst (v := 0) hx hb dX7_fits_8 (by decide) ?_
  refine lv_istore (lv' := [(9, .int 0), (8, .int x2), (0, .ref (z_ad G 21 0)), (1, .int a1), (2, .int a2), (3, .int a3), (4, .int a4), (5, .int a5), (6, .int a6), (7, .int a7)]) hx hb dX7_fits_9 hl (by decide) rfl (fun ls hl => ?_)
  refine lv_iload_n hx hb dX7_fits_11 rfl (lv_at hl 4 rfl) ?_
  refine lv_istore (lv' := [(10, .int a2), (9, .int 0), (8, .int x2), (0, .ref (z_ad G 21 0)), (1, .int a1), (2, .int a2), (3, .int a3), (4, .int a4), (5, .int a5), (6, .int a6), (7, .int a7)]) hx hb dX7_fits_12 hl (by decide) rfl (fun ls hl => ?_)
  exact w_X7_fits_b14 hc _ a1 a3 a4 a5 a6 a7 x2 0 a2 _ _ _ _ h hI (lv_sub hl [3, 4, 6, 7, 8, 9, 10, 2, 1, 0] rfl)
set_option maxRecDepth 100000 in
set_option maxHeartbeats 4000000 in
theorem c_X7_what {G : z_G} {l : Launch} {a1 : Int32} {a2 : Int32} {a3 : Int32} {a4 : Int32} {a5 : Int32} {a6 : Int32} {a7 : Int32} {M : z_M} {out : (Int32 × z_M)} (h : F_X7_what a1 a2 a3 a4 a5 a6 a7 M = some out) : z_Met G l yX7_what cX7_what 10 (some .int) 7 [.ref (z_ad G 21 0), .int a1, .int a2, .int a3, .int a4, .int a5, .int a6, .int a7] M (some (.int out.1)) out.2 := by
  unfold F_X7_what at h
  refine z_met_of (by decide) rfl (Nat.le_of_ble_eq_true rfl) (fun p e s m below meth c ls hc hI hl => ?_)
  obtain ⟨⟨hx, hb, hml, hown, hts⟩, hr, hlk⟩ := id hc
  have hl : lv_has ls 10 [(0, .ref (z_ad G 21 0)), (1, .int a1), (2, .int a2), (3, .int a3), (4, .int a4), (5, .int a5), (6, .int a6), (7, .int a7)] := hl
  refine lv_aload_n hx hb dX7_what_0 rfl (lv_at hl 0 rfl) ?_
  refine lv_iload_n hx hb dX7_what_1 rfl (lv_at hl 1 rfl) ?_
  obtain ⟨q1, e2, h⟩ := z_bnd h
  refine iv_X7_185 hc hI (c_X7_isTread e2) (z_room (by decide) (by decide)) hl.1 (Nat.le_of_ble_eq_true rfl) ⟨Nat.zero_le _, Nat.zero_le _⟩ dX7_what_2 (fun H locs hI => ?_)
  refine lv_if_eq (tgt := 55) hx hb dX7_what_5 (by decide) (fun c3 => ?_) (fun c3 => ?_)
  · replace h := z_ift h c3
    refine lv_ldc (v := (-1000001)) hx hb hown (hts _ wd_5_5) dX7_what_55 ?_
    obtain rfl := Option.some.inj h
    exact z_ri hc hI dX7_what_57
  · replace h := z_iff h c3
    refine lv_iload_n hx hb dX7_what_8 rfl (lv_at hl 2 rfl) ?_
    refine lv_i2l (v := a2.toInt64) hx hb dX7_what_9 rfl ?_
    refine lv_lconst (v := 0) hx hb dX7_what_10 (by decide) ?_
    refine lv_lconst (v := 1) hx hb dX7_what_11 (by decide) ?_
    obtain ⟨q4, e5, h⟩ := z_bnd h
    refine iv_X7_54 hc hI (c_X7_in e5) (z_room (by decide) (by decide)) hl.1 (Nat.le_of_ble_eq_true rfl) ⟨Nat.zero_le _, Nat.zero_le _⟩ dX7_what_12 (fun H locs hI => ?_)
    refine lv_if_eq (tgt := 55) hx hb dX7_what_15 (by decide) (fun c6 => ?_) (fun c6 => ?_)
    · replace h := z_ift h c6
      refine lv_ldc (v := (-1000001)) hx hb hown (hts _ wd_5_5) dX7_what_55 ?_
      obtain rfl := Option.some.inj h
      exact z_ri hc hI dX7_what_57
    · replace h := z_iff h c6
      refine lv_aload_n hx hb dX7_what_18 rfl (lv_at hl 0 rfl) ?_
      refine lv_iload_n hx hb dX7_what_19 rfl (lv_at hl 3 rfl) ?_
      obtain ⟨q7, e8, h⟩ := z_bnd h
      refine iv_X7_185 hc hI (c_X7_isTread e8) (z_room (by decide) (by decide)) hl.1 (Nat.le_of_ble_eq_true rfl) ⟨Nat.zero_le _, Nat.zero_le _⟩ dX7_what_20 (fun H locs hI => ?_)
      refine lv_if_eq (tgt := 55) hx hb dX7_what_23 (by decide) (fun c9 => ?_) (fun c9 => ?_)
      · replace h := z_ift h c9
        refine lv_ldc (v := (-1000001)) hx hb hown (hts _ wd_5_5) dX7_what_55 ?_
        obtain rfl := Option.some.inj h
        exact z_ri hc hI dX7_what_57
      · replace h := z_iff h c9
        refine lv_iload hx hb dX7_what_26 (lv_at hl 4 rfl) ?_
        obtain ⟨q10, e11, h⟩ := z_bnd h
        refine iv_X7_208 hc hI (c_X7_isMinute e11) (z_room (by decide) (by decide)) hl.1 (Nat.le_of_ble_eq_true rfl) ⟨Nat.zero_le _, Nat.zero_le _⟩ dX7_what_28 (fun H locs hI => ?_)
        refine lv_if_eq (tgt := 55) hx hb dX7_what_31 (by decide) (fun c12 => ?_) (fun c12 => ?_)
        · replace h := z_ift h c12
          refine lv_ldc (v := (-1000001)) hx hb hown (hts _ wd_5_5) dX7_what_55 ?_
          obtain rfl := Option.some.inj h
          exact z_ri hc hI dX7_what_57
        · replace h := z_iff h c12
          refine lv_iload hx hb dX7_what_34 (lv_at hl 5 rfl) ?_
          obtain ⟨q13, e14, h⟩ := z_bnd h
          refine iv_X7_58 hc hI (c_X7_isRow e14) (z_room (by decide) (by decide)) hl.1 (Nat.le_of_ble_eq_true rfl) ⟨Nat.zero_le _, Nat.zero_le _⟩ dX7_what_36 (fun H locs hI => ?_)
          refine lv_if_eq (tgt := 55) hx hb dX7_what_39 (by decide) (fun c15 => ?_) (fun c15 => ?_)
          · replace h := z_ift h c15
            refine lv_ldc (v := (-1000001)) hx hb hown (hts _ wd_5_5) dX7_what_55 ?_
            obtain rfl := Option.some.inj h
            exact z_ri hc hI dX7_what_57
          · replace h := z_iff h c15
            refine lv_iload hx hb dX7_what_42 (lv_at hl 7 rfl) ?_
            refine lv_i2l (v := a7.toInt64) hx hb dX7_what_44 rfl ?_
            refine lv_lconst (v := 1) hx hb dX7_what_45 (by decide) ?_
            refine lv_ldc2 (v := 12) hx hb hown (hts _ wd_6_43) dX7_what_46 ?_
            obtain ⟨q16, e17, h⟩ := z_bnd h
            refine iv_X7_54 hc hI (c_X7_in e17) (z_room (by decide) (by decide)) hl.1 (Nat.le_of_ble_eq_true rfl) ⟨Nat.zero_le _, Nat.zero_le _⟩ dX7_what_49 (fun H locs hI => ?_)
            refine lv_if_ne (tgt := 58) hx hb dX7_what_52 (by decide) (fun c18 => ?_) (fun c18 => ?_)
            · replace h := z_iff h c18
              refine lv_aload_n hx hb dX7_what_58 rfl (lv_at hl 0 rfl) ?_
              refine lv_iload hx hb dX7_what_59 (lv_at hl 5 rfl) ?_
              refine lv_iload hx hb dX7_what_61 (lv_at hl 6 rfl) ?_
              refine lv_iload hx hb dX7_what_63 (lv_at hl 7 rfl) ?_
              obtain ⟨q19, e20, h⟩ := z_bnd h
              refine iv_X7_255 hc hI (c_X7_lacks e20) (z_room (by decide) (by decide)) hl.1 (Nat.le_of_ble_eq_true rfl) ⟨Nat.zero_le _, Nat.zero_le _⟩ dX7_what_65 (fun H locs hI => ?_)
              refine lv_istore (lv' := [(8, .int q19.1), (0, .ref (z_ad G 21 0)), (1, .int a1), (2, .int a2), (3, .int a3), (4, .int a4), (5, .int a5), (6, .int a6), (7, .int a7)]) hx hb dX7_what_68 hl (by decide) rfl (fun ls hl => ?_)
              refine lv_iload hx hb dX7_what_70 (lv_at hl 0 rfl) ?_
              refine lv_if_ge (tgt := 78) hx hb dX7_what_72 (by decide) (fun c21 => ?_) (fun c21 => ?_)
              · replace h := z_ift h c21
                refine lv_bipush (v := 40) hx hb dX7_what_78 (by decide) ?_
                refine lv_iload hx hb dX7_what_80 (lv_at hl 6 rfl) ?_
                refine lv_imul hx hb dX7_what_82 ?_
                refine lv_iload hx hb dX7_what_83 (lv_at hl 7 rfl) ?_
                refine lv_iadd hx hb dX7_what_85 ?_
                refine z_nI h (fun x22 h => ?_)
                refine lv_istore (lv' := [(9, .int x22), (8, .int q19.1), (0, .ref (z_ad G 21 0)), (1, .int a1), (2, .int a2), (3, .int a3), (4, .int a4), (5, .int a5), (6, .int a6), (7, .int a7)]) hx hb dX7_what_86 hl (by decide) rfl (fun ls hl => ?_)
                refine lv_iload_n hx hb dX7_what_88 rfl (lv_at hl 4 rfl) ?_
                refine lv_if_ne (tgt := 111) hx hb dX7_what_89 (by decide) (fun c23 => ?_) (fun c23 => ?_)
                · replace h := z_iff h c23
                  refine lv_aload_n hx hb dX7_what_111 rfl (lv_at hl 2 rfl) ?_
                  refine lv_bipush (v := 13) hx hb dX7_what_112 (by decide) ?_
                  refine lv_iload_n hx hb dX7_what_114 rfl (lv_at hl 3 rfl) ?_
                  refine lv_iadd hx hb dX7_what_115 ?_
                  refine lv_iconst (v := 0) hx hb dX7_what_116 (by decide) ?_
                  refine lv_bipush (v := 9) hx hb dX7_what_117 (by decide) ?_
                  refine lv_iload_n hx hb dX7_what_119 rfl (lv_at hl 5 rfl) ?_
                  refine lv_iload hx hb dX7_what_120 (lv_at hl 6 rfl) ?_
                  refine lv_iload hx hb dX7_what_122 (lv_at hl 0 rfl) ?_
                  refine lv_iload hx hb dX7_what_124 (lv_at hl 9 rfl) ?_
                  obtain ⟨q24, e25, h⟩ := z_bnd h
                  refine iv_X7_259 hc hI (c_X7_fits e25) (z_room (by decide) (by decide)) hl.1 (Nat.le_of_ble_eq_true rfl) ⟨Nat.zero_le _, Nat.zero_le _⟩ dX7_what_126 (fun H locs hI => ?_)
                  obtain rfl := Option.some.inj h
                  exact z_ri hc hI dX7_what_129
                · replace h := z_ift h c23
                  refine lv_aload_n hx hb dX7_what_92 rfl (lv_at hl 2 rfl) ?_
                  refine lv_iconst (v := 5) hx hb dX7_what_93 (by decide) ?_
                  refine lv_iload_n hx hb dX7_what_94 rfl (lv_at hl 3 rfl) ?_
                  refine lv_iadd hx hb dX7_what_95 ?_
                  refine lv_iconst (v := 1) hx hb dX7_what_96 (by decide) ?_
                  refine lv_iconst (v := 5) hx hb dX7_what_97 (by decide) ?_
                  refine lv_iload_n hx hb dX7_what_98 rfl (lv_at hl 5 rfl) ?_
                  refine lv_iload hx hb dX7_what_99 (lv_at hl 6 rfl) ?_
                  refine lv_iload hx hb dX7_what_101 (lv_at hl 0 rfl) ?_
                  refine lv_iload hx hb dX7_what_103 (lv_at hl 9 rfl) ?_
                  obtain ⟨q26, e27, h⟩ := z_bnd h
                  refine iv_X7_259 hc hI (c_X7_fits e27) (z_room (by decide) (by decide)) hl.1 (Nat.le_of_ble_eq_true rfl) ⟨Nat.zero_le _, Nat.zero_le _⟩ dX7_what_105 (fun H locs hI => ?_)
                  refine lv_goto (tgt := 129) hx hb dX7_what_108 (by decide) ?_
                  obtain rfl := Option.some.inj h
                  exact z_ri hc hI dX7_what_129
              · replace h := z_iff h c21
                refine lv_iload hx hb dX7_what_75 (lv_at hl 0 rfl) ?_
                obtain rfl := Option.some.inj h
                exact z_ri hc hI dX7_what_77
            · replace h := z_ift h c18
              refine lv_ldc (v := (-1000001)) hx hb hown (hts _ wd_5_5) dX7_what_55 ?_
              obtain rfl := Option.some.inj h
              exact z_ri hc hI dX7_what_57
set_option maxRecDepth 100000 in
set_option maxHeartbeats 4000000 in
theorem w_X7_who_b128 (hc : z_C p s m args meth c RX7 cX7_who 10 (some .int)) {out : (Int32 × z_M)} (v3 : Int32) (v4 : Int32) (v5 : Int32) (v6 : Int32) (v7 : Int32) (v9 : Int32) (s0 : Int32) (s1 : Int32) (M : z_M) (H : Heap) (locs : List Loc) (ls : Array Slot) (h : F_X7_who_b128 v3 v4 v5 v6 v7 v9 s0 s1 M = some out) (hI : z_I G s M H locs) (hl : lv_has ls 10 [(3, .int v3), (4, .int v4), (5, .int v5), (6, .int v6), (7, .int v7), (9, .int v9)]) : W p l e (z_rm 7) s m args below meth c H locs 0 0 (MQ below (z_Q G (some (.int out.1)) out.2) args s 0 0 (z_A G)) (F0 m 128 ls [.int s0, .int s1, .ref (z_ad G 21 0)]) := by
  obtain ⟨⟨hx, hb, hml, hown, hts⟩, hr, hlk⟩ := id hc
  unfold F_X7_who_b128 at h
  refine lv_iload hx hb dX7_who_128 (lv_at hl 5 rfl) ?_
  refine lv_iload_n hx hb dX7_who_130 rfl (lv_at hl 0 rfl) ?_
  refine lv_iload hx hb dX7_who_131 (lv_at hl 1 rfl) ?_
  refine lv_bipush (v := 40) hx hb dX7_who_133 (by decide) ?_
  refine lv_iload hx hb dX7_who_135 (lv_at hl 2 rfl) ?_
  refine lv_imul hx hb dX7_who_137 ?_
  refine lv_iload hx hb dX7_who_138 (lv_at hl 3 rfl) ?_
  refine lv_iadd hx hb dX7_who_140 ?_
  refine lv_iload hx hb dX7_who_141 (lv_at hl 4 rfl) ?_
  obtain ⟨q25, e26, h⟩ := z_bnd h
  refine iv_X7_259 hc hI (c_X7_fits e26) (z_room (by decide) (by decide)) hl.1 (Nat.le_of_ble_eq_true rfl) ⟨Nat.zero_le _, Nat.zero_le _⟩ dX7_who_143 (fun H locs hI => ?_)
  obtain rfl := Option.some.inj h
  exact z_ri hc hI dX7_who_146
set_option maxRecDepth 100000 in
set_option maxHeartbeats 4000000 in
theorem w_X7_who_b107 (hc : z_C p s m args meth c RX7 cX7_who 10 (some .int)) {out : (Int32 × z_M)} (v1 : Int32) (v2 : Int32) (v3 : Int32) (v4 : Int32) (v5 : Int32) (v6 : Int32) (v7 : Int32) (s0 : Int32) (M : z_M) (H : Heap) (locs : List Loc) (ls : Array Slot) (h : F_X7_who_b107 v1 v2 v3 v4 v5 v6 v7 s0 M = some out) (hI : z_I G s M H locs) (hl : lv_has ls 10 [(0, .ref (z_ad G 21 0)), (1, .int v1), (2, .int v2), (3, .int v3), (4, .int v4), (5, .int v5), (6, .int v6), (7, .int v7)]) : W p l e (z_rm 7) s m args below meth c H locs 0 0 (MQ below (z_Q G (some (.int out.1)) out.2) args s 0 0 (z_A G)) (F0 m 107 ls [.int s0]) := by
  obtain ⟨⟨hx, hb, hml, hown, hts⟩, hr, hlk⟩ := id hc
  unfold F_X7_who_b107 at h
  refine lv_istore (lv' := [(9, .int s0), (0, .ref (z_ad G 21 0)), (1, .int v1), (2, .int v2), (3, .int v3), (4, .int v4), (5, .int v5), (6, .int v6), (7, .int v7)]) hx hb dX7_who_107 hl (by decide) rfl (fun ls hl => ?_)
  refine lv_aload_n hx hb dX7_who_109 rfl (lv_at hl 1 rfl) ?_
  refine lv_bipush (v := 29) hx hb dX7_who_110 (by decide) ?_
  refine lv_iconst (v := 5) hx hb dX7_who_112 (by decide) ?_
  refine lv_iload_n hx hb dX7_who_113 rfl (lv_at hl 3 rfl) ?_
  refine lv_imul hx hb dX7_who_114 ?_
  refine lv_iadd hx hb dX7_who_115 ?_
  refine lv_iload_n hx hb dX7_who_116 rfl (lv_at hl 2 rfl) ?_
  refine lv_iadd hx hb dX7_who_117 ?_
  refine lv_iload_n hx hb dX7_who_118 rfl (lv_at hl 3 rfl) ?_
  refine lv_iconst (v := 2) hx hb dX7_who_119 (by decide) ?_
  refine lv_icmp_ne (tgt := 127) hx hb dX7_who_120 (by decide) (fun c24 => ?_) (fun c24 => ?_)
  · replace h := z_iff h c24
    refine lv_iconst (v := 0) hx hb dX7_who_127 (by decide) ?_
    exact w_X7_who_b128 hc v3 v4 v5 v6 v7 s0 0 (((29 : Int32) + ((5 : Int32) * v2)) + v1) _ _ _ _ h hI (lv_sub hl [4, 5, 6, 7, 8, 0] rfl)
  · replace h := z_ift h c24
    refine lv_iconst (v := 1) hx hb dX7_who_123 (by decide) ?_
    refine lv_goto (tgt := 128) hx hb dX7_who_124 (by decide) ?_
    exact w_X7_who_b128 hc v3 v4 v5 v6 v7 s0 1 (((29 : Int32) + ((5 : Int32) * v2)) + v1) _ _ _ _ h hI (lv_sub hl [4, 5, 6, 7, 8, 0] rfl)
set_option maxRecDepth 100000 in
set_option maxHeartbeats 4000000 in
theorem c_X7_who {G : z_G} {l : Launch} {a1 : Int32} {a2 : Int32} {a3 : Int32} {a4 : Int32} {a5 : Int32} {a6 : Int32} {a7 : Int32} {M : z_M} {out : (Int32 × z_M)} (h : F_X7_who a1 a2 a3 a4 a5 a6 a7 M = some out) : z_Met G l yX7_who cX7_who 10 (some .int) 7 [.ref (z_ad G 21 0), .int a1, .int a2, .int a3, .int a4, .int a5, .int a6, .int a7] M (some (.int out.1)) out.2 := by
  unfold F_X7_who at h
  refine z_met_of (by decide) rfl (Nat.le_of_ble_eq_true rfl) (fun p e s m below meth c ls hc hI hl => ?_)
  obtain ⟨⟨hx, hb, hml, hown, hts⟩, hr, hlk⟩ := id hc
  have hl : lv_has ls 10 [(0, .ref (z_ad G 21 0)), (1, .int a1), (2, .int a2), (3, .int a3), (4, .int a4), (5, .int a5), (6, .int a6), (7, .int a7)] := hl
  refine lv_aload_n hx hb dX7_who_0 rfl (lv_at hl 0 rfl) ?_
  refine lv_iload_n hx hb dX7_who_1 rfl (lv_at hl 1 rfl) ?_
  obtain ⟨q1, e2, h⟩ := z_bnd h
  refine iv_X7_194 hc hI (c_X7_isWalker e2) (z_room (by decide) (by decide)) hl.1 (Nat.le_of_ble_eq_true rfl) ⟨Nat.zero_le _, Nat.zero_le _⟩ dX7_who_2 (fun H locs hI => ?_)
  refine lv_if_eq (tgt := 57) hx hb dX7_who_5 (by decide) (fun c3 => ?_) (fun c3 => ?_)
  · replace h := z_ift h c3
    refine lv_ldc (v := (-1000001)) hx hb hown (hts _ wd_5_5) dX7_who_57 ?_
    obtain rfl := Option.some.inj h
    exact z_ri hc hI dX7_who_59
  · replace h := z_iff h c3
    refine lv_iload_n hx hb dX7_who_8 rfl (lv_at hl 2 rfl) ?_
    refine lv_i2l (v := a2.toInt64) hx hb dX7_who_9 rfl ?_
    refine lv_lconst (v := 0) hx hb dX7_who_10 (by decide) ?_
    refine lv_ldc2 (v := 3) hx hb hown (hts _ wd_5_150) dX7_who_11 ?_
    obtain ⟨q4, e5, h⟩ := z_bnd h
    refine iv_X7_54 hc hI (c_X7_in e5) (z_room (by decide) (by decide)) hl.1 (Nat.le_of_ble_eq_true rfl) ⟨Nat.zero_le _, Nat.zero_le _⟩ dX7_who_14 (fun H locs hI => ?_)
    refine lv_if_eq (tgt := 57) hx hb dX7_who_17 (by decide) (fun c6 => ?_) (fun c6 => ?_)
    · replace h := z_ift h c6
      refine lv_ldc (v := (-1000001)) hx hb hown (hts _ wd_5_5) dX7_who_57 ?_
      obtain rfl := Option.some.inj h
      exact z_ri hc hI dX7_who_59
    · replace h := z_iff h c6
      refine lv_aload_n hx hb dX7_who_20 rfl (lv_at hl 0 rfl) ?_
      refine lv_iload_n hx hb dX7_who_21 rfl (lv_at hl 3 rfl) ?_
      obtain ⟨q7, e8, h⟩ := z_bnd h
      refine iv_X7_185 hc hI (c_X7_isTread e8) (z_room (by decide) (by decide)) hl.1 (Nat.le_of_ble_eq_true rfl) ⟨Nat.zero_le _, Nat.zero_le _⟩ dX7_who_22 (fun H locs hI => ?_)
      refine lv_if_eq (tgt := 57) hx hb dX7_who_25 (by decide) (fun c9 => ?_) (fun c9 => ?_)
      · replace h := z_ift h c9
        refine lv_ldc (v := (-1000001)) hx hb hown (hts _ wd_5_5) dX7_who_57 ?_
        obtain rfl := Option.some.inj h
        exact z_ri hc hI dX7_who_59
      · replace h := z_iff h c9
        refine lv_iload hx hb dX7_who_28 (lv_at hl 4 rfl) ?_
        obtain ⟨q10, e11, h⟩ := z_bnd h
        refine iv_X7_208 hc hI (c_X7_isMinute e11) (z_room (by decide) (by decide)) hl.1 (Nat.le_of_ble_eq_true rfl) ⟨Nat.zero_le _, Nat.zero_le _⟩ dX7_who_30 (fun H locs hI => ?_)
        refine lv_if_eq (tgt := 57) hx hb dX7_who_33 (by decide) (fun c12 => ?_) (fun c12 => ?_)
        · replace h := z_ift h c12
          refine lv_ldc (v := (-1000001)) hx hb hown (hts _ wd_5_5) dX7_who_57 ?_
          obtain rfl := Option.some.inj h
          exact z_ri hc hI dX7_who_59
        · replace h := z_iff h c12
          refine lv_iload hx hb dX7_who_36 (lv_at hl 5 rfl) ?_
          obtain ⟨q13, e14, h⟩ := z_bnd h
          refine iv_X7_58 hc hI (c_X7_isRow e14) (z_room (by decide) (by decide)) hl.1 (Nat.le_of_ble_eq_true rfl) ⟨Nat.zero_le _, Nat.zero_le _⟩ dX7_who_38 (fun H locs hI => ?_)
          refine lv_if_eq (tgt := 57) hx hb dX7_who_41 (by decide) (fun c15 => ?_) (fun c15 => ?_)
          · replace h := z_ift h c15
            refine lv_ldc (v := (-1000001)) hx hb hown (hts _ wd_5_5) dX7_who_57 ?_
            obtain rfl := Option.some.inj h
            exact z_ri hc hI dX7_who_59
          · replace h := z_iff h c15
            refine lv_iload hx hb dX7_who_44 (lv_at hl 7 rfl) ?_
            refine lv_i2l (v := a7.toInt64) hx hb dX7_who_46 rfl ?_
            refine lv_lconst (v := 1) hx hb dX7_who_47 (by decide) ?_
            refine lv_ldc2 (v := 12) hx hb hown (hts _ wd_6_43) dX7_who_48 ?_
            obtain ⟨q16, e17, h⟩ := z_bnd h
            refine iv_X7_54 hc hI (c_X7_in e17) (z_room (by decide) (by decide)) hl.1 (Nat.le_of_ble_eq_true rfl) ⟨Nat.zero_le _, Nat.zero_le _⟩ dX7_who_51 (fun H locs hI => ?_)
            refine lv_if_ne (tgt := 60) hx hb dX7_who_54 (by decide) (fun c18 => ?_) (fun c18 => ?_)
            · replace h := z_iff h c18
              refine lv_aload_n hx hb dX7_who_60 rfl (lv_at hl 0 rfl) ?_
              refine lv_iload hx hb dX7_who_61 (lv_at hl 5 rfl) ?_
              refine lv_iload hx hb dX7_who_63 (lv_at hl 6 rfl) ?_
              refine lv_iload hx hb dX7_who_65 (lv_at hl 7 rfl) ?_
              obtain ⟨q19, e20, h⟩ := z_bnd h
              refine iv_X7_255 hc hI (c_X7_lacks e20) (z_room (by decide) (by decide)) hl.1 (Nat.le_of_ble_eq_true rfl) ⟨Nat.zero_le _, Nat.zero_le _⟩ dX7_who_67 (fun H locs hI => ?_)
              refine lv_istore (lv' := [(8, .int q19.1), (0, .ref (z_ad G 21 0)), (1, .int a1), (2, .int a2), (3, .int a3), (4, .int a4), (5, .int a5), (6, .int a6), (7, .int a7)]) hx hb dX7_who_70 hl (by decide) rfl (fun ls hl => ?_)
              refine lv_iload hx hb dX7_who_72 (lv_at hl 0 rfl) ?_
              refine lv_if_ge (tgt := 80) hx hb dX7_who_74 (by decide) (fun c21 => ?_) (fun c21 => ?_)
              · replace h := z_ift h c21
                refine lv_iload_n hx hb dX7_who_80 rfl (lv_at hl 3 rfl) ?_
                refine lv_iconst (v := 2) hx hb dX7_who_81 (by decide) ?_
                refine lv_icmp_ge (tgt := 96) hx hb dX7_who_82 (by decide) (fun c22 => ?_) (fun c22 => ?_)
                · replace h := z_ift h c22
                  refine lv_iload_n hx hb dX7_who_96 rfl (lv_at hl 3 rfl) ?_
                  refine lv_iconst (v := 2) hx hb dX7_who_97 (by decide) ?_
                  refine lv_icmp_ne (tgt := 105) hx hb dX7_who_98 (by decide) (fun c23 => ?_) (fun c23 => ?_)
                  · replace h := z_iff h c23
                    refine lv_bipush (v := 20) hx hb dX7_who_105 (by decide) ?_
                    exact w_X7_who_b107 hc a1 a2 a3 a4 a5 a6 a7 20 _ _ _ _ h hI (lv_sub hl [1, 2, 3, 4, 5, 6, 7, 8] rfl)
                  · replace h := z_ift h c23
                    refine lv_iconst (v := 3) hx hb dX7_who_101 (by decide) ?_
                    refine lv_goto (tgt := 107) hx hb dX7_who_102 (by decide) ?_
                    exact w_X7_who_b107 hc a1 a2 a3 a4 a5 a6 a7 3 _ _ _ _ h hI (lv_sub hl [1, 2, 3, 4, 5, 6, 7, 8] rfl)
                · replace h := z_iff h c22
                  refine lv_aload_n hx hb dX7_who_85 rfl (lv_at hl 1 rfl) ?_
                  refine gf_X7_19 hc hI dX7_who_86 ?_
                  refine lv_iconst (v := 0) hx hb dX7_who_89 (by decide) ?_
                  obtain ⟨g27, h⟩ := z_grd_some h
                  refine ld_k25 hc hI g27 dX7_who_90 ?_
                  refine lv_iconst (v := 1) hx hb dX7_who_91 (by decide) ?_
                  refine lv_isub hx hb dX7_who_92 ?_
                  refine lv_goto (tgt := 107) hx hb dX7_who_93 (by decide) ?_
                  exact w_X7_who_b107 hc a1 a2 a3 a4 a5 a6 a7 ((z_gi q19.2 25 0 (0 : Int32).toNatClampNeg) - 1) _ _ _ _ h hI (lv_sub hl [1, 2, 3, 4, 5, 6, 7, 8] rfl)
              · replace h := z_iff h c21
                refine lv_iload hx hb dX7_who_77 (lv_at hl 0 rfl) ?_
                obtain rfl := Option.some.inj h
                exact z_ri hc hI dX7_who_79
            · replace h := z_ift h c18
              refine lv_ldc (v := (-1000001)) hx hb hown (hts _ wd_5_5) dX7_who_57 ?_
              obtain rfl := Option.some.inj h
              exact z_ri hc hI dX7_who_59
set_option maxRecDepth 100000 in
set_option maxHeartbeats 4000000 in
theorem w_X7_rots_b280 (hc : z_C p s m args meth c RX7 cX7_rots 16 (some .long)) {out : (Int64 × z_M)} : ∀ (n : Nat) (v4 : Int32) (v6 : Int64) (v8 : Int64) (v10 : Int64) (v12 : Int64) (M : z_M) (H : Heap) (locs : List Loc) (ls : Array Slot) (h : F_X7_rots_b280 n v4 v6 v8 v10 v12 M = some out) (hI : z_I G s M H locs) (hl : lv_has ls 16 [(4, .int v4), (6, .long v6), (8, .long v8), (10, .long v10), (12, .long v12)]), W p l e (z_rm 5) s m args below meth c H locs 0 0 (MQ below (z_Q G (some (.long out.1)) out.2) args s 0 0 (z_A G)) (F0 m 280 ls []) := by
  obtain ⟨⟨hx, hb, hml, hown, hts⟩, hr, hlk⟩ := id hc
  intro n
  induction n with
  | zero => intro v4 v6 v8 v10 v12 M H locs ls h; cases h
  | succ n ih =>
    intro v4 v6 v8 v10 v12 M H locs ls h hI hl
    rw [F_X7_rots_b280] at h
    refine lv_lload hx hb dX7_rots_280 (lv_at hl 4 rfl) ?_
    refine lv_lconst (v := 0) hx hb dX7_rots_282 (by decide) ?_
    refine W.lcmp hx hb dX7_rots_283 ?_
    refine lv_if_eq (tgt := 305) hx hb dX7_rots_284 (by decide) (fun c18 => ?_) (fun c18 => ?_)
    · replace h := z_ift h c18
      refine lv_iload hx hb dX7_rots_305 (lv_at hl 0 rfl) ?_
      refine lv_if_ne (tgt := 318) hx hb dX7_rots_307 (by decide) (fun c19 => ?_) (fun c19 => ?_)
      · replace h := z_iff h c19
        refine lv_lload hx hb dX7_rots_318 (lv_at hl 1 rfl) ?_
        refine lv_lload hx hb dX7_rots_320 (lv_at hl 3 rfl) ?_
        obtain ⟨g20, h⟩ := z_grd_some h
        refine lv_ldiv hx hb dX7_rots_322 g20 ?_
        obtain rfl := Option.some.inj h
        exact z_rl hc hI dX7_rots_323
      · replace h := z_ift h c19
        refine lv_lload hx hb dX7_rots_310 (lv_at hl 2 rfl) ?_
        refine lv_lload hx hb dX7_rots_312 (lv_at hl 3 rfl) ?_
        obtain ⟨g21, h⟩ := z_grd_some h
        refine lv_ldiv hx hb dX7_rots_314 g21 ?_
        refine lv_goto (tgt := 323) hx hb dX7_rots_315 (by decide) ?_
        obtain rfl := Option.some.inj h
        exact z_rl hc hI dX7_rots_323
    · replace h := z_iff h c18
      refine lv_lload hx hb dX7_rots_287 (lv_at hl 3 rfl) ?_
      refine lv_lload hx hb dX7_rots_289 (lv_at hl 4 rfl) ?_
      obtain ⟨g22, h⟩ := z_grd_some h
      refine lv_lrem hx hb dX7_rots_291 g22 ?_
      refine z_nL h (fun x23 h => ?_)
      refine lv_lstore (lv' := [(14, .long x23), (4, .int v4), (6, .long v6), (8, .long v8), (10, .long v10), (12, .long v12)]) hx hb dX7_rots_292 hl (by decide) rfl (fun ls hl => ?_)
      refine lv_lload hx hb dX7_rots_294 (lv_at hl 5 rfl) ?_
      refine lv_lstore (lv' := [(10, .long v12), (14, .long x23), (4, .int v4), (6, .long v6), (8, .long v8), (12, .long v12)]) hx hb dX7_rots_296 hl (by decide) rfl (fun ls hl => ?_)
      refine lv_lload hx hb dX7_rots_298 (lv_at hl 1 rfl) ?_
      refine lv_lstore (lv' := [(12, .long x23), (10, .long v12), (14, .long x23), (4, .int v4), (6, .long v6), (8, .long v8)]) hx hb dX7_rots_300 hl (by decide) rfl (fun ls hl => ?_)
      refine lv_goto (tgt := 280) hx hb dX7_rots_302 (by decide) ?_
      exact ih v4 v6 v8 v12 x23 _ _ _ _ h hI (lv_sub hl [3, 4, 5, 1, 0] rfl)
set_option maxRecDepth 100000 in
set_option maxHeartbeats 4000000 in
theorem w_X7_rots_b266 (hc : z_C p s m args meth c RX7 cX7_rots 16 (some .long)) {out : (Int64 × z_M)} {K131 : Int32 → Int32 → Int32 → Int32 → Int32 → Int64 → Int64 → Int32 → z_M → Option (Int64 × z_M)} (hK131 : ∀ (v1 : Int32) (v2 : Int32) (v3 : Int32) (v4 : Int32) (v5 : Int32) (v6 : Int64) (v8 : Int64) (v10 : Int32) (M : z_M) (H : Heap) (locs : List Loc) (ls : Array Slot), K131 v1 v2 v3 v4 v5 v6 v8 v10 M = some out → z_I G s M H locs → lv_has ls 16 [(0, .ref (z_ad G 21 0)), (1, .int v1), (2, .int v2), (3, .int v3), (4, .int v4), (5, .int v5), (6, .long v6), (8, .long v8), (10, .int v10)] → W p l e (z_rm 5) s m args below meth c H locs 0 0 (MQ below (z_Q G (some (.long out.1)) out.2) args s 0 0 (z_A G)) (F0 m 131 ls [])) (v1 : Int32) (v2 : Int32) (v3 : Int32) (v4 : Int32) (v5 : Int32) (v6 : Int64) (v8 : Int64) (v10 : Int32) (M : z_M) (H : Heap) (locs : List Loc) (ls : Array Slot) (h : F_X7_rots_b266 K131 v1 v2 v3 v4 v5 v6 v8 v10 M = some out) (hI : z_I G s M H locs) (hl : lv_has ls 16 [(0, .ref (z_ad G 21 0)), (1, .int v1), (2, .int v2), (3, .int v3), (4, .int v4), (5, .int v5), (6, .long v6), (8, .long v8), (10, .int v10)]) : W p l e (z_rm 5) s m args below meth c H locs 0 0 (MQ below (z_Q G (some (.long out.1)) out.2) args s 0 0 (z_A G)) (F0 m 266 ls []) := by
  obtain ⟨⟨hx, hb, hml, hown, hts⟩, hr, hlk⟩ := id hc
  unfold F_X7_rots_b266 at h
  refine lv_iinc (v := v10 + 1) (lv' := [(10, .int (v10 + 1)), (0, .ref (z_ad G 21 0)), (1, .int v1), (2, .int v2), (3, .int v3), (4, .int v4), (5, .int v5), (6, .long v6), (8, .long v8)]) hx hb dX7_rots_266 hl (k := 8) rfl rfl (by decide) rfl (fun ls hl => ?_)
  refine lv_goto (tgt := 131) hx hb dX7_rots_269 (by decide) ?_
  exact hK131 v1 v2 v3 v4 v5 v6 v8 (v10 + 1) _ _ _ _ h hI (lv_sub hl [1, 2, 3, 4, 5, 6, 7, 8, 0] rfl)
set_option maxRecDepth 100000 in
set_option maxHeartbeats 4000000 in
theorem w_X7_rots_b259 (hc : z_C p s m args meth c RX7 cX7_rots 16 (some .long)) {out : (Int64 × z_M)} {K131 : Int32 → Int32 → Int32 → Int32 → Int32 → Int64 → Int64 → Int32 → z_M → Option (Int64 × z_M)} (hK131 : ∀ (v1 : Int32) (v2 : Int32) (v3 : Int32) (v4 : Int32) (v5 : Int32) (v6 : Int64) (v8 : Int64) (v10 : Int32) (M : z_M) (H : Heap) (locs : List Loc) (ls : Array Slot), K131 v1 v2 v3 v4 v5 v6 v8 v10 M = some out → z_I G s M H locs → lv_has ls 16 [(0, .ref (z_ad G 21 0)), (1, .int v1), (2, .int v2), (3, .int v3), (4, .int v4), (5, .int v5), (6, .long v6), (8, .long v8), (10, .int v10)] → W p l e (z_rm 5) s m args below meth c H locs 0 0 (MQ below (z_Q G (some (.long out.1)) out.2) args s 0 0 (z_A G)) (F0 m 131 ls [])) (v1 : Int32) (v2 : Int32) (v3 : Int32) (v4 : Int32) (v5 : Int32) (v6 : Int64) (v10 : Int32) (s0 : Int64) (s1 : Int64) (M : z_M) (H : Heap) (locs : List Loc) (ls : Array Slot) (h : F_X7_rots_b259 K131 v1 v2 v3 v4 v5 v6 v10 s0 s1 M = some out) (hI : z_I G s M H locs) (hl : lv_has ls 16 [(0, .ref (z_ad G 21 0)), (1, .int v1), (2, .int v2), (3, .int v3), (4, .int v4), (5, .int v5), (6, .long v6), (10, .int v10)]) : W p l e (z_rm 5) s m args below meth c H locs 0 0 (MQ below (z_Q G (some (.long out.1)) out.2) args s 0 0 (z_A G)) (F0 m 259 ls [.long s0, .long s1]) := by
  obtain ⟨⟨hx, hb, hml, hown, hts⟩, hr, hlk⟩ := id hc
  unfold F_X7_rots_b259 at h
  refine lv_ladd hx hb dX7_rots_259 ?_
  refine z_nL h (fun x30 h => ?_)
  refine lv_lstore (lv' := [(8, .long x30), (0, .ref (z_ad G 21 0)), (1, .int v1), (2, .int v2), (3, .int v3), (4, .int v4), (5, .int v5), (6, .long v6), (10, .int v10)]) hx hb dX7_rots_260 hl (by decide) rfl (fun ls hl => ?_)
  refine lv_aload_n hx hb dX7_rots_262 rfl (lv_at hl 1 rfl) ?_
  obtain ⟨q31, e32, h⟩ := z_bnd h
  refine iv_X7_222 hc hI (c_X7_takeBack e32) (z_room (by decide) (by decide)) hl.1 (Nat.le_of_ble_eq_true rfl) ⟨Nat.zero_le _, Nat.zero_le _⟩ dX7_rots_263 (fun H locs hI => ?_)
  exact w_X7_rots_b266 hc hK131 v1 v2 v3 v4 v5 v6 x30 v10 _ _ _ _ h hI (lv_sub hl [1, 2, 3, 4, 5, 6, 7, 0, 8] rfl)
set_option maxRecDepth 100000 in
set_option maxHeartbeats 4000000 in
theorem w_X7_rots_b235 (hc : z_C p s m args meth c RX7 cX7_rots 16 (some .long)) {out : (Int64 × z_M)} {K131 : Int32 → Int32 → Int32 → Int32 → Int32 → Int64 → Int64 → Int32 → z_M → Option (Int64 × z_M)} (hK131 : ∀ (v1 : Int32) (v2 : Int32) (v3 : Int32) (v4 : Int32) (v5 : Int32) (v6 : Int64) (v8 : Int64) (v10 : Int32) (M : z_M) (H : Heap) (locs : List Loc) (ls : Array Slot), K131 v1 v2 v3 v4 v5 v6 v8 v10 M = some out → z_I G s M H locs → lv_has ls 16 [(0, .ref (z_ad G 21 0)), (1, .int v1), (2, .int v2), (3, .int v3), (4, .int v4), (5, .int v5), (6, .long v6), (8, .long v8), (10, .int v10)] → W p l e (z_rm 5) s m args below meth c H locs 0 0 (MQ below (z_Q G (some (.long out.1)) out.2) args s 0 0 (z_A G)) (F0 m 131 ls [])) {K154 : Int32 → Int32 → Int32 → Int32 → Int32 → Int64 → Int64 → Int32 → Int64 → Int32 → z_M → Option (Int64 × z_M)} (hK154 : ∀ (v1 : Int32) (v2 : Int32) (v3 : Int32) (v4 : Int32) (v5 : Int32) (v6 : Int64) (v8 : Int64) (v10 : Int32) (v11 : Int64) (v13 : Int32) (M : z_M) (H : Heap) (locs : List Loc) (ls : Array Slot), K154 v1 v2 v3 v4 v5 v6 v8 v10 v11 v13 M = some out → z_I G s M H locs → lv_has ls 16 [(0, .ref (z_ad G 21 0)), (1, .int v1), (2, .int v2), (3, .int v3), (4, .int v4), (5, .int v5), (6, .long v6), (8, .long v8), (10, .int v10), (11, .long v11), (13, .int v13)] → W p l e (z_rm 5) s m args below meth c H locs 0 0 (MQ below (z_Q G (some (.long out.1)) out.2) args s 0 0 (z_A G)) (F0 m 154 ls [])) (v1 : Int32) (v2 : Int32) (v3 : Int32) (v4 : Int32) (v5 : Int32) (v6 : Int64) (v8 : Int64) (v10 : Int32) (v11 : Int64) (v13 : Int32) (s0 : Int32) (s1 : Int32) (M : z_M) (H : Heap) (locs : List Loc) (ls : Array Slot) (h : F_X7_rots_b235 K131 K154 v1 v2 v3 v4 v5 v6 v8 v10 v11 v13 s0 s1 M = some out) (hI : z_I G s M H locs) (hl : lv_has ls 16 [(0, .ref (z_ad G 21 0)), (1, .int v1), (2, .int v2), (3, .int v3), (4, .int v4), (5, .int v5), (6, .long v6), (8, .long v8), (10, .int v10), (11, .long v11), (13, .int v13)]) : W p l e (z_rm 5) s m args below meth c H locs 0 0 (MQ below (z_Q G (some (.long out.1)) out.2) args s 0 0 (z_A G)) (F0 m 235 ls [.int s0, .int s1, .ref (z_ad G 25 0)]) := by
  obtain ⟨⟨hx, hb, hml, hown, hts⟩, hr, hlk⟩ := id hc
  unfold F_X7_rots_b235 at h
  obtain ⟨g44, h⟩ := z_grd_some h
  refine st_k25 hc hI g44 dX7_rots_235 (fun H locs hI => ?_)
  refine lv_iinc (v := v13 + 1) (lv' := [(13, .int (v13 + 1)), (0, .ref (z_ad G 21 0)), (1, .int v1), (2, .int v2), (3, .int v3), (4, .int v4), (5, .int v5), (6, .long v6), (8, .long v8), (10, .int v10), (11, .long v11)]) hx hb dX7_rots_236 hl (k := 10) rfl rfl (by decide) rfl (fun ls hl => ?_)
  refine lv_goto (tgt := 154) hx hb dX7_rots_239 (by decide) ?_
  exact hK154 v1 v2 v3 v4 v5 v6 v8 v10 v11 (v13 + 1) _ _ _ _ h hI (lv_sub hl [1, 2, 3, 4, 5, 6, 7, 8, 9, 10, 0] rfl)
set_option maxRecDepth 100000 in
set_option maxHeartbeats 4000000 in
theorem w_X7_rots_b201 (hc : z_C p s m args meth c RX7 cX7_rots 16 (some .long)) {out : (Int64 × z_M)} {K131 : Int32 → Int32 → Int32 → Int32 → Int32 → Int64 → Int64 → Int32 → z_M → Option (Int64 × z_M)} (hK131 : ∀ (v1 : Int32) (v2 : Int32) (v3 : Int32) (v4 : Int32) (v5 : Int32) (v6 : Int64) (v8 : Int64) (v10 : Int32) (M : z_M) (H : Heap) (locs : List Loc) (ls : Array Slot), K131 v1 v2 v3 v4 v5 v6 v8 v10 M = some out → z_I G s M H locs → lv_has ls 16 [(0, .ref (z_ad G 21 0)), (1, .int v1), (2, .int v2), (3, .int v3), (4, .int v4), (5, .int v5), (6, .long v6), (8, .long v8), (10, .int v10)] → W p l e (z_rm 5) s m args below meth c H locs 0 0 (MQ below (z_Q G (some (.long out.1)) out.2) args s 0 0 (z_A G)) (F0 m 131 ls [])) {K154 : Int32 → Int32 → Int32 → Int32 → Int32 → Int64 → Int64 → Int32 → Int64 → Int32 → z_M → Option (Int64 × z_M)} (hK154 : ∀ (v1 : Int32) (v2 : Int32) (v3 : Int32) (v4 : Int32) (v5 : Int32) (v6 : Int64) (v8 : Int64) (v10 : Int32) (v11 : Int64) (v13 : Int32) (M : z_M) (H : Heap) (locs : List Loc) (ls : Array Slot), K154 v1 v2 v3 v4 v5 v6 v8 v10 v11 v13 M = some out → z_I G s M H locs → lv_has ls 16 [(0, .ref (z_ad G 21 0)), (1, .int v1), (2, .int v2), (3, .int v3), (4, .int v4), (5, .int v5), (6, .long v6), (8, .long v8), (10, .int v10), (11, .long v11), (13, .int v13)] → W p l e (z_rm 5) s m args below meth c H locs 0 0 (MQ below (z_Q G (some (.long out.1)) out.2) args s 0 0 (z_A G)) (F0 m 154 ls [])) (v1 : Int32) (v2 : Int32) (v3 : Int32) (v4 : Int32) (v5 : Int32) (v6 : Int64) (v8 : Int64) (v10 : Int32) (v13 : Int32) (s0 : Int64) (s1 : Int64) (M : z_M) (H : Heap) (locs : List Loc) (ls : Array Slot) (h : F_X7_rots_b201 K131 K154 v1 v2 v3 v4 v5 v6 v8 v10 v13 s0 s1 M = some out) (hI : z_I G s M H locs) (hl : lv_has ls 16 [(0, .ref (z_ad G 21 0)), (1, .int v1), (2, .int v2), (3, .int v3), (4, .int v4), (5, .int v5), (6, .long v6), (8, .long v8), (10, .int v10), (13, .int v13)]) : W p l e (z_rm 5) s m args below meth c H locs 0 0 (MQ below (z_Q G (some (.long out.1)) out.2) args s 0 0 (z_A G)) (F0 m 201 ls [.long s0, .long s1]) := by
  obtain ⟨⟨hx, hb, hml, hown, hts⟩, hr, hlk⟩ := id hc
  unfold F_X7_rots_b201 at h
  refine lv_lmul hx hb dX7_rots_201 ?_
  refine z_nL h (fun x39 h => ?_)
  refine lv_lstore (lv' := [(11, .long x39), (0, .ref (z_ad G 21 0)), (1, .int v1), (2, .int v2), (3, .int v3), (4, .int v4), (5, .int v5), (6, .long v6), (8, .long v8), (10, .int v10), (13, .int v13)]) hx hb dX7_rots_202 hl (by decide) rfl (fun ls hl => ?_)
  refine lv_aload_n hx hb dX7_rots_204 rfl (lv_at hl 1 rfl) ?_
  refine gf_X7_19 hc hI dX7_rots_205 ?_
  refine lv_iconst (v := 5) hx hb dX7_rots_208 (by decide) ?_
  refine lv_iload hx hb dX7_rots_209 (lv_at hl 10 rfl) ?_
  refine lv_iadd hx hb dX7_rots_211 ?_
  refine lv_iload hx hb dX7_rots_212 (lv_at hl 9 rfl) ?_
  refine lv_iload hx hb dX7_rots_214 (lv_at hl 10 rfl) ?_
  obtain ⟨q40, e41, h⟩ := z_bnd h
  refine iv_X7_156 hc hI (c_X7_has e41) (z_room (by decide) (by decide)) hl.1 (Nat.le_of_ble_eq_true rfl) ⟨Nat.zero_le _, Nat.zero_le _⟩ dX7_rots_216 (fun H locs hI => ?_)
  refine lv_if_eq (tgt := 226) hx hb dX7_rots_219 (by decide) (fun c42 => ?_) (fun c42 => ?_)
  · replace h := z_ift h c42
    refine lv_aload_n hx hb dX7_rots_226 rfl (lv_at hl 1 rfl) ?_
    refine gf_X7_19 hc hI dX7_rots_227 ?_
    refine lv_iconst (v := 5) hx hb dX7_rots_230 (by decide) ?_
    refine lv_iload hx hb dX7_rots_231 (lv_at hl 10 rfl) ?_
    refine lv_iadd hx hb dX7_rots_233 ?_
    obtain ⟨g43, h⟩ := z_grd_some h
    refine ld_k25 hc hI g43 dX7_rots_234 ?_
    exact w_X7_rots_b235 hc hK131 hK154 v1 v2 v3 v4 v5 v6 v8 v10 x39 v13 (z_gi M 25 0 ((5 : Int32) + v13).toNatClampNeg) ((5 : Int32) + v13) _ _ _ _ h hI (lv_sub hl [1, 2, 3, 4, 5, 6, 7, 8, 9, 0, 10] rfl)
  · replace h := z_iff h c42
    refine lv_iconst (v := 4) hx hb dX7_rots_222 (by decide) ?_
    refine lv_goto (tgt := 235) hx hb dX7_rots_223 (by decide) ?_
    exact w_X7_rots_b235 hc hK131 hK154 v1 v2 v3 v4 v5 v6 v8 v10 x39 v13 4 ((5 : Int32) + v13) _ _ _ _ h hI (lv_sub hl [1, 2, 3, 4, 5, 6, 7, 8, 9, 0, 10] rfl)
set_option maxRecDepth 100000 in
set_option maxHeartbeats 4000000 in
theorem w_X7_rots_b154 (hc : z_C p s m args meth c RX7 cX7_rots 16 (some .long)) {out : (Int64 × z_M)} {K131 : Int32 → Int32 → Int32 → Int32 → Int32 → Int64 → Int64 → Int32 → z_M → Option (Int64 × z_M)} (hK131 : ∀ (v1 : Int32) (v2 : Int32) (v3 : Int32) (v4 : Int32) (v5 : Int32) (v6 : Int64) (v8 : Int64) (v10 : Int32) (M : z_M) (H : Heap) (locs : List Loc) (ls : Array Slot), K131 v1 v2 v3 v4 v5 v6 v8 v10 M = some out → z_I G s M H locs → lv_has ls 16 [(0, .ref (z_ad G 21 0)), (1, .int v1), (2, .int v2), (3, .int v3), (4, .int v4), (5, .int v5), (6, .long v6), (8, .long v8), (10, .int v10)] → W p l e (z_rm 5) s m args below meth c H locs 0 0 (MQ below (z_Q G (some (.long out.1)) out.2) args s 0 0 (z_A G)) (F0 m 131 ls [])) : ∀ (n : Nat) (v1 : Int32) (v2 : Int32) (v3 : Int32) (v4 : Int32) (v5 : Int32) (v6 : Int64) (v8 : Int64) (v10 : Int32) (v11 : Int64) (v13 : Int32) (M : z_M) (H : Heap) (locs : List Loc) (ls : Array Slot) (h : F_X7_rots_b154 K131 n v1 v2 v3 v4 v5 v6 v8 v10 v11 v13 M = some out) (hI : z_I G s M H locs) (hl : lv_has ls 16 [(0, .ref (z_ad G 21 0)), (1, .int v1), (2, .int v2), (3, .int v3), (4, .int v4), (5, .int v5), (6, .long v6), (8, .long v8), (10, .int v10), (11, .long v11), (13, .int v13)]), W p l e (z_rm 5) s m args below meth c H locs 0 0 (MQ below (z_Q G (some (.long out.1)) out.2) args s 0 0 (z_A G)) (F0 m 154 ls []) := by
  obtain ⟨⟨hx, hb, hml, hown, hts⟩, hr, hlk⟩ := id hc
  intro n
  induction n with
  | zero => intro v1 v2 v3 v4 v5 v6 v8 v10 v11 v13 M H locs ls h; cases h
  | succ n ih =>
    intro v1 v2 v3 v4 v5 v6 v8 v10 v11 v13 M H locs ls h hI hl
    rw [F_X7_rots_b154] at h
    refine lv_iload hx hb dX7_rots_154 (lv_at hl 10 rfl) ?_
    refine lv_aload_n hx hb dX7_rots_156 rfl (lv_at hl 0 rfl) ?_
    refine gf_X7_19 hc hI dX7_rots_157 ?_
    refine lv_iconst (v := 0) hx hb dX7_rots_160 (by decide) ?_
    obtain ⟨g25, h⟩ := z_grd_some h
    refine ld_k25 hc hI g25 dX7_rots_161 ?_
    refine lv_icmp_ge (tgt := 242) hx hb dX7_rots_162 (by decide) (fun c26 => ?_) (fun c26 => ?_)
    · replace h := z_ift h c26
      refine lv_lload hx hb dX7_rots_242 (lv_at hl 7 rfl) ?_
      refine lv_aload_n hx hb dX7_rots_244 rfl (lv_at hl 0 rfl) ?_
      refine lv_iload_n hx hb dX7_rots_245 rfl (lv_at hl 1 rfl) ?_
      refine lv_iload_n hx hb dX7_rots_246 rfl (lv_at hl 2 rfl) ?_
      obtain ⟨q27, e28, h⟩ := z_bnd h
      refine iv_X7_240 hc hI (c_X7_isHeard e28) (z_room (by decide) (by decide)) hl.1 (Nat.le_of_ble_eq_true rfl) ⟨Nat.zero_le _, Nat.zero_le _⟩ dX7_rots_247 (fun H locs hI => ?_)
      refine lv_if_eq (tgt := 258) hx hb dX7_rots_250 (by decide) (fun c29 => ?_) (fun c29 => ?_)
      · replace h := z_ift h c29
        refine lv_lconst (v := 0) hx hb dX7_rots_258 (by decide) ?_
        exact w_X7_rots_b259 hc hK131 v1 v2 v3 v4 v5 v6 v10 0 v8 _ _ _ _ h hI (lv_sub hl [0, 1, 2, 3, 4, 5, 6, 8] rfl)
      · replace h := z_iff h c29
        refine lv_lload hx hb dX7_rots_253 (lv_at hl 9 rfl) ?_
        refine lv_goto (tgt := 259) hx hb dX7_rots_255 (by decide) ?_
        exact w_X7_rots_b259 hc hK131 v1 v2 v3 v4 v5 v6 v10 v11 v8 _ _ _ _ h hI (lv_sub hl [0, 1, 2, 3, 4, 5, 6, 8] rfl)
    · replace h := z_iff h c26
      refine lv_lload hx hb dX7_rots_165 (lv_at hl 9 rfl) ?_
      refine lv_iload hx hb dX7_rots_167 (lv_at hl 5 rfl) ?_
      refine lv_iload hx hb dX7_rots_169 (lv_at hl 10 rfl) ?_
      obtain ⟨q33, e34, h⟩ := z_bnd h
      refine iv_X7_156 hc hI (c_X7_has e34) (z_room (by decide) (by decide)) hl.1 (Nat.le_of_ble_eq_true rfl) ⟨Nat.zero_le _, Nat.zero_le _⟩ dX7_rots_171 (fun H locs hI => ?_)
      refine lv_if_ne (tgt := 181) hx hb dX7_rots_174 (by decide) (fun c35 => ?_) (fun c35 => ?_)
      · replace h := z_iff h c35
        refine lv_iload hx hb dX7_rots_181 (lv_at hl 8 rfl) ?_
        refine lv_iload hx hb dX7_rots_183 (lv_at hl 10 rfl) ?_
        obtain ⟨q36, e37, h⟩ := z_bnd h
        refine iv_X7_156 hc hI (c_X7_has e37) (z_room (by decide) (by decide)) hl.1 (Nat.le_of_ble_eq_true rfl) ⟨Nat.zero_le _, Nat.zero_le _⟩ dX7_rots_185 (fun H locs hI => ?_)
        refine lv_if_eq (tgt := 196) hx hb dX7_rots_188 (by decide) (fun c38 => ?_) (fun c38 => ?_)
        · replace h := z_ift h c38
          refine lv_bipush (v := 10) hx hb dX7_rots_196 (by decide) ?_
          refine lv_iload_n hx hb dX7_rots_198 rfl (lv_at hl 3 rfl) ?_
          refine lv_isub hx hb dX7_rots_199 ?_
          refine lv_i2l (v := ((10 : Int32) - v3).toInt64) hx hb dX7_rots_200 rfl ?_
          exact w_X7_rots_b201 hc hK131 ih v1 v2 v3 v4 v5 v6 v8 v10 v13 (((10 : Int32) - v3).toInt64) v11 _ _ _ _ h hI (lv_sub hl [0, 1, 2, 3, 4, 5, 6, 7, 8, 10] rfl)
        · replace h := z_iff h c38
          refine lv_iload_n hx hb dX7_rots_191 rfl (lv_at hl 3 rfl) ?_
          refine lv_i2l (v := v3.toInt64) hx hb dX7_rots_192 rfl ?_
          refine lv_goto (tgt := 201) hx hb dX7_rots_193 (by decide) ?_
          exact w_X7_rots_b201 hc hK131 ih v1 v2 v3 v4 v5 v6 v8 v10 v13 v3.toInt64 v11 _ _ _ _ h hI (lv_sub hl [0, 1, 2, 3, 4, 5, 6, 7, 8, 10] rfl)
      · replace h := z_ift h c35
        refine lv_lconst (v := 1) hx hb dX7_rots_177 (by decide) ?_
        refine lv_goto (tgt := 201) hx hb dX7_rots_178 (by decide) ?_
        exact w_X7_rots_b201 hc hK131 ih v1 v2 v3 v4 v5 v6 v8 v10 v13 1 v11 _ _ _ _ h hI (lv_sub hl [0, 1, 2, 3, 4, 5, 6, 7, 8, 10] rfl)
set_option maxRecDepth 100000 in
set_option maxHeartbeats 4000000 in
theorem w_X7_rots_b131 (hc : z_C p s m args meth c RX7 cX7_rots 16 (some .long)) {out : (Int64 × z_M)} : ∀ (n : Nat) (v1 : Int32) (v2 : Int32) (v3 : Int32) (v4 : Int32) (v5 : Int32) (v6 : Int64) (v8 : Int64) (v10 : Int32) (M : z_M) (H : Heap) (locs : List Loc) (ls : Array Slot) (h : F_X7_rots_b131 n v1 v2 v3 v4 v5 v6 v8 v10 M = some out) (hI : z_I G s M H locs) (hl : lv_has ls 16 [(0, .ref (z_ad G 21 0)), (1, .int v1), (2, .int v2), (3, .int v3), (4, .int v4), (5, .int v5), (6, .long v6), (8, .long v8), (10, .int v10)]), W p l e (z_rm 5) s m args below meth c H locs 0 0 (MQ below (z_Q G (some (.long out.1)) out.2) args s 0 0 (z_A G)) (F0 m 131 ls []) := by
  obtain ⟨⟨hx, hb, hml, hown, hts⟩, hr, hlk⟩ := id hc
  intro n
  induction n with
  | zero => intro v1 v2 v3 v4 v5 v6 v8 v10 M H locs ls h; cases h
  | succ n ih =>
    intro v1 v2 v3 v4 v5 v6 v8 v10 M H locs ls h hI hl
    rw [F_X7_rots_b131] at h
    refine lv_iload hx hb dX7_rots_131 (lv_at hl 8 rfl) ?_
    refine lv_iload hx hb dX7_rots_133 (lv_at hl 5 rfl) ?_
    refine lv_icmp_gt (tgt := 272) hx hb dX7_rots_135 (by decide) (fun c17 => ?_) (fun c17 => ?_)
    · replace h := z_ift h c17
      refine lv_lload hx hb dX7_rots_272 (lv_at hl 7 rfl) ?_
      refine lv_lstore (lv' := [(10, .long v8), (0, .ref (z_ad G 21 0)), (1, .int v1), (2, .int v2), (3, .int v3), (4, .int v4), (5, .int v5), (6, .long v6), (8, .long v8)]) hx hb dX7_rots_274 hl (by decide) rfl (fun ls hl => ?_)
      refine lv_lload hx hb dX7_rots_276 (lv_at hl 7 rfl) ?_
      refine lv_lstore (lv' := [(12, .long v6), (10, .long v8), (0, .ref (z_ad G 21 0)), (1, .int v1), (2, .int v2), (3, .int v3), (4, .int v4), (5, .int v5), (6, .long v6), (8, .long v8)]) hx hb dX7_rots_278 hl (by decide) rfl (fun ls hl => ?_)
      exact w_X7_rots_b280 hc _ v4 v6 v8 v8 v6 _ _ _ _ h hI (lv_sub hl [6, 8, 9, 1, 0] rfl)
    · replace h := z_iff h c17
      refine lv_iload hx hb dX7_rots_138 (lv_at hl 8 rfl) ?_
      refine lv_iload hx hb dX7_rots_140 (lv_at hl 5 rfl) ?_
      refine lv_iconst (v := (-1)) hx hb dX7_rots_142 (by decide) ?_
      refine lv_ixor hx hb dX7_rots_143 ?_
      refine lv_iand hx hb dX7_rots_144 ?_
      refine lv_if_ne (tgt := 266) hx hb dX7_rots_145 (by decide) (fun c24 => ?_) (fun c24 => ?_)
      · replace h := z_iff h c24
        exact w_X7_rots_b266 hc ih v1 v2 v3 v4 v5 v6 v8 v10 _ _ _ _ h hI hl
      · replace h := z_ift h c24
        refine lv_lconst (v := 1) hx hb dX7_rots_148 (by decide) ?_
        refine lv_lstore (lv' := [(11, .long 1), (0, .ref (z_ad G 21 0)), (1, .int v1), (2, .int v2), (3, .int v3), (4, .int v4), (5, .int v5), (6, .long v6), (8, .long v8), (10, .int v10)]) hx hb dX7_rots_149 hl (by decide) rfl (fun ls hl => ?_)
        refine lv_iconst (v := 0) hx hb dX7_rots_151 (by decide) ?_
        refine lv_istore (lv' := [(13, .int 0), (11, .long 1), (0, .ref (z_ad G 21 0)), (1, .int v1), (2, .int v2), (3, .int v3), (4, .int v4), (5, .int v5), (6, .long v6), (8, .long v8), (10, .int v10)]) hx hb dX7_rots_152 hl (by decide) rfl (fun ls hl => ?_)
        exact w_X7_rots_b154 hc ih _ v1 v2 v3 v4 v5 v6 v8 v10 1 0 _ _ _ _ h hI (lv_sub hl [2, 3, 4, 5, 6, 7, 8, 9, 10, 1, 0] rfl)
set_option maxRecDepth 100000 in
set_option maxHeartbeats 4000000 in
theorem w_X7_rots_b116 (hc : z_C p s m args meth c RX7 cX7_rots 16 (some .long)) {out : (Int64 × z_M)} {K53 : Int32 → Int32 → Int32 → Int32 → Int32 → Int64 → Int32 → z_M → Option (Int64 × z_M)} (hK53 : ∀ (v1 : Int32) (v2 : Int32) (v3 : Int32) (v4 : Int32) (v5 : Int32) (v6 : Int64) (v8 : Int32) (M : z_M) (H : Heap) (locs : List Loc) (ls : Array Slot), K53 v1 v2 v3 v4 v5 v6 v8 M = some out → z_I G s M H locs → lv_has ls 16 [(0, .ref (z_ad G 21 0)), (1, .int v1), (2, .int v2), (3, .int v3), (4, .int v4), (5, .int v5), (6, .long v6), (8, .int v8)] → W p l e (z_rm 5) s m args below meth c H locs 0 0 (MQ below (z_Q G (some (.long out.1)) out.2) args s 0 0 (z_A G)) (F0 m 53 ls [])) (v1 : Int32) (v2 : Int32) (v3 : Int32) (v4 : Int32) (v5 : Int32) (v8 : Int32) (s0 : Int64) (s1 : Int64) (M : z_M) (H : Heap) (locs : List Loc) (ls : Array Slot) (h : F_X7_rots_b116 K53 v1 v2 v3 v4 v5 v8 s0 s1 M = some out) (hI : z_I G s M H locs) (hl : lv_has ls 16 [(0, .ref (z_ad G 21 0)), (1, .int v1), (2, .int v2), (3, .int v3), (4, .int v4), (5, .int v5), (8, .int v8)]) : W p l e (z_rm 5) s m args below meth c H locs 0 0 (MQ below (z_Q G (some (.long out.1)) out.2) args s 0 0 (z_A G)) (F0 m 116 ls [.long s0, .long s1]) := by
  obtain ⟨⟨hx, hb, hml, hown, hts⟩, hr, hlk⟩ := id hc
  unfold F_X7_rots_b116 at h
  refine lv_lmul hx hb dX7_rots_116 ?_
  refine z_nL h (fun x50 h => ?_)
  refine lv_lstore (lv' := [(6, .long x50), (0, .ref (z_ad G 21 0)), (1, .int v1), (2, .int v2), (3, .int v3), (4, .int v4), (5, .int v5), (8, .int v8)]) hx hb dX7_rots_117 hl (by decide) rfl (fun ls hl => ?_)
  refine lv_iinc (v := v8 + 1) (lv' := [(8, .int (v8 + 1)), (6, .long x50), (0, .ref (z_ad G 21 0)), (1, .int v1), (2, .int v2), (3, .int v3), (4, .int v4), (5, .int v5)]) hx hb dX7_rots_119 hl (k := 7) rfl rfl (by decide) rfl (fun ls hl => ?_)
  refine lv_goto (tgt := 53) hx hb dX7_rots_122 (by decide) ?_
  exact hK53 v1 v2 v3 v4 v5 x50 (v8 + 1) _ _ _ _ h hI (lv_sub hl [2, 3, 4, 5, 6, 7, 1, 0] rfl)
set_option maxRecDepth 100000 in
set_option maxHeartbeats 4000000 in
theorem w_X7_rots_b99 (hc : z_C p s m args meth c RX7 cX7_rots 16 (some .long)) {out : (Int64 × z_M)} {K53 : Int32 → Int32 → Int32 → Int32 → Int32 → Int64 → Int32 → z_M → Option (Int64 × z_M)} (hK53 : ∀ (v1 : Int32) (v2 : Int32) (v3 : Int32) (v4 : Int32) (v5 : Int32) (v6 : Int64) (v8 : Int32) (M : z_M) (H : Heap) (locs : List Loc) (ls : Array Slot), K53 v1 v2 v3 v4 v5 v6 v8 M = some out → z_I G s M H locs → lv_has ls 16 [(0, .ref (z_ad G 21 0)), (1, .int v1), (2, .int v2), (3, .int v3), (4, .int v4), (5, .int v5), (6, .long v6), (8, .int v8)] → W p l e (z_rm 5) s m args below meth c H locs 0 0 (MQ below (z_Q G (some (.long out.1)) out.2) args s 0 0 (z_A G)) (F0 m 53 ls [])) (v1 : Int32) (v2 : Int32) (v3 : Int32) (v4 : Int32) (v6 : Int64) (v8 : Int32) (v9 : Int32) (s0 : Int32) (s1 : Int32) (M : z_M) (H : Heap) (locs : List Loc) (ls : Array Slot) (h : F_X7_rots_b99 K53 v1 v2 v3 v4 v6 v8 v9 s0 s1 M = some out) (hI : z_I G s M H locs) (hl : lv_has ls 16 [(0, .ref (z_ad G 21 0)), (1, .int v1), (2, .int v2), (3, .int v3), (4, .int v4), (6, .long v6), (8, .int v8), (9, .int v9)]) : W p l e (z_rm 5) s m args below meth c H locs 0 0 (MQ below (z_Q G (some (.long out.1)) out.2) args s 0 0 (z_A G)) (F0 m 99 ls [.int s0, .int s1]) := by
  obtain ⟨⟨hx, hb, hml, hown, hts⟩, hr, hlk⟩ := id hc
  unfold F_X7_rots_b99 at h
  refine lv_ior hx hb dX7_rots_99 ?_
  refine z_nI h (fun x48 h => ?_)
  refine lv_istore (lv' := [(5, .int x48), (0, .ref (z_ad G 21 0)), (1, .int v1), (2, .int v2), (3, .int v3), (4, .int v4), (6, .long v6), (8, .int v8), (9, .int v9)]) hx hb dX7_rots_100 hl (by decide) rfl (fun ls hl => ?_)
  refine lv_lload hx hb dX7_rots_102 (lv_at hl 6 rfl) ?_
  refine lv_iload hx hb dX7_rots_104 (lv_at hl 8 rfl) ?_
  refine lv_if_eq (tgt := 115) hx hb dX7_rots_106 (by decide) (fun c49 => ?_) (fun c49 => ?_)
  · replace h := z_ift h c49
    refine lv_lconst (v := 1) hx hb dX7_rots_115 (by decide) ?_
    exact w_X7_rots_b116 hc hK53 v1 v2 v3 v4 x48 v8 1 v6 _ _ _ _ h hI (lv_sub hl [1, 2, 3, 4, 5, 0, 7] rfl)
  · replace h := z_iff h c49
    refine lv_ldc2 (v := 10) hx hb hown (hts _ wd_6_64) dX7_rots_109 ?_
    refine lv_goto (tgt := 116) hx hb dX7_rots_112 (by decide) ?_
    exact w_X7_rots_b116 hc hK53 v1 v2 v3 v4 x48 v8 10 v6 _ _ _ _ h hI (lv_sub hl [1, 2, 3, 4, 5, 0, 7] rfl)
set_option maxRecDepth 100000 in
set_option maxHeartbeats 4000000 in
theorem w_X7_rots_b82 (hc : z_C p s m args meth c RX7 cX7_rots 16 (some .long)) {out : (Int64 × z_M)} {K53 : Int32 → Int32 → Int32 → Int32 → Int32 → Int64 → Int32 → z_M → Option (Int64 × z_M)} (hK53 : ∀ (v1 : Int32) (v2 : Int32) (v3 : Int32) (v4 : Int32) (v5 : Int32) (v6 : Int64) (v8 : Int32) (M : z_M) (H : Heap) (locs : List Loc) (ls : Array Slot), K53 v1 v2 v3 v4 v5 v6 v8 M = some out → z_I G s M H locs → lv_has ls 16 [(0, .ref (z_ad G 21 0)), (1, .int v1), (2, .int v2), (3, .int v3), (4, .int v4), (5, .int v5), (6, .long v6), (8, .int v8)] → W p l e (z_rm 5) s m args below meth c H locs 0 0 (MQ below (z_Q G (some (.long out.1)) out.2) args s 0 0 (z_A G)) (F0 m 53 ls [])) (v1 : Int32) (v2 : Int32) (v3 : Int32) (v4 : Int32) (v5 : Int32) (v6 : Int64) (v8 : Int32) (s0 : Int32) (M : z_M) (H : Heap) (locs : List Loc) (ls : Array Slot) (h : F_X7_rots_b82 K53 v1 v2 v3 v4 v5 v6 v8 s0 M = some out) (hI : z_I G s M H locs) (hl : lv_has ls 16 [(0, .ref (z_ad G 21 0)), (1, .int v1), (2, .int v2), (3, .int v3), (4, .int v4), (5, .int v5), (6, .long v6), (8, .int v8)]) : W p l e (z_rm 5) s m args below meth c H locs 0 0 (MQ below (z_Q G (some (.long out.1)) out.2) args s 0 0 (z_A G)) (F0 m 82 ls [.int s0]) := by
  obtain ⟨⟨hx, hb, hml, hown, hts⟩, hr, hlk⟩ := id hc
  unfold F_X7_rots_b82 at h
  refine lv_istore (lv' := [(9, .int s0), (0, .ref (z_ad G 21 0)), (1, .int v1), (2, .int v2), (3, .int v3), (4, .int v4), (5, .int v5), (6, .long v6), (8, .int v8)]) hx hb dX7_rots_82 hl (by decide) rfl (fun ls hl => ?_)
  refine lv_iload hx hb dX7_rots_84 (lv_at hl 6 rfl) ?_
  refine lv_iload hx hb dX7_rots_86 (lv_at hl 0 rfl) ?_
  refine lv_if_eq (tgt := 98) hx hb dX7_rots_88 (by decide) (fun c47 => ?_) (fun c47 => ?_)
  · replace h := z_ift h c47
    refine lv_iconst (v := 0) hx hb dX7_rots_98 (by decide) ?_
    exact w_X7_rots_b99 hc hK53 v1 v2 v3 v4 v6 v8 s0 0 v5 _ _ _ _ h hI (lv_sub hl [1, 2, 3, 4, 5, 7, 8, 0] rfl)
  · replace h := z_iff h c47
    refine lv_iconst (v := 1) hx hb dX7_rots_91 (by decide) ?_
    refine lv_iload hx hb dX7_rots_92 (lv_at hl 8 rfl) ?_
    refine lv_ishl hx hb dX7_rots_94 ?_
    refine lv_goto (tgt := 99) hx hb dX7_rots_95 (by decide) ?_
    exact w_X7_rots_b99 hc hK53 v1 v2 v3 v4 v6 v8 s0 ((1 : Int32) <<< (v8 &&& 31)) v5 _ _ _ _ h hI (lv_sub hl [1, 2, 3, 4, 5, 7, 8, 0] rfl)
set_option maxRecDepth 100000 in
set_option maxHeartbeats 4000000 in
theorem w_X7_rots_b53 (hc : z_C p s m args meth c RX7 cX7_rots 16 (some .long)) {out : (Int64 × z_M)} : ∀ (n : Nat) (v1 : Int32) (v2 : Int32) (v3 : Int32) (v4 : Int32) (v5 : Int32) (v6 : Int64) (v8 : Int32) (M : z_M) (H : Heap) (locs : List Loc) (ls : Array Slot) (h : F_X7_rots_b53 n v1 v2 v3 v4 v5 v6 v8 M = some out) (hI : z_I G s M H locs) (hl : lv_has ls 16 [(0, .ref (z_ad G 21 0)), (1, .int v1), (2, .int v2), (3, .int v3), (4, .int v4), (5, .int v5), (6, .long v6), (8, .int v8)]), W p l e (z_rm 5) s m args below meth c H locs 0 0 (MQ below (z_Q G (some (.long out.1)) out.2) args s 0 0 (z_A G)) (F0 m 53 ls []) := by
  obtain ⟨⟨hx, hb, hml, hown, hts⟩, hr, hlk⟩ := id hc
  intro n
  induction n with
  | zero => intro v1 v2 v3 v4 v5 v6 v8 M H locs ls h; cases h
  | succ n ih =>
    intro v1 v2 v3 v4 v5 v6 v8 M H locs ls h hI hl
    rw [F_X7_rots_b53] at h
    refine lv_iload hx hb dX7_rots_53 (lv_at hl 7 rfl) ?_
    refine lv_aload_n hx hb dX7_rots_55 rfl (lv_at hl 0 rfl) ?_
    refine gf_X7_19 hc hI dX7_rots_56 ?_
    refine lv_iconst (v := 0) hx hb dX7_rots_59 (by decide) ?_
    obtain ⟨g15, h⟩ := z_grd_some h
    refine ld_k25 hc hI g15 dX7_rots_60 ?_
    refine lv_icmp_ge (tgt := 125) hx hb dX7_rots_61 (by decide) (fun c16 => ?_) (fun c16 => ?_)
    · replace h := z_ift h c16
      refine lv_lconst (v := 0) hx hb dX7_rots_125 (by decide) ?_
      refine lv_lstore (lv' := [(8, .long 0), (0, .ref (z_ad G 21 0)), (1, .int v1), (2, .int v2), (3, .int v3), (4, .int v4), (5, .int v5), (6, .long v6)]) hx hb dX7_rots_126 hl (by decide) rfl (fun ls hl => ?_)
      refine lv_iconst (v := 0) hx hb dX7_rots_128 (by decide) ?_
      refine lv_istore (lv' := [(10, .int 0), (8, .long 0), (0, .ref (z_ad G 21 0)), (1, .int v1), (2, .int v2), (3, .int v3), (4, .int v4), (5, .int v5), (6, .long v6)]) hx hb dX7_rots_129 hl (by decide) rfl (fun ls hl => ?_)
      exact w_X7_rots_b131 hc _ v1 v2 v3 v4 v5 v6 0 0 _ _ _ _ h hI (lv_sub hl [2, 3, 4, 5, 6, 7, 8, 1, 0] rfl)
    · replace h := z_iff h c16
      refine lv_aload_n hx hb dX7_rots_64 rfl (lv_at hl 0 rfl) ?_
      refine gf_X7_19 hc hI dX7_rots_65 ?_
      refine lv_iconst (v := 5) hx hb dX7_rots_68 (by decide) ?_
      refine lv_iload hx hb dX7_rots_69 (lv_at hl 7 rfl) ?_
      refine lv_iadd hx hb dX7_rots_71 ?_
      obtain ⟨g45, h⟩ := z_grd_some h
      refine ld_k25 hc hI g45 dX7_rots_72 ?_
      refine lv_iconst (v := 4) hx hb dX7_rots_73 (by decide) ?_
      refine lv_icmp_ge (tgt := 81) hx hb dX7_rots_74 (by decide) (fun c46 => ?_) (fun c46 => ?_)
      · replace h := z_ift h c46
        refine lv_iconst (v := 0) hx hb dX7_rots_81 (by decide) ?_
        exact w_X7_rots_b82 hc ih v1 v2 v3 v4 v5 v6 v8 0 _ _ _ _ h hI hl
      · replace h := z_iff h c46
        refine lv_iconst (v := 1) hx hb dX7_rots_77 (by decide) ?_
        refine lv_goto (tgt := 82) hx hb dX7_rots_78 (by decide) ?_
        exact w_X7_rots_b82 hc ih v1 v2 v3 v4 v5 v6 v8 1 _ _ _ _ h hI hl
set_option maxRecDepth 100000 in
set_option maxHeartbeats 4000000 in
theorem c_X7_rots {G : z_G} {l : Launch} {a1 : Int32} {a2 : Int32} {a3 : Int32} {a4 : Int32} {M : z_M} {out : (Int64 × z_M)} (h : F_X7_rots a1 a2 a3 a4 M = some out) : z_Met G l yX7_rots cX7_rots 16 (some .long) 5 [.ref (z_ad G 21 0), .int a1, .int a2, .int a3, .int a4] M (some (.long out.1)) out.2 := by
  unfold F_X7_rots at h
  refine z_met_of (by decide) rfl (Nat.le_of_ble_eq_true rfl) (fun p e s m below meth c ls hc hI hl => ?_)
  obtain ⟨⟨hx, hb, hml, hown, hts⟩, hr, hlk⟩ := id hc
  have hl : lv_has ls 16 [(0, .ref (z_ad G 21 0)), (1, .int a1), (2, .int a2), (3, .int a3), (4, .int a4)] := hl
  refine lv_aload_n hx hb dX7_rots_0 rfl (lv_at hl 0 rfl) ?_
  refine lv_iload_n hx hb dX7_rots_1 rfl (lv_at hl 1 rfl) ?_
  obtain ⟨q1, e2, h⟩ := z_bnd h
  refine iv_X7_194 hc hI (c_X7_isWalker e2) (z_room (by decide) (by decide)) hl.1 (Nat.le_of_ble_eq_true rfl) ⟨Nat.zero_le _, Nat.zero_le _⟩ dX7_rots_2 (fun H locs hI => ?_)
  refine lv_if_eq (tgt := 36) hx hb dX7_rots_5 (by decide) (fun c3 => ?_) (fun c3 => ?_)
  · replace h := z_ift h c3
    refine lv_ldc2 (v := (-1000001)) hx hb hown (hts _ wd_6_65) dX7_rots_36 ?_
    obtain rfl := Option.some.inj h
    exact z_rl hc hI dX7_rots_39
  · replace h := z_iff h c3
    refine lv_aload_n hx hb dX7_rots_8 rfl (lv_at hl 0 rfl) ?_
    refine lv_iload_n hx hb dX7_rots_9 rfl (lv_at hl 2 rfl) ?_
    obtain ⟨q4, e5, h⟩ := z_bnd h
    refine iv_X7_185 hc hI (c_X7_isTread e5) (z_room (by decide) (by decide)) hl.1 (Nat.le_of_ble_eq_true rfl) ⟨Nat.zero_le _, Nat.zero_le _⟩ dX7_rots_10 (fun H locs hI => ?_)
    refine lv_if_eq (tgt := 36) hx hb dX7_rots_13 (by decide) (fun c6 => ?_) (fun c6 => ?_)
    · replace h := z_ift h c6
      refine lv_ldc2 (v := (-1000001)) hx hb hown (hts _ wd_6_65) dX7_rots_36 ?_
      obtain rfl := Option.some.inj h
      exact z_rl hc hI dX7_rots_39
    · replace h := z_iff h c6
      refine lv_iload_n hx hb dX7_rots_16 rfl (lv_at hl 3 rfl) ?_
      refine lv_i2l (v := a3.toInt64) hx hb dX7_rots_17 rfl ?_
      refine lv_lconst (v := 0) hx hb dX7_rots_18 (by decide) ?_
      refine lv_ldc2 (v := 10) hx hb hown (hts _ wd_6_64) dX7_rots_19 ?_
      obtain ⟨q7, e8, h⟩ := z_bnd h
      refine iv_X7_54 hc hI (c_X7_in e8) (z_room (by decide) (by decide)) hl.1 (Nat.le_of_ble_eq_true rfl) ⟨Nat.zero_le _, Nat.zero_le _⟩ dX7_rots_22 (fun H locs hI => ?_)
      refine lv_if_eq (tgt := 36) hx hb dX7_rots_25 (by decide) (fun c9 => ?_) (fun c9 => ?_)
      · replace h := z_ift h c9
        refine lv_ldc2 (v := (-1000001)) hx hb hown (hts _ wd_6_65) dX7_rots_36 ?_
        obtain rfl := Option.some.inj h
        exact z_rl hc hI dX7_rots_39
      · replace h := z_iff h c9
        refine lv_iload hx hb dX7_rots_28 (lv_at hl 4 rfl) ?_
        obtain ⟨q10, e11, h⟩ := z_bnd h
        refine iv_X7_216 hc hI (c_X7_isWhat e11) (z_room (by decide) (by decide)) hl.1 (Nat.le_of_ble_eq_true rfl) ⟨Nat.zero_le _, Nat.zero_le _⟩ dX7_rots_30 (fun H locs hI => ?_)
        refine lv_if_ne (tgt := 40) hx hb dX7_rots_33 (by decide) (fun c12 => ?_) (fun c12 => ?_)
        · replace h := z_iff h c12
          refine lv_aload_n hx hb dX7_rots_40 rfl (lv_at hl 0 rfl) ?_
          obtain ⟨q13, e14, h⟩ := z_bnd h
          refine iv_X7_219 hc hI (c_X7_putAside e14) (z_room (by decide) (by decide)) hl.1 (Nat.le_of_ble_eq_true rfl) ⟨Nat.zero_le _, Nat.zero_le _⟩ dX7_rots_41 (fun H locs hI => ?_)
          refine lv_iconst (v := 0) hx hb dX7_rots_44 (by decide) ?_
          refine lv_istore (lv' := [(5, .int 0), (0, .ref (z_ad G 21 0)), (1, .int a1), (2, .int a2), (3, .int a3), (4, .int a4)]) hx hb dX7_rots_45 hl (by decide) rfl (fun ls hl => ?_)
          refine lv_lconst (v := 1) hx hb dX7_rots_47 (by decide) ?_
          refine lv_lstore (lv' := [(6, .long 1), (5, .int 0), (0, .ref (z_ad G 21 0)), (1, .int a1), (2, .int a2), (3, .int a3), (4, .int a4)]) hx hb dX7_rots_48 hl (by decide) rfl (fun ls hl => ?_)
          refine lv_iconst (v := 0) hx hb dX7_rots_50 (by decide) ?_
          refine lv_istore (lv' := [(8, .int 0), (6, .long 1), (5, .int 0), (0, .ref (z_ad G 21 0)), (1, .int a1), (2, .int a2), (3, .int a3), (4, .int a4)]) hx hb dX7_rots_51 hl (by decide) rfl (fun ls hl => ?_)
          exact w_X7_rots_b53 hc _ a1 a2 a3 a4 0 1 0 _ _ _ _ h hI (lv_sub hl [3, 4, 5, 6, 7, 2, 1, 0] rfl)
        · replace h := z_ift h c12
          refine lv_ldc2 (v := (-1000001)) hx hb hown (hts _ wd_6_65) dX7_rots_36 ?_
          obtain rfl := Option.some.inj h
          exact z_rl hc hI dX7_rots_39
set_option maxRecDepth 100000 in
set_option maxHeartbeats 4000000 in
theorem w_X7_soundsMany_b42 {M : z_M} (hc : z_C p s m args meth c RX7 cX7_soundsMany 4 (some .int)) {out : Int32} {K4 : Int32 → Int32 → Option Int32} (hK4 : ∀ (v1 : Int32) (v2 : Int32) (H : Heap) (locs : List Loc) (ls : Array Slot), K4 v1 v2 = some out → z_I G s M H locs → lv_has ls 4 [(0, .ref (z_ad G 21 0)), (1, .int v1), (2, .int v2)] → W p l e (z_rm 5) s m args below meth c H locs 0 0 (MQ below (z_Q G (some (.int out)) M) args s 0 0 (z_A G)) (F0 m 4 ls [])) {K16 : Int32 → Int32 → Int32 → Option Int32} (hK16 : ∀ (v1 : Int32) (v2 : Int32) (v3 : Int32) (H : Heap) (locs : List Loc) (ls : Array Slot), K16 v1 v2 v3 = some out → z_I G s M H locs → lv_has ls 4 [(0, .ref (z_ad G 21 0)), (1, .int v1), (2, .int v2), (3, .int v3)] → W p l e (z_rm 5) s m args below meth c H locs 0 0 (MQ below (z_Q G (some (.int out)) M) args s 0 0 (z_A G)) (F0 m 16 ls [])) (v2 : Int32) (v3 : Int32) (s0 : Int32) (s1 : Int32) (H : Heap) (locs : List Loc) (ls : Array Slot) (h : F_X7_soundsMany_b42 M K4 K16 v2 v3 s0 s1 = some out) (hI : z_I G s M H locs) (hl : lv_has ls 4 [(0, .ref (z_ad G 21 0)), (2, .int v2), (3, .int v3)]) : W p l e (z_rm 5) s m args below meth c H locs 0 0 (MQ below (z_Q G (some (.int out)) M) args s 0 0 (z_A G)) (F0 m 42 ls [.int s0, .int s1]) := by
  obtain ⟨⟨hx, hb, hml, hown, hts⟩, hr, hlk⟩ := id hc
  unfold F_X7_soundsMany_b42 at h
  refine lv_iadd hx hb dX7_soundsMany_42 ?_
  refine z_nI h (fun x9 h => ?_)
  refine lv_istore_n (lv' := [(1, .int x9), (0, .ref (z_ad G 21 0)), (2, .int v2), (3, .int v3)]) hx hb dX7_soundsMany_43 rfl hl (by decide) rfl (fun ls hl => ?_)
  refine lv_iinc (v := v3 + 1) (lv' := [(3, .int (v3 + 1)), (1, .int x9), (0, .ref (z_ad G 21 0)), (2, .int v2)]) hx hb dX7_soundsMany_44 hl (k := 3) rfl rfl (by decide) rfl (fun ls hl => ?_)
  refine lv_goto (tgt := 16) hx hb dX7_soundsMany_47 (by decide) ?_
  exact hK16 x9 v2 (v3 + 1) _ _ _ h hI (lv_sub hl [2, 1, 3, 0] rfl)
set_option maxRecDepth 100000 in
set_option maxHeartbeats 4000000 in
theorem w_X7_soundsMany_b16 {M : z_M} (hc : z_C p s m args meth c RX7 cX7_soundsMany 4 (some .int)) {out : Int32} {K4 : Int32 → Int32 → Option Int32} (hK4 : ∀ (v1 : Int32) (v2 : Int32) (H : Heap) (locs : List Loc) (ls : Array Slot), K4 v1 v2 = some out → z_I G s M H locs → lv_has ls 4 [(0, .ref (z_ad G 21 0)), (1, .int v1), (2, .int v2)] → W p l e (z_rm 5) s m args below meth c H locs 0 0 (MQ below (z_Q G (some (.int out)) M) args s 0 0 (z_A G)) (F0 m 4 ls [])) : ∀ (n : Nat) (v1 : Int32) (v2 : Int32) (v3 : Int32) (H : Heap) (locs : List Loc) (ls : Array Slot) (h : F_X7_soundsMany_b16 M K4 n v1 v2 v3 = some out) (hI : z_I G s M H locs) (hl : lv_has ls 4 [(0, .ref (z_ad G 21 0)), (1, .int v1), (2, .int v2), (3, .int v3)]), W p l e (z_rm 5) s m args below meth c H locs 0 0 (MQ below (z_Q G (some (.int out)) M) args s 0 0 (z_A G)) (F0 m 16 ls []) := by
  obtain ⟨⟨hx, hb, hml, hown, hts⟩, hr, hlk⟩ := id hc
  intro n
  induction n with
  | zero => intro v1 v2 v3 H locs ls h; cases h
  | succ n ih =>
    intro v1 v2 v3 H locs ls h hI hl
    rw [F_X7_soundsMany_b16] at h
    refine lv_iload_n hx hb dX7_soundsMany_16 rfl (lv_at hl 3 rfl) ?_
    refine lv_aload_n hx hb dX7_soundsMany_17 rfl (lv_at hl 0 rfl) ?_
    refine lv_iload_n hx hb dX7_soundsMany_18 rfl (lv_at hl 2 rfl) ?_
    obtain ⟨q3, e4, h⟩ := z_bnd h
    refine iv_X7_150 hc hI (c_X7_longOf e4) (z_room (by decide) (by decide)) hl.1 (Nat.le_of_ble_eq_true rfl) ⟨Nat.zero_le _, Nat.zero_le _⟩ dX7_soundsMany_19 (fun H locs hI => ?_)
    refine lv_icmp_ge (tgt := 50) hx hb dX7_soundsMany_22 (by decide) (fun c5 => ?_) (fun c5 => ?_)
    · replace h := z_ift h c5
      refine lv_iinc (v := v2 + 1) (lv' := [(2, .int (v2 + 1)), (0, .ref (z_ad G 21 0)), (1, .int v1), (3, .int v3)]) hx hb dX7_soundsMany_50 hl (k := 2) rfl rfl (by decide) rfl (fun ls hl => ?_)
      refine lv_goto (tgt := 4) hx hb dX7_soundsMany_53 (by decide) ?_
      exact hK4 v1 (v2 + 1) _ _ _ h hI (lv_sub hl [1, 2, 0] rfl)
    · replace h := z_iff h c5
      refine lv_iload_n hx hb dX7_soundsMany_25 rfl (lv_at hl 1 rfl) ?_
      refine lv_aload_n hx hb dX7_soundsMany_26 rfl (lv_at hl 0 rfl) ?_
      refine lv_iload_n hx hb dX7_soundsMany_27 rfl (lv_at hl 2 rfl) ?_
      refine lv_iload_n hx hb dX7_soundsMany_28 rfl (lv_at hl 3 rfl) ?_
      obtain ⟨q6, e7, h⟩ := z_bnd h
      refine iv_X7_204 hc hI (c_X7_tuneOf e7) (z_room (by decide) (by decide)) hl.1 (Nat.le_of_ble_eq_true rfl) ⟨Nat.zero_le _, Nat.zero_le _⟩ dX7_soundsMany_29 (fun H locs hI => ?_)
      refine lv_bipush (v := 10) hx hb dX7_soundsMany_32 (by decide) ?_
      refine lv_icmp_ge (tgt := 41) hx hb dX7_soundsMany_34 (by decide) (fun c8 => ?_) (fun c8 => ?_)
      · replace h := z_ift h c8
        refine lv_iconst (v := 0) hx hb dX7_soundsMany_41 (by decide) ?_
        exact w_X7_soundsMany_b42 hc hK4 ih v2 v3 0 v1 _ _ _ h hI (lv_sub hl [0, 2, 3] rfl)
      · replace h := z_iff h c8
        refine lv_iconst (v := 1) hx hb dX7_soundsMany_37 (by decide) ?_
        refine lv_goto (tgt := 42) hx hb dX7_soundsMany_38 (by decide) ?_
        exact w_X7_soundsMany_b42 hc hK4 ih v2 v3 1 v1 _ _ _ h hI (lv_sub hl [0, 2, 3] rfl)
set_option maxRecDepth 100000 in
set_option maxHeartbeats 4000000 in
theorem w_X7_soundsMany_b4 {M : z_M} (hc : z_C p s m args meth c RX7 cX7_soundsMany 4 (some .int)) {out : Int32} : ∀ (n : Nat) (v1 : Int32) (v2 : Int32) (H : Heap) (locs : List Loc) (ls : Array Slot) (h : F_X7_soundsMany_b4 M n v1 v2 = some out) (hI : z_I G s M H locs) (hl : lv_has ls 4 [(0, .ref (z_ad G 21 0)), (1, .int v1), (2, .int v2)]), W p l e (z_rm 5) s m args below meth c H locs 0 0 (MQ below (z_Q G (some (.int out)) M) args s 0 0 (z_A G)) (F0 m 4 ls []) := by
  obtain ⟨⟨hx, hb, hml, hown, hts⟩, hr, hlk⟩ := id hc
  intro n
  induction n with
  | zero => intro v1 v2 H locs ls h; cases h
  | succ n ih =>
    intro v1 v2 H locs ls h hI hl
    rw [F_X7_soundsMany_b4] at h
    refine lv_iload_n hx hb dX7_soundsMany_4 rfl (lv_at hl 2 rfl) ?_
    refine lv_aload_n hx hb dX7_soundsMany_5 rfl (lv_at hl 0 rfl) ?_
    refine gf_X7_19 hc hI dX7_soundsMany_6 ?_
    refine lv_iconst (v := 1) hx hb dX7_soundsMany_9 (by decide) ?_
    obtain ⟨g1, h⟩ := z_grd_some h
    refine ld_k25 hc hI g1 dX7_soundsMany_10 ?_
    refine lv_icmp_ge (tgt := 56) hx hb dX7_soundsMany_11 (by decide) (fun c2 => ?_) (fun c2 => ?_)
    · replace h := z_ift h c2
      refine lv_iload_n hx hb dX7_soundsMany_56 rfl (lv_at hl 1 rfl) ?_
      obtain rfl := Option.some.inj h
      exact z_ri hc hI dX7_soundsMany_57
    · replace h := z_iff h c2
      refine lv_iconst (v := 0) hx hb dX7_soundsMany_14 (by decide) ?_
      refine lv_istore_n (lv' := [(3, .int 0), (0, .ref (z_ad G 21 0)), (1, .int v1), (2, .int v2)]) hx hb dX7_soundsMany_15 rfl hl (by decide) rfl (fun ls hl => ?_)
      exact w_X7_soundsMany_b16 hc ih _ v1 v2 0 _ _ _ h hI (lv_sub hl [1, 2, 3, 0] rfl)
set_option maxRecDepth 100000 in
set_option maxHeartbeats 4000000 in
theorem c_X7_soundsMany {G : z_G} {l : Launch} {M : z_M} {out : Int32} (h : F_X7_soundsMany M = some out) : z_Met G l yX7_soundsMany cX7_soundsMany 4 (some .int) 5 [.ref (z_ad G 21 0)] M (some (.int out)) M := by
  unfold F_X7_soundsMany at h
  refine z_met_of (by decide) rfl (Nat.le_of_ble_eq_true rfl) (fun p e s m below meth c ls hc hI hl => ?_)
  obtain ⟨⟨hx, hb, hml, hown, hts⟩, hr, hlk⟩ := id hc
  have hl : lv_has ls 4 [(0, .ref (z_ad G 21 0))] := hl
  refine lv_iconst (v := 0) hx hb dX7_soundsMany_0 (by decide) ?_
  refine lv_istore_n (lv' := [(1, .int 0), (0, .ref (z_ad G 21 0))]) hx hb dX7_soundsMany_1 rfl hl (by decide) rfl (fun ls hl => ?_)
  refine lv_iconst (v := 0) hx hb dX7_soundsMany_2 (by decide) ?_
  refine lv_istore_n (lv' := [(2, .int 0), (1, .int 0), (0, .ref (z_ad G 21 0))]) hx hb dX7_soundsMany_3 rfl hl (by decide) rfl (fun ls hl => ?_)
  exact w_X7_soundsMany_b4 hc _ 0 0 _ _ _ h hI (lv_sub hl [2, 1, 0] rfl)
set_option maxRecDepth 100000 in
set_option maxHeartbeats 4000000 in
theorem w_X7_allTones_b4 {M : z_M} (hc : z_C p s m args meth c RX7 cX7_allTones 3 (some .int)) {out : Int32} : ∀ (n : Nat) (v1 : Int32) (v2 : Int32) (H : Heap) (locs : List Loc) (ls : Array Slot) (h : F_X7_allTones_b4 M n v1 v2 = some out) (hI : z_I G s M H locs) (hl : lv_has ls 3 [(0, .ref (z_ad G 21 0)), (1, .int v1), (2, .int v2)]), W p l e (z_rm 2) s m args below meth c H locs 0 0 (MQ below (z_Q G (some (.int out)) M) args s 0 0 (z_A G)) (F0 m 4 ls []) := by
  obtain ⟨⟨hx, hb, hml, hown, hts⟩, hr, hlk⟩ := id hc
  intro n
  induction n with
  | zero => intro v1 v2 H locs ls h; cases h
  | succ n ih =>
    intro v1 v2 H locs ls h hI hl
    rw [F_X7_allTones_b4] at h
    refine lv_iload_n hx hb dX7_allTones_4 rfl (lv_at hl 2 rfl) ?_
    refine lv_aload_n hx hb dX7_allTones_5 rfl (lv_at hl 0 rfl) ?_
    refine gf_X7_19 hc hI dX7_allTones_6 ?_
    refine lv_iconst (v := 0) hx hb dX7_allTones_9 (by decide) ?_
    obtain ⟨g1, h⟩ := z_grd_some h
    refine ld_k25 hc hI g1 dX7_allTones_10 ?_
    refine lv_icmp_ge (tgt := 28) hx hb dX7_allTones_11 (by decide) (fun c2 => ?_) (fun c2 => ?_)
    · replace h := z_ift h c2
      refine lv_iload_n hx hb dX7_allTones_28 rfl (lv_at hl 1 rfl) ?_
      obtain rfl := Option.some.inj h
      exact z_ri hc hI dX7_allTones_29
    · replace h := z_iff h c2
      refine lv_iload_n hx hb dX7_allTones_14 rfl (lv_at hl 1 rfl) ?_
      refine lv_aload_n hx hb dX7_allTones_15 rfl (lv_at hl 0 rfl) ?_
      refine lv_iload_n hx hb dX7_allTones_16 rfl (lv_at hl 2 rfl) ?_
      obtain ⟨q3, e4, h⟩ := z_bnd h
      refine iv_X7_160 hc hI (c_X7_toneOf e4) (z_room (by decide) (by decide)) hl.1 (Nat.le_of_ble_eq_true rfl) ⟨Nat.zero_le _, Nat.zero_le _⟩ dX7_allTones_17 (fun H locs hI => ?_)
      refine lv_iadd hx hb dX7_allTones_20 ?_
      refine z_nI h (fun x5 h => ?_)
      refine lv_istore_n (lv' := [(1, .int x5), (0, .ref (z_ad G 21 0)), (2, .int v2)]) hx hb dX7_allTones_21 rfl hl (by decide) rfl (fun ls hl => ?_)
      refine lv_iinc (v := v2 + 1) (lv' := [(2, .int (v2 + 1)), (1, .int x5), (0, .ref (z_ad G 21 0))]) hx hb dX7_allTones_22 hl (k := 2) rfl rfl (by decide) rfl (fun ls hl => ?_)
      refine lv_goto (tgt := 4) hx hb dX7_allTones_25 (by decide) ?_
      exact ih x5 (v2 + 1) _ _ _ h hI (lv_sub hl [2, 1, 0] rfl)
set_option maxRecDepth 100000 in
set_option maxHeartbeats 4000000 in
theorem c_X7_allTones {G : z_G} {l : Launch} {M : z_M} {out : Int32} (h : F_X7_allTones M = some out) : z_Met G l yX7_allTones cX7_allTones 3 (some .int) 2 [.ref (z_ad G 21 0)] M (some (.int out)) M := by
  unfold F_X7_allTones at h
  refine z_met_of (by decide) rfl (Nat.le_of_ble_eq_true rfl) (fun p e s m below meth c ls hc hI hl => ?_)
  obtain ⟨⟨hx, hb, hml, hown, hts⟩, hr, hlk⟩ := id hc
  have hl : lv_has ls 3 [(0, .ref (z_ad G 21 0))] := hl
  refine lv_iconst (v := 0) hx hb dX7_allTones_0 (by decide) ?_
  refine lv_istore_n (lv' := [(1, .int 0), (0, .ref (z_ad G 21 0))]) hx hb dX7_allTones_1 rfl hl (by decide) rfl (fun ls hl => ?_)
  refine lv_iconst (v := 0) hx hb dX7_allTones_2 (by decide) ?_
  refine lv_istore_n (lv' := [(2, .int 0), (1, .int 0), (0, .ref (z_ad G 21 0))]) hx hb dX7_allTones_3 rfl hl (by decide) rfl (fun ls hl => ?_)
  exact w_X7_allTones_b4 hc _ 0 0 _ _ _ h hI (lv_sub hl [2, 1, 0] rfl)
set_option maxRecDepth 100000 in
set_option maxHeartbeats 4000000 in
theorem w_X7_drawn_b178 (hc : z_C p s m args meth c RX7 cX7_drawn 8 (some .int)) {out : (Int32 × z_M)} (s0 : Int32) (M : z_M) (H : Heap) (locs : List Loc) (ls : Array Slot) (h : F_X7_drawn_b178 s0 M = some out) (hI : z_I G s M H locs) (hl : lv_has ls 8 [(0, .ref (z_ad G 21 0))]) : W p l e (z_rm 6) s m args below meth c H locs 0 0 (MQ below (z_Q G (some (.int out.1)) out.2) args s 0 0 (z_A G)) (F0 m 178 ls [.int s0]) := by
  obtain ⟨⟨hx, hb, hml, hown, hts⟩, hr, hlk⟩ := id hc
  unfold F_X7_drawn_b178 at h
  refine lv_istore (lv' := [(7, .int s0), (0, .ref (z_ad G 21 0))]) hx hb dX7_drawn_178 hl (by decide) rfl (fun ls hl => ?_)
  refine lv_aload_n hx hb dX7_drawn_180 rfl (lv_at hl 1 rfl) ?_
  obtain ⟨q18, e19, h⟩ := z_bnd h
  refine iv_X7_222 hc hI (c_X7_takeBack e19) (z_room (by decide) (by decide)) hl.1 (Nat.le_of_ble_eq_true rfl) ⟨Nat.zero_le _, Nat.zero_le _⟩ dX7_drawn_181 (fun H locs hI => ?_)
  refine lv_iload hx hb dX7_drawn_184 (lv_at hl 0 rfl) ?_
  obtain rfl := Option.some.inj h
  exact z_ri hc hI dX7_drawn_186
set_option maxRecDepth 100000 in
set_option maxHeartbeats 4000000 in
theorem w_X7_drawn_b146 (hc : z_C p s m args meth c RX7 cX7_drawn 8 (some .int)) {out : (Int32 × z_M)} {K58 : Int32 → Int32 → Int64 → Int32 → Int32 → z_M → Option (Int32 × z_M)} (hK58 : ∀ (v1 : Int32) (v3 : Int32) (v4 : Int64) (v6 : Int32) (v7 : Int32) (M : z_M) (H : Heap) (locs : List Loc) (ls : Array Slot), K58 v1 v3 v4 v6 v7 M = some out → z_I G s M H locs → lv_has ls 8 [(0, .ref (z_ad G 21 0)), (1, .int v1), (3, .int v3), (4, .long v4), (6, .int v6), (7, .int v7)] → W p l e (z_rm 6) s m args below meth c H locs 0 0 (MQ below (z_Q G (some (.int out.1)) out.2) args s 0 0 (z_A G)) (F0 m 58 ls [])) (v1 : Int32) (v3 : Int32) (v4 : Int64) (v6 : Int32) (v7 : Int32) (M : z_M) (H : Heap) (locs : List Loc) (ls : Array Slot) (h : F_X7_drawn_b146 K58 v1 v3 v4 v6 v7 M = some out) (hI : z_I G s M H locs) (hl : lv_has ls 8 [(0, .ref (z_ad G 21 0)), (1, .int v1), (3, .int v3), (4, .long v4), (6, .int v6), (7, .int v7)]) : W p l e (z_rm 6) s m args below meth c H locs 0 0 (MQ below (z_Q G (some (.int out.1)) out.2) args s 0 0 (z_A G)) (F0 m 146 ls []) := by
  obtain ⟨⟨hx, hb, hml, hown, hts⟩, hr, hlk⟩ := id hc
  unfold F_X7_drawn_b146 at h
  refine lv_iload hx hb dX7_drawn_146 (lv_at hl 4 rfl) ?_
  refine lv_aload_n hx hb dX7_drawn_148 rfl (lv_at hl 0 rfl) ?_
  obtain ⟨q23, e24, h⟩ := z_bnd h
  refine iv_X7_277 hc hI (c_X7_soundsMany e24) (z_room (by decide) (by decide)) hl.1 (Nat.le_of_ble_eq_true rfl) ⟨Nat.zero_le _, Nat.zero_le _⟩ dX7_drawn_149 (fun H locs hI => ?_)
  refine lv_iadd hx hb dX7_drawn_152 ?_
  refine z_nI h (fun x25 h => ?_)
  refine lv_istore (lv' := [(6, .int x25), (0, .ref (z_ad G 21 0)), (1, .int v1), (3, .int v3), (4, .long v4), (7, .int v7)]) hx hb dX7_drawn_153 hl (by decide) rfl (fun ls hl => ?_)
  refine lv_aload_n hx hb dX7_drawn_155 rfl (lv_at hl 1 rfl) ?_
  obtain ⟨q26, e27, h⟩ := z_bnd h
  refine iv_X7_178 hc hI (c_X7_oneDay e27) (z_room (by decide) (by decide)) hl.1 (Nat.le_of_ble_eq_true rfl) ⟨Nat.zero_le _, Nat.zero_le _⟩ dX7_drawn_156 (fun H locs hI => ?_)
  refine lv_iinc (v := v7 + 1) (lv' := [(7, .int (v7 + 1)), (6, .int x25), (0, .ref (z_ad G 21 0)), (1, .int v1), (3, .int v3), (4, .long v4)]) hx hb dX7_drawn_159 hl (k := 5) rfl rfl (by decide) rfl (fun ls hl => ?_)
  refine lv_goto (tgt := 58) hx hb dX7_drawn_162 (by decide) ?_
  exact hK58 v1 v3 v4 x25 (v7 + 1) _ _ _ _ h hI (lv_sub hl [2, 3, 4, 5, 1, 0] rfl)
set_option maxRecDepth 100000 in
set_option maxHeartbeats 4000000 in
theorem w_X7_drawn_b109 (hc : z_C p s m args meth c RX7 cX7_drawn 8 (some .int)) {out : (Int32 × z_M)} {K58 : Int32 → Int32 → Int64 → Int32 → Int32 → z_M → Option (Int32 × z_M)} (hK58 : ∀ (v1 : Int32) (v3 : Int32) (v4 : Int64) (v6 : Int32) (v7 : Int32) (M : z_M) (H : Heap) (locs : List Loc) (ls : Array Slot), K58 v1 v3 v4 v6 v7 M = some out → z_I G s M H locs → lv_has ls 8 [(0, .ref (z_ad G 21 0)), (1, .int v1), (3, .int v3), (4, .long v4), (6, .int v6), (7, .int v7)] → W p l e (z_rm 6) s m args below meth c H locs 0 0 (MQ below (z_Q G (some (.int out.1)) out.2) args s 0 0 (z_A G)) (F0 m 58 ls [])) (v1 : Int32) (v3 : Int32) (v4 : Int64) (v6 : Int32) (v7 : Int32) (M : z_M) (H : Heap) (locs : List Loc) (ls : Array Slot) (h : F_X7_drawn_b109 K58 v1 v3 v4 v6 v7 M = some out) (hI : z_I G s M H locs) (hl : lv_has ls 8 [(0, .ref (z_ad G 21 0)), (1, .int v1), (3, .int v3), (4, .long v4), (6, .int v6), (7, .int v7)]) : W p l e (z_rm 6) s m args below meth c H locs 0 0 (MQ below (z_Q G (some (.int out.1)) out.2) args s 0 0 (z_A G)) (F0 m 109 ls []) := by
  obtain ⟨⟨hx, hb, hml, hown, hts⟩, hr, hlk⟩ := id hc
  unfold F_X7_drawn_b109 at h
  refine lv_lload hx hb dX7_drawn_109 (lv_at hl 3 rfl) ?_
  refine lv_ldc2 (v := 4) hx hb hown (hts _ wd_6_73) dX7_drawn_111 ?_
  refine lv_lrem hx hb dX7_drawn_114 (by decide) ?_
  refine lv_lconst (v := 0) hx hb dX7_drawn_115 (by decide) ?_
  refine W.lcmp hx hb dX7_drawn_116 ?_
  refine lv_if_ne (tgt := 146) hx hb dX7_drawn_117 (by decide) (fun c22 => ?_) (fun c22 => ?_)
  · replace h := z_iff h c22
    exact w_X7_drawn_b146 hc hK58 v1 v3 v4 v6 v7 _ _ _ _ h hI hl
  · replace h := z_ift h c22
    refine lv_aload_n hx hb dX7_drawn_120 rfl (lv_at hl 0 rfl) ?_
    refine gf_X7_19 hc hI dX7_drawn_121 ?_
    refine lv_bipush (v := 44) hx hb dX7_drawn_124 (by decide) ?_
    refine lv_lload hx hb dX7_drawn_126 (lv_at hl 3 rfl) ?_
    refine lv_aload_n hx hb dX7_drawn_128 rfl (lv_at hl 0 rfl) ?_
    refine gf_X7_19 hc hI dX7_drawn_129 ?_
    refine lv_iconst (v := 1) hx hb dX7_drawn_132 (by decide) ?_
    obtain ⟨g28, h⟩ := z_grd_some h
    refine ld_k25 hc hI g28 dX7_drawn_133 ?_
    refine lv_i2l (v := (z_gi M 25 0 (1 : Int32).toNatClampNeg).toInt64) hx hb dX7_drawn_134 rfl ?_
    obtain ⟨g29, h⟩ := z_grd_some h
    refine lv_lrem hx hb dX7_drawn_135 g29 ?_
    refine lv_l2i (v := (v4 - v4 / ((z_gi M 25 0 (1 : Int32).toNatClampNeg).toInt64) * ((z_gi M 25 0 (1 : Int32).toNatClampNeg).toInt64)).toInt32) hx hb dX7_drawn_136 rfl ?_
    refine lv_iadd hx hb dX7_drawn_137 ?_
    refine lv_lload hx hb dX7_drawn_138 (lv_at hl 3 rfl) ?_
    refine lv_ldc2 (v := 21) hx hb hown (hts _ wd_6_74) dX7_drawn_140 ?_
    refine lv_lrem hx hb dX7_drawn_143 (by decide) ?_
    refine lv_l2i (v := (v4 - v4 / 21 * 21).toInt32) hx hb dX7_drawn_144 rfl ?_
    obtain ⟨g30, h⟩ := z_grd_some h
    refine st_k25 hc hI g30 dX7_drawn_145 (fun H locs hI => ?_)
    exact w_X7_drawn_b146 hc hK58 v1 v3 v4 v6 v7 _ _ _ _ h hI hl
set_option maxRecDepth 100000 in
set_option maxHeartbeats 4000000 in
theorem w_X7_drawn_b58 (hc : z_C p s m args meth c RX7 cX7_drawn 8 (some .int)) {out : (Int32 × z_M)} : ∀ (n : Nat) (v1 : Int32) (v3 : Int32) (v4 : Int64) (v6 : Int32) (v7 : Int32) (M : z_M) (H : Heap) (locs : List Loc) (ls : Array Slot) (h : F_X7_drawn_b58 n v1 v3 v4 v6 v7 M = some out) (hI : z_I G s M H locs) (hl : lv_has ls 8 [(0, .ref (z_ad G 21 0)), (1, .int v1), (3, .int v3), (4, .long v4), (6, .int v6), (7, .int v7)]), W p l e (z_rm 6) s m args below meth c H locs 0 0 (MQ below (z_Q G (some (.int out.1)) out.2) args s 0 0 (z_A G)) (F0 m 58 ls []) := by
  obtain ⟨⟨hx, hb, hml, hown, hts⟩, hr, hlk⟩ := id hc
  intro n
  induction n with
  | zero => intro v1 v3 v4 v6 v7 M H locs ls h; cases h
  | succ n ih =>
    intro v1 v3 v4 v6 v7 M H locs ls h hI hl
    rw [F_X7_drawn_b58] at h
    refine lv_iload hx hb dX7_drawn_58 (lv_at hl 5 rfl) ?_
    refine lv_iload_n hx hb dX7_drawn_60 rfl (lv_at hl 1 rfl) ?_
    refine lv_icmp_ge (tgt := 165) hx hb dX7_drawn_61 (by decide) (fun c14 => ?_) (fun c14 => ?_)
    · replace h := z_ift h c14
      refine lv_iload_n hx hb dX7_drawn_165 rfl (lv_at hl 2 rfl) ?_
      refine lv_if_ne (tgt := 174) hx hb dX7_drawn_166 (by decide) (fun c15 => ?_) (fun c15 => ?_)
      · replace h := z_iff h c15
        refine lv_aload_n hx hb dX7_drawn_174 rfl (lv_at hl 0 rfl) ?_
        obtain ⟨q16, e17, h⟩ := z_bnd h
        refine iv_X7_280 hc hI (c_X7_allTones e17) (z_room (by decide) (by decide)) hl.1 (Nat.le_of_ble_eq_true rfl) ⟨Nat.zero_le _, Nat.zero_le _⟩ dX7_drawn_175 (fun H locs hI => ?_)
        exact w_X7_drawn_b178 hc q16 _ _ _ _ h hI (lv_sub hl [0] rfl)
      · replace h := z_ift h c15
        refine lv_iload hx hb dX7_drawn_169 (lv_at hl 4 rfl) ?_
        refine lv_goto (tgt := 178) hx hb dX7_drawn_171 (by decide) ?_
        exact w_X7_drawn_b178 hc v6 _ _ _ _ h hI (lv_sub hl [0] rfl)
    · replace h := z_iff h c14
      refine lv_lload hx hb dX7_drawn_64 (lv_at hl 3 rfl) ?_
      refine lv_ldc2 (v := 16807) hx hb hown (hts _ wd_6_71) dX7_drawn_66 ?_
      refine lv_lmul hx hb dX7_drawn_69 ?_
      refine lv_ldc2 (v := 2147483647) hx hb hown (hts _ wd_6_72) dX7_drawn_70 ?_
      refine lv_lrem hx hb dX7_drawn_73 (by decide) ?_
      refine z_nL h (fun x20 h => ?_)
      refine lv_lstore (lv' := [(4, .long x20), (0, .ref (z_ad G 21 0)), (1, .int v1), (3, .int v3), (6, .int v6), (7, .int v7)]) hx hb dX7_drawn_74 hl (by decide) rfl (fun ls hl => ?_)
      refine lv_lload hx hb dX7_drawn_76 (lv_at hl 0 rfl) ?_
      refine lv_ldc2 (v := 3) hx hb hown (hts _ wd_5_150) dX7_drawn_78 ?_
      refine lv_lrem hx hb dX7_drawn_81 (by decide) ?_
      refine lv_lconst (v := 0) hx hb dX7_drawn_82 (by decide) ?_
      refine W.lcmp hx hb dX7_drawn_83 ?_
      refine lv_if_ne (tgt := 109) hx hb dX7_drawn_84 (by decide) (fun c21 => ?_) (fun c21 => ?_)
      · replace h := z_iff h c21
        exact w_X7_drawn_b109 hc ih v1 v3 x20 v6 v7 _ _ _ _ h hI (lv_sub hl [1, 2, 3, 0, 4, 5] rfl)
      · replace h := z_ift h c21
        refine lv_aload_n hx hb dX7_drawn_87 rfl (lv_at hl 1 rfl) ?_
        refine lv_lload hx hb dX7_drawn_88 (lv_at hl 0 rfl) ?_
        refine lv_aload_n hx hb dX7_drawn_90 rfl (lv_at hl 1 rfl) ?_
        refine gf_X7_19 hc hI dX7_drawn_91 ?_
        refine lv_iconst (v := 0) hx hb dX7_drawn_94 (by decide) ?_
        obtain ⟨g31, h⟩ := z_grd_some h
        refine ld_k25 hc hI g31 dX7_drawn_95 ?_
        refine lv_i2l (v := (z_gi M 25 0 (0 : Int32).toNatClampNeg).toInt64) hx hb dX7_drawn_96 rfl ?_
        obtain ⟨g32, h⟩ := z_grd_some h
        refine lv_lrem hx hb dX7_drawn_97 g32 ?_
        refine lv_l2i (v := (x20 - x20 / ((z_gi M 25 0 (0 : Int32).toNatClampNeg).toInt64) * ((z_gi M 25 0 (0 : Int32).toNatClampNeg).toInt64)).toInt32) hx hb dX7_drawn_98 rfl ?_
        refine lv_lload hx hb dX7_drawn_99 (lv_at hl 0 rfl) ?_
        refine lv_ldc2 (v := 10) hx hb hown (hts _ wd_6_64) dX7_drawn_101 ?_
        refine lv_lrem hx hb dX7_drawn_104 (by decide) ?_
        refine lv_l2i (v := (x20 - x20 / 10 * 10).toInt32) hx hb dX7_drawn_105 rfl ?_
        obtain ⟨q33, e34, h⟩ := z_bnd h
        refine iv_X7_190 hc hI (c_X7_planeTo e34) (z_room (by decide) (by decide)) hl.1 (Nat.le_of_ble_eq_true rfl) ⟨Nat.zero_le _, Nat.zero_le _⟩ dX7_drawn_106 (fun H locs hI => ?_)
        exact w_X7_drawn_b109 hc ih v1 v3 x20 v6 v7 _ _ _ _ h hI (lv_sub hl [1, 2, 3, 0, 4, 5] rfl)
set_option maxRecDepth 100000 in
set_option maxHeartbeats 4000000 in
theorem c_X7_drawn {G : z_G} {l : Launch} {a1 : Int32} {a2 : Int32} {a3 : Int32} {M : z_M} {out : (Int32 × z_M)} (h : F_X7_drawn a1 a2 a3 M = some out) : z_Met G l yX7_drawn cX7_drawn 8 (some .int) 6 [.ref (z_ad G 21 0), .int a1, .int a2, .int a3] M (some (.int out.1)) out.2 := by
  unfold F_X7_drawn at h
  refine z_met_of (by decide) rfl (Nat.le_of_ble_eq_true rfl) (fun p e s m below meth c ls hc hI hl => ?_)
  obtain ⟨⟨hx, hb, hml, hown, hts⟩, hr, hlk⟩ := id hc
  have hl : lv_has ls 8 [(0, .ref (z_ad G 21 0)), (1, .int a1), (2, .int a2), (3, .int a3)] := hl
  refine lv_aload_n hx hb dX7_drawn_0 rfl (lv_at hl 0 rfl) ?_
  refine gf_X7_138 hc hI dX7_drawn_1 ?_
  refine lv_if_ne (tgt := 10) hx hb dX7_drawn_4 (by decide) (fun c1 => ?_) (fun c1 => ?_)
  · replace h := z_iff h c1
    refine lv_iload_n hx hb dX7_drawn_10 rfl (lv_at hl 1 rfl) ?_
    refine lv_i2l (v := a1.toInt64) hx hb dX7_drawn_11 rfl ?_
    refine lv_lconst (v := 0) hx hb dX7_drawn_12 (by decide) ?_
    refine lv_ldc2 (v := 60) hx hb hown (hts _ wd_5_208) dX7_drawn_13 ?_
    obtain ⟨q2, e3, h⟩ := z_bnd h
    refine iv_X7_54 hc hI (c_X7_in e3) (z_room (by decide) (by decide)) hl.1 (Nat.le_of_ble_eq_true rfl) ⟨Nat.zero_le _, Nat.zero_le _⟩ dX7_drawn_16 (fun H locs hI => ?_)
    refine lv_if_eq (tgt := 41) hx hb dX7_drawn_19 (by decide) (fun c4 => ?_) (fun c4 => ?_)
    · replace h := z_ift h c4
      refine lv_ldc (v := (-1000001)) hx hb hown (hts _ wd_5_5) dX7_drawn_41 ?_
      obtain rfl := Option.some.inj h
      exact z_ri hc hI dX7_drawn_43
    · replace h := z_iff h c4
      refine lv_iload_n hx hb dX7_drawn_22 rfl (lv_at hl 2 rfl) ?_
      refine lv_i2l (v := a2.toInt64) hx hb dX7_drawn_23 rfl ?_
      refine lv_lconst (v := 1) hx hb dX7_drawn_24 (by decide) ?_
      refine lv_ldc2 (v := 999999) hx hb hown (hts _ wd_6_70) dX7_drawn_25 ?_
      obtain ⟨q5, e6, h⟩ := z_bnd h
      refine iv_X7_54 hc hI (c_X7_in e6) (z_room (by decide) (by decide)) hl.1 (Nat.le_of_ble_eq_true rfl) ⟨Nat.zero_le _, Nat.zero_le _⟩ dX7_drawn_28 (fun H locs hI => ?_)
      refine lv_if_eq (tgt := 41) hx hb dX7_drawn_31 (by decide) (fun c7 => ?_) (fun c7 => ?_)
      · replace h := z_ift h c7
        refine lv_ldc (v := (-1000001)) hx hb hown (hts _ wd_5_5) dX7_drawn_41 ?_
        obtain rfl := Option.some.inj h
        exact z_ri hc hI dX7_drawn_43
      · replace h := z_iff h c7
        refine lv_iload_n hx hb dX7_drawn_34 rfl (lv_at hl 3 rfl) ?_
        obtain ⟨q8, e9, h⟩ := z_bnd h
        refine iv_X7_216 hc hI (c_X7_isWhat e9) (z_room (by decide) (by decide)) hl.1 (Nat.le_of_ble_eq_true rfl) ⟨Nat.zero_le _, Nat.zero_le _⟩ dX7_drawn_35 (fun H locs hI => ?_)
        refine lv_if_ne (tgt := 44) hx hb dX7_drawn_38 (by decide) (fun c10 => ?_) (fun c10 => ?_)
        · replace h := z_iff h c10
          refine lv_aload_n hx hb dX7_drawn_44 rfl (lv_at hl 0 rfl) ?_
          obtain ⟨q11, e12, h⟩ := z_bnd h
          refine iv_X7_219 hc hI (c_X7_putAside e12) (z_room (by decide) (by decide)) hl.1 (Nat.le_of_ble_eq_true rfl) ⟨Nat.zero_le _, Nat.zero_le _⟩ dX7_drawn_45 (fun H locs hI => ?_)
          refine lv_iload_n hx hb dX7_drawn_48 rfl (lv_at hl 2 rfl) ?_
          refine lv_i2l (v := a2.toInt64) hx hb dX7_drawn_49 rfl ?_
          refine z_nL h (fun x13 h => ?_)
          refine lv_lstore (lv' := [(4, .long x13), (0, .ref (z_ad G 21 0)), (1, .int a1), (2, .int a2), (3, .int a3)]) hx hb dX7_drawn_50 hl (by decide) rfl (fun ls hl => ?_)
          refine lv_iconst (v := 0) hx hb dX7_drawn_52 (by decide) ?_
          refine lv_istore (lv' := [(6, .int 0), (4, .long x13), (0, .ref (z_ad G 21 0)), (1, .int a1), (2, .int a2), (3, .int a3)]) hx hb dX7_drawn_53 hl (by decide) rfl (fun ls hl => ?_)
          refine lv_iconst (v := 0) hx hb dX7_drawn_55 (by decide) ?_
          refine lv_istore (lv' := [(7, .int 0), (6, .int 0), (4, .long x13), (0, .ref (z_ad G 21 0)), (1, .int a1), (2, .int a2), (3, .int a3)]) hx hb dX7_drawn_56 hl (by decide) rfl (fun ls hl => ?_)
          exact w_X7_drawn_b58 hc _ a1 a3 x13 0 0 _ _ _ _ h hI (lv_sub hl [3, 4, 6, 2, 1, 0] rfl)
        · replace h := z_ift h c10
          refine lv_ldc (v := (-1000001)) hx hb hown (hts _ wd_5_5) dX7_drawn_41 ?_
          obtain rfl := Option.some.inj h
          exact z_ri hc hI dX7_drawn_43
  · replace h := z_ift h c1
    refine lv_ldc (v := (-1000002)) hx hb hown (hts _ wd_5_88) dX7_drawn_7 ?_
    obtain rfl := Option.some.inj h
    exact z_ri hc hI dX7_drawn_9
set_option maxRecDepth 100000 in
set_option maxHeartbeats 4000000 in
theorem w_X7_image_b25 (hc : z_C p s m args meth c RX7 cX7_image 3 (some .int)) {out : (Int32 × z_M)} : ∀ (n : Nat) (v1 : Int32) (v2 : Int32) (M : z_M) (H : Heap) (locs : List Loc) (ls : Array Slot) (h : F_X7_image_b25 n v1 v2 M = some out) (hI : z_I G s M H locs) (hl : lv_has ls 3 [(0, .ref (z_ad G 21 0)), (1, .int v1), (2, .int v2)]), W p l e (z_rm 2) s m args below meth c H locs 0 0 (MQ below (z_Q G (some (.int out.1)) out.2) args s 0 0 (z_A G)) (F0 m 25 ls []) := by
  obtain ⟨⟨hx, hb, hml, hown, hts⟩, hr, hlk⟩ := id hc
  intro n
  induction n with
  | zero => intro v1 v2 M H locs ls h; cases h
  | succ n ih =>
    intro v1 v2 M H locs ls h hI hl
    rw [F_X7_image_b25] at h
    refine lv_iload_n hx hb dX7_image_25 rfl (lv_at hl 2 rfl) ?_
    refine lv_bipush (v := 49) hx hb dX7_image_26 (by decide) ?_
    refine lv_icmp_ge (tgt := 54) hx hb dX7_image_28 (by decide) (fun c5 => ?_) (fun c5 => ?_)
    · replace h := z_ift h c5
      refine lv_aload_n hx hb dX7_image_54 rfl (lv_at hl 0 rfl) ?_
      refine gf_X7_37 hc hI dX7_image_55 ?_
      refine lv_iload_n hx hb dX7_image_58 rfl (lv_at hl 1 rfl) ?_
      refine lv_iconst (v := 1) hx hb dX7_image_59 (by decide) ?_
      obtain ⟨g6, h⟩ := z_grd_some h
      refine st_k31 (by decide) hc hI g6 dX7_image_60 (fun H locs hI => ?_)
      refine lv_iconst (v := 1) hx hb dX7_image_61 (by decide) ?_
      obtain rfl := Option.some.inj h
      exact z_ri hc hI dX7_image_62
    · replace h := z_iff h c5
      refine lv_aload_n hx hb dX7_image_31 rfl (lv_at hl 0 rfl) ?_
      refine gf_X7_41 hc hI dX7_image_32 ?_
      refine lv_bipush (v := 49) hx hb dX7_image_35 (by decide) ?_
      refine lv_iload_n hx hb dX7_image_37 rfl (lv_at hl 1 rfl) ?_
      refine lv_imul hx hb dX7_image_38 ?_
      refine lv_iload_n hx hb dX7_image_39 rfl (lv_at hl 2 rfl) ?_
      refine lv_iadd hx hb dX7_image_40 ?_
      refine lv_aload_n hx hb dX7_image_41 rfl (lv_at hl 0 rfl) ?_
      refine gf_X7_19 hc hI dX7_image_42 ?_
      refine lv_iload_n hx hb dX7_image_45 rfl (lv_at hl 2 rfl) ?_
      obtain ⟨g7, h⟩ := z_grd_some h
      refine ld_k25 hc hI g7 dX7_image_46 ?_
      obtain ⟨g8, h⟩ := z_grd_some h
      refine st_k32 hc hI g8 dX7_image_47 (fun H locs hI => ?_)
      refine lv_iinc (v := v2 + 1) (lv' := [(2, .int (v2 + 1)), (0, .ref (z_ad G 21 0)), (1, .int v1)]) hx hb dX7_image_48 hl (k := 2) rfl rfl (by decide) rfl (fun ls hl => ?_)
      refine lv_goto (tgt := 25) hx hb dX7_image_51 (by decide) ?_
      exact ih v1 (v2 + 1) _ _ _ _ h hI (lv_sub hl [1, 2, 0] rfl)
set_option maxRecDepth 100000 in
set_option maxHeartbeats 4000000 in
theorem c_X7_image {G : z_G} {l : Launch} {a1 : Int32} {M : z_M} {out : (Int32 × z_M)} (h : F_X7_image a1 M = some out) : z_Met G l yX7_image cX7_image 3 (some .int) 2 [.ref (z_ad G 21 0), .int a1] M (some (.int out.1)) out.2 := by
  unfold F_X7_image at h
  refine z_met_of (by decide) rfl (Nat.le_of_ble_eq_true rfl) (fun p e s m below meth c ls hc hI hl => ?_)
  obtain ⟨⟨hx, hb, hml, hown, hts⟩, hr, hlk⟩ := id hc
  have hl : lv_has ls 3 [(0, .ref (z_ad G 21 0)), (1, .int a1)] := hl
  refine lv_iload_n hx hb dX7_image_0 rfl (lv_at hl 1 rfl) ?_
  refine lv_i2l (v := a1.toInt64) hx hb dX7_image_1 rfl ?_
  refine lv_lconst (v := 0) hx hb dX7_image_2 (by decide) ?_
  refine lv_lconst (v := 1) hx hb dX7_image_3 (by decide) ?_
  obtain ⟨q1, e2, h⟩ := z_bnd h
  refine iv_X7_54 hc hI (c_X7_in e2) (z_room (by decide) (by decide)) hl.1 (Nat.le_of_ble_eq_true rfl) ⟨Nat.zero_le _, Nat.zero_le _⟩ dX7_image_4 (fun H locs hI => ?_)
  refine lv_if_ne (tgt := 13) hx hb dX7_image_7 (by decide) (fun c3 => ?_) (fun c3 => ?_)
  · replace h := z_iff h c3
    refine lv_aload_n hx hb dX7_image_13 rfl (lv_at hl 0 rfl) ?_
    refine gf_X7_138 hc hI dX7_image_14 ?_
    refine lv_if_ne (tgt := 23) hx hb dX7_image_17 (by decide) (fun c4 => ?_) (fun c4 => ?_)
    · replace h := z_iff h c4
      refine lv_iconst (v := 0) hx hb dX7_image_23 (by decide) ?_
      refine lv_istore_n (lv' := [(2, .int 0), (0, .ref (z_ad G 21 0)), (1, .int a1)]) hx hb dX7_image_24 rfl hl (by decide) rfl (fun ls hl => ?_)
      exact w_X7_image_b25 hc _ a1 0 _ _ _ _ h hI (lv_sub hl [1, 2, 0] rfl)
    · replace h := z_ift h c4
      refine lv_ldc (v := (-1000002)) hx hb hown (hts _ wd_5_88) dX7_image_20 ?_
      obtain rfl := Option.some.inj h
      exact z_ri hc hI dX7_image_22
  · replace h := z_ift h c3
    refine lv_ldc (v := (-1000001)) hx hb hown (hts _ wd_5_5) dX7_image_10 ?_
    obtain rfl := Option.some.inj h
    exact z_ri hc hI dX7_image_12
set_option maxRecDepth 100000 in
set_option maxHeartbeats 4000000 in
theorem w_X7_restore_b27 (hc : z_C p s m args meth c RX7 cX7_restore 3 (some .int)) {out : (Int32 × z_M)} : ∀ (n : Nat) (v1 : Int32) (v2 : Int32) (M : z_M) (H : Heap) (locs : List Loc) (ls : Array Slot) (h : F_X7_restore_b27 n v1 v2 M = some out) (hI : z_I G s M H locs) (hl : lv_has ls 3 [(0, .ref (z_ad G 21 0)), (1, .int v1), (2, .int v2)]), W p l e (z_rm 2) s m args below meth c H locs 0 0 (MQ below (z_Q G (some (.int out.1)) out.2) args s 0 0 (z_A G)) (F0 m 27 ls []) := by
  obtain ⟨⟨hx, hb, hml, hown, hts⟩, hr, hlk⟩ := id hc
  intro n
  induction n with
  | zero => intro v1 v2 M H locs ls h; cases h
  | succ n ih =>
    intro v1 v2 M H locs ls h hI hl
    rw [F_X7_restore_b27] at h
    refine lv_iload_n hx hb dX7_restore_27 rfl (lv_at hl 2 rfl) ?_
    refine lv_bipush (v := 49) hx hb dX7_restore_28 (by decide) ?_
    refine lv_icmp_ge (tgt := 56) hx hb dX7_restore_30 (by decide) (fun c6 => ?_) (fun c6 => ?_)
    · replace h := z_ift h c6
      refine lv_aload_n hx hb dX7_restore_56 rfl (lv_at hl 0 rfl) ?_
      refine lv_iconst (v := 0) hx hb dX7_restore_57 (by decide) ?_
      refine pf_X7_142 hc hI dX7_restore_58 (fun H locs hI => ?_)
      refine lv_iconst (v := 1) hx hb dX7_restore_61 (by decide) ?_
      obtain rfl := Option.some.inj h
      exact z_ri hc hI dX7_restore_62
    · replace h := z_iff h c6
      refine lv_aload_n hx hb dX7_restore_33 rfl (lv_at hl 0 rfl) ?_
      refine gf_X7_19 hc hI dX7_restore_34 ?_
      refine lv_iload_n hx hb dX7_restore_37 rfl (lv_at hl 2 rfl) ?_
      refine lv_aload_n hx hb dX7_restore_38 rfl (lv_at hl 0 rfl) ?_
      refine gf_X7_41 hc hI dX7_restore_39 ?_
      refine lv_bipush (v := 49) hx hb dX7_restore_42 (by decide) ?_
      refine lv_iload_n hx hb dX7_restore_44 rfl (lv_at hl 1 rfl) ?_
      refine lv_imul hx hb dX7_restore_45 ?_
      refine lv_iload_n hx hb dX7_restore_46 rfl (lv_at hl 2 rfl) ?_
      refine lv_iadd hx hb dX7_restore_47 ?_
      obtain ⟨g7, h⟩ := z_grd_some h
      refine ld_k32 hc hI g7 dX7_restore_48 ?_
      obtain ⟨g8, h⟩ := z_grd_some h
      refine st_k25 hc hI g8 dX7_restore_49 (fun H locs hI => ?_)
      refine lv_iinc (v := v2 + 1) (lv' := [(2, .int (v2 + 1)), (0, .ref (z_ad G 21 0)), (1, .int v1)]) hx hb dX7_restore_50 hl (k := 2) rfl rfl (by decide) rfl (fun ls hl => ?_)
      refine lv_goto (tgt := 27) hx hb dX7_restore_53 (by decide) ?_
      exact ih v1 (v2 + 1) _ _ _ _ h hI (lv_sub hl [1, 2, 0] rfl)
set_option maxRecDepth 100000 in
set_option maxHeartbeats 4000000 in
theorem c_X7_restore {G : z_G} {l : Launch} {a1 : Int32} {M : z_M} {out : (Int32 × z_M)} (h : F_X7_restore a1 M = some out) : z_Met G l yX7_restore cX7_restore 3 (some .int) 2 [.ref (z_ad G 21 0), .int a1] M (some (.int out.1)) out.2 := by
  unfold F_X7_restore at h
  refine z_met_of (by decide) rfl (Nat.le_of_ble_eq_true rfl) (fun p e s m below meth c ls hc hI hl => ?_)
  obtain ⟨⟨hx, hb, hml, hown, hts⟩, hr, hlk⟩ := id hc
  have hl : lv_has ls 3 [(0, .ref (z_ad G 21 0)), (1, .int a1)] := hl
  refine lv_iload_n hx hb dX7_restore_0 rfl (lv_at hl 1 rfl) ?_
  refine lv_i2l (v := a1.toInt64) hx hb dX7_restore_1 rfl ?_
  refine lv_lconst (v := 0) hx hb dX7_restore_2 (by decide) ?_
  refine lv_lconst (v := 1) hx hb dX7_restore_3 (by decide) ?_
  obtain ⟨q1, e2, h⟩ := z_bnd h
  refine iv_X7_54 hc hI (c_X7_in e2) (z_room (by decide) (by decide)) hl.1 (Nat.le_of_ble_eq_true rfl) ⟨Nat.zero_le _, Nat.zero_le _⟩ dX7_restore_4 (fun H locs hI => ?_)
  refine lv_if_ne (tgt := 13) hx hb dX7_restore_7 (by decide) (fun c3 => ?_) (fun c3 => ?_)
  · replace h := z_iff h c3
    refine lv_aload_n hx hb dX7_restore_13 rfl (lv_at hl 0 rfl) ?_
    refine gf_X7_37 hc hI dX7_restore_14 ?_
    refine lv_iload_n hx hb dX7_restore_17 rfl (lv_at hl 1 rfl) ?_
    obtain ⟨g4, h⟩ := z_grd_some h
    refine ld_k31 hc hI g4 dX7_restore_18 ?_
    refine lv_if_ne (tgt := 25) hx hb dX7_restore_19 (by decide) (fun c5 => ?_) (fun c5 => ?_)
    · replace h := z_iff h c5
      refine lv_iconst (v := 0) hx hb dX7_restore_25 (by decide) ?_
      refine lv_istore_n (lv' := [(2, .int 0), (0, .ref (z_ad G 21 0)), (1, .int a1)]) hx hb dX7_restore_26 rfl hl (by decide) rfl (fun ls hl => ?_)
      exact w_X7_restore_b27 hc _ a1 0 _ _ _ _ h hI (lv_sub hl [1, 2, 0] rfl)
    · replace h := z_ift h c5
      refine lv_ldc (v := (-1000002)) hx hb hown (hts _ wd_5_88) dX7_restore_22 ?_
      obtain rfl := Option.some.inj h
      exact z_ri hc hI dX7_restore_24
  · replace h := z_ift h c3
    refine lv_ldc (v := (-1000001)) hx hb hown (hts _ wd_5_5) dX7_restore_10 ?_
    obtain rfl := Option.some.inj h
    exact z_ri hc hI dX7_restore_12
set_option maxRecDepth 100000 in
set_option maxHeartbeats 4000000 in
theorem c_X7_kind {G : z_G} {l : Launch} {a1 : Int32} {M : z_M} {out : Int32} (h : F_X7_kind a1 M = some out) : z_Met G l yX7_kind cX7_kind 2 (some .int) 3 [.ref (z_ad G 21 0), .int a1] M (some (.int out)) M := by
  unfold F_X7_kind at h
  refine z_met_of (by decide) rfl (Nat.le_of_ble_eq_true rfl) (fun p e s m below meth c ls hc hI hl => ?_)
  obtain ⟨⟨hx, hb, hml, hown, hts⟩, hr, hlk⟩ := id hc
  have hl : lv_has ls 2 [(0, .ref (z_ad G 21 0)), (1, .int a1)] := hl
  refine lv_aload_n hx hb dX7_kind_0 rfl (lv_at hl 0 rfl) ?_
  refine lv_iload_n hx hb dX7_kind_1 rfl (lv_at hl 1 rfl) ?_
  obtain ⟨q1, e2, h⟩ := z_bnd h
  refine iv_X7_185 hc hI (c_X7_isTread e2) (z_room (by decide) (by decide)) hl.1 (Nat.le_of_ble_eq_true rfl) ⟨Nat.zero_le _, Nat.zero_le _⟩ dX7_kind_2 (fun H locs hI => ?_)
  refine lv_if_eq (tgt := 19) hx hb dX7_kind_5 (by decide) (fun c3 => ?_) (fun c3 => ?_)
  · replace h := z_ift h c3
    refine lv_ldc (v := (-1000001)) hx hb hown (hts _ wd_5_5) dX7_kind_19 ?_
    obtain rfl := Option.some.inj h
    exact z_ri hc hI dX7_kind_21
  · replace h := z_iff h c3
    refine lv_aload_n hx hb dX7_kind_8 rfl (lv_at hl 0 rfl) ?_
    refine gf_X7_19 hc hI dX7_kind_9 ?_
    refine lv_iconst (v := 5) hx hb dX7_kind_12 (by decide) ?_
    refine lv_iload_n hx hb dX7_kind_13 rfl (lv_at hl 1 rfl) ?_
    refine lv_iadd hx hb dX7_kind_14 ?_
    obtain ⟨g4, h⟩ := z_grd_some h
    refine ld_k25 hc hI g4 dX7_kind_15 ?_
    refine lv_goto (tgt := 21) hx hb dX7_kind_16 (by decide) ?_
    obtain rfl := Option.some.inj h
    exact z_ri hc hI dX7_kind_21
set_option maxRecDepth 100000 in
set_option maxHeartbeats 4000000 in
theorem w_X7_isKind_b29 {M : z_M} (hc : z_C p s m args meth c RX7 cX7_isKind 2 (some .boolean)) {out : Int32} (H : Heap) (locs : List Loc) (ls : Array Slot) (h : F_X7_isKind_b29 M = some out) (hI : z_I G s M H locs) (hl : lv_has ls 2 []) : W p l e (z_rm 1) s m args below meth c H locs 0 0 (MQ below (z_Q G (some (.int out)) M) args s 0 0 (z_A G)) (F0 m 29 ls []) := by
  obtain ⟨⟨hx, hb, hml, hown, hts⟩, hr, hlk⟩ := id hc
  unfold F_X7_isKind_b29 at h
  refine lv_iconst (v := 1) hx hb dX7_isKind_29 (by decide) ?_
  refine lv_goto (tgt := 34) hx hb dX7_isKind_30 (by decide) ?_
  obtain rfl := Option.some.inj h
  exact z_rz (x := 1) hc hI (by decide) dX7_isKind_34
set_option maxRecDepth 100000 in
set_option maxHeartbeats 4000000 in
theorem w_X7_isKind_b19 {M : z_M} (hc : z_C p s m args meth c RX7 cX7_isKind 2 (some .boolean)) {out : Int32} (v0 : Int32) (v1 : Int32) (H : Heap) (locs : List Loc) (ls : Array Slot) (h : F_X7_isKind_b19 M v0 v1 = some out) (hI : z_I G s M H locs) (hl : lv_has ls 2 [(0, .int v0), (1, .int v1)]) : W p l e (z_rm 1) s m args below meth c H locs 0 0 (MQ below (z_Q G (some (.int out)) M) args s 0 0 (z_A G)) (F0 m 19 ls []) := by
  obtain ⟨⟨hx, hb, hml, hown, hts⟩, hr, hlk⟩ := id hc
  unfold F_X7_isKind_b19 at h
  refine lv_iload_n hx hb dX7_isKind_19 rfl (lv_at hl 1 rfl) ?_
  refine lv_iconst (v := 4) hx hb dX7_isKind_20 (by decide) ?_
  refine lv_icmp_ne (tgt := 33) hx hb dX7_isKind_21 (by decide) (fun c4 => ?_) (fun c4 => ?_)
  · replace h := z_iff h c4
    refine lv_iconst (v := 0) hx hb dX7_isKind_33 (by decide) ?_
    obtain rfl := Option.some.inj h
    exact z_rz (x := 0) hc hI (by decide) dX7_isKind_34
  · replace h := z_ift h c4
    refine lv_iload_n hx hb dX7_isKind_24 rfl (lv_at hl 0 rfl) ?_
    refine lv_iconst (v := 5) hx hb dX7_isKind_25 (by decide) ?_
    refine lv_icmp_ne (tgt := 33) hx hb dX7_isKind_26 (by decide) (fun c5 => ?_) (fun c5 => ?_)
    · replace h := z_iff h c5
      refine lv_iconst (v := 0) hx hb dX7_isKind_33 (by decide) ?_
      obtain rfl := Option.some.inj h
      exact z_rz (x := 0) hc hI (by decide) dX7_isKind_34
    · replace h := z_ift h c5
      exact w_X7_isKind_b29 hc _ _ _ h hI (lv_sub hl [] rfl)
set_option maxRecDepth 100000 in
set_option maxHeartbeats 4000000 in
theorem c_X7_isKind {G : z_G} {l : Launch} {a1 : Int32} {a2 : Int32} {M : z_M} {out : Int32} (h : F_X7_isKind a1 a2 M = some out) : z_Met G l yX7_isKind cX7_isKind 2 (some .boolean) 1 [.int a1, .int a2] M (some (.int out)) M := by
  unfold F_X7_isKind at h
  refine z_met_of (by decide) rfl (Nat.le_of_ble_eq_true rfl) (fun p e s m below meth c ls hc hI hl => ?_)
  obtain ⟨⟨hx, hb, hml, hown, hts⟩, hr, hlk⟩ := id hc
  have hl : lv_has ls 2 [(0, .int a1), (1, .int a2)] := hl
  refine lv_iload_n hx hb dX7_isKind_0 rfl (lv_at hl 1 rfl) ?_
  refine lv_if_eq (tgt := 29) hx hb dX7_isKind_1 (by decide) (fun c1 => ?_) (fun c1 => ?_)
  · replace h := z_ift h c1
    exact w_X7_isKind_b29 hc _ _ _ h hI (lv_sub hl [] rfl)
  · replace h := z_iff h c1
    refine lv_iload_n hx hb dX7_isKind_4 rfl (lv_at hl 0 rfl) ?_
    refine lv_iload_n hx hb dX7_isKind_5 rfl (lv_at hl 1 rfl) ?_
    refine lv_icmp_eq (tgt := 29) hx hb dX7_isKind_6 (by decide) (fun c2 => ?_) (fun c2 => ?_)
    · replace h := z_ift h c2
      exact w_X7_isKind_b29 hc _ _ _ h hI (lv_sub hl [] rfl)
    · replace h := z_iff h c2
      refine lv_iload_n hx hb dX7_isKind_9 rfl (lv_at hl 1 rfl) ?_
      refine lv_iconst (v := 1) hx hb dX7_isKind_10 (by decide) ?_
      refine lv_icmp_ne (tgt := 19) hx hb dX7_isKind_11 (by decide) (fun c3 => ?_) (fun c3 => ?_)
      · replace h := z_iff h c3
        exact w_X7_isKind_b19 hc a1 a2 _ _ _ h hI hl
      · replace h := z_ift h c3
        refine lv_iload_n hx hb dX7_isKind_14 rfl (lv_at hl 0 rfl) ?_
        refine lv_iconst (v := 4) hx hb dX7_isKind_15 (by decide) ?_
        refine lv_icmp_lt (tgt := 29) hx hb dX7_isKind_16 (by decide) (fun c6 => ?_) (fun c6 => ?_)
        · replace h := z_ift h c6
          exact w_X7_isKind_b29 hc _ _ _ h hI (lv_sub hl [] rfl)
        · replace h := z_iff h c6
          exact w_X7_isKind_b19 hc a1 a2 _ _ _ h hI hl
set_option maxRecDepth 100000 in
set_option maxHeartbeats 4000000 in
theorem c_X7_as {G : z_G} {l : Launch} {a1 : Int32} {a2 : Int32} {M : z_M} {out : (Int32 × z_M)} (h : F_X7_as a1 a2 M = some out) : z_Met G l yX7_as cX7_as 3 (some .int) 3 [.ref (z_ad G 21 0), .int a1, .int a2] M (some (.int out.1)) out.2 := by
  unfold F_X7_as at h
  refine z_met_of (by decide) rfl (Nat.le_of_ble_eq_true rfl) (fun p e s m below meth c ls hc hI hl => ?_)
  obtain ⟨⟨hx, hb, hml, hown, hts⟩, hr, hlk⟩ := id hc
  have hl : lv_has ls 3 [(0, .ref (z_ad G 21 0)), (1, .int a1), (2, .int a2)] := hl
  refine lv_aload_n hx hb dX7_as_0 rfl (lv_at hl 0 rfl) ?_
  refine lv_iload_n hx hb dX7_as_1 rfl (lv_at hl 1 rfl) ?_
  obtain ⟨q1, e2, h⟩ := z_bnd h
  refine iv_X7_185 hc hI (c_X7_isTread e2) (z_room (by decide) (by decide)) hl.1 (Nat.le_of_ble_eq_true rfl) ⟨Nat.zero_le _, Nat.zero_le _⟩ dX7_as_2 (fun H locs hI => ?_)
  refine lv_if_eq (tgt := 20) hx hb dX7_as_5 (by decide) (fun c3 => ?_) (fun c3 => ?_)
  · replace h := z_ift h c3
    refine lv_ldc (v := (-1000001)) hx hb hown (hts _ wd_5_5) dX7_as_20 ?_
    obtain rfl := Option.some.inj h
    exact z_ri hc hI dX7_as_22
  · replace h := z_iff h c3
    refine lv_iload_n hx hb dX7_as_8 rfl (lv_at hl 2 rfl) ?_
    refine lv_i2l (v := a2.toInt64) hx hb dX7_as_9 rfl ?_
    refine lv_lconst (v := 0) hx hb dX7_as_10 (by decide) ?_
    refine lv_ldc2 (v := 5) hx hb hown (hts _ wd_6_99) dX7_as_11 ?_
    obtain ⟨q4, e5, h⟩ := z_bnd h
    refine iv_X7_54 hc hI (c_X7_in e5) (z_room (by decide) (by decide)) hl.1 (Nat.le_of_ble_eq_true rfl) ⟨Nat.zero_le _, Nat.zero_le _⟩ dX7_as_14 (fun H locs hI => ?_)
    refine lv_if_ne (tgt := 23) hx hb dX7_as_17 (by decide) (fun c6 => ?_) (fun c6 => ?_)
    · replace h := z_iff h c6
      refine lv_aload_n hx hb dX7_as_23 rfl (lv_at hl 0 rfl) ?_
      refine gf_X7_19 hc hI dX7_as_24 ?_
      refine lv_iconst (v := 5) hx hb dX7_as_27 (by decide) ?_
      refine lv_iload_n hx hb dX7_as_28 rfl (lv_at hl 1 rfl) ?_
      refine lv_iadd hx hb dX7_as_29 ?_
      obtain ⟨g7, h⟩ := z_grd_some h
      refine ld_k25 hc hI g7 dX7_as_30 ?_
      refine lv_iload_n hx hb dX7_as_31 rfl (lv_at hl 2 rfl) ?_
      obtain ⟨q8, e9, h⟩ := z_bnd h
      refine iv_X7_285 hc hI (c_X7_isKind e9) (z_room (by decide) (by decide)) hl.1 (Nat.le_of_ble_eq_true rfl) ⟨Nat.zero_le _, Nat.zero_le _⟩ dX7_as_32 (fun H locs hI => ?_)
      refine lv_if_eq (tgt := 46) hx hb dX7_as_35 (by decide) (fun c10 => ?_) (fun c10 => ?_)
      · replace h := z_ift h c10
        refine lv_aload_n hx hb dX7_as_46 rfl (lv_at hl 0 rfl) ?_
        refine lv_iconst (v := 3) hx hb dX7_as_47 (by decide) ?_
        obtain ⟨q11, e12, h⟩ := z_bnd h
        refine iv_X7_65 hc hI (c_X7_find e12) (z_room (by decide) (by decide)) hl.1 (Nat.le_of_ble_eq_true rfl) ⟨Nat.zero_le _, Nat.zero_le _⟩ dX7_as_48 (fun H locs hI => ?_)
        obtain rfl := Option.some.inj h
        exact z_ri hc hI dX7_as_51
      · replace h := z_iff h c10
        refine lv_aload_n hx hb dX7_as_38 rfl (lv_at hl 0 rfl) ?_
        refine lv_iload_n hx hb dX7_as_39 rfl (lv_at hl 1 rfl) ?_
        obtain ⟨q13, e14, h⟩ := z_bnd h
        refine iv_X7_69 hc hI (c_X7_well e14) (z_room (by decide) (by decide)) hl.1 (Nat.le_of_ble_eq_true rfl) ⟨Nat.zero_le _, Nat.zero_le _⟩ dX7_as_40 (fun H locs hI => ?_)
        refine lv_goto (tgt := 51) hx hb dX7_as_43 (by decide) ?_
        obtain rfl := Option.some.inj h
        exact z_ri hc hI dX7_as_51
    · replace h := z_ift h c6
      refine lv_ldc (v := (-1000001)) hx hb hown (hts _ wd_5_5) dX7_as_20 ?_
      obtain rfl := Option.some.inj h
      exact z_ri hc hI dX7_as_22
set_option maxRecDepth 100000 in
set_option maxHeartbeats 4000000 in
theorem c_X7_begin {G : z_G} {l : Launch} {a1 : Int32} {M : z_M} {out : z_M} (h : F_X7_begin a1 M = some out) : z_Met G l yX7_begin cX7_begin 2 none 1 [.ref (z_ad G 21 0), .int a1] M (none) out := by
  unfold F_X7_begin at h
  refine z_met_of (by decide) rfl (Nat.le_of_ble_eq_true rfl) (fun p e s m below meth c ls hc hI hl => ?_)
  obtain ⟨⟨hx, hb, hml, hown, hts⟩, hr, hlk⟩ := id hc
  have hl : lv_has ls 2 [(0, .ref (z_ad G 21 0)), (1, .int a1)] := hl
  refine lv_aload_n hx hb dX7_begin_0 rfl (lv_at hl 0 rfl) ?_
  refine gf_X7_288 hc hI dX7_begin_1 ?_
  refine lv_bipush (v := 16) hx hb dX7_begin_4 (by decide) ?_
  refine lv_icmp_ge (tgt := 29) hx hb dX7_begin_6 (by decide) (fun c1 => ?_) (fun c1 => ?_)
  · replace h := z_ift h c1
    obtain rfl := Option.some.inj h
    exact z_rv hc hI dX7_begin_29
  · replace h := z_iff h c1
    refine lv_aload_n hx hb dX7_begin_9 rfl (lv_at hl 0 rfl) ?_
    refine gf_X7_44 hc hI dX7_begin_10 ?_
    refine lv_aload_n hx hb dX7_begin_13 rfl (lv_at hl 0 rfl) ?_
    refine gf_X7_288 hc hI dX7_begin_14 ?_
    refine lv_iload_n hx hb dX7_begin_17 rfl (lv_at hl 1 rfl) ?_
    obtain ⟨g2, h⟩ := z_grd_some h
    refine st_k33 hc hI g2 dX7_begin_18 (fun H locs hI => ?_)
    refine lv_aload_n hx hb dX7_begin_19 rfl (lv_at hl 0 rfl) ?_
    refine lv_dup hx hb dX7_begin_20 rfl ?_
    obtain ⟨M3, h, hI⟩ := z_nM h hI
    refine gf_X7_288 hc hI dX7_begin_21 ?_
    refine lv_iconst (v := 1) hx hb dX7_begin_24 (by decide) ?_
    refine lv_iadd hx hb dX7_begin_25 ?_
    refine pf_X7_288 hc hI dX7_begin_26 (fun H locs hI => ?_)
    obtain rfl := Option.some.inj h
    exact z_rv hc hI dX7_begin_29
set_option maxRecDepth 100000 in
set_option maxHeartbeats 4000000 in
theorem c_X7_lent {G : z_G} {l : Launch} {a1 : Int32} {a2 : Int32} {M : z_M} {out : (Int32 × z_M)} (h : F_X7_lent a1 a2 M = some out) : z_Met G l yX7_lent cX7_lent 3 (some .int) 2 [.ref (z_ad G 21 0), .int a1, .int a2] M (some (.int out.1)) out.2 := by
  unfold F_X7_lent at h
  refine z_met_of (by decide) rfl (Nat.le_of_ble_eq_true rfl) (fun p e s m below meth c ls hc hI hl => ?_)
  obtain ⟨⟨hx, hb, hml, hown, hts⟩, hr, hlk⟩ := id hc
  have hl : lv_has ls 3 [(0, .ref (z_ad G 21 0)), (1, .int a1), (2, .int a2)] := hl
  refine lv_aload_n hx hb dX7_lent_0 rfl (lv_at hl 0 rfl) ?_
  refine lv_iload_n hx hb dX7_lent_1 rfl (lv_at hl 2 rfl) ?_
  obtain ⟨q1, e2, h⟩ := z_bnd h
  refine iv_X7_291 hc hI (c_X7_begin e2) (z_room (by decide) (by decide)) hl.1 (Nat.le_of_ble_eq_true rfl) ⟨Nat.zero_le _, Nat.zero_le _⟩ dX7_lent_2 (fun H locs hI => ?_)
  refine lv_iload_n hx hb dX7_lent_5 rfl (lv_at hl 2 rfl) ?_
  refine lv_bipush (v := 10) hx hb dX7_lent_6 (by decide) ?_
  refine lv_icmp_ne (tgt := 23) hx hb dX7_lent_8 (by decide) (fun c3 => ?_) (fun c3 => ?_)
  · replace h := z_iff h c3
    refine lv_iload_n hx hb dX7_lent_23 rfl (lv_at hl 1 rfl) ?_
    obtain rfl := Option.some.inj h
    exact z_ri hc hI dX7_lent_24
  · replace h := z_ift h c3
    refine lv_aload_n hx hb dX7_lent_11 rfl (lv_at hl 0 rfl) ?_
    refine gf_X7_19 hc hI dX7_lent_12 ?_
    refine lv_bipush (v := 13) hx hb dX7_lent_15 (by decide) ?_
    refine lv_iload_n hx hb dX7_lent_17 rfl (lv_at hl 1 rfl) ?_
    refine lv_iadd hx hb dX7_lent_18 ?_
    obtain ⟨g4, h⟩ := z_grd_some h
    refine ld_k25 hc hI g4 dX7_lent_19 ?_
    refine lv_goto (tgt := 24) hx hb dX7_lent_20 (by decide) ?_
    obtain rfl := Option.some.inj h
    exact z_ri hc hI dX7_lent_24
set_option maxRecDepth 100000 in
set_option maxHeartbeats 4000000 in
theorem c_X7_plainMark {G : z_G} {l : Launch} {a1 : Int32} {M : z_M} {out : (Int32 × z_M)} (h : F_X7_plainMark a1 M = some out) : z_Met G l yX7_plainMark cX7_plainMark 2 (some .int) 3 [.ref (z_ad G 21 0), .int a1] M (some (.int out.1)) out.2 := by
  unfold F_X7_plainMark at h
  refine z_met_of (by decide) rfl (Nat.le_of_ble_eq_true rfl) (fun p e s m below meth c ls hc hI hl => ?_)
  obtain ⟨⟨hx, hb, hml, hown, hts⟩, hr, hlk⟩ := id hc
  have hl : lv_has ls 2 [(0, .ref (z_ad G 21 0)), (1, .int a1)] := hl
  refine lv_aload_n hx hb dX7_plainMark_0 rfl (lv_at hl 0 rfl) ?_
  refine lv_bipush (v := 21) hx hb dX7_plainMark_1 (by decide) ?_
  obtain ⟨q1, e2, h⟩ := z_bnd h
  refine iv_X7_291 hc hI (c_X7_begin e2) (z_room (by decide) (by decide)) hl.1 (Nat.le_of_ble_eq_true rfl) ⟨Nat.zero_le _, Nat.zero_le _⟩ dX7_plainMark_3 (fun H locs hI => ?_)
  refine lv_aload_n hx hb dX7_plainMark_6 rfl (lv_at hl 0 rfl) ?_
  refine lv_iload_n hx hb dX7_plainMark_7 rfl (lv_at hl 1 rfl) ?_
  refine lv_bipush (v := 20) hx hb dX7_plainMark_8 (by decide) ?_
  obtain ⟨q3, e4, h⟩ := z_bnd h
  refine iv_X7_295 hc hI (c_X7_lent e4) (z_room (by decide) (by decide)) hl.1 (Nat.le_of_ble_eq_true rfl) ⟨Nat.zero_le _, Nat.zero_le _⟩ dX7_plainMark_10 (fun H locs hI => ?_)
  refine lv_aload_n hx hb dX7_plainMark_13 rfl (lv_at hl 0 rfl) ?_
  refine gf_X7_19 hc hI dX7_plainMark_14 ?_
  refine lv_bipush (v := 21) hx hb dX7_plainMark_17 (by decide) ?_
  refine lv_iload_n hx hb dX7_plainMark_19 rfl (lv_at hl 1 rfl) ?_
  refine lv_iadd hx hb dX7_plainMark_20 ?_
  obtain ⟨g5, h⟩ := z_grd_some h
  refine ld_k25 hc hI g5 dX7_plainMark_21 ?_
  refine lv_iadd hx hb dX7_plainMark_22 ?_
  obtain rfl := Option.some.inj h
  exact z_ri hc hI dX7_plainMark_23
set_option maxRecDepth 100000 in
set_option maxHeartbeats 4000000 in
theorem c_X7_rottenSize {G : z_G} {l : Launch} {a1 : Int32} {M : z_M} {out : (Int32 × z_M)} (h : F_X7_rottenSize a1 M = some out) : z_Met G l yX7_rottenSize cX7_rottenSize 2 (some .int) 3 [.ref (z_ad G 21 0), .int a1] M (some (.int out.1)) out.2 := by
  unfold F_X7_rottenSize at h
  refine z_met_of (by decide) rfl (Nat.le_of_ble_eq_true rfl) (fun p e s m below meth c ls hc hI hl => ?_)
  obtain ⟨⟨hx, hb, hml, hown, hts⟩, hr, hlk⟩ := id hc
  have hl : lv_has ls 2 [(0, .ref (z_ad G 21 0)), (1, .int a1)] := hl
  refine lv_aload_n hx hb dX7_rottenSize_0 rfl (lv_at hl 0 rfl) ?_
  refine lv_bipush (v := 13) hx hb dX7_rottenSize_1 (by decide) ?_
  obtain ⟨q1, e2, h⟩ := z_bnd h
  refine iv_X7_291 hc hI (c_X7_begin e2) (z_room (by decide) (by decide)) hl.1 (Nat.le_of_ble_eq_true rfl) ⟨Nat.zero_le _, Nat.zero_le _⟩ dX7_rottenSize_3 (fun H locs hI => ?_)
  refine lv_aload_n hx hb dX7_rottenSize_6 rfl (lv_at hl 0 rfl) ?_
  refine lv_iload_n hx hb dX7_rottenSize_7 rfl (lv_at hl 1 rfl) ?_
  refine lv_bipush (v := 10) hx hb dX7_rottenSize_8 (by decide) ?_
  obtain ⟨q3, e4, h⟩ := z_bnd h
  refine iv_X7_295 hc hI (c_X7_lent e4) (z_room (by decide) (by decide)) hl.1 (Nat.le_of_ble_eq_true rfl) ⟨Nat.zero_le _, Nat.zero_le _⟩ dX7_rottenSize_10 (fun H locs hI => ?_)
  refine lv_bipush (v := 100) hx hb dX7_rottenSize_13 (by decide) ?_
  refine lv_isub hx hb dX7_rottenSize_15 ?_
  obtain rfl := Option.some.inj h
  exact z_ri hc hI dX7_rottenSize_16
set_option maxRecDepth 100000 in
set_option maxHeartbeats 4000000 in
theorem c_X7_sizeOfRotten {G : z_G} {l : Launch} {a1 : Int32} {M : z_M} {out : (Int32 × z_M)} (h : F_X7_sizeOfRotten a1 M = some out) : z_Met G l yX7_sizeOfRotten cX7_sizeOfRotten 2 (some .int) 4 [.ref (z_ad G 21 0), .int a1] M (some (.int out.1)) out.2 := by
  unfold F_X7_sizeOfRotten at h
  refine z_met_of (by decide) rfl (Nat.le_of_ble_eq_true rfl) (fun p e s m below meth c ls hc hI hl => ?_)
  obtain ⟨⟨hx, hb, hml, hown, hts⟩, hr, hlk⟩ := id hc
  have hl : lv_has ls 2 [(0, .ref (z_ad G 21 0)), (1, .int a1)] := hl
  refine lv_aload_n hx hb dX7_sizeOfRotten_0 rfl (lv_at hl 0 rfl) ?_
  refine gf_X7_19 hc hI dX7_sizeOfRotten_1 ?_
  refine lv_iconst (v := 5) hx hb dX7_sizeOfRotten_4 (by decide) ?_
  refine lv_iload_n hx hb dX7_sizeOfRotten_5 rfl (lv_at hl 1 rfl) ?_
  refine lv_iadd hx hb dX7_sizeOfRotten_6 ?_
  obtain ⟨g1, h⟩ := z_grd_some h
  refine ld_k25 hc hI g1 dX7_sizeOfRotten_7 ?_
  refine lv_iconst (v := 5) hx hb dX7_sizeOfRotten_8 (by decide) ?_
  refine lv_icmp_ne (tgt := 26) hx hb dX7_sizeOfRotten_9 (by decide) (fun c2 => ?_) (fun c2 => ?_)
  · replace h := z_iff h c2
    refine lv_aload_n hx hb dX7_sizeOfRotten_26 rfl (lv_at hl 0 rfl) ?_
    refine lv_iload_n hx hb dX7_sizeOfRotten_27 rfl (lv_at hl 1 rfl) ?_
    obtain ⟨q3, e4, h⟩ := z_bnd h
    refine iv_X7_298 hc hI (c_X7_rottenSize e4) (z_room (by decide) (by decide)) hl.1 (Nat.le_of_ble_eq_true rfl) ⟨Nat.zero_le _, Nat.zero_le _⟩ dX7_sizeOfRotten_28 (fun H locs hI => ?_)
    obtain rfl := Option.some.inj h
    exact z_ri hc hI dX7_sizeOfRotten_31
  · replace h := z_ift h c2
    refine lv_aload_n hx hb dX7_sizeOfRotten_12 rfl (lv_at hl 0 rfl) ?_
    refine lv_bipush (v := 14) hx hb dX7_sizeOfRotten_13 (by decide) ?_
    obtain ⟨q5, e6, h⟩ := z_bnd h
    refine iv_X7_291 hc hI (c_X7_begin e6) (z_room (by decide) (by decide)) hl.1 (Nat.le_of_ble_eq_true rfl) ⟨Nat.zero_le _, Nat.zero_le _⟩ dX7_sizeOfRotten_15 (fun H locs hI => ?_)
    refine lv_iconst (v := 2) hx hb dX7_sizeOfRotten_18 (by decide) ?_
    refine lv_aload_n hx hb dX7_sizeOfRotten_19 rfl (lv_at hl 0 rfl) ?_
    refine lv_iload_n hx hb dX7_sizeOfRotten_20 rfl (lv_at hl 1 rfl) ?_
    obtain ⟨q7, e8, h⟩ := z_bnd h
    refine iv_X7_298 hc hI (c_X7_rottenSize e8) (z_room (by decide) (by decide)) hl.1 (Nat.le_of_ble_eq_true rfl) ⟨Nat.zero_le _, Nat.zero_le _⟩ dX7_sizeOfRotten_21 (fun H locs hI => ?_)
    refine lv_imul hx hb dX7_sizeOfRotten_24 ?_
    obtain rfl := Option.some.inj h
    exact z_ri hc hI dX7_sizeOfRotten_25
set_option maxRecDepth 100000 in
set_option maxHeartbeats 4000000 in
theorem c_X7_markOf {G : z_G} {l : Launch} {a1 : Int32} {M : z_M} {out : (Int32 × z_M)} (h : F_X7_markOf a1 M = some out) : z_Met G l yX7_markOf cX7_markOf 4 (some .int) 5 [.ref (z_ad G 21 0), .int a1] M (some (.int out.1)) out.2 := by
  unfold F_X7_markOf at h
  refine z_met_of (by decide) rfl (Nat.le_of_ble_eq_true rfl) (fun p e s m below meth c ls hc hI hl => ?_)
  obtain ⟨⟨hx, hb, hml, hown, hts⟩, hr, hlk⟩ := id hc
  have hl : lv_has ls 4 [(0, .ref (z_ad G 21 0)), (1, .int a1)] := hl
  refine lv_aload_n hx hb dX7_markOf_0 rfl (lv_at hl 0 rfl) ?_
  refine gf_X7_19 hc hI dX7_markOf_1 ?_
  refine lv_iconst (v := 5) hx hb dX7_markOf_4 (by decide) ?_
  refine lv_iload_n hx hb dX7_markOf_5 rfl (lv_at hl 1 rfl) ?_
  refine lv_iadd hx hb dX7_markOf_6 ?_
  obtain ⟨g1, h⟩ := z_grd_some h
  refine ld_k25 hc hI g1 dX7_markOf_7 ?_
  refine z_nI h (fun x2 h => ?_)
  refine lv_istore_n (lv' := [(2, .int x2), (0, .ref (z_ad G 21 0)), (1, .int a1)]) hx hb dX7_markOf_8 rfl hl (by decide) rfl (fun ls hl => ?_)
  refine lv_iload_n hx hb dX7_markOf_9 rfl (lv_at hl 0 rfl) ?_
  refine lv_iconst (v := 2) hx hb dX7_markOf_10 (by decide) ?_
  refine lv_icmp_ne (tgt := 28) hx hb dX7_markOf_11 (by decide) (fun c3 => ?_) (fun c3 => ?_)
  · replace h := z_iff h c3
    refine lv_iload_n hx hb dX7_markOf_28 rfl (lv_at hl 0 rfl) ?_
    refine lv_iconst (v := 3) hx hb dX7_markOf_29 (by decide) ?_
    refine lv_icmp_ne (tgt := 49) hx hb dX7_markOf_30 (by decide) (fun c4 => ?_) (fun c4 => ?_)
    · replace h := z_iff h c4
      refine lv_iload_n hx hb dX7_markOf_49 rfl (lv_at hl 0 rfl) ?_
      refine lv_iconst (v := 1) hx hb dX7_markOf_50 (by decide) ?_
      refine lv_icmp_ne (tgt := 60) hx hb dX7_markOf_51 (by decide) (fun c5 => ?_) (fun c5 => ?_)
      · replace h := z_iff h c5
        refine lv_aload_n hx hb dX7_markOf_60 rfl (lv_at hl 1 rfl) ?_
        refine lv_bipush (v := 23) hx hb dX7_markOf_61 (by decide) ?_
        obtain ⟨q6, e7, h⟩ := z_bnd h
        refine iv_X7_291 hc hI (c_X7_begin e7) (z_room (by decide) (by decide)) hl.1 (Nat.le_of_ble_eq_true rfl) ⟨Nat.zero_le _, Nat.zero_le _⟩ dX7_markOf_63 (fun H locs hI => ?_)
        refine lv_aload_n hx hb dX7_markOf_66 rfl (lv_at hl 1 rfl) ?_
        refine lv_iload_n hx hb dX7_markOf_67 rfl (lv_at hl 2 rfl) ?_
        refine lv_bipush (v := 20) hx hb dX7_markOf_68 (by decide) ?_
        obtain ⟨q8, e9, h⟩ := z_bnd h
        refine iv_X7_295 hc hI (c_X7_lent e9) (z_room (by decide) (by decide)) hl.1 (Nat.le_of_ble_eq_true rfl) ⟨Nat.zero_le _, Nat.zero_le _⟩ dX7_markOf_70 (fun H locs hI => ?_)
        refine lv_istore_n (lv' := [(3, .int q8.1), (2, .int x2), (0, .ref (z_ad G 21 0)), (1, .int a1)]) hx hb dX7_markOf_73 rfl hl (by decide) rfl (fun ls hl => ?_)
        refine lv_iload_n hx hb dX7_markOf_74 rfl (lv_at hl 0 rfl) ?_
        refine lv_aload_n hx hb dX7_markOf_75 rfl (lv_at hl 2 rfl) ?_
        refine lv_iload_n hx hb dX7_markOf_76 rfl (lv_at hl 3 rfl) ?_
        obtain ⟨q10, e11, h⟩ := z_bnd h
        refine iv_X7_304 hc hI (c_X7_sizeOfRotten e11) (z_room (by decide) (by decide)) hl.1 (Nat.le_of_ble_eq_true rfl) ⟨Nat.zero_le _, Nat.zero_le _⟩ dX7_markOf_77 (fun H locs hI => ?_)
        refine lv_isub hx hb dX7_markOf_80 ?_
        obtain rfl := Option.some.inj h
        exact z_ri hc hI dX7_markOf_81
      · replace h := z_ift h c5
        refine lv_aload_n hx hb dX7_markOf_54 rfl (lv_at hl 1 rfl) ?_
        refine lv_iload_n hx hb dX7_markOf_55 rfl (lv_at hl 2 rfl) ?_
        obtain ⟨q12, e13, h⟩ := z_bnd h
        refine iv_X7_301 hc hI (c_X7_plainMark e13) (z_room (by decide) (by decide)) hl.1 (Nat.le_of_ble_eq_true rfl) ⟨Nat.zero_le _, Nat.zero_le _⟩ dX7_markOf_56 (fun H locs hI => ?_)
        obtain rfl := Option.some.inj h
        exact z_ri hc hI dX7_markOf_59
    · replace h := z_ift h c4
      refine lv_aload_n hx hb dX7_markOf_33 rfl (lv_at hl 1 rfl) ?_
      refine lv_bipush (v := 22) hx hb dX7_markOf_34 (by decide) ?_
      obtain ⟨q14, e15, h⟩ := z_bnd h
      refine iv_X7_291 hc hI (c_X7_begin e15) (z_room (by decide) (by decide)) hl.1 (Nat.le_of_ble_eq_true rfl) ⟨Nat.zero_le _, Nat.zero_le _⟩ dX7_markOf_36 (fun H locs hI => ?_)
      refine lv_aload_n hx hb dX7_markOf_39 rfl (lv_at hl 1 rfl) ?_
      refine lv_iload_n hx hb dX7_markOf_40 rfl (lv_at hl 2 rfl) ?_
      obtain ⟨q16, e17, h⟩ := z_bnd h
      refine iv_X7_301 hc hI (c_X7_plainMark e17) (z_room (by decide) (by decide)) hl.1 (Nat.le_of_ble_eq_true rfl) ⟨Nat.zero_le _, Nat.zero_le _⟩ dX7_markOf_41 (fun H locs hI => ?_)
      refine lv_sipush (v := 1000) hx hb dX7_markOf_44 (by decide) ?_
      refine lv_isub hx hb dX7_markOf_47 ?_
      obtain rfl := Option.some.inj h
      exact z_ri hc hI dX7_markOf_48
  · replace h := z_ift h c3
    refine lv_aload_n hx hb dX7_markOf_14 rfl (lv_at hl 1 rfl) ?_
    refine lv_bipush (v := 24) hx hb dX7_markOf_15 (by decide) ?_
    obtain ⟨q18, e19, h⟩ := z_bnd h
    refine iv_X7_291 hc hI (c_X7_begin e19) (z_room (by decide) (by decide)) hl.1 (Nat.le_of_ble_eq_true rfl) ⟨Nat.zero_le _, Nat.zero_le _⟩ dX7_markOf_17 (fun H locs hI => ?_)
    refine lv_iconst (v := 2) hx hb dX7_markOf_20 (by decide) ?_
    refine lv_aload_n hx hb dX7_markOf_21 rfl (lv_at hl 1 rfl) ?_
    refine lv_iload_n hx hb dX7_markOf_22 rfl (lv_at hl 2 rfl) ?_
    obtain ⟨q20, e21, h⟩ := z_bnd h
    refine iv_X7_301 hc hI (c_X7_plainMark e21) (z_room (by decide) (by decide)) hl.1 (Nat.le_of_ble_eq_true rfl) ⟨Nat.zero_le _, Nat.zero_le _⟩ dX7_markOf_23 (fun H locs hI => ?_)
    refine lv_imul hx hb dX7_markOf_26 ?_
    obtain rfl := Option.some.inj h
    exact z_ri hc hI dX7_markOf_27
set_option maxRecDepth 100000 in
set_option maxHeartbeats 4000000 in
theorem c_X7_plainSize {G : z_G} {l : Launch} {a1 : Int32} {M : z_M} {out : (Int32 × z_M)} (h : F_X7_plainSize a1 M = some out) : z_Met G l yX7_plainSize cX7_plainSize 3 (some .int) 6 [.ref (z_ad G 21 0), .int a1] M (some (.int out.1)) out.2 := by
  unfold F_X7_plainSize at h
  refine z_met_of (by decide) rfl (Nat.le_of_ble_eq_true rfl) (fun p e s m below meth c ls hc hI hl => ?_)
  obtain ⟨⟨hx, hb, hml, hown, hts⟩, hr, hlk⟩ := id hc
  have hl : lv_has ls 3 [(0, .ref (z_ad G 21 0)), (1, .int a1)] := hl
  refine lv_aload_n hx hb dX7_plainSize_0 rfl (lv_at hl 0 rfl) ?_
  refine lv_bipush (v := 11) hx hb dX7_plainSize_1 (by decide) ?_
  obtain ⟨q1, e2, h⟩ := z_bnd h
  refine iv_X7_291 hc hI (c_X7_begin e2) (z_room (by decide) (by decide)) hl.1 (Nat.le_of_ble_eq_true rfl) ⟨Nat.zero_le _, Nat.zero_le _⟩ dX7_plainSize_3 (fun H locs hI => ?_)
  refine lv_aload_n hx hb dX7_plainSize_6 rfl (lv_at hl 0 rfl) ?_
  refine lv_iload_n hx hb dX7_plainSize_7 rfl (lv_at hl 1 rfl) ?_
  refine lv_bipush (v := 10) hx hb dX7_plainSize_8 (by decide) ?_
  obtain ⟨q3, e4, h⟩ := z_bnd h
  refine iv_X7_295 hc hI (c_X7_lent e4) (z_room (by decide) (by decide)) hl.1 (Nat.le_of_ble_eq_true rfl) ⟨Nat.zero_le _, Nat.zero_le _⟩ dX7_plainSize_10 (fun H locs hI => ?_)
  refine lv_istore_n (lv' := [(2, .int q3.1), (0, .ref (z_ad G 21 0)), (1, .int a1)]) hx hb dX7_plainSize_13 rfl hl (by decide) rfl (fun ls hl => ?_)
  refine lv_iload_n hx hb dX7_plainSize_14 rfl (lv_at hl 0 rfl) ?_
  refine lv_aload_n hx hb dX7_plainSize_15 rfl (lv_at hl 1 rfl) ?_
  refine lv_iload_n hx hb dX7_plainSize_16 rfl (lv_at hl 2 rfl) ?_
  obtain ⟨q5, e6, h⟩ := z_bnd h
  refine iv_X7_307 hc hI (c_X7_markOf e6) (z_room (by decide) (by decide)) hl.1 (Nat.le_of_ble_eq_true rfl) ⟨Nat.zero_le _, Nat.zero_le _⟩ dX7_plainSize_17 (fun H locs hI => ?_)
  refine lv_iadd hx hb dX7_plainSize_20 ?_
  obtain rfl := Option.some.inj h
  exact z_ri hc hI dX7_plainSize_21
set_option maxRecDepth 100000 in
set_option maxHeartbeats 4000000 in
theorem c_X7_sizeOf {G : z_G} {l : Launch} {a1 : Int32} {M : z_M} {out : (Int32 × z_M)} (h : F_X7_sizeOf a1 M = some out) : z_Met G l yX7_sizeOf cX7_sizeOf 3 (some .int) 7 [.ref (z_ad G 21 0), .int a1] M (some (.int out.1)) out.2 := by
  unfold F_X7_sizeOf at h
  refine z_met_of (by decide) rfl (Nat.le_of_ble_eq_true rfl) (fun p e s m below meth c ls hc hI hl => ?_)
  obtain ⟨⟨hx, hb, hml, hown, hts⟩, hr, hlk⟩ := id hc
  have hl : lv_has ls 3 [(0, .ref (z_ad G 21 0)), (1, .int a1)] := hl
  refine lv_aload_n hx hb dX7_sizeOf_0 rfl (lv_at hl 0 rfl) ?_
  refine gf_X7_19 hc hI dX7_sizeOf_1 ?_
  refine lv_iconst (v := 5) hx hb dX7_sizeOf_4 (by decide) ?_
  refine lv_iload_n hx hb dX7_sizeOf_5 rfl (lv_at hl 1 rfl) ?_
  refine lv_iadd hx hb dX7_sizeOf_6 ?_
  obtain ⟨g1, h⟩ := z_grd_some h
  refine ld_k25 hc hI g1 dX7_sizeOf_7 ?_
  refine z_nI h (fun x2 h => ?_)
  refine lv_istore_n (lv' := [(2, .int x2), (0, .ref (z_ad G 21 0)), (1, .int a1)]) hx hb dX7_sizeOf_8 rfl hl (by decide) rfl (fun ls hl => ?_)
  refine lv_iload_n hx hb dX7_sizeOf_9 rfl (lv_at hl 0 rfl) ?_
  refine lv_iconst (v := 2) hx hb dX7_sizeOf_10 (by decide) ?_
  refine lv_icmp_ne (tgt := 27) hx hb dX7_sizeOf_11 (by decide) (fun c3 => ?_) (fun c3 => ?_)
  · replace h := z_iff h c3
    refine lv_iload_n hx hb dX7_sizeOf_27 rfl (lv_at hl 0 rfl) ?_
    refine lv_iconst (v := 4) hx hb dX7_sizeOf_28 (by decide) ?_
    refine lv_icmp_lt (tgt := 40) hx hb dX7_sizeOf_29 (by decide) (fun c4 => ?_) (fun c4 => ?_)
    · replace h := z_ift h c4
      refine lv_aload_n hx hb dX7_sizeOf_40 rfl (lv_at hl 1 rfl) ?_
      refine lv_iload_n hx hb dX7_sizeOf_41 rfl (lv_at hl 2 rfl) ?_
      obtain ⟨q5, e6, h⟩ := z_bnd h
      refine iv_X7_310 hc hI (c_X7_plainSize e6) (z_room (by decide) (by decide)) hl.1 (Nat.le_of_ble_eq_true rfl) ⟨Nat.zero_le _, Nat.zero_le _⟩ dX7_sizeOf_42 (fun H locs hI => ?_)
      obtain rfl := Option.some.inj h
      exact z_ri hc hI dX7_sizeOf_45
    · replace h := z_iff h c4
      refine lv_aload_n hx hb dX7_sizeOf_32 rfl (lv_at hl 1 rfl) ?_
      refine lv_iload_n hx hb dX7_sizeOf_33 rfl (lv_at hl 2 rfl) ?_
      obtain ⟨q7, e8, h⟩ := z_bnd h
      refine iv_X7_304 hc hI (c_X7_sizeOfRotten e8) (z_room (by decide) (by decide)) hl.1 (Nat.le_of_ble_eq_true rfl) ⟨Nat.zero_le _, Nat.zero_le _⟩ dX7_sizeOf_34 (fun H locs hI => ?_)
      refine lv_goto (tgt := 45) hx hb dX7_sizeOf_37 (by decide) ?_
      obtain rfl := Option.some.inj h
      exact z_ri hc hI dX7_sizeOf_45
  · replace h := z_ift h c3
    refine lv_aload_n hx hb dX7_sizeOf_14 rfl (lv_at hl 1 rfl) ?_
    refine lv_bipush (v := 12) hx hb dX7_sizeOf_15 (by decide) ?_
    obtain ⟨q9, e10, h⟩ := z_bnd h
    refine iv_X7_291 hc hI (c_X7_begin e10) (z_room (by decide) (by decide)) hl.1 (Nat.le_of_ble_eq_true rfl) ⟨Nat.zero_le _, Nat.zero_le _⟩ dX7_sizeOf_17 (fun H locs hI => ?_)
    refine lv_aload_n hx hb dX7_sizeOf_20 rfl (lv_at hl 1 rfl) ?_
    refine lv_iload_n hx hb dX7_sizeOf_21 rfl (lv_at hl 2 rfl) ?_
    obtain ⟨q11, e12, h⟩ := z_bnd h
    refine iv_X7_310 hc hI (c_X7_plainSize e12) (z_room (by decide) (by decide)) hl.1 (Nat.le_of_ble_eq_true rfl) ⟨Nat.zero_le _, Nat.zero_le _⟩ dX7_sizeOf_22 (fun H locs hI => ?_)
    refine lv_ineg hx hb dX7_sizeOf_25 ?_
    obtain rfl := Option.some.inj h
    exact z_ri hc hI dX7_sizeOf_26
set_option maxRecDepth 100000 in
set_option maxHeartbeats 4000000 in
theorem c_X7_ask {G : z_G} {l : Launch} {a1 : Int32} {a2 : Int32} {M : z_M} {out : (Int32 × z_M)} (h : F_X7_ask a1 a2 M = some out) : z_Met G l yX7_ask cX7_ask 3 (some .int) 8 [.ref (z_ad G 21 0), .int a1, .int a2] M (some (.int out.1)) out.2 := by
  unfold F_X7_ask at h
  refine z_met_of (by decide) rfl (Nat.le_of_ble_eq_true rfl) (fun p e s m below meth c ls hc hI hl => ?_)
  obtain ⟨⟨hx, hb, hml, hown, hts⟩, hr, hlk⟩ := id hc
  have hl : lv_has ls 3 [(0, .ref (z_ad G 21 0)), (1, .int a1), (2, .int a2)] := hl
  refine lv_aload_n hx hb dX7_ask_0 rfl (lv_at hl 0 rfl) ?_
  refine lv_iload_n hx hb dX7_ask_1 rfl (lv_at hl 1 rfl) ?_
  obtain ⟨q1, e2, h⟩ := z_bnd h
  refine iv_X7_185 hc hI (c_X7_isTread e2) (z_room (by decide) (by decide)) hl.1 (Nat.le_of_ble_eq_true rfl) ⟨Nat.zero_le _, Nat.zero_le _⟩ dX7_ask_2 (fun H locs hI => ?_)
  refine lv_if_eq (tgt := 18) hx hb dX7_ask_5 (by decide) (fun c3 => ?_) (fun c3 => ?_)
  · replace h := z_ift h c3
    refine lv_ldc (v := (-1000001)) hx hb hown (hts _ wd_5_5) dX7_ask_18 ?_
    obtain rfl := Option.some.inj h
    exact z_ri hc hI dX7_ask_20
  · replace h := z_iff h c3
    refine lv_iload_n hx hb dX7_ask_8 rfl (lv_at hl 2 rfl) ?_
    refine lv_i2l (v := a2.toInt64) hx hb dX7_ask_9 rfl ?_
    refine lv_lconst (v := 0) hx hb dX7_ask_10 (by decide) ?_
    refine lv_lconst (v := 1) hx hb dX7_ask_11 (by decide) ?_
    obtain ⟨q4, e5, h⟩ := z_bnd h
    refine iv_X7_54 hc hI (c_X7_in e5) (z_room (by decide) (by decide)) hl.1 (Nat.le_of_ble_eq_true rfl) ⟨Nat.zero_le _, Nat.zero_le _⟩ dX7_ask_12 (fun H locs hI => ?_)
    refine lv_if_ne (tgt := 21) hx hb dX7_ask_15 (by decide) (fun c6 => ?_) (fun c6 => ?_)
    · replace h := z_iff h c6
      refine lv_aload_n hx hb dX7_ask_21 rfl (lv_at hl 0 rfl) ?_
      refine lv_iconst (v := 0) hx hb dX7_ask_22 (by decide) ?_
      refine pf_X7_288 hc hI dX7_ask_23 (fun H locs hI => ?_)
      refine lv_iload_n hx hb dX7_ask_26 rfl (lv_at hl 2 rfl) ?_
      refine lv_if_ne (tgt := 38) hx hb dX7_ask_27 (by decide) (fun c7 => ?_) (fun c7 => ?_)
      · replace h := z_iff h c7
        refine lv_aload_n hx hb dX7_ask_38 rfl (lv_at hl 0 rfl) ?_
        refine lv_iload_n hx hb dX7_ask_39 rfl (lv_at hl 1 rfl) ?_
        obtain ⟨q8, e9, h⟩ := z_bnd h
        refine iv_X7_307 hc hI (c_X7_markOf e9) (z_room (by decide) (by decide)) hl.1 (Nat.le_of_ble_eq_true rfl) ⟨Nat.zero_le _, Nat.zero_le _⟩ dX7_ask_40 (fun H locs hI => ?_)
        obtain rfl := Option.some.inj h
        exact z_ri hc hI dX7_ask_43
      · replace h := z_ift h c7
        refine lv_aload_n hx hb dX7_ask_30 rfl (lv_at hl 0 rfl) ?_
        refine lv_iload_n hx hb dX7_ask_31 rfl (lv_at hl 1 rfl) ?_
        obtain ⟨q10, e11, h⟩ := z_bnd h
        refine iv_X7_313 hc hI (c_X7_sizeOf e11) (z_room (by decide) (by decide)) hl.1 (Nat.le_of_ble_eq_true rfl) ⟨Nat.zero_le _, Nat.zero_le _⟩ dX7_ask_32 (fun H locs hI => ?_)
        refine lv_goto (tgt := 43) hx hb dX7_ask_35 (by decide) ?_
        obtain rfl := Option.some.inj h
        exact z_ri hc hI dX7_ask_43
    · replace h := z_ift h c6
      refine lv_ldc (v := (-1000001)) hx hb hown (hts _ wd_5_5) dX7_ask_18 ?_
      obtain rfl := Option.some.inj h
      exact z_ri hc hI dX7_ask_20
set_option maxRecDepth 100000 in
set_option maxHeartbeats 4000000 in
theorem c_X7_trace {G : z_G} {l : Launch} {a1 : Int32} {M : z_M} {out : Int32} (h : F_X7_trace a1 M = some out) : z_Met G l yX7_trace cX7_trace 2 (some .int) 2 [.ref (z_ad G 21 0), .int a1] M (some (.int out)) M := by
  unfold F_X7_trace at h
  refine z_met_of (by decide) rfl (Nat.le_of_ble_eq_true rfl) (fun p e s m below meth c ls hc hI hl => ?_)
  obtain ⟨⟨hx, hb, hml, hown, hts⟩, hr, hlk⟩ := id hc
  have hl : lv_has ls 2 [(0, .ref (z_ad G 21 0)), (1, .int a1)] := hl
  refine lv_iload_n hx hb dX7_trace_0 rfl (lv_at hl 1 rfl) ?_
  refine lv_i2l (v := a1.toInt64) hx hb dX7_trace_1 rfl ?_
  refine lv_lconst (v := 0) hx hb dX7_trace_2 (by decide) ?_
  refine lv_aload_n hx hb dX7_trace_3 rfl (lv_at hl 0 rfl) ?_
  refine gf_X7_288 hc hI dX7_trace_4 ?_
  refine lv_iconst (v := 1) hx hb dX7_trace_7 (by decide) ?_
  refine lv_isub hx hb dX7_trace_8 ?_
  refine lv_i2l (v := ((z_gi M 21 0 23) - 1).toInt64) hx hb dX7_trace_9 rfl ?_
  obtain ⟨q1, e2, h⟩ := z_bnd h
  refine iv_X7_54 hc hI (c_X7_in e2) (z_room (by decide) (by decide)) hl.1 (Nat.le_of_ble_eq_true rfl) ⟨Nat.zero_le _, Nat.zero_le _⟩ dX7_trace_10 (fun H locs hI => ?_)
  refine lv_if_eq (tgt := 25) hx hb dX7_trace_13 (by decide) (fun c3 => ?_) (fun c3 => ?_)
  · replace h := z_ift h c3
    refine lv_ldc (v := (-1000000)) hx hb hown (hts _ wd_5_183) dX7_trace_25 ?_
    obtain rfl := Option.some.inj h
    exact z_ri hc hI dX7_trace_27
  · replace h := z_iff h c3
    refine lv_aload_n hx hb dX7_trace_16 rfl (lv_at hl 0 rfl) ?_
    refine gf_X7_44 hc hI dX7_trace_17 ?_
    refine lv_iload_n hx hb dX7_trace_20 rfl (lv_at hl 1 rfl) ?_
    obtain ⟨g4, h⟩ := z_grd_some h
    refine ld_k33 hc hI g4 dX7_trace_21 ?_
    refine lv_goto (tgt := 27) hx hb dX7_trace_22 (by decide) ?_
    obtain rfl := Option.some.inj h
    exact z_ri hc hI dX7_trace_27
set_option maxRecDepth 100000 in
set_option maxHeartbeats 4000000 in
theorem w_X7_count_b25 {M : z_M} (hc : z_C p s m args meth c RX7 cX7_count 4 (some .int)) {out : Int32} {K4 : Int32 → Int32 → Int32 → Option Int32} (hK4 : ∀ (v1 : Int32) (v2 : Int32) (v3 : Int32) (H : Heap) (locs : List Loc) (ls : Array Slot), K4 v1 v2 v3 = some out → z_I G s M H locs → lv_has ls 4 [(0, .ref (z_ad G 21 0)), (1, .int v1), (2, .int v2), (3, .int v3)] → W p l e (z_rm 3) s m args below meth c H locs 0 0 (MQ below (z_Q G (some (.int out)) M) args s 0 0 (z_A G)) (F0 m 4 ls [])) (v1 : Int32) (v3 : Int32) (s0 : Int32) (s1 : Int32) (H : Heap) (locs : List Loc) (ls : Array Slot) (h : F_X7_count_b25 M K4 v1 v3 s0 s1 = some out) (hI : z_I G s M H locs) (hl : lv_has ls 4 [(0, .ref (z_ad G 21 0)), (1, .int v1), (3, .int v3)]) : W p l e (z_rm 3) s m args below meth c H locs 0 0 (MQ below (z_Q G (some (.int out)) M) args s 0 0 (z_A G)) (F0 m 25 ls [.int s0, .int s1]) := by
  obtain ⟨⟨hx, hb, hml, hown, hts⟩, hr, hlk⟩ := id hc
  unfold F_X7_count_b25 at h
  refine lv_iadd hx hb dX7_count_25 ?_
  refine z_nI h (fun x19 h => ?_)
  refine lv_istore_n (lv' := [(2, .int x19), (0, .ref (z_ad G 21 0)), (1, .int v1), (3, .int v3)]) hx hb dX7_count_26 rfl hl (by decide) rfl (fun ls hl => ?_)
  refine lv_iinc (v := v3 + 1) (lv' := [(3, .int (v3 + 1)), (2, .int x19), (0, .ref (z_ad G 21 0)), (1, .int v1)]) hx hb dX7_count_27 hl (k := 3) rfl rfl (by decide) rfl (fun ls hl => ?_)
  refine lv_goto (tgt := 4) hx hb dX7_count_30 (by decide) ?_
  exact hK4 v1 x19 (v3 + 1) _ _ _ h hI (lv_sub hl [2, 3, 1, 0] rfl)
set_option maxRecDepth 100000 in
set_option maxHeartbeats 4000000 in
theorem w_X7_count_b4 {M : z_M} (hc : z_C p s m args meth c RX7 cX7_count 4 (some .int)) {out : Int32} : ∀ (n : Nat) (v1 : Int32) (v2 : Int32) (v3 : Int32) (H : Heap) (locs : List Loc) (ls : Array Slot) (h : F_X7_count_b4 M n v1 v2 v3 = some out) (hI : z_I G s M H locs) (hl : lv_has ls 4 [(0, .ref (z_ad G 21 0)), (1, .int v1), (2, .int v2), (3, .int v3)]), W p l e (z_rm 3) s m args below meth c H locs 0 0 (MQ below (z_Q G (some (.int out)) M) args s 0 0 (z_A G)) (F0 m 4 ls []) := by
  obtain ⟨⟨hx, hb, hml, hown, hts⟩, hr, hlk⟩ := id hc
  intro n
  induction n with
  | zero => intro v1 v2 v3 H locs ls h; cases h
  | succ n ih =>
    intro v1 v2 v3 H locs ls h hI hl
    rw [F_X7_count_b4] at h
    refine lv_iload_n hx hb dX7_count_4 rfl (lv_at hl 3 rfl) ?_
    refine lv_bipush (v := 8) hx hb dX7_count_5 (by decide) ?_
    refine lv_icmp_ge (tgt := 33) hx hb dX7_count_7 (by decide) (fun c1 => ?_) (fun c1 => ?_)
    · replace h := z_ift h c1
      refine lv_iload_n hx hb dX7_count_33 rfl (lv_at hl 1 rfl) ?_
      by_cases c2 : v1 = 0
      · replace h := z_ift h c2
        refine lv_tableIn (off := 46) (tgt := 80) hx hb dX7_count_34 (by rw [c2]; decide) (by rw [c2]; decide) (by rw [c2]; rfl) (by decide) ?_
        refine lv_iload_n hx hb dX7_count_80 rfl (lv_at hl 2 rfl) ?_
        obtain rfl := Option.some.inj h
        exact z_ri hc hI dX7_count_81
      replace h := z_iff h c2
      by_cases c3 : v1 = 1
      · replace h := z_ift h c3
        refine lv_tableIn (off := 48) (tgt := 82) hx hb dX7_count_34 (by rw [c3]; decide) (by rw [c3]; decide) (by rw [c3]; rfl) (by decide) ?_
        refine lv_aload_n hx hb dX7_count_82 rfl (lv_at hl 0 rfl) ?_
        refine gf_X7_19 hc hI dX7_count_83 ?_
        refine lv_iconst (v := 0) hx hb dX7_count_86 (by decide) ?_
        obtain ⟨g4, h⟩ := z_grd_some h
        refine ld_k25 hc hI g4 dX7_count_87 ?_
        obtain rfl := Option.some.inj h
        exact z_ri hc hI dX7_count_88
      replace h := z_iff h c3
      by_cases c5 : v1 = 2
      · replace h := z_ift h c5
        refine lv_tableIn (off := 55) (tgt := 89) hx hb dX7_count_34 (by rw [c5]; decide) (by rw [c5]; decide) (by rw [c5]; rfl) (by decide) ?_
        refine lv_aload_n hx hb dX7_count_89 rfl (lv_at hl 0 rfl) ?_
        refine gf_X7_19 hc hI dX7_count_90 ?_
        refine lv_iconst (v := 1) hx hb dX7_count_93 (by decide) ?_
        obtain ⟨g6, h⟩ := z_grd_some h
        refine ld_k25 hc hI g6 dX7_count_94 ?_
        obtain rfl := Option.some.inj h
        exact z_ri hc hI dX7_count_95
      replace h := z_iff h c5
      by_cases c7 : v1 = 3
      · replace h := z_ift h c7
        refine lv_tableIn (off := 62) (tgt := 96) hx hb dX7_count_34 (by rw [c7]; decide) (by rw [c7]; decide) (by rw [c7]; rfl) (by decide) ?_
        refine lv_aload_n hx hb dX7_count_96 rfl (lv_at hl 0 rfl) ?_
        refine gf_X7_19 hc hI dX7_count_97 ?_
        refine lv_iconst (v := 4) hx hb dX7_count_100 (by decide) ?_
        obtain ⟨g8, h⟩ := z_grd_some h
        refine ld_k25 hc hI g8 dX7_count_101 ?_
        obtain rfl := Option.some.inj h
        exact z_ri hc hI dX7_count_102
      replace h := z_iff h c7
      by_cases c9 : v1 = 4
      · replace h := z_ift h c9
        refine lv_tableIn (off := 69) (tgt := 103) hx hb dX7_count_34 (by rw [c9]; decide) (by rw [c9]; decide) (by rw [c9]; rfl) (by decide) ?_
        refine lv_aload_n hx hb dX7_count_103 rfl (lv_at hl 0 rfl) ?_
        obtain ⟨q10, e11, h⟩ := z_bnd h
        refine iv_X7_163 hc hI (c_X7_isWet e11) (z_room (by decide) (by decide)) hl.1 (Nat.le_of_ble_eq_true rfl) ⟨Nat.zero_le _, Nat.zero_le _⟩ dX7_count_104 (fun H locs hI => ?_)
        refine lv_if_eq (tgt := 114) hx hb dX7_count_107 (by decide) (fun c12 => ?_) (fun c12 => ?_)
        · replace h := z_ift h c12
          refine lv_iconst (v := 0) hx hb dX7_count_114 (by decide) ?_
          obtain rfl := Option.some.inj h
          exact z_ri hc hI dX7_count_115
        · replace h := z_iff h c12
          refine lv_iconst (v := 1) hx hb dX7_count_110 (by decide) ?_
          refine lv_goto (tgt := 115) hx hb dX7_count_111 (by decide) ?_
          obtain rfl := Option.some.inj h
          exact z_ri hc hI dX7_count_115
      replace h := z_iff h c9
      by_cases c13 : v1 = 5
      · replace h := z_ift h c13
        refine lv_tableIn (off := 82) (tgt := 116) hx hb dX7_count_34 (by rw [c13]; decide) (by rw [c13]; decide) (by rw [c13]; rfl) (by decide) ?_
        refine lv_aload_n hx hb dX7_count_116 rfl (lv_at hl 0 rfl) ?_
        refine gf_X7_19 hc hI dX7_count_117 ?_
        refine lv_iconst (v := 3) hx hb dX7_count_120 (by decide) ?_
        obtain ⟨g14, h⟩ := z_grd_some h
        refine ld_k25 hc hI g14 dX7_count_121 ?_
        obtain rfl := Option.some.inj h
        exact z_ri hc hI dX7_count_122
      replace h := z_iff h c13
      by_cases c15 : v1 = 6
      · replace h := z_ift h c15
        refine lv_tableIn (off := 89) (tgt := 123) hx hb dX7_count_34 (by rw [c15]; decide) (by rw [c15]; decide) (by rw [c15]; rfl) (by decide) ?_
        refine lv_aload_n hx hb dX7_count_123 rfl (lv_at hl 0 rfl) ?_
        refine gf_X7_142 hc hI dX7_count_124 ?_
        obtain rfl := Option.some.inj h
        exact z_ri hc hI dX7_count_127
      replace h := z_iff h c15
      by_cases c16 : v1 = 7
      · replace h := z_ift h c16
        refine lv_tableIn (off := 94) (tgt := 128) hx hb dX7_count_34 (by rw [c16]; decide) (by rw [c16]; decide) (by rw [c16]; rfl) (by decide) ?_
        refine lv_aload_n hx hb dX7_count_128 rfl (lv_at hl 0 rfl) ?_
        refine gf_X7_78 hc hI dX7_count_129 ?_
        obtain rfl := Option.some.inj h
        exact z_ri hc hI dX7_count_132
      replace h := z_iff h c16
      refine lv_tableOut (tgt := 133) hx hb dX7_count_34 (by have nc2 := z_ne (n := 0) (by decide) c2; have nc3 := z_ne (n := 1) (by decide) c3; have nc5 := z_ne (n := 2) (by decide) c5; have nc7 := z_ne (n := 3) (by decide) c7; have nc9 := z_ne (n := 4) (by decide) c9; have nc13 := z_ne (n := 5) (by decide) c13; have nc15 := z_ne (n := 6) (by decide) c15; have nc16 := z_ne (n := 7) (by decide) c16; omega) (by decide) ?_
      refine lv_ldc (v := (-1000001)) hx hb hown (hts _ wd_5_5) dX7_count_133 ?_
      obtain rfl := Option.some.inj h
      exact z_ri hc hI dX7_count_135
    · replace h := z_iff h c1
      refine lv_iload_n hx hb dX7_count_10 rfl (lv_at hl 2 rfl) ?_
      refine lv_aload_n hx hb dX7_count_11 rfl (lv_at hl 0 rfl) ?_
      refine gf_X7_13 hc hI dX7_count_12 ?_
      refine lv_iload_n hx hb dX7_count_15 rfl (lv_at hl 3 rfl) ?_
      obtain ⟨g17, h⟩ := z_grd_some h
      refine ld_k23 hc hI g17 dX7_count_16 ?_
      refine lv_if_lt (tgt := 24) hx hb dX7_count_17 (by decide) (fun c18 => ?_) (fun c18 => ?_)
      · replace h := z_ift h c18
        refine lv_iconst (v := 0) hx hb dX7_count_24 (by decide) ?_
        exact w_X7_count_b25 hc ih v1 v3 0 v2 _ _ _ h hI (lv_sub hl [0, 1, 3] rfl)
      · replace h := z_iff h c18
        refine lv_iconst (v := 1) hx hb dX7_count_20 (by decide) ?_
        refine lv_goto (tgt := 25) hx hb dX7_count_21 (by decide) ?_
        exact w_X7_count_b25 hc ih v1 v3 1 v2 _ _ _ h hI (lv_sub hl [0, 1, 3] rfl)
set_option maxRecDepth 100000 in
set_option maxHeartbeats 4000000 in
theorem c_X7_count {G : z_G} {l : Launch} {a1 : Int32} {M : z_M} {out : Int32} (h : F_X7_count a1 M = some out) : z_Met G l yX7_count cX7_count 4 (some .int) 3 [.ref (z_ad G 21 0), .int a1] M (some (.int out)) M := by
  unfold F_X7_count at h
  refine z_met_of (by decide) rfl (Nat.le_of_ble_eq_true rfl) (fun p e s m below meth c ls hc hI hl => ?_)
  obtain ⟨⟨hx, hb, hml, hown, hts⟩, hr, hlk⟩ := id hc
  have hl : lv_has ls 4 [(0, .ref (z_ad G 21 0)), (1, .int a1)] := hl
  refine lv_iconst (v := 0) hx hb dX7_count_0 (by decide) ?_
  refine lv_istore_n (lv' := [(2, .int 0), (0, .ref (z_ad G 21 0)), (1, .int a1)]) hx hb dX7_count_1 rfl hl (by decide) rfl (fun ls hl => ?_)
  refine lv_iconst (v := 0) hx hb dX7_count_2 (by decide) ?_
  refine lv_istore_n (lv' := [(3, .int 0), (2, .int 0), (0, .ref (z_ad G 21 0)), (1, .int a1)]) hx hb dX7_count_3 rfl hl (by decide) rfl (fun ls hl => ?_)
  exact w_X7_count_b4 hc _ a1 0 0 _ _ _ h hI (lv_sub hl [2, 3, 1, 0] rfl)
set_option maxRecDepth 100000 in
set_option maxHeartbeats 4000000 in
theorem c_X7_status {G : z_G} {l : Launch} {M : z_M} {out : Int32} (h : F_X7_status M = some out) : z_Met G l yX7_status cX7_status 1 (some .int) 1 [.ref (z_ad G 21 0)] M (some (.int out)) M := by
  unfold F_X7_status at h
  refine z_met_of (by decide) rfl (Nat.le_of_ble_eq_true rfl) (fun p e s m below meth c ls hc hI hl => ?_)
  obtain ⟨⟨hx, hb, hml, hown, hts⟩, hr, hlk⟩ := id hc
  have hl : lv_has ls 1 [(0, .ref (z_ad G 21 0))] := hl
  refine lv_aload_n hx hb dX7_status_0 rfl (lv_at hl 0 rfl) ?_
  refine gf_X7_47 hc hI dX7_status_1 ?_
  obtain rfl := Option.some.inj h
  exact z_ri hc hI dX7_status_4
end
