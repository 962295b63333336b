section
variable {p : Program} {l : Launch} {e : Env} {s : State} {m : MethodId} {args : Array Value} {below : List Frame} {meth : Method} {c : Code} {G : z_G}
set_option maxRecDepth 100000 in
set_option maxHeartbeats 4000000 in
theorem c_X7_allIn {G : z_G} {l : Launch} {a1 : Int32} {M : z_M} {out : Int32} (h : F_X7_allIn a1 M = some out) : z_Met G l yX7_allIn cX7_allIn 6 (some .int) 4 [.ref (z_ad G 21 0), .int a1] M (some (.int out)) M := by
  unfold F_X7_allIn at h
  refine z_met_of (by decide) rfl (Nat.le_of_ble_eq_true rfl) (fun p e s m below meth c ls hc hI hl => ?_)
  obtain ⟨⟨hx, hb, hml, hown, hts⟩, hr, hlk⟩ := id hc
  have hl : lv_has ls 6 [(0, .ref (z_ad G 21 0)), (1, .int a1)] := hl
  refine lv_iconst (v := 0) hx hb dX7_allIn_0 (by decide) ?_
  refine lv_istore_n (lv' := [(2, .int 0), (0, .ref (z_ad G 21 0)), (1, .int a1)]) hx hb dX7_allIn_1 rfl hl (by decide) rfl (fun ls hl => ?_)
  refine lv_iconst (v := 0) hx hb dX7_allIn_2 (by decide) ?_
  refine lv_istore_n (lv' := [(3, .int 0), (2, .int 0), (0, .ref (z_ad G 21 0)), (1, .int a1)]) hx hb dX7_allIn_3 rfl hl (by decide) rfl (fun ls hl => ?_)
  exact w_X7_allIn_b4 hc _ a1 0 0 _ _ _ h hI (lv_sub hl [2, 3, 1, 0] rfl)
set_option maxRecDepth 100000 in
set_option maxHeartbeats 4000000 in
theorem w_X7_choir_b57 {M : z_M} (hc : z_C p s m args meth c RX7 cX7_choir 6 (some .int)) {out : Int32} {K27 : Int32 → Int32 → Int32 → Int32 → Option Int32} (hK27 : ∀ (v1 : Int32) (v2 : Int32) (v3 : Int32) (v4 : Int32) (H : Heap) (locs : List Loc) (ls : Array Slot), K27 v1 v2 v3 v4 = some out → z_I G s M H locs → lv_has ls 6 [(0, .ref (z_ad G 21 0)), (1, .int v1), (2, .int v2), (3, .int v3), (4, .int v4)] → W p l e (z_rm 5) s m args below meth c H locs 0 0 (MQ below (z_Q G (some (.int out)) M) args s 0 0 (z_A G)) (F0 m 27 ls [])) (v1 : Int32) (v2 : Int32) (v3 : Int32) (v4 : Int32) (H : Heap) (locs : List Loc) (ls : Array Slot) (h : F_X7_choir_b57 M K27 v1 v2 v3 v4 = some out) (hI : z_I G s M H locs) (hl : lv_has ls 6 [(0, .ref (z_ad G 21 0)), (1, .int v1), (2, .int v2), (3, .int v3), (4, .int v4)]) : W p l e (z_rm 5) s m args below meth c H locs 0 0 (MQ below (z_Q G (some (.int out)) M) args s 0 0 (z_A G)) (F0 m 57 ls []) := by
  obtain ⟨⟨hx, hb, hml, hown, hts⟩, hr, hlk⟩ := id hc
  unfold F_X7_choir_b57 at h
  refine lv_iinc (v := v4 + 1) (lv' := [(4, .int (v4 + 1)), (0, .ref (z_ad G 21 0)), (1, .int v1), (2, .int v2), (3, .int v3)]) hx hb dX7_choir_57 hl (k := 4) rfl rfl (by decide) rfl (fun ls hl => ?_)
  refine lv_goto (tgt := 27) hx hb dX7_choir_60 (by decide) ?_
  exact hK27 v1 v2 v3 (v4 + 1) _ _ _ h hI (lv_sub hl [1, 2, 3, 4, 0] rfl)
set_option maxRecDepth 100000 in
set_option maxHeartbeats 4000000 in
theorem w_X7_choir_b27 {M : z_M} (hc : z_C p s m args meth c RX7 cX7_choir 6 (some .int)) {out : Int32} : ∀ (n : Nat) (v1 : Int32) (v2 : Int32) (v3 : Int32) (v4 : Int32) (H : Heap) (locs : List Loc) (ls : Array Slot) (h : F_X7_choir_b27 M n v1 v2 v3 v4 = some out) (hI : z_I G s M H locs) (hl : lv_has ls 6 [(0, .ref (z_ad G 21 0)), (1, .int v1), (2, .int v2), (3, .int v3), (4, .int v4)]), W p l e (z_rm 5) s m args below meth c H locs 0 0 (MQ below (z_Q G (some (.int out)) M) args s 0 0 (z_A G)) (F0 m 27 ls []) := by
  obtain ⟨⟨hx, hb, hml, hown, hts⟩, hr, hlk⟩ := id hc
  intro n
  induction n with
  | zero => intro v1 v2 v3 v4 H locs ls h; cases h
  | succ n ih =>
    intro v1 v2 v3 v4 H locs ls h hI hl
    rw [F_X7_choir_b27] at h
    refine lv_iload hx hb dX7_choir_27 (lv_at hl 4 rfl) ?_
    refine lv_bipush (v := 30) hx hb dX7_choir_29 (by decide) ?_
    refine lv_icmp_ge (tgt := 63) hx hb dX7_choir_31 (by decide) (fun c5 => ?_) (fun c5 => ?_)
    · replace h := z_ift h c5
      refine lv_iload_n hx hb dX7_choir_63 rfl (lv_at hl 1 rfl) ?_
      refine lv_if_ne (tgt := 71) hx hb dX7_choir_64 (by decide) (fun c6 => ?_) (fun c6 => ?_)
      · replace h := z_iff h c6
        refine lv_iload_n hx hb dX7_choir_71 rfl (lv_at hl 3 rfl) ?_
        obtain rfl := Option.some.inj h
        exact z_ri hc hI dX7_choir_72
      · replace h := z_ift h c6
        refine lv_iload_n hx hb dX7_choir_67 rfl (lv_at hl 2 rfl) ?_
        refine lv_goto (tgt := 72) hx hb dX7_choir_68 (by decide) ?_
        obtain rfl := Option.some.inj h
        exact z_ri hc hI dX7_choir_72
    · replace h := z_iff h c5
      refine lv_aload_n hx hb dX7_choir_34 rfl (lv_at hl 0 rfl) ?_
      refine lv_iload hx hb dX7_choir_35 (lv_at hl 4 rfl) ?_
      obtain ⟨q7, e8, h⟩ := z_bnd h
      refine iv_X7_225 hc hI (c_X7_allIn e8) (z_room (by decide) (by decide)) hl.1 (Nat.le_of_ble_eq_true rfl) ⟨Nat.zero_le _, Nat.zero_le _⟩ dX7_choir_37 (fun H locs hI => ?_)
      obtain ⟨q9, e10, h⟩ := z_bnd h
      refine iv_X7_228 hc hI (c_X7_ones e10) (z_room (by decide) (by decide)) hl.1 (Nat.le_of_ble_eq_true rfl) ⟨Nat.zero_le _, Nat.zero_le _⟩ dX7_choir_40 (fun H locs hI => ?_)
      refine lv_istore (lv' := [(5, .int q9), (0, .ref (z_ad G 21 0)), (1, .int v1), (2, .int v2), (3, .int v3), (4, .int v4)]) hx hb dX7_choir_43 hl (by decide) rfl (fun ls hl => ?_)
      refine lv_iload hx hb dX7_choir_45 (lv_at hl 0 rfl) ?_
      refine lv_iload_n hx hb dX7_choir_47 rfl (lv_at hl 4 rfl) ?_
      refine lv_icmp_le (tgt := 57) hx hb dX7_choir_48 (by decide) (fun c11 => ?_) (fun c11 => ?_)
      · replace h := z_ift h c11
        exact w_X7_choir_b57 hc ih v1 v2 v3 v4 _ _ _ h hI (lv_sub hl [1, 2, 3, 4, 5] rfl)
      · replace h := z_iff h c11
        refine lv_iload hx hb dX7_choir_51 (lv_at hl 0 rfl) ?_
        refine lv_istore_n (lv' := [(3, .int q9), (5, .int q9), (0, .ref (z_ad G 21 0)), (1, .int v1), (2, .int v2), (4, .int v4)]) hx hb dX7_choir_53 rfl hl (by decide) rfl (fun ls hl => ?_)
        refine lv_iload hx hb dX7_choir_54 (lv_at hl 5 rfl) ?_
        refine lv_istore_n (lv' := [(2, .int v4), (3, .int q9), (5, .int q9), (0, .ref (z_ad G 21 0)), (1, .int v1), (4, .int v4)]) hx hb dX7_choir_56 rfl hl (by decide) rfl (fun ls hl => ?_)
        exact w_X7_choir_b57 hc ih v1 v4 q9 v4 _ _ _ h hI (lv_sub hl [3, 4, 0, 1, 5] rfl)
set_option maxRecDepth 100000 in
set_option maxHeartbeats 4000000 in
theorem c_X7_choir {G : z_G} {l : Launch} {a1 : Int32} {M : z_M} {out : Int32} (h : F_X7_choir a1 M = some out) : z_Met G l yX7_choir cX7_choir 6 (some .int) 5 [.ref (z_ad G 21 0), .int a1] M (some (.int out)) M := by
  unfold F_X7_choir at h
  refine z_met_of (by decide) rfl (Nat.le_of_ble_eq_true rfl) (fun p e s m below meth c ls hc hI hl => ?_)
  obtain ⟨⟨hx, hb, hml, hown, hts⟩, hr, hlk⟩ := id hc
  have hl : lv_has ls 6 [(0, .ref (z_ad G 21 0)), (1, .int a1)] := hl
  refine lv_aload_n hx hb dX7_choir_0 rfl (lv_at hl 0 rfl) ?_
  refine gf_X7_138 hc hI dX7_choir_1 ?_
  refine lv_if_ne (tgt := 10) hx hb dX7_choir_4 (by decide) (fun c1 => ?_) (fun c1 => ?_)
  · replace h := z_iff h c1
    refine lv_iload_n hx hb dX7_choir_10 rfl (lv_at hl 1 rfl) ?_
    obtain ⟨q2, e3, h⟩ := z_bnd h
    refine iv_X7_216 hc hI (c_X7_isWhat e3) (z_room (by decide) (by decide)) hl.1 (Nat.le_of_ble_eq_true rfl) ⟨Nat.zero_le _, Nat.zero_le _⟩ dX7_choir_11 (fun H locs hI => ?_)
    refine lv_if_ne (tgt := 20) hx hb dX7_choir_14 (by decide) (fun c4 => ?_) (fun c4 => ?_)
    · replace h := z_iff h c4
      refine lv_iconst (v := 0) hx hb dX7_choir_20 (by decide) ?_
      refine lv_istore_n (lv' := [(2, .int 0), (0, .ref (z_ad G 21 0)), (1, .int a1)]) hx hb dX7_choir_21 rfl hl (by decide) rfl (fun ls hl => ?_)
      refine lv_iconst (v := 0) hx hb dX7_choir_22 (by decide) ?_
      refine lv_istore_n (lv' := [(3, .int 0), (2, .int 0), (0, .ref (z_ad G 21 0)), (1, .int a1)]) hx hb dX7_choir_23 rfl hl (by decide) rfl (fun ls hl => ?_)
      refine lv_iconst (v := 0) hx hb dX7_choir_24 (by decide) ?_
      refine lv_istore (lv' := [(4, .int 0), (3, .int 0), (2, .int 0), (0, .ref (z_ad G 21 0)), (1, .int a1)]) hx hb dX7_choir_25 hl (by decide) rfl (fun ls hl => ?_)
      exact w_X7_choir_b27 hc _ a1 0 0 0 _ _ _ h hI (lv_sub hl [3, 4, 2, 1, 0] rfl)
    · replace h := z_ift h c4
      refine lv_ldc (v := (-1000001)) hx hb hown (hts _ wd_5_5) dX7_choir_17 ?_
      obtain rfl := Option.some.inj h
      exact z_ri hc hI dX7_choir_19
  · replace h := z_ift h c1
    refine lv_ldc (v := (-1000002)) hx hb hown (hts _ wd_5_88) dX7_choir_7 ?_
    obtain rfl := Option.some.inj h
    exact z_ri hc hI dX7_choir_9
set_option maxRecDepth 100000 in
set_option maxHeartbeats 4000000 in
theorem w_X7_areTwins_b58 {M : z_M} (hc : z_C p s m args meth c RX7 cX7_areTwins 5 (some .boolean)) {out : Int32} {K22 : Int32 → Int32 → Int32 → Int32 → Option Int32} (hK22 : ∀ (v1 : Int32) (v2 : Int32) (v3 : Int32) (v4 : Int32) (H : Heap) (locs : List Loc) (ls : Array Slot), K22 v1 v2 v3 v4 = some out → z_I G s M H locs → lv_has ls 5 [(0, .ref (z_ad G 21 0)), (1, .int v1), (2, .int v2), (3, .int v3), (4, .int v4)] → W p l e (z_rm 5) s m args below meth c H locs 0 0 (MQ below (z_Q G (some (.int out)) M) args s 0 0 (z_A G)) (F0 m 22 ls [])) (v1 : Int32) (v2 : Int32) (v4 : Int32) (s0 : Int32) (H : Heap) (locs : List Loc) (ls : Array Slot) (h : F_X7_areTwins_b58 M K22 v1 v2 v4 s0 = some out) (hI : z_I G s M H locs) (hl : lv_has ls 5 [(0, .ref (z_ad G 21 0)), (1, .int v1), (2, .int v2), (4, .int v4)]) : W p l e (z_rm 5) s m args below meth c H locs 0 0 (MQ below (z_Q G (some (.int out)) M) args s 0 0 (z_A G)) (F0 m 58 ls [.int s0]) := by
  obtain ⟨⟨hx, hb, hml, hown, hts⟩, hr, hlk⟩ := id hc
  unfold F_X7_areTwins_b58 at h
  refine lv_istore_n (lv' := [(3, .int s0), (0, .ref (z_ad G 21 0)), (1, .int v1), (2, .int v2), (4, .int v4)]) hx hb dX7_areTwins_58 rfl hl (by decide) rfl (fun ls hl => ?_)
  refine lv_iinc (v := v4 + 1) (lv' := [(4, .int (v4 + 1)), (3, .int s0), (0, .ref (z_ad G 21 0)), (1, .int v1), (2, .int v2)]) hx hb dX7_areTwins_59 hl (k := 4) rfl rfl (by decide) rfl (fun ls hl => ?_)
  refine lv_goto (tgt := 22) hx hb dX7_areTwins_62 (by decide) ?_
  exact hK22 v1 v2 s0 (v4 + 1) _ _ _ h hI (lv_sub hl [2, 3, 4, 1, 0] rfl)
set_option maxRecDepth 100000 in
set_option maxHeartbeats 4000000 in
theorem w_X7_areTwins_b22 {M : z_M} (hc : z_C p s m args meth c RX7 cX7_areTwins 5 (some .boolean)) {out : Int32} : ∀ (n : Nat) (v1 : Int32) (v2 : Int32) (v3 : Int32) (v4 : Int32) (H : Heap) (locs : List Loc) (ls : Array Slot) (h : F_X7_areTwins_b22 M n v1 v2 v3 v4 = some out) (hI : z_I G s M H locs) (hl : lv_has ls 5 [(0, .ref (z_ad G 21 0)), (1, .int v1), (2, .int v2), (3, .int v3), (4, .int v4)]), W p l e (z_rm 5) s m args below meth c H locs 0 0 (MQ below (z_Q G (some (.int out)) M) args s 0 0 (z_A G)) (F0 m 22 ls []) := by
  obtain ⟨⟨hx, hb, hml, hown, hts⟩, hr, hlk⟩ := id hc
  intro n
  induction n with
  | zero => intro v1 v2 v3 v4 H locs ls h; cases h
  | succ n ih =>
    intro v1 v2 v3 v4 H locs ls h hI hl
    rw [F_X7_areTwins_b22] at h
    refine lv_iload hx hb dX7_areTwins_22 (lv_at hl 4 rfl) ?_
    refine lv_aload_n hx hb dX7_areTwins_24 rfl (lv_at hl 0 rfl) ?_
    refine lv_iload_n hx hb dX7_areTwins_25 rfl (lv_at hl 1 rfl) ?_
    obtain ⟨q6, e7, h⟩ := z_bnd h
    refine iv_X7_150 hc hI (c_X7_longOf e7) (z_room (by decide) (by decide)) hl.1 (Nat.le_of_ble_eq_true rfl) ⟨Nat.zero_le _, Nat.zero_le _⟩ dX7_areTwins_26 (fun H locs hI => ?_)
    refine lv_icmp_ge (tgt := 65) hx hb dX7_areTwins_29 (by decide) (fun c8 => ?_) (fun c8 => ?_)
    · replace h := z_ift h c8
      refine lv_iload_n hx hb dX7_areTwins_65 rfl (lv_at hl 3 rfl) ?_
      obtain ⟨g9, h⟩ := z_grd_some h
      obtain rfl := Option.some.inj h
      exact z_rz hc hI g9 dX7_areTwins_66
    · replace h := z_iff h c8
      refine lv_iload_n hx hb dX7_areTwins_32 rfl (lv_at hl 3 rfl) ?_
      refine lv_if_eq (tgt := 65) hx hb dX7_areTwins_33 (by decide) (fun c10 => ?_) (fun c10 => ?_)
      · replace h := z_ift h c10
        refine lv_iload_n hx hb dX7_areTwins_65 rfl (lv_at hl 3 rfl) ?_
        obtain ⟨g11, h⟩ := z_grd_some h
        obtain rfl := Option.some.inj h
        exact z_rz hc hI g11 dX7_areTwins_66
      · replace h := z_iff h c10
        refine lv_aload_n hx hb dX7_areTwins_36 rfl (lv_at hl 0 rfl) ?_
        refine lv_iload_n hx hb dX7_areTwins_37 rfl (lv_at hl 1 rfl) ?_
        refine lv_iload hx hb dX7_areTwins_38 (lv_at hl 4 rfl) ?_
        obtain ⟨q12, e13, h⟩ := z_bnd h
        refine iv_X7_204 hc hI (c_X7_tuneOf e13) (z_room (by decide) (by decide)) hl.1 (Nat.le_of_ble_eq_true rfl) ⟨Nat.zero_le _, Nat.zero_le _⟩ dX7_areTwins_40 (fun H locs hI => ?_)
        refine lv_aload_n hx hb dX7_areTwins_43 rfl (lv_at hl 0 rfl) ?_
        refine lv_iload_n hx hb dX7_areTwins_44 rfl (lv_at hl 2 rfl) ?_
        refine lv_iload hx hb dX7_areTwins_45 (lv_at hl 4 rfl) ?_
        obtain ⟨q14, e15, h⟩ := z_bnd h
        refine iv_X7_204 hc hI (c_X7_tuneOf e15) (z_room (by decide) (by decide)) hl.1 (Nat.le_of_ble_eq_true rfl) ⟨Nat.zero_le _, Nat.zero_le _⟩ dX7_areTwins_47 (fun H locs hI => ?_)
        refine lv_icmp_ne (tgt := 57) hx hb dX7_areTwins_50 (by decide) (fun c16 => ?_) (fun c16 => ?_)
        · replace h := z_iff h c16
          refine lv_iconst (v := 0) hx hb dX7_areTwins_57 (by decide) ?_
          exact w_X7_areTwins_b58 hc ih v1 v2 v4 0 _ _ _ h hI (lv_sub hl [0, 1, 2, 4] rfl)
        · replace h := z_ift h c16
          refine lv_iconst (v := 1) hx hb dX7_areTwins_53 (by decide) ?_
          refine lv_goto (tgt := 58) hx hb dX7_areTwins_54 (by decide) ?_
          exact w_X7_areTwins_b58 hc ih v1 v2 v4 1 _ _ _ h hI (lv_sub hl [0, 1, 2, 4] rfl)
set_option maxRecDepth 100000 in
set_option maxHeartbeats 4000000 in
theorem w_X7_areTwins_b18 {M : z_M} (hc : z_C p s m args meth c RX7 cX7_areTwins 5 (some .boolean)) {out : Int32} (v1 : Int32) (v2 : Int32) (s0 : Int32) (H : Heap) (locs : List Loc) (ls : Array Slot) (h : F_X7_areTwins_b18 M v1 v2 s0 = some out) (hI : z_I G s M H locs) (hl : lv_has ls 5 [(0, .ref (z_ad G 21 0)), (1, .int v1), (2, .int v2)]) : W p l e (z_rm 5) s m args below meth c H locs 0 0 (MQ below (z_Q G (some (.int out)) M) args s 0 0 (z_A G)) (F0 m 18 ls [.int s0]) := by
  obtain ⟨⟨hx, hb, hml, hown, hts⟩, hr, hlk⟩ := id hc
  unfold F_X7_areTwins_b18 at h
  refine lv_istore_n (lv' := [(3, .int s0), (0, .ref (z_ad G 21 0)), (1, .int v1), (2, .int v2)]) hx hb dX7_areTwins_18 rfl hl (by decide) rfl (fun ls hl => ?_)
  refine lv_iconst (v := 0) hx hb dX7_areTwins_19 (by decide) ?_
  refine lv_istore (lv' := [(4, .int 0), (3, .int s0), (0, .ref (z_ad G 21 0)), (1, .int v1), (2, .int v2)]) hx hb dX7_areTwins_20 hl (by decide) rfl (fun ls hl => ?_)
  exact w_X7_areTwins_b22 hc _ v1 v2 s0 0 _ _ _ h hI (lv_sub hl [2, 3, 4, 1, 0] rfl)
set_option maxRecDepth 100000 in
set_option maxHeartbeats 4000000 in
theorem c_X7_areTwins {G : z_G} {l : Launch} {a1 : Int32} {a2 : Int32} {M : z_M} {out : Int32} (h : F_X7_areTwins a1 a2 M = some out) : z_Met G l yX7_areTwins cX7_areTwins 5 (some .boolean) 5 [.ref (z_ad G 21 0), .int a1, .int a2] M (some (.int out)) M := by
  unfold F_X7_areTwins at h
  refine z_met_of (by decide) rfl (Nat.le_of_ble_eq_true rfl) (fun p e s m below meth c ls hc hI hl => ?_)
  obtain ⟨⟨hx, hb, hml, hown, hts⟩, hr, hlk⟩ := id hc
  have hl : lv_has ls 5 [(0, .ref (z_ad G 21 0)), (1, .int a1), (2, .int a2)] := hl
  refine lv_aload_n hx hb dX7_areTwins_0 rfl (lv_at hl 0 rfl) ?_
  refine lv_iload_n hx hb dX7_areTwins_1 rfl (lv_at hl 1 rfl) ?_
  obtain ⟨q1, e2, h⟩ := z_bnd h
  refine iv_X7_150 hc hI (c_X7_longOf e2) (z_room (by decide) (by decide)) hl.1 (Nat.le_of_ble_eq_true rfl) ⟨Nat.zero_le _, Nat.zero_le _⟩ dX7_areTwins_2 (fun H locs hI => ?_)
  refine lv_aload_n hx hb dX7_areTwins_5 rfl (lv_at hl 0 rfl) ?_
  refine lv_iload_n hx hb dX7_areTwins_6 rfl (lv_at hl 2 rfl) ?_
  obtain ⟨q3, e4, h⟩ := z_bnd h
  refine iv_X7_150 hc hI (c_X7_longOf e4) (z_room (by decide) (by decide)) hl.1 (Nat.le_of_ble_eq_true rfl) ⟨Nat.zero_le _, Nat.zero_le _⟩ dX7_areTwins_7 (fun H locs hI => ?_)
  refine lv_icmp_ne (tgt := 17) hx hb dX7_areTwins_10 (by decide) (fun c5 => ?_) (fun c5 => ?_)
  · replace h := z_iff h c5
    refine lv_iconst (v := 0) hx hb dX7_areTwins_17 (by decide) ?_
    exact w_X7_areTwins_b18 hc a1 a2 0 _ _ _ h hI hl
  · replace h := z_ift h c5
    refine lv_iconst (v := 1) hx hb dX7_areTwins_13 (by decide) ?_
    refine lv_goto (tgt := 18) hx hb dX7_areTwins_14 (by decide) ?_
    exact w_X7_areTwins_b18 hc a1 a2 1 _ _ _ h hI hl
set_option maxRecDepth 100000 in
set_option maxHeartbeats 4000000 in
theorem w_X7_twinsMany_b70 (hc : z_C p s m args meth c RX7 cX7_twinsMany 4 (some .int)) {out : (Int32 × z_M)} {K10 : Int32 → Int32 → z_M → Option (Int32 × z_M)} (hK10 : ∀ (v1 : Int32) (v2 : Int32) (M : z_M) (H : Heap) (locs : List Loc) (ls : Array Slot), K10 v1 v2 M = some out → z_I G s M H locs → lv_has ls 4 [(0, .ref (z_ad G 21 0)), (1, .int v1), (2, .int v2)] → W p l e (z_rm 6) s m args below meth c H locs 0 0 (MQ below (z_Q G (some (.int out.1)) out.2) args s 0 0 (z_A G)) (F0 m 10 ls [])) {K24 : Int32 → Int32 → Int32 → z_M → Option (Int32 × z_M)} (hK24 : ∀ (v1 : Int32) (v2 : Int32) (v3 : Int32) (M : z_M) (H : Heap) (locs : List Loc) (ls : Array Slot), K24 v1 v2 v3 M = some out → z_I G s M H locs → lv_has ls 4 [(0, .ref (z_ad G 21 0)), (1, .int v1), (2, .int v2), (3, .int v3)] → W p l e (z_rm 6) s m args below meth c H locs 0 0 (MQ below (z_Q G (some (.int out.1)) out.2) args s 0 0 (z_A G)) (F0 m 24 ls [])) (v1 : Int32) (v2 : Int32) (v3 : Int32) (M : z_M) (H : Heap) (locs : List Loc) (ls : Array Slot) (h : F_X7_twinsMany_b70 K10 K24 v1 v2 v3 M = some out) (hI : z_I G s M H locs) (hl : lv_has ls 4 [(0, .ref (z_ad G 21 0)), (1, .int v1), (2, .int v2), (3, .int v3)]) : W p l e (z_rm 6) s m args below meth c H locs 0 0 (MQ below (z_Q G (some (.int out.1)) out.2) args s 0 0 (z_A G)) (F0 m 70 ls []) := by
  obtain ⟨⟨hx, hb, hml, hown, hts⟩, hr, hlk⟩ := id hc
  unfold F_X7_twinsMany_b70 at h
  refine lv_iinc (v := v3 + 1) (lv' := [(3, .int (v3 + 1)), (0, .ref (z_ad G 21 0)), (1, .int v1), (2, .int v2)]) hx hb dX7_twinsMany_70 hl (k := 3) rfl rfl (by decide) rfl (fun ls hl => ?_)
  refine lv_goto (tgt := 24) hx hb dX7_twinsMany_73 (by decide) ?_
  exact hK24 v1 v2 (v3 + 1) _ _ _ _ h hI (lv_sub hl [1, 2, 3, 0] rfl)
set_option maxRecDepth 100000 in
set_option maxHeartbeats 4000000 in
theorem w_X7_twinsMany_b67 (hc : z_C p s m args meth c RX7 cX7_twinsMany 4 (some .int)) {out : (Int32 × z_M)} {K10 : Int32 → Int32 → z_M → Option (Int32 × z_M)} (hK10 : ∀ (v1 : Int32) (v2 : Int32) (M : z_M) (H : Heap) (locs : List Loc) (ls : Array Slot), K10 v1 v2 M = some out → z_I G s M H locs → lv_has ls 4 [(0, .ref (z_ad G 21 0)), (1, .int v1), (2, .int v2)] → W p l e (z_rm 6) s m args below meth c H locs 0 0 (MQ below (z_Q G (some (.int out.1)) out.2) args s 0 0 (z_A G)) (F0 m 10 ls [])) {K24 : Int32 → Int32 → Int32 → z_M → Option (Int32 × z_M)} (hK24 : ∀ (v1 : Int32) (v2 : Int32) (v3 : Int32) (M : z_M) (H : Heap) (locs : List Loc) (ls : Array Slot), K24 v1 v2 v3 M = some out → z_I G s M H locs → lv_has ls 4 [(0, .ref (z_ad G 21 0)), (1, .int v1), (2, .int v2), (3, .int v3)] → W p l e (z_rm 6) s m args below meth c H locs 0 0 (MQ below (z_Q G (some (.int out.1)) out.2) args s 0 0 (z_A G)) (F0 m 24 ls [])) (v1 : Int32) (v2 : Int32) (v3 : Int32) (s0 : Int32) (M : z_M) (H : Heap) (locs : List Loc) (ls : Array Slot) (h : F_X7_twinsMany_b67 K10 K24 v1 v2 v3 s0 M = some out) (hI : z_I G s M H locs) (hl : lv_has ls 4 [(0, .ref (z_ad G 21 0)), (1, .int v1), (2, .int v2), (3, .int v3)]) : W p l e (z_rm 6) s m args below meth c H locs 0 0 (MQ below (z_Q G (some (.int out.1)) out.2) args s 0 0 (z_A G)) (F0 m 67 ls [.int s0, .ref (z_ad G 21 0)]) := by
  obtain ⟨⟨hx, hb, hml, hown, hts⟩, hr, hlk⟩ := id hc
  unfold F_X7_twinsMany_b67 at h
  refine pf_X7_231 hc hI dX7_twinsMany_67 (fun H locs hI => ?_)
  exact w_X7_twinsMany_b70 hc hK10 hK24 v1 v2 v3 _ _ _ _ h hI hl
set_option maxRecDepth 100000 in
set_option maxHeartbeats 4000000 in
theorem w_X7_twinsMany_b24 (hc : z_C p s m args meth c RX7 cX7_twinsMany 4 (some .int)) {out : (Int32 × z_M)} {K10 : Int32 → Int32 → z_M → Option (Int32 × z_M)} (hK10 : ∀ (v1 : Int32) (v2 : Int32) (M : z_M) (H : Heap) (locs : List Loc) (ls : Array Slot), K10 v1 v2 M = some out → z_I G s M H locs → lv_has ls 4 [(0, .ref (z_ad G 21 0)), (1, .int v1), (2, .int v2)] → W p l e (z_rm 6) s m args below meth c H locs 0 0 (MQ below (z_Q G (some (.int out.1)) out.2) args s 0 0 (z_A G)) (F0 m 10 ls [])) : ∀ (n : Nat) (v1 : Int32) (v2 : Int32) (v3 : Int32) (M : z_M) (H : Heap) (locs : List Loc) (ls : Array Slot) (h : F_X7_twinsMany_b24 K10 n v1 v2 v3 M = some out) (hI : z_I G s M H locs) (hl : lv_has ls 4 [(0, .ref (z_ad G 21 0)), (1, .int v1), (2, .int v2), (3, .int v3)]), W p l e (z_rm 6) s m args below meth c H locs 0 0 (MQ below (z_Q G (some (.int out.1)) out.2) args s 0 0 (z_A G)) (F0 m 24 ls []) := by
  obtain ⟨⟨hx, hb, hml, hown, hts⟩, hr, hlk⟩ := id hc
  intro n
  induction n with
  | zero => intro v1 v2 v3 M H locs ls h; cases h
  | succ n ih =>
    intro v1 v2 v3 M H locs ls h hI hl
    rw [F_X7_twinsMany_b24] at h
    refine lv_iload_n hx hb dX7_twinsMany_24 rfl (lv_at hl 3 rfl) ?_
    refine lv_aload_n hx hb dX7_twinsMany_25 rfl (lv_at hl 0 rfl) ?_
    refine gf_X7_19 hc hI dX7_twinsMany_26 ?_
    refine lv_iconst (v := 1) hx hb dX7_twinsMany_29 (by decide) ?_
    obtain ⟨g4, h⟩ := z_grd_some h
    refine ld_k25 hc hI g4 dX7_twinsMany_30 ?_
    refine lv_icmp_ge (tgt := 76) hx hb dX7_twinsMany_31 (by decide) (fun c5 => ?_) (fun c5 => ?_)
    · replace h := z_ift h c5
      refine lv_iinc (v := v2 + 1) (lv' := [(2, .int (v2 + 1)), (0, .ref (z_ad G 21 0)), (1, .int v1), (3, .int v3)]) hx hb dX7_twinsMany_76 hl (k := 2) rfl rfl (by decide) rfl (fun ls hl => ?_)
      refine lv_goto (tgt := 10) hx hb dX7_twinsMany_79 (by decide) ?_
      exact hK10 v1 (v2 + 1) _ _ _ _ h hI (lv_sub hl [1, 2, 0] rfl)
    · replace h := z_iff h c5
      refine lv_aload_n hx hb dX7_twinsMany_34 rfl (lv_at hl 0 rfl) ?_
      refine lv_iload_n hx hb dX7_twinsMany_35 rfl (lv_at hl 2 rfl) ?_
      refine lv_iload_n hx hb dX7_twinsMany_36 rfl (lv_at hl 3 rfl) ?_
      obtain ⟨q6, e7, h⟩ := z_bnd h
      refine iv_X7_234 hc hI (c_X7_areTwins e7) (z_room (by decide) (by decide)) hl.1 (Nat.le_of_ble_eq_true rfl) ⟨Nat.zero_le _, Nat.zero_le _⟩ dX7_twinsMany_37 (fun H locs hI => ?_)
      refine lv_if_eq (tgt := 70) hx hb dX7_twinsMany_40 (by decide) (fun c8 => ?_) (fun c8 => ?_)
      · replace h := z_ift h c8
        exact w_X7_twinsMany_b70 hc hK10 ih v1 v2 v3 _ _ _ _ h hI hl
      · replace h := z_iff h c8
        refine lv_iinc (v := v1 + 1) (lv' := [(1, .int (v1 + 1)), (0, .ref (z_ad G 21 0)), (2, .int v2), (3, .int v3)]) hx hb dX7_twinsMany_43 hl (k := 1) rfl rfl (by decide) rfl (fun ls hl => ?_)
        refine lv_aload_n hx hb dX7_twinsMany_46 rfl (lv_at hl 1 rfl) ?_
        refine lv_aload_n hx hb dX7_twinsMany_47 rfl (lv_at hl 1 rfl) ?_
        refine gf_X7_231 hc hI dX7_twinsMany_48 ?_
        refine lv_if_ge (tgt := 63) hx hb dX7_twinsMany_51 (by decide) (fun c9 => ?_) (fun c9 => ?_)
        · replace h := z_ift h c9
          refine lv_aload_n hx hb dX7_twinsMany_63 rfl (lv_at hl 1 rfl) ?_
          refine gf_X7_231 hc hI dX7_twinsMany_64 ?_
          exact w_X7_twinsMany_b67 hc hK10 ih (v1 + 1) v2 v3 (z_gi M 21 0 19) _ _ _ _ h hI (lv_sub hl [1, 0, 2, 3] rfl)
        · replace h := z_iff h c9
          refine lv_bipush (v := 10) hx hb dX7_twinsMany_54 (by decide) ?_
          refine lv_iload_n hx hb dX7_twinsMany_56 rfl (lv_at hl 2 rfl) ?_
          refine lv_imul hx hb dX7_twinsMany_57 ?_
          refine lv_iload_n hx hb dX7_twinsMany_58 rfl (lv_at hl 3 rfl) ?_
          refine lv_iadd hx hb dX7_twinsMany_59 ?_
          refine lv_goto (tgt := 67) hx hb dX7_twinsMany_60 (by decide) ?_
          exact w_X7_twinsMany_b67 hc hK10 ih (v1 + 1) v2 v3 (((10 : Int32) * v2) + v3) _ _ _ _ h hI (lv_sub hl [1, 0, 2, 3] rfl)
set_option maxRecDepth 100000 in
set_option maxHeartbeats 4000000 in
theorem w_X7_twinsMany_b10 (hc : z_C p s m args meth c RX7 cX7_twinsMany 4 (some .int)) {out : (Int32 × z_M)} : ∀ (n : Nat) (v1 : Int32) (v2 : Int32) (M : z_M) (H : Heap) (locs : List Loc) (ls : Array Slot) (h : F_X7_twinsMany_b10 n v1 v2 M = some out) (hI : z_I G s M H locs) (hl : lv_has ls 4 [(0, .ref (z_ad G 21 0)), (1, .int v1), (2, .int v2)]), W p l e (z_rm 6) s m args below meth c H locs 0 0 (MQ below (z_Q G (some (.int out.1)) out.2) args s 0 0 (z_A G)) (F0 m 10 ls []) := by
  obtain ⟨⟨hx, hb, hml, hown, hts⟩, hr, hlk⟩ := id hc
  intro n
  induction n with
  | zero => intro v1 v2 M H locs ls h; cases h
  | succ n ih =>
    intro v1 v2 M H locs ls h hI hl
    rw [F_X7_twinsMany_b10] at h
    refine lv_iload_n hx hb dX7_twinsMany_10 rfl (lv_at hl 2 rfl) ?_
    refine lv_aload_n hx hb dX7_twinsMany_11 rfl (lv_at hl 0 rfl) ?_
    refine gf_X7_19 hc hI dX7_twinsMany_12 ?_
    refine lv_iconst (v := 1) hx hb dX7_twinsMany_15 (by decide) ?_
    obtain ⟨g1, h⟩ := z_grd_some h
    refine ld_k25 hc hI g1 dX7_twinsMany_16 ?_
    refine lv_icmp_ge (tgt := 82) hx hb dX7_twinsMany_17 (by decide) (fun c2 => ?_) (fun c2 => ?_)
    · replace h := z_ift h c2
      refine lv_iload_n hx hb dX7_twinsMany_82 rfl (lv_at hl 1 rfl) ?_
      obtain rfl := Option.some.inj h
      exact z_ri hc hI dX7_twinsMany_83
    · replace h := z_iff h c2
      refine lv_iload_n hx hb dX7_twinsMany_20 rfl (lv_at hl 2 rfl) ?_
      refine lv_iconst (v := 1) hx hb dX7_twinsMany_21 (by decide) ?_
      refine lv_iadd hx hb dX7_twinsMany_22 ?_
      refine z_nI h (fun x3 h => ?_)
      refine lv_istore_n (lv' := [(3, .int x3), (0, .ref (z_ad G 21 0)), (1, .int v1), (2, .int v2)]) hx hb dX7_twinsMany_23 rfl hl (by decide) rfl (fun ls hl => ?_)
      exact w_X7_twinsMany_b24 hc ih _ v1 v2 x3 _ _ _ _ h hI (lv_sub hl [1, 2, 3, 0] rfl)
set_option maxRecDepth 100000 in
set_option maxHeartbeats 4000000 in
theorem c_X7_twinsMany {G : z_G} {l : Launch} {M : z_M} {out : (Int32 × z_M)} (h : F_X7_twinsMany M = some out) : z_Met G l yX7_twinsMany cX7_twinsMany 4 (some .int) 6 [.ref (z_ad G 21 0)] M (some (.int out.1)) out.2 := by
  unfold F_X7_twinsMany at h
  refine z_met_of (by decide) rfl (Nat.le_of_ble_eq_true rfl) (fun p e s m below meth c ls hc hI hl => ?_)
  obtain ⟨⟨hx, hb, hml, hown, hts⟩, hr, hlk⟩ := id hc
  have hl : lv_has ls 4 [(0, .ref (z_ad G 21 0))] := hl
  refine lv_iconst (v := 0) hx hb dX7_twinsMany_0 (by decide) ?_
  refine lv_istore_n (lv' := [(1, .int 0), (0, .ref (z_ad G 21 0))]) hx hb dX7_twinsMany_1 rfl hl (by decide) rfl (fun ls hl => ?_)
  refine lv_aload_n hx hb dX7_twinsMany_2 rfl (lv_at hl 1 rfl) ?_
  refine lv_ldc (v := (-1000000)) hx hb hown (hts _ wd_5_183) dX7_twinsMany_3 ?_
  refine pf_X7_231 hc hI dX7_twinsMany_5 (fun H locs hI => ?_)
  refine lv_iconst (v := 0) hx hb dX7_twinsMany_8 (by decide) ?_
  refine lv_istore_n (lv' := [(2, .int 0), (1, .int 0), (0, .ref (z_ad G 21 0))]) hx hb dX7_twinsMany_9 rfl hl (by decide) rfl (fun ls hl => ?_)
  exact w_X7_twinsMany_b10 hc _ 0 0 _ _ _ _ h hI (lv_sub hl [2, 1, 0] rfl)
set_option maxRecDepth 100000 in
set_option maxHeartbeats 4000000 in
theorem c_X7_twins {G : z_G} {l : Launch} {a1 : Int32} {M : z_M} {out : (Int32 × z_M)} (h : F_X7_twins a1 M = some out) : z_Met G l yX7_twins cX7_twins 3 (some .int) 7 [.ref (z_ad G 21 0), .int a1] M (some (.int out.1)) out.2 := by
  unfold F_X7_twins at h
  refine z_met_of (by decide) rfl (Nat.le_of_ble_eq_true rfl) (fun p e s m below meth c ls hc hI hl => ?_)
  obtain ⟨⟨hx, hb, hml, hown, hts⟩, hr, hlk⟩ := id hc
  have hl : lv_has ls 3 [(0, .ref (z_ad G 21 0)), (1, .int a1)] := hl
  refine lv_aload_n hx hb dX7_twins_0 rfl (lv_at hl 0 rfl) ?_
  refine gf_X7_138 hc hI dX7_twins_1 ?_
  refine lv_if_ne (tgt := 10) hx hb dX7_twins_4 (by decide) (fun c1 => ?_) (fun c1 => ?_)
  · replace h := z_iff h c1
    refine lv_iload_n hx hb dX7_twins_10 rfl (lv_at hl 1 rfl) ?_
    obtain ⟨q2, e3, h⟩ := z_bnd h
    refine iv_X7_216 hc hI (c_X7_isWhat e3) (z_room (by decide) (by decide)) hl.1 (Nat.le_of_ble_eq_true rfl) ⟨Nat.zero_le _, Nat.zero_le _⟩ dX7_twins_11 (fun H locs hI => ?_)
    refine lv_if_ne (tgt := 20) hx hb dX7_twins_14 (by decide) (fun c4 => ?_) (fun c4 => ?_)
    · replace h := z_iff h c4
      refine lv_aload_n hx hb dX7_twins_20 rfl (lv_at hl 0 rfl) ?_
      obtain ⟨q5, e6, h⟩ := z_bnd h
      refine iv_X7_237 hc hI (c_X7_twinsMany e6) (z_room (by decide) (by decide)) hl.1 (Nat.le_of_ble_eq_true rfl) ⟨Nat.zero_le _, Nat.zero_le _⟩ dX7_twins_21 (fun H locs hI => ?_)
      refine lv_istore_n (lv' := [(2, .int q5.1), (0, .ref (z_ad G 21 0)), (1, .int a1)]) hx hb dX7_twins_24 rfl hl (by decide) rfl (fun ls hl => ?_)
      refine lv_iload_n hx hb dX7_twins_25 rfl (lv_at hl 2 rfl) ?_
      refine lv_if_ne (tgt := 33) hx hb dX7_twins_26 (by decide) (fun c7 => ?_) (fun c7 => ?_)
      · replace h := z_iff h c7
        refine lv_aload_n hx hb dX7_twins_33 rfl (lv_at hl 1 rfl) ?_
        refine gf_X7_231 hc hI dX7_twins_34 ?_
        obtain rfl := Option.some.inj h
        exact z_ri hc hI dX7_twins_37
      · replace h := z_ift h c7
        refine lv_iload_n hx hb dX7_twins_29 rfl (lv_at hl 0 rfl) ?_
        refine lv_goto (tgt := 37) hx hb dX7_twins_30 (by decide) ?_
        obtain rfl := Option.some.inj h
        exact z_ri hc hI dX7_twins_37
    · replace h := z_ift h c4
      refine lv_ldc (v := (-1000001)) hx hb hown (hts _ wd_5_5) dX7_twins_17 ?_
      obtain rfl := Option.some.inj h
      exact z_ri hc hI dX7_twins_19
  · replace h := z_ift h c1
    refine lv_ldc (v := (-1000002)) hx hb hown (hts _ wd_5_88) dX7_twins_7 ?_
    obtain rfl := Option.some.inj h
    exact z_ri hc hI dX7_twins_9
set_option maxRecDepth 100000 in
set_option maxHeartbeats 4000000 in
theorem w_X7_isHeard_b67 {M : z_M} (hc : z_C p s m args meth c RX7 cX7_isHeard 6 (some .boolean)) {out : Int32} {K5 : Int32 → Int32 → Int32 → Int32 → Option Int32} (hK5 : ∀ (v1 : Int32) (v2 : Int32) (v3 : Int32) (v4 : Int32) (H : Heap) (locs : List Loc) (ls : Array Slot), K5 v1 v2 v3 v4 = some out → z_I G s M H locs → lv_has ls 6 [(0, .ref (z_ad G 21 0)), (1, .int v1), (2, .int v2), (3, .int v3), (4, .int v4)] → W p l e (z_rm 4) s m args below meth c H locs 0 0 (MQ below (z_Q G (some (.int out)) M) args s 0 0 (z_A G)) (F0 m 5 ls [])) (v1 : Int32) (v2 : Int32) (v4 : Int32) (s0 : Int32) (H : Heap) (locs : List Loc) (ls : Array Slot) (h : F_X7_isHeard_b67 M K5 v1 v2 v4 s0 = some out) (hI : z_I G s M H locs) (hl : lv_has ls 6 [(0, .ref (z_ad G 21 0)), (1, .int v1), (2, .int v2), (4, .int v4)]) : W p l e (z_rm 4) s m args below meth c H locs 0 0 (MQ below (z_Q G (some (.int out)) M) args s 0 0 (z_A G)) (F0 m 67 ls [.int s0]) := by
  obtain ⟨⟨hx, hb, hml, hown, hts⟩, hr, hlk⟩ := id hc
  unfold F_X7_isHeard_b67 at h
  refine lv_istore_n (lv' := [(3, .int s0), (0, .ref (z_ad G 21 0)), (1, .int v1), (2, .int v2), (4, .int v4)]) hx hb dX7_isHeard_67 rfl hl (by decide) rfl (fun ls hl => ?_)
  refine lv_iinc (v := v4 + 1) (lv' := [(4, .int (v4 + 1)), (3, .int s0), (0, .ref (z_ad G 21 0)), (1, .int v1), (2, .int v2)]) hx hb dX7_isHeard_68 hl (k := 4) rfl rfl (by decide) rfl (fun ls hl => ?_)
  refine lv_goto (tgt := 5) hx hb dX7_isHeard_71 (by decide) ?_
  exact hK5 v1 v2 s0 (v4 + 1) _ _ _ h hI (lv_sub hl [2, 3, 4, 1, 0] rfl)
set_option maxRecDepth 100000 in
set_option maxHeartbeats 4000000 in
theorem w_X7_isHeard_b62 {M : z_M} (hc : z_C p s m args meth c RX7 cX7_isHeard 6 (some .boolean)) {out : Int32} {K5 : Int32 → Int32 → Int32 → Int32 → Option Int32} (hK5 : ∀ (v1 : Int32) (v2 : Int32) (v3 : Int32) (v4 : Int32) (H : Heap) (locs : List Loc) (ls : Array Slot), K5 v1 v2 v3 v4 = some out → z_I G s M H locs → lv_has ls 6 [(0, .ref (z_ad G 21 0)), (1, .int v1), (2, .int v2), (3, .int v3), (4, .int v4)] → W p l e (z_rm 4) s m args below meth c H locs 0 0 (MQ below (z_Q G (some (.int out)) M) args s 0 0 (z_A G)) (F0 m 5 ls [])) (v1 : Int32) (v2 : Int32) (v4 : Int32) (H : Heap) (locs : List Loc) (ls : Array Slot) (h : F_X7_isHeard_b62 M K5 v1 v2 v4 = some out) (hI : z_I G s M H locs) (hl : lv_has ls 6 [(0, .ref (z_ad G 21 0)), (1, .int v1), (2, .int v2), (4, .int v4)]) : W p l e (z_rm 4) s m args below meth c H locs 0 0 (MQ below (z_Q G (some (.int out)) M) args s 0 0 (z_A G)) (F0 m 62 ls []) := by
  obtain ⟨⟨hx, hb, hml, hown, hts⟩, hr, hlk⟩ := id hc
  unfold F_X7_isHeard_b62 at h
  refine lv_iconst (v := 1) hx hb dX7_isHeard_62 (by decide) ?_
  refine lv_goto (tgt := 67) hx hb dX7_isHeard_63 (by decide) ?_
  exact w_X7_isHeard_b67 hc hK5 v1 v2 v4 1 _ _ _ h hI hl
set_option maxRecDepth 100000 in
set_option maxHeartbeats 4000000 in
theorem w_X7_isHeard_b66 {M : z_M} (hc : z_C p s m args meth c RX7 cX7_isHeard 6 (some .boolean)) {out : Int32} {K5 : Int32 → Int32 → Int32 → Int32 → Option Int32} (hK5 : ∀ (v1 : Int32) (v2 : Int32) (v3 : Int32) (v4 : Int32) (H : Heap) (locs : List Loc) (ls : Array Slot), K5 v1 v2 v3 v4 = some out → z_I G s M H locs → lv_has ls 6 [(0, .ref (z_ad G 21 0)), (1, .int v1), (2, .int v2), (3, .int v3), (4, .int v4)] → W p l e (z_rm 4) s m args below meth c H locs 0 0 (MQ below (z_Q G (some (.int out)) M) args s 0 0 (z_A G)) (F0 m 5 ls [])) (v1 : Int32) (v2 : Int32) (v4 : Int32) (H : Heap) (locs : List Loc) (ls : Array Slot) (h : F_X7_isHeard_b66 M K5 v1 v2 v4 = some out) (hI : z_I G s M H locs) (hl : lv_has ls 6 [(0, .ref (z_ad G 21 0)), (1, .int v1), (2, .int v2), (4, .int v4)]) : W p l e (z_rm 4) s m args below meth c H locs 0 0 (MQ below (z_Q G (some (.int out)) M) args s 0 0 (z_A G)) (F0 m 66 ls []) := by
  obtain ⟨⟨hx, hb, hml, hown, hts⟩, hr, hlk⟩ := id hc
  unfold F_X7_isHeard_b66 at h
  refine lv_iconst (v := 0) hx hb dX7_isHeard_66 (by decide) ?_
  exact w_X7_isHeard_b67 hc hK5 v1 v2 v4 0 _ _ _ h hI hl
set_option maxRecDepth 100000 in
set_option maxHeartbeats 4000000 in
theorem w_X7_isHeard_b5 {M : z_M} (hc : z_C p s m args meth c RX7 cX7_isHeard 6 (some .boolean)) {out : Int32} : ∀ (n : Nat) (v1 : Int32) (v2 : Int32) (v3 : Int32) (v4 : Int32) (H : Heap) (locs : List Loc) (ls : Array Slot) (h : F_X7_isHeard_b5 M n v1 v2 v3 v4 = some out) (hI : z_I G s M H locs) (hl : lv_has ls 6 [(0, .ref (z_ad G 21 0)), (1, .int v1), (2, .int v2), (3, .int v3), (4, .int v4)]), W p l e (z_rm 4) s m args below meth c H locs 0 0 (MQ below (z_Q G (some (.int out)) M) args s 0 0 (z_A G)) (F0 m 5 ls []) := by
  obtain ⟨⟨hx, hb, hml, hown, hts⟩, hr, hlk⟩ := id hc
  intro n
  induction n with
  | zero => intro v1 v2 v3 v4 H locs ls h; cases h
  | succ n ih =>
    intro v1 v2 v3 v4 H locs ls h hI hl
    rw [F_X7_isHeard_b5] at h
    refine lv_iload hx hb dX7_isHeard_5 (lv_at hl 4 rfl) ?_
    refine lv_aload_n hx hb dX7_isHeard_7 rfl (lv_at hl 0 rfl) ?_
    refine lv_iload_n hx hb dX7_isHeard_8 rfl (lv_at hl 1 rfl) ?_
    obtain ⟨q1, e2, h⟩ := z_bnd h
    refine iv_X7_150 hc hI (c_X7_longOf e2) (z_room (by decide) (by decide)) hl.1 (Nat.le_of_ble_eq_true rfl) ⟨Nat.zero_le _, Nat.zero_le _⟩ dX7_isHeard_9 (fun H locs hI => ?_)
    refine lv_icmp_ge (tgt := 74) hx hb dX7_isHeard_12 (by decide) (fun c3 => ?_) (fun c3 => ?_)
    · replace h := z_ift h c3
      refine lv_iload_n hx hb dX7_isHeard_74 rfl (lv_at hl 3 rfl) ?_
      obtain ⟨g4, h⟩ := z_grd_some h
      obtain rfl := Option.some.inj h
      exact z_rz hc hI g4 dX7_isHeard_75
    · replace h := z_iff h c3
      refine lv_aload_n hx hb dX7_isHeard_15 rfl (lv_at hl 0 rfl) ?_
      refine lv_iload_n hx hb dX7_isHeard_16 rfl (lv_at hl 1 rfl) ?_
      refine lv_iload hx hb dX7_isHeard_17 (lv_at hl 4 rfl) ?_
      obtain ⟨q5, e6, h⟩ := z_bnd h
      refine iv_X7_153 hc hI (c_X7_treadOf e6) (z_room (by decide) (by decide)) hl.1 (Nat.le_of_ble_eq_true rfl) ⟨Nat.zero_le _, Nat.zero_le _⟩ dX7_isHeard_19 (fun H locs hI => ?_)
      refine lv_istore (lv' := [(5, .int q5), (0, .ref (z_ad G 21 0)), (1, .int v1), (2, .int v2), (3, .int v3), (4, .int v4)]) hx hb dX7_isHeard_22 hl (by decide) rfl (fun ls hl => ?_)
      refine lv_iload_n hx hb dX7_isHeard_24 rfl (lv_at hl 4 rfl) ?_
      refine lv_if_ne (tgt := 62) hx hb dX7_isHeard_25 (by decide) (fun c7 => ?_) (fun c7 => ?_)
      · replace h := z_iff h c7
        exact w_X7_isHeard_b62 hc ih v1 v2 v4 _ _ _ h hI (lv_sub hl [1, 2, 3, 5] rfl)
      · replace h := z_ift h c7
        refine lv_iload hx hb dX7_isHeard_28 (lv_at hl 0 rfl) ?_
        refine lv_iload_n hx hb dX7_isHeard_30 rfl (lv_at hl 3 rfl) ?_
        refine lv_isub hx hb dX7_isHeard_31 ?_
        obtain ⟨q8, e9, h⟩ := z_bnd h
        refine iv_X7_147 hc hI (c_X7_size e9) (z_room (by decide) (by decide)) hl.1 (Nat.le_of_ble_eq_true rfl) ⟨Nat.zero_le _, Nat.zero_le _⟩ dX7_isHeard_32 (fun H locs hI => ?_)
        refine lv_aload_n hx hb dX7_isHeard_35 rfl (lv_at hl 1 rfl) ?_
        refine gf_X7_19 hc hI dX7_isHeard_36 ?_
        refine lv_iconst (v := 3) hx hb dX7_isHeard_39 (by decide) ?_
        obtain ⟨g10, h⟩ := z_grd_some h
        refine ld_k25 hc hI g10 dX7_isHeard_40 ?_
        refine lv_icmp_gt (tgt := 66) hx hb dX7_isHeard_41 (by decide) (fun c11 => ?_) (fun c11 => ?_)
        · replace h := z_ift h c11
          exact w_X7_isHeard_b66 hc ih v1 v2 v4 _ _ _ h hI (lv_sub hl [1, 2, 3, 5] rfl)
        · replace h := z_iff h c11
          refine lv_aload_n hx hb dX7_isHeard_44 rfl (lv_at hl 1 rfl) ?_
          refine lv_iload hx hb dX7_isHeard_45 (lv_at hl 0 rfl) ?_
          refine lv_aload_n hx hb dX7_isHeard_47 rfl (lv_at hl 1 rfl) ?_
          refine gf_X7_19 hc hI dX7_isHeard_48 ?_
          refine lv_bipush (v := 39) hx hb dX7_isHeard_51 (by decide) ?_
          refine lv_iload_n hx hb dX7_isHeard_53 rfl (lv_at hl 2 rfl) ?_
          refine lv_iadd hx hb dX7_isHeard_54 ?_
          obtain ⟨g12, h⟩ := z_grd_some h
          refine ld_k25 hc hI g12 dX7_isHeard_55 ?_
          obtain ⟨q13, e14, h⟩ := z_bnd h
          refine iv_X7_169 hc hI (c_X7_sound e14) (z_room (by decide) (by decide)) hl.1 (Nat.le_of_ble_eq_true rfl) ⟨Nat.zero_le _, Nat.zero_le _⟩ dX7_isHeard_56 (fun H locs hI => ?_)
          refine lv_if_lt (tgt := 66) hx hb dX7_isHeard_59 (by decide) (fun c15 => ?_) (fun c15 => ?_)
          · replace h := z_ift h c15
            exact w_X7_isHeard_b66 hc ih v1 v2 v4 _ _ _ h hI (lv_sub hl [1, 2, 3, 5] rfl)
          · replace h := z_iff h c15
            exact w_X7_isHeard_b62 hc ih v1 v2 v4 _ _ _ h hI (lv_sub hl [1, 2, 3, 5] rfl)
set_option maxRecDepth 100000 in
set_option maxHeartbeats 4000000 in
theorem c_X7_isHeard {G : z_G} {l : Launch} {a1 : Int32} {a2 : Int32} {M : z_M} {out : Int32} (h : F_X7_isHeard a1 a2 M = some out) : z_Met G l yX7_isHeard cX7_isHeard 6 (some .boolean) 4 [.ref (z_ad G 21 0), .int a1, .int a2] M (some (.int out)) M := by
  unfold F_X7_isHeard at h
  refine z_met_of (by decide) rfl (Nat.le_of_ble_eq_true rfl) (fun p e s m below meth c ls hc hI hl => ?_)
  obtain ⟨⟨hx, hb, hml, hown, hts⟩, hr, hlk⟩ := id hc
  have hl : lv_has ls 6 [(0, .ref (z_ad G 21 0)), (1, .int a1), (2, .int a2)] := hl
  refine lv_iconst (v := 0) hx hb dX7_isHeard_0 (by decide) ?_
  refine lv_istore_n (lv' := [(3, .int 0), (0, .ref (z_ad G 21 0)), (1, .int a1), (2, .int a2)]) hx hb dX7_isHeard_1 rfl hl (by decide) rfl (fun ls hl => ?_)
  refine lv_iconst (v := 0) hx hb dX7_isHeard_2 (by decide) ?_
  refine lv_istore (lv' := [(4, .int 0), (3, .int 0), (0, .ref (z_ad G 21 0)), (1, .int a1), (2, .int a2)]) hx hb dX7_isHeard_3 hl (by decide) rfl (fun ls hl => ?_)
  exact w_X7_isHeard_b5 hc _ a1 a2 0 0 _ _ _ h hI (lv_sub hl [2, 3, 4, 1, 0] rfl)
set_option maxRecDepth 100000 in
set_option maxHeartbeats 4000000 in
theorem w_X7_felt_b158 (hc : z_C p s m args meth c RX7 cX7_felt 7 (some .int)) {out : (Int32 × z_M)} (v4 : Int32) (M : z_M) (H : Heap) (locs : List Loc) (ls : Array Slot) (h : F_X7_felt_b158 v4 M = some out) (hI : z_I G s M H locs) (hl : lv_has ls 7 [(4, .int v4)]) : W p l e (z_rm 5) s m args below meth c H locs 0 0 (MQ below (z_Q G (some (.int out.1)) out.2) args s 0 0 (z_A G)) (F0 m 158 ls []) := by
  obtain ⟨⟨hx, hb, hml, hown, hts⟩, hr, hlk⟩ := id hc
  unfold F_X7_felt_b158 at h
  refine lv_iload hx hb dX7_felt_158 (lv_at hl 0 rfl) ?_
  refine lv_goto (tgt := 168) hx hb dX7_felt_160 (by decide) ?_
  obtain rfl := Option.some.inj h
  exact z_ri hc hI dX7_felt_168
set_option maxRecDepth 100000 in
set_option maxHeartbeats 4000000 in
theorem w_X7_felt_b142 (hc : z_C p s m args meth c RX7 cX7_felt 7 (some .int)) {out : (Int32 × z_M)} {K37 : Int32 → Int32 → Int32 → Int32 → Int32 → z_M → Option (Int32 × z_M)} (hK37 : ∀ (v1 : Int32) (v2 : Int32) (v3 : Int32) (v4 : Int32) (v5 : Int32) (M : z_M) (H : Heap) (locs : List Loc) (ls : Array Slot), K37 v1 v2 v3 v4 v5 M = some out → z_I G s M H locs → lv_has ls 7 [(0, .ref (z_ad G 21 0)), (1, .int v1), (2, .int v2), (3, .int v3), (4, .int v4), (5, .int v5)] → W p l e (z_rm 5) s m args below meth c H locs 0 0 (MQ below (z_Q G (some (.int out.1)) out.2) args s 0 0 (z_A G)) (F0 m 37 ls [])) (v1 : Int32) (v2 : Int32) (v3 : Int32) (v4 : Int32) (v5 : Int32) (M : z_M) (H : Heap) (locs : List Loc) (ls : Array Slot) (h : F_X7_felt_b142 K37 v1 v2 v3 v4 v5 M = some out) (hI : z_I G s M H locs) (hl : lv_has ls 7 [(0, .ref (z_ad G 21 0)), (1, .int v1), (2, .int v2), (3, .int v3), (4, .int v4), (5, .int v5)]) : W p l e (z_rm 5) s m args below meth c H locs 0 0 (MQ below (z_Q G (some (.int out.1)) out.2) args s 0 0 (z_A G)) (F0 m 142 ls []) := by
  obtain ⟨⟨hx, hb, hml, hown, hts⟩, hr, hlk⟩ := id hc
  unfold F_X7_felt_b142 at h
  refine lv_iinc (v := v5 + 1) (lv' := [(5, .int (v5 + 1)), (0, .ref (z_ad G 21 0)), (1, .int v1), (2, .int v2), (3, .int v3), (4, .int v4)]) hx hb dX7_felt_142 hl (k := 5) rfl rfl (by decide) rfl (fun ls hl => ?_)
  refine lv_goto (tgt := 37) hx hb dX7_felt_145 (by decide) ?_
  exact hK37 v1 v2 v3 v4 (v5 + 1) _ _ _ _ h hI (lv_sub hl [1, 2, 3, 4, 5, 0] rfl)
set_option maxRecDepth 100000 in
set_option maxHeartbeats 4000000 in
theorem w_X7_felt_b136 (hc : z_C p s m args meth c RX7 cX7_felt 7 (some .int)) {out : (Int32 × z_M)} {K37 : Int32 → Int32 → Int32 → Int32 → Int32 → z_M → Option (Int32 × z_M)} (hK37 : ∀ (v1 : Int32) (v2 : Int32) (v3 : Int32) (v4 : Int32) (v5 : Int32) (M : z_M) (H : Heap) (locs : List Loc) (ls : Array Slot), K37 v1 v2 v3 v4 v5 M = some out → z_I G s M H locs → lv_has ls 7 [(0, .ref (z_ad G 21 0)), (1, .int v1), (2, .int v2), (3, .int v3), (4, .int v4), (5, .int v5)] → W p l e (z_rm 5) s m args below meth c H locs 0 0 (MQ below (z_Q G (some (.int out.1)) out.2) args s 0 0 (z_A G)) (F0 m 37 ls [])) (v1 : Int32) (v2 : Int32) (v3 : Int32) (v5 : Int32) (s0 : Int32) (M : z_M) (H : Heap) (locs : List Loc) (ls : Array Slot) (h : F_X7_felt_b136 K37 v1 v2 v3 v5 s0 M = some out) (hI : z_I G s M H locs) (hl : lv_has ls 7 [(0, .ref (z_ad G 21 0)), (1, .int v1), (2, .int v2), (3, .int v3), (5, .int v5)]) : W p l e (z_rm 5) s m args below meth c H locs 0 0 (MQ below (z_Q G (some (.int out.1)) out.2) args s 0 0 (z_A G)) (F0 m 136 ls [.int s0]) := by
  obtain ⟨⟨hx, hb, hml, hown, hts⟩, hr, hlk⟩ := id hc
  unfold F_X7_felt_b136 at h
  refine lv_istore (lv' := [(4, .int s0), (0, .ref (z_ad G 21 0)), (1, .int v1), (2, .int v2), (3, .int v3), (5, .int v5)]) hx hb dX7_felt_136 hl (by decide) rfl (fun ls hl => ?_)
  refine lv_aload_n hx hb dX7_felt_138 rfl (lv_at hl 1 rfl) ?_
  obtain ⟨q24, e25, h⟩ := z_bnd h
  refine iv_X7_222 hc hI (c_X7_takeBack e25) (z_room (by decide) (by decide)) hl.1 (Nat.le_of_ble_eq_true rfl) ⟨Nat.zero_le _, Nat.zero_le _⟩ dX7_felt_139 (fun H locs hI => ?_)
  exact w_X7_felt_b142 hc hK37 v1 v2 v3 s0 v5 _ _ _ _ h hI (lv_sub hl [1, 2, 3, 4, 0, 5] rfl)
set_option maxRecDepth 100000 in
set_option maxHeartbeats 4000000 in
theorem w_X7_felt_b113 (hc : z_C p s m args meth c RX7 cX7_felt 7 (some .int)) {out : (Int32 × z_M)} {K37 : Int32 → Int32 → Int32 → Int32 → Int32 → z_M → Option (Int32 × z_M)} (hK37 : ∀ (v1 : Int32) (v2 : Int32) (v3 : Int32) (v4 : Int32) (v5 : Int32) (M : z_M) (H : Heap) (locs : List Loc) (ls : Array Slot), K37 v1 v2 v3 v4 v5 M = some out → z_I G s M H locs → lv_has ls 7 [(0, .ref (z_ad G 21 0)), (1, .int v1), (2, .int v2), (3, .int v3), (4, .int v4), (5, .int v5)] → W p l e (z_rm 5) s m args below meth c H locs 0 0 (MQ below (z_Q G (some (.int out.1)) out.2) args s 0 0 (z_A G)) (F0 m 37 ls [])) {K71 : Int32 → Int32 → Int32 → Int32 → Int32 → Int32 → z_M → Option (Int32 × z_M)} (hK71 : ∀ (v1 : Int32) (v2 : Int32) (v3 : Int32) (v4 : Int32) (v5 : Int32) (v6 : Int32) (M : z_M) (H : Heap) (locs : List Loc) (ls : Array Slot), K71 v1 v2 v3 v4 v5 v6 M = some out → z_I G s M H locs → lv_has ls 7 [(0, .ref (z_ad G 21 0)), (1, .int v1), (2, .int v2), (3, .int v3), (4, .int v4), (5, .int v5), (6, .int v6)] → W p l e (z_rm 5) s m args below meth c H locs 0 0 (MQ below (z_Q G (some (.int out.1)) out.2) args s 0 0 (z_A G)) (F0 m 71 ls [])) (v1 : Int32) (v2 : Int32) (v3 : Int32) (v4 : Int32) (v5 : Int32) (v6 : Int32) (s0 : Int32) (s1 : Int32) (M : z_M) (H : Heap) (locs : List Loc) (ls : Array Slot) (h : F_X7_felt_b113 K37 K71 v1 v2 v3 v4 v5 v6 s0 s1 M = some out) (hI : z_I G s M H locs) (hl : lv_has ls 7 [(0, .ref (z_ad G 21 0)), (1, .int v1), (2, .int v2), (3, .int v3), (4, .int v4), (5, .int v5), (6, .int v6)]) : W p l e (z_rm 5) s m args below meth c H locs 0 0 (MQ below (z_Q G (some (.int out.1)) out.2) args s 0 0 (z_A G)) (F0 m 113 ls [.int s0, .int s1, .ref (z_ad G 25 0)]) := by
  obtain ⟨⟨hx, hb, hml, hown, hts⟩, hr, hlk⟩ := id hc
  unfold F_X7_felt_b113 at h
  obtain ⟨g30, h⟩ := z_grd_some h
  refine st_k25 hc hI g30 dX7_felt_113 (fun H locs hI => ?_)
  refine lv_iinc (v := v6 + 1) (lv' := [(6, .int (v6 + 1)), (0, .ref (z_ad G 21 0)), (1, .int v1), (2, .int v2), (3, .int v3), (4, .int v4), (5, .int v5)]) hx hb dX7_felt_114 hl (k := 6) rfl rfl (by decide) rfl (fun ls hl => ?_)
  refine lv_goto (tgt := 71) hx hb dX7_felt_117 (by decide) ?_
  exact hK71 v1 v2 v3 v4 v5 (v6 + 1) _ _ _ _ h hI (lv_sub hl [1, 2, 3, 4, 5, 6, 0] rfl)
set_option maxRecDepth 100000 in
set_option maxHeartbeats 4000000 in
theorem w_X7_felt_b71 (hc : z_C p s m args meth c RX7 cX7_felt 7 (some .int)) {out : (Int32 × z_M)} {K37 : Int32 → Int32 → Int32 → Int32 → Int32 → z_M → Option (Int32 × z_M)} (hK37 : ∀ (v1 : Int32) (v2 : Int32) (v3 : Int32) (v4 : Int32) (v5 : Int32) (M : z_M) (H : Heap) (locs : List Loc) (ls : Array Slot), K37 v1 v2 v3 v4 v5 M = some out → z_I G s M H locs → lv_has ls 7 [(0, .ref (z_ad G 21 0)), (1, .int v1), (2, .int v2), (3, .int v3), (4, .int v4), (5, .int v5)] → W p l e (z_rm 5) s m args below meth c H locs 0 0 (MQ below (z_Q G (some (.int out.1)) out.2) args s 0 0 (z_A G)) (F0 m 37 ls [])) : ∀ (n : Nat) (v1 : Int32) (v2 : Int32) (v3 : Int32) (v4 : Int32) (v5 : Int32) (v6 : Int32) (M : z_M) (H : Heap) (locs : List Loc) (ls : Array Slot) (h : F_X7_felt_b71 K37 n v1 v2 v3 v4 v5 v6 M = some out) (hI : z_I G s M H locs) (hl : lv_has ls 7 [(0, .ref (z_ad G 21 0)), (1, .int v1), (2, .int v2), (3, .int v3), (4, .int v4), (5, .int v5), (6, .int v6)]), W p l e (z_rm 5) s m args below meth c H locs 0 0 (MQ below (z_Q G (some (.int out.1)) out.2) args s 0 0 (z_A G)) (F0 m 71 ls []) := by
  obtain ⟨⟨hx, hb, hml, hown, hts⟩, hr, hlk⟩ := id hc
  intro n
  induction n with
  | zero => intro v1 v2 v3 v4 v5 v6 M H locs ls h; cases h
  | succ n ih =>
    intro v1 v2 v3 v4 v5 v6 M H locs ls h hI hl
    rw [F_X7_felt_b71] at h
    refine lv_iload hx hb dX7_felt_71 (lv_at hl 6 rfl) ?_
    refine lv_aload_n hx hb dX7_felt_73 rfl (lv_at hl 0 rfl) ?_
    refine gf_X7_19 hc hI dX7_felt_74 ?_
    refine lv_iconst (v := 0) hx hb dX7_felt_77 (by decide) ?_
    obtain ⟨g19, h⟩ := z_grd_some h
    refine ld_k25 hc hI g19 dX7_felt_78 ?_
    refine lv_icmp_ge (tgt := 120) hx hb dX7_felt_79 (by decide) (fun c20 => ?_) (fun c20 => ?_)
    · replace h := z_ift h c20
      refine lv_aload_n hx hb dX7_felt_120 rfl (lv_at hl 0 rfl) ?_
      refine lv_iload_n hx hb dX7_felt_121 rfl (lv_at hl 1 rfl) ?_
      refine lv_iload_n hx hb dX7_felt_122 rfl (lv_at hl 2 rfl) ?_
      obtain ⟨q21, e22, h⟩ := z_bnd h
      refine iv_X7_240 hc hI (c_X7_isHeard e22) (z_room (by decide) (by decide)) hl.1 (Nat.le_of_ble_eq_true rfl) ⟨Nat.zero_le _, Nat.zero_le _⟩ dX7_felt_123 (fun H locs hI => ?_)
      refine lv_if_eq (tgt := 134) hx hb dX7_felt_126 (by decide) (fun c23 => ?_) (fun c23 => ?_)
      · replace h := z_ift h c23
        refine lv_iload hx hb dX7_felt_134 (lv_at hl 5 rfl) ?_
        exact w_X7_felt_b136 hc hK37 v1 v2 v3 v5 v5 _ _ _ _ h hI (lv_sub hl [0, 1, 2, 3, 5] rfl)
      · replace h := z_iff h c23
        refine lv_iload hx hb dX7_felt_129 (lv_at hl 4 rfl) ?_
        refine lv_goto (tgt := 136) hx hb dX7_felt_131 (by decide) ?_
        exact w_X7_felt_b136 hc hK37 v1 v2 v3 v5 v4 _ _ _ _ h hI (lv_sub hl [0, 1, 2, 3, 5] rfl)
    · replace h := z_iff h c20
      refine lv_aload_n hx hb dX7_felt_82 rfl (lv_at hl 0 rfl) ?_
      refine gf_X7_19 hc hI dX7_felt_83 ?_
      refine lv_iconst (v := 5) hx hb dX7_felt_86 (by decide) ?_
      refine lv_iload hx hb dX7_felt_87 (lv_at hl 6 rfl) ?_
      refine lv_iadd hx hb dX7_felt_89 ?_
      refine lv_iload hx hb dX7_felt_90 (lv_at hl 5 rfl) ?_
      refine lv_iload hx hb dX7_felt_92 (lv_at hl 6 rfl) ?_
      obtain ⟨q26, e27, h⟩ := z_bnd h
      refine iv_X7_156 hc hI (c_X7_has e27) (z_room (by decide) (by decide)) hl.1 (Nat.le_of_ble_eq_true rfl) ⟨Nat.zero_le _, Nat.zero_le _⟩ dX7_felt_94 (fun H locs hI => ?_)
      refine lv_if_eq (tgt := 104) hx hb dX7_felt_97 (by decide) (fun c28 => ?_) (fun c28 => ?_)
      · replace h := z_ift h c28
        refine lv_aload_n hx hb dX7_felt_104 rfl (lv_at hl 0 rfl) ?_
        refine gf_X7_19 hc hI dX7_felt_105 ?_
        refine lv_iconst (v := 5) hx hb dX7_felt_108 (by decide) ?_
        refine lv_iload hx hb dX7_felt_109 (lv_at hl 6 rfl) ?_
        refine lv_iadd hx hb dX7_felt_111 ?_
        obtain ⟨g29, h⟩ := z_grd_some h
        refine ld_k25 hc hI g29 dX7_felt_112 ?_
        exact w_X7_felt_b113 hc hK37 ih v1 v2 v3 v4 v5 v6 (z_gi M 25 0 ((5 : Int32) + v6).toNatClampNeg) ((5 : Int32) + v6) _ _ _ _ h hI hl
      · replace h := z_iff h c28
        refine lv_iconst (v := 5) hx hb dX7_felt_100 (by decide) ?_
        refine lv_goto (tgt := 113) hx hb dX7_felt_101 (by decide) ?_
        exact w_X7_felt_b113 hc hK37 ih v1 v2 v3 v4 v5 v6 5 ((5 : Int32) + v6) _ _ _ _ h hI hl
set_option maxRecDepth 100000 in
set_option maxHeartbeats 4000000 in
theorem w_X7_felt_b68 (hc : z_C p s m args meth c RX7 cX7_felt 7 (some .int)) {out : (Int32 × z_M)} {K37 : Int32 → Int32 → Int32 → Int32 → Int32 → z_M → Option (Int32 × z_M)} (hK37 : ∀ (v1 : Int32) (v2 : Int32) (v3 : Int32) (v4 : Int32) (v5 : Int32) (M : z_M) (H : Heap) (locs : List Loc) (ls : Array Slot), K37 v1 v2 v3 v4 v5 M = some out → z_I G s M H locs → lv_has ls 7 [(0, .ref (z_ad G 21 0)), (1, .int v1), (2, .int v2), (3, .int v3), (4, .int v4), (5, .int v5)] → W p l e (z_rm 5) s m args below meth c H locs 0 0 (MQ below (z_Q G (some (.int out.1)) out.2) args s 0 0 (z_A G)) (F0 m 37 ls [])) (v1 : Int32) (v2 : Int32) (v3 : Int32) (v4 : Int32) (v5 : Int32) (M : z_M) (H : Heap) (locs : List Loc) (ls : Array Slot) (h : F_X7_felt_b68 K37 v1 v2 v3 v4 v5 M = some out) (hI : z_I G s M H locs) (hl : lv_has ls 7 [(0, .ref (z_ad G 21 0)), (1, .int v1), (2, .int v2), (3, .int v3), (4, .int v4), (5, .int v5)]) : W p l e (z_rm 5) s m args below meth c H locs 0 0 (MQ below (z_Q G (some (.int out.1)) out.2) args s 0 0 (z_A G)) (F0 m 68 ls []) := by
  obtain ⟨⟨hx, hb, hml, hown, hts⟩, hr, hlk⟩ := id hc
  unfold F_X7_felt_b68 at h
  refine lv_iconst (v := 0) hx hb dX7_felt_68 (by decide) ?_
  refine lv_istore (lv' := [(6, .int 0), (0, .ref (z_ad G 21 0)), (1, .int v1), (2, .int v2), (3, .int v3), (4, .int v4), (5, .int v5)]) hx hb dX7_felt_69 hl (by decide) rfl (fun ls hl => ?_)
  exact w_X7_felt_b71 hc hK37 _ v1 v2 v3 v4 v5 0 _ _ _ _ h hI (lv_sub hl [1, 2, 3, 4, 5, 6, 0] rfl)
set_option maxRecDepth 100000 in
set_option maxHeartbeats 4000000 in
theorem w_X7_felt_b37 (hc : z_C p s m args meth c RX7 cX7_felt 7 (some .int)) {out : (Int32 × z_M)} : ∀ (n : Nat) (v1 : Int32) (v2 : Int32) (v3 : Int32) (v4 : Int32) (v5 : Int32) (M : z_M) (H : Heap) (locs : List Loc) (ls : Array Slot) (h : F_X7_felt_b37 n v1 v2 v3 v4 v5 M = some out) (hI : z_I G s M H locs) (hl : lv_has ls 7 [(0, .ref (z_ad G 21 0)), (1, .int v1), (2, .int v2), (3, .int v3), (4, .int v4), (5, .int v5)]), W p l e (z_rm 5) s m args below meth c H locs 0 0 (MQ below (z_Q G (some (.int out.1)) out.2) args s 0 0 (z_A G)) (F0 m 37 ls []) := by
  obtain ⟨⟨hx, hb, hml, hown, hts⟩, hr, hlk⟩ := id hc
  intro n
  induction n with
  | zero => intro v1 v2 v3 v4 v5 M H locs ls h; cases h
  | succ n ih =>
    intro v1 v2 v3 v4 v5 M H locs ls h hI hl
    rw [F_X7_felt_b37] at h
    refine lv_iload hx hb dX7_felt_37 (lv_at hl 5 rfl) ?_
    refine lv_iconst (v := 1) hx hb dX7_felt_39 (by decide) ?_
    refine lv_aload_n hx hb dX7_felt_40 rfl (lv_at hl 0 rfl) ?_
    refine gf_X7_19 hc hI dX7_felt_41 ?_
    refine lv_iconst (v := 0) hx hb dX7_felt_44 (by decide) ?_
    obtain ⟨g12, h⟩ := z_grd_some h
    refine ld_k25 hc hI g12 dX7_felt_45 ?_
    refine lv_ishl hx hb dX7_felt_46 ?_
    refine lv_icmp_ge (tgt := 148) hx hb dX7_felt_47 (by decide) (fun c13 => ?_) (fun c13 => ?_)
    · replace h := z_ift h c13
      refine lv_iload hx hb dX7_felt_148 (lv_at hl 4 rfl) ?_
      refine lv_if_lt (tgt := 158) hx hb dX7_felt_150 (by decide) (fun c14 => ?_) (fun c14 => ?_)
      · replace h := z_ift h c14
        exact w_X7_felt_b158 hc v4 _ _ _ _ h hI (lv_sub hl [4] rfl)
      · replace h := z_iff h c14
        refine lv_iload_n hx hb dX7_felt_153 rfl (lv_at hl 3 rfl) ?_
        refine lv_iconst (v := 1) hx hb dX7_felt_154 (by decide) ?_
        refine lv_icmp_ne (tgt := 163) hx hb dX7_felt_155 (by decide) (fun c15 => ?_) (fun c15 => ?_)
        · replace h := z_iff h c15
          refine lv_iload hx hb dX7_felt_163 (lv_at hl 4 rfl) ?_
          obtain ⟨q16, e17, h⟩ := z_bnd h
          refine iv_X7_228 hc hI (c_X7_ones e17) (z_room (by decide) (by decide)) hl.1 (Nat.le_of_ble_eq_true rfl) ⟨Nat.zero_le _, Nat.zero_le _⟩ dX7_felt_165 (fun H locs hI => ?_)
          obtain rfl := Option.some.inj h
          exact z_ri hc hI dX7_felt_168
        · replace h := z_ift h c15
          exact w_X7_felt_b158 hc v4 _ _ _ _ h hI (lv_sub hl [4] rfl)
    · replace h := z_iff h c13
      refine lv_iload hx hb dX7_felt_50 (lv_at hl 4 rfl) ?_
      refine lv_if_lt (tgt := 68) hx hb dX7_felt_52 (by decide) (fun c18 => ?_) (fun c18 => ?_)
      · replace h := z_ift h c18
        exact w_X7_felt_b68 hc ih v1 v2 v3 v4 v5 _ _ _ _ h hI hl
      · replace h := z_iff h c18
        refine lv_iload hx hb dX7_felt_55 (lv_at hl 5 rfl) ?_
        obtain ⟨q31, e32, h⟩ := z_bnd h
        refine iv_X7_228 hc hI (c_X7_ones e32) (z_room (by decide) (by decide)) hl.1 (Nat.le_of_ble_eq_true rfl) ⟨Nat.zero_le _, Nat.zero_le _⟩ dX7_felt_57 (fun H locs hI => ?_)
        refine lv_iload hx hb dX7_felt_60 (lv_at hl 4 rfl) ?_
        obtain ⟨q33, e34, h⟩ := z_bnd h
        refine iv_X7_228 hc hI (c_X7_ones e34) (z_room (by decide) (by decide)) hl.1 (Nat.le_of_ble_eq_true rfl) ⟨Nat.zero_le _, Nat.zero_le _⟩ dX7_felt_62 (fun H locs hI => ?_)
        refine lv_icmp_ge (tgt := 142) hx hb dX7_felt_65 (by decide) (fun c35 => ?_) (fun c35 => ?_)
        · replace h := z_ift h c35
          exact w_X7_felt_b142 hc ih v1 v2 v3 v4 v5 _ _ _ _ h hI hl
        · replace h := z_iff h c35
          exact w_X7_felt_b68 hc ih v1 v2 v3 v4 v5 _ _ _ _ h hI hl
set_option maxRecDepth 100000 in
set_option maxHeartbeats 4000000 in
theorem c_X7_felt {G : z_G} {l : Launch} {a1 : Int32} {a2 : Int32} {a3 : Int32} {M : z_M} {out : (Int32 × z_M)} (h : F_X7_felt a1 a2 a3 M = some out) : z_Met G l yX7_felt cX7_felt 7 (some .int) 5 [.ref (z_ad G 21 0), .int a1, .int a2, .int a3] M (some (.int out.1)) out.2 := by
  unfold F_X7_felt at h
  refine z_met_of (by decide) rfl (Nat.le_of_ble_eq_true rfl) (fun p e s m below meth c ls hc hI hl => ?_)
  obtain ⟨⟨hx, hb, hml, hown, hts⟩, hr, hlk⟩ := id hc
  have hl : lv_has ls 7 [(0, .ref (z_ad G 21 0)), (1, .int a1), (2, .int a2), (3, .int a3)] := hl
  refine lv_aload_n hx hb dX7_felt_0 rfl (lv_at hl 0 rfl) ?_
  refine lv_iload_n hx hb dX7_felt_1 rfl (lv_at hl 1 rfl) ?_
  obtain ⟨q1, e2, h⟩ := z_bnd h
  refine iv_X7_194 hc hI (c_X7_isWalker e2) (z_room (by decide) (by decide)) hl.1 (Nat.le_of_ble_eq_true rfl) ⟨Nat.zero_le _, Nat.zero_le _⟩ dX7_felt_2 (fun H locs hI => ?_)
  refine lv_if_eq (tgt := 23) hx hb dX7_felt_5 (by decide) (fun c3 => ?_) (fun c3 => ?_)
  · replace h := z_ift h c3
    refine lv_ldc (v := (-1000001)) hx hb hown (hts _ wd_5_5) dX7_felt_23 ?_
    obtain rfl := Option.some.inj h
    exact z_ri hc hI dX7_felt_25
  · replace h := z_iff h c3
    refine lv_aload_n hx hb dX7_felt_8 rfl (lv_at hl 0 rfl) ?_
    refine lv_iload_n hx hb dX7_felt_9 rfl (lv_at hl 2 rfl) ?_
    obtain ⟨q4, e5, h⟩ := z_bnd h
    refine iv_X7_185 hc hI (c_X7_isTread e5) (z_room (by decide) (by decide)) hl.1 (Nat.le_of_ble_eq_true rfl) ⟨Nat.zero_le _, Nat.zero_le _⟩ dX7_felt_10 (fun H locs hI => ?_)
    refine lv_if_eq (tgt := 23) hx hb dX7_felt_13 (by decide) (fun c6 => ?_) (fun c6 => ?_)
    · replace h := z_ift h c6
      refine lv_ldc (v := (-1000001)) hx hb hown (hts _ wd_5_5) dX7_felt_23 ?_
      obtain rfl := Option.some.inj h
      exact z_ri hc hI dX7_felt_25
    · replace h := z_iff h c6
      refine lv_iload_n hx hb dX7_felt_16 rfl (lv_at hl 3 rfl) ?_
      obtain ⟨q7, e8, h⟩ := z_bnd h
      refine iv_X7_216 hc hI (c_X7_isWhat e8) (z_room (by decide) (by decide)) hl.1 (Nat.le_of_ble_eq_true rfl) ⟨Nat.zero_le _, Nat.zero_le _⟩ dX7_felt_17 (fun H locs hI => ?_)
      refine lv_if_ne (tgt := 26) hx hb dX7_felt_20 (by decide) (fun c9 => ?_) (fun c9 => ?_)
      · replace h := z_iff h c9
        refine lv_aload_n hx hb dX7_felt_26 rfl (lv_at hl 0 rfl) ?_
        obtain ⟨q10, e11, h⟩ := z_bnd h
        refine iv_X7_219 hc hI (c_X7_putAside e11) (z_room (by decide) (by decide)) hl.1 (Nat.le_of_ble_eq_true rfl) ⟨Nat.zero_le _, Nat.zero_le _⟩ dX7_felt_27 (fun H locs hI => ?_)
        refine lv_ldc (v := (-1000000)) hx hb hown (hts _ wd_5_183) dX7_felt_30 ?_
        refine lv_istore (lv' := [(4, .int (-1000000)), (0, .ref (z_ad G 21 0)), (1, .int a1), (2, .int a2), (3, .int a3)]) hx hb dX7_felt_32 hl (by decide) rfl (fun ls hl => ?_)
        refine lv_iconst (v := 0) hx hb dX7_felt_34 (by decide) ?_
        refine lv_istore (lv' := [(5, .int 0), (4, .int (-1000000)), (0, .ref (z_ad G 21 0)), (1, .int a1), (2, .int a2), (3, .int a3)]) hx hb dX7_felt_35 hl (by decide) rfl (fun ls hl => ?_)
        exact w_X7_felt_b37 hc _ a1 a2 a3 (-1000000) 0 _ _ _ _ h hI (lv_sub hl [2, 3, 4, 5, 1, 0] rfl)
      · replace h := z_ift h c9
        refine lv_ldc (v := (-1000001)) hx hb hown (hts _ wd_5_5) dX7_felt_23 ?_
        obtain rfl := Option.some.inj h
        exact z_ri hc hI dX7_felt_25
set_option maxRecDepth 100000 in
set_option maxHeartbeats 4000000 in
theorem w_X7_areHeard_b82 {M : z_M} (hc : z_C p s m args meth c RX7 cX7_areHeard 6 (some .boolean)) {out : Int32} {K4 : Int32 → Int32 → Int32 → Option Int32} (hK4 : ∀ (v1 : Int32) (v2 : Int32) (v3 : Int32) (H : Heap) (locs : List Loc) (ls : Array Slot), K4 v1 v2 v3 = some out → z_I G s M H locs → lv_has ls 6 [(0, .ref (z_ad G 21 0)), (1, .int v1), (2, .int v2), (3, .int v3)] → W p l e (z_rm 5) s m args below meth c H locs 0 0 (MQ below (z_Q G (some (.int out)) M) args s 0 0 (z_A G)) (F0 m 4 ls [])) (v1 : Int32) (v3 : Int32) (s0 : Int32) (H : Heap) (locs : List Loc) (ls : Array Slot) (h : F_X7_areHeard_b82 M K4 v1 v3 s0 = some out) (hI : z_I G s M H locs) (hl : lv_has ls 6 [(0, .ref (z_ad G 21 0)), (1, .int v1), (3, .int v3)]) : W p l e (z_rm 5) s m args below meth c H locs 0 0 (MQ below (z_Q G (some (.int out)) M) args s 0 0 (z_A G)) (F0 m 82 ls [.int s0]) := by
  obtain ⟨⟨hx, hb, hml, hown, hts⟩, hr, hlk⟩ := id hc
  unfold F_X7_areHeard_b82 at h
  refine lv_istore_n (lv' := [(2, .int s0), (0, .ref (z_ad G 21 0)), (1, .int v1), (3, .int v3)]) hx hb dX7_areHeard_82 rfl hl (by decide) rfl (fun ls hl => ?_)
  refine lv_iinc (v := v3 + 1) (lv' := [(3, .int (v3 + 1)), (2, .int s0), (0, .ref (z_ad G 21 0)), (1, .int v1)]) hx hb dX7_areHeard_83 hl (k := 3) rfl rfl (by decide) rfl (fun ls hl => ?_)
  refine lv_goto (tgt := 4) hx hb dX7_areHeard_86 (by decide) ?_
  exact hK4 v1 s0 (v3 + 1) _ _ _ h hI (lv_sub hl [2, 3, 1, 0] rfl)
set_option maxRecDepth 100000 in
set_option maxHeartbeats 4000000 in
theorem w_X7_areHeard_b81 {M : z_M} (hc : z_C p s m args meth c RX7 cX7_areHeard 6 (some .boolean)) {out : Int32} {K4 : Int32 → Int32 → Int32 → Option Int32} (hK4 : ∀ (v1 : Int32) (v2 : Int32) (v3 : Int32) (H : Heap) (locs : List Loc) (ls : Array Slot), K4 v1 v2 v3 = some out → z_I G s M H locs → lv_has ls 6 [(0, .ref (z_ad G 21 0)), (1, .int v1), (2, .int v2), (3, .int v3)] → W p l e (z_rm 5) s m args below meth c H locs 0 0 (MQ below (z_Q G (some (.int out)) M) args s 0 0 (z_A G)) (F0 m 4 ls [])) (v1 : Int32) (v3 : Int32) (H : Heap) (locs : List Loc) (ls : Array Slot) (h : F_X7_areHeard_b81 M K4 v1 v3 = some out) (hI : z_I G s M H locs) (hl : lv_has ls 6 [(0, .ref (z_ad G 21 0)), (1, .int v1), (3, .int v3)]) : W p l e (z_rm 5) s m args below meth c H locs 0 0 (MQ below (z_Q G (some (.int out)) M) args s 0 0 (z_A G)) (F0 m 81 ls []) := by
  obtain ⟨⟨hx, hb, hml, hown, hts⟩, hr, hlk⟩ := id hc
  unfold F_X7_areHeard_b81 at h
  refine lv_iconst (v := 0) hx hb dX7_areHeard_81 (by decide) ?_
  exact w_X7_areHeard_b82 hc hK4 v1 v3 0 _ _ _ h hI hl
set_option maxRecDepth 100000 in
set_option maxHeartbeats 4000000 in
theorem w_X7_areHeard_b60 {M : z_M} (hc : z_C p s m args meth c RX7 cX7_areHeard 6 (some .boolean)) {out : Int32} {K4 : Int32 → Int32 → Int32 → Option Int32} (hK4 : ∀ (v1 : Int32) (v2 : Int32) (v3 : Int32) (H : Heap) (locs : List Loc) (ls : Array Slot), K4 v1 v2 v3 = some out → z_I G s M H locs → lv_has ls 6 [(0, .ref (z_ad G 21 0)), (1, .int v1), (2, .int v2), (3, .int v3)] → W p l e (z_rm 5) s m args below meth c H locs 0 0 (MQ below (z_Q G (some (.int out)) M) args s 0 0 (z_A G)) (F0 m 4 ls [])) {K20 : Int32 → Int32 → Int32 → Int32 → Int32 → Option Int32} (hK20 : ∀ (v1 : Int32) (v2 : Int32) (v3 : Int32) (v4 : Int32) (v5 : Int32) (H : Heap) (locs : List Loc) (ls : Array Slot), K20 v1 v2 v3 v4 v5 = some out → z_I G s M H locs → lv_has ls 6 [(0, .ref (z_ad G 21 0)), (1, .int v1), (2, .int v2), (3, .int v3), (4, .int v4), (5, .int v5)] → W p l e (z_rm 5) s m args below meth c H locs 0 0 (MQ below (z_Q G (some (.int out)) M) args s 0 0 (z_A G)) (F0 m 20 ls [])) (v1 : Int32) (v2 : Int32) (v3 : Int32) (v5 : Int32) (s0 : Int32) (H : Heap) (locs : List Loc) (ls : Array Slot) (h : F_X7_areHeard_b60 M K4 K20 v1 v2 v3 v5 s0 = some out) (hI : z_I G s M H locs) (hl : lv_has ls 6 [(0, .ref (z_ad G 21 0)), (1, .int v1), (2, .int v2), (3, .int v3), (5, .int v5)]) : W p l e (z_rm 5) s m args below meth c H locs 0 0 (MQ below (z_Q G (some (.int out)) M) args s 0 0 (z_A G)) (F0 m 60 ls [.int s0]) := by
  obtain ⟨⟨hx, hb, hml, hown, hts⟩, hr, hlk⟩ := id hc
  unfold F_X7_areHeard_b60 at h
  refine lv_istore (lv' := [(4, .int s0), (0, .ref (z_ad G 21 0)), (1, .int v1), (2, .int v2), (3, .int v3), (5, .int v5)]) hx hb dX7_areHeard_60 hl (by decide) rfl (fun ls hl => ?_)
  refine lv_iinc (v := v5 + 1) (lv' := [(5, .int (v5 + 1)), (4, .int s0), (0, .ref (z_ad G 21 0)), (1, .int v1), (2, .int v2), (3, .int v3)]) hx hb dX7_areHeard_62 hl (k := 5) rfl rfl (by decide) rfl (fun ls hl => ?_)
  refine lv_goto (tgt := 20) hx hb dX7_areHeard_65 (by decide) ?_
  exact hK20 v1 v2 v3 s0 (v5 + 1) _ _ _ h hI (lv_sub hl [2, 3, 4, 5, 1, 0] rfl)
set_option maxRecDepth 100000 in
set_option maxHeartbeats 4000000 in
theorem w_X7_areHeard_b55 {M : z_M} (hc : z_C p s m args meth c RX7 cX7_areHeard 6 (some .boolean)) {out : Int32} {K4 : Int32 → Int32 → Int32 → Option Int32} (hK4 : ∀ (v1 : Int32) (v2 : Int32) (v3 : Int32) (H : Heap) (locs : List Loc) (ls : Array Slot), K4 v1 v2 v3 = some out → z_I G s M H locs → lv_has ls 6 [(0, .ref (z_ad G 21 0)), (1, .int v1), (2, .int v2), (3, .int v3)] → W p l e (z_rm 5) s m args below meth c H locs 0 0 (MQ below (z_Q G (some (.int out)) M) args s 0 0 (z_A G)) (F0 m 4 ls [])) {K20 : Int32 → Int32 → Int32 → Int32 → Int32 → Option Int32} (hK20 : ∀ (v1 : Int32) (v2 : Int32) (v3 : Int32) (v4 : Int32) (v5 : Int32) (H : Heap) (locs : List Loc) (ls : Array Slot), K20 v1 v2 v3 v4 v5 = some out → z_I G s M H locs → lv_has ls 6 [(0, .ref (z_ad G 21 0)), (1, .int v1), (2, .int v2), (3, .int v3), (4, .int v4), (5, .int v5)] → W p l e (z_rm 5) s m args below meth c H locs 0 0 (MQ below (z_Q G (some (.int out)) M) args s 0 0 (z_A G)) (F0 m 20 ls [])) (v1 : Int32) (v2 : Int32) (v3 : Int32) (v5 : Int32) (H : Heap) (locs : List Loc) (ls : Array Slot) (h : F_X7_areHeard_b55 M K4 K20 v1 v2 v3 v5 = some out) (hI : z_I G s M H locs) (hl : lv_has ls 6 [(0, .ref (z_ad G 21 0)), (1, .int v1), (2, .int v2), (3, .int v3), (5, .int v5)]) : W p l e (z_rm 5) s m args below meth c H locs 0 0 (MQ below (z_Q G (some (.int out)) M) args s 0 0 (z_A G)) (F0 m 55 ls []) := by
  obtain ⟨⟨hx, hb, hml, hown, hts⟩, hr, hlk⟩ := id hc
  unfold F_X7_areHeard_b55 at h
  refine lv_iconst (v := 1) hx hb dX7_areHeard_55 (by decide) ?_
  refine lv_goto (tgt := 60) hx hb dX7_areHeard_56 (by decide) ?_
  exact w_X7_areHeard_b60 hc hK4 hK20 v1 v2 v3 v5 1 _ _ _ h hI hl
set_option maxRecDepth 100000 in
set_option maxHeartbeats 4000000 in
theorem w_X7_areHeard_b59 {M : z_M} (hc : z_C p s m args meth c RX7 cX7_areHeard 6 (some .boolean)) {out : Int32} {K4 : Int32 → Int32 → Int32 → Option Int32} (hK4 : ∀ (v1 : Int32) (v2 : Int32) (v3 : Int32) (H : Heap) (locs : List Loc) (ls : Array Slot), K4 v1 v2 v3 = some out → z_I G s M H locs → lv_has ls 6 [(0, .ref (z_ad G 21 0)), (1, .int v1), (2, .int v2), (3, .int v3)] → W p l e (z_rm 5) s m args below meth c H locs 0 0 (MQ below (z_Q G (some (.int out)) M) args s 0 0 (z_A G)) (F0 m 4 ls [])) {K20 : Int32 → Int32 → Int32 → Int32 → Int32 → Option Int32} (hK20 : ∀ (v1 : Int32) (v2 : Int32) (v3 : Int32) (v4 : Int32) (v5 : Int32) (H : Heap) (locs : List Loc) (ls : Array Slot), K20 v1 v2 v3 v4 v5 = some out → z_I G s M H locs → lv_has ls 6 [(0, .ref (z_ad G 21 0)), (1, .int v1), (2, .int v2), (3, .int v3), (4, .int v4), (5, .int v5)] → W p l e (z_rm 5) s m args below meth c H locs 0 0 (MQ below (z_Q G (some (.int out)) M) args s 0 0 (z_A G)) (F0 m 20 ls [])) (v1 : Int32) (v2 : Int32) (v3 : Int32) (v5 : Int32) (H : Heap) (locs : List Loc) (ls : Array Slot) (h : F_X7_areHeard_b59 M K4 K20 v1 v2 v3 v5 = some out) (hI : z_I G s M H locs) (hl : lv_has ls 6 [(0, .ref (z_ad G 21 0)), (1, .int v1), (2, .int v2), (3, .int v3), (5, .int v5)]) : W p l e (z_rm 5) s m args below meth c H locs 0 0 (MQ below (z_Q G (some (.int out)) M) args s 0 0 (z_A G)) (F0 m 59 ls []) := by
  obtain ⟨⟨hx, hb, hml, hown, hts⟩, hr, hlk⟩ := id hc
  unfold F_X7_areHeard_b59 at h
  refine lv_iconst (v := 0) hx hb dX7_areHeard_59 (by decide) ?_
  exact w_X7_areHeard_b60 hc hK4 hK20 v1 v2 v3 v5 0 _ _ _ h hI hl
set_option maxRecDepth 100000 in
set_option maxHeartbeats 4000000 in
theorem w_X7_areHeard_b20 {M : z_M} (hc : z_C p s m args meth c RX7 cX7_areHeard 6 (some .boolean)) {out : Int32} {K4 : Int32 → Int32 → Int32 → Option Int32} (hK4 : ∀ (v1 : Int32) (v2 : Int32) (v3 : Int32) (H : Heap) (locs : List Loc) (ls : Array Slot), K4 v1 v2 v3 = some out → z_I G s M H locs → lv_has ls 6 [(0, .ref (z_ad G 21 0)), (1, .int v1), (2, .int v2), (3, .int v3)] → W p l e (z_rm 5) s m args below meth c H locs 0 0 (MQ below (z_Q G (some (.int out)) M) args s 0 0 (z_A G)) (F0 m 4 ls [])) : ∀ (n : Nat) (v1 : Int32) (v2 : Int32) (v3 : Int32) (v4 : Int32) (v5 : Int32) (H : Heap) (locs : List Loc) (ls : Array Slot) (h : F_X7_areHeard_b20 M K4 n v1 v2 v3 v4 v5 = some out) (hI : z_I G s M H locs) (hl : lv_has ls 6 [(0, .ref (z_ad G 21 0)), (1, .int v1), (2, .int v2), (3, .int v3), (4, .int v4), (5, .int v5)]), W p l e (z_rm 5) s m args below meth c H locs 0 0 (MQ below (z_Q G (some (.int out)) M) args s 0 0 (z_A G)) (F0 m 20 ls []) := by
  obtain ⟨⟨hx, hb, hml, hown, hts⟩, hr, hlk⟩ := id hc
  intro n
  induction n with
  | zero => intro v1 v2 v3 v4 v5 H locs ls h; cases h
  | succ n ih =>
    intro v1 v2 v3 v4 v5 H locs ls h hI hl
    rw [F_X7_areHeard_b20] at h
    refine lv_iload hx hb dX7_areHeard_20 (lv_at hl 5 rfl) ?_
    refine lv_aload_n hx hb dX7_areHeard_22 rfl (lv_at hl 0 rfl) ?_
    refine gf_X7_19 hc hI dX7_areHeard_23 ?_
    refine lv_iconst (v := 0) hx hb dX7_areHeard_26 (by decide) ?_
    obtain ⟨g4, h⟩ := z_grd_some h
    refine ld_k25 hc hI g4 dX7_areHeard_27 ?_
    refine lv_icmp_ge (tgt := 68) hx hb dX7_areHeard_28 (by decide) (fun c5 => ?_) (fun c5 => ?_)
    · replace h := z_ift h c5
      refine lv_iload_n hx hb dX7_areHeard_68 rfl (lv_at hl 2 rfl) ?_
      refine lv_if_eq (tgt := 81) hx hb dX7_areHeard_69 (by decide) (fun c6 => ?_) (fun c6 => ?_)
      · replace h := z_ift h c6
        exact w_X7_areHeard_b81 hc hK4 v1 v3 _ _ _ h hI (lv_sub hl [0, 1, 3] rfl)
      · replace h := z_iff h c6
        refine lv_iload hx hb dX7_areHeard_72 (lv_at hl 4 rfl) ?_
        refine lv_if_eq (tgt := 81) hx hb dX7_areHeard_74 (by decide) (fun c7 => ?_) (fun c7 => ?_)
        · replace h := z_ift h c7
          exact w_X7_areHeard_b81 hc hK4 v1 v3 _ _ _ h hI (lv_sub hl [0, 1, 3] rfl)
        · replace h := z_iff h c7
          refine lv_iconst (v := 1) hx hb dX7_areHeard_77 (by decide) ?_
          refine lv_goto (tgt := 82) hx hb dX7_areHeard_78 (by decide) ?_
          exact w_X7_areHeard_b82 hc hK4 v1 v3 1 _ _ _ h hI (lv_sub hl [0, 1, 3] rfl)
    · replace h := z_iff h c5
      refine lv_iload hx hb dX7_areHeard_31 (lv_at hl 4 rfl) ?_
      refine lv_if_ne (tgt := 55) hx hb dX7_areHeard_33 (by decide) (fun c8 => ?_) (fun c8 => ?_)
      · replace h := z_iff h c8
        exact w_X7_areHeard_b55 hc hK4 ih v1 v2 v3 v5 _ _ _ h hI (lv_sub hl [0, 1, 2, 3, 5] rfl)
      · replace h := z_ift h c8
        refine lv_iload_n hx hb dX7_areHeard_36 rfl (lv_at hl 1 rfl) ?_
        refine lv_iload hx hb dX7_areHeard_37 (lv_at hl 5 rfl) ?_
        obtain ⟨q9, e10, h⟩ := z_bnd h
        refine iv_X7_156 hc hI (c_X7_has e10) (z_room (by decide) (by decide)) hl.1 (Nat.le_of_ble_eq_true rfl) ⟨Nat.zero_le _, Nat.zero_le _⟩ dX7_areHeard_39 (fun H locs hI => ?_)
        refine lv_if_eq (tgt := 59) hx hb dX7_areHeard_42 (by decide) (fun c11 => ?_) (fun c11 => ?_)
        · replace h := z_ift h c11
          exact w_X7_areHeard_b59 hc hK4 ih v1 v2 v3 v5 _ _ _ h hI (lv_sub hl [0, 1, 2, 3, 5] rfl)
        · replace h := z_iff h c11
          refine lv_aload_n hx hb dX7_areHeard_45 rfl (lv_at hl 0 rfl) ?_
          refine lv_iload_n hx hb dX7_areHeard_46 rfl (lv_at hl 3 rfl) ?_
          refine lv_iload hx hb dX7_areHeard_47 (lv_at hl 5 rfl) ?_
          obtain ⟨q12, e13, h⟩ := z_bnd h
          refine iv_X7_240 hc hI (c_X7_isHeard e13) (z_room (by decide) (by decide)) hl.1 (Nat.le_of_ble_eq_true rfl) ⟨Nat.zero_le _, Nat.zero_le _⟩ dX7_areHeard_49 (fun H locs hI => ?_)
          refine lv_if_eq (tgt := 59) hx hb dX7_areHeard_52 (by decide) (fun c14 => ?_) (fun c14 => ?_)
          · replace h := z_ift h c14
            exact w_X7_areHeard_b59 hc hK4 ih v1 v2 v3 v5 _ _ _ h hI (lv_sub hl [0, 1, 2, 3, 5] rfl)
          · replace h := z_iff h c14
            exact w_X7_areHeard_b55 hc hK4 ih v1 v2 v3 v5 _ _ _ h hI (lv_sub hl [0, 1, 2, 3, 5] rfl)
set_option maxRecDepth 100000 in
set_option maxHeartbeats 4000000 in
theorem w_X7_areHeard_b4 {M : z_M} (hc : z_C p s m args meth c RX7 cX7_areHeard 6 (some .boolean)) {out : Int32} : ∀ (n : Nat) (v1 : Int32) (v2 : Int32) (v3 : Int32) (H : Heap) (locs : List Loc) (ls : Array Slot) (h : F_X7_areHeard_b4 M n v1 v2 v3 = some out) (hI : z_I G s M H locs) (hl : lv_has ls 6 [(0, .ref (z_ad G 21 0)), (1, .int v1), (2, .int v2), (3, .int v3)]), W p l e (z_rm 5) s m args below meth c H locs 0 0 (MQ below (z_Q G (some (.int out)) M) args s 0 0 (z_A G)) (F0 m 4 ls []) := by
  obtain ⟨⟨hx, hb, hml, hown, hts⟩, hr, hlk⟩ := id hc
  intro n
  induction n with
  | zero => intro v1 v2 v3 H locs ls h; cases h
  | succ n ih =>
    intro v1 v2 v3 H locs ls h hI hl
    rw [F_X7_areHeard_b4] at h
    refine lv_iload_n hx hb dX7_areHeard_4 rfl (lv_at hl 3 rfl) ?_
    refine lv_aload_n hx hb dX7_areHeard_5 rfl (lv_at hl 0 rfl) ?_
    refine gf_X7_19 hc hI dX7_areHeard_6 ?_
    refine lv_iconst (v := 1) hx hb dX7_areHeard_9 (by decide) ?_
    obtain ⟨g1, h⟩ := z_grd_some h
    refine ld_k25 hc hI g1 dX7_areHeard_10 ?_
    refine lv_icmp_ge (tgt := 89) hx hb dX7_areHeard_11 (by decide) (fun c2 => ?_) (fun c2 => ?_)
    · replace h := z_ift h c2
      refine lv_iload_n hx hb dX7_areHeard_89 rfl (lv_at hl 2 rfl) ?_
      obtain ⟨g3, h⟩ := z_grd_some h
      obtain rfl := Option.some.inj h
      exact z_rz hc hI g3 dX7_areHeard_90
    · replace h := z_iff h c2
      refine lv_iconst (v := 0) hx hb dX7_areHeard_14 (by decide) ?_
      refine lv_istore (lv' := [(4, .int 0), (0, .ref (z_ad G 21 0)), (1, .int v1), (2, .int v2), (3, .int v3)]) hx hb dX7_areHeard_15 hl (by decide) rfl (fun ls hl => ?_)
      refine lv_iconst (v := 0) hx hb dX7_areHeard_17 (by decide) ?_
      refine lv_istore (lv' := [(5, .int 0), (4, .int 0), (0, .ref (z_ad G 21 0)), (1, .int v1), (2, .int v2), (3, .int v3)]) hx hb dX7_areHeard_18 hl (by decide) rfl (fun ls hl => ?_)
      exact w_X7_areHeard_b20 hc ih _ v1 v2 v3 0 0 _ _ _ h hI (lv_sub hl [2, 3, 4, 5, 1, 0] rfl)
set_option maxRecDepth 100000 in
set_option maxHeartbeats 4000000 in
theorem c_X7_areHeard {G : z_G} {l : Launch} {a1 : Int32} {M : z_M} {out : Int32} (h : F_X7_areHeard a1 M = some out) : z_Met G l yX7_areHeard cX7_areHeard 6 (some .boolean) 5 [.ref (z_ad G 21 0), .int a1] M (some (.int out)) M := by
  unfold F_X7_areHeard at h
  refine z_met_of (by decide) rfl (Nat.le_of_ble_eq_true rfl) (fun p e s m below meth c ls hc hI hl => ?_)
  obtain ⟨⟨hx, hb, hml, hown, hts⟩, hr, hlk⟩ := id hc
  have hl : lv_has ls 6 [(0, .ref (z_ad G 21 0)), (1, .int a1)] := hl
  refine lv_iconst (v := 1) hx hb dX7_areHeard_0 (by decide) ?_
  refine lv_istore_n (lv' := [(2, .int 1), (0, .ref (z_ad G 21 0)), (1, .int a1)]) hx hb dX7_areHeard_1 rfl hl (by decide) rfl (fun ls hl => ?_)
  refine lv_iconst (v := 0) hx hb dX7_areHeard_2 (by decide) ?_
  refine lv_istore_n (lv' := [(3, .int 0), (2, .int 1), (0, .ref (z_ad G 21 0)), (1, .int a1)]) hx hb dX7_areHeard_3 rfl hl (by decide) rfl (fun ls hl => ?_)
  exact w_X7_areHeard_b4 hc _ a1 1 0 _ _ _ h hI (lv_sub hl [2, 3, 1, 0] rfl)
set_option maxRecDepth 100000 in
set_option maxHeartbeats 4000000 in
theorem w_X7_doors_b81 {M : z_M} (hc : z_C p s m args meth c RX7 cX7_doors 4 (some .int)) {out : Int32} (v2 : Int32) (H : Heap) (locs : List Loc) (ls : Array Slot) (h : F_X7_doors_b81 M v2 = some out) (hI : z_I G s M H locs) (hl : lv_has ls 4 [(2, .int v2)]) : W p l e (z_rm 6) s m args below meth c H locs 0 0 (MQ below (z_Q G (some (.int out)) M) args s 0 0 (z_A G)) (F0 m 81 ls []) := by
  obtain ⟨⟨hx, hb, hml, hown, hts⟩, hr, hlk⟩ := id hc
  unfold F_X7_doors_b81 at h
  refine lv_iload_n hx hb dX7_doors_81 rfl (lv_at hl 0 rfl) ?_
  refine lv_goto (tgt := 89) hx hb dX7_doors_82 (by decide) ?_
  obtain rfl := Option.some.inj h
  exact z_ri hc hI dX7_doors_89
set_option maxRecDepth 100000 in
set_option maxHeartbeats 4000000 in
theorem w_X7_doors_b65 {M : z_M} (hc : z_C p s m args meth c RX7 cX7_doors 4 (some .int)) {out : Int32} {K25 : Int32 → Int32 → Int32 → Option Int32} (hK25 : ∀ (v1 : Int32) (v2 : Int32) (v3 : Int32) (H : Heap) (locs : List Loc) (ls : Array Slot), K25 v1 v2 v3 = some out → z_I G s M H locs → lv_has ls 4 [(0, .ref (z_ad G 21 0)), (1, .int v1), (2, .int v2), (3, .int v3)] → W p l e (z_rm 6) s m args below meth c H locs 0 0 (MQ below (z_Q G (some (.int out)) M) args s 0 0 (z_A G)) (F0 m 25 ls [])) (v1 : Int32) (v3 : Int32) (s0 : Int32) (H : Heap) (locs : List Loc) (ls : Array Slot) (h : F_X7_doors_b65 M K25 v1 v3 s0 = some out) (hI : z_I G s M H locs) (hl : lv_has ls 4 [(0, .ref (z_ad G 21 0)), (1, .int v1), (3, .int v3)]) : W p l e (z_rm 6) s m args below meth c H locs 0 0 (MQ below (z_Q G (some (.int out)) M) args s 0 0 (z_A G)) (F0 m 65 ls [.int s0]) := by
  obtain ⟨⟨hx, hb, hml, hown, hts⟩, hr, hlk⟩ := id hc
  unfold F_X7_doors_b65 at h
  refine lv_istore_n (lv' := [(2, .int s0), (0, .ref (z_ad G 21 0)), (1, .int v1), (3, .int v3)]) hx hb dX7_doors_65 rfl hl (by decide) rfl (fun ls hl => ?_)
  refine lv_iinc (v := v3 + 1) (lv' := [(3, .int (v3 + 1)), (2, .int s0), (0, .ref (z_ad G 21 0)), (1, .int v1)]) hx hb dX7_doors_66 hl (k := 3) rfl rfl (by decide) rfl (fun ls hl => ?_)
  refine lv_goto (tgt := 25) hx hb dX7_doors_69 (by decide) ?_
  exact hK25 v1 s0 (v3 + 1) _ _ _ h hI (lv_sub hl [2, 3, 1, 0] rfl)
set_option maxRecDepth 100000 in
set_option maxHeartbeats 4000000 in
theorem w_X7_doors_b64 {M : z_M} (hc : z_C p s m args meth c RX7 cX7_doors 4 (some .int)) {out : Int32} {K25 : Int32 → Int32 → Int32 → Option Int32} (hK25 : ∀ (v1 : Int32) (v2 : Int32) (v3 : Int32) (H : Heap) (locs : List Loc) (ls : Array Slot), K25 v1 v2 v3 = some out → z_I G s M H locs → lv_has ls 4 [(0, .ref (z_ad G 21 0)), (1, .int v1), (2, .int v2), (3, .int v3)] → W p l e (z_rm 6) s m args below meth c H locs 0 0 (MQ below (z_Q G (some (.int out)) M) args s 0 0 (z_A G)) (F0 m 25 ls [])) (v1 : Int32) (v2 : Int32) (v3 : Int32) (H : Heap) (locs : List Loc) (ls : Array Slot) (h : F_X7_doors_b64 M K25 v1 v2 v3 = some out) (hI : z_I G s M H locs) (hl : lv_has ls 4 [(0, .ref (z_ad G 21 0)), (1, .int v1), (2, .int v2), (3, .int v3)]) : W p l e (z_rm 6) s m args below meth c H locs 0 0 (MQ below (z_Q G (some (.int out)) M) args s 0 0 (z_A G)) (F0 m 64 ls []) := by
  obtain ⟨⟨hx, hb, hml, hown, hts⟩, hr, hlk⟩ := id hc
  unfold F_X7_doors_b64 at h
  refine lv_iload_n hx hb dX7_doors_64 rfl (lv_at hl 2 rfl) ?_
  exact w_X7_doors_b65 hc hK25 v1 v3 v2 _ _ _ h hI (lv_sub hl [0, 1, 3] rfl)
set_option maxRecDepth 100000 in
set_option maxHeartbeats 4000000 in
theorem w_X7_doors_b52 {M : z_M} (hc : z_C p s m args meth c RX7 cX7_doors 4 (some .int)) {out : Int32} {K25 : Int32 → Int32 → Int32 → Option Int32} (hK25 : ∀ (v1 : Int32) (v2 : Int32) (v3 : Int32) (H : Heap) (locs : List Loc) (ls : Array Slot), K25 v1 v2 v3 = some out → z_I G s M H locs → lv_has ls 4 [(0, .ref (z_ad G 21 0)), (1, .int v1), (2, .int v2), (3, .int v3)] → W p l e (z_rm 6) s m args below meth c H locs 0 0 (MQ below (z_Q G (some (.int out)) M) args s 0 0 (z_A G)) (F0 m 25 ls [])) (v1 : Int32) (v2 : Int32) (v3 : Int32) (H : Heap) (locs : List Loc) (ls : Array Slot) (h : F_X7_doors_b52 M K25 v1 v2 v3 = some out) (hI : z_I G s M H locs) (hl : lv_has ls 4 [(0, .ref (z_ad G 21 0)), (1, .int v1), (2, .int v2), (3, .int v3)]) : W p l e (z_rm 6) s m args below meth c H locs 0 0 (MQ below (z_Q G (some (.int out)) M) args s 0 0 (z_A G)) (F0 m 52 ls []) := by
  obtain ⟨⟨hx, hb, hml, hown, hts⟩, hr, hlk⟩ := id hc
  unfold F_X7_doors_b52 at h
  refine lv_aload_n hx hb dX7_doors_52 rfl (lv_at hl 0 rfl) ?_
  refine lv_iload_n hx hb dX7_doors_53 rfl (lv_at hl 3 rfl) ?_
  obtain ⟨q12, e13, h⟩ := z_bnd h
  refine iv_X7_243 hc hI (c_X7_areHeard e13) (z_room (by decide) (by decide)) hl.1 (Nat.le_of_ble_eq_true rfl) ⟨Nat.zero_le _, Nat.zero_le _⟩ dX7_doors_54 (fun H locs hI => ?_)
  refine lv_if_eq (tgt := 64) hx hb dX7_doors_57 (by decide) (fun c14 => ?_) (fun c14 => ?_)
  · replace h := z_ift h c14
    exact w_X7_doors_b64 hc hK25 v1 v2 v3 _ _ _ h hI hl
  · replace h := z_iff h c14
    refine lv_iload_n hx hb dX7_doors_60 rfl (lv_at hl 3 rfl) ?_
    refine lv_goto (tgt := 65) hx hb dX7_doors_61 (by decide) ?_
    exact w_X7_doors_b65 hc hK25 v1 v3 v3 _ _ _ h hI (lv_sub hl [0, 1, 3] rfl)
set_option maxRecDepth 100000 in
set_option maxHeartbeats 4000000 in
theorem w_X7_doors_b25 {M : z_M} (hc : z_C p s m args meth c RX7 cX7_doors 4 (some .int)) {out : Int32} : ∀ (n : Nat) (v1 : Int32) (v2 : Int32) (v3 : Int32) (H : Heap) (locs : List Loc) (ls : Array Slot) (h : F_X7_doors_b25 M n v1 v2 v3 = some out) (hI : z_I G s M H locs) (hl : lv_has ls 4 [(0, .ref (z_ad G 21 0)), (1, .int v1), (2, .int v2), (3, .int v3)]), W p l e (z_rm 6) s m args below meth c H locs 0 0 (MQ below (z_Q G (some (.int out)) M) args s 0 0 (z_A G)) (F0 m 25 ls []) := by
  obtain ⟨⟨hx, hb, hml, hown, hts⟩, hr, hlk⟩ := id hc
  intro n
  induction n with
  | zero => intro v1 v2 v3 H locs ls h; cases h
  | succ n ih =>
    intro v1 v2 v3 H locs ls h hI hl
    rw [F_X7_doors_b25] at h
    refine lv_iload_n hx hb dX7_doors_25 rfl (lv_at hl 3 rfl) ?_
    refine lv_iconst (v := 1) hx hb dX7_doors_26 (by decide) ?_
    refine lv_aload_n hx hb dX7_doors_27 rfl (lv_at hl 0 rfl) ?_
    refine gf_X7_19 hc hI dX7_doors_28 ?_
    refine lv_iconst (v := 0) hx hb dX7_doors_31 (by decide) ?_
    obtain ⟨g5, h⟩ := z_grd_some h
    refine ld_k25 hc hI g5 dX7_doors_32 ?_
    refine lv_ishl hx hb dX7_doors_33 ?_
    refine lv_icmp_ge (tgt := 72) hx hb dX7_doors_34 (by decide) (fun c6 => ?_) (fun c6 => ?_)
    · replace h := z_ift h c6
      refine lv_iload_n hx hb dX7_doors_72 rfl (lv_at hl 2 rfl) ?_
      refine lv_if_lt (tgt := 81) hx hb dX7_doors_73 (by decide) (fun c7 => ?_) (fun c7 => ?_)
      · replace h := z_ift h c7
        exact w_X7_doors_b81 hc v2 _ _ _ h hI (lv_sub hl [2] rfl)
      · replace h := z_iff h c7
        refine lv_iload_n hx hb dX7_doors_76 rfl (lv_at hl 1 rfl) ?_
        refine lv_iconst (v := 1) hx hb dX7_doors_77 (by decide) ?_
        refine lv_icmp_ne (tgt := 85) hx hb dX7_doors_78 (by decide) (fun c8 => ?_) (fun c8 => ?_)
        · replace h := z_iff h c8
          refine lv_iload_n hx hb dX7_doors_85 rfl (lv_at hl 2 rfl) ?_
          obtain ⟨q9, e10, h⟩ := z_bnd h
          refine iv_X7_228 hc hI (c_X7_ones e10) (z_room (by decide) (by decide)) hl.1 (Nat.le_of_ble_eq_true rfl) ⟨Nat.zero_le _, Nat.zero_le _⟩ dX7_doors_86 (fun H locs hI => ?_)
          obtain rfl := Option.some.inj h
          exact z_ri hc hI dX7_doors_89
        · replace h := z_ift h c8
          exact w_X7_doors_b81 hc v2 _ _ _ h hI (lv_sub hl [2] rfl)
    · replace h := z_iff h c6
      refine lv_iload_n hx hb dX7_doors_37 rfl (lv_at hl 2 rfl) ?_
      refine lv_if_lt (tgt := 52) hx hb dX7_doors_38 (by decide) (fun c11 => ?_) (fun c11 => ?_)
      · replace h := z_ift h c11
        exact w_X7_doors_b52 hc ih v1 v2 v3 _ _ _ h hI hl
      · replace h := z_iff h c11
        refine lv_iload_n hx hb dX7_doors_41 rfl (lv_at hl 3 rfl) ?_
        obtain ⟨q15, e16, h⟩ := z_bnd h
        refine iv_X7_228 hc hI (c_X7_ones e16) (z_room (by decide) (by decide)) hl.1 (Nat.le_of_ble_eq_true rfl) ⟨Nat.zero_le _, Nat.zero_le _⟩ dX7_doors_42 (fun H locs hI => ?_)
        refine lv_iload_n hx hb dX7_doors_45 rfl (lv_at hl 2 rfl) ?_
        obtain ⟨q17, e18, h⟩ := z_bnd h
        refine iv_X7_228 hc hI (c_X7_ones e18) (z_room (by decide) (by decide)) hl.1 (Nat.le_of_ble_eq_true rfl) ⟨Nat.zero_le _, Nat.zero_le _⟩ dX7_doors_46 (fun H locs hI => ?_)
        refine lv_icmp_ge (tgt := 64) hx hb dX7_doors_49 (by decide) (fun c19 => ?_) (fun c19 => ?_)
        · replace h := z_ift h c19
          exact w_X7_doors_b64 hc ih v1 v2 v3 _ _ _ h hI hl
        · replace h := z_iff h c19
          exact w_X7_doors_b52 hc ih v1 v2 v3 _ _ _ h hI hl
set_option maxRecDepth 100000 in
set_option maxHeartbeats 4000000 in
theorem c_X7_doors {G : z_G} {l : Launch} {a1 : Int32} {M : z_M} {out : Int32} (h : F_X7_doors a1 M = some out) : z_Met G l yX7_doors cX7_doors 4 (some .int) 6 [.ref (z_ad G 21 0), .int a1] M (some (.int out)) M := by
  unfold F_X7_doors at h
  refine z_met_of (by decide) rfl (Nat.le_of_ble_eq_true rfl) (fun p e s m below meth c ls hc hI hl => ?_)
  obtain ⟨⟨hx, hb, hml, hown, hts⟩, hr, hlk⟩ := id hc
  have hl : lv_has ls 4 [(0, .ref (z_ad G 21 0)), (1, .int a1)] := hl
  refine lv_aload_n hx hb dX7_doors_0 rfl (lv_at hl 0 rfl) ?_
  refine gf_X7_138 hc hI dX7_doors_1 ?_
  refine lv_if_ne (tgt := 10) hx hb dX7_doors_4 (by decide) (fun c1 => ?_) (fun c1 => ?_)
  · replace h := z_iff h c1
    refine lv_iload_n hx hb dX7_doors_10 rfl (lv_at hl 1 rfl) ?_
    obtain ⟨q2, e3, h⟩ := z_bnd h
    refine iv_X7_216 hc hI (c_X7_isWhat e3) (z_room (by decide) (by decide)) hl.1 (Nat.le_of_ble_eq_true rfl) ⟨Nat.zero_le _, Nat.zero_le _⟩ dX7_doors_11 (fun H locs hI => ?_)
    refine lv_if_ne (tgt := 20) hx hb dX7_doors_14 (by decide) (fun c4 => ?_) (fun c4 => ?_)
    · replace h := z_iff h c4
      refine lv_ldc (v := (-1000000)) hx hb hown (hts _ wd_5_183) dX7_doors_20 ?_
      refine lv_istore_n (lv' := [(2, .int (-1000000)), (0, .ref (z_ad G 21 0)), (1, .int a1)]) hx hb dX7_doors_22 rfl hl (by decide) rfl (fun ls hl => ?_)
      refine lv_iconst (v := 0) hx hb dX7_doors_23 (by decide) ?_
      refine lv_istore_n (lv' := [(3, .int 0), (2, .int (-1000000)), (0, .ref (z_ad G 21 0)), (1, .int a1)]) hx hb dX7_doors_24 rfl hl (by decide) rfl (fun ls hl => ?_)
      exact w_X7_doors_b25 hc _ a1 (-1000000) 0 _ _ _ h hI (lv_sub hl [2, 3, 1, 0] rfl)
    · replace h := z_ift h c4
      refine lv_ldc (v := (-1000001)) hx hb hown (hts _ wd_5_5) dX7_doors_17 ?_
      obtain rfl := Option.some.inj h
      exact z_ri hc hI dX7_doors_19
  · replace h := z_ift h c1
    refine lv_ldc (v := (-1000002)) hx hb hown (hts _ wd_5_88) dX7_doors_7 ?_
    obtain rfl := Option.some.inj h
    exact z_ri hc hI dX7_doors_9
set_option maxRecDepth 100000 in
set_option maxHeartbeats 4000000 in
theorem w_X7_planed_b93 (hc : z_C p s m args meth c RX7 cX7_planed 7 (some .int)) {out : (Int32 × z_M)} {K32 : Int32 → Int32 → Int32 → Int32 → z_M → Option (Int32 × z_M)} (hK32 : ∀ (v1 : Int32) (v2 : Int32) (v3 : Int32) (v4 : Int32) (M : z_M) (H : Heap) (locs : List Loc) (ls : Array Slot), K32 v1 v2 v3 v4 M = some out → z_I G s M H locs → lv_has ls 7 [(0, .ref (z_ad G 21 0)), (1, .int v1), (2, .int v2), (3, .int v3), (4, .int v4)] → W p l e (z_rm 7) s m args below meth c H locs 0 0 (MQ below (z_Q G (some (.int out.1)) out.2) args s 0 0 (z_A G)) (F0 m 32 ls [])) {K46 : Int32 → Int32 → Int32 → Int32 → Int32 → z_M → Option (Int32 × z_M)} (hK46 : ∀ (v1 : Int32) (v2 : Int32) (v3 : Int32) (v4 : Int32) (v5 : Int32) (M : z_M) (H : Heap) (locs : List Loc) (ls : Array Slot), K46 v1 v2 v3 v4 v5 M = some out → z_I G s M H locs → lv_has ls 7 [(0, .ref (z_ad G 21 0)), (1, .int v1), (2, .int v2), (3, .int v3), (4, .int v4), (5, .int v5)] → W p l e (z_rm 7) s m args below meth c H locs 0 0 (MQ below (z_Q G (some (.int out.1)) out.2) args s 0 0 (z_A G)) (F0 m 46 ls [])) (v1 : Int32) (v2 : Int32) (v3 : Int32) (v4 : Int32) (v5 : Int32) (M : z_M) (H : Heap) (locs : List Loc) (ls : Array Slot) (h : F_X7_planed_b93 K32 K46 v1 v2 v3 v4 v5 M = some out) (hI : z_I G s M H locs) (hl : lv_has ls 7 [(0, .ref (z_ad G 21 0)), (1, .int v1), (2, .int v2), (3, .int v3), (4, .int v4), (5, .int v5)]) : W p l e (z_rm 7) s m args below meth c H locs 0 0 (MQ below (z_Q G (some (.int out.1)) out.2) args s 0 0 (z_A G)) (F0 m 93 ls []) := by
  obtain ⟨⟨hx, hb, hml, hown, hts⟩, hr, hlk⟩ := id hc
  unfold F_X7_planed_b93 at h
  refine lv_iinc (v := v5 + 1) (lv' := [(5, .int (v5 + 1)), (0, .ref (z_ad G 21 0)), (1, .int v1), (2, .int v2), (3, .int v3), (4, .int v4)]) hx hb dX7_planed_93 hl (k := 5) rfl rfl (by decide) rfl (fun ls hl => ?_)
  refine lv_goto (tgt := 46) hx hb dX7_planed_96 (by decide) ?_
  exact hK46 v1 v2 v3 v4 (v5 + 1) _ _ _ _ h hI (lv_sub hl [1, 2, 3, 4, 5, 0] rfl)
set_option maxRecDepth 100000 in
set_option maxHeartbeats 4000000 in
theorem w_X7_planed_b81 (hc : z_C p s m args meth c RX7 cX7_planed 7 (some .int)) {out : (Int32 × z_M)} {K32 : Int32 → Int32 → Int32 → Int32 → z_M → Option (Int32 × z_M)} (hK32 : ∀ (v1 : Int32) (v2 : Int32) (v3 : Int32) (v4 : Int32) (M : z_M) (H : Heap) (locs : List Loc) (ls : Array Slot), K32 v1 v2 v3 v4 M = some out → z_I G s M H locs → lv_has ls 7 [(0, .ref (z_ad G 21 0)), (1, .int v1), (2, .int v2), (3, .int v3), (4, .int v4)] → W p l e (z_rm 7) s m args below meth c H locs 0 0 (MQ below (z_Q G (some (.int out.1)) out.2) args s 0 0 (z_A G)) (F0 m 32 ls [])) {K46 : Int32 → Int32 → Int32 → Int32 → Int32 → z_M → Option (Int32 × z_M)} (hK46 : ∀ (v1 : Int32) (v2 : Int32) (v3 : Int32) (v4 : Int32) (v5 : Int32) (M : z_M) (H : Heap) (locs : List Loc) (ls : Array Slot), K46 v1 v2 v3 v4 v5 M = some out → z_I G s M H locs → lv_has ls 7 [(0, .ref (z_ad G 21 0)), (1, .int v1), (2, .int v2), (3, .int v3), (4, .int v4), (5, .int v5)] → W p l e (z_rm 7) s m args below meth c H locs 0 0 (MQ below (z_Q G (some (.int out.1)) out.2) args s 0 0 (z_A G)) (F0 m 46 ls [])) (v1 : Int32) (v4 : Int32) (v5 : Int32) (v6 : Int32) (M : z_M) (H : Heap) (locs : List Loc) (ls : Array Slot) (h : F_X7_planed_b81 K32 K46 v1 v4 v5 v6 M = some out) (hI : z_I G s M H locs) (hl : lv_has ls 7 [(0, .ref (z_ad G 21 0)), (1, .int v1), (4, .int v4), (5, .int v5), (6, .int v6)]) : W p l e (z_rm 7) s m args below meth c H locs 0 0 (MQ below (z_Q G (some (.int out.1)) out.2) args s 0 0 (z_A G)) (F0 m 81 ls []) := by
  obtain ⟨⟨hx, hb, hml, hown, hts⟩, hr, hlk⟩ := id hc
  unfold F_X7_planed_b81 at h
  refine lv_bipush (v := 10) hx hb dX7_planed_81 (by decide) ?_
  refine lv_iload hx hb dX7_planed_83 (lv_at hl 2 rfl) ?_
  refine lv_imul hx hb dX7_planed_85 ?_
  refine lv_iload hx hb dX7_planed_86 (lv_at hl 3 rfl) ?_
  refine lv_iadd hx hb dX7_planed_88 ?_
  refine z_nI h (fun x18 h => ?_)
  refine lv_istore_n (lv' := [(2, .int x18), (0, .ref (z_ad G 21 0)), (1, .int v1), (4, .int v4), (5, .int v5), (6, .int v6)]) hx hb dX7_planed_89 rfl hl (by decide) rfl (fun ls hl => ?_)
  refine lv_iload hx hb dX7_planed_90 (lv_at hl 5 rfl) ?_
  refine lv_istore_n (lv' := [(3, .int v6), (2, .int x18), (0, .ref (z_ad G 21 0)), (1, .int v1), (4, .int v4), (5, .int v5), (6, .int v6)]) hx hb dX7_planed_92 rfl hl (by decide) rfl (fun ls hl => ?_)
  exact w_X7_planed_b93 hc hK32 hK46 v1 x18 v6 v4 v5 _ _ _ _ h hI (lv_sub hl [2, 3, 1, 0, 4, 5] rfl)
set_option maxRecDepth 100000 in
set_option maxHeartbeats 4000000 in
theorem w_X7_planed_b46 (hc : z_C p s m args meth c RX7 cX7_planed 7 (some .int)) {out : (Int32 × z_M)} {K32 : Int32 → Int32 → Int32 → Int32 → z_M → Option (Int32 × z_M)} (hK32 : ∀ (v1 : Int32) (v2 : Int32) (v3 : Int32) (v4 : Int32) (M : z_M) (H : Heap) (locs : List Loc) (ls : Array Slot), K32 v1 v2 v3 v4 M = some out → z_I G s M H locs → lv_has ls 7 [(0, .ref (z_ad G 21 0)), (1, .int v1), (2, .int v2), (3, .int v3), (4, .int v4)] → W p l e (z_rm 7) s m args below meth c H locs 0 0 (MQ below (z_Q G (some (.int out.1)) out.2) args s 0 0 (z_A G)) (F0 m 32 ls [])) : ∀ (n : Nat) (v1 : Int32) (v2 : Int32) (v3 : Int32) (v4 : Int32) (v5 : Int32) (M : z_M) (H : Heap) (locs : List Loc) (ls : Array Slot) (h : F_X7_planed_b46 K32 n v1 v2 v3 v4 v5 M = some out) (hI : z_I G s M H locs) (hl : lv_has ls 7 [(0, .ref (z_ad G 21 0)), (1, .int v1), (2, .int v2), (3, .int v3), (4, .int v4), (5, .int v5)]), W p l e (z_rm 7) s m args below meth c H locs 0 0 (MQ below (z_Q G (some (.int out.1)) out.2) args s 0 0 (z_A G)) (F0 m 46 ls []) := by
  obtain ⟨⟨hx, hb, hml, hown, hts⟩, hr, hlk⟩ := id hc
  intro n
  induction n with
  | zero => intro v1 v2 v3 v4 v5 M H locs ls h; cases h
  | succ n ih =>
    intro v1 v2 v3 v4 v5 M H locs ls h hI hl
    rw [F_X7_planed_b46] at h
    refine lv_iload hx hb dX7_planed_46 (lv_at hl 5 rfl) ?_
    refine lv_bipush (v := 10) hx hb dX7_planed_48 (by decide) ?_
    refine lv_icmp_ge (tgt := 99) hx hb dX7_planed_50 (by decide) (fun c10 => ?_) (fun c10 => ?_)
    · replace h := z_ift h c10
      refine lv_iinc (v := v4 + 1) (lv' := [(4, .int (v4 + 1)), (0, .ref (z_ad G 21 0)), (1, .int v1), (2, .int v2), (3, .int v3), (5, .int v5)]) hx hb dX7_planed_99 hl (k := 4) rfl rfl (by decide) rfl (fun ls hl => ?_)
      refine lv_goto (tgt := 32) hx hb dX7_planed_102 (by decide) ?_
      exact hK32 v1 v2 v3 (v4 + 1) _ _ _ _ h hI (lv_sub hl [1, 2, 3, 4, 0] rfl)
    · replace h := z_iff h c10
      refine lv_aload_n hx hb dX7_planed_53 rfl (lv_at hl 0 rfl) ?_
      refine lv_iload hx hb dX7_planed_54 (lv_at hl 4 rfl) ?_
      refine lv_iload hx hb dX7_planed_56 (lv_at hl 5 rfl) ?_
      obtain ⟨q11, e12, h⟩ := z_bnd h
      refine iv_X7_190 hc hI (c_X7_planeTo e12) (z_room (by decide) (by decide)) hl.1 (Nat.le_of_ble_eq_true rfl) ⟨Nat.zero_le _, Nat.zero_le _⟩ dX7_planed_58 (fun H locs hI => ?_)
      refine lv_aload_n hx hb dX7_planed_61 rfl (lv_at hl 0 rfl) ?_
      obtain ⟨q13, e14, h⟩ := z_bnd h
      refine iv_X7_237 hc hI (c_X7_twinsMany e14) (z_room (by decide) (by decide)) hl.1 (Nat.le_of_ble_eq_true rfl) ⟨Nat.zero_le _, Nat.zero_le _⟩ dX7_planed_62 (fun H locs hI => ?_)
      refine lv_istore (lv' := [(6, .int q13.1), (0, .ref (z_ad G 21 0)), (1, .int v1), (2, .int v2), (3, .int v3), (4, .int v4), (5, .int v5)]) hx hb dX7_planed_65 hl (by decide) rfl (fun ls hl => ?_)
      refine lv_aload_n hx hb dX7_planed_67 rfl (lv_at hl 1 rfl) ?_
      obtain ⟨q15, e16, h⟩ := z_bnd h
      refine iv_X7_222 hc hI (c_X7_takeBack e16) (z_room (by decide) (by decide)) hl.1 (Nat.le_of_ble_eq_true rfl) ⟨Nat.zero_le _, Nat.zero_le _⟩ dX7_planed_68 (fun H locs hI => ?_)
      refine lv_iload_n hx hb dX7_planed_71 rfl (lv_at hl 3 rfl) ?_
      refine lv_if_lt (tgt := 81) hx hb dX7_planed_72 (by decide) (fun c17 => ?_) (fun c17 => ?_)
      · replace h := z_ift h c17
        exact w_X7_planed_b81 hc hK32 ih v1 v4 v5 q13.1 _ _ _ _ h hI (lv_sub hl [1, 2, 5, 6, 0] rfl)
      · replace h := z_iff h c17
        refine lv_iload hx hb dX7_planed_75 (lv_at hl 0 rfl) ?_
        refine lv_iload_n hx hb dX7_planed_77 rfl (lv_at hl 4 rfl) ?_
        refine lv_icmp_ge (tgt := 93) hx hb dX7_planed_78 (by decide) (fun c19 => ?_) (fun c19 => ?_)
        · replace h := z_ift h c19
          exact w_X7_planed_b93 hc hK32 ih v1 v2 v3 v4 v5 _ _ _ _ h hI (lv_sub hl [1, 2, 3, 4, 5, 6] rfl)
        · replace h := z_iff h c19
          exact w_X7_planed_b81 hc hK32 ih v1 v4 v5 q13.1 _ _ _ _ h hI (lv_sub hl [1, 2, 5, 6, 0] rfl)
set_option maxRecDepth 100000 in
set_option maxHeartbeats 4000000 in
theorem w_X7_planed_b32 (hc : z_C p s m args meth c RX7 cX7_planed 7 (some .int)) {out : (Int32 × z_M)} : ∀ (n : Nat) (v1 : Int32) (v2 : Int32) (v3 : Int32) (v4 : Int32) (M : z_M) (H : Heap) (locs : List Loc) (ls : Array Slot) (h : F_X7_planed_b32 n v1 v2 v3 v4 M = some out) (hI : z_I G s M H locs) (hl : lv_has ls 7 [(0, .ref (z_ad G 21 0)), (1, .int v1), (2, .int v2), (3, .int v3), (4, .int v4)]), W p l e (z_rm 7) s m args below meth c H locs 0 0 (MQ below (z_Q G (some (.int out.1)) out.2) args s 0 0 (z_A G)) (F0 m 32 ls []) := by
  obtain ⟨⟨hx, hb, hml, hown, hts⟩, hr, hlk⟩ := id hc
  intro n
  induction n with
  | zero => intro v1 v2 v3 v4 M H locs ls h; cases h
  | succ n ih =>
    intro v1 v2 v3 v4 M H locs ls h hI hl
    rw [F_X7_planed_b32] at h
    refine lv_iload hx hb dX7_planed_32 (lv_at hl 4 rfl) ?_
    refine lv_aload_n hx hb dX7_planed_34 rfl (lv_at hl 0 rfl) ?_
    refine gf_X7_19 hc hI dX7_planed_35 ?_
    refine lv_iconst (v := 0) hx hb dX7_planed_38 (by decide) ?_
    obtain ⟨g7, h⟩ := z_grd_some h
    refine ld_k25 hc hI g7 dX7_planed_39 ?_
    refine lv_icmp_ge (tgt := 105) hx hb dX7_planed_40 (by decide) (fun c8 => ?_) (fun c8 => ?_)
    · replace h := z_ift h c8
      refine lv_iload_n hx hb dX7_planed_105 rfl (lv_at hl 1 rfl) ?_
      refine lv_if_ne (tgt := 113) hx hb dX7_planed_106 (by decide) (fun c9 => ?_) (fun c9 => ?_)
      · replace h := z_iff h c9
        refine lv_iload_n hx hb dX7_planed_113 rfl (lv_at hl 3 rfl) ?_
        obtain rfl := Option.some.inj h
        exact z_ri hc hI dX7_planed_114
      · replace h := z_ift h c9
        refine lv_iload_n hx hb dX7_planed_109 rfl (lv_at hl 2 rfl) ?_
        refine lv_goto (tgt := 114) hx hb dX7_planed_110 (by decide) ?_
        obtain rfl := Option.some.inj h
        exact z_ri hc hI dX7_planed_114
    · replace h := z_iff h c8
      refine lv_iconst (v := 0) hx hb dX7_planed_43 (by decide) ?_
      refine lv_istore (lv' := [(5, .int 0), (0, .ref (z_ad G 21 0)), (1, .int v1), (2, .int v2), (3, .int v3), (4, .int v4)]) hx hb dX7_planed_44 hl (by decide) rfl (fun ls hl => ?_)
      exact w_X7_planed_b46 hc ih _ v1 v2 v3 v4 0 _ _ _ _ h hI (lv_sub hl [1, 2, 3, 4, 5, 0] rfl)
set_option maxRecDepth 100000 in
set_option maxHeartbeats 4000000 in
theorem c_X7_planed {G : z_G} {l : Launch} {a1 : Int32} {M : z_M} {out : (Int32 × z_M)} (h : F_X7_planed a1 M = some out) : z_Met G l yX7_planed cX7_planed 7 (some .int) 7 [.ref (z_ad G 21 0), .int a1] M (some (.int out.1)) out.2 := by
  unfold F_X7_planed at h
  refine z_met_of (by decide) rfl (Nat.le_of_ble_eq_true rfl) (fun p e s m below meth c ls hc hI hl => ?_)
  obtain ⟨⟨hx, hb, hml, hown, hts⟩, hr, hlk⟩ := id hc
  have hl : lv_has ls 7 [(0, .ref (z_ad G 21 0)), (1, .int a1)] := hl
  refine lv_aload_n hx hb dX7_planed_0 rfl (lv_at hl 0 rfl) ?_
  refine gf_X7_138 hc hI dX7_planed_1 ?_
  refine lv_if_ne (tgt := 10) hx hb dX7_planed_4 (by decide) (fun c1 => ?_) (fun c1 => ?_)
  · replace h := z_iff h c1
    refine lv_iload_n hx hb dX7_planed_10 rfl (lv_at hl 1 rfl) ?_
    obtain ⟨q2, e3, h⟩ := z_bnd h
    refine iv_X7_216 hc hI (c_X7_isWhat e3) (z_room (by decide) (by decide)) hl.1 (Nat.le_of_ble_eq_true rfl) ⟨Nat.zero_le _, Nat.zero_le _⟩ dX7_planed_11 (fun H locs hI => ?_)
    refine lv_if_ne (tgt := 20) hx hb dX7_planed_14 (by decide) (fun c4 => ?_) (fun c4 => ?_)
    · replace h := z_iff h c4
      refine lv_aload_n hx hb dX7_planed_20 rfl (lv_at hl 0 rfl) ?_
      obtain ⟨q5, e6, h⟩ := z_bnd h
      refine iv_X7_219 hc hI (c_X7_putAside e6) (z_room (by decide) (by decide)) hl.1 (Nat.le_of_ble_eq_true rfl) ⟨Nat.zero_le _, Nat.zero_le _⟩ dX7_planed_21 (fun H locs hI => ?_)
      refine lv_ldc (v := (-1000000)) hx hb hown (hts _ wd_5_183) dX7_planed_24 ?_
      refine lv_istore_n (lv' := [(2, .int (-1000000)), (0, .ref (z_ad G 21 0)), (1, .int a1)]) hx hb dX7_planed_26 rfl hl (by decide) rfl (fun ls hl => ?_)
      refine lv_iconst (v := 0) hx hb dX7_planed_27 (by decide) ?_
      refine lv_istore_n (lv' := [(3, .int 0), (2, .int (-1000000)), (0, .ref (z_ad G 21 0)), (1, .int a1)]) hx hb dX7_planed_28 rfl hl (by decide) rfl (fun ls hl => ?_)
      refine lv_iconst (v := 0) hx hb dX7_planed_29 (by decide) ?_
      refine lv_istore (lv' := [(4, .int 0), (3, .int 0), (2, .int (-1000000)), (0, .ref (z_ad G 21 0)), (1, .int a1)]) hx hb dX7_planed_30 hl (by decide) rfl (fun ls hl => ?_)
      exact w_X7_planed_b32 hc _ a1 (-1000000) 0 0 _ _ _ _ h hI (lv_sub hl [3, 4, 2, 1, 0] rfl)
    · replace h := z_ift h c4
      refine lv_ldc (v := (-1000001)) hx hb hown (hts _ wd_5_5) dX7_planed_17 ?_
      obtain rfl := Option.some.inj h
      exact z_ri hc hI dX7_planed_19
  · replace h := z_ift h c1
    refine lv_ldc (v := (-1000002)) hx hb hown (hts _ wd_5_88) dX7_planed_7 ?_
    obtain rfl := Option.some.inj h
    exact z_ri hc hI dX7_planed_9
set_option maxRecDepth 100000 in
set_option maxHeartbeats 4000000 in
theorem w_X7_isRise_b50 {M : z_M} (hc : z_C p s m args meth c RX7 cX7_isRise 6 (some .boolean)) {out : Int32} {K6 : Int32 → Int32 → Int32 → Int32 → Int32 → Option Int32} (hK6 : ∀ (v1 : Int32) (v2 : Int32) (v3 : Int32) (v4 : Int32) (v5 : Int32) (H : Heap) (locs : List Loc) (ls : Array Slot), K6 v1 v2 v3 v4 v5 = some out → z_I G s M H locs → lv_has ls 6 [(0, .ref (z_ad G 21 0)), (1, .int v1), (2, .int v2), (3, .int v3), (4, .int v4), (5, .int v5)] → W p l e (z_rm 5) s m args below meth c H locs 0 0 (MQ below (z_Q G (some (.int out)) M) args s 0 0 (z_A G)) (F0 m 6 ls [])) (v1 : Int32) (v2 : Int32) (v3 : Int32) (v5 : Int32) (s0 : Int32) (H : Heap) (locs : List Loc) (ls : Array Slot) (h : F_X7_isRise_b50 M K6 v1 v2 v3 v5 s0 = some out) (hI : z_I G s M H locs) (hl : lv_has ls 6 [(0, .ref (z_ad G 21 0)), (1, .int v1), (2, .int v2), (3, .int v3), (5, .int v5)]) : W p l e (z_rm 5) s m args below meth c H locs 0 0 (MQ below (z_Q G (some (.int out)) M) args s 0 0 (z_A G)) (F0 m 50 ls [.int s0]) := by
  obtain ⟨⟨hx, hb, hml, hown, hts⟩, hr, hlk⟩ := id hc
  unfold F_X7_isRise_b50 at h
  refine lv_istore (lv' := [(4, .int s0), (0, .ref (z_ad G 21 0)), (1, .int v1), (2, .int v2), (3, .int v3), (5, .int v5)]) hx hb dX7_isRise_50 hl (by decide) rfl (fun ls hl => ?_)
  refine lv_iinc (v := v5 + 1) (lv' := [(5, .int (v5 + 1)), (4, .int s0), (0, .ref (z_ad G 21 0)), (1, .int v1), (2, .int v2), (3, .int v3)]) hx hb dX7_isRise_52 hl (k := 5) rfl rfl (by decide) rfl (fun ls hl => ?_)
  refine lv_goto (tgt := 6) hx hb dX7_isRise_55 (by decide) ?_
  exact hK6 v1 v2 v3 s0 (v5 + 1) _ _ _ h hI (lv_sub hl [2, 3, 4, 5, 1, 0] rfl)
set_option maxRecDepth 100000 in
set_option maxHeartbeats 4000000 in
theorem w_X7_isRise_b45 {M : z_M} (hc : z_C p s m args meth c RX7 cX7_isRise 6 (some .boolean)) {out : Int32} {K6 : Int32 → Int32 → Int32 → Int32 → Int32 → Option Int32} (hK6 : ∀ (v1 : Int32) (v2 : Int32) (v3 : Int32) (v4 : Int32) (v5 : Int32) (H : Heap) (locs : List Loc) (ls : Array Slot), K6 v1 v2 v3 v4 v5 = some out → z_I G s M H locs → lv_has ls 6 [(0, .ref (z_ad G 21 0)), (1, .int v1), (2, .int v2), (3, .int v3), (4, .int v4), (5, .int v5)] → W p l e (z_rm 5) s m args below meth c H locs 0 0 (MQ below (z_Q G (some (.int out)) M) args s 0 0 (z_A G)) (F0 m 6 ls [])) (v1 : Int32) (v2 : Int32) (v3 : Int32) (v5 : Int32) (H : Heap) (locs : List Loc) (ls : Array Slot) (h : F_X7_isRise_b45 M K6 v1 v2 v3 v5 = some out) (hI : z_I G s M H locs) (hl : lv_has ls 6 [(0, .ref (z_ad G 21 0)), (1, .int v1), (2, .int v2), (3, .int v3), (5, .int v5)]) : W p l e (z_rm 5) s m args below meth c H locs 0 0 (MQ below (z_Q G (some (.int out)) M) args s 0 0 (z_A G)) (F0 m 45 ls []) := by
  obtain ⟨⟨hx, hb, hml, hown, hts⟩, hr, hlk⟩ := id hc
  unfold F_X7_isRise_b45 at h
  refine lv_iconst (v := 1) hx hb dX7_isRise_45 (by decide) ?_
  refine lv_goto (tgt := 50) hx hb dX7_isRise_46 (by decide) ?_
  exact w_X7_isRise_b50 hc hK6 v1 v2 v3 v5 1 _ _ _ h hI hl
set_option maxRecDepth 100000 in
set_option maxHeartbeats 4000000 in
theorem w_X7_isRise_b6 {M : z_M} (hc : z_C p s m args meth c RX7 cX7_isRise 6 (some .boolean)) {out : Int32} : ∀ (n : Nat) (v1 : Int32) (v2 : Int32) (v3 : Int32) (v4 : Int32) (v5 : Int32) (H : Heap) (locs : List Loc) (ls : Array Slot) (h : F_X7_isRise_b6 M n v1 v2 v3 v4 v5 = some out) (hI : z_I G s M H locs) (hl : lv_has ls 6 [(0, .ref (z_ad G 21 0)), (1, .int v1), (2, .int v2), (3, .int v3), (4, .int v4), (5, .int v5)]), W p l e (z_rm 5) s m args below meth c H locs 0 0 (MQ below (z_Q G (some (.int out)) M) args s 0 0 (z_A G)) (F0 m 6 ls []) := by
  obtain ⟨⟨hx, hb, hml, hown, hts⟩, hr, hlk⟩ := id hc
  intro n
  induction n with
  | zero => intro v1 v2 v3 v4 v5 H locs ls h; cases h
  | succ n ih =>
    intro v1 v2 v3 v4 v5 H locs ls h hI hl
    rw [F_X7_isRise_b6] at h
    refine lv_iload hx hb dX7_isRise_6 (lv_at hl 5 rfl) ?_
    refine lv_aload_n hx hb dX7_isRise_8 rfl (lv_at hl 0 rfl) ?_
    refine lv_iload_n hx hb dX7_isRise_9 rfl (lv_at hl 1 rfl) ?_
    obtain ⟨q1, e2, h⟩ := z_bnd h
    refine iv_X7_150 hc hI (c_X7_longOf e2) (z_room (by decide) (by decide)) hl.1 (Nat.le_of_ble_eq_true rfl) ⟨Nat.zero_le _, Nat.zero_le _⟩ dX7_isRise_10 (fun H locs hI => ?_)
    refine lv_icmp_ge (tgt := 58) hx hb dX7_isRise_13 (by decide) (fun c3 => ?_) (fun c3 => ?_)
    · replace h := z_ift h c3
      refine lv_iload hx hb dX7_isRise_58 (lv_at hl 4 rfl) ?_
      obtain ⟨g4, h⟩ := z_grd_some h
      obtain rfl := Option.some.inj h
      exact z_rz hc hI g4 dX7_isRise_60
    · replace h := z_iff h c3
      refine lv_iload hx hb dX7_isRise_16 (lv_at hl 4 rfl) ?_
      refine lv_if_ne (tgt := 45) hx hb dX7_isRise_18 (by decide) (fun c5 => ?_) (fun c5 => ?_)
      · replace h := z_iff h c5
        exact w_X7_isRise_b45 hc ih v1 v2 v3 v5 _ _ _ h hI (lv_sub hl [0, 1, 2, 3, 5] rfl)
      · replace h := z_ift h c5
        refine lv_aload_n hx hb dX7_isRise_21 rfl (lv_at hl 0 rfl) ?_
        refine lv_iload_n hx hb dX7_isRise_22 rfl (lv_at hl 2 rfl) ?_
        refine lv_aload_n hx hb dX7_isRise_23 rfl (lv_at hl 0 rfl) ?_
        refine gf_X7_19 hc hI dX7_isRise_24 ?_
        refine lv_bipush (v := 44) hx hb dX7_isRise_27 (by decide) ?_
        refine lv_iload_n hx hb dX7_isRise_29 rfl (lv_at hl 1 rfl) ?_
        refine lv_iadd hx hb dX7_isRise_30 ?_
        obtain ⟨g6, h⟩ := z_grd_some h
        refine ld_k25 hc hI g6 dX7_isRise_31 ?_
        refine lv_iload hx hb dX7_isRise_32 (lv_at hl 5 rfl) ?_
        refine lv_iadd hx hb dX7_isRise_34 ?_
        obtain ⟨q7, e8, h⟩ := z_bnd h
        refine iv_X7_211 hc hI (c_X7_heardAt e8) (z_room (by decide) (by decide)) hl.1 (Nat.le_of_ble_eq_true rfl) ⟨Nat.zero_le _, Nat.zero_le _⟩ dX7_isRise_35 (fun H locs hI => ?_)
        obtain ⟨q9, e10, h⟩ := z_bnd h
        refine iv_X7_228 hc hI (c_X7_ones e10) (z_room (by decide) (by decide)) hl.1 (Nat.le_of_ble_eq_true rfl) ⟨Nat.zero_le _, Nat.zero_le _⟩ dX7_isRise_38 (fun H locs hI => ?_)
        refine lv_iload_n hx hb dX7_isRise_41 rfl (lv_at hl 3 rfl) ?_
        refine lv_icmp_lt (tgt := 49) hx hb dX7_isRise_42 (by decide) (fun c11 => ?_) (fun c11 => ?_)
        · replace h := z_ift h c11
          refine lv_iconst (v := 0) hx hb dX7_isRise_49 (by decide) ?_
          exact w_X7_isRise_b50 hc ih v1 v2 v3 v5 0 _ _ _ h hI (lv_sub hl [0, 1, 2, 3, 5] rfl)
        · replace h := z_iff h c11
          exact w_X7_isRise_b45 hc ih v1 v2 v3 v5 _ _ _ h hI (lv_sub hl [0, 1, 2, 3, 5] rfl)
set_option maxRecDepth 100000 in
set_option maxHeartbeats 4000000 in
theorem c_X7_isRise {G : z_G} {l : Launch} {a1 : Int32} {a2 : Int32} {a3 : Int32} {M : z_M} {out : Int32} (h : F_X7_isRise a1 a2 a3 M = some out) : z_Met G l yX7_isRise cX7_isRise 6 (some .boolean) 5 [.ref (z_ad G 21 0), .int a1, .int a2, .int a3] M (some (.int out)) M := by
  unfold F_X7_isRise at h
  refine z_met_of (by decide) rfl (Nat.le_of_ble_eq_true rfl) (fun p e s m below meth c ls hc hI hl => ?_)
  obtain ⟨⟨hx, hb, hml, hown, hts⟩, hr, hlk⟩ := id hc
  have hl : lv_has ls 6 [(0, .ref (z_ad G 21 0)), (1, .int a1), (2, .int a2), (3, .int a3)] := hl
  refine lv_iconst (v := 0) hx hb dX7_isRise_0 (by decide) ?_
  refine lv_istore (lv' := [(4, .int 0), (0, .ref (z_ad G 21 0)), (1, .int a1), (2, .int a2), (3, .int a3)]) hx hb dX7_isRise_1 hl (by decide) rfl (fun ls hl => ?_)
  refine lv_iconst (v := 0) hx hb dX7_isRise_3 (by decide) ?_
  refine lv_istore (lv' := [(5, .int 0), (4, .int 0), (0, .ref (z_ad G 21 0)), (1, .int a1), (2, .int a2), (3, .int a3)]) hx hb dX7_isRise_4 hl (by decide) rfl (fun ls hl => ?_)
  exact w_X7_isRise_b6 hc _ a1 a2 a3 0 0 _ _ _ h hI (lv_sub hl [2, 3, 4, 5, 1, 0] rfl)
set_option maxRecDepth 100000 in
set_option maxHeartbeats 4000000 in
theorem w_X7_rise_b124 (hc : z_C p s m args meth c RX7 cX7_rise 9 (some .int)) {out : (Int32 × z_M)} {K53 : Int32 → Int32 → Int32 → Int32 → Int32 → Int32 → Int32 → z_M → Option (Int32 × z_M)} (hK53 : ∀ (v1 : Int32) (v2 : Int32) (v3 : Int32) (v4 : Int32) (v5 : Int32) (v6 : Int32) (v7 : Int32) (M : z_M) (H : Heap) (locs : List Loc) (ls : Array Slot), K53 v1 v2 v3 v4 v5 v6 v7 M = some out → z_I G s M H locs → lv_has ls 9 [(0, .ref (z_ad G 21 0)), (1, .int v1), (2, .int v2), (3, .int v3), (4, .int v4), (5, .int v5), (6, .int v6), (7, .int v7)] → W p l e (z_rm 6) s m args below meth c H locs 0 0 (MQ below (z_Q G (some (.int out.1)) out.2) args s 0 0 (z_A G)) (F0 m 53 ls [])) {K62 : Int32 → Int32 → Int32 → Int32 → Int32 → Int32 → Int32 → Int32 → z_M → Option (Int32 × z_M)} (hK62 : ∀ (v1 : Int32) (v2 : Int32) (v3 : Int32) (v4 : Int32) (v5 : Int32) (v6 : Int32) (v7 : Int32) (v8 : Int32) (M : z_M) (H : Heap) (locs : List Loc) (ls : Array Slot), K62 v1 v2 v3 v4 v5 v6 v7 v8 M = some out → z_I G s M H locs → lv_has ls 9 [(0, .ref (z_ad G 21 0)), (1, .int v1), (2, .int v2), (3, .int v3), (4, .int v4), (5, .int v5), (6, .int v6), (7, .int v7), (8, .int v8)] → W p l e (z_rm 6) s m args below meth c H locs 0 0 (MQ below (z_Q G (some (.int out.1)) out.2) args s 0 0 (z_A G)) (F0 m 62 ls [])) (v1 : Int32) (v2 : Int32) (v3 : Int32) (v4 : Int32) (v5 : Int32) (v6 : Int32) (v7 : Int32) (v8 : Int32) (M : z_M) (H : Heap) (locs : List Loc) (ls : Array Slot) (h : F_X7_rise_b124 K53 K62 v1 v2 v3 v4 v5 v6 v7 v8 M = some out) (hI : z_I G s M H locs) (hl : lv_has ls 9 [(0, .ref (z_ad G 21 0)), (1, .int v1), (2, .int v2), (3, .int v3), (4, .int v4), (5, .int v5), (6, .int v6), (7, .int v7), (8, .int v8)]) : W p l e (z_rm 6) s m args below meth c H locs 0 0 (MQ below (z_Q G (some (.int out.1)) out.2) args s 0 0 (z_A G)) (F0 m 124 ls []) := by
  obtain ⟨⟨hx, hb, hml, hown, hts⟩, hr, hlk⟩ := id hc
  unfold F_X7_rise_b124 at h
  refine lv_iinc (v := v8 + 1) (lv' := [(8, .int (v8 + 1)), (0, .ref (z_ad G 21 0)), (1, .int v1), (2, .int v2), (3, .int v3), (4, .int v4), (5, .int v5), (6, .int v6), (7, .int v7)]) hx hb dX7_rise_124 hl (k := 8) rfl rfl (by decide) rfl (fun ls hl => ?_)
  refine lv_goto (tgt := 62) hx hb dX7_rise_127 (by decide) ?_
  exact hK62 v1 v2 v3 v4 v5 v6 v7 (v8 + 1) _ _ _ _ h hI (lv_sub hl [1, 2, 3, 4, 5, 6, 7, 8, 0] rfl)
set_option maxRecDepth 100000 in
set_option maxHeartbeats 4000000 in
theorem w_X7_rise_b122 (hc : z_C p s m args meth c RX7 cX7_rise 9 (some .int)) {out : (Int32 × z_M)} {K53 : Int32 → Int32 → Int32 → Int32 → Int32 → Int32 → Int32 → z_M → Option (Int32 × z_M)} (hK53 : ∀ (v1 : Int32) (v2 : Int32) (v3 : Int32) (v4 : Int32) (v5 : Int32) (v6 : Int32) (v7 : Int32) (M : z_M) (H : Heap) (locs : List Loc) (ls : Array Slot), K53 v1 v2 v3 v4 v5 v6 v7 M = some out → z_I G s M H locs → lv_has ls 9 [(0, .ref (z_ad G 21 0)), (1, .int v1), (2, .int v2), (3, .int v3), (4, .int v4), (5, .int v5), (6, .int v6), (7, .int v7)] → W p l e (z_rm 6) s m args below meth c H locs 0 0 (MQ below (z_Q G (some (.int out.1)) out.2) args s 0 0 (z_A G)) (F0 m 53 ls [])) {K62 : Int32 → Int32 → Int32 → Int32 → Int32 → Int32 → Int32 → Int32 → z_M → Option (Int32 × z_M)} (hK62 : ∀ (v1 : Int32) (v2 : Int32) (v3 : Int32) (v4 : Int32) (v5 : Int32) (v6 : Int32) (v7 : Int32) (v8 : Int32) (M : z_M) (H : Heap) (locs : List Loc) (ls : Array Slot), K62 v1 v2 v3 v4 v5 v6 v7 v8 M = some out → z_I G s M H locs → lv_has ls 9 [(0, .ref (z_ad G 21 0)), (1, .int v1), (2, .int v2), (3, .int v3), (4, .int v4), (5, .int v5), (6, .int v6), (7, .int v7), (8, .int v8)] → W p l e (z_rm 6) s m args below meth c H locs 0 0 (MQ below (z_Q G (some (.int out.1)) out.2) args s 0 0 (z_A G)) (F0 m 62 ls [])) (v1 : Int32) (v2 : Int32) (v3 : Int32) (v4 : Int32) (v5 : Int32) (v7 : Int32) (v8 : Int32) (s0 : Int32) (M : z_M) (H : Heap) (locs : List Loc) (ls : Array Slot) (h : F_X7_rise_b122 K53 K62 v1 v2 v3 v4 v5 v7 v8 s0 M = some out) (hI : z_I G s M H locs) (hl : lv_has ls 9 [(0, .ref (z_ad G 21 0)), (1, .int v1), (2, .int v2), (3, .int v3), (4, .int v4), (5, .int v5), (7, .int v7), (8, .int v8)]) : W p l e (z_rm 6) s m args below meth c H locs 0 0 (MQ below (z_Q G (some (.int out.1)) out.2) args s 0 0 (z_A G)) (F0 m 122 ls [.int s0]) := by
  obtain ⟨⟨hx, hb, hml, hown, hts⟩, hr, hlk⟩ := id hc
  unfold F_X7_rise_b122 at h
  refine lv_istore (lv' := [(6, .int s0), (0, .ref (z_ad G 21 0)), (1, .int v1), (2, .int v2), (3, .int v3), (4, .int v4), (5, .int v5), (7, .int v7), (8, .int v8)]) hx hb dX7_rise_122 hl (by decide) rfl (fun ls hl => ?_)
  exact w_X7_rise_b124 hc hK53 hK62 v1 v2 v3 v4 v5 s0 v7 v8 _ _ _ _ h hI (lv_sub hl [1, 2, 3, 4, 5, 6, 0, 7, 8] rfl)
set_option maxRecDepth 100000 in
set_option maxHeartbeats 4000000 in
theorem w_X7_rise_b62 (hc : z_C p s m args meth c RX7 cX7_rise 9 (some .int)) {out : (Int32 × z_M)} {K53 : Int32 → Int32 → Int32 → Int32 → Int32 → Int32 → Int32 → z_M → Option (Int32 × z_M)} (hK53 : ∀ (v1 : Int32) (v2 : Int32) (v3 : Int32) (v4 : Int32) (v5 : Int32) (v6 : Int32) (v7 : Int32) (M : z_M) (H : Heap) (locs : List Loc) (ls : Array Slot), K53 v1 v2 v3 v4 v5 v6 v7 M = some out → z_I G s M H locs → lv_has ls 9 [(0, .ref (z_ad G 21 0)), (1, .int v1), (2, .int v2), (3, .int v3), (4, .int v4), (5, .int v5), (6, .int v6), (7, .int v7)] → W p l e (z_rm 6) s m args below meth c H locs 0 0 (MQ below (z_Q G (some (.int out.1)) out.2) args s 0 0 (z_A G)) (F0 m 53 ls [])) : ∀ (n : Nat) (v1 : Int32) (v2 : Int32) (v3 : Int32) (v4 : Int32) (v5 : Int32) (v6 : Int32) (v7 : Int32) (v8 : Int32) (M : z_M) (H : Heap) (locs : List Loc) (ls : Array Slot) (h : F_X7_rise_b62 K53 n v1 v2 v3 v4 v5 v6 v7 v8 M = some out) (hI : z_I G s M H locs) (hl : lv_has ls 9 [(0, .ref (z_ad G 21 0)), (1, .int v1), (2, .int v2), (3, .int v3), (4, .int v4), (5, .int v5), (6, .int v6), (7, .int v7), (8, .int v8)]), W p l e (z_rm 6) s m args below meth c H locs 0 0 (MQ below (z_Q G (some (.int out.1)) out.2) args s 0 0 (z_A G)) (F0 m 62 ls []) := by
  obtain ⟨⟨hx, hb, hml, hown, hts⟩, hr, hlk⟩ := id hc
  intro n
  induction n with
  | zero => intro v1 v2 v3 v4 v5 v6 v7 v8 M H locs ls h; cases h
  | succ n ih =>
    intro v1 v2 v3 v4 v5 v6 v7 v8 M H locs ls h hI hl
    rw [F_X7_rise_b62] at h
    refine lv_iload hx hb dX7_rise_62 (lv_at hl 8 rfl) ?_
    refine lv_bipush (v := 20) hx hb dX7_rise_64 (by decide) ?_
    refine lv_icmp_gt (tgt := 130) hx hb dX7_rise_66 (by decide) (fun c19 => ?_) (fun c19 => ?_)
    · replace h := z_ift h c19
      refine lv_iinc (v := v7 + 1) (lv' := [(7, .int (v7 + 1)), (0, .ref (z_ad G 21 0)), (1, .int v1), (2, .int v2), (3, .int v3), (4, .int v4), (5, .int v5), (6, .int v6), (8, .int v8)]) hx hb dX7_rise_130 hl (k := 7) rfl rfl (by decide) rfl (fun ls hl => ?_)
      refine lv_goto (tgt := 53) hx hb dX7_rise_133 (by decide) ?_
      exact hK53 v1 v2 v3 v4 v5 v6 (v7 + 1) _ _ _ _ h hI (lv_sub hl [1, 2, 3, 4, 5, 6, 7, 0] rfl)
    · replace h := z_iff h c19
      refine lv_aload_n hx hb dX7_rise_69 rfl (lv_at hl 0 rfl) ?_
      refine gf_X7_19 hc hI dX7_rise_70 ?_
      refine lv_bipush (v := 39) hx hb dX7_rise_73 (by decide) ?_
      refine lv_iload_n hx hb dX7_rise_75 rfl (lv_at hl 1 rfl) ?_
      refine lv_iadd hx hb dX7_rise_76 ?_
      refine lv_iload hx hb dX7_rise_77 (lv_at hl 7 rfl) ?_
      obtain ⟨g20, h⟩ := z_grd_some h
      refine st_k25 hc hI g20 dX7_rise_79 (fun H locs hI => ?_)
      refine lv_aload_n hx hb dX7_rise_80 rfl (lv_at hl 0 rfl) ?_
      refine gf_X7_19 hc hI dX7_rise_81 ?_
      refine lv_bipush (v := 44) hx hb dX7_rise_84 (by decide) ?_
      refine lv_iload_n hx hb dX7_rise_86 rfl (lv_at hl 1 rfl) ?_
      refine lv_iadd hx hb dX7_rise_87 ?_
      refine lv_iload hx hb dX7_rise_88 (lv_at hl 8 rfl) ?_
      obtain ⟨g21, h⟩ := z_grd_some h
      obtain ⟨M22, h, hI⟩ := z_nM h hI
      refine st_k25 hc hI g21 dX7_rise_90 (fun H locs hI => ?_)
      refine lv_aload_n hx hb dX7_rise_91 rfl (lv_at hl 0 rfl) ?_
      refine lv_iload_n hx hb dX7_rise_92 rfl (lv_at hl 1 rfl) ?_
      refine lv_iload_n hx hb dX7_rise_93 rfl (lv_at hl 2 rfl) ?_
      refine lv_iload_n hx hb dX7_rise_94 rfl (lv_at hl 3 rfl) ?_
      obtain ⟨q23, e24, h⟩ := z_bnd h
      refine iv_X7_246 hc hI (c_X7_isRise e24) (z_room (by decide) (by decide)) hl.1 (Nat.le_of_ble_eq_true rfl) ⟨Nat.zero_le _, Nat.zero_le _⟩ dX7_rise_95 (fun H locs hI => ?_)
      refine lv_if_eq (tgt := 124) hx hb dX7_rise_98 (by decide) (fun c25 => ?_) (fun c25 => ?_)
      · replace h := z_ift h c25
        exact w_X7_rise_b124 hc hK53 ih v1 v2 v3 v4 v5 v6 v7 v8 _ _ _ _ h hI hl
      · replace h := z_iff h c25
        refine lv_iinc (v := v5 + 1) (lv' := [(5, .int (v5 + 1)), (0, .ref (z_ad G 21 0)), (1, .int v1), (2, .int v2), (3, .int v3), (4, .int v4), (6, .int v6), (7, .int v7), (8, .int v8)]) hx hb dX7_rise_101 hl (k := 5) rfl rfl (by decide) rfl (fun ls hl => ?_)
        refine lv_iload hx hb dX7_rise_104 (lv_at hl 6 rfl) ?_
        refine lv_if_ge (tgt := 120) hx hb dX7_rise_106 (by decide) (fun c26 => ?_) (fun c26 => ?_)
        · replace h := z_ift h c26
          refine lv_iload hx hb dX7_rise_120 (lv_at hl 6 rfl) ?_
          exact w_X7_rise_b122 hc hK53 ih v1 v2 v3 v4 (v5 + 1) v7 v8 v6 _ _ _ _ h hI (lv_sub hl [1, 2, 3, 4, 5, 0, 7, 8] rfl)
        · replace h := z_iff h c26
          refine lv_bipush (v := 100) hx hb dX7_rise_109 (by decide) ?_
          refine lv_iload hx hb dX7_rise_111 (lv_at hl 7 rfl) ?_
          refine lv_imul hx hb dX7_rise_113 ?_
          refine lv_iload hx hb dX7_rise_114 (lv_at hl 8 rfl) ?_
          refine lv_iadd hx hb dX7_rise_116 ?_
          refine lv_goto (tgt := 122) hx hb dX7_rise_117 (by decide) ?_
          exact w_X7_rise_b122 hc hK53 ih v1 v2 v3 v4 (v5 + 1) v7 v8 (((100 : Int32) * v7) + v8) _ _ _ _ h hI (lv_sub hl [1, 2, 3, 4, 5, 0, 7, 8] rfl)
set_option maxRecDepth 100000 in
set_option maxHeartbeats 4000000 in
theorem w_X7_rise_b53 (hc : z_C p s m args meth c RX7 cX7_rise 9 (some .int)) {out : (Int32 × z_M)} : ∀ (n : Nat) (v1 : Int32) (v2 : Int32) (v3 : Int32) (v4 : Int32) (v5 : Int32) (v6 : Int32) (v7 : Int32) (M : z_M) (H : Heap) (locs : List Loc) (ls : Array Slot) (h : F_X7_rise_b53 n v1 v2 v3 v4 v5 v6 v7 M = some out) (hI : z_I G s M H locs) (hl : lv_has ls 9 [(0, .ref (z_ad G 21 0)), (1, .int v1), (2, .int v2), (3, .int v3), (4, .int v4), (5, .int v5), (6, .int v6), (7, .int v7)]), W p l e (z_rm 6) s m args below meth c H locs 0 0 (MQ below (z_Q G (some (.int out.1)) out.2) args s 0 0 (z_A G)) (F0 m 53 ls []) := by
  obtain ⟨⟨hx, hb, hml, hown, hts⟩, hr, hlk⟩ := id hc
  intro n
  induction n with
  | zero => intro v1 v2 v3 v4 v5 v6 v7 M H locs ls h; cases h
  | succ n ih =>
    intro v1 v2 v3 v4 v5 v6 v7 M H locs ls h hI hl
    rw [F_X7_rise_b53] at h
    refine lv_iload hx hb dX7_rise_53 (lv_at hl 7 rfl) ?_
    refine lv_iconst (v := 4) hx hb dX7_rise_55 (by decide) ?_
    refine lv_icmp_ge (tgt := 136) hx hb dX7_rise_56 (by decide) (fun c15 => ?_) (fun c15 => ?_)
    · replace h := z_ift h c15
      refine lv_aload_n hx hb dX7_rise_136 rfl (lv_at hl 0 rfl) ?_
      obtain ⟨q16, e17, h⟩ := z_bnd h
      refine iv_X7_222 hc hI (c_X7_takeBack e17) (z_room (by decide) (by decide)) hl.1 (Nat.le_of_ble_eq_true rfl) ⟨Nat.zero_le _, Nat.zero_le _⟩ dX7_rise_137 (fun H locs hI => ?_)
      refine lv_iload hx hb dX7_rise_140 (lv_at hl 4 rfl) ?_
      refine lv_if_ne (tgt := 150) hx hb dX7_rise_142 (by decide) (fun c18 => ?_) (fun c18 => ?_)
      · replace h := z_iff h c18
        refine lv_iload hx hb dX7_rise_150 (lv_at hl 6 rfl) ?_
        obtain rfl := Option.some.inj h
        exact z_ri hc hI dX7_rise_152
      · replace h := z_ift h c18
        refine lv_iload hx hb dX7_rise_145 (lv_at hl 5 rfl) ?_
        refine lv_goto (tgt := 152) hx hb dX7_rise_147 (by decide) ?_
        obtain rfl := Option.some.inj h
        exact z_ri hc hI dX7_rise_152
    · replace h := z_iff h c15
      refine lv_iconst (v := 0) hx hb dX7_rise_59 (by decide) ?_
      refine lv_istore (lv' := [(8, .int 0), (0, .ref (z_ad G 21 0)), (1, .int v1), (2, .int v2), (3, .int v3), (4, .int v4), (5, .int v5), (6, .int v6), (7, .int v7)]) hx hb dX7_rise_60 hl (by decide) rfl (fun ls hl => ?_)
      exact w_X7_rise_b62 hc ih _ v1 v2 v3 v4 v5 v6 v7 0 _ _ _ _ h hI (lv_sub hl [1, 2, 3, 4, 5, 6, 7, 8, 0] rfl)
set_option maxRecDepth 100000 in
set_option maxHeartbeats 4000000 in
theorem c_X7_rise {G : z_G} {l : Launch} {a1 : Int32} {a2 : Int32} {a3 : Int32} {a4 : Int32} {M : z_M} {out : (Int32 × z_M)} (h : F_X7_rise a1 a2 a3 a4 M = some out) : z_Met G l yX7_rise cX7_rise 9 (some .int) 6 [.ref (z_ad G 21 0), .int a1, .int a2, .int a3, .int a4] M (some (.int out.1)) out.2 := by
  unfold F_X7_rise at h
  refine z_met_of (by decide) rfl (Nat.le_of_ble_eq_true rfl) (fun p e s m below meth c ls hc hI hl => ?_)
  obtain ⟨⟨hx, hb, hml, hown, hts⟩, hr, hlk⟩ := id hc
  have hl : lv_has ls 9 [(0, .ref (z_ad G 21 0)), (1, .int a1), (2, .int a2), (3, .int a3), (4, .int a4)] := hl
  refine lv_aload_n hx hb dX7_rise_0 rfl (lv_at hl 0 rfl) ?_
  refine lv_iload_n hx hb dX7_rise_1 rfl (lv_at hl 1 rfl) ?_
  obtain ⟨q1, e2, h⟩ := z_bnd h
  refine iv_X7_194 hc hI (c_X7_isWalker e2) (z_room (by decide) (by decide)) hl.1 (Nat.le_of_ble_eq_true rfl) ⟨Nat.zero_le _, Nat.zero_le _⟩ dX7_rise_2 (fun H locs hI => ?_)
  refine lv_if_eq (tgt := 36) hx hb dX7_rise_5 (by decide) (fun c3 => ?_) (fun c3 => ?_)
  · replace h := z_ift h c3
    refine lv_ldc (v := (-1000001)) hx hb hown (hts _ wd_5_5) dX7_rise_36 ?_
    obtain rfl := Option.some.inj h
    exact z_ri hc hI dX7_rise_38
  · replace h := z_iff h c3
    refine lv_aload_n hx hb dX7_rise_8 rfl (lv_at hl 0 rfl) ?_
    refine lv_iload_n hx hb dX7_rise_9 rfl (lv_at hl 2 rfl) ?_
    obtain ⟨q4, e5, h⟩ := z_bnd h
    refine iv_X7_185 hc hI (c_X7_isTread e5) (z_room (by decide) (by decide)) hl.1 (Nat.le_of_ble_eq_true rfl) ⟨Nat.zero_le _, Nat.zero_le _⟩ dX7_rise_10 (fun H locs hI => ?_)
    refine lv_if_eq (tgt := 36) hx hb dX7_rise_13 (by decide) (fun c6 => ?_) (fun c6 => ?_)
    · replace h := z_ift h c6
      refine lv_ldc (v := (-1000001)) hx hb hown (hts _ wd_5_5) dX7_rise_36 ?_
      obtain rfl := Option.some.inj h
      exact z_ri hc hI dX7_rise_38
    · replace h := z_iff h c6
      refine lv_iload_n hx hb dX7_rise_16 rfl (lv_at hl 3 rfl) ?_
      refine lv_i2l (v := a3.toInt64) hx hb dX7_rise_17 rfl ?_
      refine lv_lconst (v := 1) hx hb dX7_rise_18 (by decide) ?_
      refine lv_ldc2 (v := 9) hx hb hown (hts _ wd_5_125) dX7_rise_19 ?_
      obtain ⟨q7, e8, h⟩ := z_bnd h
      refine iv_X7_54 hc hI (c_X7_in e8) (z_room (by decide) (by decide)) hl.1 (Nat.le_of_ble_eq_true rfl) ⟨Nat.zero_le _, Nat.zero_le _⟩ dX7_rise_22 (fun H locs hI => ?_)
      refine lv_if_eq (tgt := 36) hx hb dX7_rise_25 (by decide) (fun c9 => ?_) (fun c9 => ?_)
      · replace h := z_ift h c9
        refine lv_ldc (v := (-1000001)) hx hb hown (hts _ wd_5_5) dX7_rise_36 ?_
        obtain rfl := Option.some.inj h
        exact z_ri hc hI dX7_rise_38
      · replace h := z_iff h c9
        refine lv_iload hx hb dX7_rise_28 (lv_at hl 4 rfl) ?_
        obtain ⟨q10, e11, h⟩ := z_bnd h
        refine iv_X7_216 hc hI (c_X7_isWhat e11) (z_room (by decide) (by decide)) hl.1 (Nat.le_of_ble_eq_true rfl) ⟨Nat.zero_le _, Nat.zero_le _⟩ dX7_rise_30 (fun H locs hI => ?_)
        refine lv_if_ne (tgt := 39) hx hb dX7_rise_33 (by decide) (fun c12 => ?_) (fun c12 => ?_)
        · replace h := z_iff h c12
          refine lv_aload_n hx hb dX7_rise_39 rfl (lv_at hl 0 rfl) ?_
          obtain ⟨q13, e14, h⟩ := z_bnd h
          refine iv_X7_219 hc hI (c_X7_putAside e14) (z_room (by decide) (by decide)) hl.1 (Nat.le_of_ble_eq_true rfl) ⟨Nat.zero_le _, Nat.zero_le _⟩ dX7_rise_40 (fun H locs hI => ?_)
          refine lv_iconst (v := 0) hx hb dX7_rise_43 (by decide) ?_
          refine lv_istore (lv' := [(5, .int 0), (0, .ref (z_ad G 21 0)), (1, .int a1), (2, .int a2), (3, .int a3), (4, .int a4)]) hx hb dX7_rise_44 hl (by decide) rfl (fun ls hl => ?_)
          refine lv_ldc (v := (-1000000)) hx hb hown (hts _ wd_5_183) dX7_rise_46 ?_
          refine lv_istore (lv' := [(6, .int (-1000000)), (5, .int 0), (0, .ref (z_ad G 21 0)), (1, .int a1), (2, .int a2), (3, .int a3), (4, .int a4)]) hx hb dX7_rise_48 hl (by decide) rfl (fun ls hl => ?_)
          refine lv_iconst (v := 1) hx hb dX7_rise_50 (by decide) ?_
          refine lv_istore (lv' := [(7, .int 1), (6, .int (-1000000)), (5, .int 0), (0, .ref (z_ad G 21 0)), (1, .int a1), (2, .int a2), (3, .int a3), (4, .int a4)]) hx hb dX7_rise_51 hl (by decide) rfl (fun ls hl => ?_)
          exact w_X7_rise_b53 hc _ a1 a2 a3 a4 0 (-1000000) 1 _ _ _ _ h hI (lv_sub hl [3, 4, 5, 6, 7, 2, 1, 0] rfl)
        · replace h := z_ift h c12
          refine lv_ldc (v := (-1000001)) hx hb hown (hts _ wd_5_5) dX7_rise_36 ?_
          obtain rfl := Option.some.inj h
          exact z_ri hc hI dX7_rise_38
set_option maxRecDepth 100000 in
set_option maxHeartbeats 4000000 in
theorem c_X7_lacks {G : z_G} {l : Launch} {a1 : Int32} {a2 : Int32} {a3 : Int32} {M : z_M} {out : (Int32 × z_M)} (h : F_X7_lacks a1 a2 a3 M = some out) : z_Met G l yX7_lacks cX7_lacks 4 (some .int) 2 [.ref (z_ad G 21 0), .int a1, .int a2, .int a3] M (some (.int out.1)) out.2 := by
  unfold F_X7_lacks at h
  refine z_met_of (by decide) rfl (Nat.le_of_ble_eq_true rfl) (fun p e s m below meth c ls hc hI hl => ?_)
  obtain ⟨⟨hx, hb, hml, hown, hts⟩, hr, hlk⟩ := id hc
  have hl : lv_has ls 4 [(0, .ref (z_ad G 21 0)), (1, .int a1), (2, .int a2), (3, .int a3)] := hl
  refine lv_aload_n hx hb dX7_lacks_0 rfl (lv_at hl 0 rfl) ?_
  refine gf_X7_13 hc hI dX7_lacks_1 ?_
  refine lv_iload_n hx hb dX7_lacks_4 rfl (lv_at hl 1 rfl) ?_
  obtain ⟨g1, h⟩ := z_grd_some h
  refine ld_k23 hc hI g1 dX7_lacks_5 ?_
  refine lv_if_ge (tgt := 15) hx hb dX7_lacks_6 (by decide) (fun c2 => ?_) (fun c2 => ?_)
  · replace h := z_ift h c2
    refine lv_iload_n hx hb dX7_lacks_15 rfl (lv_at hl 2 rfl) ?_
    refine lv_i2l (v := a2.toInt64) hx hb dX7_lacks_16 rfl ?_
    refine lv_lconst (v := 0) hx hb dX7_lacks_17 (by decide) ?_
    refine lv_aload_n hx hb dX7_lacks_18 rfl (lv_at hl 0 rfl) ?_
    refine gf_X7_13 hc hI dX7_lacks_19 ?_
    refine lv_iload_n hx hb dX7_lacks_22 rfl (lv_at hl 1 rfl) ?_
    obtain ⟨g3, h⟩ := z_grd_some h
    refine ld_k23 hc hI g3 dX7_lacks_23 ?_
    refine lv_iload_n hx hb dX7_lacks_24 rfl (lv_at hl 3 rfl) ?_
    refine lv_isub hx hb dX7_lacks_25 ?_
    refine lv_i2l (v := ((z_gi M 23 0 a1.toNatClampNeg) - a3).toInt64) hx hb dX7_lacks_26 rfl ?_
    obtain ⟨q4, e5, h⟩ := z_bnd h
    refine iv_X7_54 hc hI (c_X7_in e5) (z_room (by decide) (by decide)) hl.1 (Nat.le_of_ble_eq_true rfl) ⟨Nat.zero_le _, Nat.zero_le _⟩ dX7_lacks_27 (fun H locs hI => ?_)
    refine lv_if_eq (tgt := 37) hx hb dX7_lacks_30 (by decide) (fun c6 => ?_) (fun c6 => ?_)
    · replace h := z_ift h c6
      refine lv_aload_n hx hb dX7_lacks_37 rfl (lv_at hl 0 rfl) ?_
      refine lv_iconst (v := 2) hx hb dX7_lacks_38 (by decide) ?_
      obtain ⟨q7, e8, h⟩ := z_bnd h
      refine iv_X7_65 hc hI (c_X7_find e8) (z_room (by decide) (by decide)) hl.1 (Nat.le_of_ble_eq_true rfl) ⟨Nat.zero_le _, Nat.zero_le _⟩ dX7_lacks_39 (fun H locs hI => ?_)
      obtain rfl := Option.some.inj h
      exact z_ri hc hI dX7_lacks_42
    · replace h := z_iff h c6
      refine lv_iconst (v := 0) hx hb dX7_lacks_33 (by decide) ?_
      refine lv_goto (tgt := 42) hx hb dX7_lacks_34 (by decide) ?_
      obtain rfl := Option.some.inj h
      exact z_ri hc hI dX7_lacks_42
  · replace h := z_iff h c2
    refine lv_aload_n hx hb dX7_lacks_9 rfl (lv_at hl 0 rfl) ?_
    refine lv_iconst (v := 1) hx hb dX7_lacks_10 (by decide) ?_
    obtain ⟨q9, e10, h⟩ := z_bnd h
    refine iv_X7_65 hc hI (c_X7_find e10) (z_room (by decide) (by decide)) hl.1 (Nat.le_of_ble_eq_true rfl) ⟨Nat.zero_le _, Nat.zero_le _⟩ dX7_lacks_11 (fun H locs hI => ?_)
    obtain rfl := Option.some.inj h
    exact z_ri hc hI dX7_lacks_14
end
