section
variable {p : Program} {l : Launch} {e : Env} {s : State} {m : MethodId} {args : Array Value} {below : List Frame} {meth : Method} {c : Code} {G : z_G}
set_option maxRecDepth 100000 in
set_option maxHeartbeats 4000000 in
theorem w_X0_isA_b5 {M : z_M} (hc : z_C p s m args meth c RX0 cX0_isA 5 (some .boolean)) {out : Int32} : ∀ (n : Nat) (v2 : Int32) (v3 : Int32) (v4 : Int32) (H : Heap) (locs : List Loc) (ls : Array Slot) (h : F_X0_isA_b5 M n v2 v3 v4 = some out) (hI : z_I G s M H locs) (hl : lv_has ls 5 [(2, .int v2), (3, .int v3), (4, .int v4)]), W p l e (z_rm 1) s m args below meth c H locs 0 0 (MQ below (z_Q G (some (.int out)) M) args s 0 0 (z_A G)) (F0 m 5 ls []) := by
  obtain ⟨⟨hx, hb, hml, hown, hts⟩, hr, hlk⟩ := id hc
  intro n
  induction n with
  | zero => intro v2 v3 v4 H locs ls h; cases h
  | succ n ih =>
    intro v2 v3 v4 H locs ls h hI hl
    rw [F_X0_isA_b5] at h
    refine lv_iload hx hb dX0_isA_5 (lv_at hl 2 rfl) ?_
    refine lv_bipush (v := 6) hx hb dX0_isA_7 (by decide) ?_
    refine lv_icmp_ge (tgt := 41) hx hb dX0_isA_9 (by decide) (fun c1 => ?_) (fun c1 => ?_)
    · replace h := z_ift h c1
      refine lv_iconst (v := 0) hx hb dX0_isA_41 (by decide) ?_
      obtain rfl := Option.some.inj h
      exact z_rz (x := 0) hc hI (by decide) dX0_isA_42
    · replace h := z_iff h c1
      refine lv_iload_n hx hb dX0_isA_12 rfl (lv_at hl 1 rfl) ?_
      refine lv_if_lt (tgt := 41) hx hb dX0_isA_13 (by decide) (fun c2 => ?_) (fun c2 => ?_)
      · replace h := z_ift h c2
        refine lv_iconst (v := 0) hx hb dX0_isA_41 (by decide) ?_
        obtain rfl := Option.some.inj h
        exact z_rz (x := 0) hc hI (by decide) dX0_isA_42
      · replace h := z_iff h c2
        refine lv_iload_n hx hb dX0_isA_16 rfl (lv_at hl 1 rfl) ?_
        refine lv_bipush (v := 6) hx hb dX0_isA_17 (by decide) ?_
        refine lv_icmp_ge (tgt := 41) hx hb dX0_isA_19 (by decide) (fun c3 => ?_) (fun c3 => ?_)
        · replace h := z_ift h c3
          refine lv_iconst (v := 0) hx hb dX0_isA_41 (by decide) ?_
          obtain rfl := Option.some.inj h
          exact z_rz (x := 0) hc hI (by decide) dX0_isA_42
        · replace h := z_iff h c3
          refine lv_iload_n hx hb dX0_isA_22 rfl (lv_at hl 1 rfl) ?_
          refine lv_iload_n hx hb dX0_isA_23 rfl (lv_at hl 0 rfl) ?_
          refine lv_icmp_ne (tgt := 29) hx hb dX0_isA_24 (by decide) (fun c4 => ?_) (fun c4 => ?_)
          · replace h := z_iff h c4
            refine z_gst (j := 0) hc hI (by decide) wd_4_84 dX0_isA_29 ?_
            refine lv_iload_n hx hb dX0_isA_32 rfl (lv_at hl 1 rfl) ?_
            obtain ⟨g5, h⟩ := z_grd_some h
            refine z_tld hc hI (by decide) g5 dX0_isA_33 ?_
            refine z_nI h (fun x6 h => ?_)
            refine lv_istore_n (lv' := [(3, .int x6), (2, .int v2), (4, .int v4)]) hx hb dX0_isA_34 rfl hl (by decide) rfl (fun ls hl => ?_)
            refine lv_iinc (v := v4 + 1) (lv' := [(4, .int (v4 + 1)), (3, .int x6), (2, .int v2)]) hx hb dX0_isA_35 hl (k := 2) rfl rfl (by decide) rfl (fun ls hl => ?_)
            refine lv_goto (tgt := 5) hx hb dX0_isA_38 (by decide) ?_
            exact ih v2 x6 (v4 + 1) _ _ _ h hI (lv_sub hl [2, 1, 0] rfl)
          · replace h := z_ift h c4
            refine lv_iconst (v := 1) hx hb dX0_isA_27 (by decide) ?_
            obtain rfl := Option.some.inj h
            exact z_rz (x := 1) hc hI (by decide) dX0_isA_28
set_option maxRecDepth 100000 in
set_option maxHeartbeats 4000000 in
theorem c_X0_isA {G : z_G} {l : Launch} {a1 : Int32} {a2 : Int32} {M : z_M} {out : Int32} (h : F_X0_isA a1 a2 M = some out) : z_Met G l yX0_isA cX0_isA 5 (some .boolean) 1 [.ref (z_ad G 19 0), .int a1, .int a2] M (some (.int out)) M := by
  unfold F_X0_isA at h
  refine z_met_of (by decide) rfl (Nat.le_of_ble_eq_true rfl) (fun p e s m below meth c ls hc hI hl => ?_)
  obtain ⟨⟨hx, hb, hml, hown, hts⟩, hr, hlk⟩ := id hc
  have hl : lv_has ls 5 [(0, .ref (z_ad G 19 0)), (1, .int a1), (2, .int a2)] := hl
  refine lv_iload_n hx hb dX0_isA_0 rfl (lv_at hl 1 rfl) ?_
  refine lv_istore_n (lv' := [(3, .int a1), (0, .ref (z_ad G 19 0)), (1, .int a1), (2, .int a2)]) hx hb dX0_isA_1 rfl hl (by decide) rfl (fun ls hl => ?_)
  refine lv_iconst (v := 0) hx hb dX0_isA_2 (by decide) ?_
  refine lv_istore (lv' := [(4, .int 0), (3, .int a1), (0, .ref (z_ad G 19 0)), (1, .int a1), (2, .int a2)]) hx hb dX0_isA_3 hl (by decide) rfl (fun ls hl => ?_)
  exact w_X0_isA_b5 hc _ a2 a1 0 _ _ _ h hI (lv_sub hl [4, 1, 0] rfl)
set_option maxRecDepth 100000 in
set_option maxHeartbeats 4000000 in
theorem w_X0_nearest_b7 {j1 : Nat} (hj : j1 < 3) {M : z_M} (hc : z_C p s m args meth c RX0 cX0_nearest 4 (some .int)) {out : Int32} : ∀ (n : Nat) (v2 : Int32) (v3 : Int32) (H : Heap) (locs : List Loc) (ls : Array Slot) (h : F_X0_nearest_b7 j1 M n v2 v3 = some out) (hI : z_I G s M H locs) (hl : lv_has ls 4 [(1, .ref (z_st G j1)), (2, .int v2), (3, .int v3)]), W p l e (z_rm 1) s m args below meth c H locs 0 0 (MQ below (z_Q G (some (.int out)) M) args s 0 0 (z_A G)) (F0 m 7 ls []) := by
  obtain ⟨⟨hx, hb, hml, hown, hts⟩, hr, hlk⟩ := id hc
  intro n
  induction n with
  | zero => intro v2 v3 H locs ls h; cases h
  | succ n ih =>
    intro v2 v3 H locs ls h hI hl
    rw [F_X0_nearest_b7] at h
    refine lv_iload_n hx hb dX0_nearest_7 rfl (lv_at hl 2 rfl) ?_
    refine lv_bipush (v := 6) hx hb dX0_nearest_8 (by decide) ?_
    refine lv_icmp_ge (tgt := 57) hx hb dX0_nearest_10 (by decide) (fun c2 => ?_) (fun c2 => ?_)
    · replace h := z_ift h c2
      refine lv_iconst (v := 0) hx hb dX0_nearest_57 (by decide) ?_
      obtain rfl := Option.some.inj h
      exact z_ri hc hI dX0_nearest_58
    · replace h := z_iff h c2
      refine lv_aload_n hx hb dX0_nearest_13 rfl (lv_at hl 0 rfl) ?_
      refine lv_ifnull hx hb dX0_nearest_14 ?_
      refine lv_iload_n hx hb dX0_nearest_17 rfl (lv_at hl 1 rfl) ?_
      refine lv_if_lt (tgt := 33) hx hb dX0_nearest_18 (by decide) (fun c3 => ?_) (fun c3 => ?_)
      · replace h := z_ift h c3
        refine lv_iconst (v := 0) hx hb dX0_nearest_33 (by decide) ?_
        obtain rfl := Option.some.inj h
        exact z_ri hc hI dX0_nearest_34
      · replace h := z_iff h c3
        refine lv_iload_n hx hb dX0_nearest_21 rfl (lv_at hl 1 rfl) ?_
        refine lv_bipush (v := 6) hx hb dX0_nearest_22 (by decide) ?_
        refine lv_icmp_ge (tgt := 33) hx hb dX0_nearest_24 (by decide) (fun c4 => ?_) (fun c4 => ?_)
        · replace h := z_ift h c4
          refine lv_iconst (v := 0) hx hb dX0_nearest_33 (by decide) ?_
          obtain rfl := Option.some.inj h
          exact z_ri hc hI dX0_nearest_34
        · replace h := z_iff h c4
          refine lv_iload_n hx hb dX0_nearest_27 rfl (lv_at hl 1 rfl) ?_
          refine lv_aload_n hx hb dX0_nearest_28 rfl (lv_at hl 0 rfl) ?_
          refine z_tlen hc hI hj dX0_nearest_29 ?_
          refine lv_icmp_lt (tgt := 35) hx hb dX0_nearest_30 (by decide) (fun c5 => ?_) (fun c5 => ?_)
          · replace h := z_ift h c5
            refine lv_aload_n hx hb dX0_nearest_35 rfl (lv_at hl 0 rfl) ?_
            refine lv_iload_n hx hb dX0_nearest_36 rfl (lv_at hl 1 rfl) ?_
            obtain ⟨g6, h⟩ := z_grd_some h
            refine z_tld hc hI hj g6 dX0_nearest_37 ?_
            refine lv_if_eq (tgt := 45) hx hb dX0_nearest_38 (by decide) (fun c7 => ?_) (fun c7 => ?_)
            · replace h := z_ift h c7
              refine z_gst (j := 0) hc hI (by decide) wd_4_84 dX0_nearest_45 ?_
              refine lv_iload_n hx hb dX0_nearest_48 rfl (lv_at hl 1 rfl) ?_
              obtain ⟨g8, h⟩ := z_grd_some h
              refine z_tld hc hI (by decide) g8 dX0_nearest_49 ?_
              refine z_nI h (fun x9 h => ?_)
              refine lv_istore_n (lv' := [(2, .int x9), (1, .ref (z_st G j1)), (3, .int v3)]) hx hb dX0_nearest_50 rfl hl (by decide) rfl (fun ls hl => ?_)
              refine lv_iinc (v := v3 + 1) (lv' := [(3, .int (v3 + 1)), (2, .int x9), (1, .ref (z_st G j1))]) hx hb dX0_nearest_51 hl (k := 2) rfl rfl (by decide) rfl (fun ls hl => ?_)
              refine lv_goto (tgt := 7) hx hb dX0_nearest_54 (by decide) ?_
              exact ih x9 (v3 + 1) _ _ _ h hI (lv_sub hl [2, 1, 0] rfl)
            · replace h := z_iff h c7
              refine lv_aload_n hx hb dX0_nearest_41 rfl (lv_at hl 0 rfl) ?_
              refine lv_iload_n hx hb dX0_nearest_42 rfl (lv_at hl 1 rfl) ?_
              obtain ⟨g10, h⟩ := z_grd_some h
              refine z_tld hc hI hj g10 dX0_nearest_43 ?_
              obtain rfl := Option.some.inj h
              exact z_ri hc hI dX0_nearest_44
          · replace h := z_iff h c5
            refine lv_iconst (v := 0) hx hb dX0_nearest_33 (by decide) ?_
            obtain rfl := Option.some.inj h
            exact z_ri hc hI dX0_nearest_34
set_option maxRecDepth 100000 in
set_option maxHeartbeats 4000000 in
theorem c_X0_nearest {G : z_G} {l : Launch} {j1 : Nat} (hj : j1 < 3) {M : z_M} {out : Int32} (h : F_X0_nearest j1 M = some out) : z_Met G l yX0_nearest cX0_nearest 4 (some .int) 1 [.ref (z_ad G 19 0), .ref (z_st G j1)] M (some (.int out)) M := by
  unfold F_X0_nearest at h
  refine z_met_of (by decide) rfl (Nat.le_of_ble_eq_true rfl) (fun p e s m below meth c ls hc hI hl => ?_)
  obtain ⟨⟨hx, hb, hml, hown, hts⟩, hr, hlk⟩ := id hc
  have hl : lv_has ls 4 [(0, .ref (z_ad G 19 0)), (1, .ref (z_st G j1))] := hl
  refine lv_aload_n hx hb dX0_nearest_0 rfl (lv_at hl 0 rfl) ?_
  refine gf_X0_29 hc hI dX0_nearest_1 ?_
  refine z_nI h (fun x1 h => ?_)
  refine lv_istore_n (lv' := [(2, .int x1), (0, .ref (z_ad G 19 0)), (1, .ref (z_st G j1))]) hx hb dX0_nearest_4 rfl hl (by decide) rfl (fun ls hl => ?_)
  refine lv_iconst (v := 0) hx hb dX0_nearest_5 (by decide) ?_
  refine lv_istore_n (lv' := [(3, .int 0), (2, .int x1), (0, .ref (z_ad G 19 0)), (1, .ref (z_st G j1))]) hx hb dX0_nearest_6 rfl hl (by decide) rfl (fun ls hl => ?_)
  exact w_X0_nearest_b7 hj hc _ x1 0 _ _ _ h hI (lv_sub hl [3, 1, 0] rfl)
set_option maxRecDepth 100000 in
set_option maxHeartbeats 4000000 in
theorem c_X0_markAsked {G : z_G} {l : Launch} {d : Nat} {B : Int32 → Int32 → z_M → Option (Int32 × z_M)} (hB : ∀ {a1 a2 : Int32} {M : z_M} {out : Int32 × z_M}, B a1 a2 M = some out → z_Met G l yX0_body cX0_body 4 (some .int) d [.ref (z_ad G 19 0), .int a1, .int a2] M (some (.int out.1)) out.2) {a1 : Int32} {M : z_M} {out : (Int32 × z_M)} (h : F_X0_markAsked B a1 M = some out) : z_Met G l yX0_markAsked cX0_markAsked 2 (some .int) (d + 2) [.ref (z_ad G 19 0), .int a1] M (some (.int out.1)) out.2 := by
  unfold F_X0_markAsked at h
  refine z_met_of (by decide) rfl (Nat.le_of_ble_eq_true rfl) (fun p e s m below meth c ls hc hI hl => ?_)
  obtain ⟨⟨hx, hb, hml, hown, hts⟩, hr, hlk⟩ := id hc
  have hl : lv_has ls 2 [(0, .ref (z_ad G 19 0)), (1, .int a1)] := hl
  refine lv_aload_n hx hb dX0_markAsked_0 rfl (lv_at hl 0 rfl) ?_
  refine lv_aload_n hx hb dX0_markAsked_1 rfl (lv_at hl 0 rfl) ?_
  refine z_gst (j := 2) hc hI (by decide) wd_4_120 dX0_markAsked_2 ?_
  obtain ⟨q1, e2, h⟩ := z_bnd h
  refine iv_X0_57 hc hI (c_X0_nearest (by decide) e2) (z_room (by omega) (by decide)) hl.1 (Nat.le_of_ble_eq_true rfl) ⟨Nat.zero_le _, Nat.zero_le _⟩ dX0_markAsked_5 (fun H locs hI => ?_)
  refine lv_iload_n hx hb dX0_markAsked_8 rfl (lv_at hl 1 rfl) ?_
  obtain ⟨q3, e4, h⟩ := z_bnd h
  refine iv_X0_61 hc hI (hB e4) (z_room (by omega) (by decide)) hl.1 (Nat.le_of_ble_eq_true rfl) ⟨Nat.zero_le _, Nat.zero_le _⟩ dX0_markAsked_9 (fun H locs hI => ?_)
  obtain rfl := Option.some.inj h
  exact z_ri hc hI dX0_markAsked_12
set_option maxRecDepth 100000 in
set_option maxHeartbeats 4000000 in
theorem c_X0_sizeAsked {G : z_G} {l : Launch} {d : Nat} {B : Int32 → Int32 → z_M → Option (Int32 × z_M)} (hB : ∀ {a1 a2 : Int32} {M : z_M} {out : Int32 × z_M}, B a1 a2 M = some out → z_Met G l yX0_body cX0_body 4 (some .int) d [.ref (z_ad G 19 0), .int a1, .int a2] M (some (.int out.1)) out.2) {a1 : Int32} {M : z_M} {out : (Int32 × z_M)} (h : F_X0_sizeAsked B a1 M = some out) : z_Met G l yX0_sizeAsked cX0_sizeAsked 2 (some .int) (d + 2) [.ref (z_ad G 19 0), .int a1] M (some (.int out.1)) out.2 := by
  unfold F_X0_sizeAsked at h
  refine z_met_of (by decide) rfl (Nat.le_of_ble_eq_true rfl) (fun p e s m below meth c ls hc hI hl => ?_)
  obtain ⟨⟨hx, hb, hml, hown, hts⟩, hr, hlk⟩ := id hc
  have hl : lv_has ls 2 [(0, .ref (z_ad G 19 0)), (1, .int a1)] := hl
  refine lv_aload_n hx hb dX0_sizeAsked_0 rfl (lv_at hl 0 rfl) ?_
  refine lv_aload_n hx hb dX0_sizeAsked_1 rfl (lv_at hl 0 rfl) ?_
  refine z_gst (j := 1) hc hI (by decide) wd_4_102 dX0_sizeAsked_2 ?_
  obtain ⟨q1, e2, h⟩ := z_bnd h
  refine iv_X0_57 hc hI (c_X0_nearest (by decide) e2) (z_room (by omega) (by decide)) hl.1 (Nat.le_of_ble_eq_true rfl) ⟨Nat.zero_le _, Nat.zero_le _⟩ dX0_sizeAsked_5 (fun H locs hI => ?_)
  refine lv_iload_n hx hb dX0_sizeAsked_8 rfl (lv_at hl 1 rfl) ?_
  obtain ⟨q3, e4, h⟩ := z_bnd h
  refine iv_X0_61 hc hI (hB e4) (z_room (by omega) (by decide)) hl.1 (Nat.le_of_ble_eq_true rfl) ⟨Nat.zero_le _, Nat.zero_le _⟩ dX0_sizeAsked_9 (fun H locs hI => ?_)
  obtain rfl := Option.some.inj h
  exact z_ri hc hI dX0_sizeAsked_12
set_option maxRecDepth 100000 in
set_option maxHeartbeats 4000000 in
theorem c_X0_begin {G : z_G} {l : Launch} {a1 : Int32} {M : z_M} {out : z_M} (h : F_X0_begin a1 M = some out) : z_Met G l yX0_begin cX0_begin 2 none 1 [.ref (z_ad G 19 0), .int a1] M (none) out := by
  unfold F_X0_begin at h
  refine z_met_of (by decide) rfl (Nat.le_of_ble_eq_true rfl) (fun p e s m below meth c ls hc hI hl => ?_)
  obtain ⟨⟨hx, hb, hml, hown, hts⟩, hr, hlk⟩ := id hc
  have hl : lv_has ls 2 [(0, .ref (z_ad G 19 0)), (1, .int a1)] := hl
  refine lv_aload_n hx hb dX0_begin_0 rfl (lv_at hl 0 rfl) ?_
  refine gf_X0_44 hc hI dX0_begin_1 ?_
  refine lv_if_lt (tgt := 36) hx hb dX0_begin_4 (by decide) (fun c1 => ?_) (fun c1 => ?_)
  · replace h := z_ift h c1
    obtain rfl := Option.some.inj h
    exact z_rv hc hI dX0_begin_36
  · replace h := z_iff h c1
    refine lv_aload_n hx hb dX0_begin_7 rfl (lv_at hl 0 rfl) ?_
    refine gf_X0_44 hc hI dX0_begin_8 ?_
    refine lv_bipush (v := 16) hx hb dX0_begin_11 (by decide) ?_
    refine lv_icmp_ge (tgt := 36) hx hb dX0_begin_13 (by decide) (fun c2 => ?_) (fun c2 => ?_)
    · replace h := z_ift h c2
      obtain rfl := Option.some.inj h
      exact z_rv hc hI dX0_begin_36
    · replace h := z_iff h c2
      refine lv_aload_n hx hb dX0_begin_16 rfl (lv_at hl 0 rfl) ?_
      refine gf_X0_11 hc hI dX0_begin_17 ?_
      refine lv_aload_n hx hb dX0_begin_20 rfl (lv_at hl 0 rfl) ?_
      refine gf_X0_44 hc hI dX0_begin_21 ?_
      refine lv_iload_n hx hb dX0_begin_24 rfl (lv_at hl 1 rfl) ?_
      obtain ⟨g3, h⟩ := z_grd_some h
      refine st_k20 hc hI g3 dX0_begin_25 (fun H locs hI => ?_)
      refine lv_aload_n hx hb dX0_begin_26 rfl (lv_at hl 0 rfl) ?_
      refine lv_dup hx hb dX0_begin_27 rfl ?_
      obtain ⟨M4, h, hI⟩ := z_nM h hI
      refine gf_X0_44 hc hI dX0_begin_28 ?_
      refine lv_iconst (v := 1) hx hb dX0_begin_31 (by decide) ?_
      refine lv_iadd hx hb dX0_begin_32 ?_
      refine pf_X0_44 hc hI dX0_begin_33 (fun H locs hI => ?_)
      obtain rfl := Option.some.inj h
      exact z_rv hc hI dX0_begin_36
set_option maxRecDepth 100000 in
set_option maxHeartbeats 4000000 in
theorem c_X0_body {G : z_G} {l : Launch} : ∀ (n : Nat) {a1 a2 : Int32} {M : z_M} {out : (Int32 × z_M)} (h : F_X0_body n a1 a2 M = some out), z_Met G l yX0_body cX0_body 4 (some .int) (3 * n + 3) [.ref (z_ad G 19 0), .int a1, .int a2] M (some (.int out.1)) out.2 := by
  intro n
  induction n with
  | zero => intro a1 a2 M out h; cases h
  | succ n ih =>
    intro a1 a2 M out h
    rw [F_X0_body] at h
    refine z_met_of (by decide) rfl (Nat.le_of_ble_eq_true rfl) (fun p e s m below meth c ls hc hI hl => ?_)
    obtain ⟨⟨hx, hb, hml, hown, hts⟩, hr, hlk⟩ := id hc
    have hl : lv_has ls 4 [(0, .ref (z_ad G 19 0)), (1, .int a1), (2, .int a2)] := hl

    refine lv_iload_n hx hb dX0_body_0 rfl (lv_at hl 2 rfl) ?_
    refine lv_bipush (v := 8) hx hb dX0_body_1 (by decide) ?_
    refine lv_icmp_le (tgt := 8) hx hb dX0_body_3 (by decide) (fun c1 => ?_) (fun c1 => ?_)
    · replace h := z_ift h c1
      refine lv_aload_n hx hb dX0_body_8 rfl (lv_at hl 0 rfl) ?_
      refine lv_iload_n hx hb dX0_body_9 rfl (lv_at hl 1 rfl) ?_
      obtain ⟨q2, e3, h⟩ := z_bnd h
      refine iv_X0_68 hc hI (c_X0_begin e3) (z_room (by omega) (by decide)) hl.1 (Nat.le_of_ble_eq_true rfl) ⟨Nat.zero_le _, Nat.zero_le _⟩ dX0_body_10 (fun H locs hI => ?_)
      refine lv_iload_n hx hb dX0_body_13 rfl (lv_at hl 2 rfl) ?_
      refine lv_iconst (v := 1) hx hb dX0_body_14 (by decide) ?_
      refine lv_iadd hx hb dX0_body_15 ?_
      refine z_nI h (fun x4 h => ?_)
      refine lv_istore_n (lv' := [(3, .int x4), (0, .ref (z_ad G 19 0)), (1, .int a1), (2, .int a2)]) hx hb dX0_body_16 rfl hl (by decide) rfl (fun ls hl => ?_)
      refine lv_iload_n hx hb dX0_body_17 rfl (lv_at hl 2 rfl) ?_
      by_cases c5 : a1 = 10
      · replace h := z_ift h c5
        refine lv_tableIn (off := 74) (tgt := 92) hx hb dX0_body_18 (by rw [c5]; decide) (by rw [c5]; decide) (by rw [c5]; rfl) (by decide) ?_
        refine lv_aload_n hx hb dX0_body_92 rfl (lv_at hl 1 rfl) ?_
        refine gf_X0_35 hc hI dX0_body_93 ?_
        obtain rfl := Option.some.inj h
        exact z_ri hc hI dX0_body_96
      replace h := z_iff h c5
      by_cases c6 : a1 = 11
      · replace h := z_ift h c6
        refine lv_tableIn (off := 79) (tgt := 97) hx hb dX0_body_18 (by rw [c6]; decide) (by rw [c6]; decide) (by rw [c6]; rfl) (by decide) ?_
        refine lv_aload_n hx hb dX0_body_97 rfl (lv_at hl 1 rfl) ?_
        refine lv_bipush (v := 10) hx hb dX0_body_98 (by decide) ?_
        refine lv_iload_n hx hb dX0_body_100 rfl (lv_at hl 0 rfl) ?_
        obtain ⟨q7, e8, h⟩ := z_bnd h
        refine iv_X0_61 hc hI (ih e8) (z_room (by omega) (by decide)) hl.1 (Nat.le_of_ble_eq_true rfl) ⟨Nat.zero_le _, Nat.zero_le _⟩ dX0_body_101 (fun H locs hI => ?_)
        refine lv_aload_n hx hb dX0_body_104 rfl (lv_at hl 1 rfl) ?_
        refine lv_iload_n hx hb dX0_body_105 rfl (lv_at hl 0 rfl) ?_
        obtain ⟨q9, e10, h⟩ := z_bnd h
        refine iv_X0_50 hc hI (c_X0_markAsked ih e10) (z_room (by omega) (by decide)) hl.1 (Nat.le_of_ble_eq_true rfl) ⟨Nat.zero_le _, Nat.zero_le _⟩ dX0_body_106 (fun H locs hI => ?_)
        refine lv_iadd hx hb dX0_body_109 ?_
        obtain rfl := Option.some.inj h
        exact z_ri hc hI dX0_body_110
      replace h := z_iff h c6
      by_cases c11 : a1 = 12
      · replace h := z_ift h c11
        refine lv_tableIn (off := 93) (tgt := 111) hx hb dX0_body_18 (by rw [c11]; decide) (by rw [c11]; decide) (by rw [c11]; rfl) (by decide) ?_
        refine lv_aload_n hx hb dX0_body_111 rfl (lv_at hl 1 rfl) ?_
        refine lv_bipush (v := 11) hx hb dX0_body_112 (by decide) ?_
        refine lv_iload_n hx hb dX0_body_114 rfl (lv_at hl 0 rfl) ?_
        obtain ⟨q12, e13, h⟩ := z_bnd h
        refine iv_X0_61 hc hI (ih e13) (z_room (by omega) (by decide)) hl.1 (Nat.le_of_ble_eq_true rfl) ⟨Nat.zero_le _, Nat.zero_le _⟩ dX0_body_115 (fun H locs hI => ?_)
        refine lv_ineg hx hb dX0_body_118 ?_
        obtain rfl := Option.some.inj h
        exact z_ri hc hI dX0_body_119
      replace h := z_iff h c11
      by_cases c14 : a1 = 13
      · replace h := z_ift h c14
        refine lv_tableIn (off := 102) (tgt := 120) hx hb dX0_body_18 (by rw [c14]; decide) (by rw [c14]; decide) (by rw [c14]; rfl) (by decide) ?_
        refine lv_aload_n hx hb dX0_body_120 rfl (lv_at hl 1 rfl) ?_
        refine lv_bipush (v := 10) hx hb dX0_body_121 (by decide) ?_
        refine lv_iload_n hx hb dX0_body_123 rfl (lv_at hl 0 rfl) ?_
        obtain ⟨q15, e16, h⟩ := z_bnd h
        refine iv_X0_61 hc hI (ih e16) (z_room (by omega) (by decide)) hl.1 (Nat.le_of_ble_eq_true rfl) ⟨Nat.zero_le _, Nat.zero_le _⟩ dX0_body_124 (fun H locs hI => ?_)
        refine lv_bipush (v := 100) hx hb dX0_body_127 (by decide) ?_
        refine lv_isub hx hb dX0_body_129 ?_
        obtain rfl := Option.some.inj h
        exact z_ri hc hI dX0_body_130
      replace h := z_iff h c14
      by_cases c17 : a1 = 14
      · replace h := z_ift h c17
        refine lv_tableIn (off := 113) (tgt := 131) hx hb dX0_body_18 (by rw [c17]; decide) (by rw [c17]; decide) (by rw [c17]; rfl) (by decide) ?_
        refine lv_iconst (v := 2) hx hb dX0_body_131 (by decide) ?_
        refine lv_aload_n hx hb dX0_body_132 rfl (lv_at hl 1 rfl) ?_
        refine lv_bipush (v := 13) hx hb dX0_body_133 (by decide) ?_
        refine lv_iload_n hx hb dX0_body_135 rfl (lv_at hl 0 rfl) ?_
        obtain ⟨q18, e19, h⟩ := z_bnd h
        refine iv_X0_61 hc hI (ih e19) (z_room (by omega) (by decide)) hl.1 (Nat.le_of_ble_eq_true rfl) ⟨Nat.zero_le _, Nat.zero_le _⟩ dX0_body_136 (fun H locs hI => ?_)
        refine lv_imul hx hb dX0_body_139 ?_
        obtain rfl := Option.some.inj h
        exact z_ri hc hI dX0_body_140
      replace h := z_iff h c17
      by_cases c20 : a1 = 15
      · replace h := z_ift h c20
        refine lv_tableIn (off := 177) (tgt := 195) hx hb dX0_body_18 (by rw [c20]; decide) (by rw [c20]; decide) (by rw [c20]; rfl) (by decide) ?_
        refine lv_iconst (v := 0) hx hb dX0_body_195 (by decide) ?_
        obtain rfl := Option.some.inj h
        exact z_ri hc hI dX0_body_196
      replace h := z_iff h c20
      by_cases c21 : a1 = 16
      · replace h := z_ift h c21
        refine lv_tableIn (off := 177) (tgt := 195) hx hb dX0_body_18 (by rw [c21]; decide) (by rw [c21]; decide) (by rw [c21]; rfl) (by decide) ?_
        refine lv_iconst (v := 0) hx hb dX0_body_195 (by decide) ?_
        obtain rfl := Option.some.inj h
        exact z_ri hc hI dX0_body_196
      replace h := z_iff h c21
      by_cases c22 : a1 = 17
      · replace h := z_ift h c22
        refine lv_tableIn (off := 177) (tgt := 195) hx hb dX0_body_18 (by rw [c22]; decide) (by rw [c22]; decide) (by rw [c22]; rfl) (by decide) ?_
        refine lv_iconst (v := 0) hx hb dX0_body_195 (by decide) ?_
        obtain rfl := Option.some.inj h
        exact z_ri hc hI dX0_body_196
      replace h := z_iff h c22
      by_cases c23 : a1 = 18
      · replace h := z_ift h c23
        refine lv_tableIn (off := 177) (tgt := 195) hx hb dX0_body_18 (by rw [c23]; decide) (by rw [c23]; decide) (by rw [c23]; rfl) (by decide) ?_
        refine lv_iconst (v := 0) hx hb dX0_body_195 (by decide) ?_
        obtain rfl := Option.some.inj h
        exact z_ri hc hI dX0_body_196
      replace h := z_iff h c23
      by_cases c24 : a1 = 19
      · replace h := z_ift h c24
        refine lv_tableIn (off := 177) (tgt := 195) hx hb dX0_body_18 (by rw [c24]; decide) (by rw [c24]; decide) (by rw [c24]; rfl) (by decide) ?_
        refine lv_iconst (v := 0) hx hb dX0_body_195 (by decide) ?_
        obtain rfl := Option.some.inj h
        exact z_ri hc hI dX0_body_196
      replace h := z_iff h c24
      by_cases c25 : a1 = 20
      · replace h := z_ift h c25
        refine lv_tableIn (off := 123) (tgt := 141) hx hb dX0_body_18 (by rw [c25]; decide) (by rw [c25]; decide) (by rw [c25]; rfl) (by decide) ?_
        refine lv_aload_n hx hb dX0_body_141 rfl (lv_at hl 1 rfl) ?_
        refine gf_X0_19 hc hI dX0_body_142 ?_
        obtain rfl := Option.some.inj h
        exact z_ri hc hI dX0_body_145
      replace h := z_iff h c25
      by_cases c26 : a1 = 21
      · replace h := z_ift h c26
        refine lv_tableIn (off := 128) (tgt := 146) hx hb dX0_body_18 (by rw [c26]; decide) (by rw [c26]; decide) (by rw [c26]; rfl) (by decide) ?_
        refine lv_aload_n hx hb dX0_body_146 rfl (lv_at hl 1 rfl) ?_
        refine lv_bipush (v := 20) hx hb dX0_body_147 (by decide) ?_
        refine lv_iload_n hx hb dX0_body_149 rfl (lv_at hl 0 rfl) ?_
        obtain ⟨q27, e28, h⟩ := z_bnd h
        refine iv_X0_61 hc hI (ih e28) (z_room (by omega) (by decide)) hl.1 (Nat.le_of_ble_eq_true rfl) ⟨Nat.zero_le _, Nat.zero_le _⟩ dX0_body_150 (fun H locs hI => ?_)
        refine lv_aload_n hx hb dX0_body_153 rfl (lv_at hl 1 rfl) ?_
        refine gf_X0_41 hc hI dX0_body_154 ?_
        refine lv_iadd hx hb dX0_body_157 ?_
        obtain rfl := Option.some.inj h
        exact z_ri hc hI dX0_body_158
      replace h := z_iff h c26
      by_cases c29 : a1 = 22
      · replace h := z_ift h c29
        refine lv_tableIn (off := 141) (tgt := 159) hx hb dX0_body_18 (by rw [c29]; decide) (by rw [c29]; decide) (by rw [c29]; rfl) (by decide) ?_
        refine lv_aload_n hx hb dX0_body_159 rfl (lv_at hl 1 rfl) ?_
        refine lv_bipush (v := 21) hx hb dX0_body_160 (by decide) ?_
        refine lv_iload_n hx hb dX0_body_162 rfl (lv_at hl 0 rfl) ?_
        obtain ⟨q30, e31, h⟩ := z_bnd h
        refine iv_X0_61 hc hI (ih e31) (z_room (by omega) (by decide)) hl.1 (Nat.le_of_ble_eq_true rfl) ⟨Nat.zero_le _, Nat.zero_le _⟩ dX0_body_163 (fun H locs hI => ?_)
        refine lv_sipush (v := 1000) hx hb dX0_body_166 (by decide) ?_
        refine lv_isub hx hb dX0_body_169 ?_
        obtain rfl := Option.some.inj h
        exact z_ri hc hI dX0_body_170
      replace h := z_iff h c29
      by_cases c32 : a1 = 23
      · replace h := z_ift h c32
        refine lv_tableIn (off := 153) (tgt := 171) hx hb dX0_body_18 (by rw [c32]; decide) (by rw [c32]; decide) (by rw [c32]; rfl) (by decide) ?_
        refine lv_aload_n hx hb dX0_body_171 rfl (lv_at hl 1 rfl) ?_
        refine lv_bipush (v := 20) hx hb dX0_body_172 (by decide) ?_
        refine lv_iload_n hx hb dX0_body_174 rfl (lv_at hl 0 rfl) ?_
        obtain ⟨q33, e34, h⟩ := z_bnd h
        refine iv_X0_61 hc hI (ih e34) (z_room (by omega) (by decide)) hl.1 (Nat.le_of_ble_eq_true rfl) ⟨Nat.zero_le _, Nat.zero_le _⟩ dX0_body_175 (fun H locs hI => ?_)
        refine lv_aload_n hx hb dX0_body_178 rfl (lv_at hl 1 rfl) ?_
        refine lv_iload_n hx hb dX0_body_179 rfl (lv_at hl 0 rfl) ?_
        obtain ⟨q35, e36, h⟩ := z_bnd h
        refine iv_X0_47 hc hI (c_X0_sizeAsked ih e36) (z_room (by omega) (by decide)) hl.1 (Nat.le_of_ble_eq_true rfl) ⟨Nat.zero_le _, Nat.zero_le _⟩ dX0_body_180 (fun H locs hI => ?_)
        refine lv_isub hx hb dX0_body_183 ?_
        obtain rfl := Option.some.inj h
        exact z_ri hc hI dX0_body_184
      replace h := z_iff h c32
      by_cases c37 : a1 = 24
      · replace h := z_ift h c37
        refine lv_tableIn (off := 167) (tgt := 185) hx hb dX0_body_18 (by rw [c37]; decide) (by rw [c37]; decide) (by rw [c37]; rfl) (by decide) ?_
        refine lv_iconst (v := 2) hx hb dX0_body_185 (by decide) ?_
        refine lv_aload_n hx hb dX0_body_186 rfl (lv_at hl 1 rfl) ?_
        refine lv_bipush (v := 21) hx hb dX0_body_187 (by decide) ?_
        refine lv_iload_n hx hb dX0_body_189 rfl (lv_at hl 0 rfl) ?_
        obtain ⟨q38, e39, h⟩ := z_bnd h
        refine iv_X0_61 hc hI (ih e39) (z_room (by omega) (by decide)) hl.1 (Nat.le_of_ble_eq_true rfl) ⟨Nat.zero_le _, Nat.zero_le _⟩ dX0_body_190 (fun H locs hI => ?_)
        refine lv_imul hx hb dX0_body_193 ?_
        obtain rfl := Option.some.inj h
        exact z_ri hc hI dX0_body_194
      replace h := z_iff h c37
      refine lv_tableOut (tgt := 195) hx hb dX0_body_18 (by have nc5 := z_ne (n := 10) (by decide) c5; have nc6 := z_ne (n := 11) (by decide) c6; have nc11 := z_ne (n := 12) (by decide) c11; have nc14 := z_ne (n := 13) (by decide) c14; have nc17 := z_ne (n := 14) (by decide) c17; have nc20 := z_ne (n := 15) (by decide) c20; have nc21 := z_ne (n := 16) (by decide) c21; have nc22 := z_ne (n := 17) (by decide) c22; have nc23 := z_ne (n := 18) (by decide) c23; have nc24 := z_ne (n := 19) (by decide) c24; have nc25 := z_ne (n := 20) (by decide) c25; have nc26 := z_ne (n := 21) (by decide) c26; have nc29 := z_ne (n := 22) (by decide) c29; have nc32 := z_ne (n := 23) (by decide) c32; have nc37 := z_ne (n := 24) (by decide) c37; omega) (by decide) ?_
      refine lv_iconst (v := 0) hx hb dX0_body_195 (by decide) ?_
      obtain rfl := Option.some.inj h
      exact z_ri hc hI dX0_body_196
    · replace h := z_iff h c1
      refine lv_iconst (v := 0) hx hb dX0_body_6 (by decide) ?_
      obtain rfl := Option.some.inj h
      exact z_ri hc hI dX0_body_7
set_option maxRecDepth 100000 in
set_option maxHeartbeats 4000000 in
theorem c_X0_answerOf {G : z_G} {l : Launch} {a2 : Int32} {a3 : Int32} {M : z_M} {out : (Int32 × z_M)} (h : F_X0_answerOf a2 a3 M = some out) : z_Met G l yX0_answerOf cX0_answerOf 4 (some .int) 48 [.ref (z_ad G 19 0), .ref (z_ad G 7 24), .int a2, .int a3] M (some (.int out.1)) out.2 := by
  unfold F_X0_answerOf at h
  refine z_met_of (by decide) rfl (Nat.le_of_ble_eq_true rfl) (fun p e s m below meth c ls hc hI hl => ?_)
  obtain ⟨⟨hx, hb, hml, hown, hts⟩, hr, hlk⟩ := id hc
  have hl : lv_has ls 4 [(0, .ref (z_ad G 19 0)), (1, .ref (z_ad G 7 24)), (2, .int a2), (3, .int a3)] := hl
  refine lv_aload_n hx hb dX0_answerOf_0 rfl (lv_at hl 1 rfl) ?_
  refine lv_ifnonnull (tgt := 7) hx hb dX0_answerOf_1 (by decide) ?_
  refine lv_aload_n hx hb dX0_answerOf_7 rfl (lv_at hl 0 rfl) ?_
  refine lv_iload_n hx hb dX0_answerOf_8 rfl (lv_at hl 2 rfl) ?_
  refine pf_X0_19 hc hI dX0_answerOf_9 (fun H locs hI => ?_)
  refine lv_aload_n hx hb dX0_answerOf_12 rfl (lv_at hl 0 rfl) ?_
  refine lv_aload_n hx hb dX0_answerOf_13 rfl (lv_at hl 1 rfl) ?_
  refine lv_iload_n hx hb dX0_answerOf_14 rfl (lv_at hl 2 rfl) ?_
  obtain ⟨q1, e2, h⟩ := z_bnd h
  refine iv_X0_23 (by decide) hc hI (c_X5_kindOf (by decide) e2) (z_room (by decide) (by decide)) hl.1 (Nat.le_of_ble_eq_true rfl) ⟨Nat.zero_le _, Nat.zero_le _⟩ dX0_answerOf_15 (fun H locs hI => ?_)
  obtain ⟨M3, h, hI⟩ := z_nM h hI
  refine pf_X0_29 hc hI dX0_answerOf_18 (fun H locs hI => ?_)
  refine lv_aload_n hx hb dX0_answerOf_21 rfl (lv_at hl 0 rfl) ?_
  refine lv_aload_n hx hb dX0_answerOf_22 rfl (lv_at hl 1 rfl) ?_
  refine lv_iload_n hx hb dX0_answerOf_23 rfl (lv_at hl 2 rfl) ?_
  obtain ⟨q4, e5, h⟩ := z_bnd h
  refine iv_X0_32 (by decide) hc hI (c_X5_noteOf (by decide) e5) (z_room (by decide) (by decide)) hl.1 (Nat.le_of_ble_eq_true rfl) ⟨Nat.zero_le _, Nat.zero_le _⟩ dX0_answerOf_24 (fun H locs hI => ?_)
  obtain ⟨M6, h, hI⟩ := z_nM h hI
  refine pf_X0_35 hc hI dX0_answerOf_27 (fun H locs hI => ?_)
  refine lv_aload_n hx hb dX0_answerOf_30 rfl (lv_at hl 0 rfl) ?_
  refine lv_aload_n hx hb dX0_answerOf_31 rfl (lv_at hl 1 rfl) ?_
  refine lv_iload_n hx hb dX0_answerOf_32 rfl (lv_at hl 2 rfl) ?_
  obtain ⟨q7, e8, h⟩ := z_bnd h
  refine iv_X0_38 (by decide) hc hI (c_X5_wornOf (by decide) e8) (z_room (by decide) (by decide)) hl.1 (Nat.le_of_ble_eq_true rfl) ⟨Nat.zero_le _, Nat.zero_le _⟩ dX0_answerOf_33 (fun H locs hI => ?_)
  obtain ⟨M9, h, hI⟩ := z_nM h hI
  refine pf_X0_41 hc hI dX0_answerOf_36 (fun H locs hI => ?_)
  refine lv_aload_n hx hb dX0_answerOf_39 rfl (lv_at hl 0 rfl) ?_
  refine lv_iconst (v := 0) hx hb dX0_answerOf_40 (by decide) ?_
  obtain ⟨M10, h, hI⟩ := z_nM h hI
  refine pf_X0_44 hc hI dX0_answerOf_41 (fun H locs hI => ?_)
  refine lv_iload_n hx hb dX0_answerOf_44 rfl (lv_at hl 3 rfl) ?_
  refine lv_if_ne (tgt := 56) hx hb dX0_answerOf_45 (by decide) (fun c11 => ?_) (fun c11 => ?_)
  · replace h := z_iff h c11
    refine lv_aload_n hx hb dX0_answerOf_56 rfl (lv_at hl 0 rfl) ?_
    refine lv_iconst (v := 0) hx hb dX0_answerOf_57 (by decide) ?_
    obtain ⟨q12, e13, h⟩ := z_bnd h
    refine iv_X0_50 hc hI (c_X0_markAsked (c_X0_body z_deep) e13) (z_room (by decide) (by decide)) hl.1 (Nat.le_of_ble_eq_true rfl) ⟨Nat.zero_le _, Nat.zero_le _⟩ dX0_answerOf_58 (fun H locs hI => ?_)
    obtain rfl := Option.some.inj h
    exact z_ri hc hI dX0_answerOf_61
  · replace h := z_ift h c11
    refine lv_aload_n hx hb dX0_answerOf_48 rfl (lv_at hl 0 rfl) ?_
    refine lv_iconst (v := 0) hx hb dX0_answerOf_49 (by decide) ?_
    obtain ⟨q14, e15, h⟩ := z_bnd h
    refine iv_X0_47 hc hI (c_X0_sizeAsked (c_X0_body z_deep) e15) (z_room (by decide) (by decide)) hl.1 (Nat.le_of_ble_eq_true rfl) ⟨Nat.zero_le _, Nat.zero_le _⟩ dX0_answerOf_50 (fun H locs hI => ?_)
    refine lv_goto (tgt := 61) hx hb dX0_answerOf_53 (by decide) ?_
    obtain rfl := Option.some.inj h
    exact z_ri hc hI dX0_answerOf_61
set_option maxRecDepth 100000 in
set_option maxHeartbeats 4000000 in
theorem c_X0_traceAt {G : z_G} {l : Launch} {a1 : Int32} {M : z_M} {out : Int32} (h : F_X0_traceAt a1 M = some out) : z_Met G l yX0_traceAt cX0_traceAt 2 (some .int) 1 [.ref (z_ad G 19 0), .int a1] M (some (.int out)) M := by
  unfold F_X0_traceAt at h
  refine z_met_of (by decide) rfl (Nat.le_of_ble_eq_true rfl) (fun p e s m below meth c ls hc hI hl => ?_)
  obtain ⟨⟨hx, hb, hml, hown, hts⟩, hr, hlk⟩ := id hc
  have hl : lv_has ls 2 [(0, .ref (z_ad G 19 0)), (1, .int a1)] := hl
  refine lv_iload_n hx hb dX0_traceAt_0 rfl (lv_at hl 1 rfl) ?_
  refine lv_if_lt (tgt := 27) hx hb dX0_traceAt_1 (by decide) (fun c1 => ?_) (fun c1 => ?_)
  · replace h := z_ift h c1
    refine lv_ldc (v := (-1000000)) hx hb hown (hts _ wd_4_130) dX0_traceAt_27 ?_
    obtain rfl := Option.some.inj h
    exact z_ri hc hI dX0_traceAt_29
  · replace h := z_iff h c1
    refine lv_iload_n hx hb dX0_traceAt_4 rfl (lv_at hl 1 rfl) ?_
    refine lv_aload_n hx hb dX0_traceAt_5 rfl (lv_at hl 0 rfl) ?_
    refine gf_X0_44 hc hI dX0_traceAt_6 ?_
    refine lv_icmp_ge (tgt := 27) hx hb dX0_traceAt_9 (by decide) (fun c2 => ?_) (fun c2 => ?_)
    · replace h := z_ift h c2
      refine lv_ldc (v := (-1000000)) hx hb hown (hts _ wd_4_130) dX0_traceAt_27 ?_
      obtain rfl := Option.some.inj h
      exact z_ri hc hI dX0_traceAt_29
    · replace h := z_iff h c2
      refine lv_iload_n hx hb dX0_traceAt_12 rfl (lv_at hl 1 rfl) ?_
      refine lv_bipush (v := 16) hx hb dX0_traceAt_13 (by decide) ?_
      refine lv_icmp_ge (tgt := 27) hx hb dX0_traceAt_15 (by decide) (fun c3 => ?_) (fun c3 => ?_)
      · replace h := z_ift h c3
        refine lv_ldc (v := (-1000000)) hx hb hown (hts _ wd_4_130) dX0_traceAt_27 ?_
        obtain rfl := Option.some.inj h
        exact z_ri hc hI dX0_traceAt_29
      · replace h := z_iff h c3
        refine lv_aload_n hx hb dX0_traceAt_18 rfl (lv_at hl 0 rfl) ?_
        refine gf_X0_11 hc hI dX0_traceAt_19 ?_
        refine lv_iload_n hx hb dX0_traceAt_22 rfl (lv_at hl 1 rfl) ?_
        obtain ⟨g4, h⟩ := z_grd_some h
        refine ld_k20 hc hI g4 dX0_traceAt_23 ?_
        refine lv_goto (tgt := 29) hx hb dX0_traceAt_24 (by decide) ?_
        obtain rfl := Option.some.inj h
        exact z_ri hc hI dX0_traceAt_29
end
