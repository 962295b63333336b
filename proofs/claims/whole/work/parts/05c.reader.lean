section
variable {p : Program} {l : Launch} {e : Env} {s : State} {m : MethodId} {args : Array Value} {below : List Frame} {meth : Method} {c : Code} {G : z_G}
set_option maxRecDepth 100000 in
set_option maxHeartbeats 4000000 in
theorem c_X2_add {G : z_G} {l : Launch} {a1 : Int32} {M : z_M} {out : (Int32 × z_M)} (h : F_X2_add a1 M = some out) : z_Met G l yX2_add cX2_add 2 (some .int) 1 [.ref (z_ad G 5 0), .int a1] M (some (.int out.1)) out.2 := by
  unfold F_X2_add at h
  refine z_met_of (by decide) rfl (Nat.le_of_ble_eq_true rfl) (fun p e s m below meth c ls hc hI hl => ?_)
  obtain ⟨⟨hx, hb, hml, hown, hts⟩, hr, hlk⟩ := id hc
  have hl : lv_has ls 2 [(0, .ref (z_ad G 5 0)), (1, .int a1)] := hl
  refine lv_aload_n hx hb dX2_add_0 rfl (lv_at hl 0 rfl) ?_
  refine gf_X2_22 hc hI dX2_add_1 ?_
  refine lv_bipush (v := 100) hx hb dX2_add_4 (by decide) ?_
  refine lv_icmp_lt (tgt := 12) hx hb dX2_add_6 (by decide) (fun c1 => ?_) (fun c1 => ?_)
  · replace h := z_ift h c1
    refine lv_aload_n hx hb dX2_add_12 rfl (lv_at hl 0 rfl) ?_
    refine gf_X2_11 hc hI dX2_add_13 ?_
    refine lv_aload_n hx hb dX2_add_16 rfl (lv_at hl 0 rfl) ?_
    refine gf_X2_22 hc hI dX2_add_17 ?_
    refine lv_iload_n hx hb dX2_add_20 rfl (lv_at hl 1 rfl) ?_
    obtain ⟨g2, h⟩ := z_grd_some h
    refine st_k6 hc hI g2 dX2_add_21 (fun H locs hI => ?_)
    refine lv_aload_n hx hb dX2_add_22 rfl (lv_at hl 0 rfl) ?_
    refine lv_dup hx hb dX2_add_23 rfl ?_
    obtain ⟨M3, h, hI⟩ := z_nM h hI
    refine gf_X2_22 hc hI dX2_add_24 ?_
    refine lv_iconst (v := 1) hx hb dX2_add_27 (by decide) ?_
    refine lv_iadd hx hb dX2_add_28 ?_
    refine pf_X2_22 hc hI dX2_add_29 (fun H locs hI => ?_)
    refine lv_aload_n hx hb dX2_add_32 rfl (lv_at hl 0 rfl) ?_
    obtain ⟨M4, h, hI⟩ := z_nM h hI
    refine gf_X2_22 hc hI dX2_add_33 ?_
    obtain rfl := Option.some.inj h
    exact z_ri hc hI dX2_add_36
  · replace h := z_iff h c1
    refine lv_ldc (v := (-1000003)) hx hb hown (hts _ wd_2_25) dX2_add_9 ?_
    obtain rfl := Option.some.inj h
    exact z_ri hc hI dX2_add_11
set_option maxRecDepth 100000 in
set_option maxHeartbeats 4000000 in
theorem c_X2_byteCount {G : z_G} {l : Launch} {M : z_M} {out : Int32} (h : F_X2_byteCount M = some out) : z_Met G l yX2_byteCount cX2_byteCount 1 (some .int) 1 [.ref (z_ad G 5 0)] M (some (.int out)) M := by
  unfold F_X2_byteCount at h
  refine z_met_of (by decide) rfl (Nat.le_of_ble_eq_true rfl) (fun p e s m below meth c ls hc hI hl => ?_)
  obtain ⟨⟨hx, hb, hml, hown, hts⟩, hr, hlk⟩ := id hc
  have hl : lv_has ls 1 [(0, .ref (z_ad G 5 0))] := hl
  refine lv_aload_n hx hb dX2_byteCount_0 rfl (lv_at hl 0 rfl) ?_
  refine gf_X2_22 hc hI dX2_byteCount_1 ?_
  obtain rfl := Option.some.inj h
  exact z_ri hc hI dX2_byteCount_4
set_option maxRecDepth 100000 in
set_option maxHeartbeats 4000000 in
theorem c_X2_faultNumber {G : z_G} {l : Launch} {M : z_M} {out : Int32} (h : F_X2_faultNumber M = some out) : z_Met G l yX2_faultNumber cX2_faultNumber 1 (some .int) 1 [.ref (z_ad G 5 0)] M (some (.int out)) M := by
  unfold F_X2_faultNumber at h
  refine z_met_of (by decide) rfl (Nat.le_of_ble_eq_true rfl) (fun p e s m below meth c ls hc hI hl => ?_)
  obtain ⟨⟨hx, hb, hml, hown, hts⟩, hr, hlk⟩ := id hc
  have hl : lv_has ls 1 [(0, .ref (z_ad G 5 0))] := hl
  refine lv_aload_n hx hb dX2_faultNumber_0 rfl (lv_at hl 0 rfl) ?_
  refine gf_X2_27 hc hI dX2_faultNumber_1 ?_
  obtain rfl := Option.some.inj h
  exact z_ri hc hI dX2_faultNumber_4
set_option maxRecDepth 100000 in
set_option maxHeartbeats 4000000 in
theorem c_X2_faultPlace {G : z_G} {l : Launch} {M : z_M} {out : Int32} (h : F_X2_faultPlace M = some out) : z_Met G l yX2_faultPlace cX2_faultPlace 1 (some .int) 1 [.ref (z_ad G 5 0)] M (some (.int out)) M := by
  unfold F_X2_faultPlace at h
  refine z_met_of (by decide) rfl (Nat.le_of_ble_eq_true rfl) (fun p e s m below meth c ls hc hI hl => ?_)
  obtain ⟨⟨hx, hb, hml, hown, hts⟩, hr, hlk⟩ := id hc
  have hl : lv_has ls 1 [(0, .ref (z_ad G 5 0))] := hl
  refine lv_aload_n hx hb dX2_faultPlace_0 rfl (lv_at hl 0 rfl) ?_
  refine gf_X2_30 hc hI dX2_faultPlace_1 ?_
  obtain rfl := Option.some.inj h
  exact z_ri hc hI dX2_faultPlace_4
set_option maxRecDepth 100000 in
set_option maxHeartbeats 4000000 in
theorem c_X2_fail {G : z_G} {l : Launch} {a1 : Int32} {M : z_M} {out : (Int32 × z_M)} (h : F_X2_fail a1 M = some out) : z_Met G l yX2_fail cX2_fail 2 (some .boolean) 1 [.ref (z_ad G 5 0), .int a1] M (some (.int out.1)) out.2 := by
  unfold F_X2_fail at h
  refine z_met_of (by decide) rfl (Nat.le_of_ble_eq_true rfl) (fun p e s m below meth c ls hc hI hl => ?_)
  obtain ⟨⟨hx, hb, hml, hown, hts⟩, hr, hlk⟩ := id hc
  have hl : lv_has ls 2 [(0, .ref (z_ad G 5 0)), (1, .int a1)] := hl
  refine lv_aload_n hx hb dX2_fail_0 rfl (lv_at hl 0 rfl) ?_
  refine lv_iload_n hx hb dX2_fail_1 rfl (lv_at hl 1 rfl) ?_
  refine pf_X2_27 hc hI dX2_fail_2 (fun H locs hI => ?_)
  refine lv_aload_n hx hb dX2_fail_5 rfl (lv_at hl 0 rfl) ?_
  refine lv_aload_n hx hb dX2_fail_6 rfl (lv_at hl 0 rfl) ?_
  obtain ⟨M1, h, hI⟩ := z_nM h hI
  refine gf_X2_33 hc hI dX2_fail_7 ?_
  refine pf_X2_30 hc hI dX2_fail_10 (fun H locs hI => ?_)
  refine lv_iconst (v := 0) hx hb dX2_fail_13 (by decide) ?_
  obtain rfl := Option.some.inj h
  exact z_rz (x := 0) hc hI (by decide) dX2_fail_14
set_option maxRecDepth 100000 in
set_option maxHeartbeats 4000000 in
theorem w_X2_readNumber_b96 (hc : z_C p s m args meth c RX2 cX2_readNumber 6 (some .int)) {out : (Int32 × z_M)} (M : z_M) (H : Heap) (locs : List Loc) (ls : Array Slot) (h : F_X2_readNumber_b96 M = some out) (hI : z_I G s M H locs) (hl : lv_has ls 6 [(0, .ref (z_ad G 5 0))]) : W p l e (z_rm 2) s m args below meth c H locs 0 0 (MQ below (z_Q G (some (.int out.1)) out.2) args s 0 0 (z_A G)) (F0 m 96 ls []) := by
  obtain ⟨⟨hx, hb, hml, hown, hts⟩, hr, hlk⟩ := id hc
  unfold F_X2_readNumber_b96 at h
  refine lv_aload_n hx hb dX2_readNumber_96 rfl (lv_at hl 0 rfl) ?_
  refine lv_iconst (v := 1) hx hb dX2_readNumber_97 (by decide) ?_
  obtain ⟨q4, e5, h⟩ := z_bnd h
  refine iv_X2_66 hc hI (c_X2_fail e5) (z_room (by decide) (by decide)) hl.1 (Nat.le_of_ble_eq_true rfl) ⟨Nat.zero_le _, Nat.zero_le _⟩ dX2_readNumber_98 (fun H locs hI => ?_)
  refine lv_pop hx hb dX2_readNumber_101 rfl ?_
  refine lv_iconst (v := (-1)) hx hb dX2_readNumber_102 (by decide) ?_
  obtain rfl := Option.some.inj h
  exact z_ri hc hI dX2_readNumber_103
set_option maxRecDepth 100000 in
set_option maxHeartbeats 4000000 in
theorem w_X2_readNumber_b116 (hc : z_C p s m args meth c RX2 cX2_readNumber 6 (some .int)) {out : (Int32 × z_M)} (M : z_M) (H : Heap) (locs : List Loc) (ls : Array Slot) (h : F_X2_readNumber_b116 M = some out) (hI : z_I G s M H locs) (hl : lv_has ls 6 [(0, .ref (z_ad G 5 0))]) : W p l e (z_rm 2) s m args below meth c H locs 0 0 (MQ below (z_Q G (some (.int out.1)) out.2) args s 0 0 (z_A G)) (F0 m 116 ls []) := by
  obtain ⟨⟨hx, hb, hml, hown, hts⟩, hr, hlk⟩ := id hc
  unfold F_X2_readNumber_b116 at h
  refine lv_aload_n hx hb dX2_readNumber_116 rfl (lv_at hl 0 rfl) ?_
  refine lv_iconst (v := 2) hx hb dX2_readNumber_117 (by decide) ?_
  obtain ⟨q8, e9, h⟩ := z_bnd h
  refine iv_X2_66 hc hI (c_X2_fail e9) (z_room (by decide) (by decide)) hl.1 (Nat.le_of_ble_eq_true rfl) ⟨Nat.zero_le _, Nat.zero_le _⟩ dX2_readNumber_118 (fun H locs hI => ?_)
  refine lv_pop hx hb dX2_readNumber_121 rfl ?_
  refine lv_iconst (v := (-1)) hx hb dX2_readNumber_122 (by decide) ?_
  obtain rfl := Option.some.inj h
  exact z_ri hc hI dX2_readNumber_123
set_option maxRecDepth 100000 in
set_option maxHeartbeats 4000000 in
theorem w_X2_readNumber_b86 (hc : z_C p s m args meth c RX2 cX2_readNumber 6 (some .int)) {out : (Int32 × z_M)} (v1 : Int32) (v2 : Int32) (v3 : Int32) (v4 : Int32) (M : z_M) (H : Heap) (locs : List Loc) (ls : Array Slot) (h : F_X2_readNumber_b86 v1 v2 v3 v4 M = some out) (hI : z_I G s M H locs) (hl : lv_has ls 6 [(0, .ref (z_ad G 5 0)), (1, .int v1), (2, .int v2), (3, .int v3), (4, .int v4)]) : W p l e (z_rm 2) s m args below meth c H locs 0 0 (MQ below (z_Q G (some (.int out.1)) out.2) args s 0 0 (z_A G)) (F0 m 86 ls []) := by
  obtain ⟨⟨hx, hb, hml, hown, hts⟩, hr, hlk⟩ := id hc
  unfold F_X2_readNumber_b86 at h
  refine lv_iload_n hx hb dX2_readNumber_86 rfl (lv_at hl 3 rfl) ?_
  refine lv_iconst (v := 1) hx hb dX2_readNumber_87 (by decide) ?_
  refine lv_icmp_lt (tgt := 96) hx hb dX2_readNumber_88 (by decide) (fun c3 => ?_) (fun c3 => ?_)
  · replace h := z_ift h c3
    exact w_X2_readNumber_b96 hc _ _ _ _ h hI (lv_sub hl [0] rfl)
  · replace h := z_iff h c3
    refine lv_iload_n hx hb dX2_readNumber_91 rfl (lv_at hl 3 rfl) ?_
    refine lv_iconst (v := 2) hx hb dX2_readNumber_92 (by decide) ?_
    refine lv_icmp_le (tgt := 104) hx hb dX2_readNumber_93 (by decide) (fun c6 => ?_) (fun c6 => ?_)
    · replace h := z_ift h c6
      refine lv_iload hx hb dX2_readNumber_104 (lv_at hl 4 rfl) ?_
      refine lv_iload_n hx hb dX2_readNumber_106 rfl (lv_at hl 1 rfl) ?_
      refine lv_icmp_lt (tgt := 116) hx hb dX2_readNumber_107 (by decide) (fun c7 => ?_) (fun c7 => ?_)
      · replace h := z_ift h c7
        exact w_X2_readNumber_b116 hc _ _ _ _ h hI (lv_sub hl [0] rfl)
      · replace h := z_iff h c7
        refine lv_iload hx hb dX2_readNumber_110 (lv_at hl 4 rfl) ?_
        refine lv_iload_n hx hb dX2_readNumber_112 rfl (lv_at hl 2 rfl) ?_
        refine lv_icmp_le (tgt := 124) hx hb dX2_readNumber_113 (by decide) (fun c10 => ?_) (fun c10 => ?_)
        · replace h := z_ift h c10
          refine lv_aload_n hx hb dX2_readNumber_124 rfl (lv_at hl 0 rfl) ?_
          refine lv_dup hx hb dX2_readNumber_125 rfl ?_
          refine gf_X2_33 hc hI dX2_readNumber_126 ?_
          refine lv_iload_n hx hb dX2_readNumber_129 rfl (lv_at hl 3 rfl) ?_
          refine lv_iadd hx hb dX2_readNumber_130 ?_
          refine pf_X2_33 hc hI dX2_readNumber_131 (fun H locs hI => ?_)
          refine lv_iload hx hb dX2_readNumber_134 (lv_at hl 4 rfl) ?_
          obtain rfl := Option.some.inj h
          exact z_ri hc hI dX2_readNumber_136
        · replace h := z_iff h c10
          exact w_X2_readNumber_b116 hc _ _ _ _ h hI (lv_sub hl [0] rfl)
    · replace h := z_iff h c6
      exact w_X2_readNumber_b96 hc _ _ _ _ h hI (lv_sub hl [0] rfl)
set_option maxRecDepth 100000 in
set_option maxHeartbeats 4000000 in
theorem w_X2_readNumber_b11 (hc : z_C p s m args meth c RX2 cX2_readNumber 6 (some .int)) {out : (Int32 × z_M)} : ∀ (n : Nat) (v1 : Int32) (v2 : Int32) (v3 : Int32) (v4 : Int32) (v5 : Int32) (M : z_M) (H : Heap) (locs : List Loc) (ls : Array Slot) (h : F_X2_readNumber_b11 n v1 v2 v3 v4 v5 M = some out) (hI : z_I G s M H locs) (hl : lv_has ls 6 [(0, .ref (z_ad G 5 0)), (1, .int v1), (2, .int v2), (3, .int v3), (4, .int v4), (5, .int v5)]), W p l e (z_rm 2) s m args below meth c H locs 0 0 (MQ below (z_Q G (some (.int out.1)) out.2) args s 0 0 (z_A G)) (F0 m 11 ls []) := by
  obtain ⟨⟨hx, hb, hml, hown, hts⟩, hr, hlk⟩ := id hc
  intro n
  induction n with
  | zero => intro v1 v2 v3 v4 v5 M H locs ls h; cases h
  | succ n ih =>
    intro v1 v2 v3 v4 v5 M H locs ls h hI hl
    rw [F_X2_readNumber_b11] at h
    refine lv_iload hx hb dX2_readNumber_11 (lv_at hl 5 rfl) ?_
    refine lv_aload_n hx hb dX2_readNumber_13 rfl (lv_at hl 0 rfl) ?_
    refine gf_X2_22 hc hI dX2_readNumber_14 ?_
    refine lv_icmp_ge (tgt := 86) hx hb dX2_readNumber_17 (by decide) (fun c2 => ?_) (fun c2 => ?_)
    · replace h := z_ift h c2
      exact w_X2_readNumber_b86 hc v1 v2 v3 v4 _ _ _ _ h hI (lv_sub hl [0, 1, 2, 3, 4] rfl)
    · replace h := z_iff h c2
      refine lv_iload hx hb dX2_readNumber_20 (lv_at hl 5 rfl) ?_
      refine lv_bipush (v := 100) hx hb dX2_readNumber_22 (by decide) ?_
      refine lv_icmp_ge (tgt := 86) hx hb dX2_readNumber_24 (by decide) (fun c11 => ?_) (fun c11 => ?_)
      · replace h := z_ift h c11
        exact w_X2_readNumber_b86 hc v1 v2 v3 v4 _ _ _ _ h hI (lv_sub hl [0, 1, 2, 3, 4] rfl)
      · replace h := z_iff h c11
        refine lv_iload_n hx hb dX2_readNumber_27 rfl (lv_at hl 3 rfl) ?_
        refine lv_iconst (v := 3) hx hb dX2_readNumber_28 (by decide) ?_
        refine lv_icmp_ge (tgt := 86) hx hb dX2_readNumber_29 (by decide) (fun c12 => ?_) (fun c12 => ?_)
        · replace h := z_ift h c12
          exact w_X2_readNumber_b86 hc v1 v2 v3 v4 _ _ _ _ h hI (lv_sub hl [0, 1, 2, 3, 4] rfl)
        · replace h := z_iff h c12
          refine lv_aload_n hx hb dX2_readNumber_32 rfl (lv_at hl 0 rfl) ?_
          refine gf_X2_11 hc hI dX2_readNumber_33 ?_
          refine lv_iload hx hb dX2_readNumber_36 (lv_at hl 5 rfl) ?_
          obtain ⟨g13, h⟩ := z_grd_some h
          refine ld_k6 hc hI g13 dX2_readNumber_38 ?_
          refine lv_bipush (v := 48) hx hb dX2_readNumber_39 (by decide) ?_
          refine lv_icmp_lt (tgt := 86) hx hb dX2_readNumber_41 (by decide) (fun c14 => ?_) (fun c14 => ?_)
          · replace h := z_ift h c14
            exact w_X2_readNumber_b86 hc v1 v2 v3 v4 _ _ _ _ h hI (lv_sub hl [0, 1, 2, 3, 4] rfl)
          · replace h := z_iff h c14
            refine lv_aload_n hx hb dX2_readNumber_44 rfl (lv_at hl 0 rfl) ?_
            refine gf_X2_11 hc hI dX2_readNumber_45 ?_
            refine lv_iload hx hb dX2_readNumber_48 (lv_at hl 5 rfl) ?_
            obtain ⟨g15, h⟩ := z_grd_some h
            refine ld_k6 hc hI g15 dX2_readNumber_50 ?_
            refine lv_bipush (v := 57) hx hb dX2_readNumber_51 (by decide) ?_
            refine lv_icmp_le (tgt := 59) hx hb dX2_readNumber_53 (by decide) (fun c16 => ?_) (fun c16 => ?_)
            · replace h := z_ift h c16
              refine lv_iload hx hb dX2_readNumber_59 (lv_at hl 4 rfl) ?_
              refine lv_bipush (v := 10) hx hb dX2_readNumber_61 (by decide) ?_
              refine lv_imul hx hb dX2_readNumber_63 ?_
              refine lv_aload_n hx hb dX2_readNumber_64 rfl (lv_at hl 0 rfl) ?_
              refine gf_X2_11 hc hI dX2_readNumber_65 ?_
              refine lv_iload hx hb dX2_readNumber_68 (lv_at hl 5 rfl) ?_
              obtain ⟨g17, h⟩ := z_grd_some h
              refine ld_k6 hc hI g17 dX2_readNumber_70 ?_
              refine lv_iadd hx hb dX2_readNumber_71 ?_
              refine lv_bipush (v := 48) hx hb dX2_readNumber_72 (by decide) ?_
              refine lv_isub hx hb dX2_readNumber_74 ?_
              refine z_nI h (fun x18 h => ?_)
              refine lv_istore (lv' := [(4, .int x18), (0, .ref (z_ad G 5 0)), (1, .int v1), (2, .int v2), (3, .int v3), (5, .int v5)]) hx hb dX2_readNumber_75 hl (by decide) rfl (fun ls hl => ?_)
              refine lv_iinc (v := v3 + 1) (lv' := [(3, .int (v3 + 1)), (4, .int x18), (0, .ref (z_ad G 5 0)), (1, .int v1), (2, .int v2), (5, .int v5)]) hx hb dX2_readNumber_77 hl (k := 4) rfl rfl (by decide) rfl (fun ls hl => ?_)
              refine lv_iinc (v := v5 + 1) (lv' := [(5, .int (v5 + 1)), (3, .int (v3 + 1)), (4, .int x18), (0, .ref (z_ad G 5 0)), (1, .int v1), (2, .int v2)]) hx hb dX2_readNumber_80 hl (k := 5) rfl rfl (by decide) rfl (fun ls hl => ?_)
              refine lv_goto (tgt := 11) hx hb dX2_readNumber_83 (by decide) ?_
              exact ih v1 v2 (v3 + 1) x18 (v5 + 1) _ _ _ _ h hI (lv_sub hl [3, 4, 5, 1, 2, 0] rfl)
            · replace h := z_iff h c16
              refine lv_goto (tgt := 86) hx hb dX2_readNumber_56 (by decide) ?_
              exact w_X2_readNumber_b86 hc v1 v2 v3 v4 _ _ _ _ h hI (lv_sub hl [0, 1, 2, 3, 4] rfl)
set_option maxRecDepth 100000 in
set_option maxHeartbeats 4000000 in
theorem c_X2_readNumber {G : z_G} {l : Launch} {a1 : Int32} {a2 : Int32} {M : z_M} {out : (Int32 × z_M)} (h : F_X2_readNumber a1 a2 M = some out) : z_Met G l yX2_readNumber cX2_readNumber 6 (some .int) 2 [.ref (z_ad G 5 0), .int a1, .int a2] M (some (.int out.1)) out.2 := by
  unfold F_X2_readNumber at h
  refine z_met_of (by decide) rfl (Nat.le_of_ble_eq_true rfl) (fun p e s m below meth c ls hc hI hl => ?_)
  obtain ⟨⟨hx, hb, hml, hown, hts⟩, hr, hlk⟩ := id hc
  have hl : lv_has ls 6 [(0, .ref (z_ad G 5 0)), (1, .int a1), (2, .int a2)] := hl
  refine lv_iconst (v := 0) hx hb dX2_readNumber_0 (by decide) ?_
  refine lv_istore_n (lv' := [(3, .int 0), (0, .ref (z_ad G 5 0)), (1, .int a1), (2, .int a2)]) hx hb dX2_readNumber_1 rfl hl (by decide) rfl (fun ls hl => ?_)
  refine lv_iconst (v := 0) hx hb dX2_readNumber_2 (by decide) ?_
  refine lv_istore (lv' := [(4, .int 0), (3, .int 0), (0, .ref (z_ad G 5 0)), (1, .int a1), (2, .int a2)]) hx hb dX2_readNumber_3 hl (by decide) rfl (fun ls hl => ?_)
  refine lv_aload_n hx hb dX2_readNumber_5 rfl (lv_at hl 2 rfl) ?_
  refine gf_X2_33 hc hI dX2_readNumber_6 ?_
  refine z_nI h (fun x1 h => ?_)
  refine lv_istore (lv' := [(5, .int x1), (4, .int 0), (3, .int 0), (0, .ref (z_ad G 5 0)), (1, .int a1), (2, .int a2)]) hx hb dX2_readNumber_9 hl (by decide) rfl (fun ls hl => ?_)
  exact w_X2_readNumber_b11 hc _ a1 a2 0 0 x1 _ _ _ _ h hI (lv_sub hl [3, 4, 5, 2, 1, 0] rfl)
set_option maxRecDepth 100000 in
set_option maxHeartbeats 4000000 in
theorem c_X2_letter {G : z_G} {l : Launch} {M : z_M} {out : Int32} (h : F_X2_letter M = some out) : z_Met G l yX2_letter cX2_letter 1 (some .int) 1 [.ref (z_ad G 5 0)] M (some (.int out)) M := by
  unfold F_X2_letter at h
  refine z_met_of (by decide) rfl (Nat.le_of_ble_eq_true rfl) (fun p e s m below meth c ls hc hI hl => ?_)
  obtain ⟨⟨hx, hb, hml, hown, hts⟩, hr, hlk⟩ := id hc
  have hl : lv_has ls 1 [(0, .ref (z_ad G 5 0))] := hl
  refine lv_aload_n hx hb dX2_letter_0 rfl (lv_at hl 0 rfl) ?_
  refine gf_X2_33 hc hI dX2_letter_1 ?_
  refine lv_if_lt (tgt := 39) hx hb dX2_letter_4 (by decide) (fun c1 => ?_) (fun c1 => ?_)
  · replace h := z_ift h c1
    refine lv_ldc (v := (-1000000)) hx hb hown (hts _ wd_2_46) dX2_letter_39 ?_
    obtain rfl := Option.some.inj h
    exact z_ri hc hI dX2_letter_41
  · replace h := z_iff h c1
    refine lv_aload_n hx hb dX2_letter_7 rfl (lv_at hl 0 rfl) ?_
    refine gf_X2_33 hc hI dX2_letter_8 ?_
    refine lv_aload_n hx hb dX2_letter_11 rfl (lv_at hl 0 rfl) ?_
    refine gf_X2_22 hc hI dX2_letter_12 ?_
    refine lv_icmp_ge (tgt := 39) hx hb dX2_letter_15 (by decide) (fun c2 => ?_) (fun c2 => ?_)
    · replace h := z_ift h c2
      refine lv_ldc (v := (-1000000)) hx hb hown (hts _ wd_2_46) dX2_letter_39 ?_
      obtain rfl := Option.some.inj h
      exact z_ri hc hI dX2_letter_41
    · replace h := z_iff h c2
      refine lv_aload_n hx hb dX2_letter_18 rfl (lv_at hl 0 rfl) ?_
      refine gf_X2_33 hc hI dX2_letter_19 ?_
      refine lv_bipush (v := 100) hx hb dX2_letter_22 (by decide) ?_
      refine lv_icmp_ge (tgt := 39) hx hb dX2_letter_24 (by decide) (fun c3 => ?_) (fun c3 => ?_)
      · replace h := z_ift h c3
        refine lv_ldc (v := (-1000000)) hx hb hown (hts _ wd_2_46) dX2_letter_39 ?_
        obtain rfl := Option.some.inj h
        exact z_ri hc hI dX2_letter_41
      · replace h := z_iff h c3
        refine lv_aload_n hx hb dX2_letter_27 rfl (lv_at hl 0 rfl) ?_
        refine gf_X2_11 hc hI dX2_letter_28 ?_
        refine lv_aload_n hx hb dX2_letter_31 rfl (lv_at hl 0 rfl) ?_
        refine gf_X2_33 hc hI dX2_letter_32 ?_
        obtain ⟨g4, h⟩ := z_grd_some h
        refine ld_k6 hc hI g4 dX2_letter_35 ?_
        refine lv_goto (tgt := 41) hx hb dX2_letter_36 (by decide) ?_
        obtain rfl := Option.some.inj h
        exact z_ri hc hI dX2_letter_41
set_option maxRecDepth 100000 in
set_option maxHeartbeats 4000000 in
theorem c_X2_readSign {G : z_G} {l : Launch} {a1 : Int32} {M : z_M} {out : (Int32 × z_M)} (h : F_X2_readSign a1 M = some out) : z_Met G l yX2_readSign cX2_readSign 2 (some .boolean) 2 [.ref (z_ad G 5 0), .int a1] M (some (.int out.1)) out.2 := by
  unfold F_X2_readSign at h
  refine z_met_of (by decide) rfl (Nat.le_of_ble_eq_true rfl) (fun p e s m below meth c ls hc hI hl => ?_)
  obtain ⟨⟨hx, hb, hml, hown, hts⟩, hr, hlk⟩ := id hc
  have hl : lv_has ls 2 [(0, .ref (z_ad G 5 0)), (1, .int a1)] := hl
  refine lv_aload_n hx hb dX2_readSign_0 rfl (lv_at hl 0 rfl) ?_
  obtain ⟨q1, e2, h⟩ := z_bnd h
  refine iv_X2_58 hc hI (c_X2_letter e2) (z_room (by decide) (by decide)) hl.1 (Nat.le_of_ble_eq_true rfl) ⟨Nat.zero_le _, Nat.zero_le _⟩ dX2_readSign_1 (fun H locs hI => ?_)
  refine lv_iload_n hx hb dX2_readSign_4 rfl (lv_at hl 1 rfl) ?_
  refine lv_icmp_eq (tgt := 14) hx hb dX2_readSign_5 (by decide) (fun c3 => ?_) (fun c3 => ?_)
  · replace h := z_ift h c3
    refine lv_aload_n hx hb dX2_readSign_14 rfl (lv_at hl 0 rfl) ?_
    refine lv_dup hx hb dX2_readSign_15 rfl ?_
    refine gf_X2_33 hc hI dX2_readSign_16 ?_
    refine lv_iconst (v := 1) hx hb dX2_readSign_19 (by decide) ?_
    refine lv_iadd hx hb dX2_readSign_20 ?_
    refine pf_X2_33 hc hI dX2_readSign_21 (fun H locs hI => ?_)
    refine lv_iconst (v := 1) hx hb dX2_readSign_24 (by decide) ?_
    obtain rfl := Option.some.inj h
    exact z_rz (x := 1) hc hI (by decide) dX2_readSign_25
  · replace h := z_iff h c3
    refine lv_aload_n hx hb dX2_readSign_8 rfl (lv_at hl 0 rfl) ?_
    refine lv_iconst (v := 1) hx hb dX2_readSign_9 (by decide) ?_
    obtain ⟨q4, e5, h⟩ := z_bnd h
    refine iv_X2_66 hc hI (c_X2_fail e5) (z_room (by decide) (by decide)) hl.1 (Nat.le_of_ble_eq_true rfl) ⟨Nat.zero_le _, Nat.zero_le _⟩ dX2_readSign_10 (fun H locs hI => ?_)
    obtain ⟨g6, h⟩ := z_grd_some h
    obtain rfl := Option.some.inj h
    exact z_rz hc hI g6 dX2_readSign_13
set_option maxRecDepth 100000 in
set_option maxHeartbeats 4000000 in
theorem c_X2_readLaw {G : z_G} {l : Launch} {M : z_M} {out : (Int32 × z_M)} (h : F_X2_readLaw M = some out) : z_Met G l yX2_readLaw cX2_readLaw 3 (some .boolean) 3 [.ref (z_ad G 5 0)] M (some (.int out.1)) out.2 := by
  unfold F_X2_readLaw at h
  refine z_met_of (by decide) rfl (Nat.le_of_ble_eq_true rfl) (fun p e s m below meth c ls hc hI hl => ?_)
  obtain ⟨⟨hx, hb, hml, hown, hts⟩, hr, hlk⟩ := id hc
  have hl : lv_has ls 3 [(0, .ref (z_ad G 5 0))] := hl
  refine lv_aload_n hx hb dX2_readLaw_0 rfl (lv_at hl 0 rfl) ?_
  refine lv_bipush (v := 116) hx hb dX2_readLaw_1 (by decide) ?_
  obtain ⟨q1, e2, h⟩ := z_bnd h
  refine iv_X2_46 hc hI (c_X2_readSign e2) (z_room (by decide) (by decide)) hl.1 (Nat.le_of_ble_eq_true rfl) ⟨Nat.zero_le _, Nat.zero_le _⟩ dX2_readLaw_3 (fun H locs hI => ?_)
  refine lv_if_ne (tgt := 11) hx hb dX2_readLaw_6 (by decide) (fun c3 => ?_) (fun c3 => ?_)
  · replace h := z_iff h c3
    refine lv_aload_n hx hb dX2_readLaw_11 rfl (lv_at hl 0 rfl) ?_
    refine lv_iconst (v := 0) hx hb dX2_readLaw_12 (by decide) ?_
    refine lv_bipush (v := 15) hx hb dX2_readLaw_13 (by decide) ?_
    obtain ⟨q4, e5, h⟩ := z_bnd h
    refine iv_X2_50 hc hI (c_X2_readNumber e5) (z_room (by decide) (by decide)) hl.1 (Nat.le_of_ble_eq_true rfl) ⟨Nat.zero_le _, Nat.zero_le _⟩ dX2_readLaw_15 (fun H locs hI => ?_)
    refine lv_istore_n (lv' := [(1, .int q4.1), (0, .ref (z_ad G 5 0))]) hx hb dX2_readLaw_18 rfl hl (by decide) rfl (fun ls hl => ?_)
    refine lv_iload_n hx hb dX2_readLaw_19 rfl (lv_at hl 0 rfl) ?_
    refine lv_iconst (v := (-1)) hx hb dX2_readLaw_20 (by decide) ?_
    refine lv_icmp_eq (tgt := 33) hx hb dX2_readLaw_21 (by decide) (fun c6 => ?_) (fun c6 => ?_)
    · replace h := z_ift h c6
      refine lv_iconst (v := 0) hx hb dX2_readLaw_33 (by decide) ?_
      obtain rfl := Option.some.inj h
      exact z_rz (x := 0) hc hI (by decide) dX2_readLaw_34
    · replace h := z_iff h c6
      refine lv_aload_n hx hb dX2_readLaw_24 rfl (lv_at hl 1 rfl) ?_
      refine lv_bipush (v := 44) hx hb dX2_readLaw_25 (by decide) ?_
      obtain ⟨q7, e8, h⟩ := z_bnd h
      refine iv_X2_46 hc hI (c_X2_readSign e8) (z_room (by decide) (by decide)) hl.1 (Nat.le_of_ble_eq_true rfl) ⟨Nat.zero_le _, Nat.zero_le _⟩ dX2_readLaw_27 (fun H locs hI => ?_)
      refine lv_if_ne (tgt := 35) hx hb dX2_readLaw_30 (by decide) (fun c9 => ?_) (fun c9 => ?_)
      · replace h := z_iff h c9
        refine lv_aload_n hx hb dX2_readLaw_35 rfl (lv_at hl 1 rfl) ?_
        refine lv_iconst (v := 0) hx hb dX2_readLaw_36 (by decide) ?_
        refine lv_bipush (v := 9) hx hb dX2_readLaw_37 (by decide) ?_
        obtain ⟨q10, e11, h⟩ := z_bnd h
        refine iv_X2_50 hc hI (c_X2_readNumber e11) (z_room (by decide) (by decide)) hl.1 (Nat.le_of_ble_eq_true rfl) ⟨Nat.zero_le _, Nat.zero_le _⟩ dX2_readLaw_39 (fun H locs hI => ?_)
        refine lv_istore_n (lv' := [(2, .int q10.1), (1, .int q4.1), (0, .ref (z_ad G 5 0))]) hx hb dX2_readLaw_42 rfl hl (by decide) rfl (fun ls hl => ?_)
        refine lv_iload_n hx hb dX2_readLaw_43 rfl (lv_at hl 0 rfl) ?_
        refine lv_iconst (v := (-1)) hx hb dX2_readLaw_44 (by decide) ?_
        refine lv_icmp_eq (tgt := 57) hx hb dX2_readLaw_45 (by decide) (fun c12 => ?_) (fun c12 => ?_)
        · replace h := z_ift h c12
          refine lv_iconst (v := 0) hx hb dX2_readLaw_57 (by decide) ?_
          obtain rfl := Option.some.inj h
          exact z_rz (x := 0) hc hI (by decide) dX2_readLaw_58
        · replace h := z_iff h c12
          refine lv_aload_n hx hb dX2_readLaw_48 rfl (lv_at hl 2 rfl) ?_
          refine lv_bipush (v := 59) hx hb dX2_readLaw_49 (by decide) ?_
          obtain ⟨q13, e14, h⟩ := z_bnd h
          refine iv_X2_46 hc hI (c_X2_readSign e14) (z_room (by decide) (by decide)) hl.1 (Nat.le_of_ble_eq_true rfl) ⟨Nat.zero_le _, Nat.zero_le _⟩ dX2_readLaw_51 (fun H locs hI => ?_)
          refine lv_if_ne (tgt := 59) hx hb dX2_readLaw_54 (by decide) (fun c15 => ?_) (fun c15 => ?_)
          · replace h := z_iff h c15
            refine lv_aload_n hx hb dX2_readLaw_59 rfl (lv_at hl 2 rfl) ?_
            refine gf_X2_18 hc hI dX2_readLaw_60 ?_
            refine lv_iload_n hx hb dX2_readLaw_63 rfl (lv_at hl 1 rfl) ?_
            refine lv_iload_n hx hb dX2_readLaw_64 rfl (lv_at hl 0 rfl) ?_
            obtain ⟨q16, e17, h⟩ := z_bnd h
            refine iv_X2_54 (by decide) hc hI (c_X5_begin (by decide) e17) (z_room (by decide) (by decide)) hl.1 (Nat.le_of_ble_eq_true rfl) ⟨Nat.zero_le _, Nat.zero_le _⟩ dX2_readLaw_65 (fun H locs hI => ?_)
            refine lv_iconst (v := 1) hx hb dX2_readLaw_68 (by decide) ?_
            obtain rfl := Option.some.inj h
            exact z_rz (x := 1) hc hI (by decide) dX2_readLaw_69
          · replace h := z_ift h c15
            refine lv_iconst (v := 0) hx hb dX2_readLaw_57 (by decide) ?_
            obtain rfl := Option.some.inj h
            exact z_rz (x := 0) hc hI (by decide) dX2_readLaw_58
      · replace h := z_ift h c9
        refine lv_iconst (v := 0) hx hb dX2_readLaw_33 (by decide) ?_
        obtain rfl := Option.some.inj h
        exact z_rz (x := 0) hc hI (by decide) dX2_readLaw_34
  · replace h := z_ift h c3
    refine lv_iconst (v := 0) hx hb dX2_readLaw_9 (by decide) ?_
    obtain rfl := Option.some.inj h
    exact z_rz (x := 0) hc hI (by decide) dX2_readLaw_10
set_option maxRecDepth 100000 in
set_option maxHeartbeats 4000000 in
theorem c_X2_kindOfSort {G : z_G} {l : Launch} {a1 : Int32} {M : z_M} {out : Int32} (h : F_X2_kindOfSort a1 M = some out) : z_Met G l yX2_kindOfSort cX2_kindOfSort 1 (some .int) 1 [.int a1] M (some (.int out)) M := by
  unfold F_X2_kindOfSort at h
  refine z_met_of (by decide) rfl (Nat.le_of_ble_eq_true rfl) (fun p e s m below meth c ls hc hI hl => ?_)
  obtain ⟨⟨hx, hb, hml, hown, hts⟩, hr, hlk⟩ := id hc
  have hl : lv_has ls 1 [(0, .int a1)] := hl
  refine lv_iload_n hx hb dX2_kindOfSort_0 rfl (lv_at hl 0 rfl) ?_
  by_cases c1 : a1 = 102
  · replace h := z_ift h c1
    refine lv_tableIn (off := 79) (tgt := 80) hx hb dX2_kindOfSort_1 (by rw [c1]; decide) (by rw [c1]; decide) (by rw [c1]; rfl) (by decide) ?_
    refine lv_iconst (v := 5) hx hb dX2_kindOfSort_80 (by decide) ?_
    obtain rfl := Option.some.inj h
    exact z_ri hc hI dX2_kindOfSort_81
  replace h := z_iff h c1
  by_cases c2 : a1 = 103
  · replace h := z_ift h c2
    refine lv_tableIn (off := 81) (tgt := 82) hx hb dX2_kindOfSort_1 (by rw [c2]; decide) (by rw [c2]; decide) (by rw [c2]; rfl) (by decide) ?_
    refine lv_iconst (v := 0) hx hb dX2_kindOfSort_82 (by decide) ?_
    obtain rfl := Option.some.inj h
    exact z_ri hc hI dX2_kindOfSort_83
  replace h := z_iff h c2
  by_cases c3 : a1 = 104
  · replace h := z_ift h c3
    refine lv_tableIn (off := 81) (tgt := 82) hx hb dX2_kindOfSort_1 (by rw [c3]; decide) (by rw [c3]; decide) (by rw [c3]; rfl) (by decide) ?_
    refine lv_iconst (v := 0) hx hb dX2_kindOfSort_82 (by decide) ?_
    obtain rfl := Option.some.inj h
    exact z_ri hc hI dX2_kindOfSort_83
  replace h := z_iff h c3
  by_cases c4 : a1 = 105
  · replace h := z_ift h c4
    refine lv_tableIn (off := 81) (tgt := 82) hx hb dX2_kindOfSort_1 (by rw [c4]; decide) (by rw [c4]; decide) (by rw [c4]; rfl) (by decide) ?_
    refine lv_iconst (v := 0) hx hb dX2_kindOfSort_82 (by decide) ?_
    obtain rfl := Option.some.inj h
    exact z_ri hc hI dX2_kindOfSort_83
  replace h := z_iff h c4
  by_cases c5 : a1 = 106
  · replace h := z_ift h c5
    refine lv_tableIn (off := 81) (tgt := 82) hx hb dX2_kindOfSort_1 (by rw [c5]; decide) (by rw [c5]; decide) (by rw [c5]; rfl) (by decide) ?_
    refine lv_iconst (v := 0) hx hb dX2_kindOfSort_82 (by decide) ?_
    obtain rfl := Option.some.inj h
    exact z_ri hc hI dX2_kindOfSort_83
  replace h := z_iff h c5
  by_cases c6 : a1 = 107
  · replace h := z_ift h c6
    refine lv_tableIn (off := 81) (tgt := 82) hx hb dX2_kindOfSort_1 (by rw [c6]; decide) (by rw [c6]; decide) (by rw [c6]; rfl) (by decide) ?_
    refine lv_iconst (v := 0) hx hb dX2_kindOfSort_82 (by decide) ?_
    obtain rfl := Option.some.inj h
    exact z_ri hc hI dX2_kindOfSort_83
  replace h := z_iff h c6
  by_cases c7 : a1 = 108
  · replace h := z_ift h c7
    refine lv_tableIn (off := 75) (tgt := 76) hx hb dX2_kindOfSort_1 (by rw [c7]; decide) (by rw [c7]; decide) (by rw [c7]; rfl) (by decide) ?_
    refine lv_iconst (v := 3) hx hb dX2_kindOfSort_76 (by decide) ?_
    obtain rfl := Option.some.inj h
    exact z_ri hc hI dX2_kindOfSort_77
  replace h := z_iff h c7
  by_cases c8 : a1 = 109
  · replace h := z_ift h c8
    refine lv_tableIn (off := 81) (tgt := 82) hx hb dX2_kindOfSort_1 (by rw [c8]; decide) (by rw [c8]; decide) (by rw [c8]; rfl) (by decide) ?_
    refine lv_iconst (v := 0) hx hb dX2_kindOfSort_82 (by decide) ?_
    obtain rfl := Option.some.inj h
    exact z_ri hc hI dX2_kindOfSort_83
  replace h := z_iff h c8
  by_cases c9 : a1 = 110
  · replace h := z_ift h c9
    refine lv_tableIn (off := 81) (tgt := 82) hx hb dX2_kindOfSort_1 (by rw [c9]; decide) (by rw [c9]; decide) (by rw [c9]; rfl) (by decide) ?_
    refine lv_iconst (v := 0) hx hb dX2_kindOfSort_82 (by decide) ?_
    obtain rfl := Option.some.inj h
    exact z_ri hc hI dX2_kindOfSort_83
  replace h := z_iff h c9
  by_cases c10 : a1 = 111
  · replace h := z_ift h c10
    refine lv_tableIn (off := 81) (tgt := 82) hx hb dX2_kindOfSort_1 (by rw [c10]; decide) (by rw [c10]; decide) (by rw [c10]; rfl) (by decide) ?_
    refine lv_iconst (v := 0) hx hb dX2_kindOfSort_82 (by decide) ?_
    obtain rfl := Option.some.inj h
    exact z_ri hc hI dX2_kindOfSort_83
  replace h := z_iff h c10
  by_cases c11 : a1 = 112
  · replace h := z_ift h c11
    refine lv_tableIn (off := 71) (tgt := 72) hx hb dX2_kindOfSort_1 (by rw [c11]; decide) (by rw [c11]; decide) (by rw [c11]; rfl) (by decide) ?_
    refine lv_iconst (v := 1) hx hb dX2_kindOfSort_72 (by decide) ?_
    obtain rfl := Option.some.inj h
    exact z_ri hc hI dX2_kindOfSort_73
  replace h := z_iff h c11
  by_cases c12 : a1 = 113
  · replace h := z_ift h c12
    refine lv_tableIn (off := 81) (tgt := 82) hx hb dX2_kindOfSort_1 (by rw [c12]; decide) (by rw [c12]; decide) (by rw [c12]; rfl) (by decide) ?_
    refine lv_iconst (v := 0) hx hb dX2_kindOfSort_82 (by decide) ?_
    obtain rfl := Option.some.inj h
    exact z_ri hc hI dX2_kindOfSort_83
  replace h := z_iff h c12
  by_cases c13 : a1 = 114
  · replace h := z_ift h c13
    refine lv_tableIn (off := 77) (tgt := 78) hx hb dX2_kindOfSort_1 (by rw [c13]; decide) (by rw [c13]; decide) (by rw [c13]; rfl) (by decide) ?_
    refine lv_iconst (v := 4) hx hb dX2_kindOfSort_78 (by decide) ?_
    obtain rfl := Option.some.inj h
    exact z_ri hc hI dX2_kindOfSort_79
  replace h := z_iff h c13
  by_cases c14 : a1 = 115
  · replace h := z_ift h c14
    refine lv_tableIn (off := 73) (tgt := 74) hx hb dX2_kindOfSort_1 (by rw [c14]; decide) (by rw [c14]; decide) (by rw [c14]; rfl) (by decide) ?_
    refine lv_iconst (v := 2) hx hb dX2_kindOfSort_74 (by decide) ?_
    obtain rfl := Option.some.inj h
    exact z_ri hc hI dX2_kindOfSort_75
  replace h := z_iff h c14
  refine lv_tableOut (tgt := 82) hx hb dX2_kindOfSort_1 (by have nc1 := z_ne (n := 102) (by decide) c1; have nc2 := z_ne (n := 103) (by decide) c2; have nc3 := z_ne (n := 104) (by decide) c3; have nc4 := z_ne (n := 105) (by decide) c4; have nc5 := z_ne (n := 106) (by decide) c5; have nc6 := z_ne (n := 107) (by decide) c6; have nc7 := z_ne (n := 108) (by decide) c7; have nc8 := z_ne (n := 109) (by decide) c8; have nc9 := z_ne (n := 110) (by decide) c9; have nc10 := z_ne (n := 111) (by decide) c10; have nc11 := z_ne (n := 112) (by decide) c11; have nc12 := z_ne (n := 113) (by decide) c12; have nc13 := z_ne (n := 114) (by decide) c13; have nc14 := z_ne (n := 115) (by decide) c14; omega) (by decide) ?_
  refine lv_iconst (v := 0) hx hb dX2_kindOfSort_82 (by decide) ?_
  obtain rfl := Option.some.inj h
  exact z_ri hc hI dX2_kindOfSort_83
set_option maxRecDepth 100000 in
set_option maxHeartbeats 4000000 in
theorem w_X2_readTreads_b32 (hc : z_C p s m args meth c RX2 cX2_readTreads 4 (some .boolean)) {out : (Int32 × z_M)} (M : z_M) (H : Heap) (locs : List Loc) (ls : Array Slot) (h : F_X2_readTreads_b32 M = some out) (hI : z_I G s M H locs) (hl : lv_has ls 4 []) : W p l e (z_rm 3) s m args below meth c H locs 0 0 (MQ below (z_Q G (some (.int out.1)) out.2) args s 0 0 (z_A G)) (F0 m 32 ls []) := by
  obtain ⟨⟨hx, hb, hml, hown, hts⟩, hr, hlk⟩ := id hc
  unfold F_X2_readTreads_b32 at h
  refine lv_iconst (v := 1) hx hb dX2_readTreads_32 (by decide) ?_
  refine lv_goto (tgt := 37) hx hb dX2_readTreads_33 (by decide) ?_
  obtain rfl := Option.some.inj h
  exact z_rz (x := 1) hc hI (by decide) dX2_readTreads_37
set_option maxRecDepth 100000 in
set_option maxHeartbeats 4000000 in
theorem w_X2_readTreads_b2 (hc : z_C p s m args meth c RX2 cX2_readTreads 4 (some .boolean)) {out : (Int32 × z_M)} : ∀ (n : Nat) (v1 : Int32) (M : z_M) (H : Heap) (locs : List Loc) (ls : Array Slot) (h : F_X2_readTreads_b2 n v1 M = some out) (hI : z_I G s M H locs) (hl : lv_has ls 4 [(0, .ref (z_ad G 5 0)), (1, .int v1)]), W p l e (z_rm 3) s m args below meth c H locs 0 0 (MQ below (z_Q G (some (.int out.1)) out.2) args s 0 0 (z_A G)) (F0 m 2 ls []) := by
  obtain ⟨⟨hx, hb, hml, hown, hts⟩, hr, hlk⟩ := id hc
  intro n
  induction n with
  | zero => intro v1 M H locs ls h; cases h
  | succ n ih =>
    intro v1 M H locs ls h hI hl
    rw [F_X2_readTreads_b2] at h
    refine lv_iload_n hx hb dX2_readTreads_2 rfl (lv_at hl 1 rfl) ?_
    refine lv_bipush (v := 8) hx hb dX2_readTreads_3 (by decide) ?_
    refine lv_icmp_gt (tgt := 99) hx hb dX2_readTreads_5 (by decide) (fun c1 => ?_) (fun c1 => ?_)
    · replace h := z_ift h c1
      refine lv_iconst (v := 0) hx hb dX2_readTreads_99 (by decide) ?_
      obtain rfl := Option.some.inj h
      exact z_rz (x := 0) hc hI (by decide) dX2_readTreads_100
    · replace h := z_iff h c1
      refine lv_aload_n hx hb dX2_readTreads_8 rfl (lv_at hl 0 rfl) ?_
      obtain ⟨q2, e3, h⟩ := z_bnd h
      refine iv_X2_58 hc hI (c_X2_letter e3) (z_room (by decide) (by decide)) hl.1 (Nat.le_of_ble_eq_true rfl) ⟨Nat.zero_le _, Nat.zero_le _⟩ dX2_readTreads_9 (fun H locs hI => ?_)
      obtain ⟨q4, e5, h⟩ := z_bnd h
      refine iv_X2_62 hc hI (c_X2_kindOfSort e5) (z_room (by decide) (by decide)) hl.1 (Nat.le_of_ble_eq_true rfl) ⟨Nat.zero_le _, Nat.zero_le _⟩ dX2_readTreads_12 (fun H locs hI => ?_)
      refine lv_istore_n (lv' := [(2, .int q4), (0, .ref (z_ad G 5 0)), (1, .int v1)]) hx hb dX2_readTreads_15 rfl hl (by decide) rfl (fun ls hl => ?_)
      refine lv_iload_n hx hb dX2_readTreads_16 rfl (lv_at hl 0 rfl) ?_
      refine lv_if_ne (tgt := 38) hx hb dX2_readTreads_17 (by decide) (fun c6 => ?_) (fun c6 => ?_)
      · replace h := z_iff h c6
        refine lv_iload_n hx hb dX2_readTreads_38 rfl (lv_at hl 2 rfl) ?_
        refine lv_bipush (v := 8) hx hb dX2_readTreads_39 (by decide) ?_
        refine lv_icmp_ne (tgt := 50) hx hb dX2_readTreads_41 (by decide) (fun c7 => ?_) (fun c7 => ?_)
        · replace h := z_iff h c7
          refine lv_aload_n hx hb dX2_readTreads_50 rfl (lv_at hl 1 rfl) ?_
          refine lv_dup hx hb dX2_readTreads_51 rfl ?_
          refine gf_X2_33 hc hI dX2_readTreads_52 ?_
          refine lv_iconst (v := 1) hx hb dX2_readTreads_55 (by decide) ?_
          refine lv_iadd hx hb dX2_readTreads_56 ?_
          refine pf_X2_33 hc hI dX2_readTreads_57 (fun H locs hI => ?_)
          refine lv_aload_n hx hb dX2_readTreads_60 rfl (lv_at hl 1 rfl) ?_
          refine lv_iconst (v := 0) hx hb dX2_readTreads_61 (by decide) ?_
          refine lv_bipush (v := 9) hx hb dX2_readTreads_62 (by decide) ?_
          obtain ⟨q8, e9, h⟩ := z_bnd h
          refine iv_X2_50 hc hI (c_X2_readNumber e9) (z_room (by decide) (by decide)) hl.1 (Nat.le_of_ble_eq_true rfl) ⟨Nat.zero_le _, Nat.zero_le _⟩ dX2_readTreads_64 (fun H locs hI => ?_)
          refine lv_istore_n (lv' := [(3, .int q8.1), (2, .int q4), (0, .ref (z_ad G 5 0)), (1, .int v1)]) hx hb dX2_readTreads_67 rfl hl (by decide) rfl (fun ls hl => ?_)
          refine lv_iload_n hx hb dX2_readTreads_68 rfl (lv_at hl 0 rfl) ?_
          refine lv_iconst (v := (-1)) hx hb dX2_readTreads_69 (by decide) ?_
          refine lv_icmp_eq (tgt := 82) hx hb dX2_readTreads_70 (by decide) (fun c10 => ?_) (fun c10 => ?_)
          · replace h := z_ift h c10
            refine lv_iconst (v := 0) hx hb dX2_readTreads_82 (by decide) ?_
            obtain rfl := Option.some.inj h
            exact z_rz (x := 0) hc hI (by decide) dX2_readTreads_83
          · replace h := z_iff h c10
            refine lv_aload_n hx hb dX2_readTreads_73 rfl (lv_at hl 2 rfl) ?_
            refine lv_bipush (v := 59) hx hb dX2_readTreads_74 (by decide) ?_
            obtain ⟨q11, e12, h⟩ := z_bnd h
            refine iv_X2_46 hc hI (c_X2_readSign e12) (z_room (by decide) (by decide)) hl.1 (Nat.le_of_ble_eq_true rfl) ⟨Nat.zero_le _, Nat.zero_le _⟩ dX2_readTreads_76 (fun H locs hI => ?_)
            refine lv_if_ne (tgt := 84) hx hb dX2_readTreads_79 (by decide) (fun c13 => ?_) (fun c13 => ?_)
            · replace h := z_iff h c13
              refine lv_aload_n hx hb dX2_readTreads_84 rfl (lv_at hl 2 rfl) ?_
              refine gf_X2_18 hc hI dX2_readTreads_85 ?_
              refine lv_iload_n hx hb dX2_readTreads_88 rfl (lv_at hl 1 rfl) ?_
              refine lv_iload_n hx hb dX2_readTreads_89 rfl (lv_at hl 0 rfl) ?_
              obtain ⟨q14, e15, h⟩ := z_bnd h
              refine iv_X2_69 (by decide) hc hI (c_X5_addTread (by decide) e15) (z_room (by decide) (by decide)) hl.1 (Nat.le_of_ble_eq_true rfl) ⟨Nat.zero_le _, Nat.zero_le _⟩ dX2_readTreads_90 (fun H locs hI => ?_)
              refine lv_iinc (v := v1 + 1) (lv' := [(1, .int (v1 + 1)), (3, .int q8.1), (2, .int q4), (0, .ref (z_ad G 5 0))]) hx hb dX2_readTreads_93 hl (k := 3) rfl rfl (by decide) rfl (fun ls hl => ?_)
              refine lv_goto (tgt := 2) hx hb dX2_readTreads_96 (by decide) ?_
              exact ih (v1 + 1) _ _ _ _ h hI (lv_sub hl [3, 0] rfl)
            · replace h := z_ift h c13
              refine lv_iconst (v := 0) hx hb dX2_readTreads_82 (by decide) ?_
              obtain rfl := Option.some.inj h
              exact z_rz (x := 0) hc hI (by decide) dX2_readTreads_83
        · replace h := z_ift h c7
          refine lv_aload_n hx hb dX2_readTreads_44 rfl (lv_at hl 1 rfl) ?_
          refine lv_iconst (v := 3) hx hb dX2_readTreads_45 (by decide) ?_
          obtain ⟨q16, e17, h⟩ := z_bnd h
          refine iv_X2_66 hc hI (c_X2_fail e17) (z_room (by decide) (by decide)) hl.1 (Nat.le_of_ble_eq_true rfl) ⟨Nat.zero_le _, Nat.zero_le _⟩ dX2_readTreads_46 (fun H locs hI => ?_)
          obtain ⟨g18, h⟩ := z_grd_some h
          obtain rfl := Option.some.inj h
          exact z_rz hc hI g18 dX2_readTreads_49
      · replace h := z_ift h c6
        refine lv_iload_n hx hb dX2_readTreads_20 rfl (lv_at hl 2 rfl) ?_
        refine lv_if_gt (tgt := 32) hx hb dX2_readTreads_21 (by decide) (fun c19 => ?_) (fun c19 => ?_)
        · replace h := z_ift h c19
          exact w_X2_readTreads_b32 hc _ _ _ _ h hI (lv_sub hl [] rfl)
        · replace h := z_iff h c19
          refine lv_aload_n hx hb dX2_readTreads_24 rfl (lv_at hl 1 rfl) ?_
          refine lv_iconst (v := 1) hx hb dX2_readTreads_25 (by decide) ?_
          obtain ⟨q20, e21, h⟩ := z_bnd h
          refine iv_X2_66 hc hI (c_X2_fail e21) (z_room (by decide) (by decide)) hl.1 (Nat.le_of_ble_eq_true rfl) ⟨Nat.zero_le _, Nat.zero_le _⟩ dX2_readTreads_26 (fun H locs hI => ?_)
          refine lv_if_eq (tgt := 36) hx hb dX2_readTreads_29 (by decide) (fun c22 => ?_) (fun c22 => ?_)
          · replace h := z_ift h c22
            refine lv_iconst (v := 0) hx hb dX2_readTreads_36 (by decide) ?_
            obtain rfl := Option.some.inj h
            exact z_rz (x := 0) hc hI (by decide) dX2_readTreads_37
          · replace h := z_iff h c22
            exact w_X2_readTreads_b32 hc _ _ _ _ h hI (lv_sub hl [] rfl)
set_option maxRecDepth 100000 in
set_option maxHeartbeats 4000000 in
theorem c_X2_readTreads {G : z_G} {l : Launch} {M : z_M} {out : (Int32 × z_M)} (h : F_X2_readTreads M = some out) : z_Met G l yX2_readTreads cX2_readTreads 4 (some .boolean) 3 [.ref (z_ad G 5 0)] M (some (.int out.1)) out.2 := by
  unfold F_X2_readTreads at h
  refine z_met_of (by decide) rfl (Nat.le_of_ble_eq_true rfl) (fun p e s m below meth c ls hc hI hl => ?_)
  obtain ⟨⟨hx, hb, hml, hown, hts⟩, hr, hlk⟩ := id hc
  have hl : lv_has ls 4 [(0, .ref (z_ad G 5 0))] := hl
  refine lv_iconst (v := 0) hx hb dX2_readTreads_0 (by decide) ?_
  refine lv_istore_n (lv' := [(1, .int 0), (0, .ref (z_ad G 5 0))]) hx hb dX2_readTreads_1 rfl hl (by decide) rfl (fun ls hl => ?_)
  exact w_X2_readTreads_b2 hc _ 0 _ _ _ _ h hI (lv_sub hl [1, 0] rfl)
set_option maxRecDepth 100000 in
set_option maxHeartbeats 4000000 in
theorem w_X2_readWalker_b53 (hc : z_C p s m args meth c RX2 cX2_readWalker 4 (some .boolean)) {out : (Int32 × z_M)} {K9 : Int32 → Int32 → z_M → Option (Int32 × z_M)} (hK9 : ∀ (v1 : Int32) (v2 : Int32) (M : z_M) (H : Heap) (locs : List Loc) (ls : Array Slot), K9 v1 v2 M = some out → z_I G s M H locs → lv_has ls 4 [(0, .ref (z_ad G 5 0)), (1, .int v1), (2, .int v2)] → W p l e (z_rm 3) s m args below meth c H locs 0 0 (MQ below (z_Q G (some (.int out.1)) out.2) args s 0 0 (z_A G)) (F0 m 9 ls [])) (v1 : Int32) (v2 : Int32) (v3 : Int32) (s0 : Int32) (M : z_M) (H : Heap) (locs : List Loc) (ls : Array Slot) (h : F_X2_readWalker_b53 K9 v1 v2 v3 s0 M = some out) (hI : z_I G s M H locs) (hl : lv_has ls 4 [(0, .ref (z_ad G 5 0)), (1, .int v1), (2, .int v2), (3, .int v3)]) : W p l e (z_rm 3) s m args below meth c H locs 0 0 (MQ below (z_Q G (some (.int out.1)) out.2) args s 0 0 (z_A G)) (F0 m 53 ls [.int s0, .ref (z_ad G 5 0)]) := by
  obtain ⟨⟨hx, hb, hml, hown, hts⟩, hr, hlk⟩ := id hc
  unfold F_X2_readWalker_b53 at h
  obtain ⟨q12, e13, h⟩ := z_bnd h
  refine iv_X2_46 hc hI (c_X2_readSign e13) (z_room (by decide) (by decide)) hl.1 (Nat.le_of_ble_eq_true rfl) ⟨Nat.zero_le _, Nat.zero_le _⟩ dX2_readWalker_53 (fun H locs hI => ?_)
  refine lv_if_ne (tgt := 61) hx hb dX2_readWalker_56 (by decide) (fun c14 => ?_) (fun c14 => ?_)
  · replace h := z_iff h c14
    refine lv_aload_n hx hb dX2_readWalker_61 rfl (lv_at hl 0 rfl) ?_
    refine gf_X2_18 hc hI dX2_readWalker_62 ?_
    refine lv_iload_n hx hb dX2_readWalker_65 rfl (lv_at hl 1 rfl) ?_
    refine lv_iload_n hx hb dX2_readWalker_66 rfl (lv_at hl 2 rfl) ?_
    refine lv_iload_n hx hb dX2_readWalker_67 rfl (lv_at hl 3 rfl) ?_
    obtain ⟨q15, e16, h⟩ := z_bnd h
    refine iv_X2_84 (by decide) hc hI (c_X5_setPart (by decide) e16) (z_room (by decide) (by decide)) hl.1 (Nat.le_of_ble_eq_true rfl) ⟨Nat.zero_le _, Nat.zero_le _⟩ dX2_readWalker_68 (fun H locs hI => ?_)
    refine lv_iinc (v := v2 + 1) (lv' := [(2, .int (v2 + 1)), (0, .ref (z_ad G 5 0)), (1, .int v1), (3, .int v3)]) hx hb dX2_readWalker_71 hl (k := 2) rfl rfl (by decide) rfl (fun ls hl => ?_)
    refine lv_goto (tgt := 9) hx hb dX2_readWalker_74 (by decide) ?_
    exact hK9 v1 (v2 + 1) _ _ _ _ h hI (lv_sub hl [1, 2, 0] rfl)
  · replace h := z_ift h c14
    refine lv_iconst (v := 0) hx hb dX2_readWalker_59 (by decide) ?_
    obtain rfl := Option.some.inj h
    exact z_rz (x := 0) hc hI (by decide) dX2_readWalker_60
set_option maxRecDepth 100000 in
set_option maxHeartbeats 4000000 in
theorem w_X2_readWalker_b9 (hc : z_C p s m args meth c RX2 cX2_readWalker 4 (some .boolean)) {out : (Int32 × z_M)} : ∀ (n : Nat) (v1 : Int32) (v2 : Int32) (M : z_M) (H : Heap) (locs : List Loc) (ls : Array Slot) (h : F_X2_readWalker_b9 n v1 v2 M = some out) (hI : z_I G s M H locs) (hl : lv_has ls 4 [(0, .ref (z_ad G 5 0)), (1, .int v1), (2, .int v2)]), W p l e (z_rm 3) s m args below meth c H locs 0 0 (MQ below (z_Q G (some (.int out.1)) out.2) args s 0 0 (z_A G)) (F0 m 9 ls []) := by
  obtain ⟨⟨hx, hb, hml, hown, hts⟩, hr, hlk⟩ := id hc
  intro n
  induction n with
  | zero => intro v1 v2 M H locs ls h; cases h
  | succ n ih =>
    intro v1 v2 M H locs ls h hI hl
    rw [F_X2_readWalker_b9] at h
    refine lv_iload_n hx hb dX2_readWalker_9 rfl (lv_at hl 2 rfl) ?_
    refine lv_iconst (v := 4) hx hb dX2_readWalker_10 (by decide) ?_
    refine lv_icmp_ge (tgt := 77) hx hb dX2_readWalker_11 (by decide) (fun c3 => ?_) (fun c3 => ?_)
    · replace h := z_ift h c3
      refine lv_iconst (v := 1) hx hb dX2_readWalker_77 (by decide) ?_
      obtain rfl := Option.some.inj h
      exact z_rz (x := 1) hc hI (by decide) dX2_readWalker_78
    · replace h := z_iff h c3
      refine lv_aload_n hx hb dX2_readWalker_14 rfl (lv_at hl 0 rfl) ?_
      refine lv_aload_n hx hb dX2_readWalker_15 rfl (lv_at hl 0 rfl) ?_
      refine gf_X2_18 hc hI dX2_readWalker_16 ?_
      refine lv_iload_n hx hb dX2_readWalker_19 rfl (lv_at hl 2 rfl) ?_
      obtain ⟨q4, e5, h⟩ := z_bnd h
      refine iv_X2_78 (by decide) hc hI (c_X5_leastOf (by decide) e5) (z_room (by decide) (by decide)) hl.1 (Nat.le_of_ble_eq_true rfl) ⟨Nat.zero_le _, Nat.zero_le _⟩ dX2_readWalker_20 (fun H locs hI => ?_)
      refine lv_aload_n hx hb dX2_readWalker_23 rfl (lv_at hl 0 rfl) ?_
      refine gf_X2_18 hc hI dX2_readWalker_24 ?_
      refine lv_iload_n hx hb dX2_readWalker_27 rfl (lv_at hl 2 rfl) ?_
      obtain ⟨q6, e7, h⟩ := z_bnd h
      refine iv_X2_81 (by decide) hc hI (c_X5_mostOf (by decide) e7) (z_room (by decide) (by decide)) hl.1 (Nat.le_of_ble_eq_true rfl) ⟨Nat.zero_le _, Nat.zero_le _⟩ dX2_readWalker_28 (fun H locs hI => ?_)
      obtain ⟨q8, e9, h⟩ := z_bnd h
      refine iv_X2_50 hc hI (c_X2_readNumber e9) (z_room (by decide) (by decide)) hl.1 (Nat.le_of_ble_eq_true rfl) ⟨Nat.zero_le _, Nat.zero_le _⟩ dX2_readWalker_31 (fun H locs hI => ?_)
      refine lv_istore_n (lv' := [(3, .int q8.1), (0, .ref (z_ad G 5 0)), (1, .int v1), (2, .int v2)]) hx hb dX2_readWalker_34 rfl hl (by decide) rfl (fun ls hl => ?_)
      refine lv_iload_n hx hb dX2_readWalker_35 rfl (lv_at hl 0 rfl) ?_
      refine lv_iconst (v := (-1)) hx hb dX2_readWalker_36 (by decide) ?_
      refine lv_icmp_eq (tgt := 59) hx hb dX2_readWalker_37 (by decide) (fun c10 => ?_) (fun c10 => ?_)
      · replace h := z_ift h c10
        refine lv_iconst (v := 0) hx hb dX2_readWalker_59 (by decide) ?_
        obtain rfl := Option.some.inj h
        exact z_rz (x := 0) hc hI (by decide) dX2_readWalker_60
      · replace h := z_iff h c10
        refine lv_aload_n hx hb dX2_readWalker_40 rfl (lv_at hl 1 rfl) ?_
        refine lv_iload_n hx hb dX2_readWalker_41 rfl (lv_at hl 3 rfl) ?_
        refine lv_iconst (v := 3) hx hb dX2_readWalker_42 (by decide) ?_
        refine lv_icmp_ge (tgt := 51) hx hb dX2_readWalker_43 (by decide) (fun c11 => ?_) (fun c11 => ?_)
        · replace h := z_ift h c11
          refine lv_bipush (v := 59) hx hb dX2_readWalker_51 (by decide) ?_
          exact w_X2_readWalker_b53 hc ih v1 v2 q8.1 59 _ _ _ _ h hI (lv_sub hl [1, 2, 3, 0] rfl)
        · replace h := z_iff h c11
          refine lv_bipush (v := 44) hx hb dX2_readWalker_46 (by decide) ?_
          refine lv_goto (tgt := 53) hx hb dX2_readWalker_48 (by decide) ?_
          exact w_X2_readWalker_b53 hc ih v1 v2 q8.1 44 _ _ _ _ h hI (lv_sub hl [1, 2, 3, 0] rfl)
set_option maxRecDepth 100000 in
set_option maxHeartbeats 4000000 in
theorem c_X2_readWalker {G : z_G} {l : Launch} {a1 : Int32} {M : z_M} {out : (Int32 × z_M)} (h : F_X2_readWalker a1 M = some out) : z_Met G l yX2_readWalker cX2_readWalker 4 (some .boolean) 3 [.ref (z_ad G 5 0), .int a1] M (some (.int out.1)) out.2 := by
  unfold F_X2_readWalker at h
  refine z_met_of (by decide) rfl (Nat.le_of_ble_eq_true rfl) (fun p e s m below meth c ls hc hI hl => ?_)
  obtain ⟨⟨hx, hb, hml, hown, hts⟩, hr, hlk⟩ := id hc
  have hl : lv_has ls 4 [(0, .ref (z_ad G 5 0)), (1, .int a1)] := hl
  refine lv_aload_n hx hb dX2_readWalker_0 rfl (lv_at hl 0 rfl) ?_
  refine gf_X2_18 hc hI dX2_readWalker_1 ?_
  obtain ⟨q1, e2, h⟩ := z_bnd h
  refine iv_X2_75 (by decide) hc hI (c_X5_addWalker (by decide) e2) (z_room (by decide) (by decide)) hl.1 (Nat.le_of_ble_eq_true rfl) ⟨Nat.zero_le _, Nat.zero_le _⟩ dX2_readWalker_4 (fun H locs hI => ?_)
  refine lv_iconst (v := 0) hx hb dX2_readWalker_7 (by decide) ?_
  refine lv_istore_n (lv' := [(2, .int 0), (0, .ref (z_ad G 5 0)), (1, .int a1)]) hx hb dX2_readWalker_8 rfl hl (by decide) rfl (fun ls hl => ?_)
  exact w_X2_readWalker_b9 hc _ a1 0 _ _ _ _ h hI (lv_sub hl [1, 2, 0] rfl)
set_option maxRecDepth 100000 in
set_option maxHeartbeats 4000000 in
theorem w_X2_readWalkers_b24 (hc : z_C p s m args meth c RX2 cX2_readWalkers 2 (some .boolean)) {out : (Int32 × z_M)} {K2 : Int32 → z_M → Option (Int32 × z_M)} (hK2 : ∀ (v1 : Int32) (M : z_M) (H : Heap) (locs : List Loc) (ls : Array Slot), K2 v1 M = some out → z_I G s M H locs → lv_has ls 2 [(0, .ref (z_ad G 5 0)), (1, .int v1)] → W p l e (z_rm 4) s m args below meth c H locs 0 0 (MQ below (z_Q G (some (.int out.1)) out.2) args s 0 0 (z_A G)) (F0 m 2 ls [])) (v1 : Int32) (M : z_M) (H : Heap) (locs : List Loc) (ls : Array Slot) (h : F_X2_readWalkers_b24 K2 v1 M = some out) (hI : z_I G s M H locs) (hl : lv_has ls 2 [(0, .ref (z_ad G 5 0)), (1, .int v1)]) : W p l e (z_rm 4) s m args below meth c H locs 0 0 (MQ below (z_Q G (some (.int out.1)) out.2) args s 0 0 (z_A G)) (F0 m 24 ls []) := by
  obtain ⟨⟨hx, hb, hml, hown, hts⟩, hr, hlk⟩ := id hc
  unfold F_X2_readWalkers_b24 at h
  refine lv_aload_n hx hb dX2_readWalkers_24 rfl (lv_at hl 0 rfl) ?_
  obtain ⟨q3, e4, h⟩ := z_bnd h
  refine iv_X2_58 hc hI (c_X2_letter e4) (z_room (by decide) (by decide)) hl.1 (Nat.le_of_ble_eq_true rfl) ⟨Nat.zero_le _, Nat.zero_le _⟩ dX2_readWalkers_25 (fun H locs hI => ?_)
  refine lv_bipush (v := 122) hx hb dX2_readWalkers_28 (by decide) ?_
  refine lv_icmp_eq (tgt := 39) hx hb dX2_readWalkers_30 (by decide) (fun c5 => ?_) (fun c5 => ?_)
  · replace h := z_ift h c5
    refine lv_iload_n hx hb dX2_readWalkers_39 rfl (lv_at hl 1 rfl) ?_
    refine lv_iconst (v := 5) hx hb dX2_readWalkers_40 (by decide) ?_
    refine lv_icmp_ne (tgt := 50) hx hb dX2_readWalkers_41 (by decide) (fun c6 => ?_) (fun c6 => ?_)
    · replace h := z_iff h c6
      refine lv_aload_n hx hb dX2_readWalkers_50 rfl (lv_at hl 0 rfl) ?_
      refine lv_dup hx hb dX2_readWalkers_51 rfl ?_
      refine gf_X2_33 hc hI dX2_readWalkers_52 ?_
      refine lv_iconst (v := 1) hx hb dX2_readWalkers_55 (by decide) ?_
      refine lv_iadd hx hb dX2_readWalkers_56 ?_
      refine pf_X2_33 hc hI dX2_readWalkers_57 (fun H locs hI => ?_)
      refine lv_aload_n hx hb dX2_readWalkers_60 rfl (lv_at hl 0 rfl) ?_
      refine lv_iload_n hx hb dX2_readWalkers_61 rfl (lv_at hl 1 rfl) ?_
      obtain ⟨q7, e8, h⟩ := z_bnd h
      refine iv_X2_72 hc hI (c_X2_readWalker e8) (z_room (by decide) (by decide)) hl.1 (Nat.le_of_ble_eq_true rfl) ⟨Nat.zero_le _, Nat.zero_le _⟩ dX2_readWalkers_62 (fun H locs hI => ?_)
      refine lv_if_ne (tgt := 70) hx hb dX2_readWalkers_65 (by decide) (fun c9 => ?_) (fun c9 => ?_)
      · replace h := z_iff h c9
        refine lv_iinc (v := v1 + 1) (lv' := [(1, .int (v1 + 1)), (0, .ref (z_ad G 5 0))]) hx hb dX2_readWalkers_70 hl (k := 1) rfl rfl (by decide) rfl (fun ls hl => ?_)
        refine lv_goto (tgt := 2) hx hb dX2_readWalkers_73 (by decide) ?_
        exact hK2 (v1 + 1) _ _ _ _ h hI (lv_sub hl [1, 0] rfl)
      · replace h := z_ift h c9
        refine lv_iconst (v := 0) hx hb dX2_readWalkers_68 (by decide) ?_
        obtain rfl := Option.some.inj h
        exact z_rz (x := 0) hc hI (by decide) dX2_readWalkers_69
    · replace h := z_ift h c6
      refine lv_aload_n hx hb dX2_readWalkers_44 rfl (lv_at hl 0 rfl) ?_
      refine lv_iconst (v := 3) hx hb dX2_readWalkers_45 (by decide) ?_
      obtain ⟨q10, e11, h⟩ := z_bnd h
      refine iv_X2_66 hc hI (c_X2_fail e11) (z_room (by decide) (by decide)) hl.1 (Nat.le_of_ble_eq_true rfl) ⟨Nat.zero_le _, Nat.zero_le _⟩ dX2_readWalkers_46 (fun H locs hI => ?_)
      obtain ⟨g12, h⟩ := z_grd_some h
      obtain rfl := Option.some.inj h
      exact z_rz hc hI g12 dX2_readWalkers_49
  · replace h := z_iff h c5
    refine lv_aload_n hx hb dX2_readWalkers_33 rfl (lv_at hl 0 rfl) ?_
    refine lv_iconst (v := 1) hx hb dX2_readWalkers_34 (by decide) ?_
    obtain ⟨q13, e14, h⟩ := z_bnd h
    refine iv_X2_66 hc hI (c_X2_fail e14) (z_room (by decide) (by decide)) hl.1 (Nat.le_of_ble_eq_true rfl) ⟨Nat.zero_le _, Nat.zero_le _⟩ dX2_readWalkers_35 (fun H locs hI => ?_)
    obtain ⟨g15, h⟩ := z_grd_some h
    obtain rfl := Option.some.inj h
    exact z_rz hc hI g15 dX2_readWalkers_38
set_option maxRecDepth 100000 in
set_option maxHeartbeats 4000000 in
theorem w_X2_readWalkers_b2 (hc : z_C p s m args meth c RX2 cX2_readWalkers 2 (some .boolean)) {out : (Int32 × z_M)} : ∀ (n : Nat) (v1 : Int32) (M : z_M) (H : Heap) (locs : List Loc) (ls : Array Slot) (h : F_X2_readWalkers_b2 n v1 M = some out) (hI : z_I G s M H locs) (hl : lv_has ls 2 [(0, .ref (z_ad G 5 0)), (1, .int v1)]), W p l e (z_rm 4) s m args below meth c H locs 0 0 (MQ below (z_Q G (some (.int out.1)) out.2) args s 0 0 (z_A G)) (F0 m 2 ls []) := by
  obtain ⟨⟨hx, hb, hml, hown, hts⟩, hr, hlk⟩ := id hc
  intro n
  induction n with
  | zero => intro v1 M H locs ls h; cases h
  | succ n ih =>
    intro v1 M H locs ls h hI hl
    rw [F_X2_readWalkers_b2] at h
    refine lv_iload_n hx hb dX2_readWalkers_2 rfl (lv_at hl 1 rfl) ?_
    refine lv_iconst (v := 5) hx hb dX2_readWalkers_3 (by decide) ?_
    refine lv_icmp_gt (tgt := 76) hx hb dX2_readWalkers_4 (by decide) (fun c1 => ?_) (fun c1 => ?_)
    · replace h := z_ift h c1
      refine lv_iconst (v := 0) hx hb dX2_readWalkers_76 (by decide) ?_
      obtain rfl := Option.some.inj h
      exact z_rz (x := 0) hc hI (by decide) dX2_readWalkers_77
    · replace h := z_iff h c1
      refine lv_iload_n hx hb dX2_readWalkers_7 rfl (lv_at hl 1 rfl) ?_
      refine lv_if_le (tgt := 24) hx hb dX2_readWalkers_8 (by decide) (fun c2 => ?_) (fun c2 => ?_)
      · replace h := z_ift h c2
        exact w_X2_readWalkers_b24 hc ih v1 _ _ _ _ h hI hl
      · replace h := z_iff h c2
        refine lv_aload_n hx hb dX2_readWalkers_11 rfl (lv_at hl 0 rfl) ?_
        refine gf_X2_33 hc hI dX2_readWalkers_12 ?_
        refine lv_aload_n hx hb dX2_readWalkers_15 rfl (lv_at hl 0 rfl) ?_
        refine gf_X2_22 hc hI dX2_readWalkers_16 ?_
        refine lv_icmp_lt (tgt := 24) hx hb dX2_readWalkers_19 (by decide) (fun c16 => ?_) (fun c16 => ?_)
        · replace h := z_ift h c16
          exact w_X2_readWalkers_b24 hc ih v1 _ _ _ _ h hI hl
        · replace h := z_iff h c16
          refine lv_iconst (v := 1) hx hb dX2_readWalkers_22 (by decide) ?_
          obtain rfl := Option.some.inj h
          exact z_rz (x := 1) hc hI (by decide) dX2_readWalkers_23
set_option maxRecDepth 100000 in
set_option maxHeartbeats 4000000 in
theorem c_X2_readWalkers {G : z_G} {l : Launch} {M : z_M} {out : (Int32 × z_M)} (h : F_X2_readWalkers M = some out) : z_Met G l yX2_readWalkers cX2_readWalkers 2 (some .boolean) 4 [.ref (z_ad G 5 0)] M (some (.int out.1)) out.2 := by
  unfold F_X2_readWalkers at h
  refine z_met_of (by decide) rfl (Nat.le_of_ble_eq_true rfl) (fun p e s m below meth c ls hc hI hl => ?_)
  obtain ⟨⟨hx, hb, hml, hown, hts⟩, hr, hlk⟩ := id hc
  have hl : lv_has ls 2 [(0, .ref (z_ad G 5 0))] := hl
  refine lv_iconst (v := 0) hx hb dX2_readWalkers_0 (by decide) ?_
  refine lv_istore_n (lv' := [(1, .int 0), (0, .ref (z_ad G 5 0))]) hx hb dX2_readWalkers_1 rfl hl (by decide) rfl (fun ls hl => ?_)
  exact w_X2_readWalkers_b2 hc _ 0 _ _ _ _ h hI (lv_sub hl [1, 0] rfl)
set_option maxRecDepth 100000 in
set_option maxHeartbeats 4000000 in
theorem w_X2_readTape_b31 (hc : z_C p s m args meth c RX2 cX2_readTape 2 (some (.object "StairTunes$Town"))) {out : (Option Nat × z_M)} (s0 : Int32) (M : z_M) (H : Heap) (locs : List Loc) (ls : Array Slot) (h : F_X2_readTape_b31 s0 M = some out) (hI : z_I G s M H locs) (hl : lv_has ls 2 [(0, .ref (z_ad G 5 0))]) : W p l e (z_rm 5) s m args below meth c H locs 0 0 (MQ below (z_Q G (some (z_ov G out.1)) out.2) args s 0 0 (z_A G)) (F0 m 31 ls [.int s0]) := by
  obtain ⟨⟨hx, hb, hml, hown, hts⟩, hr, hlk⟩ := id hc
  unfold F_X2_readTape_b31 at h
  refine lv_istore_n (lv' := [(1, .int s0), (0, .ref (z_ad G 5 0))]) hx hb dX2_readTape_31 rfl hl (by decide) rfl (fun ls hl => ?_)
  refine lv_aload_n hx hb dX2_readTape_32 rfl (lv_at hl 1 rfl) ?_
  refine lv_iconst (v := 0) hx hb dX2_readTape_33 (by decide) ?_
  refine pf_X2_22 hc hI dX2_readTape_34 (fun H locs hI => ?_)
  refine lv_iload_n hx hb dX2_readTape_37 rfl (lv_at hl 0 rfl) ?_
  refine lv_if_eq (tgt := 48) hx hb dX2_readTape_38 (by decide) (fun c4 => ?_) (fun c4 => ?_)
  · replace h := z_ift h c4
    refine lv_null hx hb dX2_readTape_48 ?_
    obtain rfl := Option.some.inj h
    exact z_ra hc hI (Or.inl rfl) dX2_readTape_49
  · replace h := z_iff h c4
    refine lv_aload_n hx hb dX2_readTape_41 rfl (lv_at hl 1 rfl) ?_
    refine gf_X2_18 hc hI dX2_readTape_42 ?_
    refine lv_goto (tgt := 49) hx hb dX2_readTape_45 (by decide) ?_
    obtain rfl := Option.some.inj h
    exact z_ra hc hI (Or.inr ⟨_, rfl⟩) dX2_readTape_49
set_option maxRecDepth 100000 in
set_option maxHeartbeats 4000000 in
theorem w_X2_readTape_b30 (hc : z_C p s m args meth c RX2 cX2_readTape 2 (some (.object "StairTunes$Town"))) {out : (Option Nat × z_M)} (M : z_M) (H : Heap) (locs : List Loc) (ls : Array Slot) (h : F_X2_readTape_b30 M = some out) (hI : z_I G s M H locs) (hl : lv_has ls 2 [(0, .ref (z_ad G 5 0))]) : W p l e (z_rm 5) s m args below meth c H locs 0 0 (MQ below (z_Q G (some (z_ov G out.1)) out.2) args s 0 0 (z_A G)) (F0 m 30 ls []) := by
  obtain ⟨⟨hx, hb, hml, hown, hts⟩, hr, hlk⟩ := id hc
  unfold F_X2_readTape_b30 at h
  refine lv_iconst (v := 0) hx hb dX2_readTape_30 (by decide) ?_
  exact w_X2_readTape_b31 hc 0 _ _ _ _ h hI hl
set_option maxRecDepth 100000 in
set_option maxHeartbeats 4000000 in
theorem c_X2_readTape {G : z_G} {l : Launch} {M : z_M} {out : (Option Nat × z_M)} (h : F_X2_readTape M = some out) : z_Met G l yX2_readTape cX2_readTape 2 (some (.object "StairTunes$Town")) 5 [.ref (z_ad G 5 0)] M (some (z_ov G out.1)) out.2 := by
  unfold F_X2_readTape at h
  refine z_met_of (by decide) rfl (Nat.le_of_ble_eq_true rfl) (fun p e s m below meth c ls hc hI hl => ?_)
  obtain ⟨⟨hx, hb, hml, hown, hts⟩, hr, hlk⟩ := id hc
  have hl : lv_has ls 2 [(0, .ref (z_ad G 5 0))] := hl
  refine lv_aload_n hx hb dX2_readTape_0 rfl (lv_at hl 0 rfl) ?_
  refine lv_iconst (v := 0) hx hb dX2_readTape_1 (by decide) ?_
  refine pf_X2_33 hc hI dX2_readTape_2 (fun H locs hI => ?_)
  refine lv_aload_n hx hb dX2_readTape_5 rfl (lv_at hl 0 rfl) ?_
  obtain ⟨q1, e2, h⟩ := z_bnd h
  refine iv_X2_36 hc hI (c_X2_readLaw e2) (z_room (by decide) (by decide)) hl.1 (Nat.le_of_ble_eq_true rfl) ⟨Nat.zero_le _, Nat.zero_le _⟩ dX2_readTape_6 (fun H locs hI => ?_)
  refine lv_if_eq (tgt := 30) hx hb dX2_readTape_9 (by decide) (fun c3 => ?_) (fun c3 => ?_)
  · replace h := z_ift h c3
    exact w_X2_readTape_b30 hc _ _ _ _ h hI hl
  · replace h := z_iff h c3
    refine lv_aload_n hx hb dX2_readTape_12 rfl (lv_at hl 0 rfl) ?_
    obtain ⟨q5, e6, h⟩ := z_bnd h
    refine iv_X2_40 hc hI (c_X2_readTreads e6) (z_room (by decide) (by decide)) hl.1 (Nat.le_of_ble_eq_true rfl) ⟨Nat.zero_le _, Nat.zero_le _⟩ dX2_readTape_13 (fun H locs hI => ?_)
    refine lv_if_eq (tgt := 30) hx hb dX2_readTape_16 (by decide) (fun c7 => ?_) (fun c7 => ?_)
    · replace h := z_ift h c7
      exact w_X2_readTape_b30 hc _ _ _ _ h hI hl
    · replace h := z_iff h c7
      refine lv_aload_n hx hb dX2_readTape_19 rfl (lv_at hl 0 rfl) ?_
      obtain ⟨q8, e9, h⟩ := z_bnd h
      refine iv_X2_43 hc hI (c_X2_readWalkers e9) (z_room (by decide) (by decide)) hl.1 (Nat.le_of_ble_eq_true rfl) ⟨Nat.zero_le _, Nat.zero_le _⟩ dX2_readTape_20 (fun H locs hI => ?_)
      refine lv_if_eq (tgt := 30) hx hb dX2_readTape_23 (by decide) (fun c10 => ?_) (fun c10 => ?_)
      · replace h := z_ift h c10
        exact w_X2_readTape_b30 hc _ _ _ _ h hI hl
      · replace h := z_iff h c10
        refine lv_iconst (v := 1) hx hb dX2_readTape_26 (by decide) ?_
        refine lv_goto (tgt := 31) hx hb dX2_readTape_27 (by decide) ?_
        exact w_X2_readTape_b31 hc 1 _ _ _ _ h hI hl
end
