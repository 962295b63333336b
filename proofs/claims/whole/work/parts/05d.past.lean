section
variable {p : Program} {l : Launch} {e : Env} {s : State} {m : MethodId} {args : Array Value} {below : List Frame} {meth : Method} {c : Code} {G : z_G}
set_option maxRecDepth 100000 in
set_option maxHeartbeats 4000000 in
theorem c_X1_forget {G : z_G} {l : Launch} {M : z_M} {out : z_M} (h : F_X1_forget M = some out) : z_Met G l yX1_forget cX1_forget 1 none 1 [.ref (z_ad G 12 0)] M (none) out := by
  unfold F_X1_forget at h
  refine z_met_of (by decide) rfl (Nat.le_of_ble_eq_true rfl) (fun p e s m below meth c ls hc hI hl => ?_)
  obtain ⟨⟨hx, hb, hml, hown, hts⟩, hr, hlk⟩ := id hc
  have hl : lv_has ls 1 [(0, .ref (z_ad G 12 0))] := hl
  refine lv_aload_n hx hb dX1_forget_0 rfl (lv_at hl 0 rfl) ?_
  refine lv_iconst (v := 0) hx hb dX1_forget_1 (by decide) ?_
  refine pf_X1_18 hc hI dX1_forget_2 (fun H locs hI => ?_)
  obtain rfl := Option.some.inj h
  exact z_rv hc hI dX1_forget_5
set_option maxRecDepth 100000 in
set_option maxHeartbeats 4000000 in
theorem c_X1_keptCount {G : z_G} {l : Launch} {M : z_M} {out : Int32} (h : F_X1_keptCount M = some out) : z_Met G l yX1_keptCount cX1_keptCount 1 (some .int) 1 [.ref (z_ad G 12 0)] M (some (.int out)) M := by
  unfold F_X1_keptCount at h
  refine z_met_of (by decide) rfl (Nat.le_of_ble_eq_true rfl) (fun p e s m below meth c ls hc hI hl => ?_)
  obtain ⟨⟨hx, hb, hml, hown, hts⟩, hr, hlk⟩ := id hc
  have hl : lv_has ls 1 [(0, .ref (z_ad G 12 0))] := hl
  refine lv_aload_n hx hb dX1_keptCount_0 rfl (lv_at hl 0 rfl) ?_
  refine gf_X1_18 hc hI dX1_keptCount_1 ?_
  obtain rfl := Option.some.inj h
  exact z_ri hc hI dX1_keptCount_4
set_option maxRecDepth 100000 in
set_option maxHeartbeats 4000000 in
theorem c_X1_townAt {G : z_G} {l : Launch} {a1 : Int32} {M : z_M} {out : (Option Nat)} (h : F_X1_townAt a1 M = some out) : z_Met G l yX1_townAt cX1_townAt 2 (some (.object "StairTunes$Town")) 1 [.ref (z_ad G 12 0), .int a1] M (some (z_ov G out)) M := by
  unfold F_X1_townAt at h
  refine z_met_of (by decide) rfl (Nat.le_of_ble_eq_true rfl) (fun p e s m below meth c ls hc hI hl => ?_)
  obtain ⟨⟨hx, hb, hml, hown, hts⟩, hr, hlk⟩ := id hc
  have hl : lv_has ls 2 [(0, .ref (z_ad G 12 0)), (1, .int a1)] := hl
  refine lv_iload_n hx hb dX1_townAt_0 rfl (lv_at hl 1 rfl) ?_
  refine lv_if_lt (tgt := 19) hx hb dX1_townAt_1 (by decide) (fun c1 => ?_) (fun c1 => ?_)
  · replace h := z_ift h c1
    refine lv_null hx hb dX1_townAt_19 ?_
    obtain rfl := Option.some.inj h
    exact z_ra hc hI (Or.inl rfl) dX1_townAt_20
  · replace h := z_iff h c1
    refine lv_iload_n hx hb dX1_townAt_4 rfl (lv_at hl 1 rfl) ?_
    refine lv_bipush (v := 24) hx hb dX1_townAt_5 (by decide) ?_
    refine lv_icmp_ge (tgt := 19) hx hb dX1_townAt_7 (by decide) (fun c2 => ?_) (fun c2 => ?_)
    · replace h := z_ift h c2
      refine lv_null hx hb dX1_townAt_19 ?_
      obtain rfl := Option.some.inj h
      exact z_ra hc hI (Or.inl rfl) dX1_townAt_20
    · replace h := z_iff h c2
      refine lv_aload_n hx hb dX1_townAt_10 rfl (lv_at hl 0 rfl) ?_
      refine gf_X1_11 hc hI dX1_townAt_11 ?_
      refine lv_iload_n hx hb dX1_townAt_14 rfl (lv_at hl 1 rfl) ?_
      obtain ⟨g3, h⟩ := z_grd_some h
      refine ld_k13 hc hI g3 dX1_townAt_15 ?_
      obtain ⟨g4, h⟩ := z_grd_some h
      refine lv_goto (tgt := 20) hx hb dX1_townAt_16 (by decide) ?_
      obtain rfl := Option.some.inj h
      exact z_ra hc hI (Or.inr ⟨_, rfl⟩) dX1_townAt_20
set_option maxRecDepth 100000 in
set_option maxHeartbeats 4000000 in
theorem w_X1_keep_b41 (hc : z_C p s m args meth c RX1 cX1_keep 3 none) {out : z_M} (s0 : Int32) (M : z_M) (H : Heap) (locs : List Loc) (ls : Array Slot) (h : F_X1_keep_b41 s0 M = some out) (hI : z_I G s M H locs) (hl : lv_has ls 3 [(0, .ref (z_ad G 12 0))]) : W p l e (z_rm 2) s m args below meth c H locs 0 0 (MQ below (z_Q G (none) out) args s 0 0 (z_A G)) (F0 m 41 ls [.int s0, .ref (z_ad G 12 0)]) := by
  obtain ⟨⟨hx, hb, hml, hown, hts⟩, hr, hlk⟩ := id hc
  unfold F_X1_keep_b41 at h
  refine pf_X1_22 hc hI dX1_keep_41 (fun H locs hI => ?_)
  refine lv_aload_n hx hb dX1_keep_44 rfl (lv_at hl 0 rfl) ?_
  refine lv_bipush (v := 24) hx hb dX1_keep_45 (by decide) ?_
  refine lv_aload_n hx hb dX1_keep_47 rfl (lv_at hl 0 rfl) ?_
  obtain ⟨M8, h, hI⟩ := z_nM h hI
  refine gf_X1_18 hc hI dX1_keep_48 ?_
  refine lv_iconst (v := 1) hx hb dX1_keep_51 (by decide) ?_
  refine lv_iadd hx hb dX1_keep_52 ?_
  refine mt_X1_33 hc hl.1 (z_frm (by decide)) (z_lrm (Nat.le_of_ble_eq_true rfl)) ⟨Nat.zero_le _, Nat.zero_le _⟩ dX1_keep_53 ?_
  refine pf_X1_18 hc hI dX1_keep_56 (fun H locs hI => ?_)
  obtain rfl := Option.some.inj h
  exact z_rv hc hI dX1_keep_59
set_option maxRecDepth 100000 in
set_option maxHeartbeats 4000000 in
theorem c_X1_keep {G : z_G} {l : Launch} {M : z_M} {out : z_M} (h : F_X1_keep M = some out) : z_Met G l yX1_keep cX1_keep 3 none 2 [.ref (z_ad G 12 0), .ref (z_ad G 7 24)] M (none) out := by
  unfold F_X1_keep at h
  refine z_met_of (by decide) rfl (Nat.le_of_ble_eq_true rfl) (fun p e s m below meth c ls hc hI hl => ?_)
  obtain ⟨⟨hx, hb, hml, hown, hts⟩, hr, hlk⟩ := id hc
  have hl : lv_has ls 3 [(0, .ref (z_ad G 12 0)), (1, .ref (z_ad G 7 24))] := hl
  refine lv_aload_n hx hb dX1_keep_0 rfl (lv_at hl 0 rfl) ?_
  refine lv_aload_n hx hb dX1_keep_1 rfl (lv_at hl 0 rfl) ?_
  refine gf_X1_22 hc hI dX1_keep_2 ?_
  obtain ⟨q1, e2, h⟩ := z_bnd h
  refine iv_X1_25 hc hI (c_X1_townAt e2) (z_room (by decide) (by decide)) hl.1 (Nat.le_of_ble_eq_true rfl) ⟨Nat.zero_le _, Nat.zero_le _⟩ dX1_keep_5 (fun H locs hI => ?_)
  cases q1 with
  | none =>
    replace h := z_opt_none h
    refine lv_astore_nN (lv' := [(2, .null), (0, .ref (z_ad G 12 0)), (1, .ref (z_ad G 7 24))]) hx hb dX1_keep_8 rfl hl (by decide) rfl (fun ls hl => ?_)
    refine lv_aload_nN hx hb dX1_keep_9 rfl (lv_at hl 0 rfl) ?_
    refine lv_ifnonnullN hx hb dX1_keep_10 ?_
    obtain rfl := Option.some.inj h
    exact z_rv hc hI dX1_keep_13
  | some j3 =>
    obtain ⟨g4, h⟩ := z_grd_some (z_opt_some h)
    refine lv_astore_n (lv' := [(2, .ref (z_ad G 7 j3)), (0, .ref (z_ad G 12 0)), (1, .ref (z_ad G 7 24))]) hx hb dX1_keep_8 rfl hl (by decide) rfl (fun ls hl => ?_)
    refine lv_aload_n hx hb dX1_keep_9 rfl (lv_at hl 0 rfl) ?_
    refine lv_ifnonnull (tgt := 14) hx hb dX1_keep_10 (by decide) ?_
    refine lv_aload_n hx hb dX1_keep_14 rfl (lv_at hl 0 rfl) ?_
    refine lv_aload_n hx hb dX1_keep_15 rfl (lv_at hl 2 rfl) ?_
    obtain ⟨q5, e6, h⟩ := z_bnd h
    refine iv_X1_29 g4 hc hI (c_X5_take g4 (o1 := some 24) (fun _ h => by cases h; exact (by decide)) e6) (z_room (by decide) (by decide)) hl.1 (Nat.le_of_ble_eq_true rfl) ⟨Nat.zero_le _, Nat.zero_le _⟩ dX1_keep_16 (fun H locs hI => ?_)
    refine lv_aload_n hx hb dX1_keep_19 rfl (lv_at hl 1 rfl) ?_
    refine lv_aload_n hx hb dX1_keep_20 rfl (lv_at hl 1 rfl) ?_
    refine gf_X1_22 hc hI dX1_keep_21 ?_
    refine lv_iconst (v := 1) hx hb dX1_keep_24 (by decide) ?_
    refine lv_iadd hx hb dX1_keep_25 ?_
    refine lv_bipush (v := 24) hx hb dX1_keep_26 (by decide) ?_
    refine lv_icmp_ge (tgt := 40) hx hb dX1_keep_28 (by decide) (fun c7 => ?_) (fun c7 => ?_)
    · replace h := z_ift h c7
      refine lv_iconst (v := 0) hx hb dX1_keep_40 (by decide) ?_
      exact w_X1_keep_b41 hc 0 _ _ _ _ h hI (lv_sub hl [1] rfl)
    · replace h := z_iff h c7
      refine lv_aload_n hx hb dX1_keep_31 rfl (lv_at hl 1 rfl) ?_
      refine gf_X1_22 hc hI dX1_keep_32 ?_
      refine lv_iconst (v := 1) hx hb dX1_keep_35 (by decide) ?_
      refine lv_iadd hx hb dX1_keep_36 ?_
      refine lv_goto (tgt := 41) hx hb dX1_keep_37 (by decide) ?_
      exact w_X1_keep_b41 hc ((z_gi q5 12 0 1) + 1) _ _ _ _ h hI (lv_sub hl [1] rfl)
set_option maxRecDepth 100000 in
set_option maxHeartbeats 4000000 in
theorem w_X1_takeBack_b34 (hc : z_C p s m args meth c RX1 cX1_takeBack 2 (some .int)) {out : (Int32 × z_M)} (s0 : Int32) (M : z_M) (H : Heap) (locs : List Loc) (ls : Array Slot) (h : F_X1_takeBack_b34 s0 M = some out) (hI : z_I G s M H locs) (hl : lv_has ls 2 [(0, .ref (z_ad G 12 0)), (1, .ref (z_ad G 7 24))]) : W p l e (z_rm 2) s m args below meth c H locs 0 0 (MQ below (z_Q G (some (.int out.1)) out.2) args s 0 0 (z_A G)) (F0 m 34 ls [.int s0, .ref (z_ad G 12 0)]) := by
  obtain ⟨⟨hx, hb, hml, hown, hts⟩, hr, hlk⟩ := id hc
  unfold F_X1_takeBack_b34 at h
  refine pf_X1_22 hc hI dX1_takeBack_34 (fun H locs hI => ?_)
  refine lv_aload_n hx hb dX1_takeBack_37 rfl (lv_at hl 1 rfl) ?_
  refine lv_aload_n hx hb dX1_takeBack_38 rfl (lv_at hl 0 rfl) ?_
  refine lv_aload_n hx hb dX1_takeBack_39 rfl (lv_at hl 0 rfl) ?_
  obtain ⟨M3, h, hI⟩ := z_nM h hI
  refine gf_X1_22 hc hI dX1_takeBack_40 ?_
  obtain ⟨q4, e5, h⟩ := z_bnd h
  refine iv_X1_25 hc hI (c_X1_townAt e5) (z_room (by decide) (by decide)) hl.1 (Nat.le_of_ble_eq_true rfl) ⟨Nat.zero_le _, Nat.zero_le _⟩ dX1_takeBack_43 (fun H locs hI => ?_)
  cases q4 with
  | none =>
    replace h := z_opt_none h
    obtain ⟨q7, e8, h⟩ := z_bnd h
    refine iv_X1_29 (by decide) hc hI (c_X5_take (by decide) (o1 := none) (fun _ h => by cases h) e8) (z_room (by decide) (by decide)) hl.1 (Nat.le_of_ble_eq_true rfl) ⟨Nat.zero_le _, Nat.zero_le _⟩ dX1_takeBack_46 (fun H locs hI => ?_)
    refine lv_aload_n hx hb dX1_takeBack_49 rfl (lv_at hl 0 rfl) ?_
    refine lv_dup hx hb dX1_takeBack_50 rfl ?_
    refine gf_X1_18 hc hI dX1_takeBack_51 ?_
    refine lv_iconst (v := 1) hx hb dX1_takeBack_54 (by decide) ?_
    refine lv_isub hx hb dX1_takeBack_55 ?_
    refine pf_X1_18 hc hI dX1_takeBack_56 (fun H locs hI => ?_)
    refine lv_aload_n hx hb dX1_takeBack_59 rfl (lv_at hl 0 rfl) ?_
    obtain ⟨M9, h, hI⟩ := z_nM h hI
    refine gf_X1_18 hc hI dX1_takeBack_60 ?_
    obtain rfl := Option.some.inj h
    exact z_ri hc hI dX1_takeBack_63
  | some j6 =>
    obtain ⟨g10, h⟩ := z_grd_some (z_opt_some h)
    obtain ⟨q11, e12, h⟩ := z_bnd h
    refine iv_X1_29 (by decide) hc hI (c_X5_take (by decide) (o1 := some j6) (fun _ h => by cases h; exact g10) e12) (z_room (by decide) (by decide)) hl.1 (Nat.le_of_ble_eq_true rfl) ⟨Nat.zero_le _, Nat.zero_le _⟩ dX1_takeBack_46 (fun H locs hI => ?_)
    refine lv_aload_n hx hb dX1_takeBack_49 rfl (lv_at hl 0 rfl) ?_
    refine lv_dup hx hb dX1_takeBack_50 rfl ?_
    refine gf_X1_18 hc hI dX1_takeBack_51 ?_
    refine lv_iconst (v := 1) hx hb dX1_takeBack_54 (by decide) ?_
    refine lv_isub hx hb dX1_takeBack_55 ?_
    refine pf_X1_18 hc hI dX1_takeBack_56 (fun H locs hI => ?_)
    refine lv_aload_n hx hb dX1_takeBack_59 rfl (lv_at hl 0 rfl) ?_
    obtain ⟨M13, h, hI⟩ := z_nM h hI
    refine gf_X1_18 hc hI dX1_takeBack_60 ?_
    obtain rfl := Option.some.inj h
    exact z_ri hc hI dX1_takeBack_63
set_option maxRecDepth 100000 in
set_option maxHeartbeats 4000000 in
theorem c_X1_takeBack {G : z_G} {l : Launch} {M : z_M} {out : (Int32 × z_M)} (h : F_X1_takeBack M = some out) : z_Met G l yX1_takeBack cX1_takeBack 2 (some .int) 2 [.ref (z_ad G 12 0), .ref (z_ad G 7 24)] M (some (.int out.1)) out.2 := by
  unfold F_X1_takeBack at h
  refine z_met_of (by decide) rfl (Nat.le_of_ble_eq_true rfl) (fun p e s m below meth c ls hc hI hl => ?_)
  obtain ⟨⟨hx, hb, hml, hown, hts⟩, hr, hlk⟩ := id hc
  have hl : lv_has ls 2 [(0, .ref (z_ad G 12 0)), (1, .ref (z_ad G 7 24))] := hl
  refine lv_aload_n hx hb dX1_takeBack_0 rfl (lv_at hl 1 rfl) ?_
  refine lv_ifnull hx hb dX1_takeBack_1 ?_
  refine lv_aload_n hx hb dX1_takeBack_4 rfl (lv_at hl 0 rfl) ?_
  refine gf_X1_18 hc hI dX1_takeBack_5 ?_
  refine lv_iconst (v := 1) hx hb dX1_takeBack_8 (by decide) ?_
  refine lv_icmp_ge (tgt := 15) hx hb dX1_takeBack_9 (by decide) (fun c1 => ?_) (fun c1 => ?_)
  · replace h := z_ift h c1
    refine lv_aload_n hx hb dX1_takeBack_15 rfl (lv_at hl 0 rfl) ?_
    refine lv_aload_n hx hb dX1_takeBack_16 rfl (lv_at hl 0 rfl) ?_
    refine gf_X1_22 hc hI dX1_takeBack_17 ?_
    refine lv_if_le (tgt := 32) hx hb dX1_takeBack_20 (by decide) (fun c2 => ?_) (fun c2 => ?_)
    · replace h := z_ift h c2
      refine lv_bipush (v := 23) hx hb dX1_takeBack_32 (by decide) ?_
      exact w_X1_takeBack_b34 hc 23 _ _ _ _ h hI hl
    · replace h := z_iff h c2
      refine lv_aload_n hx hb dX1_takeBack_23 rfl (lv_at hl 0 rfl) ?_
      refine gf_X1_22 hc hI dX1_takeBack_24 ?_
      refine lv_iconst (v := 1) hx hb dX1_takeBack_27 (by decide) ?_
      refine lv_isub hx hb dX1_takeBack_28 ?_
      refine lv_goto (tgt := 34) hx hb dX1_takeBack_29 (by decide) ?_
      exact w_X1_takeBack_b34 hc ((z_gi M 12 0 1) - 1) _ _ _ _ h hI hl
  · replace h := z_iff h c1
    refine lv_ldc (v := (-1000002)) hx hb hown (hts _ wd_2_132) dX1_takeBack_12 ?_
    obtain rfl := Option.some.inj h
    exact z_ri hc hI dX1_takeBack_14
end
