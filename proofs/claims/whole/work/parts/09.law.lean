/-! THE LAW: its cases, its loop -/
theorem z_sin {j t L : Nat} (h : 8 * j + 8 ≤ L) (ht : t < 8) (hL : L ≤ 4096) {x : Int32} (hx : x = nI (8 * j + t) := by first | rfl | exact nI_add _ _) : vp_in x L := by
  subst hx
  exact vp_in_nI (by omega) (by omega)
def z_xs (xs : Nat → Int32) (j t : Nat) : Int32 := xs (if t = 0 then nI (8 * j) else nI (8 * j) + nI t).toNatClampNeg
theorem z_cmp0 (r : Int64) : lg_cmp r r = 0 := by
  unfold lg_cmp
  rw [if_neg (by show ¬ r < r; simp [Int64.lt_irrefl]), if_pos rfl]
theorem z_ti {n : Nat} (h : n < 2 ^ 31) : (nI n).toInt = (n : Int) := nI_toInt h
theorem z_l8 {L : Nat} (hL : L ≤ 4096) : (nI L - 8).toInt = (L : Int) - 8 := pk_sub_toInt (a := L) (b := 8) (by omega) (by decide)
theorem z_gt {j L : Nat} (hL : L ≤ 4096) (h : L < 8 * j + 8) (h2 : 8 * j ≤ 4096) : nI L - 8 < nI (8 * j) := by
  rw [Int32.lt_iff_toInt_lt, z_l8 hL, nI_toInt (by omega)]
  omega
theorem z_ngt {j L : Nat} (hL : L ≤ 4096) (h2 : 8 * j ≤ 4096) (h : ¬ nI L - 8 < nI (8 * j)) : 8 * j + 8 ≤ L := by
  rw [Int32.lt_iff_toInt_lt, z_l8 hL, nI_toInt (by omega)] at h
  omega
theorem wd_1_192 : Cond.methodLink RL 13 yX6_row ∈ z_tb := z_tbm (z_m1 (List.mem_of_getElem? (i := 192) (by decide +kernel))) (by decide +kernel)
theorem wd_1_193 : Cond.instanceMethod yX6_row ∈ z_tb := z_tbm (z_m1 (List.mem_of_getElem? (i := 193) (by decide +kernel))) (by decide +kernel)
theorem wd_1_194 : Cond.selects RX6 yX6_row yX6_row ∈ z_tb := z_tbm (z_m1 (List.mem_of_getElem? (i := 194) (by decide +kernel))) (by decide +kernel)
theorem wd_1_195 : Cond.code yX6_row cX6_row 4 (some .int) ∈ z_tb := z_tbm (z_m1 (List.mem_of_getElem? (i := 195) (by decide +kernel))) (by decide +kernel)
theorem wd_1_212 : Cond.methodLink RL 18 yX6_set ∈ z_tb := z_tbm (z_m1 (List.mem_of_getElem? (i := 212) (by decide +kernel))) (by decide +kernel)
theorem wd_1_213 : Cond.instanceMethod yX6_set ∈ z_tb := z_tbm (z_m1 (List.mem_of_getElem? (i := 213) (by decide +kernel))) (by decide +kernel)
theorem wd_1_214 : Cond.selects RX6 yX6_set yX6_set ∈ z_tb := z_tbm (z_m1 (List.mem_of_getElem? (i := 214) (by decide +kernel))) (by decide +kernel)
theorem wd_1_215 : Cond.code yX6_set cX6_set 4 (some .int) ∈ z_tb := z_tbm (z_m1 (List.mem_of_getElem? (i := 215) (by decide +kernel))) (by decide +kernel)
theorem wd_1_229 : Cond.methodLink RL 22 yX6_copy ∈ z_tb := z_tbm (z_m1 (List.mem_of_getElem? (i := 229) (by decide +kernel))) (by decide +kernel)
theorem wd_1_230 : Cond.instanceMethod yX6_copy ∈ z_tb := z_tbm (z_m1 (List.mem_of_getElem? (i := 230) (by decide +kernel))) (by decide +kernel)
theorem wd_1_231 : Cond.selects RX6 yX6_copy yX6_copy ∈ z_tb := z_tbm (z_m1 (List.mem_of_getElem? (i := 231) (by decide +kernel))) (by decide +kernel)
theorem wd_1_232 : Cond.code yX6_copy cX6_copy 6 (some .int) ∈ z_tb := z_tbm (z_m1 (List.mem_of_getElem? (i := 232) (by decide +kernel))) (by decide +kernel)
theorem wd_2_116 : Cond.methodLink RL 41 yX6_fault ∈ z_tb := z_tbm (z_m2 (List.mem_of_getElem? (i := 116) (by decide +kernel))) (by decide +kernel)
theorem wd_2_117 : Cond.instanceMethod yX6_fault ∈ z_tb := z_tbm (z_m2 (List.mem_of_getElem? (i := 117) (by decide +kernel))) (by decide +kernel)
theorem wd_2_118 : Cond.selects RX6 yX6_fault yX6_fault ∈ z_tb := z_tbm (z_m2 (List.mem_of_getElem? (i := 118) (by decide +kernel))) (by decide +kernel)
theorem wd_2_119 : Cond.code yX6_fault cX6_fault 1 (some .int) ∈ z_tb := z_tbm (z_m2 (List.mem_of_getElem? (i := 119) (by decide +kernel))) (by decide +kernel)
theorem wd_2_124 : Cond.methodLink RL 45 yX6_undo ∈ z_tb := z_tbm (z_m2 (List.mem_of_getElem? (i := 124) (by decide +kernel))) (by decide +kernel)
theorem wd_2_125 : Cond.instanceMethod yX6_undo ∈ z_tb := z_tbm (z_m2 (List.mem_of_getElem? (i := 125) (by decide +kernel))) (by decide +kernel)
theorem wd_2_126 : Cond.selects RX6 yX6_undo yX6_undo ∈ z_tb := z_tbm (z_m2 (List.mem_of_getElem? (i := 126) (by decide +kernel))) (by decide +kernel)
theorem wd_2_127 : Cond.code yX6_undo cX6_undo 1 (some .int) ∈ z_tb := z_tbm (z_m2 (List.mem_of_getElem? (i := 127) (by decide +kernel))) (by decide +kernel)
theorem wd_2_138 : Cond.methodLink RL 49 yX6_days ∈ z_tb := z_tbm (z_m2 (List.mem_of_getElem? (i := 138) (by decide +kernel))) (by decide +kernel)
theorem wd_2_139 : Cond.instanceMethod yX6_days ∈ z_tb := z_tbm (z_m2 (List.mem_of_getElem? (i := 139) (by decide +kernel))) (by decide +kernel)
theorem wd_2_14 : Cond.methodLink RL 32 yX6_feed ∈ z_tb := z_tbm (z_m2 (List.mem_of_getElem? (i := 14) (by decide +kernel))) (by decide +kernel)
theorem wd_2_140 : Cond.selects RX6 yX6_days yX6_days ∈ z_tb := z_tbm (z_m2 (List.mem_of_getElem? (i := 140) (by decide +kernel))) (by decide +kernel)
theorem wd_2_141 : Cond.code yX6_days cX6_days 3 (some .int) ∈ z_tb := z_tbm (z_m2 (List.mem_of_getElem? (i := 141) (by decide +kernel))) (by decide +kernel)
theorem wd_2_15 : Cond.instanceMethod yX6_feed ∈ z_tb := z_tbm (z_m2 (List.mem_of_getElem? (i := 15) (by decide +kernel))) (by decide +kernel)
theorem wd_2_16 : Cond.selects RX6 yX6_feed yX6_feed ∈ z_tb := z_tbm (z_m2 (List.mem_of_getElem? (i := 16) (by decide +kernel))) (by decide +kernel)
theorem wd_2_17 : Cond.code yX6_feed cX6_feed 2 (some .int) ∈ z_tb := z_tbm (z_m2 (List.mem_of_getElem? (i := 17) (by decide +kernel))) (by decide +kernel)
theorem wd_2_197 : Cond.methodLink RL 53 yX6_plane ∈ z_tb := z_tbm (z_m2 (List.mem_of_getElem? (i := 197) (by decide +kernel))) (by decide +kernel)
theorem wd_2_198 : Cond.instanceMethod yX6_plane ∈ z_tb := z_tbm (z_m2 (List.mem_of_getElem? (i := 198) (by decide +kernel))) (by decide +kernel)
theorem wd_2_199 : Cond.selects RX6 yX6_plane yX6_plane ∈ z_tb := z_tbm (z_m2 (List.mem_of_getElem? (i := 199) (by decide +kernel))) (by decide +kernel)
theorem wd_2_200 : Cond.code yX6_plane cX6_plane 4 (some .int) ∈ z_tb := z_tbm (z_m2 (List.mem_of_getElem? (i := 200) (by decide +kernel))) (by decide +kernel)
theorem wd_2_217 : Cond.methodLink RL 58 yX6_reach ∈ z_tb := z_tbm (z_m2 (List.mem_of_getElem? (i := 217) (by decide +kernel))) (by decide +kernel)
theorem wd_2_218 : Cond.instanceMethod yX6_reach ∈ z_tb := z_tbm (z_m2 (List.mem_of_getElem? (i := 218) (by decide +kernel))) (by decide +kernel)
theorem wd_2_219 : Cond.selects RX6 yX6_reach yX6_reach ∈ z_tb := z_tbm (z_m2 (List.mem_of_getElem? (i := 219) (by decide +kernel))) (by decide +kernel)
theorem wd_2_220 : Cond.code yX6_reach cX6_reach 3 (some .int) ∈ z_tb := z_tbm (z_m2 (List.mem_of_getElem? (i := 220) (by decide +kernel))) (by decide +kernel)
theorem wd_2_229 : Cond.methodLink RL 62 yX6_way ∈ z_tb := z_tbm (z_m2 (List.mem_of_getElem? (i := 229) (by decide +kernel))) (by decide +kernel)
theorem wd_2_230 : Cond.instanceMethod yX6_way ∈ z_tb := z_tbm (z_m2 (List.mem_of_getElem? (i := 230) (by decide +kernel))) (by decide +kernel)
theorem wd_2_231 : Cond.selects RX6 yX6_way yX6_way ∈ z_tb := z_tbm (z_m2 (List.mem_of_getElem? (i := 231) (by decide +kernel))) (by decide +kernel)
theorem wd_2_232 : Cond.code yX6_way cX6_way 4 (some .int) ∈ z_tb := z_tbm (z_m2 (List.mem_of_getElem? (i := 232) (by decide +kernel))) (by decide +kernel)
theorem wd_2_26 : Cond.methodLink RL 36 yX6_town ∈ z_tb := z_tbm (z_m2 (List.mem_of_getElem? (i := 26) (by decide +kernel))) (by decide +kernel)
theorem wd_2_27 : Cond.instanceMethod yX6_town ∈ z_tb := z_tbm (z_m2 (List.mem_of_getElem? (i := 27) (by decide +kernel))) (by decide +kernel)
theorem wd_2_28 : Cond.selects RX6 yX6_town yX6_town ∈ z_tb := z_tbm (z_m2 (List.mem_of_getElem? (i := 28) (by decide +kernel))) (by decide +kernel)
theorem wd_2_29 : Cond.code yX6_town cX6_town 2 (some .int) ∈ z_tb := z_tbm (z_m2 (List.mem_of_getElem? (i := 29) (by decide +kernel))) (by decide +kernel)
theorem wd_2_5 : Cond.methodLink RL 27 yX6_drop ∈ z_tb := z_tbm (z_m2 (List.mem_of_getElem? (i := 5) (by decide +kernel))) (by decide +kernel)
theorem wd_2_6 : Cond.instanceMethod yX6_drop ∈ z_tb := z_tbm (z_m2 (List.mem_of_getElem? (i := 6) (by decide +kernel))) (by decide +kernel)
theorem wd_2_7 : Cond.selects RX6 yX6_drop yX6_drop ∈ z_tb := z_tbm (z_m2 (List.mem_of_getElem? (i := 7) (by decide +kernel))) (by decide +kernel)
theorem wd_2_8 : Cond.code yX6_drop cX6_drop 2 (some .int) ∈ z_tb := z_tbm (z_m2 (List.mem_of_getElem? (i := 8) (by decide +kernel))) (by decide +kernel)
theorem wd_3_10 : Cond.methodLink RL 70 yX6_tread ∈ z_tb := z_tbm (z_m3 (List.mem_of_getElem? (i := 10) (by decide +kernel))) (by decide +kernel)
theorem wd_3_105 : Cond.methodLink RL 102 yX6_choir ∈ z_tb := z_tbm (z_m3 (List.mem_of_getElem? (i := 105) (by decide +kernel))) (by decide +kernel)
theorem wd_3_106 : Cond.instanceMethod yX6_choir ∈ z_tb := z_tbm (z_m3 (List.mem_of_getElem? (i := 106) (by decide +kernel))) (by decide +kernel)
theorem wd_3_107 : Cond.selects RX6 yX6_choir yX6_choir ∈ z_tb := z_tbm (z_m3 (List.mem_of_getElem? (i := 107) (by decide +kernel))) (by decide +kernel)
theorem wd_3_108 : Cond.code yX6_choir cX6_choir 2 (some .int) ∈ z_tb := z_tbm (z_m3 (List.mem_of_getElem? (i := 108) (by decide +kernel))) (by decide +kernel)
theorem wd_3_11 : Cond.instanceMethod yX6_tread ∈ z_tb := z_tbm (z_m3 (List.mem_of_getElem? (i := 11) (by decide +kernel))) (by decide +kernel)
theorem wd_3_12 : Cond.selects RX6 yX6_tread yX6_tread ∈ z_tb := z_tbm (z_m3 (List.mem_of_getElem? (i := 12) (by decide +kernel))) (by decide +kernel)
theorem wd_3_120 : Cond.methodLink RL 106 yX6_twins ∈ z_tb := z_tbm (z_m3 (List.mem_of_getElem? (i := 120) (by decide +kernel))) (by decide +kernel)
theorem wd_3_121 : Cond.instanceMethod yX6_twins ∈ z_tb := z_tbm (z_m3 (List.mem_of_getElem? (i := 121) (by decide +kernel))) (by decide +kernel)
theorem wd_3_122 : Cond.selects RX6 yX6_twins yX6_twins ∈ z_tb := z_tbm (z_m3 (List.mem_of_getElem? (i := 122) (by decide +kernel))) (by decide +kernel)
theorem wd_3_123 : Cond.code yX6_twins cX6_twins 2 (some .int) ∈ z_tb := z_tbm (z_m3 (List.mem_of_getElem? (i := 123) (by decide +kernel))) (by decide +kernel)
theorem wd_3_13 : Cond.code yX6_tread cX6_tread 3 (some .int) ∈ z_tb := z_tbm (z_m3 (List.mem_of_getElem? (i := 13) (by decide +kernel))) (by decide +kernel)
theorem wd_3_146 : Cond.methodLink RL 110 yX6_felt ∈ z_tb := z_tbm (z_m3 (List.mem_of_getElem? (i := 146) (by decide +kernel))) (by decide +kernel)
theorem wd_3_147 : Cond.instanceMethod yX6_felt ∈ z_tb := z_tbm (z_m3 (List.mem_of_getElem? (i := 147) (by decide +kernel))) (by decide +kernel)
theorem wd_3_148 : Cond.selects RX6 yX6_felt yX6_felt ∈ z_tb := z_tbm (z_m3 (List.mem_of_getElem? (i := 148) (by decide +kernel))) (by decide +kernel)
theorem wd_3_149 : Cond.code yX6_felt cX6_felt 4 (some .int) ∈ z_tb := z_tbm (z_m3 (List.mem_of_getElem? (i := 149) (by decide +kernel))) (by decide +kernel)
theorem wd_3_176 : Cond.methodLink RL 114 yX6_doors ∈ z_tb := z_tbm (z_m3 (List.mem_of_getElem? (i := 176) (by decide +kernel))) (by decide +kernel)
theorem wd_3_177 : Cond.instanceMethod yX6_doors ∈ z_tb := z_tbm (z_m3 (List.mem_of_getElem? (i := 177) (by decide +kernel))) (by decide +kernel)
theorem wd_3_178 : Cond.selects RX6 yX6_doors yX6_doors ∈ z_tb := z_tbm (z_m3 (List.mem_of_getElem? (i := 178) (by decide +kernel))) (by decide +kernel)
theorem wd_3_179 : Cond.code yX6_doors cX6_doors 2 (some .int) ∈ z_tb := z_tbm (z_m3 (List.mem_of_getElem? (i := 179) (by decide +kernel))) (by decide +kernel)
theorem wd_3_192 : Cond.methodLink RL 118 yX6_planed ∈ z_tb := z_tbm (z_m3 (List.mem_of_getElem? (i := 192) (by decide +kernel))) (by decide +kernel)
theorem wd_3_193 : Cond.instanceMethod yX6_planed ∈ z_tb := z_tbm (z_m3 (List.mem_of_getElem? (i := 193) (by decide +kernel))) (by decide +kernel)
theorem wd_3_194 : Cond.selects RX6 yX6_planed yX6_planed ∈ z_tb := z_tbm (z_m3 (List.mem_of_getElem? (i := 194) (by decide +kernel))) (by decide +kernel)
theorem wd_3_195 : Cond.code yX6_planed cX6_planed 2 (some .int) ∈ z_tb := z_tbm (z_m3 (List.mem_of_getElem? (i := 195) (by decide +kernel))) (by decide +kernel)
theorem wd_3_205 : Cond.methodLink RL 122 yX6_rise ∈ z_tb := z_tbm (z_m3 (List.mem_of_getElem? (i := 205) (by decide +kernel))) (by decide +kernel)
theorem wd_3_206 : Cond.instanceMethod yX6_rise ∈ z_tb := z_tbm (z_m3 (List.mem_of_getElem? (i := 206) (by decide +kernel))) (by decide +kernel)
theorem wd_3_207 : Cond.selects RX6 yX6_rise yX6_rise ∈ z_tb := z_tbm (z_m3 (List.mem_of_getElem? (i := 207) (by decide +kernel))) (by decide +kernel)
theorem wd_3_208 : Cond.code yX6_rise cX6_rise 5 (some .int) ∈ z_tb := z_tbm (z_m3 (List.mem_of_getElem? (i := 208) (by decide +kernel))) (by decide +kernel)
theorem wd_3_220 : Cond.methodLink RL 127 yX6_what ∈ z_tb := z_tbm (z_m3 (List.mem_of_getElem? (i := 220) (by decide +kernel))) (by decide +kernel)
theorem wd_3_221 : Cond.instanceMethod yX6_what ∈ z_tb := z_tbm (z_m3 (List.mem_of_getElem? (i := 221) (by decide +kernel))) (by decide +kernel)
theorem wd_3_222 : Cond.selects RX6 yX6_what yX6_what ∈ z_tb := z_tbm (z_m3 (List.mem_of_getElem? (i := 222) (by decide +kernel))) (by decide +kernel)
theorem wd_3_223 : Cond.code yX6_what cX6_what 9 (some .int) ∈ z_tb := z_tbm (z_m3 (List.mem_of_getElem? (i := 223) (by decide +kernel))) (by decide +kernel)
theorem wd_3_23 : Cond.methodLink RL 74 yX6_walker ∈ z_tb := z_tbm (z_m3 (List.mem_of_getElem? (i := 23) (by decide +kernel))) (by decide +kernel)
theorem wd_3_24 : Cond.instanceMethod yX6_walker ∈ z_tb := z_tbm (z_m3 (List.mem_of_getElem? (i := 24) (by decide +kernel))) (by decide +kernel)
theorem wd_3_25 : Cond.selects RX6 yX6_walker yX6_walker ∈ z_tb := z_tbm (z_m3 (List.mem_of_getElem? (i := 25) (by decide +kernel))) (by decide +kernel)
theorem wd_3_26 : Cond.code yX6_walker cX6_walker 3 (some .int) ∈ z_tb := z_tbm (z_m3 (List.mem_of_getElem? (i := 26) (by decide +kernel))) (by decide +kernel)
theorem wd_3_28 : Cond.methodLink RL 78 yX6_tune ∈ z_tb := z_tbm (z_m3 (List.mem_of_getElem? (i := 28) (by decide +kernel))) (by decide +kernel)
theorem wd_3_29 : Cond.instanceMethod yX6_tune ∈ z_tb := z_tbm (z_m3 (List.mem_of_getElem? (i := 29) (by decide +kernel))) (by decide +kernel)
theorem wd_3_30 : Cond.selects RX6 yX6_tune yX6_tune ∈ z_tb := z_tbm (z_m3 (List.mem_of_getElem? (i := 30) (by decide +kernel))) (by decide +kernel)
theorem wd_3_31 : Cond.code yX6_tune cX6_tune 3 (some .int) ∈ z_tb := z_tbm (z_m3 (List.mem_of_getElem? (i := 31) (by decide +kernel))) (by decide +kernel)
theorem wd_3_45 : Cond.methodLink RL 82 yX6_where ∈ z_tb := z_tbm (z_m3 (List.mem_of_getElem? (i := 45) (by decide +kernel))) (by decide +kernel)
theorem wd_3_46 : Cond.instanceMethod yX6_where ∈ z_tb := z_tbm (z_m3 (List.mem_of_getElem? (i := 46) (by decide +kernel))) (by decide +kernel)
theorem wd_3_47 : Cond.selects RX6 yX6_where yX6_where ∈ z_tb := z_tbm (z_m3 (List.mem_of_getElem? (i := 47) (by decide +kernel))) (by decide +kernel)
theorem wd_3_48 : Cond.code yX6_where cX6_where 3 (some .int) ∈ z_tb := z_tbm (z_m3 (List.mem_of_getElem? (i := 48) (by decide +kernel))) (by decide +kernel)
theorem wd_3_56 : Cond.methodLink RL 86 yX6_heard ∈ z_tb := z_tbm (z_m3 (List.mem_of_getElem? (i := 56) (by decide +kernel))) (by decide +kernel)
theorem wd_3_57 : Cond.instanceMethod yX6_heard ∈ z_tb := z_tbm (z_m3 (List.mem_of_getElem? (i := 57) (by decide +kernel))) (by decide +kernel)
theorem wd_3_58 : Cond.selects RX6 yX6_heard yX6_heard ∈ z_tb := z_tbm (z_m3 (List.mem_of_getElem? (i := 58) (by decide +kernel))) (by decide +kernel)
theorem wd_3_59 : Cond.code yX6_heard cX6_heard 3 (some .int) ∈ z_tb := z_tbm (z_m3 (List.mem_of_getElem? (i := 59) (by decide +kernel))) (by decide +kernel)
theorem wd_3_6 : Cond.methodLink RL 66 yX6_gait ∈ z_tb := z_tbm (z_m3 (List.mem_of_getElem? (i := 6) (by decide +kernel))) (by decide +kernel)
theorem wd_3_68 : Cond.methodLink RL 90 yX6_ahead ∈ z_tb := z_tbm (z_m3 (List.mem_of_getElem? (i := 68) (by decide +kernel))) (by decide +kernel)
theorem wd_3_69 : Cond.instanceMethod yX6_ahead ∈ z_tb := z_tbm (z_m3 (List.mem_of_getElem? (i := 69) (by decide +kernel))) (by decide +kernel)
theorem wd_3_7 : Cond.instanceMethod yX6_gait ∈ z_tb := z_tbm (z_m3 (List.mem_of_getElem? (i := 7) (by decide +kernel))) (by decide +kernel)
theorem wd_3_70 : Cond.selects RX6 yX6_ahead yX6_ahead ∈ z_tb := z_tbm (z_m3 (List.mem_of_getElem? (i := 70) (by decide +kernel))) (by decide +kernel)
theorem wd_3_71 : Cond.code yX6_ahead cX6_ahead 4 (some .int) ∈ z_tb := z_tbm (z_m3 (List.mem_of_getElem? (i := 71) (by decide +kernel))) (by decide +kernel)
theorem wd_3_8 : Cond.selects RX6 yX6_gait yX6_gait ∈ z_tb := z_tbm (z_m3 (List.mem_of_getElem? (i := 8) (by decide +kernel))) (by decide +kernel)
theorem wd_3_9 : Cond.code yX6_gait cX6_gait 4 (some .int) ∈ z_tb := z_tbm (z_m3 (List.mem_of_getElem? (i := 9) (by decide +kernel))) (by decide +kernel)
theorem wd_3_91 : Cond.methodLink RL 94 yX6_length ∈ z_tb := z_tbm (z_m3 (List.mem_of_getElem? (i := 91) (by decide +kernel))) (by decide +kernel)
theorem wd_3_92 : Cond.instanceMethod yX6_length ∈ z_tb := z_tbm (z_m3 (List.mem_of_getElem? (i := 92) (by decide +kernel))) (by decide +kernel)
theorem wd_3_93 : Cond.selects RX6 yX6_length yX6_length ∈ z_tb := z_tbm (z_m3 (List.mem_of_getElem? (i := 93) (by decide +kernel))) (by decide +kernel)
theorem wd_3_94 : Cond.code yX6_length cX6_length 2 (some .int) ∈ z_tb := z_tbm (z_m3 (List.mem_of_getElem? (i := 94) (by decide +kernel))) (by decide +kernel)
theorem wd_3_95 : Cond.methodLink RL 98 yX6_meet ∈ z_tb := z_tbm (z_m3 (List.mem_of_getElem? (i := 95) (by decide +kernel))) (by decide +kernel)
theorem wd_3_96 : Cond.instanceMethod yX6_meet ∈ z_tb := z_tbm (z_m3 (List.mem_of_getElem? (i := 96) (by decide +kernel))) (by decide +kernel)
theorem wd_3_97 : Cond.selects RX6 yX6_meet yX6_meet ∈ z_tb := z_tbm (z_m3 (List.mem_of_getElem? (i := 97) (by decide +kernel))) (by decide +kernel)
theorem wd_3_98 : Cond.code yX6_meet cX6_meet 3 (some .int) ∈ z_tb := z_tbm (z_m3 (List.mem_of_getElem? (i := 98) (by decide +kernel))) (by decide +kernel)
theorem wd_4_122 : Cond.methodLink RL 165 yX6_trace ∈ z_tb := z_tbm (z_m4 (List.mem_of_getElem? (i := 122) (by decide +kernel))) (by decide +kernel)
theorem wd_4_123 : Cond.instanceMethod yX6_trace ∈ z_tb := z_tbm (z_m4 (List.mem_of_getElem? (i := 123) (by decide +kernel))) (by decide +kernel)
theorem wd_4_124 : Cond.selects RX6 yX6_trace yX6_trace ∈ z_tb := z_tbm (z_m4 (List.mem_of_getElem? (i := 124) (by decide +kernel))) (by decide +kernel)
theorem wd_4_125 : Cond.code yX6_trace cX6_trace 2 (some .int) ∈ z_tb := z_tbm (z_m4 (List.mem_of_getElem? (i := 125) (by decide +kernel))) (by decide +kernel)
theorem wd_4_131 : Cond.methodLink RL 169 yX6_count ∈ z_tb := z_tbm (z_m4 (List.mem_of_getElem? (i := 131) (by decide +kernel))) (by decide +kernel)
theorem wd_4_132 : Cond.instanceMethod yX6_count ∈ z_tb := z_tbm (z_m4 (List.mem_of_getElem? (i := 132) (by decide +kernel))) (by decide +kernel)
theorem wd_4_133 : Cond.selects RX6 yX6_count yX6_count ∈ z_tb := z_tbm (z_m4 (List.mem_of_getElem? (i := 133) (by decide +kernel))) (by decide +kernel)
theorem wd_4_134 : Cond.code yX6_count cX6_count 2 (some .int) ∈ z_tb := z_tbm (z_m4 (List.mem_of_getElem? (i := 134) (by decide +kernel))) (by decide +kernel)
theorem wd_4_149 : Cond.methodLink RL 173 yX6_status ∈ z_tb := z_tbm (z_m4 (List.mem_of_getElem? (i := 149) (by decide +kernel))) (by decide +kernel)
theorem wd_4_150 : Cond.instanceMethod yX6_status ∈ z_tb := z_tbm (z_m4 (List.mem_of_getElem? (i := 150) (by decide +kernel))) (by decide +kernel)
theorem wd_4_151 : Cond.selects RX6 yX6_status yX6_status ∈ z_tb := z_tbm (z_m4 (List.mem_of_getElem? (i := 151) (by decide +kernel))) (by decide +kernel)
theorem wd_4_152 : Cond.code yX6_status cX6_status 1 (some .int) ∈ z_tb := z_tbm (z_m4 (List.mem_of_getElem? (i := 152) (by decide +kernel))) (by decide +kernel)
theorem wd_4_16 : Cond.methodLink RL 132 yX6_who ∈ z_tb := z_tbm (z_m4 (List.mem_of_getElem? (i := 16) (by decide +kernel))) (by decide +kernel)
theorem wd_4_17 : Cond.instanceMethod yX6_who ∈ z_tb := z_tbm (z_m4 (List.mem_of_getElem? (i := 17) (by decide +kernel))) (by decide +kernel)
theorem wd_4_18 : Cond.selects RX6 yX6_who yX6_who ∈ z_tb := z_tbm (z_m4 (List.mem_of_getElem? (i := 18) (by decide +kernel))) (by decide +kernel)
theorem wd_4_19 : Cond.code yX6_who cX6_who 8 (some .int) ∈ z_tb := z_tbm (z_m4 (List.mem_of_getElem? (i := 19) (by decide +kernel))) (by decide +kernel)
theorem wd_4_233 : Cond.methodLink RL 17 yX7_row ∈ z_tb := z_tbm (z_m4 (List.mem_of_getElem? (i := 233) (by decide +kernel))) (by decide +kernel)
theorem wd_4_234 : Cond.instanceMethod yX7_row ∈ z_tb := z_tbm (z_m4 (List.mem_of_getElem? (i := 234) (by decide +kernel))) (by decide +kernel)
theorem wd_4_235 : Cond.selects RX7 yX7_row yX7_row ∈ z_tb := z_tbm (z_m4 (List.mem_of_getElem? (i := 235) (by decide +kernel))) (by decide +kernel)
theorem wd_4_236 : Cond.code yX7_row cX7_row 5 (some .int) ∈ z_tb := z_tbm (z_m4 (List.mem_of_getElem? (i := 236) (by decide +kernel))) (by decide +kernel)
theorem wd_4_26 : Cond.methodLink RL 136 yX6_rots ∈ z_tb := z_tbm (z_m4 (List.mem_of_getElem? (i := 26) (by decide +kernel))) (by decide +kernel)
theorem wd_4_27 : Cond.instanceMethod yX6_rots ∈ z_tb := z_tbm (z_m4 (List.mem_of_getElem? (i := 27) (by decide +kernel))) (by decide +kernel)
theorem wd_4_28 : Cond.selects RX6 yX6_rots yX6_rots ∈ z_tb := z_tbm (z_m4 (List.mem_of_getElem? (i := 28) (by decide +kernel))) (by decide +kernel)
theorem wd_4_29 : Cond.code yX6_rots cX6_rots 5 (some .long) ∈ z_tb := z_tbm (z_m4 (List.mem_of_getElem? (i := 29) (by decide +kernel))) (by decide +kernel)
theorem wd_4_41 : Cond.methodLink RL 141 yX6_drawn ∈ z_tb := z_tbm (z_m4 (List.mem_of_getElem? (i := 41) (by decide +kernel))) (by decide +kernel)
theorem wd_4_42 : Cond.instanceMethod yX6_drawn ∈ z_tb := z_tbm (z_m4 (List.mem_of_getElem? (i := 42) (by decide +kernel))) (by decide +kernel)
theorem wd_4_43 : Cond.selects RX6 yX6_drawn yX6_drawn ∈ z_tb := z_tbm (z_m4 (List.mem_of_getElem? (i := 43) (by decide +kernel))) (by decide +kernel)
theorem wd_4_44 : Cond.code yX6_drawn cX6_drawn 4 (some .int) ∈ z_tb := z_tbm (z_m4 (List.mem_of_getElem? (i := 44) (by decide +kernel))) (by decide +kernel)
theorem wd_4_63 : Cond.methodLink RL 145 yX6_image ∈ z_tb := z_tbm (z_m4 (List.mem_of_getElem? (i := 63) (by decide +kernel))) (by decide +kernel)
theorem wd_4_64 : Cond.instanceMethod yX6_image ∈ z_tb := z_tbm (z_m4 (List.mem_of_getElem? (i := 64) (by decide +kernel))) (by decide +kernel)
theorem wd_4_65 : Cond.selects RX6 yX6_image yX6_image ∈ z_tb := z_tbm (z_m4 (List.mem_of_getElem? (i := 65) (by decide +kernel))) (by decide +kernel)
theorem wd_4_66 : Cond.code yX6_image cX6_image 3 (some .int) ∈ z_tb := z_tbm (z_m4 (List.mem_of_getElem? (i := 66) (by decide +kernel))) (by decide +kernel)
theorem wd_4_67 : Cond.methodLink RL 149 yX6_restore ∈ z_tb := z_tbm (z_m4 (List.mem_of_getElem? (i := 67) (by decide +kernel))) (by decide +kernel)
theorem wd_4_68 : Cond.instanceMethod yX6_restore ∈ z_tb := z_tbm (z_m4 (List.mem_of_getElem? (i := 68) (by decide +kernel))) (by decide +kernel)
theorem wd_4_69 : Cond.selects RX6 yX6_restore yX6_restore ∈ z_tb := z_tbm (z_m4 (List.mem_of_getElem? (i := 69) (by decide +kernel))) (by decide +kernel)
theorem wd_4_70 : Cond.code yX6_restore cX6_restore 3 (some .int) ∈ z_tb := z_tbm (z_m4 (List.mem_of_getElem? (i := 70) (by decide +kernel))) (by decide +kernel)
theorem wd_4_71 : Cond.methodLink RL 153 yX6_kind ∈ z_tb := z_tbm (z_m4 (List.mem_of_getElem? (i := 71) (by decide +kernel))) (by decide +kernel)
theorem wd_4_72 : Cond.instanceMethod yX6_kind ∈ z_tb := z_tbm (z_m4 (List.mem_of_getElem? (i := 72) (by decide +kernel))) (by decide +kernel)
theorem wd_4_73 : Cond.selects RX6 yX6_kind yX6_kind ∈ z_tb := z_tbm (z_m4 (List.mem_of_getElem? (i := 73) (by decide +kernel))) (by decide +kernel)
theorem wd_4_74 : Cond.code yX6_kind cX6_kind 2 (some .int) ∈ z_tb := z_tbm (z_m4 (List.mem_of_getElem? (i := 74) (by decide +kernel))) (by decide +kernel)
theorem wd_4_76 : Cond.methodLink RL 157 yX6_as ∈ z_tb := z_tbm (z_m4 (List.mem_of_getElem? (i := 76) (by decide +kernel))) (by decide +kernel)
theorem wd_4_77 : Cond.instanceMethod yX6_as ∈ z_tb := z_tbm (z_m4 (List.mem_of_getElem? (i := 77) (by decide +kernel))) (by decide +kernel)
theorem wd_4_78 : Cond.selects RX6 yX6_as yX6_as ∈ z_tb := z_tbm (z_m4 (List.mem_of_getElem? (i := 78) (by decide +kernel))) (by decide +kernel)
theorem wd_4_79 : Cond.code yX6_as cX6_as 3 (some .int) ∈ z_tb := z_tbm (z_m4 (List.mem_of_getElem? (i := 79) (by decide +kernel))) (by decide +kernel)
theorem wd_4_86 : Cond.methodLink RL 161 yX6_ask ∈ z_tb := z_tbm (z_m4 (List.mem_of_getElem? (i := 86) (by decide +kernel))) (by decide +kernel)
theorem wd_4_87 : Cond.instanceMethod yX6_ask ∈ z_tb := z_tbm (z_m4 (List.mem_of_getElem? (i := 87) (by decide +kernel))) (by decide +kernel)
theorem wd_4_88 : Cond.selects RX6 yX6_ask yX6_ask ∈ z_tb := z_tbm (z_m4 (List.mem_of_getElem? (i := 88) (by decide +kernel))) (by decide +kernel)
theorem wd_4_89 : Cond.code yX6_ask cX6_ask 3 (some .int) ∈ z_tb := z_tbm (z_m4 (List.mem_of_getElem? (i := 89) (by decide +kernel))) (by decide +kernel)
theorem wd_5_117 : Cond.methodLink RL 57 yX7_plane ∈ z_tb := z_tbm (z_m5 (List.mem_of_getElem? (i := 117) (by decide +kernel))) (by decide +kernel)
theorem wd_5_118 : Cond.instanceMethod yX7_plane ∈ z_tb := z_tbm (z_m5 (List.mem_of_getElem? (i := 118) (by decide +kernel))) (by decide +kernel)
theorem wd_5_119 : Cond.selects RX7 yX7_plane yX7_plane ∈ z_tb := z_tbm (z_m5 (List.mem_of_getElem? (i := 119) (by decide +kernel))) (by decide +kernel)
theorem wd_5_120 : Cond.code yX7_plane cX7_plane 4 (some .int) ∈ z_tb := z_tbm (z_m5 (List.mem_of_getElem? (i := 120) (by decide +kernel))) (by decide +kernel)
theorem wd_5_134 : Cond.methodLink RL 61 yX7_reach ∈ z_tb := z_tbm (z_m5 (List.mem_of_getElem? (i := 134) (by decide +kernel))) (by decide +kernel)
theorem wd_5_135 : Cond.instanceMethod yX7_reach ∈ z_tb := z_tbm (z_m5 (List.mem_of_getElem? (i := 135) (by decide +kernel))) (by decide +kernel)
theorem wd_5_136 : Cond.selects RX7 yX7_reach yX7_reach ∈ z_tb := z_tbm (z_m5 (List.mem_of_getElem? (i := 136) (by decide +kernel))) (by decide +kernel)
theorem wd_5_137 : Cond.code yX7_reach cX7_reach 3 (some .int) ∈ z_tb := z_tbm (z_m5 (List.mem_of_getElem? (i := 137) (by decide +kernel))) (by decide +kernel)
theorem wd_5_138 : Cond.methodLink RL 65 yX7_way ∈ z_tb := z_tbm (z_m5 (List.mem_of_getElem? (i := 138) (by decide +kernel))) (by decide +kernel)
theorem wd_5_139 : Cond.instanceMethod yX7_way ∈ z_tb := z_tbm (z_m5 (List.mem_of_getElem? (i := 139) (by decide +kernel))) (by decide +kernel)
theorem wd_5_140 : Cond.selects RX7 yX7_way yX7_way ∈ z_tb := z_tbm (z_m5 (List.mem_of_getElem? (i := 140) (by decide +kernel))) (by decide +kernel)
theorem wd_5_141 : Cond.code yX7_way cX7_way 4 (some .int) ∈ z_tb := z_tbm (z_m5 (List.mem_of_getElem? (i := 141) (by decide +kernel))) (by decide +kernel)
theorem wd_5_146 : Cond.methodLink RL 69 yX7_gait ∈ z_tb := z_tbm (z_m5 (List.mem_of_getElem? (i := 146) (by decide +kernel))) (by decide +kernel)
theorem wd_5_147 : Cond.instanceMethod yX7_gait ∈ z_tb := z_tbm (z_m5 (List.mem_of_getElem? (i := 147) (by decide +kernel))) (by decide +kernel)
theorem wd_5_148 : Cond.selects RX7 yX7_gait yX7_gait ∈ z_tb := z_tbm (z_m5 (List.mem_of_getElem? (i := 148) (by decide +kernel))) (by decide +kernel)
theorem wd_5_149 : Cond.code yX7_gait cX7_gait 4 (some .int) ∈ z_tb := z_tbm (z_m5 (List.mem_of_getElem? (i := 149) (by decide +kernel))) (by decide +kernel)
theorem wd_5_15 : Cond.methodLink RL 21 yX7_set ∈ z_tb := z_tbm (z_m5 (List.mem_of_getElem? (i := 15) (by decide +kernel))) (by decide +kernel)
theorem wd_5_152 : Cond.methodLink RL 73 yX7_tread ∈ z_tb := z_tbm (z_m5 (List.mem_of_getElem? (i := 152) (by decide +kernel))) (by decide +kernel)
theorem wd_5_153 : Cond.instanceMethod yX7_tread ∈ z_tb := z_tbm (z_m5 (List.mem_of_getElem? (i := 153) (by decide +kernel))) (by decide +kernel)
theorem wd_5_154 : Cond.selects RX7 yX7_tread yX7_tread ∈ z_tb := z_tbm (z_m5 (List.mem_of_getElem? (i := 154) (by decide +kernel))) (by decide +kernel)
theorem wd_5_155 : Cond.code yX7_tread cX7_tread 3 (some .int) ∈ z_tb := z_tbm (z_m5 (List.mem_of_getElem? (i := 155) (by decide +kernel))) (by decide +kernel)
theorem wd_5_16 : Cond.instanceMethod yX7_set ∈ z_tb := z_tbm (z_m5 (List.mem_of_getElem? (i := 16) (by decide +kernel))) (by decide +kernel)
theorem wd_5_160 : Cond.methodLink RL 77 yX7_walker ∈ z_tb := z_tbm (z_m5 (List.mem_of_getElem? (i := 160) (by decide +kernel))) (by decide +kernel)
theorem wd_5_161 : Cond.instanceMethod yX7_walker ∈ z_tb := z_tbm (z_m5 (List.mem_of_getElem? (i := 161) (by decide +kernel))) (by decide +kernel)
theorem wd_5_162 : Cond.selects RX7 yX7_walker yX7_walker ∈ z_tb := z_tbm (z_m5 (List.mem_of_getElem? (i := 162) (by decide +kernel))) (by decide +kernel)
theorem wd_5_163 : Cond.code yX7_walker cX7_walker 3 (some .int) ∈ z_tb := z_tbm (z_m5 (List.mem_of_getElem? (i := 163) (by decide +kernel))) (by decide +kernel)
theorem wd_5_164 : Cond.methodLink RL 81 yX7_tune ∈ z_tb := z_tbm (z_m5 (List.mem_of_getElem? (i := 164) (by decide +kernel))) (by decide +kernel)
theorem wd_5_165 : Cond.instanceMethod yX7_tune ∈ z_tb := z_tbm (z_m5 (List.mem_of_getElem? (i := 165) (by decide +kernel))) (by decide +kernel)
theorem wd_5_166 : Cond.selects RX7 yX7_tune yX7_tune ∈ z_tb := z_tbm (z_m5 (List.mem_of_getElem? (i := 166) (by decide +kernel))) (by decide +kernel)
theorem wd_5_167 : Cond.code yX7_tune cX7_tune 3 (some .int) ∈ z_tb := z_tbm (z_m5 (List.mem_of_getElem? (i := 167) (by decide +kernel))) (by decide +kernel)
theorem wd_5_17 : Cond.selects RX7 yX7_set yX7_set ∈ z_tb := z_tbm (z_m5 (List.mem_of_getElem? (i := 17) (by decide +kernel))) (by decide +kernel)
theorem wd_5_18 : Cond.code yX7_set cX7_set 4 (some .int) ∈ z_tb := z_tbm (z_m5 (List.mem_of_getElem? (i := 18) (by decide +kernel))) (by decide +kernel)
theorem wd_5_184 : Cond.methodLink RL 85 yX7_where ∈ z_tb := z_tbm (z_m5 (List.mem_of_getElem? (i := 184) (by decide +kernel))) (by decide +kernel)
theorem wd_5_185 : Cond.instanceMethod yX7_where ∈ z_tb := z_tbm (z_m5 (List.mem_of_getElem? (i := 185) (by decide +kernel))) (by decide +kernel)
theorem wd_5_186 : Cond.selects RX7 yX7_where yX7_where ∈ z_tb := z_tbm (z_m5 (List.mem_of_getElem? (i := 186) (by decide +kernel))) (by decide +kernel)
theorem wd_5_187 : Cond.code yX7_where cX7_where 4 (some .int) ∈ z_tb := z_tbm (z_m5 (List.mem_of_getElem? (i := 187) (by decide +kernel))) (by decide +kernel)
theorem wd_5_196 : Cond.methodLink RL 89 yX7_heard ∈ z_tb := z_tbm (z_m5 (List.mem_of_getElem? (i := 196) (by decide +kernel))) (by decide +kernel)
theorem wd_5_197 : Cond.instanceMethod yX7_heard ∈ z_tb := z_tbm (z_m5 (List.mem_of_getElem? (i := 197) (by decide +kernel))) (by decide +kernel)
theorem wd_5_198 : Cond.selects RX7 yX7_heard yX7_heard ∈ z_tb := z_tbm (z_m5 (List.mem_of_getElem? (i := 198) (by decide +kernel))) (by decide +kernel)
theorem wd_5_199 : Cond.code yX7_heard cX7_heard 3 (some .int) ∈ z_tb := z_tbm (z_m5 (List.mem_of_getElem? (i := 199) (by decide +kernel))) (by decide +kernel)
theorem wd_5_204 : Cond.methodLink RL 93 yX7_ahead ∈ z_tb := z_tbm (z_m5 (List.mem_of_getElem? (i := 204) (by decide +kernel))) (by decide +kernel)
theorem wd_5_205 : Cond.instanceMethod yX7_ahead ∈ z_tb := z_tbm (z_m5 (List.mem_of_getElem? (i := 205) (by decide +kernel))) (by decide +kernel)
theorem wd_5_206 : Cond.selects RX7 yX7_ahead yX7_ahead ∈ z_tb := z_tbm (z_m5 (List.mem_of_getElem? (i := 206) (by decide +kernel))) (by decide +kernel)
theorem wd_5_207 : Cond.code yX7_ahead cX7_ahead 5 (some .int) ∈ z_tb := z_tbm (z_m5 (List.mem_of_getElem? (i := 207) (by decide +kernel))) (by decide +kernel)
theorem wd_5_22 : Cond.methodLink RL 26 yX7_copy ∈ z_tb := z_tbm (z_m5 (List.mem_of_getElem? (i := 22) (by decide +kernel))) (by decide +kernel)
theorem wd_5_220 : Cond.methodLink RL 97 yX7_length ∈ z_tb := z_tbm (z_m5 (List.mem_of_getElem? (i := 220) (by decide +kernel))) (by decide +kernel)
theorem wd_5_221 : Cond.instanceMethod yX7_length ∈ z_tb := z_tbm (z_m5 (List.mem_of_getElem? (i := 221) (by decide +kernel))) (by decide +kernel)
theorem wd_5_222 : Cond.selects RX7 yX7_length yX7_length ∈ z_tb := z_tbm (z_m5 (List.mem_of_getElem? (i := 222) (by decide +kernel))) (by decide +kernel)
theorem wd_5_223 : Cond.code yX7_length cX7_length 2 (some .int) ∈ z_tb := z_tbm (z_m5 (List.mem_of_getElem? (i := 223) (by decide +kernel))) (by decide +kernel)
theorem wd_5_224 : Cond.methodLink RL 101 yX7_meet ∈ z_tb := z_tbm (z_m5 (List.mem_of_getElem? (i := 224) (by decide +kernel))) (by decide +kernel)
theorem wd_5_225 : Cond.instanceMethod yX7_meet ∈ z_tb := z_tbm (z_m5 (List.mem_of_getElem? (i := 225) (by decide +kernel))) (by decide +kernel)
theorem wd_5_226 : Cond.selects RX7 yX7_meet yX7_meet ∈ z_tb := z_tbm (z_m5 (List.mem_of_getElem? (i := 226) (by decide +kernel))) (by decide +kernel)
theorem wd_5_227 : Cond.code yX7_meet cX7_meet 7 (some .int) ∈ z_tb := z_tbm (z_m5 (List.mem_of_getElem? (i := 227) (by decide +kernel))) (by decide +kernel)
theorem wd_5_228 : Cond.methodLink RL 105 yX7_choir ∈ z_tb := z_tbm (z_m5 (List.mem_of_getElem? (i := 228) (by decide +kernel))) (by decide +kernel)
theorem wd_5_229 : Cond.instanceMethod yX7_choir ∈ z_tb := z_tbm (z_m5 (List.mem_of_getElem? (i := 229) (by decide +kernel))) (by decide +kernel)
theorem wd_5_23 : Cond.instanceMethod yX7_copy ∈ z_tb := z_tbm (z_m5 (List.mem_of_getElem? (i := 23) (by decide +kernel))) (by decide +kernel)
theorem wd_5_230 : Cond.selects RX7 yX7_choir yX7_choir ∈ z_tb := z_tbm (z_m5 (List.mem_of_getElem? (i := 230) (by decide +kernel))) (by decide +kernel)
theorem wd_5_231 : Cond.code yX7_choir cX7_choir 6 (some .int) ∈ z_tb := z_tbm (z_m5 (List.mem_of_getElem? (i := 231) (by decide +kernel))) (by decide +kernel)
theorem wd_5_239 : Cond.methodLink RL 109 yX7_twins ∈ z_tb := z_tbm (z_m5 (List.mem_of_getElem? (i := 239) (by decide +kernel))) (by decide +kernel)
theorem wd_5_24 : Cond.selects RX7 yX7_copy yX7_copy ∈ z_tb := z_tbm (z_m5 (List.mem_of_getElem? (i := 24) (by decide +kernel))) (by decide +kernel)
theorem wd_5_25 : Cond.code yX7_copy cX7_copy 7 (some .int) ∈ z_tb := z_tbm (z_m5 (List.mem_of_getElem? (i := 25) (by decide +kernel))) (by decide +kernel)
theorem wd_5_26 : Cond.methodLink RL 31 yX7_drop ∈ z_tb := z_tbm (z_m5 (List.mem_of_getElem? (i := 26) (by decide +kernel))) (by decide +kernel)
theorem wd_5_27 : Cond.instanceMethod yX7_drop ∈ z_tb := z_tbm (z_m5 (List.mem_of_getElem? (i := 27) (by decide +kernel))) (by decide +kernel)
theorem wd_5_28 : Cond.selects RX7 yX7_drop yX7_drop ∈ z_tb := z_tbm (z_m5 (List.mem_of_getElem? (i := 28) (by decide +kernel))) (by decide +kernel)
theorem wd_5_29 : Cond.code yX7_drop cX7_drop 3 (some .int) ∈ z_tb := z_tbm (z_m5 (List.mem_of_getElem? (i := 29) (by decide +kernel))) (by decide +kernel)
theorem wd_5_30 : Cond.methodLink RL 35 yX7_feed ∈ z_tb := z_tbm (z_m5 (List.mem_of_getElem? (i := 30) (by decide +kernel))) (by decide +kernel)
theorem wd_5_31 : Cond.instanceMethod yX7_feed ∈ z_tb := z_tbm (z_m5 (List.mem_of_getElem? (i := 31) (by decide +kernel))) (by decide +kernel)
theorem wd_5_32 : Cond.selects RX7 yX7_feed yX7_feed ∈ z_tb := z_tbm (z_m5 (List.mem_of_getElem? (i := 32) (by decide +kernel))) (by decide +kernel)
theorem wd_5_33 : Cond.code yX7_feed cX7_feed 2 (some .int) ∈ z_tb := z_tbm (z_m5 (List.mem_of_getElem? (i := 33) (by decide +kernel))) (by decide +kernel)
theorem wd_5_36 : Cond.methodLink RL 40 yX7_town ∈ z_tb := z_tbm (z_m5 (List.mem_of_getElem? (i := 36) (by decide +kernel))) (by decide +kernel)
theorem wd_5_37 : Cond.instanceMethod yX7_town ∈ z_tb := z_tbm (z_m5 (List.mem_of_getElem? (i := 37) (by decide +kernel))) (by decide +kernel)
theorem wd_5_38 : Cond.selects RX7 yX7_town yX7_town ∈ z_tb := z_tbm (z_m5 (List.mem_of_getElem? (i := 38) (by decide +kernel))) (by decide +kernel)
theorem wd_5_39 : Cond.code yX7_town cX7_town 3 (some .int) ∈ z_tb := z_tbm (z_m5 (List.mem_of_getElem? (i := 39) (by decide +kernel))) (by decide +kernel)
theorem wd_5_80 : Cond.methodLink RL 44 yX7_fault ∈ z_tb := z_tbm (z_m5 (List.mem_of_getElem? (i := 80) (by decide +kernel))) (by decide +kernel)
theorem wd_5_81 : Cond.instanceMethod yX7_fault ∈ z_tb := z_tbm (z_m5 (List.mem_of_getElem? (i := 81) (by decide +kernel))) (by decide +kernel)
theorem wd_5_82 : Cond.selects RX7 yX7_fault yX7_fault ∈ z_tb := z_tbm (z_m5 (List.mem_of_getElem? (i := 82) (by decide +kernel))) (by decide +kernel)
theorem wd_5_83 : Cond.code yX7_fault cX7_fault 1 (some .int) ∈ z_tb := z_tbm (z_m5 (List.mem_of_getElem? (i := 83) (by decide +kernel))) (by decide +kernel)
theorem wd_5_84 : Cond.methodLink RL 48 yX7_undo ∈ z_tb := z_tbm (z_m5 (List.mem_of_getElem? (i := 84) (by decide +kernel))) (by decide +kernel)
theorem wd_5_85 : Cond.instanceMethod yX7_undo ∈ z_tb := z_tbm (z_m5 (List.mem_of_getElem? (i := 85) (by decide +kernel))) (by decide +kernel)
theorem wd_5_86 : Cond.selects RX7 yX7_undo yX7_undo ∈ z_tb := z_tbm (z_m5 (List.mem_of_getElem? (i := 86) (by decide +kernel))) (by decide +kernel)
theorem wd_5_87 : Cond.code yX7_undo cX7_undo 2 (some .int) ∈ z_tb := z_tbm (z_m5 (List.mem_of_getElem? (i := 87) (by decide +kernel))) (by decide +kernel)
theorem wd_5_89 : Cond.methodLink RL 52 yX7_days ∈ z_tb := z_tbm (z_m5 (List.mem_of_getElem? (i := 89) (by decide +kernel))) (by decide +kernel)
theorem wd_5_90 : Cond.instanceMethod yX7_days ∈ z_tb := z_tbm (z_m5 (List.mem_of_getElem? (i := 90) (by decide +kernel))) (by decide +kernel)
theorem wd_5_91 : Cond.selects RX7 yX7_days yX7_days ∈ z_tb := z_tbm (z_m5 (List.mem_of_getElem? (i := 91) (by decide +kernel))) (by decide +kernel)
theorem wd_5_92 : Cond.code yX7_days cX7_days 3 (some .int) ∈ z_tb := z_tbm (z_m5 (List.mem_of_getElem? (i := 92) (by decide +kernel))) (by decide +kernel)
theorem wd_6_0 : Cond.instanceMethod yX7_twins ∈ z_tb := z_tbm (z_m6 (List.mem_of_getElem? (i := 0) (by decide +kernel))) (by decide +kernel)
theorem wd_6_1 : Cond.selects RX7 yX7_twins yX7_twins ∈ z_tb := z_tbm (z_m6 (List.mem_of_getElem? (i := 1) (by decide +kernel))) (by decide +kernel)
theorem wd_6_103 : Cond.methodLink RL 164 yX7_ask ∈ z_tb := z_tbm (z_m6 (List.mem_of_getElem? (i := 103) (by decide +kernel))) (by decide +kernel)
theorem wd_6_104 : Cond.instanceMethod yX7_ask ∈ z_tb := z_tbm (z_m6 (List.mem_of_getElem? (i := 104) (by decide +kernel))) (by decide +kernel)
theorem wd_6_105 : Cond.selects RX7 yX7_ask yX7_ask ∈ z_tb := z_tbm (z_m6 (List.mem_of_getElem? (i := 105) (by decide +kernel))) (by decide +kernel)
theorem wd_6_106 : Cond.code yX7_ask cX7_ask 3 (some .int) ∈ z_tb := z_tbm (z_m6 (List.mem_of_getElem? (i := 106) (by decide +kernel))) (by decide +kernel)
theorem wd_6_11 : Cond.methodLink RL 113 yX7_felt ∈ z_tb := z_tbm (z_m6 (List.mem_of_getElem? (i := 11) (by decide +kernel))) (by decide +kernel)
theorem wd_6_12 : Cond.instanceMethod yX7_felt ∈ z_tb := z_tbm (z_m6 (List.mem_of_getElem? (i := 12) (by decide +kernel))) (by decide +kernel)
theorem wd_6_13 : Cond.selects RX7 yX7_felt yX7_felt ∈ z_tb := z_tbm (z_m6 (List.mem_of_getElem? (i := 13) (by decide +kernel))) (by decide +kernel)
theorem wd_6_139 : Cond.methodLink RL 168 yX7_trace ∈ z_tb := z_tbm (z_m6 (List.mem_of_getElem? (i := 139) (by decide +kernel))) (by decide +kernel)
theorem wd_6_14 : Cond.code yX7_felt cX7_felt 7 (some .int) ∈ z_tb := z_tbm (z_m6 (List.mem_of_getElem? (i := 14) (by decide +kernel))) (by decide +kernel)
theorem wd_6_140 : Cond.instanceMethod yX7_trace ∈ z_tb := z_tbm (z_m6 (List.mem_of_getElem? (i := 140) (by decide +kernel))) (by decide +kernel)
theorem wd_6_141 : Cond.selects RX7 yX7_trace yX7_trace ∈ z_tb := z_tbm (z_m6 (List.mem_of_getElem? (i := 141) (by decide +kernel))) (by decide +kernel)
theorem wd_6_142 : Cond.code yX7_trace cX7_trace 2 (some .int) ∈ z_tb := z_tbm (z_m6 (List.mem_of_getElem? (i := 142) (by decide +kernel))) (by decide +kernel)
theorem wd_6_143 : Cond.methodLink RL 172 yX7_count ∈ z_tb := z_tbm (z_m6 (List.mem_of_getElem? (i := 143) (by decide +kernel))) (by decide +kernel)
theorem wd_6_144 : Cond.instanceMethod yX7_count ∈ z_tb := z_tbm (z_m6 (List.mem_of_getElem? (i := 144) (by decide +kernel))) (by decide +kernel)
theorem wd_6_145 : Cond.selects RX7 yX7_count yX7_count ∈ z_tb := z_tbm (z_m6 (List.mem_of_getElem? (i := 145) (by decide +kernel))) (by decide +kernel)
theorem wd_6_146 : Cond.code yX7_count cX7_count 4 (some .int) ∈ z_tb := z_tbm (z_m6 (List.mem_of_getElem? (i := 146) (by decide +kernel))) (by decide +kernel)
theorem wd_6_147 : Cond.methodLink RL 176 yX7_status ∈ z_tb := z_tbm (z_m6 (List.mem_of_getElem? (i := 147) (by decide +kernel))) (by decide +kernel)
theorem wd_6_148 : Cond.instanceMethod yX7_status ∈ z_tb := z_tbm (z_m6 (List.mem_of_getElem? (i := 148) (by decide +kernel))) (by decide +kernel)
theorem wd_6_149 : Cond.selects RX7 yX7_status yX7_status ∈ z_tb := z_tbm (z_m6 (List.mem_of_getElem? (i := 149) (by decide +kernel))) (by decide +kernel)
theorem wd_6_150 : Cond.code yX7_status cX7_status 1 (some .int) ∈ z_tb := z_tbm (z_m6 (List.mem_of_getElem? (i := 150) (by decide +kernel))) (by decide +kernel)
theorem wd_6_19 : Cond.methodLink RL 117 yX7_doors ∈ z_tb := z_tbm (z_m6 (List.mem_of_getElem? (i := 19) (by decide +kernel))) (by decide +kernel)
theorem wd_6_2 : Cond.code yX7_twins cX7_twins 3 (some .int) ∈ z_tb := z_tbm (z_m6 (List.mem_of_getElem? (i := 2) (by decide +kernel))) (by decide +kernel)
theorem wd_6_20 : Cond.instanceMethod yX7_doors ∈ z_tb := z_tbm (z_m6 (List.mem_of_getElem? (i := 20) (by decide +kernel))) (by decide +kernel)
theorem wd_6_21 : Cond.selects RX7 yX7_doors yX7_doors ∈ z_tb := z_tbm (z_m6 (List.mem_of_getElem? (i := 21) (by decide +kernel))) (by decide +kernel)
theorem wd_6_22 : Cond.code yX7_doors cX7_doors 4 (some .int) ∈ z_tb := z_tbm (z_m6 (List.mem_of_getElem? (i := 22) (by decide +kernel))) (by decide +kernel)
theorem wd_6_27 : Cond.methodLink RL 121 yX7_planed ∈ z_tb := z_tbm (z_m6 (List.mem_of_getElem? (i := 27) (by decide +kernel))) (by decide +kernel)
theorem wd_6_28 : Cond.instanceMethod yX7_planed ∈ z_tb := z_tbm (z_m6 (List.mem_of_getElem? (i := 28) (by decide +kernel))) (by decide +kernel)
theorem wd_6_29 : Cond.selects RX7 yX7_planed yX7_planed ∈ z_tb := z_tbm (z_m6 (List.mem_of_getElem? (i := 29) (by decide +kernel))) (by decide +kernel)
theorem wd_6_30 : Cond.code yX7_planed cX7_planed 7 (some .int) ∈ z_tb := z_tbm (z_m6 (List.mem_of_getElem? (i := 30) (by decide +kernel))) (by decide +kernel)
theorem wd_6_31 : Cond.methodLink RL 126 yX7_rise ∈ z_tb := z_tbm (z_m6 (List.mem_of_getElem? (i := 31) (by decide +kernel))) (by decide +kernel)
theorem wd_6_32 : Cond.instanceMethod yX7_rise ∈ z_tb := z_tbm (z_m6 (List.mem_of_getElem? (i := 32) (by decide +kernel))) (by decide +kernel)
theorem wd_6_33 : Cond.selects RX7 yX7_rise yX7_rise ∈ z_tb := z_tbm (z_m6 (List.mem_of_getElem? (i := 33) (by decide +kernel))) (by decide +kernel)
theorem wd_6_34 : Cond.code yX7_rise cX7_rise 9 (some .int) ∈ z_tb := z_tbm (z_m6 (List.mem_of_getElem? (i := 34) (by decide +kernel))) (by decide +kernel)
theorem wd_6_39 : Cond.methodLink RL 131 yX7_what ∈ z_tb := z_tbm (z_m6 (List.mem_of_getElem? (i := 39) (by decide +kernel))) (by decide +kernel)
theorem wd_6_40 : Cond.instanceMethod yX7_what ∈ z_tb := z_tbm (z_m6 (List.mem_of_getElem? (i := 40) (by decide +kernel))) (by decide +kernel)
theorem wd_6_41 : Cond.selects RX7 yX7_what yX7_what ∈ z_tb := z_tbm (z_m6 (List.mem_of_getElem? (i := 41) (by decide +kernel))) (by decide +kernel)
theorem wd_6_42 : Cond.code yX7_what cX7_what 10 (some .int) ∈ z_tb := z_tbm (z_m6 (List.mem_of_getElem? (i := 42) (by decide +kernel))) (by decide +kernel)
theorem wd_6_56 : Cond.methodLink RL 135 yX7_who ∈ z_tb := z_tbm (z_m6 (List.mem_of_getElem? (i := 56) (by decide +kernel))) (by decide +kernel)
theorem wd_6_57 : Cond.instanceMethod yX7_who ∈ z_tb := z_tbm (z_m6 (List.mem_of_getElem? (i := 57) (by decide +kernel))) (by decide +kernel)
theorem wd_6_58 : Cond.selects RX7 yX7_who yX7_who ∈ z_tb := z_tbm (z_m6 (List.mem_of_getElem? (i := 58) (by decide +kernel))) (by decide +kernel)
theorem wd_6_59 : Cond.code yX7_who cX7_who 10 (some .int) ∈ z_tb := z_tbm (z_m6 (List.mem_of_getElem? (i := 59) (by decide +kernel))) (by decide +kernel)
theorem wd_6_60 : Cond.methodLink RL 140 yX7_rots ∈ z_tb := z_tbm (z_m6 (List.mem_of_getElem? (i := 60) (by decide +kernel))) (by decide +kernel)
theorem wd_6_61 : Cond.instanceMethod yX7_rots ∈ z_tb := z_tbm (z_m6 (List.mem_of_getElem? (i := 61) (by decide +kernel))) (by decide +kernel)
theorem wd_6_62 : Cond.selects RX7 yX7_rots yX7_rots ∈ z_tb := z_tbm (z_m6 (List.mem_of_getElem? (i := 62) (by decide +kernel))) (by decide +kernel)
theorem wd_6_63 : Cond.code yX7_rots cX7_rots 16 (some .long) ∈ z_tb := z_tbm (z_m6 (List.mem_of_getElem? (i := 63) (by decide +kernel))) (by decide +kernel)
theorem wd_6_66 : Cond.methodLink RL 144 yX7_drawn ∈ z_tb := z_tbm (z_m6 (List.mem_of_getElem? (i := 66) (by decide +kernel))) (by decide +kernel)
theorem wd_6_67 : Cond.instanceMethod yX7_drawn ∈ z_tb := z_tbm (z_m6 (List.mem_of_getElem? (i := 67) (by decide +kernel))) (by decide +kernel)
theorem wd_6_68 : Cond.selects RX7 yX7_drawn yX7_drawn ∈ z_tb := z_tbm (z_m6 (List.mem_of_getElem? (i := 68) (by decide +kernel))) (by decide +kernel)
theorem wd_6_69 : Cond.code yX7_drawn cX7_drawn 8 (some .int) ∈ z_tb := z_tbm (z_m6 (List.mem_of_getElem? (i := 69) (by decide +kernel))) (by decide +kernel)
theorem wd_6_83 : Cond.methodLink RL 148 yX7_image ∈ z_tb := z_tbm (z_m6 (List.mem_of_getElem? (i := 83) (by decide +kernel))) (by decide +kernel)
theorem wd_6_84 : Cond.instanceMethod yX7_image ∈ z_tb := z_tbm (z_m6 (List.mem_of_getElem? (i := 84) (by decide +kernel))) (by decide +kernel)
theorem wd_6_85 : Cond.selects RX7 yX7_image yX7_image ∈ z_tb := z_tbm (z_m6 (List.mem_of_getElem? (i := 85) (by decide +kernel))) (by decide +kernel)
theorem wd_6_86 : Cond.code yX7_image cX7_image 3 (some .int) ∈ z_tb := z_tbm (z_m6 (List.mem_of_getElem? (i := 86) (by decide +kernel))) (by decide +kernel)
theorem wd_6_87 : Cond.methodLink RL 152 yX7_restore ∈ z_tb := z_tbm (z_m6 (List.mem_of_getElem? (i := 87) (by decide +kernel))) (by decide +kernel)
theorem wd_6_88 : Cond.instanceMethod yX7_restore ∈ z_tb := z_tbm (z_m6 (List.mem_of_getElem? (i := 88) (by decide +kernel))) (by decide +kernel)
theorem wd_6_89 : Cond.selects RX7 yX7_restore yX7_restore ∈ z_tb := z_tbm (z_m6 (List.mem_of_getElem? (i := 89) (by decide +kernel))) (by decide +kernel)
theorem wd_6_90 : Cond.code yX7_restore cX7_restore 3 (some .int) ∈ z_tb := z_tbm (z_m6 (List.mem_of_getElem? (i := 90) (by decide +kernel))) (by decide +kernel)
theorem wd_6_91 : Cond.methodLink RL 156 yX7_kind ∈ z_tb := z_tbm (z_m6 (List.mem_of_getElem? (i := 91) (by decide +kernel))) (by decide +kernel)
theorem wd_6_92 : Cond.instanceMethod yX7_kind ∈ z_tb := z_tbm (z_m6 (List.mem_of_getElem? (i := 92) (by decide +kernel))) (by decide +kernel)
theorem wd_6_93 : Cond.selects RX7 yX7_kind yX7_kind ∈ z_tb := z_tbm (z_m6 (List.mem_of_getElem? (i := 93) (by decide +kernel))) (by decide +kernel)
theorem wd_6_94 : Cond.code yX7_kind cX7_kind 2 (some .int) ∈ z_tb := z_tbm (z_m6 (List.mem_of_getElem? (i := 94) (by decide +kernel))) (by decide +kernel)
theorem wd_6_95 : Cond.methodLink RL 160 yX7_as ∈ z_tb := z_tbm (z_m6 (List.mem_of_getElem? (i := 95) (by decide +kernel))) (by decide +kernel)
theorem wd_6_96 : Cond.instanceMethod yX7_as ∈ z_tb := z_tbm (z_m6 (List.mem_of_getElem? (i := 96) (by decide +kernel))) (by decide +kernel)
theorem wd_6_97 : Cond.selects RX7 yX7_as yX7_as ∈ z_tb := z_tbm (z_m6 (List.mem_of_getElem? (i := 97) (by decide +kernel))) (by decide +kernel)
theorem wd_6_98 : Cond.code yX7_as cX7_as 3 (some .int) ∈ z_tb := z_tbm (z_m6 (List.mem_of_getElem? (i := 98) (by decide +kernel))) (by decide +kernel)
section
variable {p : Program} {l : Launch} {e : Env} {R : Room} {s : State} {m : MethodId} {args : Array Value} {below : List Frame} {meth : Method} {c : Code} {H : Heap} {locs : List Loc} {cells slots : Nat} {Q : State → Prop}
variable {cc : ByteArray} {nL : Nat} {ret : Option FieldType} {G : z_G} {M : z_M} {pc : Nat} {ls : Array Slot} {rest : List Value}
theorem iv_L_101 {a0 a1 : Value} {rv : Value} {M1 : z_M} {d : Nat} (hc : z_C p s m args meth c RL cc nL ret) (hI : z_I G s M H locs) (hM : z_Met G l yX7_meet cX7_meet 7 (some .int) d [.ref (z_ad G 21 0), a0, a1] M (some rv) M1) (hR : (z_rm d).frames + 1 ≤ R.frames ∧ 8 + (7 + 11) + (z_rm d).locals ≤ R.locals) (hls : ls.size = nL) (hW : (rest.map fun v => v.category).sum ≤ 8) (hcs : cells ≤ R.cells ∧ slots ≤ R.slots) (hdg : decode cc pc = .ok (.invokevirtual 101, 3)) (kk : ∀ (H1 : Heap) (locs1 : List Loc), z_I G s M1 H1 locs1 → W p l e R s m args below meth c H1 locs1 cells slots Q (F0 m (pc + 3) ls (rv :: rest))) : W p l e R s m args below meth c H locs cells slots Q (F0 m (pc) ls (a1 :: a0 :: .ref (z_ad G 21 0) :: rest)) := z_inv (n := 2) (As := [a0, a1]) (rest := rest) (v := some rv) hc hI hM z_ix21 rfl (C := RX7) (T := TX7) (N := 24) rfl wd_5_224 wd_5_225 wd_5_226 wd_1_8 wd_5_227 (by decide +kernel) hR rfl hls hW hcs hdg kk
theorem iv_L_102 {a0 : Value} {rv : Value} {M1 : z_M} {d : Nat} (hc : z_C p s m args meth c RL cc nL ret) (hI : z_I G s M H locs) (hM : z_Met G l yX6_choir cX6_choir 2 (some .int) d [.ref (z_ad G 0 0), a0] M (some rv) M1) (hR : (z_rm d).frames + 1 ≤ R.frames ∧ 8 + (2 + 11) + (z_rm d).locals ≤ R.locals) (hls : ls.size = nL) (hW : (rest.map fun v => v.category).sum ≤ 8) (hcs : cells ≤ R.cells ∧ slots ≤ R.slots) (hdg : decode cc pc = .ok (.invokevirtual 102, 3)) (kk : ∀ (H1 : Heap) (locs1 : List Loc), z_I G s M1 H1 locs1 → W p l e R s m args below meth c H1 locs1 cells slots Q (F0 m (pc + 3) ls (rv :: rest))) : W p l e R s m args below meth c H locs cells slots Q (F0 m (pc) ls (a0 :: .ref (z_ad G 0 0) :: rest)) := z_inv (n := 1) (As := [a0]) (rest := rest) (v := some rv) hc hI hM z_ix0 rfl (C := RX6) (T := TX6) (N := 8) rfl wd_3_105 wd_3_106 wd_3_107 wd_1_1 wd_3_108 (by decide +kernel) hR rfl hls hW hcs hdg kk
theorem iv_L_105 {a0 : Value} {rv : Value} {M1 : z_M} {d : Nat} (hc : z_C p s m args meth c RL cc nL ret) (hI : z_I G s M H locs) (hM : z_Met G l yX7_choir cX7_choir 6 (some .int) d [.ref (z_ad G 21 0), a0] M (some rv) M1) (hR : (z_rm d).frames + 1 ≤ R.frames ∧ 8 + (6 + 11) + (z_rm d).locals ≤ R.locals) (hls : ls.size = nL) (hW : (rest.map fun v => v.category).sum ≤ 8) (hcs : cells ≤ R.cells ∧ slots ≤ R.slots) (hdg : decode cc pc = .ok (.invokevirtual 105, 3)) (kk : ∀ (H1 : Heap) (locs1 : List Loc), z_I G s M1 H1 locs1 → W p l e R s m args below meth c H1 locs1 cells slots Q (F0 m (pc + 3) ls (rv :: rest))) : W p l e R s m args below meth c H locs cells slots Q (F0 m (pc) ls (a0 :: .ref (z_ad G 21 0) :: rest)) := z_inv (n := 1) (As := [a0]) (rest := rest) (v := some rv) hc hI hM z_ix21 rfl (C := RX7) (T := TX7) (N := 24) rfl wd_5_228 wd_5_229 wd_5_230 wd_1_8 wd_5_231 (by decide +kernel) hR rfl hls hW hcs hdg kk
theorem iv_L_106 {a0 : Value} {rv : Value} {M1 : z_M} {d : Nat} (hc : z_C p s m args meth c RL cc nL ret) (hI : z_I G s M H locs) (hM : z_Met G l yX6_twins cX6_twins 2 (some .int) d [.ref (z_ad G 0 0), a0] M (some rv) M1) (hR : (z_rm d).frames + 1 ≤ R.frames ∧ 8 + (2 + 11) + (z_rm d).locals ≤ R.locals) (hls : ls.size = nL) (hW : (rest.map fun v => v.category).sum ≤ 8) (hcs : cells ≤ R.cells ∧ slots ≤ R.slots) (hdg : decode cc pc = .ok (.invokevirtual 106, 3)) (kk : ∀ (H1 : Heap) (locs1 : List Loc), z_I G s M1 H1 locs1 → W p l e R s m args below meth c H1 locs1 cells slots Q (F0 m (pc + 3) ls (rv :: rest))) : W p l e R s m args below meth c H locs cells slots Q (F0 m (pc) ls (a0 :: .ref (z_ad G 0 0) :: rest)) := z_inv (n := 1) (As := [a0]) (rest := rest) (v := some rv) hc hI hM z_ix0 rfl (C := RX6) (T := TX6) (N := 8) rfl wd_3_120 wd_3_121 wd_3_122 wd_1_1 wd_3_123 (by decide +kernel) hR rfl hls hW hcs hdg kk
theorem iv_L_109 {a0 : Value} {rv : Value} {M1 : z_M} {d : Nat} (hc : z_C p s m args meth c RL cc nL ret) (hI : z_I G s M H locs) (hM : z_Met G l yX7_twins cX7_twins 3 (some .int) d [.ref (z_ad G 21 0), a0] M (some rv) M1) (hR : (z_rm d).frames + 1 ≤ R.frames ∧ 8 + (3 + 11) + (z_rm d).locals ≤ R.locals) (hls : ls.size = nL) (hW : (rest.map fun v => v.category).sum ≤ 8) (hcs : cells ≤ R.cells ∧ slots ≤ R.slots) (hdg : decode cc pc = .ok (.invokevirtual 109, 3)) (kk : ∀ (H1 : Heap) (locs1 : List Loc), z_I G s M1 H1 locs1 → W p l e R s m args below meth c H1 locs1 cells slots Q (F0 m (pc + 3) ls (rv :: rest))) : W p l e R s m args below meth c H locs cells slots Q (F0 m (pc) ls (a0 :: .ref (z_ad G 21 0) :: rest)) := z_inv (n := 1) (As := [a0]) (rest := rest) (v := some rv) hc hI hM z_ix21 rfl (C := RX7) (T := TX7) (N := 24) rfl wd_5_239 wd_6_0 wd_6_1 wd_1_8 wd_6_2 (by decide +kernel) hR rfl hls hW hcs hdg kk
theorem iv_L_110 {a0 a1 a2 : Value} {rv : Value} {M1 : z_M} {d : Nat} (hc : z_C p s m args meth c RL cc nL ret) (hI : z_I G s M H locs) (hM : z_Met G l yX6_felt cX6_felt 4 (some .int) d [.ref (z_ad G 0 0), a0, a1, a2] M (some rv) M1) (hR : (z_rm d).frames + 1 ≤ R.frames ∧ 8 + (4 + 11) + (z_rm d).locals ≤ R.locals) (hls : ls.size = nL) (hW : (rest.map fun v => v.category).sum ≤ 8) (hcs : cells ≤ R.cells ∧ slots ≤ R.slots) (hdg : decode cc pc = .ok (.invokevirtual 110, 3)) (kk : ∀ (H1 : Heap) (locs1 : List Loc), z_I G s M1 H1 locs1 → W p l e R s m args below meth c H1 locs1 cells slots Q (F0 m (pc + 3) ls (rv :: rest))) : W p l e R s m args below meth c H locs cells slots Q (F0 m (pc) ls (a2 :: a1 :: a0 :: .ref (z_ad G 0 0) :: rest)) := z_inv (n := 3) (As := [a0, a1, a2]) (rest := rest) (v := some rv) hc hI hM z_ix0 rfl (C := RX6) (T := TX6) (N := 8) rfl wd_3_146 wd_3_147 wd_3_148 wd_1_1 wd_3_149 (by decide +kernel) hR rfl hls hW hcs hdg kk
theorem iv_L_113 {a0 a1 a2 : Value} {rv : Value} {M1 : z_M} {d : Nat} (hc : z_C p s m args meth c RL cc nL ret) (hI : z_I G s M H locs) (hM : z_Met G l yX7_felt cX7_felt 7 (some .int) d [.ref (z_ad G 21 0), a0, a1, a2] M (some rv) M1) (hR : (z_rm d).frames + 1 ≤ R.frames ∧ 8 + (7 + 11) + (z_rm d).locals ≤ R.locals) (hls : ls.size = nL) (hW : (rest.map fun v => v.category).sum ≤ 8) (hcs : cells ≤ R.cells ∧ slots ≤ R.slots) (hdg : decode cc pc = .ok (.invokevirtual 113, 3)) (kk : ∀ (H1 : Heap) (locs1 : List Loc), z_I G s M1 H1 locs1 → W p l e R s m args below meth c H1 locs1 cells slots Q (F0 m (pc + 3) ls (rv :: rest))) : W p l e R s m args below meth c H locs cells slots Q (F0 m (pc) ls (a2 :: a1 :: a0 :: .ref (z_ad G 21 0) :: rest)) := z_inv (n := 3) (As := [a0, a1, a2]) (rest := rest) (v := some rv) hc hI hM z_ix21 rfl (C := RX7) (T := TX7) (N := 24) rfl wd_6_11 wd_6_12 wd_6_13 wd_1_8 wd_6_14 (by decide +kernel) hR rfl hls hW hcs hdg kk
theorem iv_L_114 {a0 : Value} {rv : Value} {M1 : z_M} {d : Nat} (hc : z_C p s m args meth c RL cc nL ret) (hI : z_I G s M H locs) (hM : z_Met G l yX6_doors cX6_doors 2 (some .int) d [.ref (z_ad G 0 0), a0] M (some rv) M1) (hR : (z_rm d).frames + 1 ≤ R.frames ∧ 8 + (2 + 11) + (z_rm d).locals ≤ R.locals) (hls : ls.size = nL) (hW : (rest.map fun v => v.category).sum ≤ 8) (hcs : cells ≤ R.cells ∧ slots ≤ R.slots) (hdg : decode cc pc = .ok (.invokevirtual 114, 3)) (kk : ∀ (H1 : Heap) (locs1 : List Loc), z_I G s M1 H1 locs1 → W p l e R s m args below meth c H1 locs1 cells slots Q (F0 m (pc + 3) ls (rv :: rest))) : W p l e R s m args below meth c H locs cells slots Q (F0 m (pc) ls (a0 :: .ref (z_ad G 0 0) :: rest)) := z_inv (n := 1) (As := [a0]) (rest := rest) (v := some rv) hc hI hM z_ix0 rfl (C := RX6) (T := TX6) (N := 8) rfl wd_3_176 wd_3_177 wd_3_178 wd_1_1 wd_3_179 (by decide +kernel) hR rfl hls hW hcs hdg kk
theorem iv_L_117 {a0 : Value} {rv : Value} {M1 : z_M} {d : Nat} (hc : z_C p s m args meth c RL cc nL ret) (hI : z_I G s M H locs) (hM : z_Met G l yX7_doors cX7_doors 4 (some .int) d [.ref (z_ad G 21 0), a0] M (some rv) M1) (hR : (z_rm d).frames + 1 ≤ R.frames ∧ 8 + (4 + 11) + (z_rm d).locals ≤ R.locals) (hls : ls.size = nL) (hW : (rest.map fun v => v.category).sum ≤ 8) (hcs : cells ≤ R.cells ∧ slots ≤ R.slots) (hdg : decode cc pc = .ok (.invokevirtual 117, 3)) (kk : ∀ (H1 : Heap) (locs1 : List Loc), z_I G s M1 H1 locs1 → W p l e R s m args below meth c H1 locs1 cells slots Q (F0 m (pc + 3) ls (rv :: rest))) : W p l e R s m args below meth c H locs cells slots Q (F0 m (pc) ls (a0 :: .ref (z_ad G 21 0) :: rest)) := z_inv (n := 1) (As := [a0]) (rest := rest) (v := some rv) hc hI hM z_ix21 rfl (C := RX7) (T := TX7) (N := 24) rfl wd_6_19 wd_6_20 wd_6_21 wd_1_8 wd_6_22 (by decide +kernel) hR rfl hls hW hcs hdg kk
theorem iv_L_118 {a0 : Value} {rv : Value} {M1 : z_M} {d : Nat} (hc : z_C p s m args meth c RL cc nL ret) (hI : z_I G s M H locs) (hM : z_Met G l yX6_planed cX6_planed 2 (some .int) d [.ref (z_ad G 0 0), a0] M (some rv) M1) (hR : (z_rm d).frames + 1 ≤ R.frames ∧ 8 + (2 + 11) + (z_rm d).locals ≤ R.locals) (hls : ls.size = nL) (hW : (rest.map fun v => v.category).sum ≤ 8) (hcs : cells ≤ R.cells ∧ slots ≤ R.slots) (hdg : decode cc pc = .ok (.invokevirtual 118, 3)) (kk : ∀ (H1 : Heap) (locs1 : List Loc), z_I G s M1 H1 locs1 → W p l e R s m args below meth c H1 locs1 cells slots Q (F0 m (pc + 3) ls (rv :: rest))) : W p l e R s m args below meth c H locs cells slots Q (F0 m (pc) ls (a0 :: .ref (z_ad G 0 0) :: rest)) := z_inv (n := 1) (As := [a0]) (rest := rest) (v := some rv) hc hI hM z_ix0 rfl (C := RX6) (T := TX6) (N := 8) rfl wd_3_192 wd_3_193 wd_3_194 wd_1_1 wd_3_195 (by decide +kernel) hR rfl hls hW hcs hdg kk
theorem iv_L_121 {a0 : Value} {rv : Value} {M1 : z_M} {d : Nat} (hc : z_C p s m args meth c RL cc nL ret) (hI : z_I G s M H locs) (hM : z_Met G l yX7_planed cX7_planed 7 (some .int) d [.ref (z_ad G 21 0), a0] M (some rv) M1) (hR : (z_rm d).frames + 1 ≤ R.frames ∧ 8 + (7 + 11) + (z_rm d).locals ≤ R.locals) (hls : ls.size = nL) (hW : (rest.map fun v => v.category).sum ≤ 8) (hcs : cells ≤ R.cells ∧ slots ≤ R.slots) (hdg : decode cc pc = .ok (.invokevirtual 121, 3)) (kk : ∀ (H1 : Heap) (locs1 : List Loc), z_I G s M1 H1 locs1 → W p l e R s m args below meth c H1 locs1 cells slots Q (F0 m (pc + 3) ls (rv :: rest))) : W p l e R s m args below meth c H locs cells slots Q (F0 m (pc) ls (a0 :: .ref (z_ad G 21 0) :: rest)) := z_inv (n := 1) (As := [a0]) (rest := rest) (v := some rv) hc hI hM z_ix21 rfl (C := RX7) (T := TX7) (N := 24) rfl wd_6_27 wd_6_28 wd_6_29 wd_1_8 wd_6_30 (by decide +kernel) hR rfl hls hW hcs hdg kk
theorem iv_L_122 {a0 a1 a2 a3 : Value} {rv : Value} {M1 : z_M} {d : Nat} (hc : z_C p s m args meth c RL cc nL ret) (hI : z_I G s M H locs) (hM : z_Met G l yX6_rise cX6_rise 5 (some .int) d [.ref (z_ad G 0 0), a0, a1, a2, a3] M (some rv) M1) (hR : (z_rm d).frames + 1 ≤ R.frames ∧ 8 + (5 + 11) + (z_rm d).locals ≤ R.locals) (hls : ls.size = nL) (hW : (rest.map fun v => v.category).sum ≤ 8) (hcs : cells ≤ R.cells ∧ slots ≤ R.slots) (hdg : decode cc pc = .ok (.invokevirtual 122, 3)) (kk : ∀ (H1 : Heap) (locs1 : List Loc), z_I G s M1 H1 locs1 → W p l e R s m args below meth c H1 locs1 cells slots Q (F0 m (pc + 3) ls (rv :: rest))) : W p l e R s m args below meth c H locs cells slots Q (F0 m (pc) ls (a3 :: a2 :: a1 :: a0 :: .ref (z_ad G 0 0) :: rest)) := z_inv (n := 4) (As := [a0, a1, a2, a3]) (rest := rest) (v := some rv) hc hI hM z_ix0 rfl (C := RX6) (T := TX6) (N := 8) rfl wd_3_205 wd_3_206 wd_3_207 wd_1_1 wd_3_208 (by decide +kernel) hR rfl hls hW hcs hdg kk
theorem iv_L_126 {a0 a1 a2 a3 : Value} {rv : Value} {M1 : z_M} {d : Nat} (hc : z_C p s m args meth c RL cc nL ret) (hI : z_I G s M H locs) (hM : z_Met G l yX7_rise cX7_rise 9 (some .int) d [.ref (z_ad G 21 0), a0, a1, a2, a3] M (some rv) M1) (hR : (z_rm d).frames + 1 ≤ R.frames ∧ 8 + (9 + 11) + (z_rm d).locals ≤ R.locals) (hls : ls.size = nL) (hW : (rest.map fun v => v.category).sum ≤ 8) (hcs : cells ≤ R.cells ∧ slots ≤ R.slots) (hdg : decode cc pc = .ok (.invokevirtual 126, 3)) (kk : ∀ (H1 : Heap) (locs1 : List Loc), z_I G s M1 H1 locs1 → W p l e R s m args below meth c H1 locs1 cells slots Q (F0 m (pc + 3) ls (rv :: rest))) : W p l e R s m args below meth c H locs cells slots Q (F0 m (pc) ls (a3 :: a2 :: a1 :: a0 :: .ref (z_ad G 21 0) :: rest)) := z_inv (n := 4) (As := [a0, a1, a2, a3]) (rest := rest) (v := some rv) hc hI hM z_ix21 rfl (C := RX7) (T := TX7) (N := 24) rfl wd_6_31 wd_6_32 wd_6_33 wd_1_8 wd_6_34 (by decide +kernel) hR rfl hls hW hcs hdg kk
theorem iv_L_127 {a0 a1 a2 a3 a4 a5 a6 : Value} {rv : Value} {M1 : z_M} {d : Nat} (hc : z_C p s m args meth c RL cc nL ret) (hI : z_I G s M H locs) (hM : z_Met G l yX6_what cX6_what 9 (some .int) d [.ref (z_ad G 0 0), a0, a1, a2, a3, a4, a5, a6] M (some rv) M1) (hR : (z_rm d).frames + 1 ≤ R.frames ∧ 8 + (9 + 11) + (z_rm d).locals ≤ R.locals) (hls : ls.size = nL) (hW : (rest.map fun v => v.category).sum ≤ 8) (hcs : cells ≤ R.cells ∧ slots ≤ R.slots) (hdg : decode cc pc = .ok (.invokevirtual 127, 3)) (kk : ∀ (H1 : Heap) (locs1 : List Loc), z_I G s M1 H1 locs1 → W p l e R s m args below meth c H1 locs1 cells slots Q (F0 m (pc + 3) ls (rv :: rest))) : W p l e R s m args below meth c H locs cells slots Q (F0 m (pc) ls (a6 :: a5 :: a4 :: a3 :: a2 :: a1 :: a0 :: .ref (z_ad G 0 0) :: rest)) := z_inv (n := 7) (As := [a0, a1, a2, a3, a4, a5, a6]) (rest := rest) (v := some rv) hc hI hM z_ix0 rfl (C := RX6) (T := TX6) (N := 8) rfl wd_3_220 wd_3_221 wd_3_222 wd_1_1 wd_3_223 (by decide +kernel) hR rfl hls hW hcs hdg kk
theorem iv_L_13 {a0 a1 a2 : Value} {rv : Value} {M1 : z_M} {d : Nat} (hc : z_C p s m args meth c RL cc nL ret) (hI : z_I G s M H locs) (hM : z_Met G l yX6_row cX6_row 4 (some .int) d [.ref (z_ad G 0 0), a0, a1, a2] M (some rv) M1) (hR : (z_rm d).frames + 1 ≤ R.frames ∧ 8 + (4 + 11) + (z_rm d).locals ≤ R.locals) (hls : ls.size = nL) (hW : (rest.map fun v => v.category).sum ≤ 8) (hcs : cells ≤ R.cells ∧ slots ≤ R.slots) (hdg : decode cc pc = .ok (.invokevirtual 13, 3)) (kk : ∀ (H1 : Heap) (locs1 : List Loc), z_I G s M1 H1 locs1 → W p l e R s m args below meth c H1 locs1 cells slots Q (F0 m (pc + 3) ls (rv :: rest))) : W p l e R s m args below meth c H locs cells slots Q (F0 m (pc) ls (a2 :: a1 :: a0 :: .ref (z_ad G 0 0) :: rest)) := z_inv (n := 3) (As := [a0, a1, a2]) (rest := rest) (v := some rv) hc hI hM z_ix0 rfl (C := RX6) (T := TX6) (N := 8) rfl wd_1_192 wd_1_193 wd_1_194 wd_1_1 wd_1_195 (by decide +kernel) hR rfl hls hW hcs hdg kk
theorem iv_L_131 {a0 a1 a2 a3 a4 a5 a6 : Value} {rv : Value} {M1 : z_M} {d : Nat} (hc : z_C p s m args meth c RL cc nL ret) (hI : z_I G s M H locs) (hM : z_Met G l yX7_what cX7_what 10 (some .int) d [.ref (z_ad G 21 0), a0, a1, a2, a3, a4, a5, a6] M (some rv) M1) (hR : (z_rm d).frames + 1 ≤ R.frames ∧ 8 + (10 + 11) + (z_rm d).locals ≤ R.locals) (hls : ls.size = nL) (hW : (rest.map fun v => v.category).sum ≤ 8) (hcs : cells ≤ R.cells ∧ slots ≤ R.slots) (hdg : decode cc pc = .ok (.invokevirtual 131, 3)) (kk : ∀ (H1 : Heap) (locs1 : List Loc), z_I G s M1 H1 locs1 → W p l e R s m args below meth c H1 locs1 cells slots Q (F0 m (pc + 3) ls (rv :: rest))) : W p l e R s m args below meth c H locs cells slots Q (F0 m (pc) ls (a6 :: a5 :: a4 :: a3 :: a2 :: a1 :: a0 :: .ref (z_ad G 21 0) :: rest)) := z_inv (n := 7) (As := [a0, a1, a2, a3, a4, a5, a6]) (rest := rest) (v := some rv) hc hI hM z_ix21 rfl (C := RX7) (T := TX7) (N := 24) rfl wd_6_39 wd_6_40 wd_6_41 wd_1_8 wd_6_42 (by decide +kernel) hR rfl hls hW hcs hdg kk
theorem iv_L_132 {a0 a1 a2 a3 a4 a5 a6 : Value} {rv : Value} {M1 : z_M} {d : Nat} (hc : z_C p s m args meth c RL cc nL ret) (hI : z_I G s M H locs) (hM : z_Met G l yX6_who cX6_who 8 (some .int) d [.ref (z_ad G 0 0), a0, a1, a2, a3, a4, a5, a6] M (some rv) M1) (hR : (z_rm d).frames + 1 ≤ R.frames ∧ 8 + (8 + 11) + (z_rm d).locals ≤ R.locals) (hls : ls.size = nL) (hW : (rest.map fun v => v.category).sum ≤ 8) (hcs : cells ≤ R.cells ∧ slots ≤ R.slots) (hdg : decode cc pc = .ok (.invokevirtual 132, 3)) (kk : ∀ (H1 : Heap) (locs1 : List Loc), z_I G s M1 H1 locs1 → W p l e R s m args below meth c H1 locs1 cells slots Q (F0 m (pc + 3) ls (rv :: rest))) : W p l e R s m args below meth c H locs cells slots Q (F0 m (pc) ls (a6 :: a5 :: a4 :: a3 :: a2 :: a1 :: a0 :: .ref (z_ad G 0 0) :: rest)) := z_inv (n := 7) (As := [a0, a1, a2, a3, a4, a5, a6]) (rest := rest) (v := some rv) hc hI hM z_ix0 rfl (C := RX6) (T := TX6) (N := 8) rfl wd_4_16 wd_4_17 wd_4_18 wd_1_1 wd_4_19 (by decide +kernel) hR rfl hls hW hcs hdg kk
theorem iv_L_135 {a0 a1 a2 a3 a4 a5 a6 : Value} {rv : Value} {M1 : z_M} {d : Nat} (hc : z_C p s m args meth c RL cc nL ret) (hI : z_I G s M H locs) (hM : z_Met G l yX7_who cX7_who 10 (some .int) d [.ref (z_ad G 21 0), a0, a1, a2, a3, a4, a5, a6] M (some rv) M1) (hR : (z_rm d).frames + 1 ≤ R.frames ∧ 8 + (10 + 11) + (z_rm d).locals ≤ R.locals) (hls : ls.size = nL) (hW : (rest.map fun v => v.category).sum ≤ 8) (hcs : cells ≤ R.cells ∧ slots ≤ R.slots) (hdg : decode cc pc = .ok (.invokevirtual 135, 3)) (kk : ∀ (H1 : Heap) (locs1 : List Loc), z_I G s M1 H1 locs1 → W p l e R s m args below meth c H1 locs1 cells slots Q (F0 m (pc + 3) ls (rv :: rest))) : W p l e R s m args below meth c H locs cells slots Q (F0 m (pc) ls (a6 :: a5 :: a4 :: a3 :: a2 :: a1 :: a0 :: .ref (z_ad G 21 0) :: rest)) := z_inv (n := 7) (As := [a0, a1, a2, a3, a4, a5, a6]) (rest := rest) (v := some rv) hc hI hM z_ix21 rfl (C := RX7) (T := TX7) (N := 24) rfl wd_6_56 wd_6_57 wd_6_58 wd_1_8 wd_6_59 (by decide +kernel) hR rfl hls hW hcs hdg kk
theorem iv_L_136 {a0 a1 a2 a3 : Value} {rv : Value} {M1 : z_M} {d : Nat} (hc : z_C p s m args meth c RL cc nL ret) (hI : z_I G s M H locs) (hM : z_Met G l yX6_rots cX6_rots 5 (some .long) d [.ref (z_ad G 0 0), a0, a1, a2, a3] M (some rv) M1) (hR : (z_rm d).frames + 1 ≤ R.frames ∧ 8 + (5 + 11) + (z_rm d).locals ≤ R.locals) (hls : ls.size = nL) (hW : (rest.map fun v => v.category).sum ≤ 8) (hcs : cells ≤ R.cells ∧ slots ≤ R.slots) (hdg : decode cc pc = .ok (.invokevirtual 136, 3)) (kk : ∀ (H1 : Heap) (locs1 : List Loc), z_I G s M1 H1 locs1 → W p l e R s m args below meth c H1 locs1 cells slots Q (F0 m (pc + 3) ls (rv :: rest))) : W p l e R s m args below meth c H locs cells slots Q (F0 m (pc) ls (a3 :: a2 :: a1 :: a0 :: .ref (z_ad G 0 0) :: rest)) := z_inv (n := 4) (As := [a0, a1, a2, a3]) (rest := rest) (v := some rv) hc hI hM z_ix0 rfl (C := RX6) (T := TX6) (N := 8) rfl wd_4_26 wd_4_27 wd_4_28 wd_1_1 wd_4_29 (by decide +kernel) hR rfl hls hW hcs hdg kk
theorem iv_L_140 {a0 a1 a2 a3 : Value} {rv : Value} {M1 : z_M} {d : Nat} (hc : z_C p s m args meth c RL cc nL ret) (hI : z_I G s M H locs) (hM : z_Met G l yX7_rots cX7_rots 16 (some .long) d [.ref (z_ad G 21 0), a0, a1, a2, a3] M (some rv) M1) (hR : (z_rm d).frames + 1 ≤ R.frames ∧ 8 + (16 + 11) + (z_rm d).locals ≤ R.locals) (hls : ls.size = nL) (hW : (rest.map fun v => v.category).sum ≤ 8) (hcs : cells ≤ R.cells ∧ slots ≤ R.slots) (hdg : decode cc pc = .ok (.invokevirtual 140, 3)) (kk : ∀ (H1 : Heap) (locs1 : List Loc), z_I G s M1 H1 locs1 → W p l e R s m args below meth c H1 locs1 cells slots Q (F0 m (pc + 3) ls (rv :: rest))) : W p l e R s m args below meth c H locs cells slots Q (F0 m (pc) ls (a3 :: a2 :: a1 :: a0 :: .ref (z_ad G 21 0) :: rest)) := z_inv (n := 4) (As := [a0, a1, a2, a3]) (rest := rest) (v := some rv) hc hI hM z_ix21 rfl (C := RX7) (T := TX7) (N := 24) rfl wd_6_60 wd_6_61 wd_6_62 wd_1_8 wd_6_63 (by decide +kernel) hR rfl hls hW hcs hdg kk
theorem iv_L_141 {a0 a1 a2 : Value} {rv : Value} {M1 : z_M} {d : Nat} (hc : z_C p s m args meth c RL cc nL ret) (hI : z_I G s M H locs) (hM : z_Met G l yX6_drawn cX6_drawn 4 (some .int) d [.ref (z_ad G 0 0), a0, a1, a2] M (some rv) M1) (hR : (z_rm d).frames + 1 ≤ R.frames ∧ 8 + (4 + 11) + (z_rm d).locals ≤ R.locals) (hls : ls.size = nL) (hW : (rest.map fun v => v.category).sum ≤ 8) (hcs : cells ≤ R.cells ∧ slots ≤ R.slots) (hdg : decode cc pc = .ok (.invokevirtual 141, 3)) (kk : ∀ (H1 : Heap) (locs1 : List Loc), z_I G s M1 H1 locs1 → W p l e R s m args below meth c H1 locs1 cells slots Q (F0 m (pc + 3) ls (rv :: rest))) : W p l e R s m args below meth c H locs cells slots Q (F0 m (pc) ls (a2 :: a1 :: a0 :: .ref (z_ad G 0 0) :: rest)) := z_inv (n := 3) (As := [a0, a1, a2]) (rest := rest) (v := some rv) hc hI hM z_ix0 rfl (C := RX6) (T := TX6) (N := 8) rfl wd_4_41 wd_4_42 wd_4_43 wd_1_1 wd_4_44 (by decide +kernel) hR rfl hls hW hcs hdg kk
theorem iv_L_144 {a0 a1 a2 : Value} {rv : Value} {M1 : z_M} {d : Nat} (hc : z_C p s m args meth c RL cc nL ret) (hI : z_I G s M H locs) (hM : z_Met G l yX7_drawn cX7_drawn 8 (some .int) d [.ref (z_ad G 21 0), a0, a1, a2] M (some rv) M1) (hR : (z_rm d).frames + 1 ≤ R.frames ∧ 8 + (8 + 11) + (z_rm d).locals ≤ R.locals) (hls : ls.size = nL) (hW : (rest.map fun v => v.category).sum ≤ 8) (hcs : cells ≤ R.cells ∧ slots ≤ R.slots) (hdg : decode cc pc = .ok (.invokevirtual 144, 3)) (kk : ∀ (H1 : Heap) (locs1 : List Loc), z_I G s M1 H1 locs1 → W p l e R s m args below meth c H1 locs1 cells slots Q (F0 m (pc + 3) ls (rv :: rest))) : W p l e R s m args below meth c H locs cells slots Q (F0 m (pc) ls (a2 :: a1 :: a0 :: .ref (z_ad G 21 0) :: rest)) := z_inv (n := 3) (As := [a0, a1, a2]) (rest := rest) (v := some rv) hc hI hM z_ix21 rfl (C := RX7) (T := TX7) (N := 24) rfl wd_6_66 wd_6_67 wd_6_68 wd_1_8 wd_6_69 (by decide +kernel) hR rfl hls hW hcs hdg kk
theorem iv_L_145 {a0 : Value} {rv : Value} {M1 : z_M} {d : Nat} (hc : z_C p s m args meth c RL cc nL ret) (hI : z_I G s M H locs) (hM : z_Met G l yX6_image cX6_image 3 (some .int) d [.ref (z_ad G 0 0), a0] M (some rv) M1) (hR : (z_rm d).frames + 1 ≤ R.frames ∧ 8 + (3 + 11) + (z_rm d).locals ≤ R.locals) (hls : ls.size = nL) (hW : (rest.map fun v => v.category).sum ≤ 8) (hcs : cells ≤ R.cells ∧ slots ≤ R.slots) (hdg : decode cc pc = .ok (.invokevirtual 145, 3)) (kk : ∀ (H1 : Heap) (locs1 : List Loc), z_I G s M1 H1 locs1 → W p l e R s m args below meth c H1 locs1 cells slots Q (F0 m (pc + 3) ls (rv :: rest))) : W p l e R s m args below meth c H locs cells slots Q (F0 m (pc) ls (a0 :: .ref (z_ad G 0 0) :: rest)) := z_inv (n := 1) (As := [a0]) (rest := rest) (v := some rv) hc hI hM z_ix0 rfl (C := RX6) (T := TX6) (N := 8) rfl wd_4_63 wd_4_64 wd_4_65 wd_1_1 wd_4_66 (by decide +kernel) hR rfl hls hW hcs hdg kk
theorem iv_L_148 {a0 : Value} {rv : Value} {M1 : z_M} {d : Nat} (hc : z_C p s m args meth c RL cc nL ret) (hI : z_I G s M H locs) (hM : z_Met G l yX7_image cX7_image 3 (some .int) d [.ref (z_ad G 21 0), a0] M (some rv) M1) (hR : (z_rm d).frames + 1 ≤ R.frames ∧ 8 + (3 + 11) + (z_rm d).locals ≤ R.locals) (hls : ls.size = nL) (hW : (rest.map fun v => v.category).sum ≤ 8) (hcs : cells ≤ R.cells ∧ slots ≤ R.slots) (hdg : decode cc pc = .ok (.invokevirtual 148, 3)) (kk : ∀ (H1 : Heap) (locs1 : List Loc), z_I G s M1 H1 locs1 → W p l e R s m args below meth c H1 locs1 cells slots Q (F0 m (pc + 3) ls (rv :: rest))) : W p l e R s m args below meth c H locs cells slots Q (F0 m (pc) ls (a0 :: .ref (z_ad G 21 0) :: rest)) := z_inv (n := 1) (As := [a0]) (rest := rest) (v := some rv) hc hI hM z_ix21 rfl (C := RX7) (T := TX7) (N := 24) rfl wd_6_83 wd_6_84 wd_6_85 wd_1_8 wd_6_86 (by decide +kernel) hR rfl hls hW hcs hdg kk
theorem iv_L_149 {a0 : Value} {rv : Value} {M1 : z_M} {d : Nat} (hc : z_C p s m args meth c RL cc nL ret) (hI : z_I G s M H locs) (hM : z_Met G l yX6_restore cX6_restore 3 (some .int) d [.ref (z_ad G 0 0), a0] M (some rv) M1) (hR : (z_rm d).frames + 1 ≤ R.frames ∧ 8 + (3 + 11) + (z_rm d).locals ≤ R.locals) (hls : ls.size = nL) (hW : (rest.map fun v => v.category).sum ≤ 8) (hcs : cells ≤ R.cells ∧ slots ≤ R.slots) (hdg : decode cc pc = .ok (.invokevirtual 149, 3)) (kk : ∀ (H1 : Heap) (locs1 : List Loc), z_I G s M1 H1 locs1 → W p l e R s m args below meth c H1 locs1 cells slots Q (F0 m (pc + 3) ls (rv :: rest))) : W p l e R s m args below meth c H locs cells slots Q (F0 m (pc) ls (a0 :: .ref (z_ad G 0 0) :: rest)) := z_inv (n := 1) (As := [a0]) (rest := rest) (v := some rv) hc hI hM z_ix0 rfl (C := RX6) (T := TX6) (N := 8) rfl wd_4_67 wd_4_68 wd_4_69 wd_1_1 wd_4_70 (by decide +kernel) hR rfl hls hW hcs hdg kk
theorem iv_L_152 {a0 : Value} {rv : Value} {M1 : z_M} {d : Nat} (hc : z_C p s m args meth c RL cc nL ret) (hI : z_I G s M H locs) (hM : z_Met G l yX7_restore cX7_restore 3 (some .int) d [.ref (z_ad G 21 0), a0] M (some rv) M1) (hR : (z_rm d).frames + 1 ≤ R.frames ∧ 8 + (3 + 11) + (z_rm d).locals ≤ R.locals) (hls : ls.size = nL) (hW : (rest.map fun v => v.category).sum ≤ 8) (hcs : cells ≤ R.cells ∧ slots ≤ R.slots) (hdg : decode cc pc = .ok (.invokevirtual 152, 3)) (kk : ∀ (H1 : Heap) (locs1 : List Loc), z_I G s M1 H1 locs1 → W p l e R s m args below meth c H1 locs1 cells slots Q (F0 m (pc + 3) ls (rv :: rest))) : W p l e R s m args below meth c H locs cells slots Q (F0 m (pc) ls (a0 :: .ref (z_ad G 21 0) :: rest)) := z_inv (n := 1) (As := [a0]) (rest := rest) (v := some rv) hc hI hM z_ix21 rfl (C := RX7) (T := TX7) (N := 24) rfl wd_6_87 wd_6_88 wd_6_89 wd_1_8 wd_6_90 (by decide +kernel) hR rfl hls hW hcs hdg kk
theorem iv_L_153 {a0 : Value} {rv : Value} {M1 : z_M} {d : Nat} (hc : z_C p s m args meth c RL cc nL ret) (hI : z_I G s M H locs) (hM : z_Met G l yX6_kind cX6_kind 2 (some .int) d [.ref (z_ad G 0 0), a0] M (some rv) M1) (hR : (z_rm d).frames + 1 ≤ R.frames ∧ 8 + (2 + 11) + (z_rm d).locals ≤ R.locals) (hls : ls.size = nL) (hW : (rest.map fun v => v.category).sum ≤ 8) (hcs : cells ≤ R.cells ∧ slots ≤ R.slots) (hdg : decode cc pc = .ok (.invokevirtual 153, 3)) (kk : ∀ (H1 : Heap) (locs1 : List Loc), z_I G s M1 H1 locs1 → W p l e R s m args below meth c H1 locs1 cells slots Q (F0 m (pc + 3) ls (rv :: rest))) : W p l e R s m args below meth c H locs cells slots Q (F0 m (pc) ls (a0 :: .ref (z_ad G 0 0) :: rest)) := z_inv (n := 1) (As := [a0]) (rest := rest) (v := some rv) hc hI hM z_ix0 rfl (C := RX6) (T := TX6) (N := 8) rfl wd_4_71 wd_4_72 wd_4_73 wd_1_1 wd_4_74 (by decide +kernel) hR rfl hls hW hcs hdg kk
theorem iv_L_156 {a0 : Value} {rv : Value} {M1 : z_M} {d : Nat} (hc : z_C p s m args meth c RL cc nL ret) (hI : z_I G s M H locs) (hM : z_Met G l yX7_kind cX7_kind 2 (some .int) d [.ref (z_ad G 21 0), a0] M (some rv) M1) (hR : (z_rm d).frames + 1 ≤ R.frames ∧ 8 + (2 + 11) + (z_rm d).locals ≤ R.locals) (hls : ls.size = nL) (hW : (rest.map fun v => v.category).sum ≤ 8) (hcs : cells ≤ R.cells ∧ slots ≤ R.slots) (hdg : decode cc pc = .ok (.invokevirtual 156, 3)) (kk : ∀ (H1 : Heap) (locs1 : List Loc), z_I G s M1 H1 locs1 → W p l e R s m args below meth c H1 locs1 cells slots Q (F0 m (pc + 3) ls (rv :: rest))) : W p l e R s m args below meth c H locs cells slots Q (F0 m (pc) ls (a0 :: .ref (z_ad G 21 0) :: rest)) := z_inv (n := 1) (As := [a0]) (rest := rest) (v := some rv) hc hI hM z_ix21 rfl (C := RX7) (T := TX7) (N := 24) rfl wd_6_91 wd_6_92 wd_6_93 wd_1_8 wd_6_94 (by decide +kernel) hR rfl hls hW hcs hdg kk
theorem iv_L_157 {a0 a1 : Value} {rv : Value} {M1 : z_M} {d : Nat} (hc : z_C p s m args meth c RL cc nL ret) (hI : z_I G s M H locs) (hM : z_Met G l yX6_as cX6_as 3 (some .int) d [.ref (z_ad G 0 0), a0, a1] M (some rv) M1) (hR : (z_rm d).frames + 1 ≤ R.frames ∧ 8 + (3 + 11) + (z_rm d).locals ≤ R.locals) (hls : ls.size = nL) (hW : (rest.map fun v => v.category).sum ≤ 8) (hcs : cells ≤ R.cells ∧ slots ≤ R.slots) (hdg : decode cc pc = .ok (.invokevirtual 157, 3)) (kk : ∀ (H1 : Heap) (locs1 : List Loc), z_I G s M1 H1 locs1 → W p l e R s m args below meth c H1 locs1 cells slots Q (F0 m (pc + 3) ls (rv :: rest))) : W p l e R s m args below meth c H locs cells slots Q (F0 m (pc) ls (a1 :: a0 :: .ref (z_ad G 0 0) :: rest)) := z_inv (n := 2) (As := [a0, a1]) (rest := rest) (v := some rv) hc hI hM z_ix0 rfl (C := RX6) (T := TX6) (N := 8) rfl wd_4_76 wd_4_77 wd_4_78 wd_1_1 wd_4_79 (by decide +kernel) hR rfl hls hW hcs hdg kk
theorem iv_L_160 {a0 a1 : Value} {rv : Value} {M1 : z_M} {d : Nat} (hc : z_C p s m args meth c RL cc nL ret) (hI : z_I G s M H locs) (hM : z_Met G l yX7_as cX7_as 3 (some .int) d [.ref (z_ad G 21 0), a0, a1] M (some rv) M1) (hR : (z_rm d).frames + 1 ≤ R.frames ∧ 8 + (3 + 11) + (z_rm d).locals ≤ R.locals) (hls : ls.size = nL) (hW : (rest.map fun v => v.category).sum ≤ 8) (hcs : cells ≤ R.cells ∧ slots ≤ R.slots) (hdg : decode cc pc = .ok (.invokevirtual 160, 3)) (kk : ∀ (H1 : Heap) (locs1 : List Loc), z_I G s M1 H1 locs1 → W p l e R s m args below meth c H1 locs1 cells slots Q (F0 m (pc + 3) ls (rv :: rest))) : W p l e R s m args below meth c H locs cells slots Q (F0 m (pc) ls (a1 :: a0 :: .ref (z_ad G 21 0) :: rest)) := z_inv (n := 2) (As := [a0, a1]) (rest := rest) (v := some rv) hc hI hM z_ix21 rfl (C := RX7) (T := TX7) (N := 24) rfl wd_6_95 wd_6_96 wd_6_97 wd_1_8 wd_6_98 (by decide +kernel) hR rfl hls hW hcs hdg kk
theorem iv_L_161 {a0 a1 : Value} {rv : Value} {M1 : z_M} {d : Nat} (hc : z_C p s m args meth c RL cc nL ret) (hI : z_I G s M H locs) (hM : z_Met G l yX6_ask cX6_ask 3 (some .int) d [.ref (z_ad G 0 0), a0, a1] M (some rv) M1) (hR : (z_rm d).frames + 1 ≤ R.frames ∧ 8 + (3 + 11) + (z_rm d).locals ≤ R.locals) (hls : ls.size = nL) (hW : (rest.map fun v => v.category).sum ≤ 8) (hcs : cells ≤ R.cells ∧ slots ≤ R.slots) (hdg : decode cc pc = .ok (.invokevirtual 161, 3)) (kk : ∀ (H1 : Heap) (locs1 : List Loc), z_I G s M1 H1 locs1 → W p l e R s m args below meth c H1 locs1 cells slots Q (F0 m (pc + 3) ls (rv :: rest))) : W p l e R s m args below meth c H locs cells slots Q (F0 m (pc) ls (a1 :: a0 :: .ref (z_ad G 0 0) :: rest)) := z_inv (n := 2) (As := [a0, a1]) (rest := rest) (v := some rv) hc hI hM z_ix0 rfl (C := RX6) (T := TX6) (N := 8) rfl wd_4_86 wd_4_87 wd_4_88 wd_1_1 wd_4_89 (by decide +kernel) hR rfl hls hW hcs hdg kk
theorem iv_L_164 {a0 a1 : Value} {rv : Value} {M1 : z_M} {d : Nat} (hc : z_C p s m args meth c RL cc nL ret) (hI : z_I G s M H locs) (hM : z_Met G l yX7_ask cX7_ask 3 (some .int) d [.ref (z_ad G 21 0), a0, a1] M (some rv) M1) (hR : (z_rm d).frames + 1 ≤ R.frames ∧ 8 + (3 + 11) + (z_rm d).locals ≤ R.locals) (hls : ls.size = nL) (hW : (rest.map fun v => v.category).sum ≤ 8) (hcs : cells ≤ R.cells ∧ slots ≤ R.slots) (hdg : decode cc pc = .ok (.invokevirtual 164, 3)) (kk : ∀ (H1 : Heap) (locs1 : List Loc), z_I G s M1 H1 locs1 → W p l e R s m args below meth c H1 locs1 cells slots Q (F0 m (pc + 3) ls (rv :: rest))) : W p l e R s m args below meth c H locs cells slots Q (F0 m (pc) ls (a1 :: a0 :: .ref (z_ad G 21 0) :: rest)) := z_inv (n := 2) (As := [a0, a1]) (rest := rest) (v := some rv) hc hI hM z_ix21 rfl (C := RX7) (T := TX7) (N := 24) rfl wd_6_103 wd_6_104 wd_6_105 wd_1_8 wd_6_106 (by decide +kernel) hR rfl hls hW hcs hdg kk
theorem iv_L_165 {a0 : Value} {rv : Value} {M1 : z_M} {d : Nat} (hc : z_C p s m args meth c RL cc nL ret) (hI : z_I G s M H locs) (hM : z_Met G l yX6_trace cX6_trace 2 (some .int) d [.ref (z_ad G 0 0), a0] M (some rv) M1) (hR : (z_rm d).frames + 1 ≤ R.frames ∧ 8 + (2 + 11) + (z_rm d).locals ≤ R.locals) (hls : ls.size = nL) (hW : (rest.map fun v => v.category).sum ≤ 8) (hcs : cells ≤ R.cells ∧ slots ≤ R.slots) (hdg : decode cc pc = .ok (.invokevirtual 165, 3)) (kk : ∀ (H1 : Heap) (locs1 : List Loc), z_I G s M1 H1 locs1 → W p l e R s m args below meth c H1 locs1 cells slots Q (F0 m (pc + 3) ls (rv :: rest))) : W p l e R s m args below meth c H locs cells slots Q (F0 m (pc) ls (a0 :: .ref (z_ad G 0 0) :: rest)) := z_inv (n := 1) (As := [a0]) (rest := rest) (v := some rv) hc hI hM z_ix0 rfl (C := RX6) (T := TX6) (N := 8) rfl wd_4_122 wd_4_123 wd_4_124 wd_1_1 wd_4_125 (by decide +kernel) hR rfl hls hW hcs hdg kk
theorem iv_L_168 {a0 : Value} {rv : Value} {M1 : z_M} {d : Nat} (hc : z_C p s m args meth c RL cc nL ret) (hI : z_I G s M H locs) (hM : z_Met G l yX7_trace cX7_trace 2 (some .int) d [.ref (z_ad G 21 0), a0] M (some rv) M1) (hR : (z_rm d).frames + 1 ≤ R.frames ∧ 8 + (2 + 11) + (z_rm d).locals ≤ R.locals) (hls : ls.size = nL) (hW : (rest.map fun v => v.category).sum ≤ 8) (hcs : cells ≤ R.cells ∧ slots ≤ R.slots) (hdg : decode cc pc = .ok (.invokevirtual 168, 3)) (kk : ∀ (H1 : Heap) (locs1 : List Loc), z_I G s M1 H1 locs1 → W p l e R s m args below meth c H1 locs1 cells slots Q (F0 m (pc + 3) ls (rv :: rest))) : W p l e R s m args below meth c H locs cells slots Q (F0 m (pc) ls (a0 :: .ref (z_ad G 21 0) :: rest)) := z_inv (n := 1) (As := [a0]) (rest := rest) (v := some rv) hc hI hM z_ix21 rfl (C := RX7) (T := TX7) (N := 24) rfl wd_6_139 wd_6_140 wd_6_141 wd_1_8 wd_6_142 (by decide +kernel) hR rfl hls hW hcs hdg kk
theorem iv_L_169 {a0 : Value} {rv : Value} {M1 : z_M} {d : Nat} (hc : z_C p s m args meth c RL cc nL ret) (hI : z_I G s M H locs) (hM : z_Met G l yX6_count cX6_count 2 (some .int) d [.ref (z_ad G 0 0), a0] M (some rv) M1) (hR : (z_rm d).frames + 1 ≤ R.frames ∧ 8 + (2 + 11) + (z_rm d).locals ≤ R.locals) (hls : ls.size = nL) (hW : (rest.map fun v => v.category).sum ≤ 8) (hcs : cells ≤ R.cells ∧ slots ≤ R.slots) (hdg : decode cc pc = .ok (.invokevirtual 169, 3)) (kk : ∀ (H1 : Heap) (locs1 : List Loc), z_I G s M1 H1 locs1 → W p l e R s m args below meth c H1 locs1 cells slots Q (F0 m (pc + 3) ls (rv :: rest))) : W p l e R s m args below meth c H locs cells slots Q (F0 m (pc) ls (a0 :: .ref (z_ad G 0 0) :: rest)) := z_inv (n := 1) (As := [a0]) (rest := rest) (v := some rv) hc hI hM z_ix0 rfl (C := RX6) (T := TX6) (N := 8) rfl wd_4_131 wd_4_132 wd_4_133 wd_1_1 wd_4_134 (by decide +kernel) hR rfl hls hW hcs hdg kk
theorem iv_L_17 {a0 a1 a2 : Value} {rv : Value} {M1 : z_M} {d : Nat} (hc : z_C p s m args meth c RL cc nL ret) (hI : z_I G s M H locs) (hM : z_Met G l yX7_row cX7_row 5 (some .int) d [.ref (z_ad G 21 0), a0, a1, a2] M (some rv) M1) (hR : (z_rm d).frames + 1 ≤ R.frames ∧ 8 + (5 + 11) + (z_rm d).locals ≤ R.locals) (hls : ls.size = nL) (hW : (rest.map fun v => v.category).sum ≤ 8) (hcs : cells ≤ R.cells ∧ slots ≤ R.slots) (hdg : decode cc pc = .ok (.invokevirtual 17, 3)) (kk : ∀ (H1 : Heap) (locs1 : List Loc), z_I G s M1 H1 locs1 → W p l e R s m args below meth c H1 locs1 cells slots Q (F0 m (pc + 3) ls (rv :: rest))) : W p l e R s m args below meth c H locs cells slots Q (F0 m (pc) ls (a2 :: a1 :: a0 :: .ref (z_ad G 21 0) :: rest)) := z_inv (n := 3) (As := [a0, a1, a2]) (rest := rest) (v := some rv) hc hI hM z_ix21 rfl (C := RX7) (T := TX7) (N := 24) rfl wd_4_233 wd_4_234 wd_4_235 wd_1_8 wd_4_236 (by decide +kernel) hR rfl hls hW hcs hdg kk
theorem iv_L_172 {a0 : Value} {rv : Value} {M1 : z_M} {d : Nat} (hc : z_C p s m args meth c RL cc nL ret) (hI : z_I G s M H locs) (hM : z_Met G l yX7_count cX7_count 4 (some .int) d [.ref (z_ad G 21 0), a0] M (some rv) M1) (hR : (z_rm d).frames + 1 ≤ R.frames ∧ 8 + (4 + 11) + (z_rm d).locals ≤ R.locals) (hls : ls.size = nL) (hW : (rest.map fun v => v.category).sum ≤ 8) (hcs : cells ≤ R.cells ∧ slots ≤ R.slots) (hdg : decode cc pc = .ok (.invokevirtual 172, 3)) (kk : ∀ (H1 : Heap) (locs1 : List Loc), z_I G s M1 H1 locs1 → W p l e R s m args below meth c H1 locs1 cells slots Q (F0 m (pc + 3) ls (rv :: rest))) : W p l e R s m args below meth c H locs cells slots Q (F0 m (pc) ls (a0 :: .ref (z_ad G 21 0) :: rest)) := z_inv (n := 1) (As := [a0]) (rest := rest) (v := some rv) hc hI hM z_ix21 rfl (C := RX7) (T := TX7) (N := 24) rfl wd_6_143 wd_6_144 wd_6_145 wd_1_8 wd_6_146 (by decide +kernel) hR rfl hls hW hcs hdg kk
theorem iv_L_173 {rv : Value} {M1 : z_M} {d : Nat} (hc : z_C p s m args meth c RL cc nL ret) (hI : z_I G s M H locs) (hM : z_Met G l yX6_status cX6_status 1 (some .int) d [.ref (z_ad G 0 0)] M (some rv) M1) (hR : (z_rm d).frames + 1 ≤ R.frames ∧ 8 + (1 + 11) + (z_rm d).locals ≤ R.locals) (hls : ls.size = nL) (hW : (rest.map fun v => v.category).sum ≤ 8) (hcs : cells ≤ R.cells ∧ slots ≤ R.slots) (hdg : decode cc pc = .ok (.invokevirtual 173, 3)) (kk : ∀ (H1 : Heap) (locs1 : List Loc), z_I G s M1 H1 locs1 → W p l e R s m args below meth c H1 locs1 cells slots Q (F0 m (pc + 3) ls (rv :: rest))) : W p l e R s m args below meth c H locs cells slots Q (F0 m (pc) ls (.ref (z_ad G 0 0) :: rest)) := z_inv (n := 0) (As := []) (rest := rest) (v := some rv) hc hI hM z_ix0 rfl (C := RX6) (T := TX6) (N := 8) rfl wd_4_149 wd_4_150 wd_4_151 wd_1_1 wd_4_152 (by decide +kernel) hR rfl hls hW hcs hdg kk
theorem iv_L_176 {rv : Value} {M1 : z_M} {d : Nat} (hc : z_C p s m args meth c RL cc nL ret) (hI : z_I G s M H locs) (hM : z_Met G l yX7_status cX7_status 1 (some .int) d [.ref (z_ad G 21 0)] M (some rv) M1) (hR : (z_rm d).frames + 1 ≤ R.frames ∧ 8 + (1 + 11) + (z_rm d).locals ≤ R.locals) (hls : ls.size = nL) (hW : (rest.map fun v => v.category).sum ≤ 8) (hcs : cells ≤ R.cells ∧ slots ≤ R.slots) (hdg : decode cc pc = .ok (.invokevirtual 176, 3)) (kk : ∀ (H1 : Heap) (locs1 : List Loc), z_I G s M1 H1 locs1 → W p l e R s m args below meth c H1 locs1 cells slots Q (F0 m (pc + 3) ls (rv :: rest))) : W p l e R s m args below meth c H locs cells slots Q (F0 m (pc) ls (.ref (z_ad G 21 0) :: rest)) := z_inv (n := 0) (As := []) (rest := rest) (v := some rv) hc hI hM z_ix21 rfl (C := RX7) (T := TX7) (N := 24) rfl wd_6_147 wd_6_148 wd_6_149 wd_1_8 wd_6_150 (by decide +kernel) hR rfl hls hW hcs hdg kk
theorem iv_L_18 {a0 a1 a2 : Value} {rv : Value} {M1 : z_M} {d : Nat} (hc : z_C p s m args meth c RL cc nL ret) (hI : z_I G s M H locs) (hM : z_Met G l yX6_set cX6_set 4 (some .int) d [.ref (z_ad G 0 0), a0, a1, a2] M (some rv) M1) (hR : (z_rm d).frames + 1 ≤ R.frames ∧ 8 + (4 + 11) + (z_rm d).locals ≤ R.locals) (hls : ls.size = nL) (hW : (rest.map fun v => v.category).sum ≤ 8) (hcs : cells ≤ R.cells ∧ slots ≤ R.slots) (hdg : decode cc pc = .ok (.invokevirtual 18, 3)) (kk : ∀ (H1 : Heap) (locs1 : List Loc), z_I G s M1 H1 locs1 → W p l e R s m args below meth c H1 locs1 cells slots Q (F0 m (pc + 3) ls (rv :: rest))) : W p l e R s m args below meth c H locs cells slots Q (F0 m (pc) ls (a2 :: a1 :: a0 :: .ref (z_ad G 0 0) :: rest)) := z_inv (n := 3) (As := [a0, a1, a2]) (rest := rest) (v := some rv) hc hI hM z_ix0 rfl (C := RX6) (T := TX6) (N := 8) rfl wd_1_212 wd_1_213 wd_1_214 wd_1_1 wd_1_215 (by decide +kernel) hR rfl hls hW hcs hdg kk
theorem iv_L_21 {a0 a1 a2 : Value} {rv : Value} {M1 : z_M} {d : Nat} (hc : z_C p s m args meth c RL cc nL ret) (hI : z_I G s M H locs) (hM : z_Met G l yX7_set cX7_set 4 (some .int) d [.ref (z_ad G 21 0), a0, a1, a2] M (some rv) M1) (hR : (z_rm d).frames + 1 ≤ R.frames ∧ 8 + (4 + 11) + (z_rm d).locals ≤ R.locals) (hls : ls.size = nL) (hW : (rest.map fun v => v.category).sum ≤ 8) (hcs : cells ≤ R.cells ∧ slots ≤ R.slots) (hdg : decode cc pc = .ok (.invokevirtual 21, 3)) (kk : ∀ (H1 : Heap) (locs1 : List Loc), z_I G s M1 H1 locs1 → W p l e R s m args below meth c H1 locs1 cells slots Q (F0 m (pc + 3) ls (rv :: rest))) : W p l e R s m args below meth c H locs cells slots Q (F0 m (pc) ls (a2 :: a1 :: a0 :: .ref (z_ad G 21 0) :: rest)) := z_inv (n := 3) (As := [a0, a1, a2]) (rest := rest) (v := some rv) hc hI hM z_ix21 rfl (C := RX7) (T := TX7) (N := 24) rfl wd_5_15 wd_5_16 wd_5_17 wd_1_8 wd_5_18 (by decide +kernel) hR rfl hls hW hcs hdg kk
theorem iv_L_22 {a0 a1 a2 a3 a4 : Value} {rv : Value} {M1 : z_M} {d : Nat} (hc : z_C p s m args meth c RL cc nL ret) (hI : z_I G s M H locs) (hM : z_Met G l yX6_copy cX6_copy 6 (some .int) d [.ref (z_ad G 0 0), a0, a1, a2, a3, a4] M (some rv) M1) (hR : (z_rm d).frames + 1 ≤ R.frames ∧ 8 + (6 + 11) + (z_rm d).locals ≤ R.locals) (hls : ls.size = nL) (hW : (rest.map fun v => v.category).sum ≤ 8) (hcs : cells ≤ R.cells ∧ slots ≤ R.slots) (hdg : decode cc pc = .ok (.invokevirtual 22, 3)) (kk : ∀ (H1 : Heap) (locs1 : List Loc), z_I G s M1 H1 locs1 → W p l e R s m args below meth c H1 locs1 cells slots Q (F0 m (pc + 3) ls (rv :: rest))) : W p l e R s m args below meth c H locs cells slots Q (F0 m (pc) ls (a4 :: a3 :: a2 :: a1 :: a0 :: .ref (z_ad G 0 0) :: rest)) := z_inv (n := 5) (As := [a0, a1, a2, a3, a4]) (rest := rest) (v := some rv) hc hI hM z_ix0 rfl (C := RX6) (T := TX6) (N := 8) rfl wd_1_229 wd_1_230 wd_1_231 wd_1_1 wd_1_232 (by decide +kernel) hR rfl hls hW hcs hdg kk
theorem iv_L_26 {a0 a1 a2 a3 a4 : Value} {rv : Value} {M1 : z_M} {d : Nat} (hc : z_C p s m args meth c RL cc nL ret) (hI : z_I G s M H locs) (hM : z_Met G l yX7_copy cX7_copy 7 (some .int) d [.ref (z_ad G 21 0), a0, a1, a2, a3, a4] M (some rv) M1) (hR : (z_rm d).frames + 1 ≤ R.frames ∧ 8 + (7 + 11) + (z_rm d).locals ≤ R.locals) (hls : ls.size = nL) (hW : (rest.map fun v => v.category).sum ≤ 8) (hcs : cells ≤ R.cells ∧ slots ≤ R.slots) (hdg : decode cc pc = .ok (.invokevirtual 26, 3)) (kk : ∀ (H1 : Heap) (locs1 : List Loc), z_I G s M1 H1 locs1 → W p l e R s m args below meth c H1 locs1 cells slots Q (F0 m (pc + 3) ls (rv :: rest))) : W p l e R s m args below meth c H locs cells slots Q (F0 m (pc) ls (a4 :: a3 :: a2 :: a1 :: a0 :: .ref (z_ad G 21 0) :: rest)) := z_inv (n := 5) (As := [a0, a1, a2, a3, a4]) (rest := rest) (v := some rv) hc hI hM z_ix21 rfl (C := RX7) (T := TX7) (N := 24) rfl wd_5_22 wd_5_23 wd_5_24 wd_1_8 wd_5_25 (by decide +kernel) hR rfl hls hW hcs hdg kk
theorem iv_L_27 {a0 : Value} {rv : Value} {M1 : z_M} {d : Nat} (hc : z_C p s m args meth c RL cc nL ret) (hI : z_I G s M H locs) (hM : z_Met G l yX6_drop cX6_drop 2 (some .int) d [.ref (z_ad G 0 0), a0] M (some rv) M1) (hR : (z_rm d).frames + 1 ≤ R.frames ∧ 8 + (2 + 11) + (z_rm d).locals ≤ R.locals) (hls : ls.size = nL) (hW : (rest.map fun v => v.category).sum ≤ 8) (hcs : cells ≤ R.cells ∧ slots ≤ R.slots) (hdg : decode cc pc = .ok (.invokevirtual 27, 3)) (kk : ∀ (H1 : Heap) (locs1 : List Loc), z_I G s M1 H1 locs1 → W p l e R s m args below meth c H1 locs1 cells slots Q (F0 m (pc + 3) ls (rv :: rest))) : W p l e R s m args below meth c H locs cells slots Q (F0 m (pc) ls (a0 :: .ref (z_ad G 0 0) :: rest)) := z_inv (n := 1) (As := [a0]) (rest := rest) (v := some rv) hc hI hM z_ix0 rfl (C := RX6) (T := TX6) (N := 8) rfl wd_2_5 wd_2_6 wd_2_7 wd_1_1 wd_2_8 (by decide +kernel) hR rfl hls hW hcs hdg kk
theorem iv_L_31 {a0 : Value} {rv : Value} {M1 : z_M} {d : Nat} (hc : z_C p s m args meth c RL cc nL ret) (hI : z_I G s M H locs) (hM : z_Met G l yX7_drop cX7_drop 3 (some .int) d [.ref (z_ad G 21 0), a0] M (some rv) M1) (hR : (z_rm d).frames + 1 ≤ R.frames ∧ 8 + (3 + 11) + (z_rm d).locals ≤ R.locals) (hls : ls.size = nL) (hW : (rest.map fun v => v.category).sum ≤ 8) (hcs : cells ≤ R.cells ∧ slots ≤ R.slots) (hdg : decode cc pc = .ok (.invokevirtual 31, 3)) (kk : ∀ (H1 : Heap) (locs1 : List Loc), z_I G s M1 H1 locs1 → W p l e R s m args below meth c H1 locs1 cells slots Q (F0 m (pc + 3) ls (rv :: rest))) : W p l e R s m args below meth c H locs cells slots Q (F0 m (pc) ls (a0 :: .ref (z_ad G 21 0) :: rest)) := z_inv (n := 1) (As := [a0]) (rest := rest) (v := some rv) hc hI hM z_ix21 rfl (C := RX7) (T := TX7) (N := 24) rfl wd_5_26 wd_5_27 wd_5_28 wd_1_8 wd_5_29 (by decide +kernel) hR rfl hls hW hcs hdg kk
theorem iv_L_32 {a0 : Value} {rv : Value} {M1 : z_M} {d : Nat} (hc : z_C p s m args meth c RL cc nL ret) (hI : z_I G s M H locs) (hM : z_Met G l yX6_feed cX6_feed 2 (some .int) d [.ref (z_ad G 0 0), a0] M (some rv) M1) (hR : (z_rm d).frames + 1 ≤ R.frames ∧ 8 + (2 + 11) + (z_rm d).locals ≤ R.locals) (hls : ls.size = nL) (hW : (rest.map fun v => v.category).sum ≤ 8) (hcs : cells ≤ R.cells ∧ slots ≤ R.slots) (hdg : decode cc pc = .ok (.invokevirtual 32, 3)) (kk : ∀ (H1 : Heap) (locs1 : List Loc), z_I G s M1 H1 locs1 → W p l e R s m args below meth c H1 locs1 cells slots Q (F0 m (pc + 3) ls (rv :: rest))) : W p l e R s m args below meth c H locs cells slots Q (F0 m (pc) ls (a0 :: .ref (z_ad G 0 0) :: rest)) := z_inv (n := 1) (As := [a0]) (rest := rest) (v := some rv) hc hI hM z_ix0 rfl (C := RX6) (T := TX6) (N := 8) rfl wd_2_14 wd_2_15 wd_2_16 wd_1_1 wd_2_17 (by decide +kernel) hR rfl hls hW hcs hdg kk
theorem iv_L_35 {a0 : Value} {rv : Value} {M1 : z_M} {d : Nat} (hc : z_C p s m args meth c RL cc nL ret) (hI : z_I G s M H locs) (hM : z_Met G l yX7_feed cX7_feed 2 (some .int) d [.ref (z_ad G 21 0), a0] M (some rv) M1) (hR : (z_rm d).frames + 1 ≤ R.frames ∧ 8 + (2 + 11) + (z_rm d).locals ≤ R.locals) (hls : ls.size = nL) (hW : (rest.map fun v => v.category).sum ≤ 8) (hcs : cells ≤ R.cells ∧ slots ≤ R.slots) (hdg : decode cc pc = .ok (.invokevirtual 35, 3)) (kk : ∀ (H1 : Heap) (locs1 : List Loc), z_I G s M1 H1 locs1 → W p l e R s m args below meth c H1 locs1 cells slots Q (F0 m (pc + 3) ls (rv :: rest))) : W p l e R s m args below meth c H locs cells slots Q (F0 m (pc) ls (a0 :: .ref (z_ad G 21 0) :: rest)) := z_inv (n := 1) (As := [a0]) (rest := rest) (v := some rv) hc hI hM z_ix21 rfl (C := RX7) (T := TX7) (N := 24) rfl wd_5_30 wd_5_31 wd_5_32 wd_1_8 wd_5_33 (by decide +kernel) hR rfl hls hW hcs hdg kk
theorem iv_L_36 {rv : Value} {M1 : z_M} {d : Nat} (hc : z_C p s m args meth c RL cc nL ret) (hI : z_I G s M H locs) (hM : z_Met G l yX6_town cX6_town 2 (some .int) d [.ref (z_ad G 0 0)] M (some rv) M1) (hR : (z_rm d).frames + 1 ≤ R.frames ∧ 8 + (2 + 11) + (z_rm d).locals ≤ R.locals) (hls : ls.size = nL) (hW : (rest.map fun v => v.category).sum ≤ 8) (hcs : cells ≤ R.cells ∧ slots ≤ R.slots) (hdg : decode cc pc = .ok (.invokevirtual 36, 3)) (kk : ∀ (H1 : Heap) (locs1 : List Loc), z_I G s M1 H1 locs1 → W p l e R s m args below meth c H1 locs1 cells slots Q (F0 m (pc + 3) ls (rv :: rest))) : W p l e R s m args below meth c H locs cells slots Q (F0 m (pc) ls (.ref (z_ad G 0 0) :: rest)) := z_inv (n := 0) (As := []) (rest := rest) (v := some rv) hc hI hM z_ix0 rfl (C := RX6) (T := TX6) (N := 8) rfl wd_2_26 wd_2_27 wd_2_28 wd_1_1 wd_2_29 (by decide +kernel) hR rfl hls hW hcs hdg kk
theorem iv_L_40 {rv : Value} {M1 : z_M} {d : Nat} (hc : z_C p s m args meth c RL cc nL ret) (hI : z_I G s M H locs) (hM : z_Met G l yX7_town cX7_town 3 (some .int) d [.ref (z_ad G 21 0)] M (some rv) M1) (hR : (z_rm d).frames + 1 ≤ R.frames ∧ 8 + (3 + 11) + (z_rm d).locals ≤ R.locals) (hls : ls.size = nL) (hW : (rest.map fun v => v.category).sum ≤ 8) (hcs : cells ≤ R.cells ∧ slots ≤ R.slots) (hdg : decode cc pc = .ok (.invokevirtual 40, 3)) (kk : ∀ (H1 : Heap) (locs1 : List Loc), z_I G s M1 H1 locs1 → W p l e R s m args below meth c H1 locs1 cells slots Q (F0 m (pc + 3) ls (rv :: rest))) : W p l e R s m args below meth c H locs cells slots Q (F0 m (pc) ls (.ref (z_ad G 21 0) :: rest)) := z_inv (n := 0) (As := []) (rest := rest) (v := some rv) hc hI hM z_ix21 rfl (C := RX7) (T := TX7) (N := 24) rfl wd_5_36 wd_5_37 wd_5_38 wd_1_8 wd_5_39 (by decide +kernel) hR rfl hls hW hcs hdg kk
theorem iv_L_41 {rv : Value} {M1 : z_M} {d : Nat} (hc : z_C p s m args meth c RL cc nL ret) (hI : z_I G s M H locs) (hM : z_Met G l yX6_fault cX6_fault 1 (some .int) d [.ref (z_ad G 0 0)] M (some rv) M1) (hR : (z_rm d).frames + 1 ≤ R.frames ∧ 8 + (1 + 11) + (z_rm d).locals ≤ R.locals) (hls : ls.size = nL) (hW : (rest.map fun v => v.category).sum ≤ 8) (hcs : cells ≤ R.cells ∧ slots ≤ R.slots) (hdg : decode cc pc = .ok (.invokevirtual 41, 3)) (kk : ∀ (H1 : Heap) (locs1 : List Loc), z_I G s M1 H1 locs1 → W p l e R s m args below meth c H1 locs1 cells slots Q (F0 m (pc + 3) ls (rv :: rest))) : W p l e R s m args below meth c H locs cells slots Q (F0 m (pc) ls (.ref (z_ad G 0 0) :: rest)) := z_inv (n := 0) (As := []) (rest := rest) (v := some rv) hc hI hM z_ix0 rfl (C := RX6) (T := TX6) (N := 8) rfl wd_2_116 wd_2_117 wd_2_118 wd_1_1 wd_2_119 (by decide +kernel) hR rfl hls hW hcs hdg kk
theorem iv_L_44 {rv : Value} {M1 : z_M} {d : Nat} (hc : z_C p s m args meth c RL cc nL ret) (hI : z_I G s M H locs) (hM : z_Met G l yX7_fault cX7_fault 1 (some .int) d [.ref (z_ad G 21 0)] M (some rv) M1) (hR : (z_rm d).frames + 1 ≤ R.frames ∧ 8 + (1 + 11) + (z_rm d).locals ≤ R.locals) (hls : ls.size = nL) (hW : (rest.map fun v => v.category).sum ≤ 8) (hcs : cells ≤ R.cells ∧ slots ≤ R.slots) (hdg : decode cc pc = .ok (.invokevirtual 44, 3)) (kk : ∀ (H1 : Heap) (locs1 : List Loc), z_I G s M1 H1 locs1 → W p l e R s m args below meth c H1 locs1 cells slots Q (F0 m (pc + 3) ls (rv :: rest))) : W p l e R s m args below meth c H locs cells slots Q (F0 m (pc) ls (.ref (z_ad G 21 0) :: rest)) := z_inv (n := 0) (As := []) (rest := rest) (v := some rv) hc hI hM z_ix21 rfl (C := RX7) (T := TX7) (N := 24) rfl wd_5_80 wd_5_81 wd_5_82 wd_1_8 wd_5_83 (by decide +kernel) hR rfl hls hW hcs hdg kk
theorem iv_L_45 {rv : Value} {M1 : z_M} {d : Nat} (hc : z_C p s m args meth c RL cc nL ret) (hI : z_I G s M H locs) (hM : z_Met G l yX6_undo cX6_undo 1 (some .int) d [.ref (z_ad G 0 0)] M (some rv) M1) (hR : (z_rm d).frames + 1 ≤ R.frames ∧ 8 + (1 + 11) + (z_rm d).locals ≤ R.locals) (hls : ls.size = nL) (hW : (rest.map fun v => v.category).sum ≤ 8) (hcs : cells ≤ R.cells ∧ slots ≤ R.slots) (hdg : decode cc pc = .ok (.invokevirtual 45, 3)) (kk : ∀ (H1 : Heap) (locs1 : List Loc), z_I G s M1 H1 locs1 → W p l e R s m args below meth c H1 locs1 cells slots Q (F0 m (pc + 3) ls (rv :: rest))) : W p l e R s m args below meth c H locs cells slots Q (F0 m (pc) ls (.ref (z_ad G 0 0) :: rest)) := z_inv (n := 0) (As := []) (rest := rest) (v := some rv) hc hI hM z_ix0 rfl (C := RX6) (T := TX6) (N := 8) rfl wd_2_124 wd_2_125 wd_2_126 wd_1_1 wd_2_127 (by decide +kernel) hR rfl hls hW hcs hdg kk
theorem iv_L_48 {rv : Value} {M1 : z_M} {d : Nat} (hc : z_C p s m args meth c RL cc nL ret) (hI : z_I G s M H locs) (hM : z_Met G l yX7_undo cX7_undo 2 (some .int) d [.ref (z_ad G 21 0)] M (some rv) M1) (hR : (z_rm d).frames + 1 ≤ R.frames ∧ 8 + (2 + 11) + (z_rm d).locals ≤ R.locals) (hls : ls.size = nL) (hW : (rest.map fun v => v.category).sum ≤ 8) (hcs : cells ≤ R.cells ∧ slots ≤ R.slots) (hdg : decode cc pc = .ok (.invokevirtual 48, 3)) (kk : ∀ (H1 : Heap) (locs1 : List Loc), z_I G s M1 H1 locs1 → W p l e R s m args below meth c H1 locs1 cells slots Q (F0 m (pc + 3) ls (rv :: rest))) : W p l e R s m args below meth c H locs cells slots Q (F0 m (pc) ls (.ref (z_ad G 21 0) :: rest)) := z_inv (n := 0) (As := []) (rest := rest) (v := some rv) hc hI hM z_ix21 rfl (C := RX7) (T := TX7) (N := 24) rfl wd_5_84 wd_5_85 wd_5_86 wd_1_8 wd_5_87 (by decide +kernel) hR rfl hls hW hcs hdg kk
theorem iv_L_49 {a0 : Value} {rv : Value} {M1 : z_M} {d : Nat} (hc : z_C p s m args meth c RL cc nL ret) (hI : z_I G s M H locs) (hM : z_Met G l yX6_days cX6_days 3 (some .int) d [.ref (z_ad G 0 0), a0] M (some rv) M1) (hR : (z_rm d).frames + 1 ≤ R.frames ∧ 8 + (3 + 11) + (z_rm d).locals ≤ R.locals) (hls : ls.size = nL) (hW : (rest.map fun v => v.category).sum ≤ 8) (hcs : cells ≤ R.cells ∧ slots ≤ R.slots) (hdg : decode cc pc = .ok (.invokevirtual 49, 3)) (kk : ∀ (H1 : Heap) (locs1 : List Loc), z_I G s M1 H1 locs1 → W p l e R s m args below meth c H1 locs1 cells slots Q (F0 m (pc + 3) ls (rv :: rest))) : W p l e R s m args below meth c H locs cells slots Q (F0 m (pc) ls (a0 :: .ref (z_ad G 0 0) :: rest)) := z_inv (n := 1) (As := [a0]) (rest := rest) (v := some rv) hc hI hM z_ix0 rfl (C := RX6) (T := TX6) (N := 8) rfl wd_2_138 wd_2_139 wd_2_140 wd_1_1 wd_2_141 (by decide +kernel) hR rfl hls hW hcs hdg kk
theorem iv_L_52 {a0 : Value} {rv : Value} {M1 : z_M} {d : Nat} (hc : z_C p s m args meth c RL cc nL ret) (hI : z_I G s M H locs) (hM : z_Met G l yX7_days cX7_days 3 (some .int) d [.ref (z_ad G 21 0), a0] M (some rv) M1) (hR : (z_rm d).frames + 1 ≤ R.frames ∧ 8 + (3 + 11) + (z_rm d).locals ≤ R.locals) (hls : ls.size = nL) (hW : (rest.map fun v => v.category).sum ≤ 8) (hcs : cells ≤ R.cells ∧ slots ≤ R.slots) (hdg : decode cc pc = .ok (.invokevirtual 52, 3)) (kk : ∀ (H1 : Heap) (locs1 : List Loc), z_I G s M1 H1 locs1 → W p l e R s m args below meth c H1 locs1 cells slots Q (F0 m (pc + 3) ls (rv :: rest))) : W p l e R s m args below meth c H locs cells slots Q (F0 m (pc) ls (a0 :: .ref (z_ad G 21 0) :: rest)) := z_inv (n := 1) (As := [a0]) (rest := rest) (v := some rv) hc hI hM z_ix21 rfl (C := RX7) (T := TX7) (N := 24) rfl wd_5_89 wd_5_90 wd_5_91 wd_1_8 wd_5_92 (by decide +kernel) hR rfl hls hW hcs hdg kk
theorem iv_L_53 {a0 a1 : Value} {rv : Value} {M1 : z_M} {d : Nat} (hc : z_C p s m args meth c RL cc nL ret) (hI : z_I G s M H locs) (hM : z_Met G l yX6_plane cX6_plane 4 (some .int) d [.ref (z_ad G 0 0), a0, a1] M (some rv) M1) (hR : (z_rm d).frames + 1 ≤ R.frames ∧ 8 + (4 + 11) + (z_rm d).locals ≤ R.locals) (hls : ls.size = nL) (hW : (rest.map fun v => v.category).sum ≤ 8) (hcs : cells ≤ R.cells ∧ slots ≤ R.slots) (hdg : decode cc pc = .ok (.invokevirtual 53, 3)) (kk : ∀ (H1 : Heap) (locs1 : List Loc), z_I G s M1 H1 locs1 → W p l e R s m args below meth c H1 locs1 cells slots Q (F0 m (pc + 3) ls (rv :: rest))) : W p l e R s m args below meth c H locs cells slots Q (F0 m (pc) ls (a1 :: a0 :: .ref (z_ad G 0 0) :: rest)) := z_inv (n := 2) (As := [a0, a1]) (rest := rest) (v := some rv) hc hI hM z_ix0 rfl (C := RX6) (T := TX6) (N := 8) rfl wd_2_197 wd_2_198 wd_2_199 wd_1_1 wd_2_200 (by decide +kernel) hR rfl hls hW hcs hdg kk
theorem iv_L_57 {a0 a1 : Value} {rv : Value} {M1 : z_M} {d : Nat} (hc : z_C p s m args meth c RL cc nL ret) (hI : z_I G s M H locs) (hM : z_Met G l yX7_plane cX7_plane 4 (some .int) d [.ref (z_ad G 21 0), a0, a1] M (some rv) M1) (hR : (z_rm d).frames + 1 ≤ R.frames ∧ 8 + (4 + 11) + (z_rm d).locals ≤ R.locals) (hls : ls.size = nL) (hW : (rest.map fun v => v.category).sum ≤ 8) (hcs : cells ≤ R.cells ∧ slots ≤ R.slots) (hdg : decode cc pc = .ok (.invokevirtual 57, 3)) (kk : ∀ (H1 : Heap) (locs1 : List Loc), z_I G s M1 H1 locs1 → W p l e R s m args below meth c H1 locs1 cells slots Q (F0 m (pc + 3) ls (rv :: rest))) : W p l e R s m args below meth c H locs cells slots Q (F0 m (pc) ls (a1 :: a0 :: .ref (z_ad G 21 0) :: rest)) := z_inv (n := 2) (As := [a0, a1]) (rest := rest) (v := some rv) hc hI hM z_ix21 rfl (C := RX7) (T := TX7) (N := 24) rfl wd_5_117 wd_5_118 wd_5_119 wd_1_8 wd_5_120 (by decide +kernel) hR rfl hls hW hcs hdg kk
theorem iv_L_58 {a0 : Value} {rv : Value} {M1 : z_M} {d : Nat} (hc : z_C p s m args meth c RL cc nL ret) (hI : z_I G s M H locs) (hM : z_Met G l yX6_reach cX6_reach 3 (some .int) d [.ref (z_ad G 0 0), a0] M (some rv) M1) (hR : (z_rm d).frames + 1 ≤ R.frames ∧ 8 + (3 + 11) + (z_rm d).locals ≤ R.locals) (hls : ls.size = nL) (hW : (rest.map fun v => v.category).sum ≤ 8) (hcs : cells ≤ R.cells ∧ slots ≤ R.slots) (hdg : decode cc pc = .ok (.invokevirtual 58, 3)) (kk : ∀ (H1 : Heap) (locs1 : List Loc), z_I G s M1 H1 locs1 → W p l e R s m args below meth c H1 locs1 cells slots Q (F0 m (pc + 3) ls (rv :: rest))) : W p l e R s m args below meth c H locs cells slots Q (F0 m (pc) ls (a0 :: .ref (z_ad G 0 0) :: rest)) := z_inv (n := 1) (As := [a0]) (rest := rest) (v := some rv) hc hI hM z_ix0 rfl (C := RX6) (T := TX6) (N := 8) rfl wd_2_217 wd_2_218 wd_2_219 wd_1_1 wd_2_220 (by decide +kernel) hR rfl hls hW hcs hdg kk
theorem iv_L_61 {a0 : Value} {rv : Value} {M1 : z_M} {d : Nat} (hc : z_C p s m args meth c RL cc nL ret) (hI : z_I G s M H locs) (hM : z_Met G l yX7_reach cX7_reach 3 (some .int) d [.ref (z_ad G 21 0), a0] M (some rv) M1) (hR : (z_rm d).frames + 1 ≤ R.frames ∧ 8 + (3 + 11) + (z_rm d).locals ≤ R.locals) (hls : ls.size = nL) (hW : (rest.map fun v => v.category).sum ≤ 8) (hcs : cells ≤ R.cells ∧ slots ≤ R.slots) (hdg : decode cc pc = .ok (.invokevirtual 61, 3)) (kk : ∀ (H1 : Heap) (locs1 : List Loc), z_I G s M1 H1 locs1 → W p l e R s m args below meth c H1 locs1 cells slots Q (F0 m (pc + 3) ls (rv :: rest))) : W p l e R s m args below meth c H locs cells slots Q (F0 m (pc) ls (a0 :: .ref (z_ad G 21 0) :: rest)) := z_inv (n := 1) (As := [a0]) (rest := rest) (v := some rv) hc hI hM z_ix21 rfl (C := RX7) (T := TX7) (N := 24) rfl wd_5_134 wd_5_135 wd_5_136 wd_1_8 wd_5_137 (by decide +kernel) hR rfl hls hW hcs hdg kk
theorem iv_L_62 {a0 a1 a2 : Value} {rv : Value} {M1 : z_M} {d : Nat} (hc : z_C p s m args meth c RL cc nL ret) (hI : z_I G s M H locs) (hM : z_Met G l yX6_way cX6_way 4 (some .int) d [.ref (z_ad G 0 0), a0, a1, a2] M (some rv) M1) (hR : (z_rm d).frames + 1 ≤ R.frames ∧ 8 + (4 + 11) + (z_rm d).locals ≤ R.locals) (hls : ls.size = nL) (hW : (rest.map fun v => v.category).sum ≤ 8) (hcs : cells ≤ R.cells ∧ slots ≤ R.slots) (hdg : decode cc pc = .ok (.invokevirtual 62, 3)) (kk : ∀ (H1 : Heap) (locs1 : List Loc), z_I G s M1 H1 locs1 → W p l e R s m args below meth c H1 locs1 cells slots Q (F0 m (pc + 3) ls (rv :: rest))) : W p l e R s m args below meth c H locs cells slots Q (F0 m (pc) ls (a2 :: a1 :: a0 :: .ref (z_ad G 0 0) :: rest)) := z_inv (n := 3) (As := [a0, a1, a2]) (rest := rest) (v := some rv) hc hI hM z_ix0 rfl (C := RX6) (T := TX6) (N := 8) rfl wd_2_229 wd_2_230 wd_2_231 wd_1_1 wd_2_232 (by decide +kernel) hR rfl hls hW hcs hdg kk
theorem iv_L_65 {a0 a1 a2 : Value} {rv : Value} {M1 : z_M} {d : Nat} (hc : z_C p s m args meth c RL cc nL ret) (hI : z_I G s M H locs) (hM : z_Met G l yX7_way cX7_way 4 (some .int) d [.ref (z_ad G 21 0), a0, a1, a2] M (some rv) M1) (hR : (z_rm d).frames + 1 ≤ R.frames ∧ 8 + (4 + 11) + (z_rm d).locals ≤ R.locals) (hls : ls.size = nL) (hW : (rest.map fun v => v.category).sum ≤ 8) (hcs : cells ≤ R.cells ∧ slots ≤ R.slots) (hdg : decode cc pc = .ok (.invokevirtual 65, 3)) (kk : ∀ (H1 : Heap) (locs1 : List Loc), z_I G s M1 H1 locs1 → W p l e R s m args below meth c H1 locs1 cells slots Q (F0 m (pc + 3) ls (rv :: rest))) : W p l e R s m args below meth c H locs cells slots Q (F0 m (pc) ls (a2 :: a1 :: a0 :: .ref (z_ad G 21 0) :: rest)) := z_inv (n := 3) (As := [a0, a1, a2]) (rest := rest) (v := some rv) hc hI hM z_ix21 rfl (C := RX7) (T := TX7) (N := 24) rfl wd_5_138 wd_5_139 wd_5_140 wd_1_8 wd_5_141 (by decide +kernel) hR rfl hls hW hcs hdg kk
theorem iv_L_66 {a0 a1 a2 : Value} {rv : Value} {M1 : z_M} {d : Nat} (hc : z_C p s m args meth c RL cc nL ret) (hI : z_I G s M H locs) (hM : z_Met G l yX6_gait cX6_gait 4 (some .int) d [.ref (z_ad G 0 0), a0, a1, a2] M (some rv) M1) (hR : (z_rm d).frames + 1 ≤ R.frames ∧ 8 + (4 + 11) + (z_rm d).locals ≤ R.locals) (hls : ls.size = nL) (hW : (rest.map fun v => v.category).sum ≤ 8) (hcs : cells ≤ R.cells ∧ slots ≤ R.slots) (hdg : decode cc pc = .ok (.invokevirtual 66, 3)) (kk : ∀ (H1 : Heap) (locs1 : List Loc), z_I G s M1 H1 locs1 → W p l e R s m args below meth c H1 locs1 cells slots Q (F0 m (pc + 3) ls (rv :: rest))) : W p l e R s m args below meth c H locs cells slots Q (F0 m (pc) ls (a2 :: a1 :: a0 :: .ref (z_ad G 0 0) :: rest)) := z_inv (n := 3) (As := [a0, a1, a2]) (rest := rest) (v := some rv) hc hI hM z_ix0 rfl (C := RX6) (T := TX6) (N := 8) rfl wd_3_6 wd_3_7 wd_3_8 wd_1_1 wd_3_9 (by decide +kernel) hR rfl hls hW hcs hdg kk
theorem iv_L_69 {a0 a1 a2 : Value} {rv : Value} {M1 : z_M} {d : Nat} (hc : z_C p s m args meth c RL cc nL ret) (hI : z_I G s M H locs) (hM : z_Met G l yX7_gait cX7_gait 4 (some .int) d [.ref (z_ad G 21 0), a0, a1, a2] M (some rv) M1) (hR : (z_rm d).frames + 1 ≤ R.frames ∧ 8 + (4 + 11) + (z_rm d).locals ≤ R.locals) (hls : ls.size = nL) (hW : (rest.map fun v => v.category).sum ≤ 8) (hcs : cells ≤ R.cells ∧ slots ≤ R.slots) (hdg : decode cc pc = .ok (.invokevirtual 69, 3)) (kk : ∀ (H1 : Heap) (locs1 : List Loc), z_I G s M1 H1 locs1 → W p l e R s m args below meth c H1 locs1 cells slots Q (F0 m (pc + 3) ls (rv :: rest))) : W p l e R s m args below meth c H locs cells slots Q (F0 m (pc) ls (a2 :: a1 :: a0 :: .ref (z_ad G 21 0) :: rest)) := z_inv (n := 3) (As := [a0, a1, a2]) (rest := rest) (v := some rv) hc hI hM z_ix21 rfl (C := RX7) (T := TX7) (N := 24) rfl wd_5_146 wd_5_147 wd_5_148 wd_1_8 wd_5_149 (by decide +kernel) hR rfl hls hW hcs hdg kk
theorem iv_L_70 {a0 a1 : Value} {rv : Value} {M1 : z_M} {d : Nat} (hc : z_C p s m args meth c RL cc nL ret) (hI : z_I G s M H locs) (hM : z_Met G l yX6_tread cX6_tread 3 (some .int) d [.ref (z_ad G 0 0), a0, a1] M (some rv) M1) (hR : (z_rm d).frames + 1 ≤ R.frames ∧ 8 + (3 + 11) + (z_rm d).locals ≤ R.locals) (hls : ls.size = nL) (hW : (rest.map fun v => v.category).sum ≤ 8) (hcs : cells ≤ R.cells ∧ slots ≤ R.slots) (hdg : decode cc pc = .ok (.invokevirtual 70, 3)) (kk : ∀ (H1 : Heap) (locs1 : List Loc), z_I G s M1 H1 locs1 → W p l e R s m args below meth c H1 locs1 cells slots Q (F0 m (pc + 3) ls (rv :: rest))) : W p l e R s m args below meth c H locs cells slots Q (F0 m (pc) ls (a1 :: a0 :: .ref (z_ad G 0 0) :: rest)) := z_inv (n := 2) (As := [a0, a1]) (rest := rest) (v := some rv) hc hI hM z_ix0 rfl (C := RX6) (T := TX6) (N := 8) rfl wd_3_10 wd_3_11 wd_3_12 wd_1_1 wd_3_13 (by decide +kernel) hR rfl hls hW hcs hdg kk
theorem iv_L_73 {a0 a1 : Value} {rv : Value} {M1 : z_M} {d : Nat} (hc : z_C p s m args meth c RL cc nL ret) (hI : z_I G s M H locs) (hM : z_Met G l yX7_tread cX7_tread 3 (some .int) d [.ref (z_ad G 21 0), a0, a1] M (some rv) M1) (hR : (z_rm d).frames + 1 ≤ R.frames ∧ 8 + (3 + 11) + (z_rm d).locals ≤ R.locals) (hls : ls.size = nL) (hW : (rest.map fun v => v.category).sum ≤ 8) (hcs : cells ≤ R.cells ∧ slots ≤ R.slots) (hdg : decode cc pc = .ok (.invokevirtual 73, 3)) (kk : ∀ (H1 : Heap) (locs1 : List Loc), z_I G s M1 H1 locs1 → W p l e R s m args below meth c H1 locs1 cells slots Q (F0 m (pc + 3) ls (rv :: rest))) : W p l e R s m args below meth c H locs cells slots Q (F0 m (pc) ls (a1 :: a0 :: .ref (z_ad G 21 0) :: rest)) := z_inv (n := 2) (As := [a0, a1]) (rest := rest) (v := some rv) hc hI hM z_ix21 rfl (C := RX7) (T := TX7) (N := 24) rfl wd_5_152 wd_5_153 wd_5_154 wd_1_8 wd_5_155 (by decide +kernel) hR rfl hls hW hcs hdg kk
theorem iv_L_74 {a0 a1 : Value} {rv : Value} {M1 : z_M} {d : Nat} (hc : z_C p s m args meth c RL cc nL ret) (hI : z_I G s M H locs) (hM : z_Met G l yX6_walker cX6_walker 3 (some .int) d [.ref (z_ad G 0 0), a0, a1] M (some rv) M1) (hR : (z_rm d).frames + 1 ≤ R.frames ∧ 8 + (3 + 11) + (z_rm d).locals ≤ R.locals) (hls : ls.size = nL) (hW : (rest.map fun v => v.category).sum ≤ 8) (hcs : cells ≤ R.cells ∧ slots ≤ R.slots) (hdg : decode cc pc = .ok (.invokevirtual 74, 3)) (kk : ∀ (H1 : Heap) (locs1 : List Loc), z_I G s M1 H1 locs1 → W p l e R s m args below meth c H1 locs1 cells slots Q (F0 m (pc + 3) ls (rv :: rest))) : W p l e R s m args below meth c H locs cells slots Q (F0 m (pc) ls (a1 :: a0 :: .ref (z_ad G 0 0) :: rest)) := z_inv (n := 2) (As := [a0, a1]) (rest := rest) (v := some rv) hc hI hM z_ix0 rfl (C := RX6) (T := TX6) (N := 8) rfl wd_3_23 wd_3_24 wd_3_25 wd_1_1 wd_3_26 (by decide +kernel) hR rfl hls hW hcs hdg kk
theorem iv_L_77 {a0 a1 : Value} {rv : Value} {M1 : z_M} {d : Nat} (hc : z_C p s m args meth c RL cc nL ret) (hI : z_I G s M H locs) (hM : z_Met G l yX7_walker cX7_walker 3 (some .int) d [.ref (z_ad G 21 0), a0, a1] M (some rv) M1) (hR : (z_rm d).frames + 1 ≤ R.frames ∧ 8 + (3 + 11) + (z_rm d).locals ≤ R.locals) (hls : ls.size = nL) (hW : (rest.map fun v => v.category).sum ≤ 8) (hcs : cells ≤ R.cells ∧ slots ≤ R.slots) (hdg : decode cc pc = .ok (.invokevirtual 77, 3)) (kk : ∀ (H1 : Heap) (locs1 : List Loc), z_I G s M1 H1 locs1 → W p l e R s m args below meth c H1 locs1 cells slots Q (F0 m (pc + 3) ls (rv :: rest))) : W p l e R s m args below meth c H locs cells slots Q (F0 m (pc) ls (a1 :: a0 :: .ref (z_ad G 21 0) :: rest)) := z_inv (n := 2) (As := [a0, a1]) (rest := rest) (v := some rv) hc hI hM z_ix21 rfl (C := RX7) (T := TX7) (N := 24) rfl wd_5_160 wd_5_161 wd_5_162 wd_1_8 wd_5_163 (by decide +kernel) hR rfl hls hW hcs hdg kk
theorem iv_L_78 {a0 a1 : Value} {rv : Value} {M1 : z_M} {d : Nat} (hc : z_C p s m args meth c RL cc nL ret) (hI : z_I G s M H locs) (hM : z_Met G l yX6_tune cX6_tune 3 (some .int) d [.ref (z_ad G 0 0), a0, a1] M (some rv) M1) (hR : (z_rm d).frames + 1 ≤ R.frames ∧ 8 + (3 + 11) + (z_rm d).locals ≤ R.locals) (hls : ls.size = nL) (hW : (rest.map fun v => v.category).sum ≤ 8) (hcs : cells ≤ R.cells ∧ slots ≤ R.slots) (hdg : decode cc pc = .ok (.invokevirtual 78, 3)) (kk : ∀ (H1 : Heap) (locs1 : List Loc), z_I G s M1 H1 locs1 → W p l e R s m args below meth c H1 locs1 cells slots Q (F0 m (pc + 3) ls (rv :: rest))) : W p l e R s m args below meth c H locs cells slots Q (F0 m (pc) ls (a1 :: a0 :: .ref (z_ad G 0 0) :: rest)) := z_inv (n := 2) (As := [a0, a1]) (rest := rest) (v := some rv) hc hI hM z_ix0 rfl (C := RX6) (T := TX6) (N := 8) rfl wd_3_28 wd_3_29 wd_3_30 wd_1_1 wd_3_31 (by decide +kernel) hR rfl hls hW hcs hdg kk
theorem iv_L_81 {a0 a1 : Value} {rv : Value} {M1 : z_M} {d : Nat} (hc : z_C p s m args meth c RL cc nL ret) (hI : z_I G s M H locs) (hM : z_Met G l yX7_tune cX7_tune 3 (some .int) d [.ref (z_ad G 21 0), a0, a1] M (some rv) M1) (hR : (z_rm d).frames + 1 ≤ R.frames ∧ 8 + (3 + 11) + (z_rm d).locals ≤ R.locals) (hls : ls.size = nL) (hW : (rest.map fun v => v.category).sum ≤ 8) (hcs : cells ≤ R.cells ∧ slots ≤ R.slots) (hdg : decode cc pc = .ok (.invokevirtual 81, 3)) (kk : ∀ (H1 : Heap) (locs1 : List Loc), z_I G s M1 H1 locs1 → W p l e R s m args below meth c H1 locs1 cells slots Q (F0 m (pc + 3) ls (rv :: rest))) : W p l e R s m args below meth c H locs cells slots Q (F0 m (pc) ls (a1 :: a0 :: .ref (z_ad G 21 0) :: rest)) := z_inv (n := 2) (As := [a0, a1]) (rest := rest) (v := some rv) hc hI hM z_ix21 rfl (C := RX7) (T := TX7) (N := 24) rfl wd_5_164 wd_5_165 wd_5_166 wd_1_8 wd_5_167 (by decide +kernel) hR rfl hls hW hcs hdg kk
theorem iv_L_82 {a0 a1 : Value} {rv : Value} {M1 : z_M} {d : Nat} (hc : z_C p s m args meth c RL cc nL ret) (hI : z_I G s M H locs) (hM : z_Met G l yX6_where cX6_where 3 (some .int) d [.ref (z_ad G 0 0), a0, a1] M (some rv) M1) (hR : (z_rm d).frames + 1 ≤ R.frames ∧ 8 + (3 + 11) + (z_rm d).locals ≤ R.locals) (hls : ls.size = nL) (hW : (rest.map fun v => v.category).sum ≤ 8) (hcs : cells ≤ R.cells ∧ slots ≤ R.slots) (hdg : decode cc pc = .ok (.invokevirtual 82, 3)) (kk : ∀ (H1 : Heap) (locs1 : List Loc), z_I G s M1 H1 locs1 → W p l e R s m args below meth c H1 locs1 cells slots Q (F0 m (pc + 3) ls (rv :: rest))) : W p l e R s m args below meth c H locs cells slots Q (F0 m (pc) ls (a1 :: a0 :: .ref (z_ad G 0 0) :: rest)) := z_inv (n := 2) (As := [a0, a1]) (rest := rest) (v := some rv) hc hI hM z_ix0 rfl (C := RX6) (T := TX6) (N := 8) rfl wd_3_45 wd_3_46 wd_3_47 wd_1_1 wd_3_48 (by decide +kernel) hR rfl hls hW hcs hdg kk
theorem iv_L_85 {a0 a1 : Value} {rv : Value} {M1 : z_M} {d : Nat} (hc : z_C p s m args meth c RL cc nL ret) (hI : z_I G s M H locs) (hM : z_Met G l yX7_where cX7_where 4 (some .int) d [.ref (z_ad G 21 0), a0, a1] M (some rv) M1) (hR : (z_rm d).frames + 1 ≤ R.frames ∧ 8 + (4 + 11) + (z_rm d).locals ≤ R.locals) (hls : ls.size = nL) (hW : (rest.map fun v => v.category).sum ≤ 8) (hcs : cells ≤ R.cells ∧ slots ≤ R.slots) (hdg : decode cc pc = .ok (.invokevirtual 85, 3)) (kk : ∀ (H1 : Heap) (locs1 : List Loc), z_I G s M1 H1 locs1 → W p l e R s m args below meth c H1 locs1 cells slots Q (F0 m (pc + 3) ls (rv :: rest))) : W p l e R s m args below meth c H locs cells slots Q (F0 m (pc) ls (a1 :: a0 :: .ref (z_ad G 21 0) :: rest)) := z_inv (n := 2) (As := [a0, a1]) (rest := rest) (v := some rv) hc hI hM z_ix21 rfl (C := RX7) (T := TX7) (N := 24) rfl wd_5_184 wd_5_185 wd_5_186 wd_1_8 wd_5_187 (by decide +kernel) hR rfl hls hW hcs hdg kk
theorem iv_L_86 {a0 a1 : Value} {rv : Value} {M1 : z_M} {d : Nat} (hc : z_C p s m args meth c RL cc nL ret) (hI : z_I G s M H locs) (hM : z_Met G l yX6_heard cX6_heard 3 (some .int) d [.ref (z_ad G 0 0), a0, a1] M (some rv) M1) (hR : (z_rm d).frames + 1 ≤ R.frames ∧ 8 + (3 + 11) + (z_rm d).locals ≤ R.locals) (hls : ls.size = nL) (hW : (rest.map fun v => v.category).sum ≤ 8) (hcs : cells ≤ R.cells ∧ slots ≤ R.slots) (hdg : decode cc pc = .ok (.invokevirtual 86, 3)) (kk : ∀ (H1 : Heap) (locs1 : List Loc), z_I G s M1 H1 locs1 → W p l e R s m args below meth c H1 locs1 cells slots Q (F0 m (pc + 3) ls (rv :: rest))) : W p l e R s m args below meth c H locs cells slots Q (F0 m (pc) ls (a1 :: a0 :: .ref (z_ad G 0 0) :: rest)) := z_inv (n := 2) (As := [a0, a1]) (rest := rest) (v := some rv) hc hI hM z_ix0 rfl (C := RX6) (T := TX6) (N := 8) rfl wd_3_56 wd_3_57 wd_3_58 wd_1_1 wd_3_59 (by decide +kernel) hR rfl hls hW hcs hdg kk
theorem iv_L_89 {a0 a1 : Value} {rv : Value} {M1 : z_M} {d : Nat} (hc : z_C p s m args meth c RL cc nL ret) (hI : z_I G s M H locs) (hM : z_Met G l yX7_heard cX7_heard 3 (some .int) d [.ref (z_ad G 21 0), a0, a1] M (some rv) M1) (hR : (z_rm d).frames + 1 ≤ R.frames ∧ 8 + (3 + 11) + (z_rm d).locals ≤ R.locals) (hls : ls.size = nL) (hW : (rest.map fun v => v.category).sum ≤ 8) (hcs : cells ≤ R.cells ∧ slots ≤ R.slots) (hdg : decode cc pc = .ok (.invokevirtual 89, 3)) (kk : ∀ (H1 : Heap) (locs1 : List Loc), z_I G s M1 H1 locs1 → W p l e R s m args below meth c H1 locs1 cells slots Q (F0 m (pc + 3) ls (rv :: rest))) : W p l e R s m args below meth c H locs cells slots Q (F0 m (pc) ls (a1 :: a0 :: .ref (z_ad G 21 0) :: rest)) := z_inv (n := 2) (As := [a0, a1]) (rest := rest) (v := some rv) hc hI hM z_ix21 rfl (C := RX7) (T := TX7) (N := 24) rfl wd_5_196 wd_5_197 wd_5_198 wd_1_8 wd_5_199 (by decide +kernel) hR rfl hls hW hcs hdg kk
theorem iv_L_90 {a0 a1 a2 : Value} {rv : Value} {M1 : z_M} {d : Nat} (hc : z_C p s m args meth c RL cc nL ret) (hI : z_I G s M H locs) (hM : z_Met G l yX6_ahead cX6_ahead 4 (some .int) d [.ref (z_ad G 0 0), a0, a1, a2] M (some rv) M1) (hR : (z_rm d).frames + 1 ≤ R.frames ∧ 8 + (4 + 11) + (z_rm d).locals ≤ R.locals) (hls : ls.size = nL) (hW : (rest.map fun v => v.category).sum ≤ 8) (hcs : cells ≤ R.cells ∧ slots ≤ R.slots) (hdg : decode cc pc = .ok (.invokevirtual 90, 3)) (kk : ∀ (H1 : Heap) (locs1 : List Loc), z_I G s M1 H1 locs1 → W p l e R s m args below meth c H1 locs1 cells slots Q (F0 m (pc + 3) ls (rv :: rest))) : W p l e R s m args below meth c H locs cells slots Q (F0 m (pc) ls (a2 :: a1 :: a0 :: .ref (z_ad G 0 0) :: rest)) := z_inv (n := 3) (As := [a0, a1, a2]) (rest := rest) (v := some rv) hc hI hM z_ix0 rfl (C := RX6) (T := TX6) (N := 8) rfl wd_3_68 wd_3_69 wd_3_70 wd_1_1 wd_3_71 (by decide +kernel) hR rfl hls hW hcs hdg kk
theorem iv_L_93 {a0 a1 a2 : Value} {rv : Value} {M1 : z_M} {d : Nat} (hc : z_C p s m args meth c RL cc nL ret) (hI : z_I G s M H locs) (hM : z_Met G l yX7_ahead cX7_ahead 5 (some .int) d [.ref (z_ad G 21 0), a0, a1, a2] M (some rv) M1) (hR : (z_rm d).frames + 1 ≤ R.frames ∧ 8 + (5 + 11) + (z_rm d).locals ≤ R.locals) (hls : ls.size = nL) (hW : (rest.map fun v => v.category).sum ≤ 8) (hcs : cells ≤ R.cells ∧ slots ≤ R.slots) (hdg : decode cc pc = .ok (.invokevirtual 93, 3)) (kk : ∀ (H1 : Heap) (locs1 : List Loc), z_I G s M1 H1 locs1 → W p l e R s m args below meth c H1 locs1 cells slots Q (F0 m (pc + 3) ls (rv :: rest))) : W p l e R s m args below meth c H locs cells slots Q (F0 m (pc) ls (a2 :: a1 :: a0 :: .ref (z_ad G 21 0) :: rest)) := z_inv (n := 3) (As := [a0, a1, a2]) (rest := rest) (v := some rv) hc hI hM z_ix21 rfl (C := RX7) (T := TX7) (N := 24) rfl wd_5_204 wd_5_205 wd_5_206 wd_1_8 wd_5_207 (by decide +kernel) hR rfl hls hW hcs hdg kk
theorem iv_L_94 {a0 : Value} {rv : Value} {M1 : z_M} {d : Nat} (hc : z_C p s m args meth c RL cc nL ret) (hI : z_I G s M H locs) (hM : z_Met G l yX6_length cX6_length 2 (some .int) d [.ref (z_ad G 0 0), a0] M (some rv) M1) (hR : (z_rm d).frames + 1 ≤ R.frames ∧ 8 + (2 + 11) + (z_rm d).locals ≤ R.locals) (hls : ls.size = nL) (hW : (rest.map fun v => v.category).sum ≤ 8) (hcs : cells ≤ R.cells ∧ slots ≤ R.slots) (hdg : decode cc pc = .ok (.invokevirtual 94, 3)) (kk : ∀ (H1 : Heap) (locs1 : List Loc), z_I G s M1 H1 locs1 → W p l e R s m args below meth c H1 locs1 cells slots Q (F0 m (pc + 3) ls (rv :: rest))) : W p l e R s m args below meth c H locs cells slots Q (F0 m (pc) ls (a0 :: .ref (z_ad G 0 0) :: rest)) := z_inv (n := 1) (As := [a0]) (rest := rest) (v := some rv) hc hI hM z_ix0 rfl (C := RX6) (T := TX6) (N := 8) rfl wd_3_91 wd_3_92 wd_3_93 wd_1_1 wd_3_94 (by decide +kernel) hR rfl hls hW hcs hdg kk
theorem iv_L_97 {a0 : Value} {rv : Value} {M1 : z_M} {d : Nat} (hc : z_C p s m args meth c RL cc nL ret) (hI : z_I G s M H locs) (hM : z_Met G l yX7_length cX7_length 2 (some .int) d [.ref (z_ad G 21 0), a0] M (some rv) M1) (hR : (z_rm d).frames + 1 ≤ R.frames ∧ 8 + (2 + 11) + (z_rm d).locals ≤ R.locals) (hls : ls.size = nL) (hW : (rest.map fun v => v.category).sum ≤ 8) (hcs : cells ≤ R.cells ∧ slots ≤ R.slots) (hdg : decode cc pc = .ok (.invokevirtual 97, 3)) (kk : ∀ (H1 : Heap) (locs1 : List Loc), z_I G s M1 H1 locs1 → W p l e R s m args below meth c H1 locs1 cells slots Q (F0 m (pc + 3) ls (rv :: rest))) : W p l e R s m args below meth c H locs cells slots Q (F0 m (pc) ls (a0 :: .ref (z_ad G 21 0) :: rest)) := z_inv (n := 1) (As := [a0]) (rest := rest) (v := some rv) hc hI hM z_ix21 rfl (C := RX7) (T := TX7) (N := 24) rfl wd_5_220 wd_5_221 wd_5_222 wd_1_8 wd_5_223 (by decide +kernel) hR rfl hls hW hcs hdg kk
theorem iv_L_98 {a0 a1 : Value} {rv : Value} {M1 : z_M} {d : Nat} (hc : z_C p s m args meth c RL cc nL ret) (hI : z_I G s M H locs) (hM : z_Met G l yX6_meet cX6_meet 3 (some .int) d [.ref (z_ad G 0 0), a0, a1] M (some rv) M1) (hR : (z_rm d).frames + 1 ≤ R.frames ∧ 8 + (3 + 11) + (z_rm d).locals ≤ R.locals) (hls : ls.size = nL) (hW : (rest.map fun v => v.category).sum ≤ 8) (hcs : cells ≤ R.cells ∧ slots ≤ R.slots) (hdg : decode cc pc = .ok (.invokevirtual 98, 3)) (kk : ∀ (H1 : Heap) (locs1 : List Loc), z_I G s M1 H1 locs1 → W p l e R s m args below meth c H1 locs1 cells slots Q (F0 m (pc + 3) ls (rv :: rest))) : W p l e R s m args below meth c H locs cells slots Q (F0 m (pc) ls (a1 :: a0 :: .ref (z_ad G 0 0) :: rest)) := z_inv (n := 2) (As := [a0, a1]) (rest := rest) (v := some rv) hc hI hM z_ix0 rfl (C := RX6) (T := TX6) (N := 8) rfl wd_3_95 wd_3_96 wd_3_97 wd_1_1 wd_3_98 (by decide +kernel) hR rfl hls hW hcs hdg kk
end
section
variable {p : Program} {l : Launch} {e : Env} {s : State} {m : MethodId} {below : List Frame} {meth : Method} {c : Code} {H : Heap} {locs : List Loc} {cells slots : Nat} {Q : State → Prop} {G : z_G} {M : z_M} {ls : Array Slot} {b L j : Nat} {xs : Nat → Int32}
set_option maxRecDepth 100000 in
set_option maxHeartbeats 4000000 in
theorem lc_0 (hL : L ≤ 4096) (hc : z_C p s m #[Value.ref b] meth c RL code 4 ret) (hX : va_X b L xs s s.heap) (hbl : b < s.heap.size) (hbA : ¬ z_A G b) (hcs : cells ≤ room_1.cells ∧ slots ≤ room_1.slots) (hj : 8 * j + 8 ≤ L) (hR : z_Rel M) (hI : z_I G s M H locs) (hl : lv_has ls 4 [(0, .ref b), (1, .ref (z_ad G 0 0)), (2, .ref (z_ad G 21 0)), (3, .int (nI (8 * j)))]) (kk : ∀ (M : z_M) (H : Heap) (locs : List Loc) (ls : Array Slot), z_Rel M → z_I G s M H locs → lv_has ls 4 [(0, .ref b), (1, .ref (z_ad G 0 0)), (2, .ref (z_ad G 21 0)), (3, .int (nI (8 * j)))] → W p l e room_1 s m #[Value.ref b] below meth c H locs cells slots Q (F0 m 1520 ls [])) : W p l e room_1 s m #[Value.ref b] below meth c H locs cells slots Q (F0 m 204 ls []) := by
  obtain ⟨⟨hx, hb, hml, hown, hts⟩, hr, hlk⟩ := id hc
  refine lv_aload_n hx hb dL_law_204 rfl (lv_at hl 1 rfl) ?_
  refine lv_aload_n hx hb dL_law_205 rfl (lv_at hl 0 rfl) ?_
  refine lv_iload_n hx hb dL_law_206 rfl (lv_at hl 3 rfl) ?_
  refine lv_iconst (v := 1) hx hb dL_law_207 (by decide) ?_
  refine lv_iadd hx hb dL_law_208 ?_
  refine va_sld hx hb hX hbl hbA hI.2.2.2.1 (z_sin (t := 1) hj (by decide) hL) dL_law_209 ?_
  refine lv_aload_n hx hb dL_law_210 rfl (lv_at hl 0 rfl) ?_
  refine lv_iload_n hx hb dL_law_211 rfl (lv_at hl 3 rfl) ?_
  refine lv_iconst (v := 2) hx hb dL_law_212 (by decide) ?_
  refine lv_iadd hx hb dL_law_213 ?_
  refine va_sld hx hb hX hbl hbA hI.2.2.2.1 (z_sin (t := 2) hj (by decide) hL) dL_law_214 ?_
  refine lv_aload_n hx hb dL_law_215 rfl (lv_at hl 0 rfl) ?_
  refine lv_iload_n hx hb dL_law_216 rfl (lv_at hl 3 rfl) ?_
  refine lv_iconst (v := 3) hx hb dL_law_217 (by decide) ?_
  refine lv_iadd hx hb dL_law_218 ?_
  refine va_sld hx hb hX hbl hbA hI.2.2.2.1 (z_sin (t := 3) hj (by decide) hL) dL_law_219 ?_
  obtain ⟨r, N1, N2, e1, e2, hR2⟩ := eq_row hR (z_xs xs j 1) (z_xs xs j 2) (z_xs xs j 3)
  refine iv_L_13 hc hI (c_X6_row e1) (by decide) hl.1 (Nat.le_of_ble_eq_true rfl) hcs dL_law_220 (fun H locs hI => ?_)
  refine lv_aload_n hx hb dL_law_223 rfl (lv_at hl 2 rfl) ?_
  refine lv_aload_n hx hb dL_law_224 rfl (lv_at hl 0 rfl) ?_
  refine lv_iload_n hx hb dL_law_225 rfl (lv_at hl 3 rfl) ?_
  refine lv_iconst (v := 1) hx hb dL_law_226 (by decide) ?_
  refine lv_iadd hx hb dL_law_227 ?_
  refine va_sld hx hb hX hbl hbA hI.2.2.2.1 (z_sin (t := 1) hj (by decide) hL) dL_law_228 ?_
  refine lv_aload_n hx hb dL_law_229 rfl (lv_at hl 0 rfl) ?_
  refine lv_iload_n hx hb dL_law_230 rfl (lv_at hl 3 rfl) ?_
  refine lv_iconst (v := 2) hx hb dL_law_231 (by decide) ?_
  refine lv_iadd hx hb dL_law_232 ?_
  refine va_sld hx hb hX hbl hbA hI.2.2.2.1 (z_sin (t := 2) hj (by decide) hL) dL_law_233 ?_
  refine lv_aload_n hx hb dL_law_234 rfl (lv_at hl 0 rfl) ?_
  refine lv_iload_n hx hb dL_law_235 rfl (lv_at hl 3 rfl) ?_
  refine lv_iconst (v := 3) hx hb dL_law_236 (by decide) ?_
  refine lv_iadd hx hb dL_law_237 ?_
  refine va_sld hx hb hX hbl hbA hI.2.2.2.1 (z_sin (t := 3) hj (by decide) hL) dL_law_238 ?_
  refine iv_L_17 hc hI (c_X7_row e2) (by decide) hl.1 (Nat.le_of_ble_eq_true rfl) hcs dL_law_239 (fun H locs hI => ?_)
  refine lv_icmp_eq (tgt := 1520) hx hb dL_law_242 (by decide) (fun _ => ?_) (fun c1 => absurd rfl c1)
  exact kk N2 H locs ls hR2 hI hl
set_option maxRecDepth 100000 in
set_option maxHeartbeats 4000000 in
theorem lc_1 (hL : L ≤ 4096) (hc : z_C p s m #[Value.ref b] meth c RL code 4 ret) (hX : va_X b L xs s s.heap) (hbl : b < s.heap.size) (hbA : ¬ z_A G b) (hcs : cells ≤ room_1.cells ∧ slots ≤ room_1.slots) (hj : 8 * j + 8 ≤ L) (hR : z_Rel M) (hI : z_I G s M H locs) (hl : lv_has ls 4 [(0, .ref b), (1, .ref (z_ad G 0 0)), (2, .ref (z_ad G 21 0)), (3, .int (nI (8 * j)))]) (kk : ∀ (M : z_M) (H : Heap) (locs : List Loc) (ls : Array Slot), z_Rel M → z_I G s M H locs → lv_has ls 4 [(0, .ref b), (1, .ref (z_ad G 0 0)), (2, .ref (z_ad G 21 0)), (3, .int (nI (8 * j)))] → W p l e room_1 s m #[Value.ref b] below meth c H locs cells slots Q (F0 m 1520 ls [])) : W p l e room_1 s m #[Value.ref b] below meth c H locs cells slots Q (F0 m 247 ls []) := by
  obtain ⟨⟨hx, hb, hml, hown, hts⟩, hr, hlk⟩ := id hc
  refine lv_aload_n hx hb dL_law_247 rfl (lv_at hl 1 rfl) ?_
  refine lv_aload_n hx hb dL_law_248 rfl (lv_at hl 0 rfl) ?_
  refine lv_iload_n hx hb dL_law_249 rfl (lv_at hl 3 rfl) ?_
  refine lv_iconst (v := 1) hx hb dL_law_250 (by decide) ?_
  refine lv_iadd hx hb dL_law_251 ?_
  refine va_sld hx hb hX hbl hbA hI.2.2.2.1 (z_sin (t := 1) hj (by decide) hL) dL_law_252 ?_
  refine lv_aload_n hx hb dL_law_253 rfl (lv_at hl 0 rfl) ?_
  refine lv_iload_n hx hb dL_law_254 rfl (lv_at hl 3 rfl) ?_
  refine lv_iconst (v := 2) hx hb dL_law_255 (by decide) ?_
  refine lv_iadd hx hb dL_law_256 ?_
  refine va_sld hx hb hX hbl hbA hI.2.2.2.1 (z_sin (t := 2) hj (by decide) hL) dL_law_257 ?_
  refine lv_aload_n hx hb dL_law_258 rfl (lv_at hl 0 rfl) ?_
  refine lv_iload_n hx hb dL_law_259 rfl (lv_at hl 3 rfl) ?_
  refine lv_iconst (v := 3) hx hb dL_law_260 (by decide) ?_
  refine lv_iadd hx hb dL_law_261 ?_
  refine va_sld hx hb hX hbl hbA hI.2.2.2.1 (z_sin (t := 3) hj (by decide) hL) dL_law_262 ?_
  obtain ⟨r, N1, N2, e1, e2, hR2⟩ := eq_set hR (z_xs xs j 1) (z_xs xs j 2) (z_xs xs j 3)
  refine iv_L_18 hc hI (c_X6_set e1) (by decide) hl.1 (Nat.le_of_ble_eq_true rfl) hcs dL_law_263 (fun H locs hI => ?_)
  refine lv_aload_n hx hb dL_law_266 rfl (lv_at hl 2 rfl) ?_
  refine lv_aload_n hx hb dL_law_267 rfl (lv_at hl 0 rfl) ?_
  refine lv_iload_n hx hb dL_law_268 rfl (lv_at hl 3 rfl) ?_
  refine lv_iconst (v := 1) hx hb dL_law_269 (by decide) ?_
  refine lv_iadd hx hb dL_law_270 ?_
  refine va_sld hx hb hX hbl hbA hI.2.2.2.1 (z_sin (t := 1) hj (by decide) hL) dL_law_271 ?_
  refine lv_aload_n hx hb dL_law_272 rfl (lv_at hl 0 rfl) ?_
  refine lv_iload_n hx hb dL_law_273 rfl (lv_at hl 3 rfl) ?_
  refine lv_iconst (v := 2) hx hb dL_law_274 (by decide) ?_
  refine lv_iadd hx hb dL_law_275 ?_
  refine va_sld hx hb hX hbl hbA hI.2.2.2.1 (z_sin (t := 2) hj (by decide) hL) dL_law_276 ?_
  refine lv_aload_n hx hb dL_law_277 rfl (lv_at hl 0 rfl) ?_
  refine lv_iload_n hx hb dL_law_278 rfl (lv_at hl 3 rfl) ?_
  refine lv_iconst (v := 3) hx hb dL_law_279 (by decide) ?_
  refine lv_iadd hx hb dL_law_280 ?_
  refine va_sld hx hb hX hbl hbA hI.2.2.2.1 (z_sin (t := 3) hj (by decide) hL) dL_law_281 ?_
  refine iv_L_21 hc hI (c_X7_set e2) (by decide) hl.1 (Nat.le_of_ble_eq_true rfl) hcs dL_law_282 (fun H locs hI => ?_)
  refine lv_icmp_eq (tgt := 1520) hx hb dL_law_285 (by decide) (fun _ => ?_) (fun c1 => absurd rfl c1)
  exact kk N2 H locs ls hR2 hI hl
set_option maxRecDepth 100000 in
set_option maxHeartbeats 4000000 in
theorem lc_2 (hL : L ≤ 4096) (hc : z_C p s m #[Value.ref b] meth c RL code 4 ret) (hX : va_X b L xs s s.heap) (hbl : b < s.heap.size) (hbA : ¬ z_A G b) (hcs : cells ≤ room_1.cells ∧ slots ≤ room_1.slots) (hj : 8 * j + 8 ≤ L) (hR : z_Rel M) (hI : z_I G s M H locs) (hl : lv_has ls 4 [(0, .ref b), (1, .ref (z_ad G 0 0)), (2, .ref (z_ad G 21 0)), (3, .int (nI (8 * j)))]) (kk : ∀ (M : z_M) (H : Heap) (locs : List Loc) (ls : Array Slot), z_Rel M → z_I G s M H locs → lv_has ls 4 [(0, .ref b), (1, .ref (z_ad G 0 0)), (2, .ref (z_ad G 21 0)), (3, .int (nI (8 * j)))] → W p l e room_1 s m #[Value.ref b] below meth c H locs cells slots Q (F0 m 1520 ls [])) : W p l e room_1 s m #[Value.ref b] below meth c H locs cells slots Q (F0 m 290 ls []) := by
  obtain ⟨⟨hx, hb, hml, hown, hts⟩, hr, hlk⟩ := id hc
  refine lv_aload_n hx hb dL_law_290 rfl (lv_at hl 1 rfl) ?_
  refine lv_aload_n hx hb dL_law_291 rfl (lv_at hl 0 rfl) ?_
  refine lv_iload_n hx hb dL_law_292 rfl (lv_at hl 3 rfl) ?_
  refine lv_iconst (v := 1) hx hb dL_law_293 (by decide) ?_
  refine lv_iadd hx hb dL_law_294 ?_
  refine va_sld hx hb hX hbl hbA hI.2.2.2.1 (z_sin (t := 1) hj (by decide) hL) dL_law_295 ?_
  refine lv_aload_n hx hb dL_law_296 rfl (lv_at hl 0 rfl) ?_
  refine lv_iload_n hx hb dL_law_297 rfl (lv_at hl 3 rfl) ?_
  refine lv_iconst (v := 2) hx hb dL_law_298 (by decide) ?_
  refine lv_iadd hx hb dL_law_299 ?_
  refine va_sld hx hb hX hbl hbA hI.2.2.2.1 (z_sin (t := 2) hj (by decide) hL) dL_law_300 ?_
  refine lv_aload_n hx hb dL_law_301 rfl (lv_at hl 0 rfl) ?_
  refine lv_iload_n hx hb dL_law_302 rfl (lv_at hl 3 rfl) ?_
  refine lv_iconst (v := 3) hx hb dL_law_303 (by decide) ?_
  refine lv_iadd hx hb dL_law_304 ?_
  refine va_sld hx hb hX hbl hbA hI.2.2.2.1 (z_sin (t := 3) hj (by decide) hL) dL_law_305 ?_
  refine lv_aload_n hx hb dL_law_306 rfl (lv_at hl 0 rfl) ?_
  refine lv_iload_n hx hb dL_law_307 rfl (lv_at hl 3 rfl) ?_
  refine lv_iconst (v := 4) hx hb dL_law_308 (by decide) ?_
  refine lv_iadd hx hb dL_law_309 ?_
  refine va_sld hx hb hX hbl hbA hI.2.2.2.1 (z_sin (t := 4) hj (by decide) hL) dL_law_310 ?_
  refine lv_aload_n hx hb dL_law_311 rfl (lv_at hl 0 rfl) ?_
  refine lv_iload_n hx hb dL_law_312 rfl (lv_at hl 3 rfl) ?_
  refine lv_iconst (v := 5) hx hb dL_law_313 (by decide) ?_
  refine lv_iadd hx hb dL_law_314 ?_
  refine va_sld hx hb hX hbl hbA hI.2.2.2.1 (z_sin (t := 5) hj (by decide) hL) dL_law_315 ?_
  obtain ⟨r, N1, N2, e1, e2, hR2⟩ := eq_copy hR (z_xs xs j 1) (z_xs xs j 2) (z_xs xs j 3) (z_xs xs j 4) (z_xs xs j 5)
  refine iv_L_22 hc hI (c_X6_copy e1) (by decide) hl.1 (Nat.le_of_ble_eq_true rfl) hcs dL_law_316 (fun H locs hI => ?_)
  refine lv_aload_n hx hb dL_law_319 rfl (lv_at hl 2 rfl) ?_
  refine lv_aload_n hx hb dL_law_320 rfl (lv_at hl 0 rfl) ?_
  refine lv_iload_n hx hb dL_law_321 rfl (lv_at hl 3 rfl) ?_
  refine lv_iconst (v := 1) hx hb dL_law_322 (by decide) ?_
  refine lv_iadd hx hb dL_law_323 ?_
  refine va_sld hx hb hX hbl hbA hI.2.2.2.1 (z_sin (t := 1) hj (by decide) hL) dL_law_324 ?_
  refine lv_aload_n hx hb dL_law_325 rfl (lv_at hl 0 rfl) ?_
  refine lv_iload_n hx hb dL_law_326 rfl (lv_at hl 3 rfl) ?_
  refine lv_iconst (v := 2) hx hb dL_law_327 (by decide) ?_
  refine lv_iadd hx hb dL_law_328 ?_
  refine va_sld hx hb hX hbl hbA hI.2.2.2.1 (z_sin (t := 2) hj (by decide) hL) dL_law_329 ?_
  refine lv_aload_n hx hb dL_law_330 rfl (lv_at hl 0 rfl) ?_
  refine lv_iload_n hx hb dL_law_331 rfl (lv_at hl 3 rfl) ?_
  refine lv_iconst (v := 3) hx hb dL_law_332 (by decide) ?_
  refine lv_iadd hx hb dL_law_333 ?_
  refine va_sld hx hb hX hbl hbA hI.2.2.2.1 (z_sin (t := 3) hj (by decide) hL) dL_law_334 ?_
  refine lv_aload_n hx hb dL_law_335 rfl (lv_at hl 0 rfl) ?_
  refine lv_iload_n hx hb dL_law_336 rfl (lv_at hl 3 rfl) ?_
  refine lv_iconst (v := 4) hx hb dL_law_337 (by decide) ?_
  refine lv_iadd hx hb dL_law_338 ?_
  refine va_sld hx hb hX hbl hbA hI.2.2.2.1 (z_sin (t := 4) hj (by decide) hL) dL_law_339 ?_
  refine lv_aload_n hx hb dL_law_340 rfl (lv_at hl 0 rfl) ?_
  refine lv_iload_n hx hb dL_law_341 rfl (lv_at hl 3 rfl) ?_
  refine lv_iconst (v := 5) hx hb dL_law_342 (by decide) ?_
  refine lv_iadd hx hb dL_law_343 ?_
  refine va_sld hx hb hX hbl hbA hI.2.2.2.1 (z_sin (t := 5) hj (by decide) hL) dL_law_344 ?_
  refine iv_L_26 hc hI (c_X7_copy e2) (by decide) hl.1 (Nat.le_of_ble_eq_true rfl) hcs dL_law_345 (fun H locs hI => ?_)
  refine lv_icmp_eq (tgt := 1520) hx hb dL_law_348 (by decide) (fun _ => ?_) (fun c1 => absurd rfl c1)
  exact kk N2 H locs ls hR2 hI hl
set_option maxRecDepth 100000 in
set_option maxHeartbeats 4000000 in
theorem lc_3 (hL : L ≤ 4096) (hc : z_C p s m #[Value.ref b] meth c RL code 4 ret) (hX : va_X b L xs s s.heap) (hbl : b < s.heap.size) (hbA : ¬ z_A G b) (hcs : cells ≤ room_1.cells ∧ slots ≤ room_1.slots) (hj : 8 * j + 8 ≤ L) (hR : z_Rel M) (hI : z_I G s M H locs) (hl : lv_has ls 4 [(0, .ref b), (1, .ref (z_ad G 0 0)), (2, .ref (z_ad G 21 0)), (3, .int (nI (8 * j)))]) (kk : ∀ (M : z_M) (H : Heap) (locs : List Loc) (ls : Array Slot), z_Rel M → z_I G s M H locs → lv_has ls 4 [(0, .ref b), (1, .ref (z_ad G 0 0)), (2, .ref (z_ad G 21 0)), (3, .int (nI (8 * j)))] → W p l e room_1 s m #[Value.ref b] below meth c H locs cells slots Q (F0 m 1520 ls [])) : W p l e room_1 s m #[Value.ref b] below meth c H locs cells slots Q (F0 m 353 ls []) := by
  obtain ⟨⟨hx, hb, hml, hown, hts⟩, hr, hlk⟩ := id hc
  refine lv_aload_n hx hb dL_law_353 rfl (lv_at hl 1 rfl) ?_
  refine lv_aload_n hx hb dL_law_354 rfl (lv_at hl 0 rfl) ?_
  refine lv_iload_n hx hb dL_law_355 rfl (lv_at hl 3 rfl) ?_
  refine lv_iconst (v := 1) hx hb dL_law_356 (by decide) ?_
  refine lv_iadd hx hb dL_law_357 ?_
  refine va_sld hx hb hX hbl hbA hI.2.2.2.1 (z_sin (t := 1) hj (by decide) hL) dL_law_358 ?_
  obtain ⟨r, N1, N2, e1, e2, hR2⟩ := eq_drop hR (z_xs xs j 1)
  refine iv_L_27 hc hI (c_X6_drop e1) (by decide) hl.1 (Nat.le_of_ble_eq_true rfl) hcs dL_law_359 (fun H locs hI => ?_)
  refine lv_aload_n hx hb dL_law_362 rfl (lv_at hl 2 rfl) ?_
  refine lv_aload_n hx hb dL_law_363 rfl (lv_at hl 0 rfl) ?_
  refine lv_iload_n hx hb dL_law_364 rfl (lv_at hl 3 rfl) ?_
  refine lv_iconst (v := 1) hx hb dL_law_365 (by decide) ?_
  refine lv_iadd hx hb dL_law_366 ?_
  refine va_sld hx hb hX hbl hbA hI.2.2.2.1 (z_sin (t := 1) hj (by decide) hL) dL_law_367 ?_
  refine iv_L_31 hc hI (c_X7_drop e2) (by decide) hl.1 (Nat.le_of_ble_eq_true rfl) hcs dL_law_368 (fun H locs hI => ?_)
  refine lv_icmp_eq (tgt := 1520) hx hb dL_law_371 (by decide) (fun _ => ?_) (fun c1 => absurd rfl c1)
  exact kk N2 H locs ls hR2 hI hl
set_option maxRecDepth 100000 in
set_option maxHeartbeats 4000000 in
theorem lc_4 (hL : L ≤ 4096) (hc : z_C p s m #[Value.ref b] meth c RL code 4 ret) (hX : va_X b L xs s s.heap) (hbl : b < s.heap.size) (hbA : ¬ z_A G b) (hcs : cells ≤ room_1.cells ∧ slots ≤ room_1.slots) (hj : 8 * j + 8 ≤ L) (hR : z_Rel M) (hI : z_I G s M H locs) (hl : lv_has ls 4 [(0, .ref b), (1, .ref (z_ad G 0 0)), (2, .ref (z_ad G 21 0)), (3, .int (nI (8 * j)))]) (kk : ∀ (M : z_M) (H : Heap) (locs : List Loc) (ls : Array Slot), z_Rel M → z_I G s M H locs → lv_has ls 4 [(0, .ref b), (1, .ref (z_ad G 0 0)), (2, .ref (z_ad G 21 0)), (3, .int (nI (8 * j)))] → W p l e room_1 s m #[Value.ref b] below meth c H locs cells slots Q (F0 m 1520 ls [])) : W p l e room_1 s m #[Value.ref b] below meth c H locs cells slots Q (F0 m 376 ls []) := by
  obtain ⟨⟨hx, hb, hml, hown, hts⟩, hr, hlk⟩ := id hc
  refine lv_aload_n hx hb dL_law_376 rfl (lv_at hl 1 rfl) ?_
  refine lv_aload_n hx hb dL_law_377 rfl (lv_at hl 0 rfl) ?_
  refine lv_iload_n hx hb dL_law_378 rfl (lv_at hl 3 rfl) ?_
  refine lv_iconst (v := 1) hx hb dL_law_379 (by decide) ?_
  refine lv_iadd hx hb dL_law_380 ?_
  refine va_sld hx hb hX hbl hbA hI.2.2.2.1 (z_sin (t := 1) hj (by decide) hL) dL_law_381 ?_
  obtain ⟨r, N1, N2, e1, e2, hR2⟩ := eq_feed hR (z_xs xs j 1)
  refine iv_L_32 hc hI (c_X6_feed e1) (by decide) hl.1 (Nat.le_of_ble_eq_true rfl) hcs dL_law_382 (fun H locs hI => ?_)
  refine lv_aload_n hx hb dL_law_385 rfl (lv_at hl 2 rfl) ?_
  refine lv_aload_n hx hb dL_law_386 rfl (lv_at hl 0 rfl) ?_
  refine lv_iload_n hx hb dL_law_387 rfl (lv_at hl 3 rfl) ?_
  refine lv_iconst (v := 1) hx hb dL_law_388 (by decide) ?_
  refine lv_iadd hx hb dL_law_389 ?_
  refine va_sld hx hb hX hbl hbA hI.2.2.2.1 (z_sin (t := 1) hj (by decide) hL) dL_law_390 ?_
  refine iv_L_35 hc hI (c_X7_feed e2) (by decide) hl.1 (Nat.le_of_ble_eq_true rfl) hcs dL_law_391 (fun H locs hI => ?_)
  refine lv_icmp_eq (tgt := 1520) hx hb dL_law_394 (by decide) (fun _ => ?_) (fun c1 => absurd rfl c1)
  exact kk N2 H locs ls hR2 hI hl
set_option maxRecDepth 100000 in
set_option maxHeartbeats 4000000 in
theorem lc_5 (hL : L ≤ 4096) (hc : z_C p s m #[Value.ref b] meth c RL code 4 ret) (hX : va_X b L xs s s.heap) (hbl : b < s.heap.size) (hbA : ¬ z_A G b) (hcs : cells ≤ room_1.cells ∧ slots ≤ room_1.slots) (hj : 8 * j + 8 ≤ L) (hR : z_Rel M) (hI : z_I G s M H locs) (hl : lv_has ls 4 [(0, .ref b), (1, .ref (z_ad G 0 0)), (2, .ref (z_ad G 21 0)), (3, .int (nI (8 * j)))]) (kk : ∀ (M : z_M) (H : Heap) (locs : List Loc) (ls : Array Slot), z_Rel M → z_I G s M H locs → lv_has ls 4 [(0, .ref b), (1, .ref (z_ad G 0 0)), (2, .ref (z_ad G 21 0)), (3, .int (nI (8 * j)))] → W p l e room_1 s m #[Value.ref b] below meth c H locs cells slots Q (F0 m 1520 ls [])) : W p l e room_1 s m #[Value.ref b] below meth c H locs cells slots Q (F0 m 399 ls []) := by
  obtain ⟨⟨hx, hb, hml, hown, hts⟩, hr, hlk⟩ := id hc
  refine lv_aload_n hx hb dL_law_399 rfl (lv_at hl 1 rfl) ?_
  obtain ⟨r, N1, N2, e1, e2, hR2⟩ := eq_town hR
  refine iv_L_36 hc hI (c_X6_town e1) (by decide) hl.1 (Nat.le_of_ble_eq_true rfl) hcs dL_law_400 (fun H locs hI => ?_)
  refine lv_aload_n hx hb dL_law_403 rfl (lv_at hl 2 rfl) ?_
  refine iv_L_40 hc hI (c_X7_town e2) (by decide) hl.1 (Nat.le_of_ble_eq_true rfl) hcs dL_law_404 (fun H locs hI => ?_)
  refine lv_icmp_eq (tgt := 1520) hx hb dL_law_407 (by decide) (fun _ => ?_) (fun c1 => absurd rfl c1)
  exact kk N2 H locs ls hR2 hI hl
set_option maxRecDepth 100000 in
set_option maxHeartbeats 4000000 in
theorem lc_6 (hL : L ≤ 4096) (hc : z_C p s m #[Value.ref b] meth c RL code 4 ret) (hX : va_X b L xs s s.heap) (hbl : b < s.heap.size) (hbA : ¬ z_A G b) (hcs : cells ≤ room_1.cells ∧ slots ≤ room_1.slots) (hj : 8 * j + 8 ≤ L) (hR : z_Rel M) (hI : z_I G s M H locs) (hl : lv_has ls 4 [(0, .ref b), (1, .ref (z_ad G 0 0)), (2, .ref (z_ad G 21 0)), (3, .int (nI (8 * j)))]) (kk : ∀ (M : z_M) (H : Heap) (locs : List Loc) (ls : Array Slot), z_Rel M → z_I G s M H locs → lv_has ls 4 [(0, .ref b), (1, .ref (z_ad G 0 0)), (2, .ref (z_ad G 21 0)), (3, .int (nI (8 * j)))] → W p l e room_1 s m #[Value.ref b] below meth c H locs cells slots Q (F0 m 1520 ls [])) : W p l e room_1 s m #[Value.ref b] below meth c H locs cells slots Q (F0 m 412 ls []) := by
  obtain ⟨⟨hx, hb, hml, hown, hts⟩, hr, hlk⟩ := id hc
  refine lv_aload_n hx hb dL_law_412 rfl (lv_at hl 1 rfl) ?_
  obtain ⟨r, e1, e2⟩ := eq_fault hR
  refine iv_L_41 hc hI (c_X6_fault e1) (by decide) hl.1 (Nat.le_of_ble_eq_true rfl) hcs dL_law_413 (fun H locs hI => ?_)
  refine lv_aload_n hx hb dL_law_416 rfl (lv_at hl 2 rfl) ?_
  refine iv_L_44 hc hI (c_X7_fault e2) (by decide) hl.1 (Nat.le_of_ble_eq_true rfl) hcs dL_law_417 (fun H locs hI => ?_)
  refine lv_icmp_eq (tgt := 1520) hx hb dL_law_420 (by decide) (fun _ => ?_) (fun c1 => absurd rfl c1)
  exact kk M H locs ls hR hI hl
set_option maxRecDepth 100000 in
set_option maxHeartbeats 4000000 in
theorem lc_7 (hL : L ≤ 4096) (hc : z_C p s m #[Value.ref b] meth c RL code 4 ret) (hX : va_X b L xs s s.heap) (hbl : b < s.heap.size) (hbA : ¬ z_A G b) (hcs : cells ≤ room_1.cells ∧ slots ≤ room_1.slots) (hj : 8 * j + 8 ≤ L) (hR : z_Rel M) (hI : z_I G s M H locs) (hl : lv_has ls 4 [(0, .ref b), (1, .ref (z_ad G 0 0)), (2, .ref (z_ad G 21 0)), (3, .int (nI (8 * j)))]) (kk : ∀ (M : z_M) (H : Heap) (locs : List Loc) (ls : Array Slot), z_Rel M → z_I G s M H locs → lv_has ls 4 [(0, .ref b), (1, .ref (z_ad G 0 0)), (2, .ref (z_ad G 21 0)), (3, .int (nI (8 * j)))] → W p l e room_1 s m #[Value.ref b] below meth c H locs cells slots Q (F0 m 1520 ls [])) : W p l e room_1 s m #[Value.ref b] below meth c H locs cells slots Q (F0 m 425 ls []) := by
  obtain ⟨⟨hx, hb, hml, hown, hts⟩, hr, hlk⟩ := id hc
  refine lv_aload_n hx hb dL_law_425 rfl (lv_at hl 1 rfl) ?_
  obtain ⟨r, N1, N2, e1, e2, hR2⟩ := eq_undo hR
  refine iv_L_45 hc hI (c_X6_undo e1) (by decide) hl.1 (Nat.le_of_ble_eq_true rfl) hcs dL_law_426 (fun H locs hI => ?_)
  refine lv_aload_n hx hb dL_law_429 rfl (lv_at hl 2 rfl) ?_
  refine iv_L_48 hc hI (c_X7_undo e2) (by decide) hl.1 (Nat.le_of_ble_eq_true rfl) hcs dL_law_430 (fun H locs hI => ?_)
  refine lv_icmp_eq (tgt := 1520) hx hb dL_law_433 (by decide) (fun _ => ?_) (fun c1 => absurd rfl c1)
  exact kk N2 H locs ls hR2 hI hl
set_option maxRecDepth 100000 in
set_option maxHeartbeats 4000000 in
theorem lc_8 (hL : L ≤ 4096) (hc : z_C p s m #[Value.ref b] meth c RL code 4 ret) (hX : va_X b L xs s s.heap) (hbl : b < s.heap.size) (hbA : ¬ z_A G b) (hcs : cells ≤ room_1.cells ∧ slots ≤ room_1.slots) (hj : 8 * j + 8 ≤ L) (hR : z_Rel M) (hI : z_I G s M H locs) (hl : lv_has ls 4 [(0, .ref b), (1, .ref (z_ad G 0 0)), (2, .ref (z_ad G 21 0)), (3, .int (nI (8 * j)))]) (kk : ∀ (M : z_M) (H : Heap) (locs : List Loc) (ls : Array Slot), z_Rel M → z_I G s M H locs → lv_has ls 4 [(0, .ref b), (1, .ref (z_ad G 0 0)), (2, .ref (z_ad G 21 0)), (3, .int (nI (8 * j)))] → W p l e room_1 s m #[Value.ref b] below meth c H locs cells slots Q (F0 m 1520 ls [])) : W p l e room_1 s m #[Value.ref b] below meth c H locs cells slots Q (F0 m 438 ls []) := by
  obtain ⟨⟨hx, hb, hml, hown, hts⟩, hr, hlk⟩ := id hc
  refine lv_aload_n hx hb dL_law_438 rfl (lv_at hl 1 rfl) ?_
  refine lv_aload_n hx hb dL_law_439 rfl (lv_at hl 0 rfl) ?_
  refine lv_iload_n hx hb dL_law_440 rfl (lv_at hl 3 rfl) ?_
  refine lv_iconst (v := 1) hx hb dL_law_441 (by decide) ?_
  refine lv_iadd hx hb dL_law_442 ?_
  refine va_sld hx hb hX hbl hbA hI.2.2.2.1 (z_sin (t := 1) hj (by decide) hL) dL_law_443 ?_
  obtain ⟨r, N1, N2, e1, e2, hR2⟩ := eq_days hR (z_xs xs j 1)
  refine iv_L_49 hc hI (c_X6_days e1) (by decide) hl.1 (Nat.le_of_ble_eq_true rfl) hcs dL_law_444 (fun H locs hI => ?_)
  refine lv_aload_n hx hb dL_law_447 rfl (lv_at hl 2 rfl) ?_
  refine lv_aload_n hx hb dL_law_448 rfl (lv_at hl 0 rfl) ?_
  refine lv_iload_n hx hb dL_law_449 rfl (lv_at hl 3 rfl) ?_
  refine lv_iconst (v := 1) hx hb dL_law_450 (by decide) ?_
  refine lv_iadd hx hb dL_law_451 ?_
  refine va_sld hx hb hX hbl hbA hI.2.2.2.1 (z_sin (t := 1) hj (by decide) hL) dL_law_452 ?_
  refine iv_L_52 hc hI (c_X7_days e2) (by decide) hl.1 (Nat.le_of_ble_eq_true rfl) hcs dL_law_453 (fun H locs hI => ?_)
  refine lv_icmp_eq (tgt := 1520) hx hb dL_law_456 (by decide) (fun _ => ?_) (fun c1 => absurd rfl c1)
  exact kk N2 H locs ls hR2 hI hl
set_option maxRecDepth 100000 in
set_option maxHeartbeats 4000000 in
theorem lc_9 (hL : L ≤ 4096) (hc : z_C p s m #[Value.ref b] meth c RL code 4 ret) (hX : va_X b L xs s s.heap) (hbl : b < s.heap.size) (hbA : ¬ z_A G b) (hcs : cells ≤ room_1.cells ∧ slots ≤ room_1.slots) (hj : 8 * j + 8 ≤ L) (hR : z_Rel M) (hI : z_I G s M H locs) (hl : lv_has ls 4 [(0, .ref b), (1, .ref (z_ad G 0 0)), (2, .ref (z_ad G 21 0)), (3, .int (nI (8 * j)))]) (kk : ∀ (M : z_M) (H : Heap) (locs : List Loc) (ls : Array Slot), z_Rel M → z_I G s M H locs → lv_has ls 4 [(0, .ref b), (1, .ref (z_ad G 0 0)), (2, .ref (z_ad G 21 0)), (3, .int (nI (8 * j)))] → W p l e room_1 s m #[Value.ref b] below meth c H locs cells slots Q (F0 m 1520 ls [])) : W p l e room_1 s m #[Value.ref b] below meth c H locs cells slots Q (F0 m 461 ls []) := by
  obtain ⟨⟨hx, hb, hml, hown, hts⟩, hr, hlk⟩ := id hc
  refine lv_aload_n hx hb dL_law_461 rfl (lv_at hl 1 rfl) ?_
  refine lv_aload_n hx hb dL_law_462 rfl (lv_at hl 0 rfl) ?_
  refine lv_iload_n hx hb dL_law_463 rfl (lv_at hl 3 rfl) ?_
  refine lv_iconst (v := 1) hx hb dL_law_464 (by decide) ?_
  refine lv_iadd hx hb dL_law_465 ?_
  refine va_sld hx hb hX hbl hbA hI.2.2.2.1 (z_sin (t := 1) hj (by decide) hL) dL_law_466 ?_
  refine lv_aload_n hx hb dL_law_467 rfl (lv_at hl 0 rfl) ?_
  refine lv_iload_n hx hb dL_law_468 rfl (lv_at hl 3 rfl) ?_
  refine lv_iconst (v := 2) hx hb dL_law_469 (by decide) ?_
  refine lv_iadd hx hb dL_law_470 ?_
  refine va_sld hx hb hX hbl hbA hI.2.2.2.1 (z_sin (t := 2) hj (by decide) hL) dL_law_471 ?_
  obtain ⟨r, N1, N2, e1, e2, hR2⟩ := eq_plane hR (z_xs xs j 1) (z_xs xs j 2)
  refine iv_L_53 hc hI (c_X6_plane e1) (by decide) hl.1 (Nat.le_of_ble_eq_true rfl) hcs dL_law_472 (fun H locs hI => ?_)
  refine lv_aload_n hx hb dL_law_475 rfl (lv_at hl 2 rfl) ?_
  refine lv_aload_n hx hb dL_law_476 rfl (lv_at hl 0 rfl) ?_
  refine lv_iload_n hx hb dL_law_477 rfl (lv_at hl 3 rfl) ?_
  refine lv_iconst (v := 1) hx hb dL_law_478 (by decide) ?_
  refine lv_iadd hx hb dL_law_479 ?_
  refine va_sld hx hb hX hbl hbA hI.2.2.2.1 (z_sin (t := 1) hj (by decide) hL) dL_law_480 ?_
  refine lv_aload_n hx hb dL_law_481 rfl (lv_at hl 0 rfl) ?_
  refine lv_iload_n hx hb dL_law_482 rfl (lv_at hl 3 rfl) ?_
  refine lv_iconst (v := 2) hx hb dL_law_483 (by decide) ?_
  refine lv_iadd hx hb dL_law_484 ?_
  refine va_sld hx hb hX hbl hbA hI.2.2.2.1 (z_sin (t := 2) hj (by decide) hL) dL_law_485 ?_
  refine iv_L_57 hc hI (c_X7_plane e2) (by decide) hl.1 (Nat.le_of_ble_eq_true rfl) hcs dL_law_486 (fun H locs hI => ?_)
  refine lv_icmp_eq (tgt := 1520) hx hb dL_law_489 (by decide) (fun _ => ?_) (fun c1 => absurd rfl c1)
  exact kk N2 H locs ls hR2 hI hl
set_option maxRecDepth 100000 in
set_option maxHeartbeats 4000000 in
theorem lc_10 (hL : L ≤ 4096) (hc : z_C p s m #[Value.ref b] meth c RL code 4 ret) (hX : va_X b L xs s s.heap) (hbl : b < s.heap.size) (hbA : ¬ z_A G b) (hcs : cells ≤ room_1.cells ∧ slots ≤ room_1.slots) (hj : 8 * j + 8 ≤ L) (hR : z_Rel M) (hI : z_I G s M H locs) (hl : lv_has ls 4 [(0, .ref b), (1, .ref (z_ad G 0 0)), (2, .ref (z_ad G 21 0)), (3, .int (nI (8 * j)))]) (kk : ∀ (M : z_M) (H : Heap) (locs : List Loc) (ls : Array Slot), z_Rel M → z_I G s M H locs → lv_has ls 4 [(0, .ref b), (1, .ref (z_ad G 0 0)), (2, .ref (z_ad G 21 0)), (3, .int (nI (8 * j)))] → W p l e room_1 s m #[Value.ref b] below meth c H locs cells slots Q (F0 m 1520 ls [])) : W p l e room_1 s m #[Value.ref b] below meth c H locs cells slots Q (F0 m 494 ls []) := by
  obtain ⟨⟨hx, hb, hml, hown, hts⟩, hr, hlk⟩ := id hc
  refine lv_aload_n hx hb dL_law_494 rfl (lv_at hl 1 rfl) ?_
  refine lv_aload_n hx hb dL_law_495 rfl (lv_at hl 0 rfl) ?_
  refine lv_iload_n hx hb dL_law_496 rfl (lv_at hl 3 rfl) ?_
  refine lv_iconst (v := 1) hx hb dL_law_497 (by decide) ?_
  refine lv_iadd hx hb dL_law_498 ?_
  refine va_sld hx hb hX hbl hbA hI.2.2.2.1 (z_sin (t := 1) hj (by decide) hL) dL_law_499 ?_
  obtain ⟨r, N1, N2, e1, e2, hR2⟩ := eq_reach hR (z_xs xs j 1)
  refine iv_L_58 hc hI (c_X6_reach e1) (by decide) hl.1 (Nat.le_of_ble_eq_true rfl) hcs dL_law_500 (fun H locs hI => ?_)
  refine lv_aload_n hx hb dL_law_503 rfl (lv_at hl 2 rfl) ?_
  refine lv_aload_n hx hb dL_law_504 rfl (lv_at hl 0 rfl) ?_
  refine lv_iload_n hx hb dL_law_505 rfl (lv_at hl 3 rfl) ?_
  refine lv_iconst (v := 1) hx hb dL_law_506 (by decide) ?_
  refine lv_iadd hx hb dL_law_507 ?_
  refine va_sld hx hb hX hbl hbA hI.2.2.2.1 (z_sin (t := 1) hj (by decide) hL) dL_law_508 ?_
  refine iv_L_61 hc hI (c_X7_reach e2) (by decide) hl.1 (Nat.le_of_ble_eq_true rfl) hcs dL_law_509 (fun H locs hI => ?_)
  refine lv_icmp_eq (tgt := 1520) hx hb dL_law_512 (by decide) (fun _ => ?_) (fun c1 => absurd rfl c1)
  exact kk N2 H locs ls hR2 hI hl
set_option maxRecDepth 100000 in
set_option maxHeartbeats 4000000 in
theorem lc_11 (hL : L ≤ 4096) (hc : z_C p s m #[Value.ref b] meth c RL code 4 ret) (hX : va_X b L xs s s.heap) (hbl : b < s.heap.size) (hbA : ¬ z_A G b) (hcs : cells ≤ room_1.cells ∧ slots ≤ room_1.slots) (hj : 8 * j + 8 ≤ L) (hR : z_Rel M) (hI : z_I G s M H locs) (hl : lv_has ls 4 [(0, .ref b), (1, .ref (z_ad G 0 0)), (2, .ref (z_ad G 21 0)), (3, .int (nI (8 * j)))]) (kk : ∀ (M : z_M) (H : Heap) (locs : List Loc) (ls : Array Slot), z_Rel M → z_I G s M H locs → lv_has ls 4 [(0, .ref b), (1, .ref (z_ad G 0 0)), (2, .ref (z_ad G 21 0)), (3, .int (nI (8 * j)))] → W p l e room_1 s m #[Value.ref b] below meth c H locs cells slots Q (F0 m 1520 ls [])) : W p l e room_1 s m #[Value.ref b] below meth c H locs cells slots Q (F0 m 517 ls []) := by
  obtain ⟨⟨hx, hb, hml, hown, hts⟩, hr, hlk⟩ := id hc
  refine lv_aload_n hx hb dL_law_517 rfl (lv_at hl 1 rfl) ?_
  refine lv_aload_n hx hb dL_law_518 rfl (lv_at hl 0 rfl) ?_
  refine lv_iload_n hx hb dL_law_519 rfl (lv_at hl 3 rfl) ?_
  refine lv_iconst (v := 1) hx hb dL_law_520 (by decide) ?_
  refine lv_iadd hx hb dL_law_521 ?_
  refine va_sld hx hb hX hbl hbA hI.2.2.2.1 (z_sin (t := 1) hj (by decide) hL) dL_law_522 ?_
  refine lv_aload_n hx hb dL_law_523 rfl (lv_at hl 0 rfl) ?_
  refine lv_iload_n hx hb dL_law_524 rfl (lv_at hl 3 rfl) ?_
  refine lv_iconst (v := 2) hx hb dL_law_525 (by decide) ?_
  refine lv_iadd hx hb dL_law_526 ?_
  refine va_sld hx hb hX hbl hbA hI.2.2.2.1 (z_sin (t := 2) hj (by decide) hL) dL_law_527 ?_
  refine lv_aload_n hx hb dL_law_528 rfl (lv_at hl 0 rfl) ?_
  refine lv_iload_n hx hb dL_law_529 rfl (lv_at hl 3 rfl) ?_
  refine lv_iconst (v := 3) hx hb dL_law_530 (by decide) ?_
  refine lv_iadd hx hb dL_law_531 ?_
  refine va_sld hx hb hX hbl hbA hI.2.2.2.1 (z_sin (t := 3) hj (by decide) hL) dL_law_532 ?_
  obtain ⟨r, N1, N2, e1, e2, hR2⟩ := eq_way hR (z_xs xs j 1) (z_xs xs j 2) (z_xs xs j 3)
  refine iv_L_62 hc hI (c_X6_way e1) (by decide) hl.1 (Nat.le_of_ble_eq_true rfl) hcs dL_law_533 (fun H locs hI => ?_)
  refine lv_aload_n hx hb dL_law_536 rfl (lv_at hl 2 rfl) ?_
  refine lv_aload_n hx hb dL_law_537 rfl (lv_at hl 0 rfl) ?_
  refine lv_iload_n hx hb dL_law_538 rfl (lv_at hl 3 rfl) ?_
  refine lv_iconst (v := 1) hx hb dL_law_539 (by decide) ?_
  refine lv_iadd hx hb dL_law_540 ?_
  refine va_sld hx hb hX hbl hbA hI.2.2.2.1 (z_sin (t := 1) hj (by decide) hL) dL_law_541 ?_
  refine lv_aload_n hx hb dL_law_542 rfl (lv_at hl 0 rfl) ?_
  refine lv_iload_n hx hb dL_law_543 rfl (lv_at hl 3 rfl) ?_
  refine lv_iconst (v := 2) hx hb dL_law_544 (by decide) ?_
  refine lv_iadd hx hb dL_law_545 ?_
  refine va_sld hx hb hX hbl hbA hI.2.2.2.1 (z_sin (t := 2) hj (by decide) hL) dL_law_546 ?_
  refine lv_aload_n hx hb dL_law_547 rfl (lv_at hl 0 rfl) ?_
  refine lv_iload_n hx hb dL_law_548 rfl (lv_at hl 3 rfl) ?_
  refine lv_iconst (v := 3) hx hb dL_law_549 (by decide) ?_
  refine lv_iadd hx hb dL_law_550 ?_
  refine va_sld hx hb hX hbl hbA hI.2.2.2.1 (z_sin (t := 3) hj (by decide) hL) dL_law_551 ?_
  refine iv_L_65 hc hI (c_X7_way e2) (by decide) hl.1 (Nat.le_of_ble_eq_true rfl) hcs dL_law_552 (fun H locs hI => ?_)
  refine lv_icmp_eq (tgt := 1520) hx hb dL_law_555 (by decide) (fun _ => ?_) (fun c1 => absurd rfl c1)
  exact kk N2 H locs ls hR2 hI hl
set_option maxRecDepth 100000 in
set_option maxHeartbeats 4000000 in
theorem lc_12 (hL : L ≤ 4096) (hc : z_C p s m #[Value.ref b] meth c RL code 4 ret) (hX : va_X b L xs s s.heap) (hbl : b < s.heap.size) (hbA : ¬ z_A G b) (hcs : cells ≤ room_1.cells ∧ slots ≤ room_1.slots) (hj : 8 * j + 8 ≤ L) (hR : z_Rel M) (hI : z_I G s M H locs) (hl : lv_has ls 4 [(0, .ref b), (1, .ref (z_ad G 0 0)), (2, .ref (z_ad G 21 0)), (3, .int (nI (8 * j)))]) (kk : ∀ (M : z_M) (H : Heap) (locs : List Loc) (ls : Array Slot), z_Rel M → z_I G s M H locs → lv_has ls 4 [(0, .ref b), (1, .ref (z_ad G 0 0)), (2, .ref (z_ad G 21 0)), (3, .int (nI (8 * j)))] → W p l e room_1 s m #[Value.ref b] below meth c H locs cells slots Q (F0 m 1520 ls [])) : W p l e room_1 s m #[Value.ref b] below meth c H locs cells slots Q (F0 m 560 ls []) := by
  obtain ⟨⟨hx, hb, hml, hown, hts⟩, hr, hlk⟩ := id hc
  refine lv_aload_n hx hb dL_law_560 rfl (lv_at hl 1 rfl) ?_
  refine lv_aload_n hx hb dL_law_561 rfl (lv_at hl 0 rfl) ?_
  refine lv_iload_n hx hb dL_law_562 rfl (lv_at hl 3 rfl) ?_
  refine lv_iconst (v := 1) hx hb dL_law_563 (by decide) ?_
  refine lv_iadd hx hb dL_law_564 ?_
  refine va_sld hx hb hX hbl hbA hI.2.2.2.1 (z_sin (t := 1) hj (by decide) hL) dL_law_565 ?_
  refine lv_aload_n hx hb dL_law_566 rfl (lv_at hl 0 rfl) ?_
  refine lv_iload_n hx hb dL_law_567 rfl (lv_at hl 3 rfl) ?_
  refine lv_iconst (v := 2) hx hb dL_law_568 (by decide) ?_
  refine lv_iadd hx hb dL_law_569 ?_
  refine va_sld hx hb hX hbl hbA hI.2.2.2.1 (z_sin (t := 2) hj (by decide) hL) dL_law_570 ?_
  refine lv_aload_n hx hb dL_law_571 rfl (lv_at hl 0 rfl) ?_
  refine lv_iload_n hx hb dL_law_572 rfl (lv_at hl 3 rfl) ?_
  refine lv_iconst (v := 3) hx hb dL_law_573 (by decide) ?_
  refine lv_iadd hx hb dL_law_574 ?_
  refine va_sld hx hb hX hbl hbA hI.2.2.2.1 (z_sin (t := 3) hj (by decide) hL) dL_law_575 ?_
  obtain ⟨r, N1, N2, e1, e2, hR2⟩ := eq_gait hR (z_xs xs j 1) (z_xs xs j 2) (z_xs xs j 3)
  refine iv_L_66 hc hI (c_X6_gait e1) (by decide) hl.1 (Nat.le_of_ble_eq_true rfl) hcs dL_law_576 (fun H locs hI => ?_)
  refine lv_aload_n hx hb dL_law_579 rfl (lv_at hl 2 rfl) ?_
  refine lv_aload_n hx hb dL_law_580 rfl (lv_at hl 0 rfl) ?_
  refine lv_iload_n hx hb dL_law_581 rfl (lv_at hl 3 rfl) ?_
  refine lv_iconst (v := 1) hx hb dL_law_582 (by decide) ?_
  refine lv_iadd hx hb dL_law_583 ?_
  refine va_sld hx hb hX hbl hbA hI.2.2.2.1 (z_sin (t := 1) hj (by decide) hL) dL_law_584 ?_
  refine lv_aload_n hx hb dL_law_585 rfl (lv_at hl 0 rfl) ?_
  refine lv_iload_n hx hb dL_law_586 rfl (lv_at hl 3 rfl) ?_
  refine lv_iconst (v := 2) hx hb dL_law_587 (by decide) ?_
  refine lv_iadd hx hb dL_law_588 ?_
  refine va_sld hx hb hX hbl hbA hI.2.2.2.1 (z_sin (t := 2) hj (by decide) hL) dL_law_589 ?_
  refine lv_aload_n hx hb dL_law_590 rfl (lv_at hl 0 rfl) ?_
  refine lv_iload_n hx hb dL_law_591 rfl (lv_at hl 3 rfl) ?_
  refine lv_iconst (v := 3) hx hb dL_law_592 (by decide) ?_
  refine lv_iadd hx hb dL_law_593 ?_
  refine va_sld hx hb hX hbl hbA hI.2.2.2.1 (z_sin (t := 3) hj (by decide) hL) dL_law_594 ?_
  refine iv_L_69 hc hI (c_X7_gait e2) (by decide) hl.1 (Nat.le_of_ble_eq_true rfl) hcs dL_law_595 (fun H locs hI => ?_)
  refine lv_icmp_eq (tgt := 1520) hx hb dL_law_598 (by decide) (fun _ => ?_) (fun c1 => absurd rfl c1)
  exact kk N2 H locs ls hR2 hI hl
set_option maxRecDepth 100000 in
set_option maxHeartbeats 4000000 in
theorem lc_13 (hL : L ≤ 4096) (hc : z_C p s m #[Value.ref b] meth c RL code 4 ret) (hX : va_X b L xs s s.heap) (hbl : b < s.heap.size) (hbA : ¬ z_A G b) (hcs : cells ≤ room_1.cells ∧ slots ≤ room_1.slots) (hj : 8 * j + 8 ≤ L) (hR : z_Rel M) (hI : z_I G s M H locs) (hl : lv_has ls 4 [(0, .ref b), (1, .ref (z_ad G 0 0)), (2, .ref (z_ad G 21 0)), (3, .int (nI (8 * j)))]) (kk : ∀ (M : z_M) (H : Heap) (locs : List Loc) (ls : Array Slot), z_Rel M → z_I G s M H locs → lv_has ls 4 [(0, .ref b), (1, .ref (z_ad G 0 0)), (2, .ref (z_ad G 21 0)), (3, .int (nI (8 * j)))] → W p l e room_1 s m #[Value.ref b] below meth c H locs cells slots Q (F0 m 1520 ls [])) : W p l e room_1 s m #[Value.ref b] below meth c H locs cells slots Q (F0 m 603 ls []) := by
  obtain ⟨⟨hx, hb, hml, hown, hts⟩, hr, hlk⟩ := id hc
  refine lv_aload_n hx hb dL_law_603 rfl (lv_at hl 1 rfl) ?_
  refine lv_aload_n hx hb dL_law_604 rfl (lv_at hl 0 rfl) ?_
  refine lv_iload_n hx hb dL_law_605 rfl (lv_at hl 3 rfl) ?_
  refine lv_iconst (v := 1) hx hb dL_law_606 (by decide) ?_
  refine lv_iadd hx hb dL_law_607 ?_
  refine va_sld hx hb hX hbl hbA hI.2.2.2.1 (z_sin (t := 1) hj (by decide) hL) dL_law_608 ?_
  refine lv_aload_n hx hb dL_law_609 rfl (lv_at hl 0 rfl) ?_
  refine lv_iload_n hx hb dL_law_610 rfl (lv_at hl 3 rfl) ?_
  refine lv_iconst (v := 2) hx hb dL_law_611 (by decide) ?_
  refine lv_iadd hx hb dL_law_612 ?_
  refine va_sld hx hb hX hbl hbA hI.2.2.2.1 (z_sin (t := 2) hj (by decide) hL) dL_law_613 ?_
  obtain ⟨r, e1, e2⟩ := eq_tread hR (z_xs xs j 1) (z_xs xs j 2)
  refine iv_L_70 hc hI (c_X6_tread e1) (by decide) hl.1 (Nat.le_of_ble_eq_true rfl) hcs dL_law_614 (fun H locs hI => ?_)
  refine lv_aload_n hx hb dL_law_617 rfl (lv_at hl 2 rfl) ?_
  refine lv_aload_n hx hb dL_law_618 rfl (lv_at hl 0 rfl) ?_
  refine lv_iload_n hx hb dL_law_619 rfl (lv_at hl 3 rfl) ?_
  refine lv_iconst (v := 1) hx hb dL_law_620 (by decide) ?_
  refine lv_iadd hx hb dL_law_621 ?_
  refine va_sld hx hb hX hbl hbA hI.2.2.2.1 (z_sin (t := 1) hj (by decide) hL) dL_law_622 ?_
  refine lv_aload_n hx hb dL_law_623 rfl (lv_at hl 0 rfl) ?_
  refine lv_iload_n hx hb dL_law_624 rfl (lv_at hl 3 rfl) ?_
  refine lv_iconst (v := 2) hx hb dL_law_625 (by decide) ?_
  refine lv_iadd hx hb dL_law_626 ?_
  refine va_sld hx hb hX hbl hbA hI.2.2.2.1 (z_sin (t := 2) hj (by decide) hL) dL_law_627 ?_
  refine iv_L_73 hc hI (c_X7_tread e2) (by decide) hl.1 (Nat.le_of_ble_eq_true rfl) hcs dL_law_628 (fun H locs hI => ?_)
  refine lv_icmp_eq (tgt := 1520) hx hb dL_law_631 (by decide) (fun _ => ?_) (fun c1 => absurd rfl c1)
  exact kk M H locs ls hR hI hl
set_option maxRecDepth 100000 in
set_option maxHeartbeats 4000000 in
theorem lc_14 (hL : L ≤ 4096) (hc : z_C p s m #[Value.ref b] meth c RL code 4 ret) (hX : va_X b L xs s s.heap) (hbl : b < s.heap.size) (hbA : ¬ z_A G b) (hcs : cells ≤ room_1.cells ∧ slots ≤ room_1.slots) (hj : 8 * j + 8 ≤ L) (hR : z_Rel M) (hI : z_I G s M H locs) (hl : lv_has ls 4 [(0, .ref b), (1, .ref (z_ad G 0 0)), (2, .ref (z_ad G 21 0)), (3, .int (nI (8 * j)))]) (kk : ∀ (M : z_M) (H : Heap) (locs : List Loc) (ls : Array Slot), z_Rel M → z_I G s M H locs → lv_has ls 4 [(0, .ref b), (1, .ref (z_ad G 0 0)), (2, .ref (z_ad G 21 0)), (3, .int (nI (8 * j)))] → W p l e room_1 s m #[Value.ref b] below meth c H locs cells slots Q (F0 m 1520 ls [])) : W p l e room_1 s m #[Value.ref b] below meth c H locs cells slots Q (F0 m 636 ls []) := by
  obtain ⟨⟨hx, hb, hml, hown, hts⟩, hr, hlk⟩ := id hc
  refine lv_aload_n hx hb dL_law_636 rfl (lv_at hl 1 rfl) ?_
  refine lv_aload_n hx hb dL_law_637 rfl (lv_at hl 0 rfl) ?_
  refine lv_iload_n hx hb dL_law_638 rfl (lv_at hl 3 rfl) ?_
  refine lv_iconst (v := 1) hx hb dL_law_639 (by decide) ?_
  refine lv_iadd hx hb dL_law_640 ?_
  refine va_sld hx hb hX hbl hbA hI.2.2.2.1 (z_sin (t := 1) hj (by decide) hL) dL_law_641 ?_
  refine lv_aload_n hx hb dL_law_642 rfl (lv_at hl 0 rfl) ?_
  refine lv_iload_n hx hb dL_law_643 rfl (lv_at hl 3 rfl) ?_
  refine lv_iconst (v := 2) hx hb dL_law_644 (by decide) ?_
  refine lv_iadd hx hb dL_law_645 ?_
  refine va_sld hx hb hX hbl hbA hI.2.2.2.1 (z_sin (t := 2) hj (by decide) hL) dL_law_646 ?_
  obtain ⟨r, e1, e2⟩ := eq_walker hR (z_xs xs j 1) (z_xs xs j 2)
  refine iv_L_74 hc hI (c_X6_walker e1) (by decide) hl.1 (Nat.le_of_ble_eq_true rfl) hcs dL_law_647 (fun H locs hI => ?_)
  refine lv_aload_n hx hb dL_law_650 rfl (lv_at hl 2 rfl) ?_
  refine lv_aload_n hx hb dL_law_651 rfl (lv_at hl 0 rfl) ?_
  refine lv_iload_n hx hb dL_law_652 rfl (lv_at hl 3 rfl) ?_
  refine lv_iconst (v := 1) hx hb dL_law_653 (by decide) ?_
  refine lv_iadd hx hb dL_law_654 ?_
  refine va_sld hx hb hX hbl hbA hI.2.2.2.1 (z_sin (t := 1) hj (by decide) hL) dL_law_655 ?_
  refine lv_aload_n hx hb dL_law_656 rfl (lv_at hl 0 rfl) ?_
  refine lv_iload_n hx hb dL_law_657 rfl (lv_at hl 3 rfl) ?_
  refine lv_iconst (v := 2) hx hb dL_law_658 (by decide) ?_
  refine lv_iadd hx hb dL_law_659 ?_
  refine va_sld hx hb hX hbl hbA hI.2.2.2.1 (z_sin (t := 2) hj (by decide) hL) dL_law_660 ?_
  refine iv_L_77 hc hI (c_X7_walker e2) (by decide) hl.1 (Nat.le_of_ble_eq_true rfl) hcs dL_law_661 (fun H locs hI => ?_)
  refine lv_icmp_eq (tgt := 1520) hx hb dL_law_664 (by decide) (fun _ => ?_) (fun c1 => absurd rfl c1)
  exact kk M H locs ls hR hI hl
set_option maxRecDepth 100000 in
set_option maxHeartbeats 4000000 in
theorem lc_15 (hL : L ≤ 4096) (hc : z_C p s m #[Value.ref b] meth c RL code 4 ret) (hX : va_X b L xs s s.heap) (hbl : b < s.heap.size) (hbA : ¬ z_A G b) (hcs : cells ≤ room_1.cells ∧ slots ≤ room_1.slots) (hj : 8 * j + 8 ≤ L) (hR : z_Rel M) (hI : z_I G s M H locs) (hl : lv_has ls 4 [(0, .ref b), (1, .ref (z_ad G 0 0)), (2, .ref (z_ad G 21 0)), (3, .int (nI (8 * j)))]) (kk : ∀ (M : z_M) (H : Heap) (locs : List Loc) (ls : Array Slot), z_Rel M → z_I G s M H locs → lv_has ls 4 [(0, .ref b), (1, .ref (z_ad G 0 0)), (2, .ref (z_ad G 21 0)), (3, .int (nI (8 * j)))] → W p l e room_1 s m #[Value.ref b] below meth c H locs cells slots Q (F0 m 1520 ls [])) : W p l e room_1 s m #[Value.ref b] below meth c H locs cells slots Q (F0 m 669 ls []) := by
  obtain ⟨⟨hx, hb, hml, hown, hts⟩, hr, hlk⟩ := id hc
  refine lv_aload_n hx hb dL_law_669 rfl (lv_at hl 1 rfl) ?_
  refine lv_aload_n hx hb dL_law_670 rfl (lv_at hl 0 rfl) ?_
  refine lv_iload_n hx hb dL_law_671 rfl (lv_at hl 3 rfl) ?_
  refine lv_iconst (v := 1) hx hb dL_law_672 (by decide) ?_
  refine lv_iadd hx hb dL_law_673 ?_
  refine va_sld hx hb hX hbl hbA hI.2.2.2.1 (z_sin (t := 1) hj (by decide) hL) dL_law_674 ?_
  refine lv_aload_n hx hb dL_law_675 rfl (lv_at hl 0 rfl) ?_
  refine lv_iload_n hx hb dL_law_676 rfl (lv_at hl 3 rfl) ?_
  refine lv_iconst (v := 2) hx hb dL_law_677 (by decide) ?_
  refine lv_iadd hx hb dL_law_678 ?_
  refine va_sld hx hb hX hbl hbA hI.2.2.2.1 (z_sin (t := 2) hj (by decide) hL) dL_law_679 ?_
  obtain ⟨r, e1, e2⟩ := eq_tune hR (z_xs xs j 1) (z_xs xs j 2)
  refine iv_L_78 hc hI (c_X6_tune e1) (by decide) hl.1 (Nat.le_of_ble_eq_true rfl) hcs dL_law_680 (fun H locs hI => ?_)
  refine lv_aload_n hx hb dL_law_683 rfl (lv_at hl 2 rfl) ?_
  refine lv_aload_n hx hb dL_law_684 rfl (lv_at hl 0 rfl) ?_
  refine lv_iload_n hx hb dL_law_685 rfl (lv_at hl 3 rfl) ?_
  refine lv_iconst (v := 1) hx hb dL_law_686 (by decide) ?_
  refine lv_iadd hx hb dL_law_687 ?_
  refine va_sld hx hb hX hbl hbA hI.2.2.2.1 (z_sin (t := 1) hj (by decide) hL) dL_law_688 ?_
  refine lv_aload_n hx hb dL_law_689 rfl (lv_at hl 0 rfl) ?_
  refine lv_iload_n hx hb dL_law_690 rfl (lv_at hl 3 rfl) ?_
  refine lv_iconst (v := 2) hx hb dL_law_691 (by decide) ?_
  refine lv_iadd hx hb dL_law_692 ?_
  refine va_sld hx hb hX hbl hbA hI.2.2.2.1 (z_sin (t := 2) hj (by decide) hL) dL_law_693 ?_
  refine iv_L_81 hc hI (c_X7_tune e2) (by decide) hl.1 (Nat.le_of_ble_eq_true rfl) hcs dL_law_694 (fun H locs hI => ?_)
  refine lv_icmp_eq (tgt := 1520) hx hb dL_law_697 (by decide) (fun _ => ?_) (fun c1 => absurd rfl c1)
  exact kk M H locs ls hR hI hl
set_option maxRecDepth 100000 in
set_option maxHeartbeats 4000000 in
theorem lc_16 (hL : L ≤ 4096) (hc : z_C p s m #[Value.ref b] meth c RL code 4 ret) (hX : va_X b L xs s s.heap) (hbl : b < s.heap.size) (hbA : ¬ z_A G b) (hcs : cells ≤ room_1.cells ∧ slots ≤ room_1.slots) (hj : 8 * j + 8 ≤ L) (hR : z_Rel M) (hI : z_I G s M H locs) (hl : lv_has ls 4 [(0, .ref b), (1, .ref (z_ad G 0 0)), (2, .ref (z_ad G 21 0)), (3, .int (nI (8 * j)))]) (kk : ∀ (M : z_M) (H : Heap) (locs : List Loc) (ls : Array Slot), z_Rel M → z_I G s M H locs → lv_has ls 4 [(0, .ref b), (1, .ref (z_ad G 0 0)), (2, .ref (z_ad G 21 0)), (3, .int (nI (8 * j)))] → W p l e room_1 s m #[Value.ref b] below meth c H locs cells slots Q (F0 m 1520 ls [])) : W p l e room_1 s m #[Value.ref b] below meth c H locs cells slots Q (F0 m 702 ls []) := by
  obtain ⟨⟨hx, hb, hml, hown, hts⟩, hr, hlk⟩ := id hc
  refine lv_aload_n hx hb dL_law_702 rfl (lv_at hl 1 rfl) ?_
  refine lv_aload_n hx hb dL_law_703 rfl (lv_at hl 0 rfl) ?_
  refine lv_iload_n hx hb dL_law_704 rfl (lv_at hl 3 rfl) ?_
  refine lv_iconst (v := 1) hx hb dL_law_705 (by decide) ?_
  refine lv_iadd hx hb dL_law_706 ?_
  refine va_sld hx hb hX hbl hbA hI.2.2.2.1 (z_sin (t := 1) hj (by decide) hL) dL_law_707 ?_
  refine lv_aload_n hx hb dL_law_708 rfl (lv_at hl 0 rfl) ?_
  refine lv_iload_n hx hb dL_law_709 rfl (lv_at hl 3 rfl) ?_
  refine lv_iconst (v := 2) hx hb dL_law_710 (by decide) ?_
  refine lv_iadd hx hb dL_law_711 ?_
  refine va_sld hx hb hX hbl hbA hI.2.2.2.1 (z_sin (t := 2) hj (by decide) hL) dL_law_712 ?_
  obtain ⟨r, e1, e2⟩ := eq_where hR (z_xs xs j 1) (z_xs xs j 2)
  refine iv_L_82 hc hI (c_X6_where e1) (by decide) hl.1 (Nat.le_of_ble_eq_true rfl) hcs dL_law_713 (fun H locs hI => ?_)
  refine lv_aload_n hx hb dL_law_716 rfl (lv_at hl 2 rfl) ?_
  refine lv_aload_n hx hb dL_law_717 rfl (lv_at hl 0 rfl) ?_
  refine lv_iload_n hx hb dL_law_718 rfl (lv_at hl 3 rfl) ?_
  refine lv_iconst (v := 1) hx hb dL_law_719 (by decide) ?_
  refine lv_iadd hx hb dL_law_720 ?_
  refine va_sld hx hb hX hbl hbA hI.2.2.2.1 (z_sin (t := 1) hj (by decide) hL) dL_law_721 ?_
  refine lv_aload_n hx hb dL_law_722 rfl (lv_at hl 0 rfl) ?_
  refine lv_iload_n hx hb dL_law_723 rfl (lv_at hl 3 rfl) ?_
  refine lv_iconst (v := 2) hx hb dL_law_724 (by decide) ?_
  refine lv_iadd hx hb dL_law_725 ?_
  refine va_sld hx hb hX hbl hbA hI.2.2.2.1 (z_sin (t := 2) hj (by decide) hL) dL_law_726 ?_
  refine iv_L_85 hc hI (c_X7_where e2) (by decide) hl.1 (Nat.le_of_ble_eq_true rfl) hcs dL_law_727 (fun H locs hI => ?_)
  refine lv_icmp_eq (tgt := 1520) hx hb dL_law_730 (by decide) (fun _ => ?_) (fun c1 => absurd rfl c1)
  exact kk M H locs ls hR hI hl
set_option maxRecDepth 100000 in
set_option maxHeartbeats 4000000 in
theorem lc_17 (hL : L ≤ 4096) (hc : z_C p s m #[Value.ref b] meth c RL code 4 ret) (hX : va_X b L xs s s.heap) (hbl : b < s.heap.size) (hbA : ¬ z_A G b) (hcs : cells ≤ room_1.cells ∧ slots ≤ room_1.slots) (hj : 8 * j + 8 ≤ L) (hR : z_Rel M) (hI : z_I G s M H locs) (hl : lv_has ls 4 [(0, .ref b), (1, .ref (z_ad G 0 0)), (2, .ref (z_ad G 21 0)), (3, .int (nI (8 * j)))]) (kk : ∀ (M : z_M) (H : Heap) (locs : List Loc) (ls : Array Slot), z_Rel M → z_I G s M H locs → lv_has ls 4 [(0, .ref b), (1, .ref (z_ad G 0 0)), (2, .ref (z_ad G 21 0)), (3, .int (nI (8 * j)))] → W p l e room_1 s m #[Value.ref b] below meth c H locs cells slots Q (F0 m 1520 ls [])) : W p l e room_1 s m #[Value.ref b] below meth c H locs cells slots Q (F0 m 735 ls []) := by
  obtain ⟨⟨hx, hb, hml, hown, hts⟩, hr, hlk⟩ := id hc
  refine lv_aload_n hx hb dL_law_735 rfl (lv_at hl 1 rfl) ?_
  refine lv_aload_n hx hb dL_law_736 rfl (lv_at hl 0 rfl) ?_
  refine lv_iload_n hx hb dL_law_737 rfl (lv_at hl 3 rfl) ?_
  refine lv_iconst (v := 1) hx hb dL_law_738 (by decide) ?_
  refine lv_iadd hx hb dL_law_739 ?_
  refine va_sld hx hb hX hbl hbA hI.2.2.2.1 (z_sin (t := 1) hj (by decide) hL) dL_law_740 ?_
  refine lv_aload_n hx hb dL_law_741 rfl (lv_at hl 0 rfl) ?_
  refine lv_iload_n hx hb dL_law_742 rfl (lv_at hl 3 rfl) ?_
  refine lv_iconst (v := 2) hx hb dL_law_743 (by decide) ?_
  refine lv_iadd hx hb dL_law_744 ?_
  refine va_sld hx hb hX hbl hbA hI.2.2.2.1 (z_sin (t := 2) hj (by decide) hL) dL_law_745 ?_
  obtain ⟨r, e1, e2⟩ := eq_heard hR (z_xs xs j 1) (z_xs xs j 2)
  refine iv_L_86 hc hI (c_X6_heard e1) (by decide) hl.1 (Nat.le_of_ble_eq_true rfl) hcs dL_law_746 (fun H locs hI => ?_)
  refine lv_aload_n hx hb dL_law_749 rfl (lv_at hl 2 rfl) ?_
  refine lv_aload_n hx hb dL_law_750 rfl (lv_at hl 0 rfl) ?_
  refine lv_iload_n hx hb dL_law_751 rfl (lv_at hl 3 rfl) ?_
  refine lv_iconst (v := 1) hx hb dL_law_752 (by decide) ?_
  refine lv_iadd hx hb dL_law_753 ?_
  refine va_sld hx hb hX hbl hbA hI.2.2.2.1 (z_sin (t := 1) hj (by decide) hL) dL_law_754 ?_
  refine lv_aload_n hx hb dL_law_755 rfl (lv_at hl 0 rfl) ?_
  refine lv_iload_n hx hb dL_law_756 rfl (lv_at hl 3 rfl) ?_
  refine lv_iconst (v := 2) hx hb dL_law_757 (by decide) ?_
  refine lv_iadd hx hb dL_law_758 ?_
  refine va_sld hx hb hX hbl hbA hI.2.2.2.1 (z_sin (t := 2) hj (by decide) hL) dL_law_759 ?_
  refine iv_L_89 hc hI (c_X7_heard e2) (by decide) hl.1 (Nat.le_of_ble_eq_true rfl) hcs dL_law_760 (fun H locs hI => ?_)
  refine lv_icmp_eq (tgt := 1520) hx hb dL_law_763 (by decide) (fun _ => ?_) (fun c1 => absurd rfl c1)
  exact kk M H locs ls hR hI hl
set_option maxRecDepth 100000 in
set_option maxHeartbeats 4000000 in
theorem lc_18 (hL : L ≤ 4096) (hc : z_C p s m #[Value.ref b] meth c RL code 4 ret) (hX : va_X b L xs s s.heap) (hbl : b < s.heap.size) (hbA : ¬ z_A G b) (hcs : cells ≤ room_1.cells ∧ slots ≤ room_1.slots) (hj : 8 * j + 8 ≤ L) (hR : z_Rel M) (hI : z_I G s M H locs) (hl : lv_has ls 4 [(0, .ref b), (1, .ref (z_ad G 0 0)), (2, .ref (z_ad G 21 0)), (3, .int (nI (8 * j)))]) (kk : ∀ (M : z_M) (H : Heap) (locs : List Loc) (ls : Array Slot), z_Rel M → z_I G s M H locs → lv_has ls 4 [(0, .ref b), (1, .ref (z_ad G 0 0)), (2, .ref (z_ad G 21 0)), (3, .int (nI (8 * j)))] → W p l e room_1 s m #[Value.ref b] below meth c H locs cells slots Q (F0 m 1520 ls [])) : W p l e room_1 s m #[Value.ref b] below meth c H locs cells slots Q (F0 m 768 ls []) := by
  obtain ⟨⟨hx, hb, hml, hown, hts⟩, hr, hlk⟩ := id hc
  refine lv_aload_n hx hb dL_law_768 rfl (lv_at hl 1 rfl) ?_
  refine lv_aload_n hx hb dL_law_769 rfl (lv_at hl 0 rfl) ?_
  refine lv_iload_n hx hb dL_law_770 rfl (lv_at hl 3 rfl) ?_
  refine lv_iconst (v := 1) hx hb dL_law_771 (by decide) ?_
  refine lv_iadd hx hb dL_law_772 ?_
  refine va_sld hx hb hX hbl hbA hI.2.2.2.1 (z_sin (t := 1) hj (by decide) hL) dL_law_773 ?_
  refine lv_aload_n hx hb dL_law_774 rfl (lv_at hl 0 rfl) ?_
  refine lv_iload_n hx hb dL_law_775 rfl (lv_at hl 3 rfl) ?_
  refine lv_iconst (v := 2) hx hb dL_law_776 (by decide) ?_
  refine lv_iadd hx hb dL_law_777 ?_
  refine va_sld hx hb hX hbl hbA hI.2.2.2.1 (z_sin (t := 2) hj (by decide) hL) dL_law_778 ?_
  refine lv_aload_n hx hb dL_law_779 rfl (lv_at hl 0 rfl) ?_
  refine lv_iload_n hx hb dL_law_780 rfl (lv_at hl 3 rfl) ?_
  refine lv_iconst (v := 3) hx hb dL_law_781 (by decide) ?_
  refine lv_iadd hx hb dL_law_782 ?_
  refine va_sld hx hb hX hbl hbA hI.2.2.2.1 (z_sin (t := 3) hj (by decide) hL) dL_law_783 ?_
  obtain ⟨r, N1, N2, e1, e2, hR2⟩ := eq_ahead hR (z_xs xs j 1) (z_xs xs j 2) (z_xs xs j 3)
  refine iv_L_90 hc hI (c_X6_ahead e1) (by decide) hl.1 (Nat.le_of_ble_eq_true rfl) hcs dL_law_784 (fun H locs hI => ?_)
  refine lv_aload_n hx hb dL_law_787 rfl (lv_at hl 2 rfl) ?_
  refine lv_aload_n hx hb dL_law_788 rfl (lv_at hl 0 rfl) ?_
  refine lv_iload_n hx hb dL_law_789 rfl (lv_at hl 3 rfl) ?_
  refine lv_iconst (v := 1) hx hb dL_law_790 (by decide) ?_
  refine lv_iadd hx hb dL_law_791 ?_
  refine va_sld hx hb hX hbl hbA hI.2.2.2.1 (z_sin (t := 1) hj (by decide) hL) dL_law_792 ?_
  refine lv_aload_n hx hb dL_law_793 rfl (lv_at hl 0 rfl) ?_
  refine lv_iload_n hx hb dL_law_794 rfl (lv_at hl 3 rfl) ?_
  refine lv_iconst (v := 2) hx hb dL_law_795 (by decide) ?_
  refine lv_iadd hx hb dL_law_796 ?_
  refine va_sld hx hb hX hbl hbA hI.2.2.2.1 (z_sin (t := 2) hj (by decide) hL) dL_law_797 ?_
  refine lv_aload_n hx hb dL_law_798 rfl (lv_at hl 0 rfl) ?_
  refine lv_iload_n hx hb dL_law_799 rfl (lv_at hl 3 rfl) ?_
  refine lv_iconst (v := 3) hx hb dL_law_800 (by decide) ?_
  refine lv_iadd hx hb dL_law_801 ?_
  refine va_sld hx hb hX hbl hbA hI.2.2.2.1 (z_sin (t := 3) hj (by decide) hL) dL_law_802 ?_
  refine iv_L_93 hc hI (c_X7_ahead e2) (by decide) hl.1 (Nat.le_of_ble_eq_true rfl) hcs dL_law_803 (fun H locs hI => ?_)
  refine lv_icmp_eq (tgt := 1520) hx hb dL_law_806 (by decide) (fun _ => ?_) (fun c1 => absurd rfl c1)
  exact kk N2 H locs ls hR2 hI hl
set_option maxRecDepth 100000 in
set_option maxHeartbeats 4000000 in
theorem lc_19 (hL : L ≤ 4096) (hc : z_C p s m #[Value.ref b] meth c RL code 4 ret) (hX : va_X b L xs s s.heap) (hbl : b < s.heap.size) (hbA : ¬ z_A G b) (hcs : cells ≤ room_1.cells ∧ slots ≤ room_1.slots) (hj : 8 * j + 8 ≤ L) (hR : z_Rel M) (hI : z_I G s M H locs) (hl : lv_has ls 4 [(0, .ref b), (1, .ref (z_ad G 0 0)), (2, .ref (z_ad G 21 0)), (3, .int (nI (8 * j)))]) (kk : ∀ (M : z_M) (H : Heap) (locs : List Loc) (ls : Array Slot), z_Rel M → z_I G s M H locs → lv_has ls 4 [(0, .ref b), (1, .ref (z_ad G 0 0)), (2, .ref (z_ad G 21 0)), (3, .int (nI (8 * j)))] → W p l e room_1 s m #[Value.ref b] below meth c H locs cells slots Q (F0 m 1520 ls [])) : W p l e room_1 s m #[Value.ref b] below meth c H locs cells slots Q (F0 m 811 ls []) := by
  obtain ⟨⟨hx, hb, hml, hown, hts⟩, hr, hlk⟩ := id hc
  refine lv_aload_n hx hb dL_law_811 rfl (lv_at hl 1 rfl) ?_
  refine lv_aload_n hx hb dL_law_812 rfl (lv_at hl 0 rfl) ?_
  refine lv_iload_n hx hb dL_law_813 rfl (lv_at hl 3 rfl) ?_
  refine lv_iconst (v := 1) hx hb dL_law_814 (by decide) ?_
  refine lv_iadd hx hb dL_law_815 ?_
  refine va_sld hx hb hX hbl hbA hI.2.2.2.1 (z_sin (t := 1) hj (by decide) hL) dL_law_816 ?_
  obtain ⟨r, e1, e2⟩ := eq_length hR (z_xs xs j 1)
  refine iv_L_94 hc hI (c_X6_length e1) (by decide) hl.1 (Nat.le_of_ble_eq_true rfl) hcs dL_law_817 (fun H locs hI => ?_)
  refine lv_aload_n hx hb dL_law_820 rfl (lv_at hl 2 rfl) ?_
  refine lv_aload_n hx hb dL_law_821 rfl (lv_at hl 0 rfl) ?_
  refine lv_iload_n hx hb dL_law_822 rfl (lv_at hl 3 rfl) ?_
  refine lv_iconst (v := 1) hx hb dL_law_823 (by decide) ?_
  refine lv_iadd hx hb dL_law_824 ?_
  refine va_sld hx hb hX hbl hbA hI.2.2.2.1 (z_sin (t := 1) hj (by decide) hL) dL_law_825 ?_
  refine iv_L_97 hc hI (c_X7_length e2) (by decide) hl.1 (Nat.le_of_ble_eq_true rfl) hcs dL_law_826 (fun H locs hI => ?_)
  refine lv_icmp_eq (tgt := 1520) hx hb dL_law_829 (by decide) (fun _ => ?_) (fun c1 => absurd rfl c1)
  exact kk M H locs ls hR hI hl
set_option maxRecDepth 100000 in
set_option maxHeartbeats 4000000 in
theorem lc_20 (hL : L ≤ 4096) (hc : z_C p s m #[Value.ref b] meth c RL code 4 ret) (hX : va_X b L xs s s.heap) (hbl : b < s.heap.size) (hbA : ¬ z_A G b) (hcs : cells ≤ room_1.cells ∧ slots ≤ room_1.slots) (hj : 8 * j + 8 ≤ L) (hR : z_Rel M) (hI : z_I G s M H locs) (hl : lv_has ls 4 [(0, .ref b), (1, .ref (z_ad G 0 0)), (2, .ref (z_ad G 21 0)), (3, .int (nI (8 * j)))]) (kk : ∀ (M : z_M) (H : Heap) (locs : List Loc) (ls : Array Slot), z_Rel M → z_I G s M H locs → lv_has ls 4 [(0, .ref b), (1, .ref (z_ad G 0 0)), (2, .ref (z_ad G 21 0)), (3, .int (nI (8 * j)))] → W p l e room_1 s m #[Value.ref b] below meth c H locs cells slots Q (F0 m 1520 ls [])) : W p l e room_1 s m #[Value.ref b] below meth c H locs cells slots Q (F0 m 834 ls []) := by
  obtain ⟨⟨hx, hb, hml, hown, hts⟩, hr, hlk⟩ := id hc
  refine lv_aload_n hx hb dL_law_834 rfl (lv_at hl 1 rfl) ?_
  refine lv_aload_n hx hb dL_law_835 rfl (lv_at hl 0 rfl) ?_
  refine lv_iload_n hx hb dL_law_836 rfl (lv_at hl 3 rfl) ?_
  refine lv_iconst (v := 1) hx hb dL_law_837 (by decide) ?_
  refine lv_iadd hx hb dL_law_838 ?_
  refine va_sld hx hb hX hbl hbA hI.2.2.2.1 (z_sin (t := 1) hj (by decide) hL) dL_law_839 ?_
  refine lv_aload_n hx hb dL_law_840 rfl (lv_at hl 0 rfl) ?_
  refine lv_iload_n hx hb dL_law_841 rfl (lv_at hl 3 rfl) ?_
  refine lv_iconst (v := 2) hx hb dL_law_842 (by decide) ?_
  refine lv_iadd hx hb dL_law_843 ?_
  refine va_sld hx hb hX hbl hbA hI.2.2.2.1 (z_sin (t := 2) hj (by decide) hL) dL_law_844 ?_
  obtain ⟨r, N1, e1, e2, hR2⟩ := eq_meet hR (z_xs xs j 1) (z_xs xs j 2)
  refine iv_L_98 hc hI (c_X6_meet e1) (by decide) hl.1 (Nat.le_of_ble_eq_true rfl) hcs dL_law_845 (fun H locs hI => ?_)
  refine lv_aload_n hx hb dL_law_848 rfl (lv_at hl 2 rfl) ?_
  refine lv_aload_n hx hb dL_law_849 rfl (lv_at hl 0 rfl) ?_
  refine lv_iload_n hx hb dL_law_850 rfl (lv_at hl 3 rfl) ?_
  refine lv_iconst (v := 1) hx hb dL_law_851 (by decide) ?_
  refine lv_iadd hx hb dL_law_852 ?_
  refine va_sld hx hb hX hbl hbA hI.2.2.2.1 (z_sin (t := 1) hj (by decide) hL) dL_law_853 ?_
  refine lv_aload_n hx hb dL_law_854 rfl (lv_at hl 0 rfl) ?_
  refine lv_iload_n hx hb dL_law_855 rfl (lv_at hl 3 rfl) ?_
  refine lv_iconst (v := 2) hx hb dL_law_856 (by decide) ?_
  refine lv_iadd hx hb dL_law_857 ?_
  refine va_sld hx hb hX hbl hbA hI.2.2.2.1 (z_sin (t := 2) hj (by decide) hL) dL_law_858 ?_
  refine iv_L_101 hc hI (c_X7_meet e2) (by decide) hl.1 (Nat.le_of_ble_eq_true rfl) hcs dL_law_859 (fun H locs hI => ?_)
  refine lv_icmp_eq (tgt := 1520) hx hb dL_law_862 (by decide) (fun _ => ?_) (fun c1 => absurd rfl c1)
  exact kk N1 H locs ls hR2 hI hl
set_option maxRecDepth 100000 in
set_option maxHeartbeats 4000000 in
theorem lc_21 (hL : L ≤ 4096) (hc : z_C p s m #[Value.ref b] meth c RL code 4 ret) (hX : va_X b L xs s s.heap) (hbl : b < s.heap.size) (hbA : ¬ z_A G b) (hcs : cells ≤ room_1.cells ∧ slots ≤ room_1.slots) (hj : 8 * j + 8 ≤ L) (hR : z_Rel M) (hI : z_I G s M H locs) (hl : lv_has ls 4 [(0, .ref b), (1, .ref (z_ad G 0 0)), (2, .ref (z_ad G 21 0)), (3, .int (nI (8 * j)))]) (kk : ∀ (M : z_M) (H : Heap) (locs : List Loc) (ls : Array Slot), z_Rel M → z_I G s M H locs → lv_has ls 4 [(0, .ref b), (1, .ref (z_ad G 0 0)), (2, .ref (z_ad G 21 0)), (3, .int (nI (8 * j)))] → W p l e room_1 s m #[Value.ref b] below meth c H locs cells slots Q (F0 m 1520 ls [])) : W p l e room_1 s m #[Value.ref b] below meth c H locs cells slots Q (F0 m 867 ls []) := by
  obtain ⟨⟨hx, hb, hml, hown, hts⟩, hr, hlk⟩ := id hc
  refine lv_aload_n hx hb dL_law_867 rfl (lv_at hl 1 rfl) ?_
  refine lv_aload_n hx hb dL_law_868 rfl (lv_at hl 0 rfl) ?_
  refine lv_iload_n hx hb dL_law_869 rfl (lv_at hl 3 rfl) ?_
  refine lv_iconst (v := 1) hx hb dL_law_870 (by decide) ?_
  refine lv_iadd hx hb dL_law_871 ?_
  refine va_sld hx hb hX hbl hbA hI.2.2.2.1 (z_sin (t := 1) hj (by decide) hL) dL_law_872 ?_
  obtain ⟨r, N1, e1, e2, hR2⟩ := eq_choir hR (z_xs xs j 1)
  refine iv_L_102 hc hI (c_X6_choir e1) (by decide) hl.1 (Nat.le_of_ble_eq_true rfl) hcs dL_law_873 (fun H locs hI => ?_)
  refine lv_aload_n hx hb dL_law_876 rfl (lv_at hl 2 rfl) ?_
  refine lv_aload_n hx hb dL_law_877 rfl (lv_at hl 0 rfl) ?_
  refine lv_iload_n hx hb dL_law_878 rfl (lv_at hl 3 rfl) ?_
  refine lv_iconst (v := 1) hx hb dL_law_879 (by decide) ?_
  refine lv_iadd hx hb dL_law_880 ?_
  refine va_sld hx hb hX hbl hbA hI.2.2.2.1 (z_sin (t := 1) hj (by decide) hL) dL_law_881 ?_
  refine iv_L_105 hc hI (c_X7_choir e2) (by decide) hl.1 (Nat.le_of_ble_eq_true rfl) hcs dL_law_882 (fun H locs hI => ?_)
  refine lv_icmp_eq (tgt := 1520) hx hb dL_law_885 (by decide) (fun _ => ?_) (fun c1 => absurd rfl c1)
  exact kk N1 H locs ls hR2 hI hl
set_option maxRecDepth 100000 in
set_option maxHeartbeats 4000000 in
theorem lc_22 (hL : L ≤ 4096) (hc : z_C p s m #[Value.ref b] meth c RL code 4 ret) (hX : va_X b L xs s s.heap) (hbl : b < s.heap.size) (hbA : ¬ z_A G b) (hcs : cells ≤ room_1.cells ∧ slots ≤ room_1.slots) (hj : 8 * j + 8 ≤ L) (hR : z_Rel M) (hI : z_I G s M H locs) (hl : lv_has ls 4 [(0, .ref b), (1, .ref (z_ad G 0 0)), (2, .ref (z_ad G 21 0)), (3, .int (nI (8 * j)))]) (kk : ∀ (M : z_M) (H : Heap) (locs : List Loc) (ls : Array Slot), z_Rel M → z_I G s M H locs → lv_has ls 4 [(0, .ref b), (1, .ref (z_ad G 0 0)), (2, .ref (z_ad G 21 0)), (3, .int (nI (8 * j)))] → W p l e room_1 s m #[Value.ref b] below meth c H locs cells slots Q (F0 m 1520 ls [])) : W p l e room_1 s m #[Value.ref b] below meth c H locs cells slots Q (F0 m 890 ls []) := by
  obtain ⟨⟨hx, hb, hml, hown, hts⟩, hr, hlk⟩ := id hc
  refine lv_aload_n hx hb dL_law_890 rfl (lv_at hl 1 rfl) ?_
  refine lv_aload_n hx hb dL_law_891 rfl (lv_at hl 0 rfl) ?_
  refine lv_iload_n hx hb dL_law_892 rfl (lv_at hl 3 rfl) ?_
  refine lv_iconst (v := 1) hx hb dL_law_893 (by decide) ?_
  refine lv_iadd hx hb dL_law_894 ?_
  refine va_sld hx hb hX hbl hbA hI.2.2.2.1 (z_sin (t := 1) hj (by decide) hL) dL_law_895 ?_
  obtain ⟨r, N1, N2, e1, e2, hR2⟩ := eq_twins hR (z_xs xs j 1)
  refine iv_L_106 hc hI (c_X6_twins e1) (by decide) hl.1 (Nat.le_of_ble_eq_true rfl) hcs dL_law_896 (fun H locs hI => ?_)
  refine lv_aload_n hx hb dL_law_899 rfl (lv_at hl 2 rfl) ?_
  refine lv_aload_n hx hb dL_law_900 rfl (lv_at hl 0 rfl) ?_
  refine lv_iload_n hx hb dL_law_901 rfl (lv_at hl 3 rfl) ?_
  refine lv_iconst (v := 1) hx hb dL_law_902 (by decide) ?_
  refine lv_iadd hx hb dL_law_903 ?_
  refine va_sld hx hb hX hbl hbA hI.2.2.2.1 (z_sin (t := 1) hj (by decide) hL) dL_law_904 ?_
  refine iv_L_109 hc hI (c_X7_twins e2) (by decide) hl.1 (Nat.le_of_ble_eq_true rfl) hcs dL_law_905 (fun H locs hI => ?_)
  refine lv_icmp_eq (tgt := 1520) hx hb dL_law_908 (by decide) (fun _ => ?_) (fun c1 => absurd rfl c1)
  exact kk N2 H locs ls hR2 hI hl
set_option maxRecDepth 100000 in
set_option maxHeartbeats 4000000 in
theorem lc_23 (hL : L ≤ 4096) (hc : z_C p s m #[Value.ref b] meth c RL code 4 ret) (hX : va_X b L xs s s.heap) (hbl : b < s.heap.size) (hbA : ¬ z_A G b) (hcs : cells ≤ room_1.cells ∧ slots ≤ room_1.slots) (hj : 8 * j + 8 ≤ L) (hR : z_Rel M) (hI : z_I G s M H locs) (hl : lv_has ls 4 [(0, .ref b), (1, .ref (z_ad G 0 0)), (2, .ref (z_ad G 21 0)), (3, .int (nI (8 * j)))]) (kk : ∀ (M : z_M) (H : Heap) (locs : List Loc) (ls : Array Slot), z_Rel M → z_I G s M H locs → lv_has ls 4 [(0, .ref b), (1, .ref (z_ad G 0 0)), (2, .ref (z_ad G 21 0)), (3, .int (nI (8 * j)))] → W p l e room_1 s m #[Value.ref b] below meth c H locs cells slots Q (F0 m 1520 ls [])) : W p l e room_1 s m #[Value.ref b] below meth c H locs cells slots Q (F0 m 913 ls []) := by
  obtain ⟨⟨hx, hb, hml, hown, hts⟩, hr, hlk⟩ := id hc
  refine lv_aload_n hx hb dL_law_913 rfl (lv_at hl 1 rfl) ?_
  refine lv_aload_n hx hb dL_law_914 rfl (lv_at hl 0 rfl) ?_
  refine lv_iload_n hx hb dL_law_915 rfl (lv_at hl 3 rfl) ?_
  refine lv_iconst (v := 1) hx hb dL_law_916 (by decide) ?_
  refine lv_iadd hx hb dL_law_917 ?_
  refine va_sld hx hb hX hbl hbA hI.2.2.2.1 (z_sin (t := 1) hj (by decide) hL) dL_law_918 ?_
  refine lv_aload_n hx hb dL_law_919 rfl (lv_at hl 0 rfl) ?_
  refine lv_iload_n hx hb dL_law_920 rfl (lv_at hl 3 rfl) ?_
  refine lv_iconst (v := 2) hx hb dL_law_921 (by decide) ?_
  refine lv_iadd hx hb dL_law_922 ?_
  refine va_sld hx hb hX hbl hbA hI.2.2.2.1 (z_sin (t := 2) hj (by decide) hL) dL_law_923 ?_
  refine lv_aload_n hx hb dL_law_924 rfl (lv_at hl 0 rfl) ?_
  refine lv_iload_n hx hb dL_law_925 rfl (lv_at hl 3 rfl) ?_
  refine lv_iconst (v := 3) hx hb dL_law_926 (by decide) ?_
  refine lv_iadd hx hb dL_law_927 ?_
  refine va_sld hx hb hX hbl hbA hI.2.2.2.1 (z_sin (t := 3) hj (by decide) hL) dL_law_928 ?_
  obtain ⟨r, N1, N2, e1, e2, hR2⟩ := eq_felt hR (z_xs xs j 1) (z_xs xs j 2) (z_xs xs j 3)
  refine iv_L_110 hc hI (c_X6_felt e1) (by decide) hl.1 (Nat.le_of_ble_eq_true rfl) hcs dL_law_929 (fun H locs hI => ?_)
  refine lv_aload_n hx hb dL_law_932 rfl (lv_at hl 2 rfl) ?_
  refine lv_aload_n hx hb dL_law_933 rfl (lv_at hl 0 rfl) ?_
  refine lv_iload_n hx hb dL_law_934 rfl (lv_at hl 3 rfl) ?_
  refine lv_iconst (v := 1) hx hb dL_law_935 (by decide) ?_
  refine lv_iadd hx hb dL_law_936 ?_
  refine va_sld hx hb hX hbl hbA hI.2.2.2.1 (z_sin (t := 1) hj (by decide) hL) dL_law_937 ?_
  refine lv_aload_n hx hb dL_law_938 rfl (lv_at hl 0 rfl) ?_
  refine lv_iload_n hx hb dL_law_939 rfl (lv_at hl 3 rfl) ?_
  refine lv_iconst (v := 2) hx hb dL_law_940 (by decide) ?_
  refine lv_iadd hx hb dL_law_941 ?_
  refine va_sld hx hb hX hbl hbA hI.2.2.2.1 (z_sin (t := 2) hj (by decide) hL) dL_law_942 ?_
  refine lv_aload_n hx hb dL_law_943 rfl (lv_at hl 0 rfl) ?_
  refine lv_iload_n hx hb dL_law_944 rfl (lv_at hl 3 rfl) ?_
  refine lv_iconst (v := 3) hx hb dL_law_945 (by decide) ?_
  refine lv_iadd hx hb dL_law_946 ?_
  refine va_sld hx hb hX hbl hbA hI.2.2.2.1 (z_sin (t := 3) hj (by decide) hL) dL_law_947 ?_
  refine iv_L_113 hc hI (c_X7_felt e2) (by decide) hl.1 (Nat.le_of_ble_eq_true rfl) hcs dL_law_948 (fun H locs hI => ?_)
  refine lv_icmp_eq (tgt := 1520) hx hb dL_law_951 (by decide) (fun _ => ?_) (fun c1 => absurd rfl c1)
  exact kk N2 H locs ls hR2 hI hl
set_option maxRecDepth 100000 in
set_option maxHeartbeats 4000000 in
theorem lc_24 (hL : L ≤ 4096) (hc : z_C p s m #[Value.ref b] meth c RL code 4 ret) (hX : va_X b L xs s s.heap) (hbl : b < s.heap.size) (hbA : ¬ z_A G b) (hcs : cells ≤ room_1.cells ∧ slots ≤ room_1.slots) (hj : 8 * j + 8 ≤ L) (hR : z_Rel M) (hI : z_I G s M H locs) (hl : lv_has ls 4 [(0, .ref b), (1, .ref (z_ad G 0 0)), (2, .ref (z_ad G 21 0)), (3, .int (nI (8 * j)))]) (kk : ∀ (M : z_M) (H : Heap) (locs : List Loc) (ls : Array Slot), z_Rel M → z_I G s M H locs → lv_has ls 4 [(0, .ref b), (1, .ref (z_ad G 0 0)), (2, .ref (z_ad G 21 0)), (3, .int (nI (8 * j)))] → W p l e room_1 s m #[Value.ref b] below meth c H locs cells slots Q (F0 m 1520 ls [])) : W p l e room_1 s m #[Value.ref b] below meth c H locs cells slots Q (F0 m 956 ls []) := by
  obtain ⟨⟨hx, hb, hml, hown, hts⟩, hr, hlk⟩ := id hc
  refine lv_aload_n hx hb dL_law_956 rfl (lv_at hl 1 rfl) ?_
  refine lv_aload_n hx hb dL_law_957 rfl (lv_at hl 0 rfl) ?_
  refine lv_iload_n hx hb dL_law_958 rfl (lv_at hl 3 rfl) ?_
  refine lv_iconst (v := 1) hx hb dL_law_959 (by decide) ?_
  refine lv_iadd hx hb dL_law_960 ?_
  refine va_sld hx hb hX hbl hbA hI.2.2.2.1 (z_sin (t := 1) hj (by decide) hL) dL_law_961 ?_
  obtain ⟨r, N1, e1, e2, hR2⟩ := eq_doors hR (z_xs xs j 1)
  refine iv_L_114 hc hI (c_X6_doors e1) (by decide) hl.1 (Nat.le_of_ble_eq_true rfl) hcs dL_law_962 (fun H locs hI => ?_)
  refine lv_aload_n hx hb dL_law_965 rfl (lv_at hl 2 rfl) ?_
  refine lv_aload_n hx hb dL_law_966 rfl (lv_at hl 0 rfl) ?_
  refine lv_iload_n hx hb dL_law_967 rfl (lv_at hl 3 rfl) ?_
  refine lv_iconst (v := 1) hx hb dL_law_968 (by decide) ?_
  refine lv_iadd hx hb dL_law_969 ?_
  refine va_sld hx hb hX hbl hbA hI.2.2.2.1 (z_sin (t := 1) hj (by decide) hL) dL_law_970 ?_
  refine iv_L_117 hc hI (c_X7_doors e2) (by decide) hl.1 (Nat.le_of_ble_eq_true rfl) hcs dL_law_971 (fun H locs hI => ?_)
  refine lv_icmp_eq (tgt := 1520) hx hb dL_law_974 (by decide) (fun _ => ?_) (fun c1 => absurd rfl c1)
  exact kk N1 H locs ls hR2 hI hl
set_option maxRecDepth 100000 in
set_option maxHeartbeats 4000000 in
theorem lc_25 (hL : L ≤ 4096) (hc : z_C p s m #[Value.ref b] meth c RL code 4 ret) (hX : va_X b L xs s s.heap) (hbl : b < s.heap.size) (hbA : ¬ z_A G b) (hcs : cells ≤ room_1.cells ∧ slots ≤ room_1.slots) (hj : 8 * j + 8 ≤ L) (hR : z_Rel M) (hI : z_I G s M H locs) (hl : lv_has ls 4 [(0, .ref b), (1, .ref (z_ad G 0 0)), (2, .ref (z_ad G 21 0)), (3, .int (nI (8 * j)))]) (kk : ∀ (M : z_M) (H : Heap) (locs : List Loc) (ls : Array Slot), z_Rel M → z_I G s M H locs → lv_has ls 4 [(0, .ref b), (1, .ref (z_ad G 0 0)), (2, .ref (z_ad G 21 0)), (3, .int (nI (8 * j)))] → W p l e room_1 s m #[Value.ref b] below meth c H locs cells slots Q (F0 m 1520 ls [])) : W p l e room_1 s m #[Value.ref b] below meth c H locs cells slots Q (F0 m 979 ls []) := by
  obtain ⟨⟨hx, hb, hml, hown, hts⟩, hr, hlk⟩ := id hc
  refine lv_aload_n hx hb dL_law_979 rfl (lv_at hl 1 rfl) ?_
  refine lv_aload_n hx hb dL_law_980 rfl (lv_at hl 0 rfl) ?_
  refine lv_iload_n hx hb dL_law_981 rfl (lv_at hl 3 rfl) ?_
  refine lv_iconst (v := 1) hx hb dL_law_982 (by decide) ?_
  refine lv_iadd hx hb dL_law_983 ?_
  refine va_sld hx hb hX hbl hbA hI.2.2.2.1 (z_sin (t := 1) hj (by decide) hL) dL_law_984 ?_
  obtain ⟨r, N1, N2, e1, e2, hR2⟩ := eq_planed hR (z_xs xs j 1)
  refine iv_L_118 hc hI (c_X6_planed e1) (by decide) hl.1 (Nat.le_of_ble_eq_true rfl) hcs dL_law_985 (fun H locs hI => ?_)
  refine lv_aload_n hx hb dL_law_988 rfl (lv_at hl 2 rfl) ?_
  refine lv_aload_n hx hb dL_law_989 rfl (lv_at hl 0 rfl) ?_
  refine lv_iload_n hx hb dL_law_990 rfl (lv_at hl 3 rfl) ?_
  refine lv_iconst (v := 1) hx hb dL_law_991 (by decide) ?_
  refine lv_iadd hx hb dL_law_992 ?_
  refine va_sld hx hb hX hbl hbA hI.2.2.2.1 (z_sin (t := 1) hj (by decide) hL) dL_law_993 ?_
  refine iv_L_121 hc hI (c_X7_planed e2) (by decide) hl.1 (Nat.le_of_ble_eq_true rfl) hcs dL_law_994 (fun H locs hI => ?_)
  refine lv_icmp_eq (tgt := 1520) hx hb dL_law_997 (by decide) (fun _ => ?_) (fun c1 => absurd rfl c1)
  exact kk N2 H locs ls hR2 hI hl
set_option maxRecDepth 100000 in
set_option maxHeartbeats 4000000 in
theorem lc_26 (hL : L ≤ 4096) (hc : z_C p s m #[Value.ref b] meth c RL code 4 ret) (hX : va_X b L xs s s.heap) (hbl : b < s.heap.size) (hbA : ¬ z_A G b) (hcs : cells ≤ room_1.cells ∧ slots ≤ room_1.slots) (hj : 8 * j + 8 ≤ L) (hR : z_Rel M) (hI : z_I G s M H locs) (hl : lv_has ls 4 [(0, .ref b), (1, .ref (z_ad G 0 0)), (2, .ref (z_ad G 21 0)), (3, .int (nI (8 * j)))]) (kk : ∀ (M : z_M) (H : Heap) (locs : List Loc) (ls : Array Slot), z_Rel M → z_I G s M H locs → lv_has ls 4 [(0, .ref b), (1, .ref (z_ad G 0 0)), (2, .ref (z_ad G 21 0)), (3, .int (nI (8 * j)))] → W p l e room_1 s m #[Value.ref b] below meth c H locs cells slots Q (F0 m 1520 ls [])) : W p l e room_1 s m #[Value.ref b] below meth c H locs cells slots Q (F0 m 1002 ls []) := by
  obtain ⟨⟨hx, hb, hml, hown, hts⟩, hr, hlk⟩ := id hc
  refine lv_aload_n hx hb dL_law_1002 rfl (lv_at hl 1 rfl) ?_
  refine lv_aload_n hx hb dL_law_1003 rfl (lv_at hl 0 rfl) ?_
  refine lv_iload_n hx hb dL_law_1004 rfl (lv_at hl 3 rfl) ?_
  refine lv_iconst (v := 1) hx hb dL_law_1005 (by decide) ?_
  refine lv_iadd hx hb dL_law_1006 ?_
  refine va_sld hx hb hX hbl hbA hI.2.2.2.1 (z_sin (t := 1) hj (by decide) hL) dL_law_1007 ?_
  refine lv_aload_n hx hb dL_law_1008 rfl (lv_at hl 0 rfl) ?_
  refine lv_iload_n hx hb dL_law_1009 rfl (lv_at hl 3 rfl) ?_
  refine lv_iconst (v := 2) hx hb dL_law_1010 (by decide) ?_
  refine lv_iadd hx hb dL_law_1011 ?_
  refine va_sld hx hb hX hbl hbA hI.2.2.2.1 (z_sin (t := 2) hj (by decide) hL) dL_law_1012 ?_
  refine lv_aload_n hx hb dL_law_1013 rfl (lv_at hl 0 rfl) ?_
  refine lv_iload_n hx hb dL_law_1014 rfl (lv_at hl 3 rfl) ?_
  refine lv_iconst (v := 3) hx hb dL_law_1015 (by decide) ?_
  refine lv_iadd hx hb dL_law_1016 ?_
  refine va_sld hx hb hX hbl hbA hI.2.2.2.1 (z_sin (t := 3) hj (by decide) hL) dL_law_1017 ?_
  refine lv_aload_n hx hb dL_law_1018 rfl (lv_at hl 0 rfl) ?_
  refine lv_iload_n hx hb dL_law_1019 rfl (lv_at hl 3 rfl) ?_
  refine lv_iconst (v := 4) hx hb dL_law_1020 (by decide) ?_
  refine lv_iadd hx hb dL_law_1021 ?_
  refine va_sld hx hb hX hbl hbA hI.2.2.2.1 (z_sin (t := 4) hj (by decide) hL) dL_law_1022 ?_
  obtain ⟨r, N1, N2, e1, e2, hR2⟩ := eq_rise hR (z_xs xs j 1) (z_xs xs j 2) (z_xs xs j 3) (z_xs xs j 4)
  refine iv_L_122 hc hI (c_X6_rise e1) (by decide) hl.1 (Nat.le_of_ble_eq_true rfl) hcs dL_law_1023 (fun H locs hI => ?_)
  refine lv_aload_n hx hb dL_law_1026 rfl (lv_at hl 2 rfl) ?_
  refine lv_aload_n hx hb dL_law_1027 rfl (lv_at hl 0 rfl) ?_
  refine lv_iload_n hx hb dL_law_1028 rfl (lv_at hl 3 rfl) ?_
  refine lv_iconst (v := 1) hx hb dL_law_1029 (by decide) ?_
  refine lv_iadd hx hb dL_law_1030 ?_
  refine va_sld hx hb hX hbl hbA hI.2.2.2.1 (z_sin (t := 1) hj (by decide) hL) dL_law_1031 ?_
  refine lv_aload_n hx hb dL_law_1032 rfl (lv_at hl 0 rfl) ?_
  refine lv_iload_n hx hb dL_law_1033 rfl (lv_at hl 3 rfl) ?_
  refine lv_iconst (v := 2) hx hb dL_law_1034 (by decide) ?_
  refine lv_iadd hx hb dL_law_1035 ?_
  refine va_sld hx hb hX hbl hbA hI.2.2.2.1 (z_sin (t := 2) hj (by decide) hL) dL_law_1036 ?_
  refine lv_aload_n hx hb dL_law_1037 rfl (lv_at hl 0 rfl) ?_
  refine lv_iload_n hx hb dL_law_1038 rfl (lv_at hl 3 rfl) ?_
  refine lv_iconst (v := 3) hx hb dL_law_1039 (by decide) ?_
  refine lv_iadd hx hb dL_law_1040 ?_
  refine va_sld hx hb hX hbl hbA hI.2.2.2.1 (z_sin (t := 3) hj (by decide) hL) dL_law_1041 ?_
  refine lv_aload_n hx hb dL_law_1042 rfl (lv_at hl 0 rfl) ?_
  refine lv_iload_n hx hb dL_law_1043 rfl (lv_at hl 3 rfl) ?_
  refine lv_iconst (v := 4) hx hb dL_law_1044 (by decide) ?_
  refine lv_iadd hx hb dL_law_1045 ?_
  refine va_sld hx hb hX hbl hbA hI.2.2.2.1 (z_sin (t := 4) hj (by decide) hL) dL_law_1046 ?_
  refine iv_L_126 hc hI (c_X7_rise e2) (by decide) hl.1 (Nat.le_of_ble_eq_true rfl) hcs dL_law_1047 (fun H locs hI => ?_)
  refine lv_icmp_eq (tgt := 1520) hx hb dL_law_1050 (by decide) (fun _ => ?_) (fun c1 => absurd rfl c1)
  exact kk N2 H locs ls hR2 hI hl
set_option maxRecDepth 100000 in
set_option maxHeartbeats 4000000 in
theorem lc_27 (hL : L ≤ 4096) (hc : z_C p s m #[Value.ref b] meth c RL code 4 ret) (hX : va_X b L xs s s.heap) (hbl : b < s.heap.size) (hbA : ¬ z_A G b) (hcs : cells ≤ room_1.cells ∧ slots ≤ room_1.slots) (hj : 8 * j + 8 ≤ L) (hR : z_Rel M) (hI : z_I G s M H locs) (hl : lv_has ls 4 [(0, .ref b), (1, .ref (z_ad G 0 0)), (2, .ref (z_ad G 21 0)), (3, .int (nI (8 * j)))]) (kk : ∀ (M : z_M) (H : Heap) (locs : List Loc) (ls : Array Slot), z_Rel M → z_I G s M H locs → lv_has ls 4 [(0, .ref b), (1, .ref (z_ad G 0 0)), (2, .ref (z_ad G 21 0)), (3, .int (nI (8 * j)))] → W p l e room_1 s m #[Value.ref b] below meth c H locs cells slots Q (F0 m 1520 ls [])) : W p l e room_1 s m #[Value.ref b] below meth c H locs cells slots Q (F0 m 1055 ls []) := by
  obtain ⟨⟨hx, hb, hml, hown, hts⟩, hr, hlk⟩ := id hc
  refine lv_aload_n hx hb dL_law_1055 rfl (lv_at hl 1 rfl) ?_
  refine lv_aload_n hx hb dL_law_1056 rfl (lv_at hl 0 rfl) ?_
  refine lv_iload_n hx hb dL_law_1057 rfl (lv_at hl 3 rfl) ?_
  refine lv_iconst (v := 1) hx hb dL_law_1058 (by decide) ?_
  refine lv_iadd hx hb dL_law_1059 ?_
  refine va_sld hx hb hX hbl hbA hI.2.2.2.1 (z_sin (t := 1) hj (by decide) hL) dL_law_1060 ?_
  refine lv_aload_n hx hb dL_law_1061 rfl (lv_at hl 0 rfl) ?_
  refine lv_iload_n hx hb dL_law_1062 rfl (lv_at hl 3 rfl) ?_
  refine lv_iconst (v := 2) hx hb dL_law_1063 (by decide) ?_
  refine lv_iadd hx hb dL_law_1064 ?_
  refine va_sld hx hb hX hbl hbA hI.2.2.2.1 (z_sin (t := 2) hj (by decide) hL) dL_law_1065 ?_
  refine lv_aload_n hx hb dL_law_1066 rfl (lv_at hl 0 rfl) ?_
  refine lv_iload_n hx hb dL_law_1067 rfl (lv_at hl 3 rfl) ?_
  refine lv_iconst (v := 3) hx hb dL_law_1068 (by decide) ?_
  refine lv_iadd hx hb dL_law_1069 ?_
  refine va_sld hx hb hX hbl hbA hI.2.2.2.1 (z_sin (t := 3) hj (by decide) hL) dL_law_1070 ?_
  refine lv_aload_n hx hb dL_law_1071 rfl (lv_at hl 0 rfl) ?_
  refine lv_iload_n hx hb dL_law_1072 rfl (lv_at hl 3 rfl) ?_
  refine lv_iconst (v := 4) hx hb dL_law_1073 (by decide) ?_
  refine lv_iadd hx hb dL_law_1074 ?_
  refine va_sld hx hb hX hbl hbA hI.2.2.2.1 (z_sin (t := 4) hj (by decide) hL) dL_law_1075 ?_
  refine lv_aload_n hx hb dL_law_1076 rfl (lv_at hl 0 rfl) ?_
  refine lv_iload_n hx hb dL_law_1077 rfl (lv_at hl 3 rfl) ?_
  refine lv_iconst (v := 5) hx hb dL_law_1078 (by decide) ?_
  refine lv_iadd hx hb dL_law_1079 ?_
  refine va_sld hx hb hX hbl hbA hI.2.2.2.1 (z_sin (t := 5) hj (by decide) hL) dL_law_1080 ?_
  refine lv_aload_n hx hb dL_law_1081 rfl (lv_at hl 0 rfl) ?_
  refine lv_iload_n hx hb dL_law_1082 rfl (lv_at hl 3 rfl) ?_
  refine lv_bipush (v := 6) hx hb dL_law_1083 (by decide) ?_
  refine lv_iadd hx hb dL_law_1085 ?_
  refine va_sld hx hb hX hbl hbA hI.2.2.2.1 (z_sin (t := 6) hj (by decide) hL) dL_law_1086 ?_
  refine lv_aload_n hx hb dL_law_1087 rfl (lv_at hl 0 rfl) ?_
  refine lv_iload_n hx hb dL_law_1088 rfl (lv_at hl 3 rfl) ?_
  refine lv_bipush (v := 7) hx hb dL_law_1089 (by decide) ?_
  refine lv_iadd hx hb dL_law_1091 ?_
  refine va_sld hx hb hX hbl hbA hI.2.2.2.1 (z_sin (t := 7) hj (by decide) hL) dL_law_1092 ?_
  obtain ⟨r, N1, N2, e1, e2, hR2⟩ := eq_what hR (z_xs xs j 1) (z_xs xs j 2) (z_xs xs j 3) (z_xs xs j 4) (z_xs xs j 5) (z_xs xs j 6) (z_xs xs j 7)
  refine iv_L_127 hc hI (c_X6_what e1) (by decide) hl.1 (Nat.le_of_ble_eq_true rfl) hcs dL_law_1093 (fun H locs hI => ?_)
  refine lv_aload_n hx hb dL_law_1096 rfl (lv_at hl 2 rfl) ?_
  refine lv_aload_n hx hb dL_law_1097 rfl (lv_at hl 0 rfl) ?_
  refine lv_iload_n hx hb dL_law_1098 rfl (lv_at hl 3 rfl) ?_
  refine lv_iconst (v := 1) hx hb dL_law_1099 (by decide) ?_
  refine lv_iadd hx hb dL_law_1100 ?_
  refine va_sld hx hb hX hbl hbA hI.2.2.2.1 (z_sin (t := 1) hj (by decide) hL) dL_law_1101 ?_
  refine lv_aload_n hx hb dL_law_1102 rfl (lv_at hl 0 rfl) ?_
  refine lv_iload_n hx hb dL_law_1103 rfl (lv_at hl 3 rfl) ?_
  refine lv_iconst (v := 2) hx hb dL_law_1104 (by decide) ?_
  refine lv_iadd hx hb dL_law_1105 ?_
  refine va_sld hx hb hX hbl hbA hI.2.2.2.1 (z_sin (t := 2) hj (by decide) hL) dL_law_1106 ?_
  refine lv_aload_n hx hb dL_law_1107 rfl (lv_at hl 0 rfl) ?_
  refine lv_iload_n hx hb dL_law_1108 rfl (lv_at hl 3 rfl) ?_
  refine lv_iconst (v := 3) hx hb dL_law_1109 (by decide) ?_
  refine lv_iadd hx hb dL_law_1110 ?_
  refine va_sld hx hb hX hbl hbA hI.2.2.2.1 (z_sin (t := 3) hj (by decide) hL) dL_law_1111 ?_
  refine lv_aload_n hx hb dL_law_1112 rfl (lv_at hl 0 rfl) ?_
  refine lv_iload_n hx hb dL_law_1113 rfl (lv_at hl 3 rfl) ?_
  refine lv_iconst (v := 4) hx hb dL_law_1114 (by decide) ?_
  refine lv_iadd hx hb dL_law_1115 ?_
  refine va_sld hx hb hX hbl hbA hI.2.2.2.1 (z_sin (t := 4) hj (by decide) hL) dL_law_1116 ?_
  refine lv_aload_n hx hb dL_law_1117 rfl (lv_at hl 0 rfl) ?_
  refine lv_iload_n hx hb dL_law_1118 rfl (lv_at hl 3 rfl) ?_
  refine lv_iconst (v := 5) hx hb dL_law_1119 (by decide) ?_
  refine lv_iadd hx hb dL_law_1120 ?_
  refine va_sld hx hb hX hbl hbA hI.2.2.2.1 (z_sin (t := 5) hj (by decide) hL) dL_law_1121 ?_
  refine lv_aload_n hx hb dL_law_1122 rfl (lv_at hl 0 rfl) ?_
  refine lv_iload_n hx hb dL_law_1123 rfl (lv_at hl 3 rfl) ?_
  refine lv_bipush (v := 6) hx hb dL_law_1124 (by decide) ?_
  refine lv_iadd hx hb dL_law_1126 ?_
  refine va_sld hx hb hX hbl hbA hI.2.2.2.1 (z_sin (t := 6) hj (by decide) hL) dL_law_1127 ?_
  refine lv_aload_n hx hb dL_law_1128 rfl (lv_at hl 0 rfl) ?_
  refine lv_iload_n hx hb dL_law_1129 rfl (lv_at hl 3 rfl) ?_
  refine lv_bipush (v := 7) hx hb dL_law_1130 (by decide) ?_
  refine lv_iadd hx hb dL_law_1132 ?_
  refine va_sld hx hb hX hbl hbA hI.2.2.2.1 (z_sin (t := 7) hj (by decide) hL) dL_law_1133 ?_
  refine iv_L_131 hc hI (c_X7_what e2) (by decide) hl.1 (Nat.le_of_ble_eq_true rfl) hcs dL_law_1134 (fun H locs hI => ?_)
  refine lv_icmp_eq (tgt := 1520) hx hb dL_law_1137 (by decide) (fun _ => ?_) (fun c1 => absurd rfl c1)
  exact kk N2 H locs ls hR2 hI hl
set_option maxRecDepth 100000 in
set_option maxHeartbeats 4000000 in
theorem lc_28 (hL : L ≤ 4096) (hc : z_C p s m #[Value.ref b] meth c RL code 4 ret) (hX : va_X b L xs s s.heap) (hbl : b < s.heap.size) (hbA : ¬ z_A G b) (hcs : cells ≤ room_1.cells ∧ slots ≤ room_1.slots) (hj : 8 * j + 8 ≤ L) (hR : z_Rel M) (hI : z_I G s M H locs) (hl : lv_has ls 4 [(0, .ref b), (1, .ref (z_ad G 0 0)), (2, .ref (z_ad G 21 0)), (3, .int (nI (8 * j)))]) (kk : ∀ (M : z_M) (H : Heap) (locs : List Loc) (ls : Array Slot), z_Rel M → z_I G s M H locs → lv_has ls 4 [(0, .ref b), (1, .ref (z_ad G 0 0)), (2, .ref (z_ad G 21 0)), (3, .int (nI (8 * j)))] → W p l e room_1 s m #[Value.ref b] below meth c H locs cells slots Q (F0 m 1520 ls [])) : W p l e room_1 s m #[Value.ref b] below meth c H locs cells slots Q (F0 m 1142 ls []) := by
  obtain ⟨⟨hx, hb, hml, hown, hts⟩, hr, hlk⟩ := id hc
  refine lv_aload_n hx hb dL_law_1142 rfl (lv_at hl 1 rfl) ?_
  refine lv_aload_n hx hb dL_law_1143 rfl (lv_at hl 0 rfl) ?_
  refine lv_iload_n hx hb dL_law_1144 rfl (lv_at hl 3 rfl) ?_
  refine lv_iconst (v := 1) hx hb dL_law_1145 (by decide) ?_
  refine lv_iadd hx hb dL_law_1146 ?_
  refine va_sld hx hb hX hbl hbA hI.2.2.2.1 (z_sin (t := 1) hj (by decide) hL) dL_law_1147 ?_
  refine lv_aload_n hx hb dL_law_1148 rfl (lv_at hl 0 rfl) ?_
  refine lv_iload_n hx hb dL_law_1149 rfl (lv_at hl 3 rfl) ?_
  refine lv_iconst (v := 2) hx hb dL_law_1150 (by decide) ?_
  refine lv_iadd hx hb dL_law_1151 ?_
  refine va_sld hx hb hX hbl hbA hI.2.2.2.1 (z_sin (t := 2) hj (by decide) hL) dL_law_1152 ?_
  refine lv_aload_n hx hb dL_law_1153 rfl (lv_at hl 0 rfl) ?_
  refine lv_iload_n hx hb dL_law_1154 rfl (lv_at hl 3 rfl) ?_
  refine lv_iconst (v := 3) hx hb dL_law_1155 (by decide) ?_
  refine lv_iadd hx hb dL_law_1156 ?_
  refine va_sld hx hb hX hbl hbA hI.2.2.2.1 (z_sin (t := 3) hj (by decide) hL) dL_law_1157 ?_
  refine lv_aload_n hx hb dL_law_1158 rfl (lv_at hl 0 rfl) ?_
  refine lv_iload_n hx hb dL_law_1159 rfl (lv_at hl 3 rfl) ?_
  refine lv_iconst (v := 4) hx hb dL_law_1160 (by decide) ?_
  refine lv_iadd hx hb dL_law_1161 ?_
  refine va_sld hx hb hX hbl hbA hI.2.2.2.1 (z_sin (t := 4) hj (by decide) hL) dL_law_1162 ?_
  refine lv_aload_n hx hb dL_law_1163 rfl (lv_at hl 0 rfl) ?_
  refine lv_iload_n hx hb dL_law_1164 rfl (lv_at hl 3 rfl) ?_
  refine lv_iconst (v := 5) hx hb dL_law_1165 (by decide) ?_
  refine lv_iadd hx hb dL_law_1166 ?_
  refine va_sld hx hb hX hbl hbA hI.2.2.2.1 (z_sin (t := 5) hj (by decide) hL) dL_law_1167 ?_
  refine lv_aload_n hx hb dL_law_1168 rfl (lv_at hl 0 rfl) ?_
  refine lv_iload_n hx hb dL_law_1169 rfl (lv_at hl 3 rfl) ?_
  refine lv_bipush (v := 6) hx hb dL_law_1170 (by decide) ?_
  refine lv_iadd hx hb dL_law_1172 ?_
  refine va_sld hx hb hX hbl hbA hI.2.2.2.1 (z_sin (t := 6) hj (by decide) hL) dL_law_1173 ?_
  refine lv_aload_n hx hb dL_law_1174 rfl (lv_at hl 0 rfl) ?_
  refine lv_iload_n hx hb dL_law_1175 rfl (lv_at hl 3 rfl) ?_
  refine lv_bipush (v := 7) hx hb dL_law_1176 (by decide) ?_
  refine lv_iadd hx hb dL_law_1178 ?_
  refine va_sld hx hb hX hbl hbA hI.2.2.2.1 (z_sin (t := 7) hj (by decide) hL) dL_law_1179 ?_
  obtain ⟨r, N1, N2, e1, e2, hR2⟩ := eq_who hR (z_xs xs j 1) (z_xs xs j 2) (z_xs xs j 3) (z_xs xs j 4) (z_xs xs j 5) (z_xs xs j 6) (z_xs xs j 7)
  refine iv_L_132 hc hI (c_X6_who e1) (by decide) hl.1 (Nat.le_of_ble_eq_true rfl) hcs dL_law_1180 (fun H locs hI => ?_)
  refine lv_aload_n hx hb dL_law_1183 rfl (lv_at hl 2 rfl) ?_
  refine lv_aload_n hx hb dL_law_1184 rfl (lv_at hl 0 rfl) ?_
  refine lv_iload_n hx hb dL_law_1185 rfl (lv_at hl 3 rfl) ?_
  refine lv_iconst (v := 1) hx hb dL_law_1186 (by decide) ?_
  refine lv_iadd hx hb dL_law_1187 ?_
  refine va_sld hx hb hX hbl hbA hI.2.2.2.1 (z_sin (t := 1) hj (by decide) hL) dL_law_1188 ?_
  refine lv_aload_n hx hb dL_law_1189 rfl (lv_at hl 0 rfl) ?_
  refine lv_iload_n hx hb dL_law_1190 rfl (lv_at hl 3 rfl) ?_
  refine lv_iconst (v := 2) hx hb dL_law_1191 (by decide) ?_
  refine lv_iadd hx hb dL_law_1192 ?_
  refine va_sld hx hb hX hbl hbA hI.2.2.2.1 (z_sin (t := 2) hj (by decide) hL) dL_law_1193 ?_
  refine lv_aload_n hx hb dL_law_1194 rfl (lv_at hl 0 rfl) ?_
  refine lv_iload_n hx hb dL_law_1195 rfl (lv_at hl 3 rfl) ?_
  refine lv_iconst (v := 3) hx hb dL_law_1196 (by decide) ?_
  refine lv_iadd hx hb dL_law_1197 ?_
  refine va_sld hx hb hX hbl hbA hI.2.2.2.1 (z_sin (t := 3) hj (by decide) hL) dL_law_1198 ?_
  refine lv_aload_n hx hb dL_law_1199 rfl (lv_at hl 0 rfl) ?_
  refine lv_iload_n hx hb dL_law_1200 rfl (lv_at hl 3 rfl) ?_
  refine lv_iconst (v := 4) hx hb dL_law_1201 (by decide) ?_
  refine lv_iadd hx hb dL_law_1202 ?_
  refine va_sld hx hb hX hbl hbA hI.2.2.2.1 (z_sin (t := 4) hj (by decide) hL) dL_law_1203 ?_
  refine lv_aload_n hx hb dL_law_1204 rfl (lv_at hl 0 rfl) ?_
  refine lv_iload_n hx hb dL_law_1205 rfl (lv_at hl 3 rfl) ?_
  refine lv_iconst (v := 5) hx hb dL_law_1206 (by decide) ?_
  refine lv_iadd hx hb dL_law_1207 ?_
  refine va_sld hx hb hX hbl hbA hI.2.2.2.1 (z_sin (t := 5) hj (by decide) hL) dL_law_1208 ?_
  refine lv_aload_n hx hb dL_law_1209 rfl (lv_at hl 0 rfl) ?_
  refine lv_iload_n hx hb dL_law_1210 rfl (lv_at hl 3 rfl) ?_
  refine lv_bipush (v := 6) hx hb dL_law_1211 (by decide) ?_
  refine lv_iadd hx hb dL_law_1213 ?_
  refine va_sld hx hb hX hbl hbA hI.2.2.2.1 (z_sin (t := 6) hj (by decide) hL) dL_law_1214 ?_
  refine lv_aload_n hx hb dL_law_1215 rfl (lv_at hl 0 rfl) ?_
  refine lv_iload_n hx hb dL_law_1216 rfl (lv_at hl 3 rfl) ?_
  refine lv_bipush (v := 7) hx hb dL_law_1217 (by decide) ?_
  refine lv_iadd hx hb dL_law_1219 ?_
  refine va_sld hx hb hX hbl hbA hI.2.2.2.1 (z_sin (t := 7) hj (by decide) hL) dL_law_1220 ?_
  refine iv_L_135 hc hI (c_X7_who e2) (by decide) hl.1 (Nat.le_of_ble_eq_true rfl) hcs dL_law_1221 (fun H locs hI => ?_)
  refine lv_icmp_eq (tgt := 1520) hx hb dL_law_1224 (by decide) (fun _ => ?_) (fun c1 => absurd rfl c1)
  exact kk N2 H locs ls hR2 hI hl
set_option maxRecDepth 100000 in
set_option maxHeartbeats 4000000 in
theorem lc_29 (hL : L ≤ 4096) (hc : z_C p s m #[Value.ref b] meth c RL code 4 ret) (hX : va_X b L xs s s.heap) (hbl : b < s.heap.size) (hbA : ¬ z_A G b) (hcs : cells ≤ room_1.cells ∧ slots ≤ room_1.slots) (hj : 8 * j + 8 ≤ L) (hR : z_Rel M) (hI : z_I G s M H locs) (hl : lv_has ls 4 [(0, .ref b), (1, .ref (z_ad G 0 0)), (2, .ref (z_ad G 21 0)), (3, .int (nI (8 * j)))]) (kk : ∀ (M : z_M) (H : Heap) (locs : List Loc) (ls : Array Slot), z_Rel M → z_I G s M H locs → lv_has ls 4 [(0, .ref b), (1, .ref (z_ad G 0 0)), (2, .ref (z_ad G 21 0)), (3, .int (nI (8 * j)))] → W p l e room_1 s m #[Value.ref b] below meth c H locs cells slots Q (F0 m 1520 ls [])) : W p l e room_1 s m #[Value.ref b] below meth c H locs cells slots Q (F0 m 1229 ls []) := by
  obtain ⟨⟨hx, hb, hml, hown, hts⟩, hr, hlk⟩ := id hc
  refine lv_aload_n hx hb dL_law_1229 rfl (lv_at hl 1 rfl) ?_
  refine lv_aload_n hx hb dL_law_1230 rfl (lv_at hl 0 rfl) ?_
  refine lv_iload_n hx hb dL_law_1231 rfl (lv_at hl 3 rfl) ?_
  refine lv_iconst (v := 1) hx hb dL_law_1232 (by decide) ?_
  refine lv_iadd hx hb dL_law_1233 ?_
  refine va_sld hx hb hX hbl hbA hI.2.2.2.1 (z_sin (t := 1) hj (by decide) hL) dL_law_1234 ?_
  refine lv_aload_n hx hb dL_law_1235 rfl (lv_at hl 0 rfl) ?_
  refine lv_iload_n hx hb dL_law_1236 rfl (lv_at hl 3 rfl) ?_
  refine lv_iconst (v := 2) hx hb dL_law_1237 (by decide) ?_
  refine lv_iadd hx hb dL_law_1238 ?_
  refine va_sld hx hb hX hbl hbA hI.2.2.2.1 (z_sin (t := 2) hj (by decide) hL) dL_law_1239 ?_
  refine lv_aload_n hx hb dL_law_1240 rfl (lv_at hl 0 rfl) ?_
  refine lv_iload_n hx hb dL_law_1241 rfl (lv_at hl 3 rfl) ?_
  refine lv_iconst (v := 3) hx hb dL_law_1242 (by decide) ?_
  refine lv_iadd hx hb dL_law_1243 ?_
  refine va_sld hx hb hX hbl hbA hI.2.2.2.1 (z_sin (t := 3) hj (by decide) hL) dL_law_1244 ?_
  refine lv_aload_n hx hb dL_law_1245 rfl (lv_at hl 0 rfl) ?_
  refine lv_iload_n hx hb dL_law_1246 rfl (lv_at hl 3 rfl) ?_
  refine lv_iconst (v := 4) hx hb dL_law_1247 (by decide) ?_
  refine lv_iadd hx hb dL_law_1248 ?_
  refine va_sld hx hb hX hbl hbA hI.2.2.2.1 (z_sin (t := 4) hj (by decide) hL) dL_law_1249 ?_
  obtain ⟨r, N1, N2, e1, e2, hR2⟩ := eq_rots hR (z_xs xs j 1) (z_xs xs j 2) (z_xs xs j 3) (z_xs xs j 4)
  refine iv_L_136 hc hI (c_X6_rots e1) (by decide) hl.1 (Nat.le_of_ble_eq_true rfl) hcs dL_law_1250 (fun H locs hI => ?_)
  refine lv_aload_n hx hb dL_law_1253 rfl (lv_at hl 2 rfl) ?_
  refine lv_aload_n hx hb dL_law_1254 rfl (lv_at hl 0 rfl) ?_
  refine lv_iload_n hx hb dL_law_1255 rfl (lv_at hl 3 rfl) ?_
  refine lv_iconst (v := 1) hx hb dL_law_1256 (by decide) ?_
  refine lv_iadd hx hb dL_law_1257 ?_
  refine va_sld hx hb hX hbl hbA hI.2.2.2.1 (z_sin (t := 1) hj (by decide) hL) dL_law_1258 ?_
  refine lv_aload_n hx hb dL_law_1259 rfl (lv_at hl 0 rfl) ?_
  refine lv_iload_n hx hb dL_law_1260 rfl (lv_at hl 3 rfl) ?_
  refine lv_iconst (v := 2) hx hb dL_law_1261 (by decide) ?_
  refine lv_iadd hx hb dL_law_1262 ?_
  refine va_sld hx hb hX hbl hbA hI.2.2.2.1 (z_sin (t := 2) hj (by decide) hL) dL_law_1263 ?_
  refine lv_aload_n hx hb dL_law_1264 rfl (lv_at hl 0 rfl) ?_
  refine lv_iload_n hx hb dL_law_1265 rfl (lv_at hl 3 rfl) ?_
  refine lv_iconst (v := 3) hx hb dL_law_1266 (by decide) ?_
  refine lv_iadd hx hb dL_law_1267 ?_
  refine va_sld hx hb hX hbl hbA hI.2.2.2.1 (z_sin (t := 3) hj (by decide) hL) dL_law_1268 ?_
  refine lv_aload_n hx hb dL_law_1269 rfl (lv_at hl 0 rfl) ?_
  refine lv_iload_n hx hb dL_law_1270 rfl (lv_at hl 3 rfl) ?_
  refine lv_iconst (v := 4) hx hb dL_law_1271 (by decide) ?_
  refine lv_iadd hx hb dL_law_1272 ?_
  refine va_sld hx hb hX hbl hbA hI.2.2.2.1 (z_sin (t := 4) hj (by decide) hL) dL_law_1273 ?_
  refine iv_L_140 hc hI (c_X7_rots e2) (by decide) hl.1 (Nat.le_of_ble_eq_true rfl) hcs dL_law_1274 (fun H locs hI => ?_)
  refine W.lcmp hx hb dL_law_1277 ?_
  refine lv_if_eq (tgt := 1520) hx hb dL_law_1278 (by decide) (fun _ => ?_) (fun c1 => absurd (z_cmp0 r) c1)
  exact kk N2 H locs ls hR2 hI hl
set_option maxRecDepth 100000 in
set_option maxHeartbeats 4000000 in
theorem lc_30 (hL : L ≤ 4096) (hc : z_C p s m #[Value.ref b] meth c RL code 4 ret) (hX : va_X b L xs s s.heap) (hbl : b < s.heap.size) (hbA : ¬ z_A G b) (hcs : cells ≤ room_1.cells ∧ slots ≤ room_1.slots) (hj : 8 * j + 8 ≤ L) (hR : z_Rel M) (hI : z_I G s M H locs) (hl : lv_has ls 4 [(0, .ref b), (1, .ref (z_ad G 0 0)), (2, .ref (z_ad G 21 0)), (3, .int (nI (8 * j)))]) (kk : ∀ (M : z_M) (H : Heap) (locs : List Loc) (ls : Array Slot), z_Rel M → z_I G s M H locs → lv_has ls 4 [(0, .ref b), (1, .ref (z_ad G 0 0)), (2, .ref (z_ad G 21 0)), (3, .int (nI (8 * j)))] → W p l e room_1 s m #[Value.ref b] below meth c H locs cells slots Q (F0 m 1520 ls [])) : W p l e room_1 s m #[Value.ref b] below meth c H locs cells slots Q (F0 m 1283 ls []) := by
  obtain ⟨⟨hx, hb, hml, hown, hts⟩, hr, hlk⟩ := id hc
  refine lv_aload_n hx hb dL_law_1283 rfl (lv_at hl 1 rfl) ?_
  refine lv_aload_n hx hb dL_law_1284 rfl (lv_at hl 0 rfl) ?_
  refine lv_iload_n hx hb dL_law_1285 rfl (lv_at hl 3 rfl) ?_
  refine lv_iconst (v := 1) hx hb dL_law_1286 (by decide) ?_
  refine lv_iadd hx hb dL_law_1287 ?_
  refine va_sld hx hb hX hbl hbA hI.2.2.2.1 (z_sin (t := 1) hj (by decide) hL) dL_law_1288 ?_
  refine lv_aload_n hx hb dL_law_1289 rfl (lv_at hl 0 rfl) ?_
  refine lv_iload_n hx hb dL_law_1290 rfl (lv_at hl 3 rfl) ?_
  refine lv_iconst (v := 2) hx hb dL_law_1291 (by decide) ?_
  refine lv_iadd hx hb dL_law_1292 ?_
  refine va_sld hx hb hX hbl hbA hI.2.2.2.1 (z_sin (t := 2) hj (by decide) hL) dL_law_1293 ?_
  refine lv_aload_n hx hb dL_law_1294 rfl (lv_at hl 0 rfl) ?_
  refine lv_iload_n hx hb dL_law_1295 rfl (lv_at hl 3 rfl) ?_
  refine lv_iconst (v := 3) hx hb dL_law_1296 (by decide) ?_
  refine lv_iadd hx hb dL_law_1297 ?_
  refine va_sld hx hb hX hbl hbA hI.2.2.2.1 (z_sin (t := 3) hj (by decide) hL) dL_law_1298 ?_
  obtain ⟨r, N1, N2, e1, e2, hR2⟩ := eq_drawn hR (z_xs xs j 1) (z_xs xs j 2) (z_xs xs j 3)
  refine iv_L_141 hc hI (c_X6_drawn e1) (by decide) hl.1 (Nat.le_of_ble_eq_true rfl) hcs dL_law_1299 (fun H locs hI => ?_)
  refine lv_aload_n hx hb dL_law_1302 rfl (lv_at hl 2 rfl) ?_
  refine lv_aload_n hx hb dL_law_1303 rfl (lv_at hl 0 rfl) ?_
  refine lv_iload_n hx hb dL_law_1304 rfl (lv_at hl 3 rfl) ?_
  refine lv_iconst (v := 1) hx hb dL_law_1305 (by decide) ?_
  refine lv_iadd hx hb dL_law_1306 ?_
  refine va_sld hx hb hX hbl hbA hI.2.2.2.1 (z_sin (t := 1) hj (by decide) hL) dL_law_1307 ?_
  refine lv_aload_n hx hb dL_law_1308 rfl (lv_at hl 0 rfl) ?_
  refine lv_iload_n hx hb dL_law_1309 rfl (lv_at hl 3 rfl) ?_
  refine lv_iconst (v := 2) hx hb dL_law_1310 (by decide) ?_
  refine lv_iadd hx hb dL_law_1311 ?_
  refine va_sld hx hb hX hbl hbA hI.2.2.2.1 (z_sin (t := 2) hj (by decide) hL) dL_law_1312 ?_
  refine lv_aload_n hx hb dL_law_1313 rfl (lv_at hl 0 rfl) ?_
  refine lv_iload_n hx hb dL_law_1314 rfl (lv_at hl 3 rfl) ?_
  refine lv_iconst (v := 3) hx hb dL_law_1315 (by decide) ?_
  refine lv_iadd hx hb dL_law_1316 ?_
  refine va_sld hx hb hX hbl hbA hI.2.2.2.1 (z_sin (t := 3) hj (by decide) hL) dL_law_1317 ?_
  refine iv_L_144 hc hI (c_X7_drawn e2) (by decide) hl.1 (Nat.le_of_ble_eq_true rfl) hcs dL_law_1318 (fun H locs hI => ?_)
  refine lv_icmp_eq (tgt := 1520) hx hb dL_law_1321 (by decide) (fun _ => ?_) (fun c1 => absurd rfl c1)
  exact kk N2 H locs ls hR2 hI hl
set_option maxRecDepth 100000 in
set_option maxHeartbeats 4000000 in
theorem lc_31 (hL : L ≤ 4096) (hc : z_C p s m #[Value.ref b] meth c RL code 4 ret) (hX : va_X b L xs s s.heap) (hbl : b < s.heap.size) (hbA : ¬ z_A G b) (hcs : cells ≤ room_1.cells ∧ slots ≤ room_1.slots) (hj : 8 * j + 8 ≤ L) (hR : z_Rel M) (hI : z_I G s M H locs) (hl : lv_has ls 4 [(0, .ref b), (1, .ref (z_ad G 0 0)), (2, .ref (z_ad G 21 0)), (3, .int (nI (8 * j)))]) (kk : ∀ (M : z_M) (H : Heap) (locs : List Loc) (ls : Array Slot), z_Rel M → z_I G s M H locs → lv_has ls 4 [(0, .ref b), (1, .ref (z_ad G 0 0)), (2, .ref (z_ad G 21 0)), (3, .int (nI (8 * j)))] → W p l e room_1 s m #[Value.ref b] below meth c H locs cells slots Q (F0 m 1520 ls [])) : W p l e room_1 s m #[Value.ref b] below meth c H locs cells slots Q (F0 m 1326 ls []) := by
  obtain ⟨⟨hx, hb, hml, hown, hts⟩, hr, hlk⟩ := id hc
  refine lv_aload_n hx hb dL_law_1326 rfl (lv_at hl 1 rfl) ?_
  refine lv_aload_n hx hb dL_law_1327 rfl (lv_at hl 0 rfl) ?_
  refine lv_iload_n hx hb dL_law_1328 rfl (lv_at hl 3 rfl) ?_
  refine lv_iconst (v := 1) hx hb dL_law_1329 (by decide) ?_
  refine lv_iadd hx hb dL_law_1330 ?_
  refine va_sld hx hb hX hbl hbA hI.2.2.2.1 (z_sin (t := 1) hj (by decide) hL) dL_law_1331 ?_
  obtain ⟨r, N1, N2, e1, e2, hR2⟩ := eq_image hR (z_xs xs j 1)
  refine iv_L_145 hc hI (c_X6_image e1) (by decide) hl.1 (Nat.le_of_ble_eq_true rfl) hcs dL_law_1332 (fun H locs hI => ?_)
  refine lv_aload_n hx hb dL_law_1335 rfl (lv_at hl 2 rfl) ?_
  refine lv_aload_n hx hb dL_law_1336 rfl (lv_at hl 0 rfl) ?_
  refine lv_iload_n hx hb dL_law_1337 rfl (lv_at hl 3 rfl) ?_
  refine lv_iconst (v := 1) hx hb dL_law_1338 (by decide) ?_
  refine lv_iadd hx hb dL_law_1339 ?_
  refine va_sld hx hb hX hbl hbA hI.2.2.2.1 (z_sin (t := 1) hj (by decide) hL) dL_law_1340 ?_
  refine iv_L_148 hc hI (c_X7_image e2) (by decide) hl.1 (Nat.le_of_ble_eq_true rfl) hcs dL_law_1341 (fun H locs hI => ?_)
  refine lv_icmp_eq (tgt := 1520) hx hb dL_law_1344 (by decide) (fun _ => ?_) (fun c1 => absurd rfl c1)
  exact kk N2 H locs ls hR2 hI hl
set_option maxRecDepth 100000 in
set_option maxHeartbeats 4000000 in
theorem lc_32 (hL : L ≤ 4096) (hc : z_C p s m #[Value.ref b] meth c RL code 4 ret) (hX : va_X b L xs s s.heap) (hbl : b < s.heap.size) (hbA : ¬ z_A G b) (hcs : cells ≤ room_1.cells ∧ slots ≤ room_1.slots) (hj : 8 * j + 8 ≤ L) (hR : z_Rel M) (hI : z_I G s M H locs) (hl : lv_has ls 4 [(0, .ref b), (1, .ref (z_ad G 0 0)), (2, .ref (z_ad G 21 0)), (3, .int (nI (8 * j)))]) (kk : ∀ (M : z_M) (H : Heap) (locs : List Loc) (ls : Array Slot), z_Rel M → z_I G s M H locs → lv_has ls 4 [(0, .ref b), (1, .ref (z_ad G 0 0)), (2, .ref (z_ad G 21 0)), (3, .int (nI (8 * j)))] → W p l e room_1 s m #[Value.ref b] below meth c H locs cells slots Q (F0 m 1520 ls [])) : W p l e room_1 s m #[Value.ref b] below meth c H locs cells slots Q (F0 m 1349 ls []) := by
  obtain ⟨⟨hx, hb, hml, hown, hts⟩, hr, hlk⟩ := id hc
  refine lv_aload_n hx hb dL_law_1349 rfl (lv_at hl 1 rfl) ?_
  refine lv_aload_n hx hb dL_law_1350 rfl (lv_at hl 0 rfl) ?_
  refine lv_iload_n hx hb dL_law_1351 rfl (lv_at hl 3 rfl) ?_
  refine lv_iconst (v := 1) hx hb dL_law_1352 (by decide) ?_
  refine lv_iadd hx hb dL_law_1353 ?_
  refine va_sld hx hb hX hbl hbA hI.2.2.2.1 (z_sin (t := 1) hj (by decide) hL) dL_law_1354 ?_
  obtain ⟨r, N1, N2, e1, e2, hR2⟩ := eq_restore hR (z_xs xs j 1)
  refine iv_L_149 hc hI (c_X6_restore e1) (by decide) hl.1 (Nat.le_of_ble_eq_true rfl) hcs dL_law_1355 (fun H locs hI => ?_)
  refine lv_aload_n hx hb dL_law_1358 rfl (lv_at hl 2 rfl) ?_
  refine lv_aload_n hx hb dL_law_1359 rfl (lv_at hl 0 rfl) ?_
  refine lv_iload_n hx hb dL_law_1360 rfl (lv_at hl 3 rfl) ?_
  refine lv_iconst (v := 1) hx hb dL_law_1361 (by decide) ?_
  refine lv_iadd hx hb dL_law_1362 ?_
  refine va_sld hx hb hX hbl hbA hI.2.2.2.1 (z_sin (t := 1) hj (by decide) hL) dL_law_1363 ?_
  refine iv_L_152 hc hI (c_X7_restore e2) (by decide) hl.1 (Nat.le_of_ble_eq_true rfl) hcs dL_law_1364 (fun H locs hI => ?_)
  refine lv_icmp_eq (tgt := 1520) hx hb dL_law_1367 (by decide) (fun _ => ?_) (fun c1 => absurd rfl c1)
  exact kk N2 H locs ls hR2 hI hl
set_option maxRecDepth 100000 in
set_option maxHeartbeats 4000000 in
theorem lc_33 (hL : L ≤ 4096) (hc : z_C p s m #[Value.ref b] meth c RL code 4 ret) (hX : va_X b L xs s s.heap) (hbl : b < s.heap.size) (hbA : ¬ z_A G b) (hcs : cells ≤ room_1.cells ∧ slots ≤ room_1.slots) (hj : 8 * j + 8 ≤ L) (hR : z_Rel M) (hI : z_I G s M H locs) (hl : lv_has ls 4 [(0, .ref b), (1, .ref (z_ad G 0 0)), (2, .ref (z_ad G 21 0)), (3, .int (nI (8 * j)))]) (kk : ∀ (M : z_M) (H : Heap) (locs : List Loc) (ls : Array Slot), z_Rel M → z_I G s M H locs → lv_has ls 4 [(0, .ref b), (1, .ref (z_ad G 0 0)), (2, .ref (z_ad G 21 0)), (3, .int (nI (8 * j)))] → W p l e room_1 s m #[Value.ref b] below meth c H locs cells slots Q (F0 m 1520 ls [])) : W p l e room_1 s m #[Value.ref b] below meth c H locs cells slots Q (F0 m 1372 ls []) := by
  obtain ⟨⟨hx, hb, hml, hown, hts⟩, hr, hlk⟩ := id hc
  refine lv_aload_n hx hb dL_law_1372 rfl (lv_at hl 1 rfl) ?_
  refine lv_aload_n hx hb dL_law_1373 rfl (lv_at hl 0 rfl) ?_
  refine lv_iload_n hx hb dL_law_1374 rfl (lv_at hl 3 rfl) ?_
  refine lv_iconst (v := 1) hx hb dL_law_1375 (by decide) ?_
  refine lv_iadd hx hb dL_law_1376 ?_
  refine va_sld hx hb hX hbl hbA hI.2.2.2.1 (z_sin (t := 1) hj (by decide) hL) dL_law_1377 ?_
  obtain ⟨r, e1, e2⟩ := eq_kind hR (z_xs xs j 1)
  refine iv_L_153 hc hI (c_X6_kind e1) (by decide) hl.1 (Nat.le_of_ble_eq_true rfl) hcs dL_law_1378 (fun H locs hI => ?_)
  refine lv_aload_n hx hb dL_law_1381 rfl (lv_at hl 2 rfl) ?_
  refine lv_aload_n hx hb dL_law_1382 rfl (lv_at hl 0 rfl) ?_
  refine lv_iload_n hx hb dL_law_1383 rfl (lv_at hl 3 rfl) ?_
  refine lv_iconst (v := 1) hx hb dL_law_1384 (by decide) ?_
  refine lv_iadd hx hb dL_law_1385 ?_
  refine va_sld hx hb hX hbl hbA hI.2.2.2.1 (z_sin (t := 1) hj (by decide) hL) dL_law_1386 ?_
  refine iv_L_156 hc hI (c_X7_kind e2) (by decide) hl.1 (Nat.le_of_ble_eq_true rfl) hcs dL_law_1387 (fun H locs hI => ?_)
  refine lv_icmp_eq (tgt := 1520) hx hb dL_law_1390 (by decide) (fun _ => ?_) (fun c1 => absurd rfl c1)
  exact kk M H locs ls hR hI hl
set_option maxRecDepth 100000 in
set_option maxHeartbeats 4000000 in
theorem lc_34 (hL : L ≤ 4096) (hc : z_C p s m #[Value.ref b] meth c RL code 4 ret) (hX : va_X b L xs s s.heap) (hbl : b < s.heap.size) (hbA : ¬ z_A G b) (hcs : cells ≤ room_1.cells ∧ slots ≤ room_1.slots) (hj : 8 * j + 8 ≤ L) (hR : z_Rel M) (hI : z_I G s M H locs) (hl : lv_has ls 4 [(0, .ref b), (1, .ref (z_ad G 0 0)), (2, .ref (z_ad G 21 0)), (3, .int (nI (8 * j)))]) (kk : ∀ (M : z_M) (H : Heap) (locs : List Loc) (ls : Array Slot), z_Rel M → z_I G s M H locs → lv_has ls 4 [(0, .ref b), (1, .ref (z_ad G 0 0)), (2, .ref (z_ad G 21 0)), (3, .int (nI (8 * j)))] → W p l e room_1 s m #[Value.ref b] below meth c H locs cells slots Q (F0 m 1520 ls [])) : W p l e room_1 s m #[Value.ref b] below meth c H locs cells slots Q (F0 m 1395 ls []) := by
  obtain ⟨⟨hx, hb, hml, hown, hts⟩, hr, hlk⟩ := id hc
  refine lv_aload_n hx hb dL_law_1395 rfl (lv_at hl 1 rfl) ?_
  refine lv_aload_n hx hb dL_law_1396 rfl (lv_at hl 0 rfl) ?_
  refine lv_iload_n hx hb dL_law_1397 rfl (lv_at hl 3 rfl) ?_
  refine lv_iconst (v := 1) hx hb dL_law_1398 (by decide) ?_
  refine lv_iadd hx hb dL_law_1399 ?_
  refine va_sld hx hb hX hbl hbA hI.2.2.2.1 (z_sin (t := 1) hj (by decide) hL) dL_law_1400 ?_
  refine lv_aload_n hx hb dL_law_1401 rfl (lv_at hl 0 rfl) ?_
  refine lv_iload_n hx hb dL_law_1402 rfl (lv_at hl 3 rfl) ?_
  refine lv_iconst (v := 2) hx hb dL_law_1403 (by decide) ?_
  refine lv_iadd hx hb dL_law_1404 ?_
  refine va_sld hx hb hX hbl hbA hI.2.2.2.1 (z_sin (t := 2) hj (by decide) hL) dL_law_1405 ?_
  obtain ⟨r, N1, N2, e1, e2, hR2⟩ := eq_as hR (z_xs xs j 1) (z_xs xs j 2)
  refine iv_L_157 hc hI (c_X6_as e1) (by decide) hl.1 (Nat.le_of_ble_eq_true rfl) hcs dL_law_1406 (fun H locs hI => ?_)
  refine lv_aload_n hx hb dL_law_1409 rfl (lv_at hl 2 rfl) ?_
  refine lv_aload_n hx hb dL_law_1410 rfl (lv_at hl 0 rfl) ?_
  refine lv_iload_n hx hb dL_law_1411 rfl (lv_at hl 3 rfl) ?_
  refine lv_iconst (v := 1) hx hb dL_law_1412 (by decide) ?_
  refine lv_iadd hx hb dL_law_1413 ?_
  refine va_sld hx hb hX hbl hbA hI.2.2.2.1 (z_sin (t := 1) hj (by decide) hL) dL_law_1414 ?_
  refine lv_aload_n hx hb dL_law_1415 rfl (lv_at hl 0 rfl) ?_
  refine lv_iload_n hx hb dL_law_1416 rfl (lv_at hl 3 rfl) ?_
  refine lv_iconst (v := 2) hx hb dL_law_1417 (by decide) ?_
  refine lv_iadd hx hb dL_law_1418 ?_
  refine va_sld hx hb hX hbl hbA hI.2.2.2.1 (z_sin (t := 2) hj (by decide) hL) dL_law_1419 ?_
  refine iv_L_160 hc hI (c_X7_as e2) (by decide) hl.1 (Nat.le_of_ble_eq_true rfl) hcs dL_law_1420 (fun H locs hI => ?_)
  refine lv_icmp_eq (tgt := 1520) hx hb dL_law_1423 (by decide) (fun _ => ?_) (fun c1 => absurd rfl c1)
  exact kk N2 H locs ls hR2 hI hl
set_option maxRecDepth 100000 in
set_option maxHeartbeats 4000000 in
theorem lc_35 (hL : L ≤ 4096) (hc : z_C p s m #[Value.ref b] meth c RL code 4 ret) (hX : va_X b L xs s s.heap) (hbl : b < s.heap.size) (hbA : ¬ z_A G b) (hcs : cells ≤ room_1.cells ∧ slots ≤ room_1.slots) (hj : 8 * j + 8 ≤ L) (hR : z_Rel M) (hI : z_I G s M H locs) (hl : lv_has ls 4 [(0, .ref b), (1, .ref (z_ad G 0 0)), (2, .ref (z_ad G 21 0)), (3, .int (nI (8 * j)))]) (kk : ∀ (M : z_M) (H : Heap) (locs : List Loc) (ls : Array Slot), z_Rel M → z_I G s M H locs → lv_has ls 4 [(0, .ref b), (1, .ref (z_ad G 0 0)), (2, .ref (z_ad G 21 0)), (3, .int (nI (8 * j)))] → W p l e room_1 s m #[Value.ref b] below meth c H locs cells slots Q (F0 m 1520 ls [])) : W p l e room_1 s m #[Value.ref b] below meth c H locs cells slots Q (F0 m 1428 ls []) := by
  obtain ⟨⟨hx, hb, hml, hown, hts⟩, hr, hlk⟩ := id hc
  refine lv_aload_n hx hb dL_law_1428 rfl (lv_at hl 1 rfl) ?_
  refine lv_aload_n hx hb dL_law_1429 rfl (lv_at hl 0 rfl) ?_
  refine lv_iload_n hx hb dL_law_1430 rfl (lv_at hl 3 rfl) ?_
  refine lv_iconst (v := 1) hx hb dL_law_1431 (by decide) ?_
  refine lv_iadd hx hb dL_law_1432 ?_
  refine va_sld hx hb hX hbl hbA hI.2.2.2.1 (z_sin (t := 1) hj (by decide) hL) dL_law_1433 ?_
  refine lv_aload_n hx hb dL_law_1434 rfl (lv_at hl 0 rfl) ?_
  refine lv_iload_n hx hb dL_law_1435 rfl (lv_at hl 3 rfl) ?_
  refine lv_iconst (v := 2) hx hb dL_law_1436 (by decide) ?_
  refine lv_iadd hx hb dL_law_1437 ?_
  refine va_sld hx hb hX hbl hbA hI.2.2.2.1 (z_sin (t := 2) hj (by decide) hL) dL_law_1438 ?_
  obtain ⟨r, N1, N2, e1, e2, hR2⟩ := eq_ask hR (z_xs xs j 1) (z_xs xs j 2)
  refine iv_L_161 hc hI (c_X6_ask e1) (by decide) hl.1 (Nat.le_of_ble_eq_true rfl) hcs dL_law_1439 (fun H locs hI => ?_)
  refine lv_aload_n hx hb dL_law_1442 rfl (lv_at hl 2 rfl) ?_
  refine lv_aload_n hx hb dL_law_1443 rfl (lv_at hl 0 rfl) ?_
  refine lv_iload_n hx hb dL_law_1444 rfl (lv_at hl 3 rfl) ?_
  refine lv_iconst (v := 1) hx hb dL_law_1445 (by decide) ?_
  refine lv_iadd hx hb dL_law_1446 ?_
  refine va_sld hx hb hX hbl hbA hI.2.2.2.1 (z_sin (t := 1) hj (by decide) hL) dL_law_1447 ?_
  refine lv_aload_n hx hb dL_law_1448 rfl (lv_at hl 0 rfl) ?_
  refine lv_iload_n hx hb dL_law_1449 rfl (lv_at hl 3 rfl) ?_
  refine lv_iconst (v := 2) hx hb dL_law_1450 (by decide) ?_
  refine lv_iadd hx hb dL_law_1451 ?_
  refine va_sld hx hb hX hbl hbA hI.2.2.2.1 (z_sin (t := 2) hj (by decide) hL) dL_law_1452 ?_
  refine iv_L_164 hc hI (c_X7_ask e2) (by decide) hl.1 (Nat.le_of_ble_eq_true rfl) hcs dL_law_1453 (fun H locs hI => ?_)
  refine lv_icmp_eq (tgt := 1520) hx hb dL_law_1456 (by decide) (fun _ => ?_) (fun c1 => absurd rfl c1)
  exact kk N2 H locs ls hR2 hI hl
set_option maxRecDepth 100000 in
set_option maxHeartbeats 4000000 in
theorem lc_36 (hL : L ≤ 4096) (hc : z_C p s m #[Value.ref b] meth c RL code 4 ret) (hX : va_X b L xs s s.heap) (hbl : b < s.heap.size) (hbA : ¬ z_A G b) (hcs : cells ≤ room_1.cells ∧ slots ≤ room_1.slots) (hj : 8 * j + 8 ≤ L) (hR : z_Rel M) (hI : z_I G s M H locs) (hl : lv_has ls 4 [(0, .ref b), (1, .ref (z_ad G 0 0)), (2, .ref (z_ad G 21 0)), (3, .int (nI (8 * j)))]) (kk : ∀ (M : z_M) (H : Heap) (locs : List Loc) (ls : Array Slot), z_Rel M → z_I G s M H locs → lv_has ls 4 [(0, .ref b), (1, .ref (z_ad G 0 0)), (2, .ref (z_ad G 21 0)), (3, .int (nI (8 * j)))] → W p l e room_1 s m #[Value.ref b] below meth c H locs cells slots Q (F0 m 1520 ls [])) : W p l e room_1 s m #[Value.ref b] below meth c H locs cells slots Q (F0 m 1461 ls []) := by
  obtain ⟨⟨hx, hb, hml, hown, hts⟩, hr, hlk⟩ := id hc
  refine lv_aload_n hx hb dL_law_1461 rfl (lv_at hl 1 rfl) ?_
  refine lv_aload_n hx hb dL_law_1462 rfl (lv_at hl 0 rfl) ?_
  refine lv_iload_n hx hb dL_law_1463 rfl (lv_at hl 3 rfl) ?_
  refine lv_iconst (v := 1) hx hb dL_law_1464 (by decide) ?_
  refine lv_iadd hx hb dL_law_1465 ?_
  refine va_sld hx hb hX hbl hbA hI.2.2.2.1 (z_sin (t := 1) hj (by decide) hL) dL_law_1466 ?_
  obtain ⟨r, e1, e2⟩ := eq_trace hR (z_xs xs j 1)
  refine iv_L_165 hc hI (c_X6_trace e1) (by decide) hl.1 (Nat.le_of_ble_eq_true rfl) hcs dL_law_1467 (fun H locs hI => ?_)
  refine lv_aload_n hx hb dL_law_1470 rfl (lv_at hl 2 rfl) ?_
  refine lv_aload_n hx hb dL_law_1471 rfl (lv_at hl 0 rfl) ?_
  refine lv_iload_n hx hb dL_law_1472 rfl (lv_at hl 3 rfl) ?_
  refine lv_iconst (v := 1) hx hb dL_law_1473 (by decide) ?_
  refine lv_iadd hx hb dL_law_1474 ?_
  refine va_sld hx hb hX hbl hbA hI.2.2.2.1 (z_sin (t := 1) hj (by decide) hL) dL_law_1475 ?_
  refine iv_L_168 hc hI (c_X7_trace e2) (by decide) hl.1 (Nat.le_of_ble_eq_true rfl) hcs dL_law_1476 (fun H locs hI => ?_)
  refine lv_icmp_eq (tgt := 1520) hx hb dL_law_1479 (by decide) (fun _ => ?_) (fun c1 => absurd rfl c1)
  exact kk M H locs ls hR hI hl
set_option maxRecDepth 100000 in
set_option maxHeartbeats 4000000 in
theorem lc_37 (hL : L ≤ 4096) (hc : z_C p s m #[Value.ref b] meth c RL code 4 ret) (hX : va_X b L xs s s.heap) (hbl : b < s.heap.size) (hbA : ¬ z_A G b) (hcs : cells ≤ room_1.cells ∧ slots ≤ room_1.slots) (hj : 8 * j + 8 ≤ L) (hR : z_Rel M) (hI : z_I G s M H locs) (hl : lv_has ls 4 [(0, .ref b), (1, .ref (z_ad G 0 0)), (2, .ref (z_ad G 21 0)), (3, .int (nI (8 * j)))]) (kk : ∀ (M : z_M) (H : Heap) (locs : List Loc) (ls : Array Slot), z_Rel M → z_I G s M H locs → lv_has ls 4 [(0, .ref b), (1, .ref (z_ad G 0 0)), (2, .ref (z_ad G 21 0)), (3, .int (nI (8 * j)))] → W p l e room_1 s m #[Value.ref b] below meth c H locs cells slots Q (F0 m 1520 ls [])) : W p l e room_1 s m #[Value.ref b] below meth c H locs cells slots Q (F0 m 1484 ls []) := by
  obtain ⟨⟨hx, hb, hml, hown, hts⟩, hr, hlk⟩ := id hc
  refine lv_aload_n hx hb dL_law_1484 rfl (lv_at hl 1 rfl) ?_
  refine lv_aload_n hx hb dL_law_1485 rfl (lv_at hl 0 rfl) ?_
  refine lv_iload_n hx hb dL_law_1486 rfl (lv_at hl 3 rfl) ?_
  refine lv_iconst (v := 1) hx hb dL_law_1487 (by decide) ?_
  refine lv_iadd hx hb dL_law_1488 ?_
  refine va_sld hx hb hX hbl hbA hI.2.2.2.1 (z_sin (t := 1) hj (by decide) hL) dL_law_1489 ?_
  obtain ⟨r, e1, e2⟩ := eq_count hR (z_xs xs j 1)
  refine iv_L_169 hc hI (c_X6_count e1) (by decide) hl.1 (Nat.le_of_ble_eq_true rfl) hcs dL_law_1490 (fun H locs hI => ?_)
  refine lv_aload_n hx hb dL_law_1493 rfl (lv_at hl 2 rfl) ?_
  refine lv_aload_n hx hb dL_law_1494 rfl (lv_at hl 0 rfl) ?_
  refine lv_iload_n hx hb dL_law_1495 rfl (lv_at hl 3 rfl) ?_
  refine lv_iconst (v := 1) hx hb dL_law_1496 (by decide) ?_
  refine lv_iadd hx hb dL_law_1497 ?_
  refine va_sld hx hb hX hbl hbA hI.2.2.2.1 (z_sin (t := 1) hj (by decide) hL) dL_law_1498 ?_
  refine iv_L_172 hc hI (c_X7_count e2) (by decide) hl.1 (Nat.le_of_ble_eq_true rfl) hcs dL_law_1499 (fun H locs hI => ?_)
  refine lv_icmp_eq (tgt := 1520) hx hb dL_law_1502 (by decide) (fun _ => ?_) (fun c1 => absurd rfl c1)
  exact kk M H locs ls hR hI hl
set_option maxRecDepth 100000 in
set_option maxHeartbeats 4000000 in
theorem lc_38 (hL : L ≤ 4096) (hc : z_C p s m #[Value.ref b] meth c RL code 4 ret) (hX : va_X b L xs s s.heap) (hbl : b < s.heap.size) (hbA : ¬ z_A G b) (hcs : cells ≤ room_1.cells ∧ slots ≤ room_1.slots) (hj : 8 * j + 8 ≤ L) (hR : z_Rel M) (hI : z_I G s M H locs) (hl : lv_has ls 4 [(0, .ref b), (1, .ref (z_ad G 0 0)), (2, .ref (z_ad G 21 0)), (3, .int (nI (8 * j)))]) (kk : ∀ (M : z_M) (H : Heap) (locs : List Loc) (ls : Array Slot), z_Rel M → z_I G s M H locs → lv_has ls 4 [(0, .ref b), (1, .ref (z_ad G 0 0)), (2, .ref (z_ad G 21 0)), (3, .int (nI (8 * j)))] → W p l e room_1 s m #[Value.ref b] below meth c H locs cells slots Q (F0 m 1520 ls [])) : W p l e room_1 s m #[Value.ref b] below meth c H locs cells slots Q (F0 m 1507 ls []) := by
  obtain ⟨⟨hx, hb, hml, hown, hts⟩, hr, hlk⟩ := id hc
  refine lv_aload_n hx hb dL_law_1507 rfl (lv_at hl 1 rfl) ?_
  obtain ⟨r, e1, e2⟩ := eq_status hR
  refine iv_L_173 hc hI (c_X6_status e1) (by decide) hl.1 (Nat.le_of_ble_eq_true rfl) hcs dL_law_1508 (fun H locs hI => ?_)
  refine lv_aload_n hx hb dL_law_1511 rfl (lv_at hl 2 rfl) ?_
  refine iv_L_176 hc hI (c_X7_status e2) (by decide) hl.1 (Nat.le_of_ble_eq_true rfl) hcs dL_law_1512 (fun H locs hI => ?_)
  refine lv_icmp_eq (tgt := 1520) hx hb dL_law_1515 (by decide) (fun _ => ?_) (fun c1 => absurd rfl c1)
  exact kk M H locs ls hR hI hl
set_option maxRecDepth 100000 in
set_option maxHeartbeats 8000000 in
theorem lc_body (hL : L ≤ 4096) (hc : z_C p s m #[Value.ref b] meth c RL code 4 ret) (hX : va_X b L xs s s.heap) (hbl : b < s.heap.size) (hbA : ¬ z_A G b) (hcs : cells ≤ room_1.cells ∧ slots ≤ room_1.slots) (hj : 8 * j + 8 ≤ L) (hR : z_Rel M) (hI : z_I G s M H locs) (hl : lv_has ls 4 [(0, .ref b), (1, .ref (z_ad G 0 0)), (2, .ref (z_ad G 21 0)), (3, .int (nI (8 * j)))]) (kk : ∀ (M : z_M) (H : Heap) (locs : List Loc) (ls : Array Slot), z_Rel M → z_I G s M H locs → lv_has ls 4 [(0, .ref b), (1, .ref (z_ad G 0 0)), (2, .ref (z_ad G 21 0)), (3, .int (nI (8 * j)))] → W p l e room_1 s m #[Value.ref b] below meth c H locs cells slots Q (F0 m 1520 ls [])) : W p l e room_1 s m #[Value.ref b] below meth c H locs cells slots Q (F0 m 27 ls []) := by
  obtain ⟨⟨hx, hb, hml, hown, hts⟩, hr, hlk⟩ := id hc
  refine lv_aload_n hx hb dL_law_27 rfl (lv_at hl 0 rfl) ?_
  refine lv_iload_n hx hb dL_law_28 rfl (lv_at hl 3 rfl) ?_
  refine va_sld hx hb hX hbl hbA hI.2.2.2.1 (z_sin (t := 0) hj (by decide) hL) dL_law_29 ?_
  refine lv_bipush (v := 63) hx hb dL_law_30 (by decide) ?_
  refine lv_iand hx hb dL_law_32 ?_
  by_cases c0 : (xs (nI (8 * j)).toNatClampNeg &&& 63) = 0
  · refine lv_tableIn (off := 171) (tgt := 204) hx hb dL_law_33 (by rw [c0]; decide) (by rw [c0]; decide) (by rw [c0]; rfl) (by decide) ?_
    exact lc_0 hL hc hX hbl hbA hcs hj hR hI hl kk
  by_cases c1 : (xs (nI (8 * j)).toNatClampNeg &&& 63) = 1
  · refine lv_tableIn (off := 214) (tgt := 247) hx hb dL_law_33 (by rw [c1]; decide) (by rw [c1]; decide) (by rw [c1]; rfl) (by decide) ?_
    exact lc_1 hL hc hX hbl hbA hcs hj hR hI hl kk
  by_cases c2 : (xs (nI (8 * j)).toNatClampNeg &&& 63) = 2
  · refine lv_tableIn (off := 257) (tgt := 290) hx hb dL_law_33 (by rw [c2]; decide) (by rw [c2]; decide) (by rw [c2]; rfl) (by decide) ?_
    exact lc_2 hL hc hX hbl hbA hcs hj hR hI hl kk
  by_cases c3 : (xs (nI (8 * j)).toNatClampNeg &&& 63) = 3
  · refine lv_tableIn (off := 320) (tgt := 353) hx hb dL_law_33 (by rw [c3]; decide) (by rw [c3]; decide) (by rw [c3]; rfl) (by decide) ?_
    exact lc_3 hL hc hX hbl hbA hcs hj hR hI hl kk
  by_cases c4 : (xs (nI (8 * j)).toNatClampNeg &&& 63) = 4
  · refine lv_tableIn (off := 343) (tgt := 376) hx hb dL_law_33 (by rw [c4]; decide) (by rw [c4]; decide) (by rw [c4]; rfl) (by decide) ?_
    exact lc_4 hL hc hX hbl hbA hcs hj hR hI hl kk
  by_cases c5 : (xs (nI (8 * j)).toNatClampNeg &&& 63) = 5
  · refine lv_tableIn (off := 366) (tgt := 399) hx hb dL_law_33 (by rw [c5]; decide) (by rw [c5]; decide) (by rw [c5]; rfl) (by decide) ?_
    exact lc_5 hL hc hX hbl hbA hcs hj hR hI hl kk
  by_cases c6 : (xs (nI (8 * j)).toNatClampNeg &&& 63) = 6
  · refine lv_tableIn (off := 379) (tgt := 412) hx hb dL_law_33 (by rw [c6]; decide) (by rw [c6]; decide) (by rw [c6]; rfl) (by decide) ?_
    exact lc_6 hL hc hX hbl hbA hcs hj hR hI hl kk
  by_cases c7 : (xs (nI (8 * j)).toNatClampNeg &&& 63) = 7
  · refine lv_tableIn (off := 392) (tgt := 425) hx hb dL_law_33 (by rw [c7]; decide) (by rw [c7]; decide) (by rw [c7]; rfl) (by decide) ?_
    exact lc_7 hL hc hX hbl hbA hcs hj hR hI hl kk
  by_cases c8 : (xs (nI (8 * j)).toNatClampNeg &&& 63) = 8
  · refine lv_tableIn (off := 405) (tgt := 438) hx hb dL_law_33 (by rw [c8]; decide) (by rw [c8]; decide) (by rw [c8]; rfl) (by decide) ?_
    exact lc_8 hL hc hX hbl hbA hcs hj hR hI hl kk
  by_cases c9 : (xs (nI (8 * j)).toNatClampNeg &&& 63) = 9
  · refine lv_tableIn (off := 428) (tgt := 461) hx hb dL_law_33 (by rw [c9]; decide) (by rw [c9]; decide) (by rw [c9]; rfl) (by decide) ?_
    exact lc_9 hL hc hX hbl hbA hcs hj hR hI hl kk
  by_cases c10 : (xs (nI (8 * j)).toNatClampNeg &&& 63) = 10
  · refine lv_tableIn (off := 461) (tgt := 494) hx hb dL_law_33 (by rw [c10]; decide) (by rw [c10]; decide) (by rw [c10]; rfl) (by decide) ?_
    exact lc_10 hL hc hX hbl hbA hcs hj hR hI hl kk
  by_cases c11 : (xs (nI (8 * j)).toNatClampNeg &&& 63) = 11
  · refine lv_tableIn (off := 484) (tgt := 517) hx hb dL_law_33 (by rw [c11]; decide) (by rw [c11]; decide) (by rw [c11]; rfl) (by decide) ?_
    exact lc_11 hL hc hX hbl hbA hcs hj hR hI hl kk
  by_cases c12 : (xs (nI (8 * j)).toNatClampNeg &&& 63) = 12
  · refine lv_tableIn (off := 527) (tgt := 560) hx hb dL_law_33 (by rw [c12]; decide) (by rw [c12]; decide) (by rw [c12]; rfl) (by decide) ?_
    exact lc_12 hL hc hX hbl hbA hcs hj hR hI hl kk
  by_cases c13 : (xs (nI (8 * j)).toNatClampNeg &&& 63) = 13
  · refine lv_tableIn (off := 570) (tgt := 603) hx hb dL_law_33 (by rw [c13]; decide) (by rw [c13]; decide) (by rw [c13]; rfl) (by decide) ?_
    exact lc_13 hL hc hX hbl hbA hcs hj hR hI hl kk
  by_cases c14 : (xs (nI (8 * j)).toNatClampNeg &&& 63) = 14
  · refine lv_tableIn (off := 603) (tgt := 636) hx hb dL_law_33 (by rw [c14]; decide) (by rw [c14]; decide) (by rw [c14]; rfl) (by decide) ?_
    exact lc_14 hL hc hX hbl hbA hcs hj hR hI hl kk
  by_cases c15 : (xs (nI (8 * j)).toNatClampNeg &&& 63) = 15
  · refine lv_tableIn (off := 636) (tgt := 669) hx hb dL_law_33 (by rw [c15]; decide) (by rw [c15]; decide) (by rw [c15]; rfl) (by decide) ?_
    exact lc_15 hL hc hX hbl hbA hcs hj hR hI hl kk
  by_cases c16 : (xs (nI (8 * j)).toNatClampNeg &&& 63) = 16
  · refine lv_tableIn (off := 669) (tgt := 702) hx hb dL_law_33 (by rw [c16]; decide) (by rw [c16]; decide) (by rw [c16]; rfl) (by decide) ?_
    exact lc_16 hL hc hX hbl hbA hcs hj hR hI hl kk
  by_cases c17 : (xs (nI (8 * j)).toNatClampNeg &&& 63) = 17
  · refine lv_tableIn (off := 702) (tgt := 735) hx hb dL_law_33 (by rw [c17]; decide) (by rw [c17]; decide) (by rw [c17]; rfl) (by decide) ?_
    exact lc_17 hL hc hX hbl hbA hcs hj hR hI hl kk
  by_cases c18 : (xs (nI (8 * j)).toNatClampNeg &&& 63) = 18
  · refine lv_tableIn (off := 735) (tgt := 768) hx hb dL_law_33 (by rw [c18]; decide) (by rw [c18]; decide) (by rw [c18]; rfl) (by decide) ?_
    exact lc_18 hL hc hX hbl hbA hcs hj hR hI hl kk
  by_cases c19 : (xs (nI (8 * j)).toNatClampNeg &&& 63) = 19
  · refine lv_tableIn (off := 778) (tgt := 811) hx hb dL_law_33 (by rw [c19]; decide) (by rw [c19]; decide) (by rw [c19]; rfl) (by decide) ?_
    exact lc_19 hL hc hX hbl hbA hcs hj hR hI hl kk
  by_cases c20 : (xs (nI (8 * j)).toNatClampNeg &&& 63) = 20
  · refine lv_tableIn (off := 801) (tgt := 834) hx hb dL_law_33 (by rw [c20]; decide) (by rw [c20]; decide) (by rw [c20]; rfl) (by decide) ?_
    exact lc_20 hL hc hX hbl hbA hcs hj hR hI hl kk
  by_cases c21 : (xs (nI (8 * j)).toNatClampNeg &&& 63) = 21
  · refine lv_tableIn (off := 834) (tgt := 867) hx hb dL_law_33 (by rw [c21]; decide) (by rw [c21]; decide) (by rw [c21]; rfl) (by decide) ?_
    exact lc_21 hL hc hX hbl hbA hcs hj hR hI hl kk
  by_cases c22 : (xs (nI (8 * j)).toNatClampNeg &&& 63) = 22
  · refine lv_tableIn (off := 857) (tgt := 890) hx hb dL_law_33 (by rw [c22]; decide) (by rw [c22]; decide) (by rw [c22]; rfl) (by decide) ?_
    exact lc_22 hL hc hX hbl hbA hcs hj hR hI hl kk
  by_cases c23 : (xs (nI (8 * j)).toNatClampNeg &&& 63) = 23
  · refine lv_tableIn (off := 880) (tgt := 913) hx hb dL_law_33 (by rw [c23]; decide) (by rw [c23]; decide) (by rw [c23]; rfl) (by decide) ?_
    exact lc_23 hL hc hX hbl hbA hcs hj hR hI hl kk
  by_cases c24 : (xs (nI (8 * j)).toNatClampNeg &&& 63) = 24
  · refine lv_tableIn (off := 923) (tgt := 956) hx hb dL_law_33 (by rw [c24]; decide) (by rw [c24]; decide) (by rw [c24]; rfl) (by decide) ?_
    exact lc_24 hL hc hX hbl hbA hcs hj hR hI hl kk
  by_cases c25 : (xs (nI (8 * j)).toNatClampNeg &&& 63) = 25
  · refine lv_tableIn (off := 946) (tgt := 979) hx hb dL_law_33 (by rw [c25]; decide) (by rw [c25]; decide) (by rw [c25]; rfl) (by decide) ?_
    exact lc_25 hL hc hX hbl hbA hcs hj hR hI hl kk
  by_cases c26 : (xs (nI (8 * j)).toNatClampNeg &&& 63) = 26
  · refine lv_tableIn (off := 969) (tgt := 1002) hx hb dL_law_33 (by rw [c26]; decide) (by rw [c26]; decide) (by rw [c26]; rfl) (by decide) ?_
    exact lc_26 hL hc hX hbl hbA hcs hj hR hI hl kk
  by_cases c27 : (xs (nI (8 * j)).toNatClampNeg &&& 63) = 27
  · refine lv_tableIn (off := 1022) (tgt := 1055) hx hb dL_law_33 (by rw [c27]; decide) (by rw [c27]; decide) (by rw [c27]; rfl) (by decide) ?_
    exact lc_27 hL hc hX hbl hbA hcs hj hR hI hl kk
  by_cases c28 : (xs (nI (8 * j)).toNatClampNeg &&& 63) = 28
  · refine lv_tableIn (off := 1109) (tgt := 1142) hx hb dL_law_33 (by rw [c28]; decide) (by rw [c28]; decide) (by rw [c28]; rfl) (by decide) ?_
    exact lc_28 hL hc hX hbl hbA hcs hj hR hI hl kk
  by_cases c29 : (xs (nI (8 * j)).toNatClampNeg &&& 63) = 29
  · refine lv_tableIn (off := 1196) (tgt := 1229) hx hb dL_law_33 (by rw [c29]; decide) (by rw [c29]; decide) (by rw [c29]; rfl) (by decide) ?_
    exact lc_29 hL hc hX hbl hbA hcs hj hR hI hl kk
  by_cases c30 : (xs (nI (8 * j)).toNatClampNeg &&& 63) = 30
  · refine lv_tableIn (off := 1250) (tgt := 1283) hx hb dL_law_33 (by rw [c30]; decide) (by rw [c30]; decide) (by rw [c30]; rfl) (by decide) ?_
    exact lc_30 hL hc hX hbl hbA hcs hj hR hI hl kk
  by_cases c31 : (xs (nI (8 * j)).toNatClampNeg &&& 63) = 31
  · refine lv_tableIn (off := 1293) (tgt := 1326) hx hb dL_law_33 (by rw [c31]; decide) (by rw [c31]; decide) (by rw [c31]; rfl) (by decide) ?_
    exact lc_31 hL hc hX hbl hbA hcs hj hR hI hl kk
  by_cases c32 : (xs (nI (8 * j)).toNatClampNeg &&& 63) = 32
  · refine lv_tableIn (off := 1316) (tgt := 1349) hx hb dL_law_33 (by rw [c32]; decide) (by rw [c32]; decide) (by rw [c32]; rfl) (by decide) ?_
    exact lc_32 hL hc hX hbl hbA hcs hj hR hI hl kk
  by_cases c33 : (xs (nI (8 * j)).toNatClampNeg &&& 63) = 33
  · refine lv_tableIn (off := 1339) (tgt := 1372) hx hb dL_law_33 (by rw [c33]; decide) (by rw [c33]; decide) (by rw [c33]; rfl) (by decide) ?_
    exact lc_33 hL hc hX hbl hbA hcs hj hR hI hl kk
  by_cases c34 : (xs (nI (8 * j)).toNatClampNeg &&& 63) = 34
  · refine lv_tableIn (off := 1362) (tgt := 1395) hx hb dL_law_33 (by rw [c34]; decide) (by rw [c34]; decide) (by rw [c34]; rfl) (by decide) ?_
    exact lc_34 hL hc hX hbl hbA hcs hj hR hI hl kk
  by_cases c35 : (xs (nI (8 * j)).toNatClampNeg &&& 63) = 35
  · refine lv_tableIn (off := 1395) (tgt := 1428) hx hb dL_law_33 (by rw [c35]; decide) (by rw [c35]; decide) (by rw [c35]; rfl) (by decide) ?_
    exact lc_35 hL hc hX hbl hbA hcs hj hR hI hl kk
  by_cases c36 : (xs (nI (8 * j)).toNatClampNeg &&& 63) = 36
  · refine lv_tableIn (off := 1428) (tgt := 1461) hx hb dL_law_33 (by rw [c36]; decide) (by rw [c36]; decide) (by rw [c36]; rfl) (by decide) ?_
    exact lc_36 hL hc hX hbl hbA hcs hj hR hI hl kk
  by_cases c37 : (xs (nI (8 * j)).toNatClampNeg &&& 63) = 37
  · refine lv_tableIn (off := 1451) (tgt := 1484) hx hb dL_law_33 (by rw [c37]; decide) (by rw [c37]; decide) (by rw [c37]; rfl) (by decide) ?_
    exact lc_37 hL hc hX hbl hbA hcs hj hR hI hl kk
  by_cases c38 : (xs (nI (8 * j)).toNatClampNeg &&& 63) = 38
  · refine lv_tableIn (off := 1474) (tgt := 1507) hx hb dL_law_33 (by rw [c38]; decide) (by rw [c38]; decide) (by rw [c38]; rfl) (by decide) ?_
    exact lc_38 hL hc hX hbl hbA hcs hj hR hI hl kk
  refine lv_tableOut (tgt := 1520) hx hb dL_law_33 (by have n0 := z_ne (n := 0) (by decide) c0; have n1 := z_ne (n := 1) (by decide) c1; have n2 := z_ne (n := 2) (by decide) c2; have n3 := z_ne (n := 3) (by decide) c3; have n4 := z_ne (n := 4) (by decide) c4; have n5 := z_ne (n := 5) (by decide) c5; have n6 := z_ne (n := 6) (by decide) c6; have n7 := z_ne (n := 7) (by decide) c7; have n8 := z_ne (n := 8) (by decide) c8; have n9 := z_ne (n := 9) (by decide) c9; have n10 := z_ne (n := 10) (by decide) c10; have n11 := z_ne (n := 11) (by decide) c11; have n12 := z_ne (n := 12) (by decide) c12; have n13 := z_ne (n := 13) (by decide) c13; have n14 := z_ne (n := 14) (by decide) c14; have n15 := z_ne (n := 15) (by decide) c15; have n16 := z_ne (n := 16) (by decide) c16; have n17 := z_ne (n := 17) (by decide) c17; have n18 := z_ne (n := 18) (by decide) c18; have n19 := z_ne (n := 19) (by decide) c19; have n20 := z_ne (n := 20) (by decide) c20; have n21 := z_ne (n := 21) (by decide) c21; have n22 := z_ne (n := 22) (by decide) c22; have n23 := z_ne (n := 23) (by decide) c23; have n24 := z_ne (n := 24) (by decide) c24; have n25 := z_ne (n := 25) (by decide) c25; have n26 := z_ne (n := 26) (by decide) c26; have n27 := z_ne (n := 27) (by decide) c27; have n28 := z_ne (n := 28) (by decide) c28; have n29 := z_ne (n := 29) (by decide) c29; have n30 := z_ne (n := 30) (by decide) c30; have n31 := z_ne (n := 31) (by decide) c31; have n32 := z_ne (n := 32) (by decide) c32; have n33 := z_ne (n := 33) (by decide) c33; have n34 := z_ne (n := 34) (by decide) c34; have n35 := z_ne (n := 35) (by decide) c35; have n36 := z_ne (n := 36) (by decide) c36; have n37 := z_ne (n := 37) (by decide) c37; have n38 := z_ne (n := 38) (by decide) c38; omega) (by decide) ?_
  exact kk M H locs ls hR hI hl
set_option maxRecDepth 100000 in
set_option maxHeartbeats 4000000 in
theorem lc_loop (hL : L ≤ 4096) (hc : z_C p s m #[Value.ref b] meth c RL code 4 ret) (hX : va_X b L xs s s.heap) (hbl : b < s.heap.size) (hbA : ¬ z_A G b) (hcs : cells ≤ room_1.cells ∧ slots ≤ room_1.slots) (kk : ∀ (H : Heap) (locs : List Loc) (ls : Array Slot) (M : z_M), z_I G s M H locs → W p l e room_1 s m #[Value.ref b] below meth c H locs cells slots Q (F0 m 1526 ls [])) : ∀ (n j : Nat), L < 8 * (j + n) → 8 * j ≤ 4096 → ∀ (M : z_M) (H : Heap) (locs : List Loc) (ls : Array Slot), z_Rel M → z_I G s M H locs → lv_has ls 4 [(0, .ref b), (1, .ref (z_ad G 0 0)), (2, .ref (z_ad G 21 0)), (3, .int (nI (8 * j)))] → W p l e room_1 s m #[Value.ref b] below meth c H locs cells slots Q (F0 m 18 ls []) := by
  obtain ⟨⟨hx, hb, hml, hown, hts⟩, hr, hlk⟩ := id hc
  intro n
  induction n with
  | zero =>
    intro j h1 h2 M H locs ls hR hI hl
    refine lv_iload_n hx hb dL_law_18 rfl (lv_at hl 3 rfl) ?_
    refine lv_aload_n hx hb dL_law_19 rfl (lv_at hl 0 rfl) ?_
    refine va_slen hx hb hX hbl hbA hI.2.2.2.1 dL_law_20 ?_
    refine lv_bipush (v := 8) hx hb dL_law_21 (by decide) ?_
    refine lv_isub hx hb dL_law_23 ?_
    refine lv_icmp_gt (tgt := 1526) hx hb dL_law_24 (by decide) (fun _ => kk _ _ _ _ hI) (fun c1 => absurd (z_gt hL (by omega) h2) c1)
  | succ n ih =>
    intro j h1 h2 M H locs ls hR hI hl
    refine lv_iload_n hx hb dL_law_18 rfl (lv_at hl 3 rfl) ?_
    refine lv_aload_n hx hb dL_law_19 rfl (lv_at hl 0 rfl) ?_
    refine va_slen hx hb hX hbl hbA hI.2.2.2.1 dL_law_20 ?_
    refine lv_bipush (v := 8) hx hb dL_law_21 (by decide) ?_
    refine lv_isub hx hb dL_law_23 ?_
    refine lv_icmp_gt (tgt := 1526) hx hb dL_law_24 (by decide) (fun _ => kk _ _ _ _ hI) (fun c1 => ?_)
    have hj : 8 * j + 8 ≤ L := z_ngt hL h2 c1
    refine lc_body hL hc hX hbl hbA hcs hj hR hI hl (fun M H locs ls hR hI hl => ?_)
    refine lv_iinc (v := nI (8 * (j + 1))) (lv' := [(3, .int (nI (8 * (j + 1)))), (0, .ref b), (1, .ref (z_ad G 0 0)), (2, .ref (z_ad G 21 0))]) hx hb dL_law_1520 hl (k := 3) rfl (nI_add _ _) (by decide) rfl (fun ls hl => ?_)
    refine lv_goto (tgt := 18) hx hb dL_law_1523 (by decide) ?_
    exact ih (j + 1) (by omega) (by omega) M H locs ls hR hI (lv_sub hl [1, 2, 3, 0] rfl)
end
