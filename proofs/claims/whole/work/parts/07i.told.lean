/-! TOLD: kind, length, walker, tune, where, heard, tread; feed; trace -/
theorem bl0 {x : Int32} : ¬ bl 0 x := fun h => by unfold bl at h; omega
/-- the one TOWN of both -/
theorem R5.of {M : z_M} (h : R5 M) : ∃ f, p_C M 24 f ∧ p_T M 25 0 f ∧ f 0 ≤ 8 ∧ f 1 ≤ 5 ∧ ((p_V f ∧ f 4 ≤ 999 ∧ z_gi M 21 0 4 = 1) ∨ (f 0 = 0 ∧ f 1 = 0 ∧ p_N f ∧ z_gi M 21 0 4 = 0)) := by
  obtain ⟨f, h1, h2, h3⟩ := h
  refine ⟨f, h1, h2, ?_, ?_, ?_⟩
  · rcases h3 with h3 | h3
    · have := h3.1.1; omega
    · have := h3.1 0 (by decide); omega
  · rcases h3 with h3 | h3
    · have := h3.1.1; omega
    · have := h3.1 1 (by decide); omega
  · exact h3.imp id (fun h => ⟨h.1 0 (by decide), h.1 1 (by decide), h.1, h.2⟩)
theorem C_within {x : Int32} {lo hi : Nat} {L U : Int32} {M : z_M} (hL : L = nI lo := by rfl) (hU : U = nI hi := by rfl) : F_X6_isWithin x L U M = some (b1 (bw lo hi x)) := by
  subst hL; subst hU
  unfold F_X6_isWithin b1
  by_cases h1 : x < nI lo
  · rw [if_pos h1, if_neg (fun h => absurd h.1 (Int32.not_le.mpr h1))]
  · rw [if_neg h1]
    by_cases h2 : nI hi < x
    · rw [if_pos h2, if_neg (fun h => absurd h.2 (Int32.not_le.mpr h2))]
    · rw [if_neg h2, if_pos ⟨Int32.not_lt.mp h1, Int32.not_lt.mp h2⟩]
theorem C_isMinute {x : Int32} {M : z_M} : F_X6_isMinute x M = some (b1 (bw 0 29 x)) := by
  unfold F_X6_isMinute
  rw [C_within (lo := 0) (hi := 29), Option.bind_some, z_grd_t b1_and]
theorem M_isMinute {x : Int32} {M : z_M} : F_X7_isMinute x M = some (b1 (bw 0 29 x)) := by
  unfold F_X7_isMinute
  rw [M_bw (lo := 0) (hi := 29) (L := 0) (U := 29), Option.bind_some, z_grd_t b1_and]
theorem M_isWhat {x : Int32} {M : z_M} : F_X7_isWhat x M = some (b1 (bw 0 1 x)) := by
  unfold F_X7_isWhat
  rw [M_bw (lo := 0) (hi := 1) (L := 0) (U := 1), Option.bind_some, z_grd_t b1_and]
theorem bw01 {x : Int32} (h : bw 0 1 x) : x = 0 ∨ x = 1 := by
  obtain ⟨j, -, h2, rfl⟩ := bw_of h (by decide) (by decide)
  rcases (show j = 0 ∨ j = 1 by omega) with rfl | rfl
  · exact Or.inl rfl
  · exact Or.inr rfl
theorem C_isFirst {x : Int32} {M : z_M} : F_X6_isFirstOrSecond x M = some (b1 (bw 0 1 x)) := by
  unfold F_X6_isFirstOrSecond F_X6_isFirstOrSecond_b9
  by_cases h : bw 0 1 x
  · rw [b1_t h]
    rcases bw01 h with rfl | rfl
    · rfl
    · rfl
  · rw [b1_f h, if_neg, if_neg]
    · rintro rfl; exact h ⟨by decide, by decide⟩
    · rintro rfl; exact h ⟨by decide, by decide⟩
theorem eq_kind {M : z_M} (hR : z_Rel M) (a1 : Int32) : ∃ (r : Int32), F_X6_kind a1 M = some r ∧ F_X7_kind a1 M = some r := by
  obtain ⟨f, hc, ht, h8, h5, hVN⟩ := hR.2.2.2.2.1.of
  unfold F_X6_kind F_X7_kind
  rw [C_hasTread hc.1.1 (by omega), M_isTread (M_st ht (by decide)) (by omega), Option.bind_some, Option.bind_some, b1_if, b1_if]
  by_cases h : bl (f 0) a1
  · rw [if_pos h, if_pos h]
    obtain ⟨t, h1, rfl⟩ := bl_of h (by omega)
    rcases hVN with ⟨hv, -⟩ | hN
    · refine ⟨nI (f (5 + t)), ?_, ?_⟩
      · rw [C_kindOf hc hv h1, Option.bind_some]
      · rw [z_grd_t (by rw [n_5, nI_add, n_in (by omega) (by omega)]; omega), n_5, nI_add, n_cl (by omega), M_st ht (by omega)]
    · omega
  · rw [if_neg h, if_neg h]
    exact ⟨_, rfl, rfl⟩
theorem eq_length {M : z_M} (hR : z_Rel M) (a1 : Int32) : ∃ (r : Int32), F_X6_length a1 M = some r ∧ F_X7_length a1 M = some r := by
  obtain ⟨f, hc, ht, h8, h5, hVN⟩ := hR.2.2.2.2.1.of
  unfold F_X6_length F_X7_length
  rw [C_hasWalker hc.1.2.1 (by omega), M_isWalker (M_st ht (by decide)) (by omega), Option.bind_some, Option.bind_some, b1_if, b1_if]
  by_cases h : bl (f 1) a1
  · rw [if_pos h, if_pos h]
    obtain ⟨w, h1, rfl⟩ := bl_of h (by omega)
    rcases hVN with ⟨hv, -⟩ | hN
    · exact ⟨_, by rw [C_long hc hv h1, Option.bind_some], by rw [M_long ht hv h1, Option.bind_some]⟩
    · omega
  · rw [if_neg h, if_neg h]
    exact ⟨_, rfl, rfl⟩
theorem eq_walker {M : z_M} (hR : z_Rel M) (a1 : Int32) (a2 : Int32) : ∃ (r : Int32), F_X6_walker a1 a2 M = some r ∧ F_X7_walker a1 a2 M = some r := by
  obtain ⟨f, hc, ht, h8, h5, hVN⟩ := hR.2.2.2.2.1.of
  unfold F_X6_walker F_X7_walker F_X7_walker_b20
  rw [C_hasWalker hc.1.2.1 (by omega), M_isWalker (M_st ht (by decide)) (by omega), Option.bind_some, Option.bind_some, b1_if, b1_if, C_within (lo := 0) (hi := 3), M_bw (lo := 0) (hi := 3) (L := 0) (U := 3), Option.bind_some, Option.bind_some, b1_if, b1_if]
  by_cases h : bl (f 1) a1
  · rw [if_pos h, if_pos h]
    by_cases h2 : bw 0 3 a2
    · rw [if_pos h2, if_pos h2]
      obtain ⟨w, h1, rfl⟩ := bl_of h (by omega)
      obtain ⟨k, -, hk, rfl⟩ := bw_of h2 (by decide) (by decide)
      rcases hVN with ⟨hv, -⟩ | hN
      · have hw := hv.walker h1
        refine ⟨nI (f (29 + 5 * k + w)), ?_, ?_⟩
        · rcases (show k = 0 ∨ k = 1 ∨ k = 2 ∨ k = 3 by omega) with rfl | rfl | rfl | rfl
          · rw [show nI 0 = 0 from rfl, (C_partOf hc hv h1).1.1]; rfl
          · rw [show nI 1 = 1 from rfl, (C_partOf hc hv h1).1.2]; rfl
          · rw [show nI 2 = 2 from rfl, (C_partOf hc hv h1).2.1]; rfl
          · rw [show nI 3 = 3 from rfl, (C_partOf hc hv h1).2.2]; rfl
        · rw [z_grd_t (by rw [n_29, n_5, pk_mul, nI_add, nI_add, n_in (by omega) (by omega)]; omega), n_29, n_5, pk_mul, nI_add, nI_add, n_cl (by omega), M_st ht (by omega)]
      · omega
    · rw [if_neg h2, if_neg h2]
      exact ⟨_, rfl, rfl⟩
  · rw [if_neg h, if_neg h]
    exact ⟨_, rfl, rfl⟩
theorem n_ge0 {x : Int32} : (0 : Int32) ≤ x ↔ 0 ≤ x.toInt := by rw [Int32.le_iff_toInt_le, t_0]
theorem n_nat {x : Int32} (h : (0 : Int32) ≤ x) : ∃ k : Nat, k < 2 ^ 31 ∧ x = nI k := by
  have h1 := n_ge0.mp h
  have h2 := Int32.toInt_lt x
  refine ⟨x.toInt.toNat, by omega, ?_⟩
  apply Int32.toInt_inj.mp
  rw [nI_toInt (by omega)]
  omega
theorem C_soundOf_far {M : z_M} {i : Nat} {f : Nat → Nat} (hc : p_C M i f) (hv : p_V f) {w k : Nat} (h : w < f 1) (hk : 8 ≤ k) (hk2 : k < 2 ^ 31) : F_X5_soundOf i (nI w) (nI k) M = some (-1000000) := by
  have h0 := hv.walker h
  unfold F_X5_soundOf F_X5_treadOf
  rw [C_hasWalker hc.1.2.1 (by omega), b1_t (bl_n h (by omega)), Option.bind_some, if_neg (by decide), if_neg (by rw [n_0, n_lt hk2 (by omega)]; omega), if_neg (by rw [n_8, n_lt hk2 (by omega)]; omega), Option.bind_some, C_hasTread hc.1.1 (by omega), Option.bind_some, b1_if, if_neg bl_bad]
theorem eq_tune {M : z_M} (hR : z_Rel M) (a1 : Int32) (a2 : Int32) : ∃ (r : Int32), F_X6_tune a1 a2 M = some r ∧ F_X7_tune a1 a2 M = some r := by
  obtain ⟨f, hc, ht, h8, h5, hVN⟩ := hR.2.2.2.2.1.of
  unfold F_X6_tune F_X7_tune
  rw [C_hasWalker hc.1.2.1 (by omega), M_isWalker (M_st ht (by decide)) (by omega), Option.bind_some, Option.bind_some, b1_if, b1_if]
  by_cases h : bl (f 1) a1
  · rw [if_pos h, if_pos h]
    by_cases h2 : 0 ≤ a2
    · rw [if_pos h2, if_pos h2]
      obtain ⟨w, h1, rfl⟩ := bl_of h (by omega)
      obtain ⟨k, hk, rfl⟩ := n_nat h2
      rcases hVN with ⟨hv, -⟩ | hN
      · have hq := hv.lg h1
        rw [M_long ht hv h1, Option.bind_some]
        by_cases h3 : k < s_lg f w
        · exact ⟨nI (s_snd f (s_td f w k) (f (39 + w))), by rw [C_soundOf hc hv h1 (by omega), Option.bind_some, if_pos h3], by rw [if_neg (by rw [n_le (by omega) hk]; omega), M_tuneOf ht hv h1 h3, Option.bind_some]⟩
        · refine ⟨-1000000, ?_, by rw [if_pos (by rw [n_le (by omega) hk]; omega)]⟩
          by_cases h4 : k < 8
          · rw [C_soundOf hc hv h1 (by omega), Option.bind_some, if_neg h3]
          · rw [C_soundOf_far hc hv h1 (by omega) hk, Option.bind_some]
      · omega
    · rw [if_neg h2, if_neg h2]
      exact ⟨_, rfl, rfl⟩
  · rw [if_neg h, if_neg h]
    exact ⟨_, rfl, rfl⟩
theorem eq_where {M : z_M} (hR : z_Rel M) (a1 : Int32) (a2 : Int32) : ∃ (r : Int32), F_X6_where a1 a2 M = some r ∧ F_X7_where a1 a2 M = some r := by
  obtain ⟨f, hc, ht, h8, h5, hVN⟩ := hR.2.2.2.2.1.of
  unfold F_X6_where F_X7_where
  rw [C_hasWalker hc.1.2.1 (by omega), M_isWalker (M_st ht (by decide)) (by omega), Option.bind_some, Option.bind_some, b1_if, b1_if, C_isMinute, M_isMinute, Option.bind_some, Option.bind_some, b1_if, b1_if]
  by_cases h : bl (f 1) a1
  · rw [if_pos h, if_pos h]
    by_cases h2 : bw 0 29 a2
    · rw [if_pos h2, if_pos h2]
      obtain ⟨w, h1, rfl⟩ := bl_of h (by omega)
      obtain ⟨m, -, hm, rfl⟩ := bw_of h2 (by decide) (by decide)
      rcases hVN with ⟨hv, -⟩ | hN
      · rw [C_placeIn hc hv h1 (by omega), M_at ht hv h1 (by omega), Option.bind_some, Option.bind_some]
        rcases s_at_lt hv (m := m) h1 with ha | ha
        · have h99 : ¬ s_at f w m = 99 := by omega
          exact ⟨nI (s_at f w m), by rw [if_neg h99], by rw [if_neg h99, if_pos (by rw [n_0, n_le (by omega) (by omega)]; omega)]⟩
        · exact ⟨-1000000, by rw [if_pos ha], by rw [if_pos ha, if_neg (by decide)]⟩
      · omega
    · rw [if_neg h2, if_neg h2]
      exact ⟨_, rfl, rfl⟩
  · rw [if_neg h, if_neg h]
    exact ⟨_, rfl, rfl⟩
theorem M_heard_api {x y : Int32} {M : z_M} {n : Nat} (h : z_gi M 25 0 0 = nI n) (hn : n < 2 ^ 30) : F_X7_heard x y M = if bl n x then (if bw 0 29 y then F_X7_heardAt x y M else some (-1000001)) else some (-1000001) := by
  unfold F_X7_heard
  rw [M_isTread h hn, Option.bind_some, b1_if, M_isMinute, Option.bind_some, b1_if]
  cases F_X7_heardAt x y M <;> rfl
theorem eq_heard {M : z_M} (hR : z_Rel M) (a1 : Int32) (a2 : Int32) : ∃ (r : Int32), F_X6_heard a1 a2 M = some r ∧ F_X7_heard a1 a2 M = some r := by
  obtain ⟨f, hc, ht, h8, h5, hVN⟩ := hR.2.2.2.2.1.of
  unfold F_X6_heard
  rw [M_heard_api (M_st ht (by decide)) (by omega), C_hasTread hc.1.1 (by omega), Option.bind_some, b1_if, C_isMinute, Option.bind_some, b1_if]
  by_cases h : bl (f 0) a1
  · rw [if_pos h, if_pos h]
    by_cases h2 : bw 0 29 a2
    · rw [if_pos h2, if_pos h2]
      obtain ⟨t, h1, rfl⟩ := bl_of h (by omega)
      obtain ⟨m, -, hm, rfl⟩ := bw_of h2 (by decide) (by decide)
      rcases hVN with ⟨hv, -⟩ | hN
      · exact ⟨_, by rw [C_heardAt hc hv h1 (by omega), Option.bind_some], M_heardAt ht hv h1 (by omega)⟩
      · omega
    · rw [if_neg h2, if_neg h2]
      exact ⟨_, rfl, rfl⟩
  · rw [if_neg h, if_neg h]
    exact ⟨_, rfl, rfl⟩
theorem eq_trace {M : z_M} (hR : z_Rel M) (a1 : Int32) : ∃ (r : Int32), F_X6_trace a1 M = some r ∧ F_X7_trace a1 M = some r := by
  obtain ⟨n, h1, h2, h3, h4⟩ := hR.2.2.2.2.2.2.2
  unfold F_X6_trace F_X0_traceAt F_X7_trace
  rw [h2, h3, M_bl (by omega), Option.bind_some, b1_if]
  by_cases h : bl n a1
  · obtain ⟨j, hj, rfl⟩ := bl_of h (by omega)
    have hg : z_in (nI j) 16 := by rw [n_in (by omega) (by omega)]; omega
    refine ⟨z_gi M 20 0 j, ?_, ?_⟩
    · rw [if_neg (by rw [n_0, n_lt (by omega) (by omega)]; omega), if_neg (by rw [n_le (by omega) (by omega)]; omega), if_neg (by rw [n_16, n_le (by omega) (by omega)]; omega), z_grd_t hg, n_cl (by omega), Option.bind_some]
    · rw [if_pos h, z_grd_t hg, n_cl (by omega), h4 j hj]
  · rw [if_neg h]
    refine ⟨_, ?_, rfl⟩
    unfold bl at h
    by_cases k1 : a1 < 0
    · rw [if_pos k1]; rfl
    · rw [if_neg k1, if_pos]
      · rfl
      · rw [Int32.lt_iff_toInt_lt, t_0] at k1
        rw [Int32.le_iff_toInt_le, nI_toInt (by omega)]
        omega
theorem eq_feed {M : z_M} (hR : z_Rel M) (a1 : Int32) : ∃ (r : Int32) (M1 : z_M) (M2 : z_M), F_X6_feed a1 M = some (r, M1) ∧ F_X7_feed a1 M1 = some (r, M2) ∧ z_Rel M2 := by
  have hR0 := hR
  obtain ⟨r1, r2, ⟨b, h1, h2, h3, h4⟩, r4, r5, r6, r7, r8⟩ := hR
  unfold F_X6_feed F_X7_feed F_X2_add
  simp only [C_within (lo := 0) (hi := 255) (L := 0) (U := 255), M_bw (lo := 0) (hi := 255) (L := 0) (U := 255), Option.bind_some, b1_if, z_nmM_e]
  by_cases h : bw 0 255 a1
  · rw [if_pos h]
    obtain ⟨v, -, hv, rfl⟩ := bw_of h (by decide) (by decide)
    rw [h2]
    by_cases hb : b = 100
    · subst hb
      rw [if_neg (by decide)]
      refine ⟨-1000003, M, M, rfl, ?_, hR0⟩
      rw [if_pos h, h3, if_pos (show nI 100 = 100 from rfl)]
    · have hg : z_in (nI b) 100 := by rw [n_in (by omega) (by omega)]; omega
      rw [if_pos (by rw [n_100, n_lt (by omega) (by omega)]; omega), z_grd_t hg, n_cl (by omega)]
      have e5 : z_gi (z_si M 6 0 b (nI v)) 5 0 2 = nI b := by rw [m_off _ _ _ _ _ (by omega), h2]
      rw [e5, m_same, n_1, nI_add, Option.bind_some]
      refine ⟨nI (b + 1), z_si (z_si M 6 0 b (nI v)) 5 0 2 (nI (b + 1)), z_si (z_si (z_si (z_si M 6 0 b (nI v)) 5 0 2 (nI (b + 1))) 27 0 b (nI v)) 21 0 8 (nI (b + 1)), rfl, ?_, ?_⟩
      · have e8 : z_gi (z_si (z_si M 6 0 b (nI v)) 5 0 2 (nI (b + 1))) 21 0 8 = nI b := by rw [m_off _ _ _ _ _ (by omega), m_off _ _ _ _ _ (by omega), h3]
        have e9 : z_gi (z_si (z_si (z_si M 6 0 b (nI v)) 5 0 2 (nI (b + 1))) 27 0 b (nI v)) 21 0 8 = nI b := by rw [m_off _ _ _ _ _ (by omega), e8]
        rw [if_pos h, e8, if_neg (by rw [n_100, n_eq (by omega) (by omega)]; exact hb), z_grd_t hg, n_cl (by omega), e9, m_same, nI_add]
      · have k : ∀ a c d, ¬ (a = 6 ∧ d = b) → ¬ (a = 5 ∧ d = 2) → ¬ (a = 27 ∧ d = b) → ¬ (a = 21 ∧ d = 8) → z_gi (z_si (z_si (z_si (z_si M 6 0 b (nI v)) 5 0 2 (nI (b + 1))) 27 0 b (nI v)) 21 0 8 (nI (b + 1))) a c d = z_gi M a c d := fun a c d k1 k2 k3 k4 => by
          rw [m_off _ _ _ _ _ (by omega), m_off _ _ _ _ _ (by omega), m_off _ _ _ _ _ (by omega), m_off _ _ _ _ _ (by omega)]
        refine ⟨r1.fr (fun a b _ ha c => k _ _ _ (by omega) (by omega) (by omega) (by omega)), r2.fr (k _ _ _ (by omega) (by omega) (by omega) (by omega)) (k _ _ _ (by omega) (by omega) (by omega) (by omega)), ⟨b + 1, by omega, ?_, ?_, fun j hj => ?_⟩, r4.fr (k _ _ _ (by omega) (by omega) (by omega) (by omega)) (k _ _ _ (by omega) (by omega) (by omega) (by omega)), r5.fr (fun a _ _ c => k _ _ _ (by omega) (by omega) (by omega) (by omega)) (fun c => k _ _ _ (by omega) (by omega) (by omega) (by omega)) (k _ _ _ (by omega) (by omega) (by omega) (by omega)), r6.fr (fun a _ _ b _ c => k _ _ _ (by omega) (by omega) (by omega) (by omega)) (fun a _ c => k _ _ _ (by omega) (by omega) (by omega) (by omega)) (k _ _ _ (by omega) (by omega) (by omega) (by omega)) (k _ _ _ (by omega) (by omega) (by omega) (by omega)), r7.fr (fun a _ _ b _ c => k _ _ _ (by omega) (by omega) (by omega) (by omega)) (fun a _ c => k _ _ _ (by omega) (by omega) (by omega) (by omega)) (k _ _ _ (by omega) (by omega) (by omega) (by omega)), r8.fr (k _ _ _ (by omega) (by omega) (by omega) (by omega)) (k _ _ _ (by omega) (by omega) (by omega) (by omega)) (fun a _ c => k _ _ _ (by omega) (by omega) (by omega) (by omega))⟩
        · rw [m_off _ _ _ _ _ (by omega), m_off _ _ _ _ _ (by omega), m_same]
        · rw [m_same]
        · by_cases hjb : j = b
          · subst hjb
            refine ⟨v, hv, ?_, ?_⟩
            · rw [m_off _ _ _ _ _ (by omega), m_off _ _ _ _ _ (by omega), m_off _ _ _ _ _ (by omega), m_same]
            · rw [m_off _ _ _ _ _ (by omega), m_same]
          · rw [k 6 0 j (by omega) (by omega) (by omega) (by omega), k 27 0 j (by omega) (by omega) (by omega) (by omega)]
            exact h4 j (by omega)
  · rw [if_neg h]
    refine ⟨_, _, M, rfl, ?_, hR0⟩
    rw [if_neg h]
