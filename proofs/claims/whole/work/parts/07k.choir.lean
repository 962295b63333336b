/-! CHOIR: what is asked of the TOWN of now: meetings, the fullest minute, counts -/
theorem C_now {M : z_M} {f : Nat → Nat} (hc : p_C M 24 f) (h0 : f 0 ≤ 8) (h1 : f 1 ≤ 5) : ∃ M', F_X6_seerOfNow M = some M' ∧ m_of p_fr M M' ∧ p_C M' 27 f ∧ z_gi M' 15 0 4 = 0 := by
  obtain ⟨M1, e1, e2, e3⟩ := C_take (i := 27) (by decide) hc h0 h1
  refine ⟨z_si M1 15 0 4 0, ?_, ?_, ?_, m_same _ _ _ _ _⟩
  · unfold F_X6_seerOfNow F_X3_lookAt
    rw [e1]; rfl
  · exact (e2.mono (fun a b h => Or.inl (by omega))).si (Or.inr (Or.inl rfl))
  · exact e3.fr (fun a h1 h2 c => m_off _ _ _ _ _ (by omega))
theorem p_T.free {M M' : z_M} {f : Nat → Nat} (h : p_T M 25 0 f) (e : m_of p_fr M M') : p_T M' 25 0 f := h.fr (fun c => e 25 0 (by unfold p_fr; omega) c)
theorem m_of.stat {M M' : z_M} (e : m_of p_fr M M') {c : Nat} : z_gi M' 21 0 c = z_gi M 21 0 c := e 21 0 (by unfold p_fr; omega) c
theorem n_ne {a b : Nat} (h : a ≠ b) (ha : a < 2 ^ 31) (hb : b < 2 ^ 31) : ¬ nI a = nI b := by rw [n_eq ha hb]; exact h
/-- where a WALKER is, as the class and as the reference say it -/
def v_at (f : Nat → Nat) (w m : Nat) : Int32 := if s_at f w m = 99 then -1000000 else nI (s_at f w m)
def u_at (f : Nat → Nat) (w m : Nat) : Int32 := if s_at f w m = 99 then -1 else nI (s_at f w m)
theorem C_pl {M : z_M} {i : Nat} {f : Nat → Nat} (hc : p_C M i f) (hv : p_V f) {w m : Nat} (h : w < f 1) (hm : m < 1000) : F_X5_placeIn i (nI w) (nI m) M = some (v_at f w m) := C_placeIn hc hv h hm
theorem M_pl {M : z_M} {f : Nat → Nat} (ht : p_T M 25 0 f) (hv : p_V f) {w m : Nat} (h : w < f 1) (hm : m < 1000) : F_X7_at (nI w) (nI m) M = some (u_at f w m) := M_at ht hv h hm
theorem e_meet {M : z_M} {f : Nat → Nat} (hc : p_C M 27 f) (ht : p_T M 25 0 f) (hv : p_V f) {w x : Nat} (hw : w < f 1) (hx : x < f 1) : ∀ d m n n' p q, m + d = 30 → d < n → d < n' → (m = 0 → p = -1000000 ∧ q = -1000000) → (0 < m → p = v_at f w (m - 1) ∧ q = v_at f x (m - 1)) → ∃ r, F_X3_meetingOf_b10 M n (nI w) (nI x) p q (nI m) = some r ∧ F_X7_meet_b26 M n' (nI w) (nI x) (nI m) = some r := by
  have hV := hv.1
  intro d
  induction d with
  | zero =>
    intro m n n' p q h1 h2 h3 _ _
    obtain ⟨n, rfl⟩ : ∃ k', n = k' + 1 := ⟨n - 1, by omega⟩
    obtain ⟨n', rfl⟩ : ∃ k', n' = k' + 1 := ⟨n' - 1, by omega⟩
    have hl : (30 : Int32) ≤ nI m := by rw [n_30, n_le (by omega) (by omega)]; omega
    exact ⟨_, by rw [F_X3_meetingOf_b10, if_pos hl], by rw [F_X7_meet_b26, if_pos hl]⟩
  | succ d ih =>
    intro m n n' p q h1 h2 h3 hp0 hp1
    obtain ⟨n, rfl⟩ : ∃ k', n = k' + 1 := ⟨n - 1, by omega⟩
    obtain ⟨n', rfl⟩ : ∃ k', n' = k' + 1 := ⟨n' - 1, by omega⟩
    have hl : ¬ (30 : Int32) ≤ nI m := by rw [n_30, n_le (by omega) (by omega)]; omega
    obtain ⟨r, i1, i2⟩ := ih (m + 1) n n' (v_at f w m) (v_at f x m) (by omega) (by omega) (by omega) (by omega) (fun _ => ⟨rfl, rfl⟩)
    have gC : F_X3_meetingOf_b90 M (F_X3_meetingOf_b10 M n) (nI w) (nI x) (nI m) (v_at f w m) (v_at f x m) = some r := by
      unfold F_X3_meetingOf_b90; rw [n_1, nI_add]; exact i1
    have gM : F_X7_meet_b109 M (F_X7_meet_b26 M n') (nI w) (nI x) (nI m) = some r := by
      unfold F_X7_meet_b109; rw [n_1, nI_add]; exact i2
    rw [F_X3_meetingOf_b10, if_neg hl, C_pl hc hv hw (by omega), C_pl hc hv hx (by omega), Option.bind_some, Option.bind_some, F_X7_meet_b26, if_neg hl, M_pl ht hv hw (by omega), M_pl ht hv hx (by omega), Option.bind_some, Option.bind_some]
    -- one of them is nowhere
    have far : (s_at f w m = 99 ∨ s_at f x m = 99) → ∀ s0, F_X7_meet_b83 M (F_X7_meet_b26 M n') (nI w) (nI x) (nI m) (u_at f w m) (u_at f x m) s0 = some r := by
      intro h s0
      unfold F_X7_meet_b83
      by_cases h1 : s_at f w m = 99
      · rw [if_pos (show u_at f w m < 0 by rw [show u_at f w m = -1 from if_pos h1]; decide)]; exact gM
      · have h2 := h.resolve_left h1
        by_cases k : u_at f w m < 0
        · rw [if_pos k]; exact gM
        · rw [if_neg k, if_pos (show u_at f x m < 0 by rw [show u_at f x m = -1 from if_pos h2]; decide)]; exact gM
    by_cases hfar : s_at f w m = 99 ∨ s_at f x m = 99
    · refine ⟨r, ?_, ?_⟩
      · unfold F_X3_meetingOf_b59 F_X3_meetingOf_b60
        rw [if_pos rfl]
        by_cases h1 : s_at f w m = 99
        · rw [if_pos (show v_at f w m = -1000000 from if_pos h1)]; exact gC
        · have h2 := hfar.resolve_left h1
          by_cases k : v_at f w m = -1000000
          · rw [if_pos k]; exact gC
          · rw [if_neg k, if_pos (show v_at f x m = -1000000 from if_pos h2)]; exact gC
      · unfold F_X7_meet_b82
        have f0 := far hfar 0
        have f1 := far hfar 1
        by_cases hm : nI m ≤ 0
        · rw [if_pos hm]; exact f0
        · have hm0 : 0 < m := by rw [n_0, n_le (by omega) (by omega)] at hm; omega
          rw [if_neg hm, n_1, n_sub (by omega), M_pl ht hv hx (by omega), M_pl ht hv hw (by omega), Option.bind_some]
          by_cases k1 : u_at f w m = u_at f x (m - 1)
          · rw [if_pos k1, Option.bind_some]
            by_cases k2 : u_at f x m = u_at f w (m - 1)
            · rw [if_pos k2]; exact f1
            · rw [if_neg k2]; exact f0
          · rw [if_neg k1]; exact f0
    · have h1 : s_at f w m ≠ 99 := fun h => hfar (Or.inl h)
      have h2 : s_at f x m ≠ 99 := fun h => hfar (Or.inr h)
      have l1 := (s_at_lt hv (m := m) hw).resolve_right h1
      have l2 := (s_at_lt hv (m := m) hx).resolve_right h2
      have ev1 : v_at f w m = nI (s_at f w m) := if_neg h1
      have ev2 : v_at f x m = nI (s_at f x m) := if_neg h2
      have eu1 : u_at f w m = nI (s_at f w m) := if_neg h1
      have eu2 : u_at f x m = nI (s_at f x m) := if_neg h2
      rw [ev1, ev2] at gC
      rw [ev1, ev2, eu1, eu2]
      rw [if_neg (by rw [n_bad (by omega)]; exact id), if_neg (by rw [n_bad (by omega)]; exact id)]
      unfold F_X3_meetingOf_b60 F_X7_meet_b82 F_X7_meet_b83
      rw [if_neg (by decide)]
      simp only [show ¬ nI (s_at f w m) < 0 by rw [n_0, n_lt (by omega) (by omega)]; omega, show ¬ nI (s_at f x m) < 0 by rw [n_0, n_lt (by omega) (by omega)]; omega, if_false]
      by_cases same : nI (s_at f w m) = nI (s_at f x m)
      · refine ⟨nI m, by rw [if_pos same], ?_⟩
        by_cases hm : nI m ≤ 0
        · rw [if_pos hm, if_pos same]
        · have hm0 : 0 < m := by rw [n_0, n_le (by omega) (by omega)] at hm; omega
          rw [if_neg hm, n_1, n_sub (by omega), M_pl ht hv hx (by omega), M_pl ht hv hw (by omega), Option.bind_some, Option.bind_some, if_pos same, if_pos same]
          by_cases k1 : nI (s_at f w m) = u_at f x (m - 1)
          · rw [if_pos k1]
            by_cases k2 : nI (s_at f x m) = u_at f w (m - 1)
            · rw [if_pos k2]
            · rw [if_neg k2]
          · rw [if_neg k1]
      · simp only [same, if_false, if_true]
        by_cases hm : nI m ≤ 0
        · have hm0 : m = 0 := by rw [n_0, n_le (by omega) (by omega)] at hm; omega
          obtain ⟨p1, p2⟩ := hp0 hm0
          refine ⟨r, ?_, by rw [if_pos hm]; exact gM⟩
          rw [if_neg (by rw [p2, n_bad (by omega)]; exact id)]; exact gC
        · have hm0 : 0 < m := by rw [n_0, n_le (by omega) (by omega)] at hm; omega
          obtain ⟨p1, p2⟩ := hp1 hm0
          have uv : ∀ a y, a < 99 → (nI a = v_at f y (m - 1) ↔ nI a = u_at f y (m - 1)) := by
            intro a y ha
            by_cases h9 : s_at f y (m - 1) = 99
            · rw [show v_at f y (m - 1) = -1000000 from if_pos h9, show u_at f y (m - 1) = -1 from if_pos h9, n_bad (by omega), n_m1 (by omega)]
            · rw [show v_at f y (m - 1) = nI _ from if_neg h9, show u_at f y (m - 1) = nI _ from if_neg h9]
          rw [if_neg hm, n_1, n_sub (by omega), M_pl ht hv hx (by omega), M_pl ht hv hw (by omega), Option.bind_some, Option.bind_some, p1, p2]
          by_cases k1 : nI (s_at f w m) = u_at f x (m - 1)
          · rw [if_pos k1, if_pos ((uv _ x (by omega)).mpr k1)]
            by_cases k2 : nI (s_at f x m) = u_at f w (m - 1)
            · rw [if_pos k2, if_pos ((uv _ w (by omega)).mpr k2)]
              exact ⟨_, rfl, by rw [if_neg (by decide)]⟩
            · rw [if_neg k2, if_neg (fun h => k2 ((uv _ w (by omega)).mp h))]
              exact ⟨r, gC, gM⟩
          · rw [if_neg k1, if_neg (fun h => k1 ((uv _ x (by omega)).mp h))]
            exact ⟨r, gC, gM⟩
theorem eq_meet {M : z_M} (hR : z_Rel M) (a1 : Int32) (a2 : Int32) : ∃ (r : Int32) (M1 : z_M), F_X6_meet a1 a2 M = some (r, M1) ∧ F_X7_meet a1 a2 M1 = some r ∧ z_Rel M1 := by
  obtain ⟨f, hc, ht, h8, h5, hVN⟩ := hR.2.2.2.2.1.of
  obtain ⟨M1, e1, e2, e3, -⟩ := C_now hc h8 h5
  have ht1 := ht.free e2
  unfold F_X6_meet F_X7_meet
  rw [C_hasWalker hc.1.2.1 (by omega), C_hasWalker hc.1.2.1 (by omega), Option.bind_some, Option.bind_some, b1_if, b1_if]
  have k0 : ∀ (N : z_M) (x : Int32) (v : Int32), p_T N 25 0 f → F_X7_isWalker x N = some (b1 (bl (f 1) x)) := fun N x _ h => M_isWalker (M_st h (by decide)) (by omega)
  by_cases h1 : bl (f 1) a1
  · by_cases h2 : bl (f 1) a2
    · by_cases h3 : a1 = a2
      · exact ⟨-1000001, M, by rw [if_pos h1, if_pos h2, if_pos h3], by rw [k0 M _ 0 ht, k0 M _ 0 ht, Option.bind_some, Option.bind_some, b1_if, b1_if, if_pos h1, if_pos h2, if_pos h3], hR⟩
      · obtain ⟨w, hw, rfl⟩ := bl_of h1 (by omega)
        obtain ⟨x, hx, rfl⟩ := bl_of h2 (by omega)
        rcases hVN with ⟨hv, -⟩ | hN
        · obtain ⟨r, i1, i2⟩ := e_meet e3 ht1 hv hw hx 30 0 z_fuel z_fuel (-1000000) (-1000000) (by omega) (by unfold z_fuel; omega) (by unfold z_fuel; omega) (fun _ => ⟨rfl, rfl⟩) (fun h => by omega)
          refine ⟨r, M1, ?_, ?_, hR.free e2⟩
          · rw [if_pos h1, if_pos h2, if_neg h3, e1, Option.bind_some]
            unfold F_X3_meetingOf
            rw [n_0, i1]; rfl
          · rw [k0 M1 _ 0 ht1, k0 M1 _ 0 ht1, Option.bind_some, Option.bind_some, b1_if, b1_if, if_pos h1, if_pos h2, if_neg h3]
            exact i2
        · omega
    · exact ⟨-1000001, M, by rw [if_pos h1, if_neg h2], by rw [k0 M _ 0 ht, k0 M _ 0 ht, Option.bind_some, Option.bind_some, b1_if, b1_if, if_pos h1, if_neg h2], hR⟩
  · exact ⟨-1000001, M, by rw [if_neg h1], by rw [k0 M _ 0 ht, Option.bind_some, b1_if, if_neg h1], hR⟩
theorem s_all_lt {f : Nat → Nat} (hv : p_V f) {m : Nat} : s_all f m < 1024 := s_hs_lt hv _ (Nat.le_refl _)
theorem e_choir {M : z_M} {f : Nat → Nat} (hc : p_C M 27 f) (ht : p_T M 25 0 f) (hv : p_V f) (a : Int32) : ∀ d m n n' p q, m + d = 30 → d < n → d < n' → q ≤ 10 → ∃ r, F_X3_fullestMinute_b7 M n a p (nI q) (nI m) = some r ∧ F_X7_choir_b27 M n' a p (nI q) (nI m) = some r := by
  intro d
  induction d with
  | zero =>
    intro m n n' p q h1 h2 h3 h4
    obtain ⟨n, rfl⟩ : ∃ k', n = k' + 1 := ⟨n - 1, by omega⟩
    obtain ⟨n', rfl⟩ : ∃ k', n' = k' + 1 := ⟨n' - 1, by omega⟩
    have hl : (30 : Int32) ≤ nI m := by rw [n_30, n_le (by omega) (by omega)]; omega
    rw [F_X3_fullestMinute_b7, if_pos hl, F_X7_choir_b27, if_pos hl]
    by_cases ha : a = 0
    · exact ⟨_, if_pos ha, if_pos ha⟩
    · exact ⟨_, if_neg ha, if_neg ha⟩
  | succ d ih =>
    intro m n n' p q h1 h2 h3 h4
    obtain ⟨n, rfl⟩ : ∃ k', n = k' + 1 := ⟨n - 1, by omega⟩
    obtain ⟨n', rfl⟩ : ∃ k', n' = k' + 1 := ⟨n' - 1, by omega⟩
    have hl : ¬ (30 : Int32) ≤ nI m := by rw [n_30, n_le (by omega) (by omega)]; omega
    have hb := s_bits_le (x := s_all f m)
    rw [F_X3_fullestMinute_b7, if_neg hl, F_X7_choir_b27, if_neg hl, C_allIn hc hv (by omega), M_allIn ht hv (by omega), Option.bind_some, Option.bind_some, C_bits (s_all_lt hv), M_bits (s_all_lt hv), Option.bind_some, Option.bind_some]
    unfold F_X3_fullestMinute_b43 F_X7_choir_b57
    rw [n_1, nI_add]
    by_cases hq : nI (s_bits (s_all f m)) ≤ nI q
    · rw [if_pos hq, if_pos hq]
      exact ih (m + 1) n n' p q (by omega) (by omega) (by omega) h4
    · rw [if_neg hq, if_neg hq]
      exact ih (m + 1) n n' _ _ (by omega) (by omega) (by omega) hb
/-- a TOWN stands, or none does: the same to both -/
theorem C_st {M : z_M} {f : Nat → Nat} (hc : p_C M 24 f) (h8 : f 0 ≤ 8) : F_X5_stands 24 M = some (b1 (1 ≤ f 0)) := C_stands hc.1.1 (by omega)
theorem eq_choir {M : z_M} (hR : z_Rel M) (a1 : Int32) : ∃ (r : Int32) (M1 : z_M), F_X6_choir a1 M = some (r, M1) ∧ F_X7_choir a1 M1 = some r ∧ z_Rel M1 := by
  obtain ⟨f, hc, ht, h8, h5, hVN⟩ := hR.2.2.2.2.1.of
  obtain ⟨M1, e1, e2, e3, -⟩ := C_now hc h8 h5
  unfold F_X6_choir F_X7_choir
  rw [C_st hc h8, Option.bind_some, b1_if, C_isFirst, Option.bind_some, b1_if]
  rcases hVN with ⟨hv, -, hs⟩ | ⟨h0, -, -, hs⟩
  · rw [if_pos (show 1 ≤ f 0 by have := hv.1; omega)]
    by_cases h1 : bw 0 1 a1
    · obtain ⟨r, i1, i2⟩ := e_choir e3 (ht.free e2) hv a1 30 0 z_fuel z_fuel 0 0 (by omega) (by unfold z_fuel; omega) (by unfold z_fuel; omega) (by omega)
      refine ⟨r, M1, ?_, ?_, hR.free e2⟩
      · rw [if_pos h1, e1, Option.bind_some]
        unfold F_X3_fullestMinute
        rw [n_0] at *
        rw [i1]; rfl
      · rw [e2.stat, hs, if_neg (by decide), M_isWhat, Option.bind_some, b1_if, if_pos h1]
        exact i2
    · exact ⟨-1000001, M, by rw [if_neg h1], by rw [hs, if_neg (by decide), M_isWhat, Option.bind_some, b1_if, if_neg h1], hR⟩
  · exact ⟨-1000002, M, by rw [if_neg (by omega)], by rw [hs, if_pos rfl], hR⟩
theorem e_count {M : z_M} (hR : R1 M) (a : Int32) : ∀ d r n n' v, r + d = 8 → d < n → d < n' → v ≤ r → ∃ c, c ≤ 8 ∧ F_X4_rowCount_b4 M n (nI v) (nI r) = some (nI c) ∧ F_X7_count_b4 M n' a (nI v) (nI r) = F_X7_count_b4 M 1 a (nI c) 8 := by
  intro d
  induction d with
  | zero =>
    intro r n n' v h1 h2 h3 h4
    obtain ⟨n, rfl⟩ : ∃ k', n = k' + 1 := ⟨n - 1, by omega⟩
    obtain ⟨n', rfl⟩ : ∃ k', n' = k' + 1 := ⟨n' - 1, by omega⟩
    have e : r = 8 := by omega
    subst e
    exact ⟨v, by omega, by rw [F_X4_rowCount_b4, if_pos (show (8 : Int32) ≤ nI 8 by decide)], by rw [F_X7_count_b4, if_pos (show (8 : Int32) ≤ nI 8 by decide), F_X7_count_b4, if_pos (show (8 : Int32) ≤ 8 by decide)]⟩
  | succ d ih =>
    intro r n n' v h1 h2 h3 h4
    obtain ⟨n, rfl⟩ : ∃ k', n = k' + 1 := ⟨n - 1, by omega⟩
    obtain ⟨n', rfl⟩ : ∃ k', n' = k' + 1 := ⟨n' - 1, by omega⟩
    have hl : ¬ (8 : Int32) ≤ nI r := by rw [n_8, n_le (by omega) (by omega)]; omega
    have hg : z_in (nI r) 8 := by rw [n_in (by omega) (by omega)]; omega
    rw [F_X4_rowCount_b4, if_neg hl, F_X7_count_b4, if_neg hl, z_grd_t hg, z_grd_t hg, n_cl (by omega), (hR r (by omega)).1]
    unfold F_X4_rowCount_b22 F_X7_count_b25
    simp only [z_nmI_e]
    rw [n_0, n_1, nI_add, nI_add, nI_add, Nat.add_zero]
    by_cases hm : z_gi M 23 0 r < nI 0
    · rw [if_pos hm, if_pos hm]
      exact ih (r + 1) n n' v (by omega) (by omega) (by omega) (by omega)
    · rw [if_neg hm, if_neg hm]
      exact ih (r + 1) n n' (v + 1) (by omega) (by omega) (by omega) (by omega)
theorem eq_count {M : z_M} (hR : z_Rel M) (a1 : Int32) : ∃ (r : Int32), F_X6_count a1 M = some r ∧ F_X7_count a1 M = some r := by
  obtain ⟨f, hc, ht, h8, h5, hVN⟩ := hR.2.2.2.2.1.of
  obtain ⟨nx, kp, h, ⟨-, -, -, k1, -⟩, ⟨-, k2, -⟩, -⟩ := hR.2.2.2.2.2.1
  obtain ⟨b, -, b1, b2, -⟩ := hR.2.2.1
  obtain ⟨c, c1, c2, c3⟩ := e_count hR.1 a1 8 0 z_fuel z_fuel 0 (by omega) (by unfold z_fuel; omega) (by unfold z_fuel; omega) (by omega)
  have w : ∃ r, (F_X5_isWet 24 M = some r ∧ F_X7_isWet M = some r) := by
    rcases hVN with ⟨hv, -⟩ | ⟨-, -, hN, -⟩
    · exact ⟨_, C_isWet hc hv, M_isWet ht hv⟩
    · refine ⟨0, ?_, ?_⟩
      · unfold F_X5_isWet
        rw [hc.1.2.2.1, hc.1.2.2.2.2, hN 2 (by decide), hN 4 (by decide)]; rfl
      · unfold F_X7_isWet F_X7_has
        rw [z_grd_t (by decide), z_grd_t (by decide), show (2 : Int32).toNatClampNeg = 2 from rfl, show (4 : Int32).toNatClampNeg = 4 from rfl, M_st ht (by decide), M_st ht (by decide), hN 2 (by decide), hN 4 (by decide)]; rfl
  obtain ⟨w, w1, w2⟩ := w
  unfold F_X6_count F_X7_count F_X4_rowCount F_X5_treadCount F_X5_walkerCount F_X5_dayNumber F_X5_reachNow F_X1_keptCount F_X2_byteCount
  rw [show F_X4_rowCount_b4 M z_fuel 0 0 = some (nI c) from c2, show F_X7_count_b4 M z_fuel a1 0 0 = _ from c3, F_X7_count_b4, if_pos (show (8 : Int32) ≤ 8 by decide), z_grd_t (by decide), z_grd_t (by decide), z_grd_t (by decide), z_grd_t (by decide), show (0 : Int32).toNatClampNeg = 0 from rfl, show (1 : Int32).toNatClampNeg = 1 from rfl, show (4 : Int32).toNatClampNeg = 4 from rfl, show (3 : Int32).toNatClampNeg = 3 from rfl, M_st ht (by decide), M_st ht (by decide), M_st ht (by decide), M_st ht (by decide), w1, w2, hc.1.1, hc.1.2.1, hc.1.2.2.2.1, hc.1.2.2.2.2, k1, k2, b1, b2]
  simp only [Option.bind_some]
  repeat' split
  all_goals exact ⟨_, rfl, rfl⟩
