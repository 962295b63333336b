/-! AHEAD: the days ahead -/
theorem s_day_lo {f : Nat → Nat} {j : Nat} (h : j < 21) (h4 : j ≠ 4) : s_day f j = f j := by
  unfold s_day; rw [z_up_ne h4, z_mk_lo h]
theorem q_days_lo {f : Nat → Nat} {j : Nat} (h : j < 21) (h4 : j ≠ 4) : ∀ k, q_days f k j = f j
  | 0 => rfl
  | k + 1 => (s_day_lo h h4).trans (q_days_lo h h4 k)
theorem C_aheadL {f : Nat → Nat} {k : Nat} (hv : p_V f) (h9 : f 4 + k ≤ 5000) (t a : Int32) : ∀ d j n (M : z_M), j + d = k → d < n → p_C M 27 (q_days f j) → ∃ M', F_X3_treadIn_b3 n t (nI k) a (nI j) M = (if a = 0 then (F_X5_toneOf 27 t M').bind (fun q5 => some (q5, M')) else (F_X5_wornOf 27 t M').bind (fun q3 => some (q3, M'))) ∧ m_of (p_in 27) M M' ∧ p_C M' 27 (q_days f k) := by
  intro d
  induction d with
  | zero =>
    intro j n M h1 h2 hc
    obtain ⟨n, rfl⟩ : ∃ k', n = k' + 1 := ⟨n - 1, by omega⟩
    have e : j = k := by omega
    subst e
    exact ⟨M, by rw [F_X3_treadIn_b3, if_pos (by rw [n_le (by omega) (by omega)]; omega)], m_of.rf, hc⟩
  | succ d ih =>
    intro j n M h1 h2 hc
    obtain ⟨n, rfl⟩ : ∃ k', n = k' + 1 := ⟨n - 1, by omega⟩
    obtain ⟨v1, v2⟩ := q_days_V hv j (by omega)
    obtain ⟨M1, e1, e2, e3⟩ := C_passDay hc v1
    obtain ⟨M', j1, j2, j3⟩ := ih (j + 1) n M1 (by omega) (by omega) e3
    refine ⟨M', ?_, e2.tr j2, j3⟩
    rw [F_X3_treadIn_b3, if_neg (by rw [n_le (by omega) (by omega)]; omega), e1, Option.bind_some, n_1, nI_add]
    exact j1
theorem M_aheadL {f : Nat → Nat} {k : Nat} (hv : p_V f) (h9 : f 4 + k ≤ 5000) (t a : Int32) : ∀ d j n (M : z_M), j + d = k → d < n → p_T M 25 0 (q_days f j) → ∃ M', F_X7_ahead_b37 n t (nI k) a (nI j) M = (if a = 0 then (F_X7_toneOf t M').bind (fun q17 => F_X7_ahead_b74 q17 M') else z_grd (z_in ((21 : Int32) + t) 49) (F_X7_ahead_b74 (z_gi M' 25 0 ((21 : Int32) + t).toNatClampNeg) M')) ∧ m_of (fun a _ => a = 25) M M' ∧ p_T M' 25 0 (q_days f k) := by
  intro d
  induction d with
  | zero =>
    intro j n M h1 h2 hc
    obtain ⟨n, rfl⟩ : ∃ k', n = k' + 1 := ⟨n - 1, by omega⟩
    have e : j = k := by omega
    subst e
    exact ⟨M, by rw [F_X7_ahead_b37, if_pos (by rw [n_le (by omega) (by omega)]; omega)], m_of.rf, hc⟩
  | succ d ih =>
    intro j n M h1 h2 hc
    obtain ⟨n, rfl⟩ : ∃ k', n = k' + 1 := ⟨n - 1, by omega⟩
    obtain ⟨v1, v2⟩ := q_days_V hv j (by omega)
    obtain ⟨M1, e1, e2, e3⟩ := M_oneDay hc v1
    obtain ⟨M', j1, j2, j3⟩ := ih (j + 1) n M1 (by omega) (by omega) e3
    refine ⟨M', ?_, e2.tr j2, j3⟩
    rw [F_X7_ahead_b37, if_neg (by rw [n_le (by omega) (by omega)]; omega), e1, Option.bind_some, n_1, nI_add]
    exact j1
theorem eq_ahead {M : z_M} (hR : z_Rel M) (a1 : Int32) (a2 : Int32) (a3 : Int32) : ∃ (r : Int32) (M1 : z_M) (M2 : z_M), F_X6_ahead a1 a2 a3 M = some (r, M1) ∧ F_X7_ahead a1 a2 a3 M1 = some (r, M2) ∧ z_Rel M2 := by
  obtain ⟨f, hc, ht, h8, h5, hVN⟩ := hR.2.2.2.2.1.of
  have no : F_X6_ahead a1 a2 a3 M = some (-1000001, M) → F_X7_ahead a1 a2 a3 M = some (-1000001, M) → ∃ (r : Int32) (M1 : z_M) (M2 : z_M), F_X6_ahead a1 a2 a3 M = some (r, M1) ∧ F_X7_ahead a1 a2 a3 M1 = some (r, M2) ∧ z_Rel M2 := fun x y => ⟨_, _, _, x, y, hR⟩
  unfold F_X6_ahead F_X7_ahead at *
  simp only [C_hasTread hc.1.1 (show f 0 < 2 ^ 31 by omega), C_isFirst, M_isWhat, Option.bind_some, b1_if, C_within (lo := 0) (hi := 60) (L := 0) (U := 60), M_bw (lo := 0) (hi := 60) (L := 0) (U := 60)] at no ⊢
  have q2 : ∀ (N : z_M), p_T N 25 0 f → F_X7_isTread a1 N = some (b1 (bl (f 0) a1)) := fun N h => M_isTread (M_st h (by decide)) (by omega)
  by_cases h1 : bl (f 0) a1
  · by_cases h2 : bw 0 60 a2
    · by_cases h3 : bw 0 1 a3
      · obtain ⟨t, htt, rfl⟩ := bl_of h1 (by omega)
        obtain ⟨k, hk, rfl⟩ := bw_nb h2 (by decide)
        rcases hVN with ⟨hv, h9, hs⟩ | hN
        · obtain ⟨M1, e1, e2, e3, -⟩ := C_now hc h8 h5
          have ht1 := ht.free e2
          obtain ⟨M2, i1, i2, i3⟩ := C_aheadL (f := f) (k := k) hv (by omega) (nI t) a3 k 0 z_fuel M1 (by omega) (by unfold z_fuel; omega) e3
          have o2 : m_of p_fr M M2 := e2.tr (i2.mono (fun a b h => Or.inl (by unfold p_in at h; omega)))
          have ht2 := ht.free o2
          obtain ⟨M3, j1, j2, j3⟩ := M_putAside ht2
          obtain ⟨M4, l1, l2, l3⟩ := M_aheadL (f := f) (k := k) hv (by omega) (nI t) a3 k 0 z_fuel M3 (by omega) (by unfold z_fuel; omega) (ht2.fr (fun c => j2 25 0 (by omega) c))
          obtain ⟨M5, m1, m2, m3⟩ := M_takeBack (j3.fr (fun c => l2 30 0 (by omega) c))
          obtain ⟨v1, v2⟩ := q_days_V hv k (by omega)
          have f0 : t < q_days f k 0 := by rw [q_days_lo (by omega) (by omega)]; exact htt
          have fin : z_Rel M5 := (hR.free o2).back (hc.fr (fun a _ _ c => o2 a 24 (by unfold p_fr; omega) c)) ⟨hv, h9, by rw [o2.stat, hs]⟩ m3 (fun a b c x y => by rw [m2 a b x, l2 a b x, j2 a b (fun e => y (by unfold p_fr; omega))])
          rw [if_pos h1, if_pos h2, if_pos h3, e1, Option.bind_some]
          by_cases ha : a3 = 0
          · refine ⟨nI (s_tn (q_days f k) t), M2, M5, ?_, ?_, fin⟩
            · rw [show F_X3_treadIn (nI t) (nI k) a3 M1 = _ from i1, if_pos ha, C_toneOf i3 v1 f0]; rfl
            · rw [q2 _ ht2, Option.bind_some, b1_if, if_pos h1, if_pos h2, if_pos h3, j1, Option.bind_some, n_0, l1, if_pos ha, M_toneOf l3 v1 f0, Option.bind_some]
              unfold F_X7_ahead_b74
              rw [m1]; rfl
          · have h08 := v1.1
            refine ⟨nI (q_days f k (21 + t)), M2, M5, ?_, ?_, fin⟩
            · rw [show F_X3_treadIn (nI t) (nI k) a3 M1 = _ from i1, if_neg ha, C_wornOf i3 v1 f0]; rfl
            · rw [q2 _ ht2, Option.bind_some, b1_if, if_pos h1, if_pos h2, if_pos h3, j1, Option.bind_some, n_0, l1, if_neg ha, n_21, nI_add, z_grd_t (by rw [n_in (by omega) (by omega)]; omega), n_cl (by omega), M_st l3 (by omega)]
              unfold F_X7_ahead_b74
              rw [m1]; rfl
        · omega
      · exact no (by rw [if_pos h1, if_pos h2, if_neg h3]) (by rw [q2 _ ht, Option.bind_some, b1_if, if_pos h1, if_pos h2, if_neg h3])
    · exact no (by rw [if_pos h1, if_neg h2]) (by rw [q2 _ ht, Option.bind_some, b1_if, if_pos h1, if_neg h2])
  · exact no (by rw [if_neg h1]) (by rw [q2 _ ht, Option.bind_some, b1_if, if_neg h1])
