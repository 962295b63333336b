/-! SHELF: the calls of ROWS, class and reference -/
/-- both answer the same finding -/
theorem n_find (v : Int32) : ((-1000010) : Int32) - v = (-1000010) - v := rfl
theorem C_isMissing {r : Nat} {M : z_M} (h : r < 8) : F_X4_isMissing (nI r) M = some (if 0 ≤ z_gi M 4 0 r then 0 else 1) := by
  unfold F_X4_isMissing
  rw [C_isRow, b1_t (bw_n (by omega) (by omega) (by omega)), Option.bind_some, if_neg (by decide), z_grd_t (by rw [n_in (by omega) (by omega)]; exact h), n_cl (by omega)]
  split <;> rfl
/-- n places from i on, of m -/
def p_fit (i c : Int32) (m : Nat) : Prop := 0 ≤ i.toInt ∧ 0 ≤ c.toInt ∧ i.toInt + c.toInt ≤ m
theorem p_fit.of {i c : Int32} {m : Nat} (h : p_fit i c m) (hm : m ≤ 40) : ∃ a b : Nat, i = nI a ∧ c = nI b ∧ a + b ≤ m := by
  unfold p_fit at h
  refine ⟨i.toInt.toNat, c.toInt.toNat, ?_, ?_, by omega⟩
  · apply Int32.toInt_inj.mp; rw [nI_toInt (by omega)]; omega
  · apply Int32.toInt_inj.mp; rw [nI_toInt (by omega)]; omega
theorem p_fit.to {a b m : Nat} (h : a + b ≤ m) (hm : m ≤ 40) : p_fit (nI a) (nI b) m := by
  unfold p_fit
  rw [nI_toInt (by omega), nI_toInt (by omega)]
  omega
theorem t_0 : (0 : Int32).toInt = 0 := rfl
theorem t_1 : (1 : Int32).toInt = 1 := rfl
theorem t_sub {m : Nat} {c : Int32} (hm : m ≤ 40) (h0 : 0 ≤ c.toInt) (h1 : c.toInt ≤ m) : (nI m - c).toInt = (m : Int) - c.toInt := by
  obtain ⟨b, hb, rfl⟩ : ∃ b : Nat, b ≤ 40 ∧ c = nI b := ⟨c.toInt.toNat, by omega, by apply Int32.toInt_inj.mp; rw [nI_toInt (by omega)]; omega⟩
  rw [nI_toInt (by omega)]
  exact pk_sub_toInt (by omega) (by omega)
theorem C_finding {r m : Nat} {i c : Int32} {M : z_M} (h : r < 8) (hm : m ≤ 40) (hs : z_gi M 4 0 r = nI m) [Decidable (p_fit i c m)] : F_X4_findingOf (nI r) i c M = some (if p_fit i c m then 0 else 2) := by
  unfold F_X4_findingOf
  rw [C_isMissing h, hs, if_pos (by rw [n_0, n_le (by omega) (by omega)]; omega), Option.bind_some, if_pos rfl]
  simp only [n_cl (show r < 2 ^ 31 by omega), hs]
  have hg : z_in (nI r) 8 := by rw [n_in (by omega) (by omega)]; exact h
  simp only [z_grd_t hg]
  have f2 : F_X4_findingOf_b44 M = some 2 := rfl
  have f0 : F_X4_findingOf_b45 M 1 = some 0 := rfl
  rw [f2, f0]
  by_cases h1 : i < 0
  · rw [if_pos h1, if_neg]
    rw [Int32.lt_iff_toInt_lt, t_0] at h1
    unfold p_fit; omega
  · rw [if_neg h1]
    by_cases h2 : c < 0
    · rw [if_pos h2, if_neg]
      rw [Int32.lt_iff_toInt_lt, t_0] at h2
      unfold p_fit; omega
    · rw [if_neg h2]
      rw [Int32.lt_iff_toInt_lt, t_0] at h1 h2
      by_cases h3 : nI m < c
      · rw [if_pos h3, if_neg]
        rw [Int32.lt_iff_toInt_lt, nI_toInt (by omega)] at h3
        unfold p_fit; omega
      · rw [if_neg h3]
        rw [Int32.lt_iff_toInt_lt, nI_toInt (by omega)] at h3
        have e := t_sub (m := m) (c := c) hm (by omega) (by omega)
        by_cases h4 : nI m - c < i
        · rw [if_pos h4, if_neg]
          rw [Int32.lt_iff_toInt_lt, e] at h4
          unfold p_fit; omega
        · rw [if_neg h4, if_pos]
          rw [Int32.lt_iff_toInt_lt, e] at h4
          unfold p_fit; omega
theorem C_findingN {r : Nat} {i c : Int32} {M : z_M} (h : r < 8) (hs : z_gi M 4 0 r = -1) : F_X4_findingOf (nI r) i c M = some 1 := by
  unfold F_X4_findingOf
  rw [C_isMissing h, hs]
  rfl
/-- the sieve of both: bad, or a row -/
theorem bw7 {x : Int32} (h : bw 0 7 x) : ∃ r : Nat, r < 8 ∧ x = nI r := by
  obtain ⟨r, -, h2, h3⟩ := bw_of h (by decide) (by decide)
  exact ⟨r, by omega, h3⟩
theorem C_lay {r n : Nat} {v : Int32} {M : z_M} (hr : r < 8) (hn : n ≤ 40) : ∃ M', F_X4_lay (nI r) v (nI n) M = some (nI n, M') ∧ (∀ a b c, a ≠ 2 → z_gi M' a b c = z_gi (z_si (z_si M 3 0 r v) 4 0 r (nI n)) a b c) ∧ ∀ c, z_gi M' 2 0 c = if 40 * r ≤ c ∧ c < 40 * r + n then 0 else z_gi M 2 0 c := by
  obtain ⟨M', e, hf, hv⟩ := C_lay_loop hr hn n z_fuel 0 (z_si (z_si M 3 0 r v) 4 0 r (nI n)) (by omega) (by unfold z_fuel; omega)
  refine ⟨M', ?_, fun a b c ha => hf a b ha c, fun c => by rw [hv c]; rfl⟩
  unfold F_X4_lay
  rw [C_isRow, b1_t (bw_n (by omega) (by omega) (by omega)), Option.bind_some, if_neg (by decide)]
  simp (disch := omega) only [n_0, n_1, n_2, n_3, n_4, n_5, n_6, n_7, n_8, n_9, n_10, n_11, n_12, n_13, n_16, n_20, n_21, n_24, n_29, n_30, n_34, n_39, n_40, n_44, n_48, n_49, n_57, n_60, n_97, n_99, n_100, n_122, n_255, n_999, n_1127, n_le, n_lt, n_eq, n_cl, n_in, n_bad, n_m1, nI_add, pk_mul, n_sub, n_div, z_grd_t, z_nmI_e, z_nmL_e, z_nmM_e, Option.bind_some, if_pos, if_neg, if_true, if_false, not_true_eq_false, not_false_eq_true]
  exact e
theorem eq_row {M : z_M} (hR : z_Rel M) (a1 : Int32) (a2 : Int32) (a3 : Int32) : ∃ (r : Int32) (M1 : z_M) (M2 : z_M), F_X6_row a1 a2 a3 M = some (r, M1) ∧ F_X7_row a1 a2 a3 M1 = some (r, M2) ∧ z_Rel M2 := by
  unfold F_X6_row F_X7_row
  simp only [C_isRow, M_isRow, C_isLane, M_bw (lo := 0) (hi := 2) (L := 0) (U := 2), Option.bind_some, b1_if]
  by_cases h1 : bw 0 7 a1
  · simp only [if_pos h1]
    by_cases h2 : bw 0 2 a2
    · simp only [if_pos h2]
      by_cases h3 : a3 ≤ 40
      · simp only [if_pos h3]
        by_cases h4 : 0 ≤ a3
        · simp only [if_pos h4]
          obtain ⟨r, hr, rfl⟩ := bw7 h1
          obtain ⟨n, -, hn, rfl⟩ := bw_of (lo := 0) (hi := 40) ⟨h4, h3⟩ (by decide) (by decide)
          obtain ⟨M1, e1, f1, g1⟩ := C_lay (r := r) (n := n) (v := a2) (M := z_si M 0 0 7 0) hr hn
          obtain ⟨M2, e2, f2, g2, k2⟩ := M_row_loop hr hn 40 z_fuel 0 (z_si (z_si M1 22 0 r a2) 23 0 r (nI n)) (by omega) (by decide)
          refine ⟨nI n, M1, M2, ?_, ?_, ?_⟩
          · unfold F_X6_row_b41
            rw [z_nmM_e, m_same, if_pos rfl, e1, Option.bind_some]
          · simp (disch := omega) only [n_0, n_1, n_2, n_3, n_4, n_5, n_6, n_7, n_8, n_9, n_10, n_11, n_12, n_13, n_16, n_20, n_21, n_24, n_29, n_30, n_34, n_39, n_40, n_44, n_48, n_49, n_57, n_60, n_97, n_99, n_100, n_122, n_255, n_999, n_1127, n_le, n_lt, n_eq, n_cl, n_in, n_bad, n_m1, nI_add, pk_mul, n_sub, n_div, z_grd_t, z_nmI_e, z_nmL_e, z_nmM_e, Option.bind_some, if_pos, if_neg, if_true, if_false, not_true_eq_false, not_false_eq_true]
            exact e2
          · have A4 : ∀ c, z_gi M2 4 0 c = if c = r then nI n else z_gi M 4 0 c := fun c => by rw [f2 4 0 (by omega)]; simp [m_gs, f1 4 0 c (by omega)]
            have A23 : ∀ c, z_gi M2 23 0 c = if c = r then nI n else z_gi M 23 0 c := fun c => by rw [f2 23 0 (by omega)]; simp [m_gs, f1 23 0 c (by omega)]
            have A3 : ∀ c, z_gi M2 3 0 c = if c = r then a2 else z_gi M 3 0 c := fun c => by rw [f2 3 0 (by omega)]; simp [m_gs, f1 3 0 c (by omega)]
            have A22 : ∀ c, z_gi M2 22 0 c = if c = r then a2 else z_gi M 22 0 c := fun c => by rw [f2 22 0 (by omega)]; simp [m_gs, f1 22 0 c (by omega)]
            have A2 : ∀ c, z_gi M2 2 0 c = if 40 * r ≤ c ∧ c < 40 * r + n then 0 else z_gi M 2 0 c := fun c => by rw [f2 2 0 (by omega), m_off _ _ _ _ _ (by omega), m_off _ _ _ _ _ (by omega), g1 c, m_off _ _ _ _ _ (by omega)]
            have A24 : ∀ c, z_gi M2 24 0 c = if 40 * r ≤ c ∧ c < 40 * r + 40 then 0 else z_gi M 24 0 c := fun c => by rw [g2 c]; simp [m_gs, f1 24 0 c (by omega)]
            refine hR.rows (fun r' hr' => ?_) ?_ (fun a b c h1 h2 h3 => ?_)
            · rw [A4, A23, A3, A22]
              by_cases hrr : r' = r
              · subst hrr
                simp only [if_true]
                refine ⟨trivial, Or.inr ⟨n, hn, rfl, trivial, fun j hj => ?_⟩⟩
                rw [A2, A24, if_pos (by omega), if_pos (by omega)]
              · simp only [if_neg hrr]
                obtain ⟨b1, b2⟩ := hR.1 r' hr'
                refine ⟨b1, b2.imp id ?_⟩
                rintro ⟨n', c1, c2, c3, c4⟩
                refine ⟨n', c1, c2, c3, fun j hj => ?_⟩
                rw [A2, A24, if_neg (by omega), if_neg (by omega)]
                exact c4 j hj
            · unfold R2
              rw [f2 0 0 (by omega), k2, if_pos rfl]
              simp [m_gs, f1 0 0 7 (by omega)]
            · by_cases h21 : a = 21
              · subst h21
                by_cases hb : b = 0
                · subst hb
                  rw [k2, if_neg (h3 rfl)]
                  simp [m_gs, f1 21 0 c (by omega)]
                · rw [f2 21 b (by omega), m_off _ _ _ _ _ (by omega), m_off _ _ _ _ _ (by omega), f1 21 b c (by omega), m_off _ _ _ _ _ (by omega), m_off _ _ _ _ _ (by omega), m_off _ _ _ _ _ (by omega)]
              · rw [f2 a b (by omega), m_off _ _ _ _ _ (by omega), m_off _ _ _ _ _ (by omega), f1 a b c (by omega), m_off _ _ _ _ _ (by omega), m_off _ _ _ _ _ (by omega), m_off _ _ _ _ _ (by omega)]
        · simp only [if_neg h4]
          exact ⟨_, _, _, by unfold F_X6_row_b41; rw [z_nmM_e, m_same, if_neg (by decide)], by unfold F_X7_find; rfl, hR.find 4⟩
      · simp only [if_neg h3]
        exact ⟨_, _, _, rfl, rfl, hR⟩
    · simp only [if_neg h2]
      exact ⟨_, _, _, rfl, rfl, hR⟩
  · simp only [if_neg h1]
    exact ⟨_, _, _, rfl, rfl, hR⟩
theorem eq_status {M : z_M} (hR : z_Rel M) : ∃ (r : Int32), F_X6_status M = some r ∧ F_X7_status M = some r := ⟨_, rfl, by unfold F_X7_status; rw [hR.2.1]⟩
theorem eq_fault {M : z_M} (hR : z_Rel M) : ∃ (r : Int32), F_X6_fault M = some r ∧ F_X7_fault M = some r := ⟨_, rfl, by unfold F_X7_fault; rw [hR.2.2.2.1]⟩
theorem eq_drop {M : z_M} (hR : z_Rel M) (a1 : Int32) : ∃ (r : Int32) (M1 : z_M) (M2 : z_M), F_X6_drop a1 M = some (r, M1) ∧ F_X7_drop a1 M1 = some (r, M2) ∧ z_Rel M2 := by
  unfold F_X6_drop F_X7_drop
  simp only [C_isRow, M_isRow, Option.bind_some, b1_if]
  by_cases h1 : bw 0 7 a1
  · simp only [if_pos h1]
    obtain ⟨r, hr, rfl⟩ := bw7 h1
    obtain ⟨b1, b2⟩ := hR.1 r hr
    rw [C_isMissing hr, Option.bind_some]
    have hg : z_in (nI r) 8 := by rw [n_in (by omega) (by omega)]; exact hr
    simp only [z_grd_t hg, n_cl (show r < 2 ^ 31 by omega)]
    rcases b2 with b2 | ⟨n, c1, c2, c3, c4⟩
    · rw [b2]
      refine ⟨_, _, _, by unfold F_X6_drop_b31; rw [z_nmM_e, m_same, if_neg (by decide)]; rfl, ?_, hR.find 1⟩
      rw [m_off _ _ _ _ _ (by omega), ← b1, b2, if_neg (by decide)]
      rfl
    · rw [c2]
      have h0 : (0 : Int32) ≤ nI n := by rw [n_0, n_le (by omega) (by omega)]; omega
      rw [if_pos h0, if_pos rfl]
      refine ⟨nI n, z_si (z_si M 0 0 7 0) 4 0 r (-1), z_si (z_si (z_si (z_si M 0 0 7 0) 4 0 r (-1)) 23 0 r (-1)) 21 0 3 0, ?_, ?_, ?_⟩
      · unfold F_X6_drop_b31 F_X4_takeAway
        rw [z_nmM_e, m_same, if_pos rfl, C_isMissing hr, Option.bind_some]
        simp only [z_grd_t hg, n_cl (show r < 2 ^ 31 by omega), z_nmI_e]
        rw [m_off _ _ _ _ _ (by omega), c2, if_pos h0, if_pos rfl]
        rfl
      · rw [m_off _ _ _ _ _ (by omega), m_off _ _ _ _ _ (by omega), ← b1, c2, if_pos h0]
        rfl
      · refine hR.rows (fun r' hr' => ?_) ?_ (fun a b c h1 h2 h3 => ?_)
        · simp only [m_gs]
          by_cases hrr : r' = r
          · subst hrr; simp
          · simp [hrr]
            exact hR.1 r' hr'
        · unfold R2; simp [m_gs]
        · rw [m_off _ _ _ _ _ (by omega), m_off _ _ _ _ _ (by omega), m_off _ _ _ _ _ (by omega), m_off _ _ _ _ _ (by omega)]
  · simp only [if_neg h1]
    exact ⟨_, _, _, rfl, rfl, hR⟩
theorem sh_gen (x : BitVec 32) (k : Nat) (hk : k < 32) : (x <<< k).sshiftRight k = (x.signExtend (32 - k)).signExtend 32 := by
  apply BitVec.eq_of_getLsbD_eq
  intro i hi
  simp only [BitVec.getLsbD_sshiftRight, BitVec.getLsbD_shiftLeft, BitVec.getLsbD_signExtend, BitVec.msb_eq_getLsbD_last]
  by_cases h : k + i < 32
  · simp [hi, h, show i < 32 - k by omega, show ¬ 32 ≤ i by omega]
  · simp [hi, h, show ¬ i < 32 - k by omega, show ¬ 32 ≤ i by omega, show 31 - k < 32 - k by omega, show 32 - k - 1 = 31 - k by omega, show ¬ 31 < k by omega, show 31 - k < 32 by omega]
theorem sh24 (x : Int32) : (x <<< ((24 : Int32) &&& 31)) >>> ((24 : Int32) &&& 31) = x.toInt8.toInt32 := by
  apply Int32.toBitVec_inj.mp
  rw [Int32.toBitVec_shiftRight, Int32.toBitVec_shiftLeft, show ((24 : Int32) &&& 31).toBitVec.smod 32 = 24#32 from by decide, Int8.toBitVec_toInt32, Int32.toBitVec_toInt8]
  exact sh_gen _ 24 (by decide)
theorem sh16 (x : Int32) : (x <<< ((16 : Int32) &&& 31)) >>> ((16 : Int32) &&& 31) = x.toInt16.toInt32 := by
  apply Int32.toBitVec_inj.mp
  rw [Int32.toBitVec_shiftRight, Int32.toBitVec_shiftLeft, show ((16 : Int32) &&& 31).toBitVec.smod 32 = 16#32 from by decide, Int16.toBitVec_toInt32, Int32.toBitVec_toInt16]
  exact sh_gen _ 16 (by decide)
theorem p_fit1 {i : Int32} {m : Nat} (hm : m ≤ 40) : p_fit i 1 m ↔ (0 : Int32) ≤ i ∧ i ≤ nI m - 1 := by
  unfold p_fit
  rw [Int32.le_iff_toInt_le, Int32.le_iff_toInt_le, t_0, t_1, show (nI m - 1).toInt = (m : Int) - 1 from pk_sub_toInt (a := m) (b := 1) (by omega) (by decide)]
  omega
theorem eq_set {M : z_M} (hR : z_Rel M) (a1 : Int32) (a2 : Int32) (a3 : Int32) : ∃ (r : Int32) (M1 : z_M) (M2 : z_M), F_X6_set a1 a2 a3 M = some (r, M1) ∧ F_X7_set a1 a2 a3 M1 = some (r, M2) ∧ z_Rel M2 := by
  have hcl : ∀ m, Decidable (p_fit a2 1 m) := fun m => by unfold p_fit; infer_instance
  unfold F_X6_set F_X7_set
  simp only [z_nmM_e, C_isRow, M_isRow, Option.bind_some, b1_if]
  by_cases h1 : bw 0 7 a1
  · simp only [if_pos h1]
    obtain ⟨r, hr, rfl⟩ := bw7 h1
    obtain ⟨b1, b2⟩ := hR.1 r hr
    have hg : z_in (nI r) 8 := by rw [n_in (by omega) (by omega)]; exact hr
    simp only [z_grd_t hg, n_cl (show r < 2 ^ 31 by omega)]
    rcases b2 with b2 | ⟨m, c1, c2, c3, c4⟩
    · rw [C_findingN hr b2, Option.bind_some, m_same, if_neg (by decide)]
      refine ⟨_, _, _, rfl, ?_, hR.find 1⟩
      rw [m_off _ _ _ _ _ (by omega), ← b1, b2, if_neg (by decide)]
      rfl
    · rw [C_finding hr c1 c2, Option.bind_some, m_same]
      have h0 : (0 : Int32) ≤ nI m := by rw [n_0, n_le (by omega) (by omega)]; omega
      by_cases hf : p_fit a2 1 m
      · rw [if_pos hf, if_pos rfl]
        obtain ⟨i, b, rfl, hb, hib⟩ := hf.of c1
        obtain rfl : b = 1 := by rw [n_1, n_eq (by omega) (by omega)] at hb; omega
        have hq : z_in (nI r * 40 + nI i) 320 := by rw [n_40, pk_mul, nI_add, n_in (by omega) (by omega)]; omega
        have hq2 : z_in (40 * nI r + nI i) 320 := by rw [n_40, pk_mul, nI_add, n_in (by omega) (by omega)]; omega
        have hcl1 : (nI r * 40 + nI i).toNatClampNeg = 40 * r + i := by rw [n_40, pk_mul, nI_add, n_cl (by omega)]; omega
        have hcl2 : (40 * nI r + nI i).toNatClampNeg = 40 * r + i := by rw [n_40, pk_mul, nI_add, n_cl (by omega)]
        obtain ⟨v, hv1, hv2⟩ : ∃ v, F_X4_put (nI r) (nI i) a3 (z_si M 0 0 7 0) = some (v, z_si (z_si M 0 0 7 0) 2 0 (40 * r + i) v) ∧ ∀ M', F_X7_asLane (z_gi M 22 0 r) a3 M' = some v := by
          unfold F_X4_put F_X7_asLane F_X4_put_b46
          rw [C_finding (m := m) hr c1 (by rw [m_off _ _ _ _ _ (by omega), c2]), if_pos hf, Option.bind_some, if_pos rfl]
          simp only [z_grd_t hg, n_cl (show r < 2 ^ 31 by omega), z_nmI_e, z_grd_t hq, hcl1, m_off M 0 0 7 0 (a := 3) (b := 0) (c := r) (by omega), c3]
          by_cases k0 : z_gi M 22 0 r = 0
          · exact ⟨_, by rw [if_pos k0], fun _ => by rw [if_pos k0, sh24]⟩
          · by_cases k1 : z_gi M 22 0 r = 1
            · exact ⟨_, by rw [if_neg k0, if_pos k1], fun _ => by rw [if_neg k0, if_pos k1, sh16]⟩
            · exact ⟨_, by rw [if_neg k0, if_neg k1], fun _ => by rw [if_neg k0, if_neg k1]⟩
        refine ⟨v, z_si (z_si M 0 0 7 0) 2 0 (40 * r + i) v, z_si (z_si (z_si (z_si M 0 0 7 0) 2 0 (40 * r + i) v) 24 0 (40 * r + i) v) 21 0 3 0, ?_, ?_, ?_⟩
        · rw [hv1, Option.bind_some]
        · have hA : z_gi (z_si (z_si M 0 0 7 0) 2 0 (40 * r + i) v) 23 0 r = nI m := by rw [m_off _ _ _ _ _ (by omega), m_off _ _ _ _ _ (by omega), ← b1, c2]
          have hB : z_gi (z_si (z_si M 0 0 7 0) 2 0 (40 * r + i) v) 22 0 r = z_gi M 22 0 r := by rw [m_off _ _ _ _ _ (by omega), m_off _ _ _ _ _ (by omega)]
          rw [hA, hB, if_pos h0, show F_X7_in (nI i).toInt64 0 (nI m - 1).toInt64 _ = some _ from M_in32 (nI i) 0 (nI m - 1) _, Option.bind_some, if_pos ((p_fit1 c1).mp hf), if_neg (by decide), hv2, Option.bind_some]
          simp only [z_grd_t hq2, hcl2, m_same]
          rfl
        · refine hR.rows (fun r' hr' => ?_) ?_ (fun a b c h1 h2 h3 => ?_)
          · simp only [m_gs]
            obtain ⟨d1, d2⟩ := hR.1 r' hr'
            simp only [show ¬ ((4 : Nat) = 21) by decide, show ¬ ((4 : Nat) = 24) by decide, show ¬ ((4 : Nat) = 2) by decide, show ¬ ((4 : Nat) = 0) by decide, show ¬ ((23 : Nat) = 21) by decide, show ¬ ((23 : Nat) = 24) by decide, show ¬ ((23 : Nat) = 2) by decide, show ¬ ((23 : Nat) = 0) by decide, show ¬ ((3 : Nat) = 21) by decide, show ¬ ((3 : Nat) = 24) by decide, show ¬ ((3 : Nat) = 2) by decide, show ¬ ((3 : Nat) = 0) by decide, show ¬ ((22 : Nat) = 21) by decide, show ¬ ((22 : Nat) = 24) by decide, show ¬ ((22 : Nat) = 2) by decide, show ¬ ((22 : Nat) = 0) by decide, false_and, if_false]
            refine ⟨d1, d2.imp id ?_⟩
            rintro ⟨n, e1, e2, e3, e4⟩
            refine ⟨n, e1, e2, e3, fun j hj => ?_⟩
            by_cases hj2 : 40 * r' + j = 40 * r + i
            · rw [hj2]; simp
            · simp [hj2]; exact e4 j hj
          · unfold R2; simp [m_gs]
          · rw [m_off _ _ _ _ _ (by omega), m_off _ _ _ _ _ (by omega), m_off _ _ _ _ _ (by omega), m_off _ _ _ _ _ (by omega)]
      · rw [if_neg hf, if_neg (by decide)]
        refine ⟨_, _, _, rfl, ?_, hR.find 2⟩
        rw [m_off _ _ _ _ _ (by omega), ← b1, c2, if_pos h0, show F_X7_in a2.toInt64 0 (nI m - 1).toInt64 _ = some _ from M_in32 a2 0 (nI m - 1) _, Option.bind_some, if_neg (fun h => hf ((p_fit1 c1).mpr h)), if_pos rfl]
        rfl
  · simp only [if_neg h1]
    exact ⟨_, _, _, rfl, rfl, hR⟩
