/-! COPY: the last call of ROWS; then feed, trace -/
theorem M_cp2 {b j n : Nat} (hb : b < 8) (hj : j + n ≤ 40) : ∀ (d k i : Nat) (M : z_M), i + d = n → d < k → ∃ M', F_X7_copy_b154 k (nI b) (nI j) (nI n) (nI i) M = some (nI n, M') ∧ (∀ x y c, x ≠ 24 → ¬ (x = 21 ∧ c = 3) → z_gi M' x y c = z_gi M x y c) ∧ z_gi M' 21 0 3 = 0 ∧ ∀ c, z_gi M' 24 0 c = if 40 * b + j + i ≤ c ∧ c < 40 * b + j + n then z_gi M 26 0 (c - (40 * b + j)) else z_gi M 24 0 c := by
  intro d
  induction d with
  | zero =>
    intro k i M h1 h2
    obtain ⟨k, rfl⟩ : ∃ k', k = k' + 1 := ⟨k - 1, by omega⟩
    refine ⟨z_si M 21 0 3 0, ?_, fun x y c h1 h2 => m_off _ _ _ _ _ (by omega), m_same _ _ _ _ _, fun c => by rw [if_neg (by omega), m_off _ _ _ _ _ (by omega)]⟩
    rw [F_X7_copy_b154]
    simp (disch := omega) only [n_0, n_1, n_2, n_3, n_4, n_5, n_6, n_7, n_8, n_9, n_10, n_11, n_12, n_13, n_16, n_20, n_21, n_24, n_29, n_30, n_34, n_39, n_40, n_44, n_48, n_49, n_57, n_60, n_97, n_99, n_100, n_122, n_255, n_999, n_1127, n_le, n_lt, n_eq, n_cl, n_in, n_bad, n_m1, nI_add, pk_mul, n_sub, n_div, z_grd_t, z_nmI_e, z_nmL_e, z_nmM_e, Option.bind_some, if_pos, if_neg, if_true, if_false, not_true_eq_false, not_false_eq_true, F_X7_well]
  | succ d ih =>
    intro k i M h1 h2
    obtain ⟨k, rfl⟩ : ∃ k', k = k' + 1 := ⟨k - 1, by omega⟩
    obtain ⟨M', e, hf, h3, hv⟩ := ih k (i + 1) (z_si M 24 0 (40 * b + j + i) (z_gi M 26 0 i)) (by omega) (by omega)
    refine ⟨M', ?_, fun x y c h1 h2 => by rw [hf x y c h1 h2, m_off _ _ _ _ _ (by omega)], h3, fun c => ?_⟩
    · rw [F_X7_copy_b154]
      simp (disch := omega) only [n_0, n_1, n_2, n_3, n_4, n_5, n_6, n_7, n_8, n_9, n_10, n_11, n_12, n_13, n_16, n_20, n_21, n_24, n_29, n_30, n_34, n_39, n_40, n_44, n_48, n_49, n_57, n_60, n_97, n_99, n_100, n_122, n_255, n_999, n_1127, n_le, n_lt, n_eq, n_cl, n_in, n_bad, n_m1, nI_add, pk_mul, n_sub, n_div, z_grd_t, z_nmI_e, z_nmL_e, z_nmM_e, Option.bind_some, if_pos, if_neg, if_true, if_false, not_true_eq_false, not_false_eq_true]
      rw [← e]
    · rw [hv c, m_off _ _ _ _ _ (show ¬ (26 = 24 ∧ 0 = 0 ∧ c - (40 * b + j) = 40 * b + j + i) by omega), m_gs]
      by_cases hc : 40 * b + j + (i + 1) ≤ c ∧ c < 40 * b + j + n
      · rw [if_pos hc, if_pos (by omega)]
      · rw [if_neg hc]
        by_cases hc2 : c = 40 * b + j + i
        · rw [if_pos ⟨rfl, rfl, hc2⟩, if_pos (by omega), hc2, show 40 * b + j + i - (40 * b + j) = i by omega]
        · rw [if_neg (fun h => hc2 h.2.2), if_neg (by omega)]
theorem M_cp1 {a i0 b j n : Nat} (ha : a < 8) (hi : i0 + n ≤ 40) (hb : b < 8) (hj : j + n ≤ 40) : ∀ (d k i : Nat) (M : z_M), i + d = n → d < k → ∃ M', F_X7_copy_b117 k (nI a) (nI i0) (nI b) (nI j) (nI n) (nI i) M = some (nI n, M') ∧ (∀ x y c, x ≠ 24 → x ≠ 26 → ¬ (x = 21 ∧ c = 3) → z_gi M' x y c = z_gi M x y c) ∧ z_gi M' 21 0 3 = 0 ∧ ∀ c, z_gi M' 24 0 c = if 40 * b + j ≤ c ∧ c < 40 * b + j + n then (if c - (40 * b + j) < i then z_gi M 26 0 (c - (40 * b + j)) else z_gi M 24 0 (40 * a + i0 + (c - (40 * b + j)))) else z_gi M 24 0 c := by
  intro d
  induction d with
  | zero =>
    intro k i M h1 h2
    obtain ⟨k, rfl⟩ : ∃ k', k = k' + 1 := ⟨k - 1, by omega⟩
    obtain ⟨M', e, hf, h3, hv⟩ := M_cp2 hb hj n z_fuel 0 M (by omega) (by unfold z_fuel; omega)
    refine ⟨M', ?_, fun x y c h1 h2 h3 => hf x y c h1 h3, h3, fun c => ?_⟩
    · rw [F_X7_copy_b117]
      simp (disch := omega) only [n_0, n_1, n_2, n_3, n_4, n_5, n_6, n_7, n_8, n_9, n_10, n_11, n_12, n_13, n_16, n_20, n_21, n_24, n_29, n_30, n_34, n_39, n_40, n_44, n_48, n_49, n_57, n_60, n_97, n_99, n_100, n_122, n_255, n_999, n_1127, n_le, n_lt, n_eq, n_cl, n_in, n_bad, n_m1, nI_add, pk_mul, n_sub, n_div, z_grd_t, z_nmI_e, z_nmL_e, z_nmM_e, Option.bind_some, if_pos, if_neg, if_true, if_false, not_true_eq_false, not_false_eq_true]
      exact e
    · rw [hv c]
      by_cases hc : 40 * b + j ≤ c ∧ c < 40 * b + j + n
      · rw [if_pos (by omega), if_pos hc, if_pos (by omega)]
      · rw [if_neg (by omega), if_neg hc]
  | succ d ih =>
    intro k i M h1 h2
    obtain ⟨k, rfl⟩ : ∃ k', k = k' + 1 := ⟨k - 1, by omega⟩
    obtain ⟨M', e, hf, h3, hv⟩ := ih k (i + 1) (z_si M 26 0 i (z_gi M 24 0 (40 * a + i0 + i))) (by omega) (by omega)
    refine ⟨M', ?_, fun x y c h1 h2 h3 => by rw [hf x y c h1 h2 h3, m_off _ _ _ _ _ (by omega)], h3, fun c => ?_⟩
    · rw [F_X7_copy_b117]
      simp (disch := omega) only [n_0, n_1, n_2, n_3, n_4, n_5, n_6, n_7, n_8, n_9, n_10, n_11, n_12, n_13, n_16, n_20, n_21, n_24, n_29, n_30, n_34, n_39, n_40, n_44, n_48, n_49, n_57, n_60, n_97, n_99, n_100, n_122, n_255, n_999, n_1127, n_le, n_lt, n_eq, n_cl, n_in, n_bad, n_m1, nI_add, pk_mul, n_sub, n_div, z_grd_t, z_nmI_e, z_nmL_e, z_nmM_e, Option.bind_some, if_pos, if_neg, if_true, if_false, not_true_eq_false, not_false_eq_true]
      rw [← e]
    · rw [hv c]
      by_cases hc : 40 * b + j ≤ c ∧ c < 40 * b + j + n
      · rw [if_pos hc, if_pos hc]
        by_cases hc2 : c - (40 * b + j) = i
        · rw [if_pos (by omega), if_neg (by omega), hc2, m_same]
        · by_cases hc3 : c - (40 * b + j) < i
          · rw [if_pos (by omega), if_pos hc3, m_off _ _ _ _ _ (by omega)]
          · rw [if_neg (by omega), if_neg hc3, m_off _ _ _ _ _ (by omega)]
      · rw [if_neg hc, if_neg hc, m_off _ _ _ _ _ (by omega)]
theorem t_64 {m : Nat} {c : Int32} (hm : m ≤ 40) : ((nI m).toInt64 - c.toInt64).toInt = (m : Int) - c.toInt := by
  have h1 := Int32.le_toInt c
  have h2 := Int32.toInt_lt c
  rw [Int64.toInt_sub, Int32.toInt_toInt64, Int32.toInt_toInt64, nI_toInt (by omega)]
  exact Int.bmod_eq_of_le (by omega) (by omega)
theorem M_fit {i c : Int32} {m : Nat} {M : z_M} (hm : m ≤ 40) (hc : 0 ≤ c.toInt) [Decidable (p_fit i c m)] : F_X7_in i.toInt64 0 ((nI m).toInt64 - c.toInt64) M = some (b1 (p_fit i c m)) := by
  rw [M_in]
  congr 1
  unfold b1
  have : ((0 : Int64) ≤ i.toInt64 ∧ i.toInt64 ≤ (nI m).toInt64 - c.toInt64) ↔ p_fit i c m := by
    unfold p_fit
    rw [Int64.le_iff_toInt_le, Int64.le_iff_toInt_le, t_64 hm, Int32.toInt_toInt64, show (0 : Int64).toInt = 0 from rfl]
    omega
  simp only [this]
theorem C_copyF {a b ma mb : Nat} {i j n : Int32} {M : z_M} (ha : a < 8) (hb : b < 8) (hma : ma ≤ 40) (hmb : mb ≤ 40) (sa : z_gi M 4 0 a = nI ma) (sb : z_gi M 4 0 b = nI mb) [Decidable (p_fit i n ma)] [Decidable (p_fit j n mb)] : F_X4_findingOfCopy (nI a) i (nI b) j n M = some (if z_gi M 3 0 a = z_gi M 3 0 b then (if p_fit i n ma ∧ p_fit j n mb then 0 else 2) else 5) := by
  unfold F_X4_findingOfCopy
  have h0 : ∀ m, m ≤ 40 → (0 : Int32) ≤ nI m := fun m hm => by rw [n_0, n_le (by omega) (by omega)]; omega
  have ga : z_in (nI a) 8 := by rw [n_in (by omega) (by omega)]; exact ha
  have gb : z_in (nI b) 8 := by rw [n_in (by omega) (by omega)]; exact hb
  rw [C_isMissing ha, sa, if_pos (h0 _ hma), Option.bind_some, if_pos rfl, C_isMissing hb, sb, if_pos (h0 _ hmb), Option.bind_some, if_pos rfl]
  simp only [z_grd_t ga, z_grd_t gb, n_cl (show a < 2 ^ 31 by omega), n_cl (show b < 2 ^ 31 by omega)]
  rw [C_finding ha hma sa, C_finding hb hmb sb]
  simp only [Option.bind_some]
  by_cases hl : z_gi M 3 0 a = z_gi M 3 0 b
  · rw [if_pos hl, if_pos hl]
    by_cases f1 : p_fit i n ma
    · rw [if_pos f1, if_pos rfl]
      by_cases f2 : p_fit j n mb
      · rw [if_pos f2, if_pos ⟨f1, f2⟩]
      · rw [if_neg f2, if_neg (fun h => f2 h.2)]
    · rw [if_neg f1, if_neg (by decide), if_neg (fun h => f1 h.1)]
  · rw [if_neg hl, if_neg hl]
theorem eq_copy {M : z_M} (hR : z_Rel M) (a1 : Int32) (a2 : Int32) (a3 : Int32) (a4 : Int32) (a5 : Int32) : ∃ (r : Int32) (M1 : z_M) (M2 : z_M), F_X6_copy a1 a2 a3 a4 a5 M = some (r, M1) ∧ F_X7_copy a1 a2 a3 a4 a5 M1 = some (r, M2) ∧ z_Rel M2 := by
  have hdec : ∀ i m, Decidable (p_fit i a5 m) := fun i m => by unfold p_fit; infer_instance
  unfold F_X6_copy F_X7_copy
  simp only [z_nmM_e, C_isRow, M_isRow, Option.bind_some, b1_if]
  by_cases h1 : bw 0 7 a1
  · simp only [if_pos h1]
    by_cases h2 : bw 0 7 a3
    · simp only [if_pos h2]
      obtain ⟨a, ha, rfl⟩ := bw7 h1
      obtain ⟨b, hb, rfl⟩ := bw7 h2
      have ga : z_in (nI a) 8 := by rw [n_in (by omega) (by omega)]; exact ha
      have gb : z_in (nI b) 8 := by rw [n_in (by omega) (by omega)]; exact hb
      simp only [z_grd_t ga, z_grd_t gb, n_cl (show a < 2 ^ 31 by omega), n_cl (show b < 2 ^ 31 by omega)]
      obtain ⟨x1, x2⟩ := hR.1 a ha
      obtain ⟨y1, y2⟩ := hR.1 b hb
      have h0 : ∀ m, m ≤ 40 → (0 : Int32) ≤ nI m := fun m hm => by rw [n_0, n_le (by omega) (by omega)]; omega
      have hn0 : ∀ m, m ≤ 40 → ¬ nI m < 0 := fun m hm => by rw [n_0, n_lt (by omega) (by omega)]; omega
      have A : ∀ v x c, x ≠ 0 → z_gi (z_si M 0 0 7 v) x 0 c = z_gi M x 0 c := fun v x c hx => m_off _ _ _ _ _ (by omega)
      rcases x2 with x2 | ⟨ma, c1, c2, c3, c4⟩
      · refine ⟨(-1000010) - 1, z_si M 0 0 7 1, z_si (z_si M 0 0 7 1) 21 0 3 1, ?_, ?_, hR.find 1⟩
        · unfold F_X4_findingOfCopy
          rw [C_isMissing ha, x2, if_neg (by decide), Option.bind_some, if_neg (by decide), Option.bind_some, m_same, if_neg (by decide)]
        · rw [A _ _ _ (by decide), ← x1, x2, if_pos (by decide)]
          unfold F_X7_copy_b35 F_X7_find
          rfl
      · rcases y2 with y2 | ⟨mb, d1, d2, d3, d4⟩
        · refine ⟨(-1000010) - 1, z_si M 0 0 7 1, z_si (z_si M 0 0 7 1) 21 0 3 1, ?_, ?_, hR.find 1⟩
          · unfold F_X4_findingOfCopy
            rw [C_isMissing ha, c2, if_pos (h0 _ c1), Option.bind_some, if_pos rfl, C_isMissing hb, y2, if_neg (by decide), Option.bind_some, if_neg (by decide), Option.bind_some, m_same, if_neg (by decide)]
          · rw [A _ _ _ (by decide), ← x1, c2, if_neg (hn0 _ c1), A _ _ _ (by decide), ← y1, y2, if_neg (by decide)]
            unfold F_X7_copy_b35 F_X7_find
            rfl
        · rw [C_copyF ha hb c1 d1 c2 d2, Option.bind_some, m_same]
          by_cases hl : z_gi M 3 0 a = z_gi M 3 0 b
          · by_cases hf : p_fit a2 a5 ma ∧ p_fit a4 a5 mb
            · rw [if_pos hl, if_pos hf, if_pos rfl]
              obtain ⟨f1, f2⟩ := hf
              obtain ⟨i0, n, rfl, rfl, e1⟩ := f1.of c1
              obtain ⟨j0, n2, rfl, e2, e3⟩ := f2.of d1
              obtain rfl : n = n2 := by rw [n_eq (by omega) (by omega)] at e2; exact e2
              have hM1 : F_X4_move (nI a) (nI i0) (nI b) (nI j0) (nI n) (z_si M 0 0 7 0) = some (nI n, z_cp (z_si M 0 0 7 0) 2 0 2 0 (40 * a + i0) (40 * b + j0) n) := by
                unfold F_X4_move
                rw [C_copyF ha hb c1 d1 (by rw [A _ _ _ (by decide), c2]) (by rw [A _ _ _ (by decide), d2]), A _ _ _ (by decide), A _ _ _ (by decide), if_pos hl, if_pos ⟨f1, f2⟩, Option.bind_some, if_pos rfl]
                simp only [n_40, pk_mul, nI_add, n_cl (show a * 40 + i0 < 2 ^ 31 by omega), n_cl (show b * 40 + j0 < 2 ^ 31 by omega), n_cl (show n < 2 ^ 31 by omega)]
                rw [z_grd_t ⟨by rw [n_0, n_lt (by omega) (by omega)]; omega, by rw [n_0, n_lt (by omega) (by omega)]; omega, by rw [n_0, n_lt (by omega) (by omega)]; omega, by omega, by omega⟩, Nat.mul_comm a 40, Nat.mul_comm b 40]
              obtain ⟨M2, g1, g2, g3, g4⟩ := M_cp1 (a := a) (i0 := i0) (b := b) (j := j0) (n := n) ha (by omega) hb (by omega) n z_fuel 0 (z_cp (z_si M 0 0 7 0) 2 0 2 0 (40 * a + i0) (40 * b + j0) n) (by omega) (by unfold z_fuel; omega)
              have B : ∀ x c, x ≠ 0 → x ≠ 2 → z_gi (z_cp (z_si M 0 0 7 0) 2 0 2 0 (40 * a + i0) (40 * b + j0) n) x 0 c = z_gi M x 0 c := fun x c h h2 => by rw [m_gcp, if_neg (by omega), A _ _ _ h]
              refine ⟨nI n, _, M2, by rw [hM1, Option.bind_some], ?_, ?_⟩
              · rw [B _ _ (by decide) (by decide), B _ _ (by decide) (by decide), B _ _ (by decide) (by decide), B _ _ (by decide) (by decide), ← x1, ← y1, c2, d2, if_neg (hn0 _ c1), if_pos (h0 _ d1), ← c3, ← d3, if_pos hl, if_neg (by rw [n_0, n_lt (by omega) (by omega)]; omega), M_fit c1 f1.2.1, Option.bind_some, b1_if, if_pos f1, M_fit d1 f1.2.1, Option.bind_some, b1_if, if_pos f2]
                exact g1
              · have C2 : ∀ c, z_gi M2 2 0 c = if 40 * b + j0 ≤ c ∧ c < 40 * b + j0 + n then z_gi M 2 0 (40 * a + i0 + (c - (40 * b + j0))) else z_gi M 2 0 c := fun c => by
                  rw [g2 2 0 c (by decide) (by decide) (by omega), m_gcp, A _ _ _ (by decide), A _ _ _ (by decide)]
                  simp only [true_and]
                have C24 : ∀ c, z_gi M2 24 0 c = if 40 * b + j0 ≤ c ∧ c < 40 * b + j0 + n then z_gi M 24 0 (40 * a + i0 + (c - (40 * b + j0))) else z_gi M 24 0 c := fun c => by
                  rw [g4 c]
                  by_cases hc : 40 * b + j0 ≤ c ∧ c < 40 * b + j0 + n
                  · rw [if_pos hc, if_pos hc, if_neg (by omega)]; exact B _ _ (by decide) (by decide)
                  · rw [if_neg hc, if_neg hc]; exact B _ _ (by decide) (by decide)
                have D : ∀ x c, x ≠ 0 → x ≠ 2 → x ≠ 24 → x ≠ 26 → x ≠ 21 → z_gi M2 x 0 c = z_gi M x 0 c := fun x c h1 h2 h3 h4 h5 => by rw [g2 x 0 c h3 h4 (by omega), B _ _ h1 h2]
                refine hR.rows (fun r' hr' => ?_) ?_ (fun x y c h1 h2 h3 => ?_)
                · rw [D 4 _ (by decide) (by decide) (by decide) (by decide) (by decide), D 23 _ (by decide) (by decide) (by decide) (by decide) (by decide), D 3 _ (by decide) (by decide) (by decide) (by decide) (by decide), D 22 _ (by decide) (by decide) (by decide) (by decide) (by decide)]
                  obtain ⟨k1, k2⟩ := hR.1 r' hr'
                  refine ⟨k1, k2.imp id ?_⟩
                  rintro ⟨m', l1, l2, l3, l4⟩
                  refine ⟨m', l1, l2, l3, fun q hq => ?_⟩
                  rw [C2, C24]
                  by_cases hc : 40 * b + j0 ≤ 40 * r' + q ∧ 40 * r' + q < 40 * b + j0 + n
                  · rw [if_pos hc, if_pos hc]
                    have := c4 (i0 + (40 * r' + q - (40 * b + j0))) (by omega)
                    rw [show 40 * a + i0 + (40 * r' + q - (40 * b + j0)) = 40 * a + (i0 + (40 * r' + q - (40 * b + j0))) by omega]
                    exact this
                  · rw [if_neg hc, if_neg hc]
                    exact l4 q hq
                · unfold R2
                  rw [g3, g2 0 0 7 (by decide) (by decide) (by omega), m_gcp, if_neg (by omega), m_same]
                · rw [g2 x y c (by omega) (by omega) (by omega), m_gcp, if_neg (by omega), m_off _ _ _ _ _ (by omega)]
            · rw [if_pos hl, if_neg hf, if_neg (by decide)]
              refine ⟨_, _, z_si (z_si M 0 0 7 2) 21 0 3 2, rfl, ?_, hR.find 2⟩
              rw [A _ _ _ (by decide), A _ _ _ (by decide), A _ _ _ (by decide), A _ _ _ (by decide), ← x1, ← y1, c2, d2, if_neg (hn0 _ c1), if_pos (h0 _ d1), ← c3, ← d3, if_pos hl]
              have e2 : F_X7_copy_b108 (z_si M 0 0 7 2) = some ((-1000010) - 2, z_si (z_si M 0 0 7 2) 21 0 3 2) := rfl
              by_cases h5 : a5 < 0
              · rw [if_pos h5]; exact e2
              · rw [if_neg h5]
                have h5' : 0 ≤ a5.toInt := by rw [Int32.lt_iff_toInt_lt, t_0] at h5; omega
                rw [M_fit c1 h5', Option.bind_some, b1_if]
                by_cases f1 : p_fit a2 a5 ma
                · rw [if_pos f1, M_fit d1 h5', Option.bind_some, b1_if, if_neg (fun h => hf ⟨f1, h⟩)]; exact e2
                · rw [if_neg f1]; exact e2
          · rw [if_neg hl, if_neg (by decide)]
            refine ⟨_, _, z_si (z_si M 0 0 7 5) 21 0 3 5, rfl, ?_, hR.find 5⟩
            rw [A _ _ _ (by decide), A _ _ _ (by decide), A _ _ _ (by decide), A _ _ _ (by decide), ← x1, ← y1, c2, d2, if_neg (hn0 _ c1), if_pos (h0 _ d1), ← c3, ← d3, if_neg hl]
            rfl
    · simp only [if_neg h2]
      exact ⟨_, _, _, rfl, rfl, hR⟩
  · simp only [if_neg h1]
    exact ⟨_, _, _, rfl, rfl, hR⟩
