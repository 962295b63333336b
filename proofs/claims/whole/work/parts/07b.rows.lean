/-! ROWS: row, set, copy, drop, status -/
/-- between two small numbers -/
abbrev bw (lo hi : Nat) (x : Int32) : Prop := nI lo ≤ x ∧ x ≤ nI hi
theorem bw_iff {lo hi : Nat} {x : Int32} (hlo : lo < 2 ^ 31) (hhi : hi < 2 ^ 31) : bw lo hi x ↔ (lo : Int) ≤ x.toInt ∧ x.toInt ≤ hi := by
  unfold bw
  rw [Int32.le_iff_toInt_le, Int32.le_iff_toInt_le, nI_toInt hlo, nI_toInt hhi]
theorem bw_of {lo hi : Nat} {x : Int32} (h : bw lo hi x) (hlo : lo < 2 ^ 31) (hhi : hi < 2 ^ 31) : ∃ j : Nat, lo ≤ j ∧ j ≤ hi ∧ x = nI j := by
  have h1 := (bw_iff hlo hhi).mp h
  refine ⟨x.toInt.toNat, by omega, by omega, ?_⟩
  apply Int32.toInt_inj.mp
  rw [nI_toInt (by omega)]
  omega
theorem bw_n {lo hi j : Nat} (h1 : lo ≤ j) (h2 : j ≤ hi) (hhi : hi < 2 ^ 31) : bw lo hi (nI j) := ⟨nI_le h1 (by omega), nI_le h2 hhi⟩
def b1 (p : Prop) [Decidable p] : Int32 := if p then 1 else 0
theorem b1_t {p : Prop} [Decidable p] (h : p) : b1 p = 1 := if_pos h
theorem b1_f {p : Prop} [Decidable p] (h : ¬ p) : b1 p = 0 := if_neg h
theorem b1_and {p : Prop} [Decidable p] : b1 p &&& 1 = b1 p := by
  unfold b1
  split <;> decide
/-- a test of class or reference: the two ways -/
theorem b1_if {α : Type} {p : Prop} [Decidable p] {A B : α} : (if b1 p = 0 then A else B) = if p then B else A := by
  by_cases h : p
  · rw [b1_t h, if_neg (by decide), if_pos h]
  · rw [b1_f h, if_pos rfl, if_neg h]
theorem b1_ifn {α : Type} {p : Prop} [Decidable p] {A B : α} : (if ¬ b1 p = 0 then A else B) = if p then A else B := by
  by_cases h : p
  · rw [b1_t h, if_pos (by decide), if_pos h]
  · rw [b1_f h, if_neg (fun h => h rfl), if_neg h]
theorem C_rng {x : Int32} {n : Nat} (hn : n + 1 < 2 ^ 31) {α : Type} {A B : α} {N1 : Int32} (hN : N1 = nI (n + 1)) : (if x < 0 then A else if N1 ≤ x then A else B) = if bw 0 n x then B else A := by
  subst hN
  by_cases h : bw 0 n x
  · have h1 := (bw_iff (by decide) (by omega)).mp h
    rw [if_pos h, if_neg, if_neg]
    · rw [Int32.le_iff_toInt_le, nI_toInt hn]; omega
    · rw [Int32.lt_iff_toInt_lt]; show ¬ x.toInt < 0; omega
  · rw [if_neg h]
    by_cases h1 : x < 0
    · rw [if_pos h1]
    · rw [if_neg h1, if_pos]
      rw [bw_iff (by decide) (by omega)] at h
      rw [Int32.lt_iff_toInt_lt] at h1
      have : (0 : Int32).toInt = 0 := rfl
      rw [Int32.le_iff_toInt_le, nI_toInt hn]
      omega
theorem C_isRow {x : Int32} {M : z_M} : F_X4_isRow x M = some (b1 (bw 0 7 x)) := by
  unfold F_X4_isRow
  rw [C_rng (n := 7) (N1 := 8) (by decide) rfl]
  unfold b1
  split <;> rfl
theorem C_isLane {x : Int32} {M : z_M} : F_X4_isLane x M = some (b1 (bw 0 2 x)) := by
  unfold F_X4_isLane
  rw [C_rng (n := 2) (N1 := 3) (by decide) rfl]
  unfold b1
  split <;> rfl
theorem i_cmp (x y : Int64) : (lg_cmp x y < 0 ↔ x < y) ∧ (0 < lg_cmp x y ↔ y < x) := by
  unfold lg_cmp
  by_cases h1 : y < x
  · have : ¬ x < y := fun h => absurd (Int64.lt_trans h1 h) (Int64.lt_irrefl)
    rw [if_pos h1]
    exact ⟨⟨fun h => absurd h (by decide), fun h => absurd h this⟩, ⟨fun _ => h1, fun _ => by decide⟩⟩
  · rw [if_neg h1]
    by_cases h2 : x = y
    · rw [if_pos h2]
      subst h2
      exact ⟨⟨fun h => absurd h (by decide), fun h => absurd h h1⟩, ⟨fun h => absurd h (by decide), fun h => absurd h h1⟩⟩
    · rw [if_neg h2]
      have : x < y := Int64.lt_of_le_of_ne (Int64.not_lt.mp h1) h2
      exact ⟨⟨fun _ => this, fun _ => by decide⟩, ⟨fun h => absurd h (by decide), fun h => absurd h h1⟩⟩
theorem M_in (x y z : Int64) (M : z_M) : F_X7_in x y z M = some (if y ≤ x ∧ x ≤ z then 1 else 0) := by
  unfold F_X7_in
  simp only [(i_cmp _ _).1, (i_cmp _ _).2]
  by_cases h1 : x < y
  · rw [if_pos h1, if_neg (fun h => absurd h.1 (Int64.not_le.mpr h1))]
  · rw [if_neg h1]
    by_cases h2 : z < x
    · rw [if_pos h2, if_neg (fun h => absurd h.2 (Int64.not_le.mpr h2))]
    · rw [if_neg h2, if_pos ⟨Int64.not_lt.mp h1, Int64.not_lt.mp h2⟩]
theorem M_in32 (x y z : Int32) (M : z_M) : F_X7_in x.toInt64 y.toInt64 z.toInt64 M = some (if y ≤ x ∧ x ≤ z then 1 else 0) := by
  rw [M_in]
  congr 1
  simp only [Int64.le_iff_toInt_le, Int32.le_iff_toInt_le, Int32.toInt_toInt64]
/-- between constants -/
theorem M_inK {x : Int32} {lo hi : Nat} {L U : Int64} (hL : L = (nI lo).toInt64) (hU : U = (nI hi).toInt64) {M : z_M} : F_X7_in x.toInt64 L U M = some (if nI lo ≤ x ∧ x ≤ nI hi then 1 else 0) := by
  subst hL; subst hU; exact M_in32 _ _ _ _
theorem M_bw {x : Int32} {lo hi : Nat} {L U : Int64} {M : z_M} (hL : L = (nI lo).toInt64 := by rfl) (hU : U = (nI hi).toInt64 := by rfl) : F_X7_in x.toInt64 L U M = some (b1 (bw lo hi x)) := by
  subst hL; subst hU
  rw [M_in32]
  rfl
theorem M_isRow {x : Int32} {M : z_M} : F_X7_isRow x M = some (b1 (bw 0 7 x)) := by
  unfold F_X7_isRow
  rw [M_bw (lo := 0) (hi := 7) (L := 0) (U := 7), Option.bind_some, z_grd_t b1_and]
/-- what is asked of the ROWS -/
def R1 (M : z_M) : Prop := ∀ r, r < 8 → z_gi M 4 0 r = z_gi M 23 0 r ∧ (z_gi M 4 0 r = -1 ∨ ∃ n, n ≤ 40 ∧ z_gi M 4 0 r = nI n ∧ z_gi M 3 0 r = z_gi M 22 0 r ∧ ∀ j, j < n → z_gi M 2 0 (40 * r + j) = z_gi M 24 0 (40 * r + j))
def R2 (M : z_M) : Prop := z_gi M 0 0 7 = z_gi M 21 0 3
theorem C_lay_loop {r n : Nat} (hr : r < 8) (hn : n ≤ 40) : ∀ (d k i : Nat) (M : z_M), i + d = n → d < k → ∃ M', F_X4_lay_b38 k (nI r) (nI n) (nI i) M = some (nI n, M') ∧ m_of (fun a b => a = 2) M M' ∧ ∀ c, z_gi M' 2 0 c = if 40 * r + i ≤ c ∧ c < 40 * r + n then 0 else z_gi M 2 0 c := by
  intro d
  induction d with
  | zero =>
    intro k i M h1 h2
    obtain ⟨k, rfl⟩ : ∃ k', k = k' + 1 := ⟨k - 1, by omega⟩
    refine ⟨M, ?_, m_of.rf, fun c => by rw [if_neg (by omega)]⟩
    rw [F_X4_lay_b38]
    simp (disch := omega) only [n_0, n_1, n_2, n_3, n_4, n_5, n_6, n_7, n_8, n_9, n_10, n_11, n_12, n_13, n_16, n_20, n_21, n_24, n_29, n_30, n_34, n_39, n_40, n_44, n_48, n_49, n_57, n_60, n_97, n_99, n_100, n_122, n_255, n_999, n_1127, n_le, n_lt, n_eq, n_cl, n_in, n_bad, n_m1, nI_add, pk_mul, n_sub, n_div, z_grd_t, z_nmI_e, z_nmL_e, z_nmM_e, Option.bind_some, if_pos, if_neg, if_true, if_false, not_true_eq_false, not_false_eq_true]
  | succ d ih =>
    intro k i M h1 h2
    obtain ⟨k, rfl⟩ : ∃ k', k = k' + 1 := ⟨k - 1, by omega⟩
    obtain ⟨M', e, hf, hv⟩ := ih k (i + 1) (z_si M 2 0 (r * 40 + i) 0) (by omega) (by omega)
    refine ⟨M', ?_, (m_of.si (S := fun a b => a = 2) (k := 2) (i := 0) m_of.rf rfl).tr hf, fun c => ?_⟩
    · rw [F_X4_lay_b38]
      simp (disch := omega) only [n_0, n_1, n_2, n_3, n_4, n_5, n_6, n_7, n_8, n_9, n_10, n_11, n_12, n_13, n_16, n_20, n_21, n_24, n_29, n_30, n_34, n_39, n_40, n_44, n_48, n_49, n_57, n_60, n_97, n_99, n_100, n_122, n_255, n_999, n_1127, n_le, n_lt, n_eq, n_cl, n_in, n_bad, n_m1, nI_add, pk_mul, n_sub, n_div, z_grd_t, z_nmI_e, z_nmL_e, z_nmM_e, Option.bind_some, if_pos, if_neg, if_true, if_false, not_true_eq_false, not_false_eq_true]
      rw [← e]
      rfl
    · rw [hv c, m_gs]
      by_cases hc : 40 * r + (i + 1) ≤ c ∧ c < 40 * r + n
      · rw [if_pos hc, if_pos (by omega)]
      · rw [if_neg hc]
        by_cases hc2 : c = r * 40 + i
        · rw [if_pos ⟨rfl, rfl, hc2⟩, if_pos (by omega)]
        · rw [if_neg (fun h => hc2 h.2.2), if_neg (by omega)]
theorem M_row_loop {r n : Nat} (hr : r < 8) (hn : n ≤ 40) : ∀ (d k i : Nat) (M : z_M), i + d = 40 → d < k → ∃ M', F_X7_row_b55 k (nI r) (nI n) (nI i) M = some (nI n, M') ∧ m_of (fun a b => a = 24 ∨ (a = 21 ∧ b = 0)) M M' ∧ (∀ c, z_gi M' 24 0 c = if 40 * r + i ≤ c ∧ c < 40 * r + 40 then 0 else z_gi M 24 0 c) ∧ ∀ c, z_gi M' 21 0 c = if c = 3 then 0 else z_gi M 21 0 c := by
  intro d
  induction d with
  | zero =>
    intro k i M h1 h2
    obtain ⟨k, rfl⟩ : ∃ k', k = k' + 1 := ⟨k - 1, by omega⟩
    refine ⟨z_si M 21 0 3 0, ?_, m_of.si m_of.rf (Or.inr ⟨rfl, rfl⟩), fun c => ?_, fun c => ?_⟩
    · rw [F_X7_row_b55]
      simp (disch := omega) only [n_0, n_1, n_2, n_3, n_4, n_5, n_6, n_7, n_8, n_9, n_10, n_11, n_12, n_13, n_16, n_20, n_21, n_24, n_29, n_30, n_34, n_39, n_40, n_44, n_48, n_49, n_57, n_60, n_97, n_99, n_100, n_122, n_255, n_999, n_1127, n_le, n_lt, n_eq, n_cl, n_in, n_bad, n_m1, nI_add, pk_mul, n_sub, n_div, z_grd_t, z_nmI_e, z_nmL_e, z_nmM_e, Option.bind_some, if_pos, if_neg, if_true, if_false, not_true_eq_false, not_false_eq_true, F_X7_well]
    · rw [if_neg (by omega), m_off _ _ _ _ _ (by omega)]
    · simp [m_gs]
  | succ d ih =>
    intro k i M h1 h2
    obtain ⟨k, rfl⟩ : ∃ k', k = k' + 1 := ⟨k - 1, by omega⟩
    obtain ⟨M', e, hf, hv, hw⟩ := ih k (i + 1) (z_si M 24 0 (40 * r + i) 0) (by omega) (by omega)
    refine ⟨M', ?_, (m_of.si (S := fun a b => a = 24 ∨ (a = 21 ∧ b = 0)) (k := 24) (i := 0) m_of.rf (Or.inl rfl)).tr hf, fun c => ?_, fun c => ?_⟩
    · rw [F_X7_row_b55]
      simp (disch := omega) only [n_0, n_1, n_2, n_3, n_4, n_5, n_6, n_7, n_8, n_9, n_10, n_11, n_12, n_13, n_16, n_20, n_21, n_24, n_29, n_30, n_34, n_39, n_40, n_44, n_48, n_49, n_57, n_60, n_97, n_99, n_100, n_122, n_255, n_999, n_1127, n_le, n_lt, n_eq, n_cl, n_in, n_bad, n_m1, nI_add, pk_mul, n_sub, n_div, z_grd_t, z_nmI_e, z_nmL_e, z_nmM_e, Option.bind_some, if_pos, if_neg, if_true, if_false, not_true_eq_false, not_false_eq_true]
      rw [← e]
      rfl
    · rw [hv c, m_gs]
      by_cases hc : 40 * r + (i + 1) ≤ c ∧ c < 40 * r + 40
      · rw [if_pos hc, if_pos (by omega)]
      · rw [if_neg hc]
        by_cases hc2 : c = 40 * r + i
        · rw [if_pos ⟨rfl, rfl, hc2⟩, if_pos (by omega)]
        · rw [if_neg (fun h => hc2 h.2.2), if_neg (by omega)]
    · rw [hw c, m_off _ _ _ _ _ (by omega)]
-- what each part of the relation rests on
theorem R1.fr {M M' : z_M} (h : R1 M) (e : ∀ a b, b = 0 → (a = 2 ∨ a = 3 ∨ a = 4 ∨ a = 22 ∨ a = 23 ∨ a = 24) → ∀ c, z_gi M' a b c = z_gi M a b c) : R1 M' := by
  intro r hr
  rw [e 4 0 rfl (by omega), e 23 0 rfl (by omega), e 3 0 rfl (by omega), e 22 0 rfl (by omega)]
  obtain ⟨h1, h2⟩ := h r hr
  refine ⟨h1, h2.imp id ?_⟩
  rintro ⟨n, a, b, c, d⟩
  exact ⟨n, a, b, c, fun j hj => by rw [e 2 0 rfl (by omega), e 24 0 rfl (by omega)]; exact d j hj⟩
