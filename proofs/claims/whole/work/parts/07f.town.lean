/-! TOWN: what one TOWN answers, told by its 49 numbers; class and reference answer that -/
def s_tn (f : Nat → Nat) (t : Nat) : Nat := f (13 + t) - f (21 + t) / 10
def s_wt (f : Nat → Nat) : Nat := f 2 / 2 ^ (f 4 % 4) % 2
def s_so (k tone step wet : Nat) : Nat := if k = 1 then tone else if k = 2 then (if wet = 0 then tone else tone - 1) else if k = 3 then min 9 (tone + step - 1) else if k = 4 then 10 else if step = 3 then tone / 2 else 10
def s_snd (f : Nat → Nat) (t step : Nat) : Nat := s_so (f (5 + t)) (s_tn f t) step (s_wt f)
def q_far (a b : Nat) : Nat := (b - a) + (a - b)
def q_lg (a b s : Nat) : Nat := 1 + (q_far a b + s - 1) / s
def q_td (a b s k : Nat) : Nat := if b < a then a - min (k * s) (q_far a b) else a + min (k * s) (q_far a b)
abbrev s_lg (f : Nat → Nat) (w : Nat) : Nat := q_lg (f (29 + w)) (f (34 + w)) (f (39 + w))
abbrev s_td (f : Nat → Nat) (w k : Nat) : Nat := q_td (f (29 + w)) (f (34 + w)) (f (39 + w)) k
/-- a number below n, or any other int -/
abbrev bl (n : Nat) (x : Int32) : Prop := 0 ≤ x.toInt ∧ x.toInt < n
theorem bl_of {n : Nat} {x : Int32} (h : bl n x) (hn : n < 2 ^ 31) : ∃ j : Nat, j < n ∧ x = nI j := by
  refine ⟨x.toInt.toNat, by omega, ?_⟩
  apply Int32.toInt_inj.mp
  rw [nI_toInt (by omega)]
  omega
theorem bl_n {n j : Nat} (h : j < n) (hn : n < 2 ^ 31) : bl n (nI j) := by
  unfold bl
  rw [nI_toInt (by omega)]
  omega
theorem bl_bw {n : Nat} {x : Int32} (hn : n + 1 < 2 ^ 31) : bl (n + 1) x ↔ bw 0 n x := by
  rw [bw_iff (by decide) (by omega)]
  unfold bl
  omega
theorem C_bl {x : Int32} {n : Nat} (hn : n < 2 ^ 31) : (if x < 0 then some (0 : Int32) else if nI n ≤ x then some 0 else some 1) = some (b1 (bl n x)) := by
  unfold b1
  simp only [Int32.lt_iff_toInt_lt, Int32.le_iff_toInt_le, nI_toInt hn, t_0]
  by_cases h1 : x.toInt < 0
  · rw [if_pos h1, if_neg (by omega)]
  · rw [if_neg h1]
    by_cases h2 : (n : Int) ≤ x.toInt
    · rw [if_pos h2, if_neg (by omega)]
    · rw [if_neg h2, if_pos (by omega)]
theorem C_hasTread {i n : Nat} {x : Int32} {M : z_M} (h : z_gi M 7 i 4 = nI n) (hn : n < 2 ^ 31) : F_X5_hasTread i x M = some (b1 (bl n x)) := by
  unfold F_X5_hasTread
  rw [h]
  exact C_bl hn
theorem C_hasWalker {i n : Nat} {x : Int32} {M : z_M} (h : z_gi M 7 i 5 = nI n) (hn : n < 2 ^ 31) : F_X5_hasWalker i x M = some (b1 (bl n x)) := by
  unfold F_X5_hasWalker
  rw [h]
  exact C_bl hn
theorem M_bl {x : Int32} {n : Nat} {M : z_M} (hn : n < 2 ^ 30) : F_X7_in x.toInt64 0 ((nI n - 1).toInt64) M = some (b1 (bl n x)) := by
  rw [show F_X7_in x.toInt64 0 ((nI n - 1).toInt64) M = some _ from M_in32 x 0 (nI n - 1) M]
  unfold b1
  simp only [Int32.le_iff_toInt_le, t_0, show (nI n - 1).toInt = (n : Int) - 1 from pk_sub_toInt (a := n) (b := 1) hn (by decide)]
  congr 1
  by_cases h : 0 ≤ x.toInt ∧ x.toInt ≤ (n : Int) - 1
  · rw [if_pos h, if_pos (by omega)]
  · rw [if_neg h, if_neg (by omega)]
theorem M_isTread {n : Nat} {x : Int32} {M : z_M} (h : z_gi M 25 0 0 = nI n) (hn : n < 2 ^ 30) : F_X7_isTread x M = some (b1 (bl n x)) := by
  unfold F_X7_isTread
  rw [z_grd_t (by decide), show (0 : Int32).toNatClampNeg = 0 from rfl, h, M_bl hn, Option.bind_some, z_grd_t b1_and]
theorem M_isWalker {n : Nat} {x : Int32} {M : z_M} (h : z_gi M 25 0 1 = nI n) (hn : n < 2 ^ 30) : F_X7_isWalker x M = some (b1 (bl n x)) := by
  unfold F_X7_isWalker
  rw [z_grd_t (by decide), show (1 : Int32).toNatClampNeg = 1 from rfl, h, M_bl hn, Option.bind_some, z_grd_t b1_and]
theorem C_stands {i n : Nat} {M : z_M} (h : z_gi M 7 i 4 = nI n) (hn : n < 2 ^ 31) : F_X5_stands i M = some (b1 (1 ≤ n)) := by
  unfold F_X5_stands b1
  rw [h]
  by_cases h1 : 1 ≤ n
  · rw [if_pos h1]; simp (disch := omega) only [n_0, n_1, n_2, n_3, n_4, n_5, n_6, n_7, n_8, n_9, n_10, n_11, n_12, n_13, n_16, n_20, n_21, n_24, n_29, n_30, n_34, n_39, n_40, n_44, n_48, n_49, n_57, n_60, n_97, n_99, n_100, n_122, n_255, n_999, n_1127, n_le, n_lt, n_eq, n_cl, n_in, n_bad, n_m1, nI_add, pk_mul, n_sub, n_div, z_grd_t, z_nmI_e, z_nmL_e, z_nmM_e, Option.bind_some, if_pos, if_neg, if_true, if_false, not_true_eq_false, not_false_eq_true]
  · rw [if_neg h1]; simp (disch := omega) only [n_0, n_1, n_2, n_3, n_4, n_5, n_6, n_7, n_8, n_9, n_10, n_11, n_12, n_13, n_16, n_20, n_21, n_24, n_29, n_30, n_34, n_39, n_40, n_44, n_48, n_49, n_57, n_60, n_97, n_99, n_100, n_122, n_255, n_999, n_1127, n_le, n_lt, n_eq, n_cl, n_in, n_bad, n_m1, nI_add, pk_mul, n_sub, n_div, z_grd_t, z_nmI_e, z_nmL_e, z_nmM_e, Option.bind_some, if_pos, if_neg, if_true, if_false, not_true_eq_false, not_false_eq_true]
section
variable {M : z_M} {i : Nat} {f : Nat → Nat}
theorem p_V.tread (hv : p_V f) {t : Nat} (h : t < f 0) : (f 0 ≤ 8 ∧ t < 8) ∧ 1 ≤ f (5 + t) ∧ f (5 + t) ≤ 5 ∧ f (13 + t) ≤ 9 ∧ f (21 + t) ≤ 99 := ⟨by have := hv.1; omega, hv.2.1 t h⟩
theorem p_V.walker (hv : p_V f) {w : Nat} (h : w < f 1) : (f 0 ≤ 8 ∧ f 1 ≤ 5 ∧ w < 5) ∧ f (29 + w) < f 0 ∧ f (34 + w) < f 0 ∧ 1 ≤ f (39 + w) ∧ f (39 + w) ≤ 3 ∧ f (44 + w) ≤ 20 := ⟨by have := hv.1; omega, hv.2.2 w h⟩
theorem C_noteOf (hc : p_C M i f) (hv : p_V f) {t : Nat} (h : t < f 0) : F_X5_noteOf i (nI t) M = some (nI (f (13 + t))) := by
  have := hv.tread h
  unfold F_X5_noteOf
  rw [C_hasTread hc.1.1 (by omega), b1_t (bl_n h (by omega)), Option.bind_some, if_neg (by decide)]
  simp (disch := omega) only [n_0, n_1, n_2, n_3, n_4, n_5, n_6, n_7, n_8, n_9, n_10, n_11, n_12, n_13, n_16, n_20, n_21, n_24, n_29, n_30, n_34, n_39, n_40, n_44, n_48, n_49, n_57, n_60, n_97, n_99, n_100, n_122, n_255, n_999, n_1127, n_le, n_lt, n_eq, n_cl, n_in, n_bad, n_m1, nI_add, pk_mul, n_sub, n_div, z_grd_t, z_nmI_e, z_nmL_e, z_nmM_e, Option.bind_some, if_pos, if_neg, if_true, if_false, not_true_eq_false, not_false_eq_true, (hc.2.1 t h).2.1]
theorem C_wornOf (hc : p_C M i f) (hv : p_V f) {t : Nat} (h : t < f 0) : F_X5_wornOf i (nI t) M = some (nI (f (21 + t))) := by
  have := hv.tread h
  unfold F_X5_wornOf
  rw [C_hasTread hc.1.1 (by omega), b1_t (bl_n h (by omega)), Option.bind_some, if_neg (by decide)]
  simp (disch := omega) only [n_0, n_1, n_2, n_3, n_4, n_5, n_6, n_7, n_8, n_9, n_10, n_11, n_12, n_13, n_16, n_20, n_21, n_24, n_29, n_30, n_34, n_39, n_40, n_44, n_48, n_49, n_57, n_60, n_97, n_99, n_100, n_122, n_255, n_999, n_1127, n_le, n_lt, n_eq, n_cl, n_in, n_bad, n_m1, nI_add, pk_mul, n_sub, n_div, z_grd_t, z_nmI_e, z_nmL_e, z_nmM_e, Option.bind_some, if_pos, if_neg, if_true, if_false, not_true_eq_false, not_false_eq_true, (hc.2.1 t h).2.2]
theorem C_kindOf (hc : p_C M i f) (hv : p_V f) {t : Nat} (h : t < f 0) : F_X5_kindOf i (nI t) M = some (nI (f (5 + t))) := by
  have := hv.tread h
  unfold F_X5_kindOf
  rw [C_hasTread hc.1.1 (by omega), b1_t (bl_n h (by omega)), Option.bind_some, if_neg (by decide)]
  simp (disch := omega) only [n_0, n_1, n_2, n_3, n_4, n_5, n_6, n_7, n_8, n_9, n_10, n_11, n_12, n_13, n_16, n_20, n_21, n_24, n_29, n_30, n_34, n_39, n_40, n_44, n_48, n_49, n_57, n_60, n_97, n_99, n_100, n_122, n_255, n_999, n_1127, n_le, n_lt, n_eq, n_cl, n_in, n_bad, n_m1, nI_add, pk_mul, n_sub, n_div, z_grd_t, z_nmI_e, z_nmL_e, z_nmM_e, Option.bind_some, if_pos, if_neg, if_true, if_false, not_true_eq_false, not_false_eq_true, (hc.2.1 t h).1]
theorem n_tone : ∀ a, a < 10 → ∀ b, b < 10 → z_max 0 (nI a - nI b) = nI (a - b) := by decide +kernel
theorem C_toneOf (hc : p_C M i f) (hv : p_V f) {t : Nat} (h : t < f 0) : F_X5_toneOf i (nI t) M = some (nI (s_tn f t)) := by
  have := hv.tread h
  unfold F_X5_toneOf
  rw [C_hasTread hc.1.1 (by omega), b1_t (bl_n h (by omega)), Option.bind_some, if_neg (by decide)]
  have e : z_max 0 (nI (f (13 + t)) - nI (f (21 + t)) / 10) = nI (s_tn f t) := by
    rw [n_10, n_div (by omega) (by omega) (by omega)]
    exact n_tone _ (by omega) _ (by omega)
  have hg : z_in (nI t) 8 := by rw [n_in (by omega) (by omega)]; omega
  rw [z_grd_t hg, z_grd_t hg, n_cl (by omega), (hc.2.1 t h).2.1, (hc.2.1 t h).2.2, e]
theorem n_tone2 : ∀ a, a < 10 → ∀ b, b < 10 → (if 0 ≤ nI a - nI b then some (nI a - nI b) else some 0) = some (nI (a - b)) := by decide +kernel
theorem M_toneOf (ht : p_T M 25 0 f) (hv : p_V f) {t : Nat} (h : t < f 0) : F_X7_toneOf (nI t) M = some (nI (s_tn f t)) := by
  have := hv.tread h
  unfold F_X7_toneOf
  have e1 : z_gi M 25 0 (13 + t) = nI (f (13 + t)) := by rw [← ht (13 + t) (by omega), Nat.zero_add]
  have e2 : z_gi M 25 0 (21 + t) = nI (f (21 + t)) := by rw [← ht (21 + t) (by omega), Nat.zero_add]
  simp (disch := omega) only [n_13, n_21, nI_add, n_cl, e1, e2, n_10, n_div, z_nmI_e]
  rw [z_grd_t (by rw [n_in (by omega) (by omega)]; omega), z_grd_t (by rw [n_in (by omega) (by omega)]; omega)]
  exact n_tone2 _ (by omega) _ (by omega)
theorem n_wet : ∀ a, a < 16 → ∀ d, d < 4 → ((nI a >>> (nI d &&& 31)) &&& 1) = nI (a / 2 ^ d % 2) := by decide +kernel
theorem n_mod4 {d : Nat} (h : d < 2 ^ 31) : nI d - nI d / 4 * 4 = nI (d % 4) := pk_rem h (by decide) (by decide)
theorem s_wt2 : s_wt f < 2 := Nat.mod_lt _ (by decide)
theorem C_isWet (hc : p_C M i f) (hv : p_V f) : F_X5_isWet i M = some (nI (s_wt f)) := by
  unfold F_X5_isWet
  have h4 : f 4 < 2 ^ 31 := by have := hv.1; omega
  rw [hc.1.2.2.1, hc.1.2.2.2.2, n_mod4 h4, n_wet _ (by have := hv.1; omega) _ (Nat.mod_lt _ (by decide))]
  show (if nI (s_wt f) = 1 then some 1 else some 0) = _
  rcases (show s_wt f = 0 ∨ s_wt f = 1 by have := s_wt2 (f := f); omega) with e | e <;> rw [e] <;> rfl
theorem M_isWet (ht : p_T M 25 0 f) (hv : p_V f) : F_X7_isWet M = some (nI (s_wt f)) := by
  unfold F_X7_isWet F_X7_has
  have h4 : f 4 < 2 ^ 31 := by have := hv.1; omega
  rw [z_grd_t (by decide), z_grd_t (by decide), show (2 : Int32).toNatClampNeg = 2 from rfl, show (4 : Int32).toNatClampNeg = 4 from rfl, show z_gi M 25 0 2 = nI (f 2) from ht 2 (by decide), show z_gi M 25 0 4 = nI (f 4) from ht 4 (by decide), n_mod4 h4, n_wet _ (by have := hv.1; omega) _ (Nat.mod_lt _ (by decide))]
  show (if nI (s_wt f) = 1 then some 1 else some 0).bind _ = _
  rcases (show s_wt f = 0 ∨ s_wt f = 1 by have := s_wt2 (f := f); omega) with e | e <;> rw [e] <;> rfl
theorem n_loose : ∀ a, a < 10 → ∀ s, s < 4 → 1 ≤ s → z_min 9 ((nI a + nI s) - 1) = nI (min 9 (a + s - 1)) ∧ (if ((nI a + nI s) - 1) ≤ 9 then some ((nI a + nI s) - 1) else some 9) = some (nI (min 9 (a + s - 1))) := by decide +kernel
theorem n_soft : ∀ a, a < 10 → z_max 0 (nI a - 1) = nI (a - 1) ∧ (if nI a ≤ 0 then some (nI a) else some (nI a - 1)) = some (nI (a - 1)) := by decide +kernel
theorem n_half : ∀ a, a < 10 → nI a / 2 = nI (a / 2) := by decide +kernel
theorem s_tn10 (hv : p_V f) {t : Nat} (h : t < f 0) : s_tn f t < 10 := by have := hv.tread h; unfold s_tn; omega
theorem s_so_le {k tone step wet : Nat} (h : tone ≤ 9) : s_so k tone step wet ≤ 10 := by
  unfold s_so
  repeat' split
  all_goals omega
theorem s_snd_le (hv : p_V f) {t step : Nat} (h : t < f 0) : s_snd f t step ≤ 10 := s_so_le (by have := s_tn10 hv h; omega)
/-- class: how one of a kind and tone sounds on this day -/
theorem C_soundAs (hc : p_C M i f) (hv : p_V f) {k tone step : Nat} (hk : k ≤ 5) (hk0 : 1 ≤ k) (ht : tone < 10) (hs : step < 4) (hs1 : 1 ≤ step) : F_X5_soundAs i (nI k) (nI tone) (nI step) M = some (nI (s_so k tone step (s_wt f))) := by
  unfold F_X5_soundAs
  rw [C_isWet hc hv]
  simp only [Option.bind_some]
  rcases (show k = 1 ∨ k = 2 ∨ k = 3 ∨ k = 4 ∨ k = 5 by omega) with rfl | rfl | rfl | rfl | rfl
  · simp (disch := omega) only [n_0, n_1, n_2, n_3, n_4, n_5, n_6, n_7, n_8, n_9, n_10, n_11, n_12, n_13, n_16, n_20, n_21, n_24, n_29, n_30, n_34, n_39, n_40, n_44, n_48, n_49, n_57, n_60, n_97, n_99, n_100, n_122, n_255, n_999, n_1127, n_le, n_lt, n_eq, n_cl, n_in, n_bad, n_m1, nI_add, pk_mul, n_sub, n_div, z_grd_t, z_nmI_e, z_nmL_e, z_nmM_e, Option.bind_some, if_pos, if_neg, if_true, if_false, not_true_eq_false, not_false_eq_true, s_so]
  · simp only [s_so]
    rcases (show s_wt f = 0 ∨ s_wt f = 1 by have := s_wt2 (f := f); omega) with e | e
    · rw [e]; simp (disch := omega) only [n_0, n_1, n_2, n_3, n_4, n_5, n_6, n_7, n_8, n_9, n_10, n_11, n_12, n_13, n_16, n_20, n_21, n_24, n_29, n_30, n_34, n_39, n_40, n_44, n_48, n_49, n_57, n_60, n_97, n_99, n_100, n_122, n_255, n_999, n_1127, n_le, n_lt, n_eq, n_cl, n_in, n_bad, n_m1, nI_add, pk_mul, n_sub, n_div, z_grd_t, z_nmI_e, z_nmL_e, z_nmM_e, Option.bind_some, if_pos, if_neg, if_true, if_false, not_true_eq_false, not_false_eq_true]
    · rw [e, (n_soft tone ht).1]; simp (disch := omega) only [n_0, n_1, n_2, n_3, n_4, n_5, n_6, n_7, n_8, n_9, n_10, n_11, n_12, n_13, n_16, n_20, n_21, n_24, n_29, n_30, n_34, n_39, n_40, n_44, n_48, n_49, n_57, n_60, n_97, n_99, n_100, n_122, n_255, n_999, n_1127, n_le, n_lt, n_eq, n_cl, n_in, n_bad, n_m1, nI_add, pk_mul, n_sub, n_div, z_grd_t, z_nmI_e, z_nmL_e, z_nmM_e, Option.bind_some, if_pos, if_neg, if_true, if_false, not_true_eq_false, not_false_eq_true]
  · simp only [s_so]
    rw [(n_loose tone ht step hs hs1).1]
    simp (disch := omega) only [n_0, n_1, n_2, n_3, n_4, n_5, n_6, n_7, n_8, n_9, n_10, n_11, n_12, n_13, n_16, n_20, n_21, n_24, n_29, n_30, n_34, n_39, n_40, n_44, n_48, n_49, n_57, n_60, n_97, n_99, n_100, n_122, n_255, n_999, n_1127, n_le, n_lt, n_eq, n_cl, n_in, n_bad, n_m1, nI_add, pk_mul, n_sub, n_div, z_grd_t, z_nmI_e, z_nmL_e, z_nmM_e, Option.bind_some, if_pos, if_neg, if_true, if_false, not_true_eq_false, not_false_eq_true]
  · simp (disch := omega) only [n_0, n_1, n_2, n_3, n_4, n_5, n_6, n_7, n_8, n_9, n_10, n_11, n_12, n_13, n_16, n_20, n_21, n_24, n_29, n_30, n_34, n_39, n_40, n_44, n_48, n_49, n_57, n_60, n_97, n_99, n_100, n_122, n_255, n_999, n_1127, n_le, n_lt, n_eq, n_cl, n_in, n_bad, n_m1, nI_add, pk_mul, n_sub, n_div, z_grd_t, z_nmI_e, z_nmL_e, z_nmM_e, Option.bind_some, if_pos, if_neg, if_true, if_false, not_true_eq_false, not_false_eq_true, s_so]
  · simp only [s_so]
    rw [n_half tone ht]
    by_cases h3 : step = 3
    · subst h3; simp (disch := omega) only [n_0, n_1, n_2, n_3, n_4, n_5, n_6, n_7, n_8, n_9, n_10, n_11, n_12, n_13, n_16, n_20, n_21, n_24, n_29, n_30, n_34, n_39, n_40, n_44, n_48, n_49, n_57, n_60, n_97, n_99, n_100, n_122, n_255, n_999, n_1127, n_le, n_lt, n_eq, n_cl, n_in, n_bad, n_m1, nI_add, pk_mul, n_sub, n_div, z_grd_t, z_nmI_e, z_nmL_e, z_nmM_e, Option.bind_some, if_pos, if_neg, if_true, if_false, not_true_eq_false, not_false_eq_true]
    · simp (disch := omega) only [n_0, n_1, n_2, n_3, n_4, n_5, n_6, n_7, n_8, n_9, n_10, n_11, n_12, n_13, n_16, n_20, n_21, n_24, n_29, n_30, n_34, n_39, n_40, n_44, n_48, n_49, n_57, n_60, n_97, n_99, n_100, n_122, n_255, n_999, n_1127, n_le, n_lt, n_eq, n_cl, n_in, n_bad, n_m1, nI_add, pk_mul, n_sub, n_div, z_grd_t, z_nmI_e, z_nmL_e, z_nmM_e, Option.bind_some, if_pos, if_neg, if_true, if_false, not_true_eq_false, not_false_eq_true]
theorem M_sound (ht : p_T M 25 0 f) (hv : p_V f) {t step : Nat} (h : t < f 0) (hs : step < 4) (hs1 : 1 ≤ step) : F_X7_sound (nI t) (nI step) M = some (if s_snd f t step = 10 then -1 else nI (s_snd f t step)) := by
  have h0 := hv.tread h
  have h1 := s_tn10 hv h
  unfold F_X7_sound s_snd
  rw [M_toneOf ht hv h, Option.bind_some]
  have e1 : z_gi M 25 0 (5 + t) = nI (f (5 + t)) := by rw [← ht (5 + t) (by omega), Nat.zero_add]
  rw [z_grd_t (by rw [n_5, nI_add, n_in (by omega) (by omega)]; omega), n_5, nI_add, n_cl (by omega), e1, M_isWet ht hv]
  simp only [Option.bind_some]
  generalize hk : f (5 + t) = k at *
  generalize s_tn f t = tone at *
  rcases (show k = 1 ∨ k = 2 ∨ k = 3 ∨ k = 4 ∨ k = 5 by omega) with rfl | rfl | rfl | rfl | rfl
  · simp only [s_so, if_true]; simp (disch := omega) only [n_0, n_1, n_2, n_3, n_4, n_5, n_6, n_7, n_8, n_9, n_10, n_11, n_12, n_13, n_16, n_20, n_21, n_24, n_29, n_30, n_34, n_39, n_40, n_44, n_48, n_49, n_57, n_60, n_97, n_99, n_100, n_122, n_255, n_999, n_1127, n_le, n_lt, n_eq, n_cl, n_in, n_bad, n_m1, nI_add, pk_mul, n_sub, n_div, z_grd_t, z_nmI_e, z_nmL_e, z_nmM_e, Option.bind_some, if_pos, if_neg, if_true, if_false, not_true_eq_false, not_false_eq_true]
  · simp only [s_so]
    rcases (show s_wt f = 0 ∨ s_wt f = 1 by have := s_wt2 (f := f); omega) with e | e
    · rw [e]; simp (disch := omega) only [n_0, n_1, n_2, n_3, n_4, n_5, n_6, n_7, n_8, n_9, n_10, n_11, n_12, n_13, n_16, n_20, n_21, n_24, n_29, n_30, n_34, n_39, n_40, n_44, n_48, n_49, n_57, n_60, n_97, n_99, n_100, n_122, n_255, n_999, n_1127, n_le, n_lt, n_eq, n_cl, n_in, n_bad, n_m1, nI_add, pk_mul, n_sub, n_div, z_grd_t, z_nmI_e, z_nmL_e, z_nmM_e, Option.bind_some, if_pos, if_neg, if_true, if_false, not_true_eq_false, not_false_eq_true]
    · rw [e, (n_soft tone h1).2]; simp (disch := omega) only [n_0, n_1, n_2, n_3, n_4, n_5, n_6, n_7, n_8, n_9, n_10, n_11, n_12, n_13, n_16, n_20, n_21, n_24, n_29, n_30, n_34, n_39, n_40, n_44, n_48, n_49, n_57, n_60, n_97, n_99, n_100, n_122, n_255, n_999, n_1127, n_le, n_lt, n_eq, n_cl, n_in, n_bad, n_m1, nI_add, pk_mul, n_sub, n_div, z_grd_t, z_nmI_e, z_nmL_e, z_nmM_e, Option.bind_some, if_pos, if_neg, if_true, if_false, not_true_eq_false, not_false_eq_true]
  · simp only [s_so]
    rw [(n_loose tone h1 step hs hs1).2]
    simp (disch := omega) only [n_0, n_1, n_2, n_3, n_4, n_5, n_6, n_7, n_8, n_9, n_10, n_11, n_12, n_13, n_16, n_20, n_21, n_24, n_29, n_30, n_34, n_39, n_40, n_44, n_48, n_49, n_57, n_60, n_97, n_99, n_100, n_122, n_255, n_999, n_1127, n_le, n_lt, n_eq, n_cl, n_in, n_bad, n_m1, nI_add, pk_mul, n_sub, n_div, z_grd_t, z_nmI_e, z_nmL_e, z_nmM_e, Option.bind_some, if_pos, if_neg, if_true, if_false, not_true_eq_false, not_false_eq_true]
  · simp only [s_so]; simp (disch := omega) only [n_0, n_1, n_2, n_3, n_4, n_5, n_6, n_7, n_8, n_9, n_10, n_11, n_12, n_13, n_16, n_20, n_21, n_24, n_29, n_30, n_34, n_39, n_40, n_44, n_48, n_49, n_57, n_60, n_97, n_99, n_100, n_122, n_255, n_999, n_1127, n_le, n_lt, n_eq, n_cl, n_in, n_bad, n_m1, nI_add, pk_mul, n_sub, n_div, z_grd_t, z_nmI_e, z_nmL_e, z_nmM_e, Option.bind_some, if_pos, if_neg, if_true, if_false, not_true_eq_false, not_false_eq_true]
  · simp only [s_so]
    rw [n_half tone h1]
    by_cases h3 : step = 3
    · subst h3; simp (disch := omega) only [n_0, n_1, n_2, n_3, n_4, n_5, n_6, n_7, n_8, n_9, n_10, n_11, n_12, n_13, n_16, n_20, n_21, n_24, n_29, n_30, n_34, n_39, n_40, n_44, n_48, n_49, n_57, n_60, n_97, n_99, n_100, n_122, n_255, n_999, n_1127, n_le, n_lt, n_eq, n_cl, n_in, n_bad, n_m1, nI_add, pk_mul, n_sub, n_div, z_grd_t, z_nmI_e, z_nmL_e, z_nmM_e, Option.bind_some, if_pos, if_neg, if_true, if_false, not_true_eq_false, not_false_eq_true]
    · simp (disch := omega) only [n_0, n_1, n_2, n_3, n_4, n_5, n_6, n_7, n_8, n_9, n_10, n_11, n_12, n_13, n_16, n_20, n_21, n_24, n_29, n_30, n_34, n_39, n_40, n_44, n_48, n_49, n_57, n_60, n_97, n_99, n_100, n_122, n_255, n_999, n_1127, n_le, n_lt, n_eq, n_cl, n_in, n_bad, n_m1, nI_add, pk_mul, n_sub, n_div, z_grd_t, z_nmI_e, z_nmL_e, z_nmM_e, Option.bind_some, if_pos, if_neg, if_true, if_false, not_true_eq_false, not_false_eq_true]
-- the WALK: on numbers
theorem q_lg_le : ∀ a, a < 8 → ∀ b, b < 8 → ∀ s, s < 4 → 1 ≤ s → 1 ≤ q_lg a b s ∧ q_lg a b s ≤ 8 := by decide +kernel
theorem q_td_lt {n a b s k : Nat} (ha : a < n) (hb : b < n) : q_td a b s k < n := by
  unfold q_td q_far
  split <;> omega
def e_td (x7 x9 x11 a2 : Int32) : Option Int32 :=
  let x12 := z_abs (x9 - x7)
  let r := let x14 := z_min (a2 * x11) x12; if x9 ≤ x7 then some (x7 - x14) else some (x7 + x14)
  if a2 ≤ 0 then r else if ((a2 - 1) * x11) < x12 then r else some (-1000000)
def e_tdP (a b s k : Nat) : Bool := e_td (nI a) (nI b) (nI s) (nI k) == some (if k < q_lg a b s then nI (q_td a b s k) else -1000000)
theorem e_tdA : ∀ a, a < 8 → ∀ b, b < 8 → ∀ s, s < 3 → ((List.range 8).all fun k => e_tdP a b (s + 1) k) = true := by decide +kernel
theorem e_td_q {a b s k : Nat} (ha : a < 8) (hb : b < 8) (hs : s < 4) (h1 : 1 ≤ s) (hk : k < 8) : e_td (nI a) (nI b) (nI s) (nI k) = some (if k < q_lg a b s then nI (q_td a b s k) else -1000000) := by
  have h := List.all_eq_true.mp (e_tdA a ha b hb (s - 1) (by omega)) k (List.mem_range.mpr hk)
  rw [show s - 1 + 1 = s by omega] at h
  exact eq_of_beq h
theorem p_V.lg (hv : p_V f) {w : Nat} (h : w < f 1) : 1 ≤ s_lg f w ∧ s_lg f w ≤ 8 := by
  have h0 := hv.walker h
  exact q_lg_le (f (29 + w)) (by omega) (f (34 + w)) (by omega) (f (39 + w)) (by omega) (by omega)
theorem C_part (hc : p_C M i f) (hv : p_V f) {w : Nat} (h : w < f 1) : (z_gi M 11 i (w * 4 + 0) = nI (f (29 + w)) ∧ z_gi M 11 i (w * 4 + 1) = nI (f (34 + w))) ∧ z_gi M 11 i (w * 4 + 2) = nI (f (39 + w)) ∧ z_gi M 11 i (w * 4 + 3) = nI (f (44 + w)) := by
  obtain ⟨h1, h2, h3, h4⟩ := hc.2.2 w h
  rw [Nat.mul_comm w 4]
  exact ⟨⟨h1, h2⟩, h3, h4⟩
theorem C_partOf (hc : p_C M i f) (hv : p_V f) {w : Nat} (h : w < f 1) : (F_X5_partOf i (nI w) 0 M = some (nI (f (29 + w))) ∧ F_X5_partOf i (nI w) 1 M = some (nI (f (34 + w)))) ∧ F_X5_partOf i (nI w) 2 M = some (nI (f (39 + w))) ∧ F_X5_partOf i (nI w) 3 M = some (nI (f (44 + w))) := by
  have h0 := hv.walker h
  obtain ⟨⟨h1, h2⟩, h3, h4⟩ := C_part hc hv h
  unfold F_X5_partOf
  rw [C_hasWalker hc.1.2.1 (by omega), b1_t (bl_n h (by omega)), Option.bind_some]
  refine ⟨⟨?_, ?_⟩, ?_, ?_⟩
  · simp (disch := omega) only [n_0, n_1, n_2, n_3, n_4, n_5, n_6, n_7, n_8, n_9, n_10, n_11, n_12, n_13, n_16, n_20, n_21, n_24, n_29, n_30, n_34, n_39, n_40, n_44, n_48, n_49, n_57, n_60, n_97, n_99, n_100, n_122, n_255, n_999, n_1127, n_le, n_lt, n_eq, n_cl, n_in, n_bad, n_m1, nI_add, pk_mul, n_sub, n_div, z_grd_t, z_nmI_e, z_nmL_e, z_nmM_e, Option.bind_some, if_pos, if_neg, if_true, if_false, not_true_eq_false, not_false_eq_true, h1]
  · simp (disch := omega) only [n_0, n_1, n_2, n_3, n_4, n_5, n_6, n_7, n_8, n_9, n_10, n_11, n_12, n_13, n_16, n_20, n_21, n_24, n_29, n_30, n_34, n_39, n_40, n_44, n_48, n_49, n_57, n_60, n_97, n_99, n_100, n_122, n_255, n_999, n_1127, n_le, n_lt, n_eq, n_cl, n_in, n_bad, n_m1, nI_add, pk_mul, n_sub, n_div, z_grd_t, z_nmI_e, z_nmL_e, z_nmM_e, Option.bind_some, if_pos, if_neg, if_true, if_false, not_true_eq_false, not_false_eq_true, h2]
  · simp (disch := omega) only [n_0, n_1, n_2, n_3, n_4, n_5, n_6, n_7, n_8, n_9, n_10, n_11, n_12, n_13, n_16, n_20, n_21, n_24, n_29, n_30, n_34, n_39, n_40, n_44, n_48, n_49, n_57, n_60, n_97, n_99, n_100, n_122, n_255, n_999, n_1127, n_le, n_lt, n_eq, n_cl, n_in, n_bad, n_m1, nI_add, pk_mul, n_sub, n_div, z_grd_t, z_nmI_e, z_nmL_e, z_nmM_e, Option.bind_some, if_pos, if_neg, if_true, if_false, not_true_eq_false, not_false_eq_true, h3]
  · simp (disch := omega) only [n_0, n_1, n_2, n_3, n_4, n_5, n_6, n_7, n_8, n_9, n_10, n_11, n_12, n_13, n_16, n_20, n_21, n_24, n_29, n_30, n_34, n_39, n_40, n_44, n_48, n_49, n_57, n_60, n_97, n_99, n_100, n_122, n_255, n_999, n_1127, n_le, n_lt, n_eq, n_cl, n_in, n_bad, n_m1, nI_add, pk_mul, n_sub, n_div, z_grd_t, z_nmI_e, z_nmL_e, z_nmM_e, Option.bind_some, if_pos, if_neg, if_true, if_false, not_true_eq_false, not_false_eq_true, h4]
theorem C_td (hc : p_C M i f) (hv : p_V f) {w k : Nat} (h : w < f 1) (hk : k < 2 ^ 30) : F_X5_treadOf i (nI w) (nI k) M = some (if k < s_lg f w then nI (s_td f w k) else -1000000) := by
  have h0 := hv.walker h
  have hq := hv.lg h
  obtain ⟨⟨h1, h2⟩, h3, h4⟩ := C_part hc hv h
  unfold F_X5_treadOf
  rw [C_hasWalker hc.1.2.1 (by omega), b1_t (bl_n h (by omega)), Option.bind_some, if_neg (by decide), if_neg (by rw [n_0, n_lt (by omega) (by omega)]; omega)]
  by_cases h8 : k < 8
  · rw [if_pos (by rw [n_8, n_lt (by omega) (by omega)]; omega)]
    have g0 : z_in (nI w * 4 + 0) 20 := by rw [n_4, pk_mul, n_0, nI_add, n_in (by omega) (by omega)]; omega
    have g1 : z_in (nI w * 4 + 1) 20 := by rw [n_4, pk_mul, n_1, nI_add, n_in (by omega) (by omega)]; omega
    have g2 : z_in (nI w * 4 + 2) 20 := by rw [n_4, pk_mul, n_2, nI_add, n_in (by omega) (by omega)]; omega
    have c0 : (nI w * 4 + 0).toNatClampNeg = w * 4 + 0 := by rw [n_4, pk_mul, n_0, nI_add, n_cl (by omega)]
    have c1 : (nI w * 4 + 1).toNatClampNeg = w * 4 + 1 := by rw [n_4, pk_mul, n_1, nI_add, n_cl (by omega)]
    have c2 : (nI w * 4 + 2).toNatClampNeg = w * 4 + 2 := by rw [n_4, pk_mul, n_2, nI_add, n_cl (by omega)]
    simp only [z_grd_t g0, z_grd_t g1, z_grd_t g2, z_nmI_e, c0, c1, c2, h1, h2, h3]
    exact e_td_q (by omega) (by omega) (by omega) (by omega) h8
  · rw [if_neg (by rw [n_8, n_lt (by omega) (by omega)]; omega), if_neg (by omega)]
theorem C_td_neg (hc : p_C M i f) (hv : p_V f) {w : Nat} {x : Int32} (h : w < f 1) (hx : x < 0) : F_X5_treadOf i (nI w) x M = some (-1000000) := by
  have h0 := hv.walker h
  unfold F_X5_treadOf
  rw [C_hasWalker hc.1.2.1 (by omega), b1_t (bl_n h (by omega)), Option.bind_some, if_neg (by decide), if_pos hx]
theorem s_td_lt (hv : p_V f) {w k : Nat} (h : w < f 1) (hk : k < s_lg f w) : s_td f w k < f 0 := by
  have h0 := hv.walker h
  have hq := hv.lg h
  exact q_td_lt (by omega) (by omega)
/-- how long a WALK is -/
theorem C_long (hc : p_C M i f) (hv : p_V f) {w : Nat} (h : w < f 1) : F_X5_longOf i (nI w) M = some (nI (s_lg f w)) := by
  have h0 := hv.walker h
  have hq := hv.lg h
  have key : ∀ d k n, k + d = s_lg f w → d < n → F_X5_longOf_b2 i M n (nI w) (nI k) = some (nI (s_lg f w)) := by
    intro d
    induction d with
    | zero =>
      intro k n h1 h2
      obtain ⟨n, rfl⟩ : ∃ k', n = k' + 1 := ⟨n - 1, by omega⟩
      rw [F_X5_longOf_b2, C_td hc hv h (by omega), Option.bind_some, if_neg (show ¬ k < s_lg f w by omega), if_pos rfl]
      by_cases h8 : k = 8
      · rw [if_pos (by rw [n_8, n_le (by omega) (by omega)]; omega), ← h1, h8]; rfl
      · rw [if_neg (by rw [n_8, n_le (by omega) (by omega)]; omega), ← h1]; rfl
    | succ d ih =>
      intro k n h1 h2
      obtain ⟨n, rfl⟩ : ∃ k', n = k' + 1 := ⟨n - 1, by omega⟩
      have := s_td_lt hv h (k := k) (by omega)
      rw [F_X5_longOf_b2, C_td hc hv h (by omega), Option.bind_some, if_pos (show k < s_lg f w by omega), if_neg (by rw [n_8, n_le (by omega) (by omega)]; omega), n_1, nI_add]
      rw [if_neg (by rw [n_bad (by omega)]; exact id)]
      exact ih (k + 1) n (by omega) (by omega)
  unfold F_X5_longOf
  exact key (s_lg f w) 0 z_fuel (by omega) (by unfold z_fuel; omega)
end
