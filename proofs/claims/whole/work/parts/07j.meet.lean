/-! MEET: who stands on a TREAD; counts; a copy of a TOWN; meetings; the fullest minute -/
section
variable {M : z_M} {i : Nat} {f : Nat → Nat}
def s_ok (f : Nat → Nat) (t w : Nat) : Nat → Nat
  | 0 => 0
  | k + 1 => s_ok f t w k ||| (if k < s_lg f w ∧ s_td f w k = t then 2 ^ w else 0)
def s_on (f : Nat → Nat) (t : Nat) : Nat → Nat
  | 0 => 0
  | w + 1 => s_on f t w ||| s_ok f t w 8
theorem s_ok_far {t w k : Nat} (h : s_lg f w ≤ k) : s_ok f t w k = s_ok f t w (s_lg f w) := by
  have : ∀ d, s_ok f t w (s_lg f w + d) = s_ok f t w (s_lg f w) := by
    intro d
    induction d with
    | zero => rfl
    | succ d ih =>
      show s_ok f t w (s_lg f w + d) ||| (if _ then _ else _) = _
      rw [if_neg (fun h => absurd h.1 (Nat.not_lt.mpr (Nat.le_add_right _ _))), ih, Nat.or_zero]
  rw [show k = s_lg f w + (k - s_lg f w) by omega, this]
theorem C_walkersOn (hc : p_C M i f) (hv : p_V f) {t : Nat} (ht : t < f 0) : F_X5_walkersOn i (nI t) M = some (nI (s_on f t (f 1))) := by
  have hV := hv.1
  have inner : ∀ d w k n acc (K : Int32 → Int32 → Int32 → Option Int32), w < f 1 → k + d = 8 → d < n → F_X5_walkersOn_b15 i M K n (nI t) (nI (acc ||| s_ok f t w k)) (nI w) (nI k) = K (nI t) (nI (acc ||| s_ok f t w 8)) (nI (w + 1)) := by
    intro d
    induction d with
    | zero =>
      intro w k n acc K hw h1 h2
      obtain ⟨n, rfl⟩ : ∃ k', n = k' + 1 := ⟨n - 1, by omega⟩
      rw [F_X5_walkersOn_b15, if_pos (by rw [n_8, n_le (by omega) (by omega)]; omega), show k = 8 by omega, n_1, nI_add]
    | succ d ih =>
      intro w k n acc K hw h1 h2
      obtain ⟨n, rfl⟩ : ∃ k', n = k' + 1 := ⟨n - 1, by omega⟩
      have h0 := hv.walker hw
      have st : ∀ x, x = nI (acc ||| s_ok f t w (k + 1)) → F_X5_walkersOn_b39 i M K (F_X5_walkersOn_b15 i M K n) (nI t) x (nI w) (nI k) = K (nI t) (nI (acc ||| s_ok f t w 8)) (nI (w + 1)) := by
        intro x hx
        unfold F_X5_walkersOn_b39
        rw [hx, n_1, nI_add]
        exact ih w (k + 1) n acc K hw (by omega) (by omega)
      rw [F_X5_walkersOn_b15, if_neg (by rw [n_8, n_le (by omega) (by omega)]; omega), C_td hc hv hw (by omega), Option.bind_some]
      by_cases hk : k < s_lg f w
      · have hl := s_td_lt hv hw hk
        rw [if_pos hk]
        by_cases e : s_td f w k = t
        · rw [if_pos (by rw [n_eq (by omega) (by omega)]; exact e), n_shl _ (by omega), n_or, z_nmI_e]
          refine st _ ?_
          show _ = nI (acc ||| (s_ok f t w k ||| if _ then _ else _))
          rw [if_pos ⟨hk, e⟩, Nat.or_assoc]
        · rw [if_neg (by rw [n_eq (by omega) (by omega)]; exact e)]
          refine st _ ?_
          show _ = nI (acc ||| (s_ok f t w k ||| if _ then _ else _))
          rw [if_neg (fun h => e h.2), Nat.or_zero]
      · rw [if_neg hk, if_neg (fun h => by have := h.symm; rw [n_bad (by omega)] at this; exact this)]
        refine st _ ?_
        show _ = nI (acc ||| (s_ok f t w k ||| if _ then _ else _))
        rw [if_neg (fun h => hk h.1), Nat.or_zero]
  have key : ∀ d w n, w + d = f 1 → d < n → F_X5_walkersOn_b4 i M n (nI t) (nI (s_on f t w)) (nI w) = some (nI (s_on f t (f 1))) := by
    intro d
    induction d with
    | zero =>
      intro w n h1 h2
      obtain ⟨n, rfl⟩ : ∃ k', n = k' + 1 := ⟨n - 1, by omega⟩
      rw [F_X5_walkersOn_b4, hc.1.2.1, if_pos (by rw [n_le (by omega) (by omega)]; omega), show w = f 1 by omega]
    | succ d ih =>
      intro w n h1 h2
      obtain ⟨n, rfl⟩ : ∃ k', n = k' + 1 := ⟨n - 1, by omega⟩
      have hi := inner 8 w 0 z_fuel (s_on f t w) (F_X5_walkersOn_b4 i M n) (by omega) (by omega) (by unfold z_fuel; omega)
      rw [show s_on f t w ||| s_ok f t w 0 = s_on f t w from Nat.or_zero _] at hi
      rw [F_X5_walkersOn_b4, hc.1.2.1, if_neg (by rw [n_le (by omega) (by omega)]; omega), n_0, hi]
      exact ih (w + 1) n (by omega) (by omega)
  unfold F_X5_walkersOn
  exact key (f 1) 0 z_fuel (by omega) (by unfold z_fuel; omega)
theorem M_whoSteps (ht : p_T M 25 0 f) (hv : p_V f) {t : Nat} (h : t < f 0) : F_X7_whoSteps (nI t) M = some (nI (s_on f t (f 1))) := by
  have hV := hv.1
  have inner : ∀ d w k n acc (K : Int32 → Int32 → Int32 → Option Int32), w < f 1 → k + d = s_lg f w → d < n → F_X7_whoSteps_b17 M K n (nI t) (nI (acc ||| s_ok f t w k)) (nI w) (nI k) = K (nI t) (nI (acc ||| s_ok f t w 8)) (nI (w + 1)) := by
    intro d
    induction d with
    | zero =>
      intro w k n acc K hw h1 h2
      obtain ⟨n, rfl⟩ : ∃ k', n = k' + 1 := ⟨n - 1, by omega⟩
      have hq := hv.lg hw
      rw [F_X7_whoSteps_b17, M_long ht hv hw, Option.bind_some, if_pos (by rw [n_le (by omega) (by omega)]; omega), show k = s_lg f w by omega, n_1, nI_add, s_ok_far (k := 8) (by omega)]
    | succ d ih =>
      intro w k n acc K hw h1 h2
      obtain ⟨n, rfl⟩ : ∃ k', n = k' + 1 := ⟨n - 1, by omega⟩
      have hq := hv.lg hw
      have h0 := hv.walker hw
      have hl := s_td_lt hv hw (show k < s_lg f w by omega)
      have st : ∀ x, nI (acc ||| s_ok f t w k) ||| x = nI (acc ||| s_ok f t w (k + 1)) → F_X7_whoSteps_b46 M K (F_X7_whoSteps_b17 M K n) (nI t) (nI w) (nI k) x (nI (acc ||| s_ok f t w k)) = K (nI t) (nI (acc ||| s_ok f t w 8)) (nI (w + 1)) := by
        intro x hx
        unfold F_X7_whoSteps_b46
        rw [z_nmI_e, hx, n_1, nI_add]
        exact ih w (k + 1) n acc K hw (by omega) (by omega)
      rw [F_X7_whoSteps_b17, M_long ht hv hw, Option.bind_some, if_neg (by rw [n_le (by omega) (by omega)]; omega), M_td ht hv hw (by omega), Option.bind_some]
      by_cases e : s_td f w k = t
      · rw [if_pos (by rw [n_eq (by omega) (by omega)]; exact e), n_shl _ (by omega)]
        refine st _ ?_
        rw [n_or]
        show _ = nI (acc ||| (s_ok f t w k ||| if _ then _ else _))
        rw [if_pos ⟨by omega, e⟩, Nat.or_assoc]
      · rw [if_neg (by rw [n_eq (by omega) (by omega)]; exact e)]
        refine st _ ?_
        rw [n_0, n_or]
        show _ = nI (acc ||| (s_ok f t w k ||| if _ then _ else _))
        rw [if_neg (fun h => e h.2), Nat.or_assoc]
  have key : ∀ d w n, w + d = f 1 → d < n → F_X7_whoSteps_b4 M n (nI t) (nI (s_on f t w)) (nI w) = some (nI (s_on f t (f 1))) := by
    intro d
    induction d with
    | zero =>
      intro w n h1 h2
      obtain ⟨n, rfl⟩ : ∃ k', n = k' + 1 := ⟨n - 1, by omega⟩
      rw [F_X7_whoSteps_b4, z_grd_t (by decide), show (1 : Int32).toNatClampNeg = 1 from rfl, M_st ht (by decide), if_pos (by rw [n_le (by omega) (by omega)]; omega), show w = f 1 by omega]
    | succ d ih =>
      intro w n h1 h2
      obtain ⟨n, rfl⟩ : ∃ k', n = k' + 1 := ⟨n - 1, by omega⟩
      have hq := hv.lg (show w < f 1 by omega)
      have hi := inner (s_lg f w) w 0 z_fuel (s_on f t w) (F_X7_whoSteps_b4 M n) (by omega) (by omega) (by unfold z_fuel; omega)
      rw [show s_on f t w ||| s_ok f t w 0 = s_on f t w from Nat.or_zero _] at hi
      rw [F_X7_whoSteps_b4, z_grd_t (by decide), show (1 : Int32).toNatClampNeg = 1 from rfl, M_st ht (by decide), if_neg (by rw [n_le (by omega) (by omega)]; omega), n_0, hi]
      exact ih (w + 1) n (by omega) (by omega)
  unfold F_X7_whoSteps
  exact key (f 1) 0 z_fuel (by omega) (by unfold z_fuel; omega)
end
theorem eq_tread {M : z_M} (hR : z_Rel M) (a1 : Int32) (a2 : Int32) : ∃ (r : Int32), F_X6_tread a1 a2 M = some r ∧ F_X7_tread a1 a2 M = some r := by
  obtain ⟨f, hc, ht, h8, h5, hVN⟩ := hR.2.2.2.2.1.of
  unfold F_X6_tread F_X7_tread F_X7_tread_b20
  rw [C_hasTread hc.1.1 (by omega), M_isTread (M_st ht (by decide)) (by omega), Option.bind_some, Option.bind_some, b1_if, b1_if, C_within (lo := 0) (hi := 3), M_bw (lo := 0) (hi := 3) (L := 0) (U := 3), Option.bind_some, Option.bind_some, b1_if, b1_if]
  by_cases h : bl (f 0) a1
  · rw [if_pos h, if_pos h]
    by_cases h2 : bw 0 3 a2
    · rw [if_pos h2, if_pos h2]
      obtain ⟨t, h1, rfl⟩ := bl_of h (by omega)
      rcases hVN with ⟨hv, -⟩ | hN
      · rw [C_noteOf hc hv h1, C_wornOf hc hv h1, C_toneOf hc hv h1, M_toneOf ht hv h1, C_walkersOn hc hv h1, M_whoSteps ht hv h1, z_grd_t (by rw [n_13, nI_add, n_in (by omega) (by omega)]; omega), z_grd_t (by rw [n_21, nI_add, n_in (by omega) (by omega)]; omega), n_13, n_21, nI_add, nI_add, n_cl (by omega), n_cl (by omega), M_st ht (by omega), M_st ht (by omega)]
        simp only [Option.bind_some]
        by_cases e0 : a2 = 0
        · exact ⟨_, by rw [if_pos e0], by rw [if_pos e0]⟩
        · by_cases e1 : a2 = 1
          · exact ⟨_, by rw [if_neg e0, if_pos e1], by rw [if_neg e0, if_pos e1]⟩
          · by_cases e2 : a2 = 2
            · exact ⟨_, by rw [if_neg e0, if_neg e1, if_pos e2], by rw [if_neg e0, if_neg e1, if_pos e2]⟩
            · exact ⟨_, by rw [if_neg e0, if_neg e1, if_neg e2], by rw [if_neg e0, if_neg e1, if_neg e2]⟩
      · omega
    · rw [if_neg h2, if_neg h2]
      exact ⟨_, rfl, rfl⟩
  · rw [if_neg h, if_neg h]
    exact ⟨_, rfl, rfl⟩
/-- how many of a few bits are set -/
def s_pop : Nat → Nat → Nat
  | 0, _ => 0
  | n + 1, x => x % 2 + s_pop n (x / 2)
abbrev s_bits (x : Nat) : Nat := s_pop 10 x
def e_bc (a1 : Int32) : Int32 :=
  let x1 := a1 - ((z_ush a1 1) &&& 1431655765)
  let x2 := (x1 &&& 858993459) + ((z_ush x1 2) &&& 858993459)
  let x3 := (x2 + (z_ush x2 4)) &&& 252645135
  let x4 := x3 + (z_ush x3 8)
  let x5 := x4 + (z_ush x4 16)
  x5 &&& 63
def e_bitP (x : Nat) : Bool := e_bc (nI x) == nI (s_bits x)
theorem e_bitA : ((List.range 1024).all e_bitP) = true := by decide +kernel
theorem C_bits {M : z_M} {x : Nat} (h : x < 1024) : F_J6_bitCount_0f7a4 (nI x) M = some (nI (s_bits x)) := by
  have e := eq_of_beq (List.all_eq_true.mp e_bitA x (List.mem_range.mpr h))
  show some (e_bc (nI x)) = _
  rw [e]
def e_oneP (x : Nat) : Bool := x == 0 || (let y := (x &&& (x - 1)); (nI x &&& (nI x - 1)) == nI y && (decide (y < 1024) && s_bits y + 1 == s_bits x))
theorem e_oneA : ((List.range 1024).all e_oneP) = true := by decide +kernel
theorem s_bits_le {x : Nat} : s_bits x ≤ 10 := by
  show x % 2 + (x / 2 % 2 + (x / 2 / 2 % 2 + (x / 2 / 2 / 2 % 2 + (x / 2 / 2 / 2 / 2 % 2 + (x / 2 / 2 / 2 / 2 / 2 % 2 + (x / 2 / 2 / 2 / 2 / 2 / 2 % 2 + (x / 2 / 2 / 2 / 2 / 2 / 2 / 2 % 2 + (x / 2 / 2 / 2 / 2 / 2 / 2 / 2 / 2 % 2 + (x / 2 / 2 / 2 / 2 / 2 / 2 / 2 / 2 / 2 % 2 + 0))))))))) ≤ 10
  omega
theorem M_bits_loop {M : z_M} : ∀ c x n v, x < 1024 → s_bits x = c → c < n → F_X7_ones_b4 M n (nI v) (nI x) = some (nI (v + c)) := by
  intro c
  induction c with
  | zero =>
    intro x n v h h1 h2
    obtain ⟨n, rfl⟩ : ∃ k', n = k' + 1 := ⟨n - 1, by omega⟩
    have e := List.all_eq_true.mp e_oneA x (List.mem_range.mpr h)
    have hx : x = 0 := by
      unfold e_oneP at e
      simp only [Bool.or_eq_true, Bool.and_eq_true, beq_iff_eq, decide_eq_true_eq] at e
      omega
    rw [F_X7_ones_b4, hx, if_pos (show nI 0 = 0 from rfl), Nat.add_zero]
  | succ c ih =>
    intro x n v h h1 h2
    obtain ⟨n, rfl⟩ : ∃ k', n = k' + 1 := ⟨n - 1, by omega⟩
    have e := List.all_eq_true.mp e_oneA x (List.mem_range.mpr h)
    have hx : x ≠ 0 := by
      rintro rfl
      exact absurd h1 (Nat.succ_ne_zero c).symm
    unfold e_oneP at e
    simp only [Bool.or_eq_true, Bool.and_eq_true, beq_iff_eq, decide_eq_true_eq] at e
    obtain ⟨e1, e2, e3⟩ := e.resolve_left hx
    rw [F_X7_ones_b4, if_neg (by rw [n_0, n_eq (by omega) (by omega)]; exact hx), e1, z_nmI_e, n_1, nI_add, ih _ n (v + 1) e2 (by omega) (by omega), show v + 1 + c = v + (c + 1) by omega]
theorem M_bits {M : z_M} {x : Nat} (h : x < 1024) : F_X7_ones (nI x) M = some (nI (s_bits x)) := by
  have := s_bits_le (x := x)
  unfold F_X7_ones
  rw [n_0, M_bits_loop _ x z_fuel 0 h rfl (by unfold z_fuel; omega), Nat.zero_add]
theorem s_hs_lt {f : Nat → Nat} (hv : p_V f) {near : Nat → Bool} {m : Nat} : ∀ w, w ≤ f 1 → s_hs f near m w < 1024
  | 0, _ => by show 0 < 1024; decide
  | w + 1, h => by
    show s_hs f near m w ||| s_h1 f near m w < 2 ^ 10
    refine Nat.or_lt_two_pow (s_hs_lt hv w (by omega)) ?_
    unfold s_h1
    split
    · next h1 =>
      obtain ⟨h1, -, h2⟩ := h1
      have h3 := s_snd_le (step := f (39 + w)) hv ((s_at_lt hv (m := m) (show w < f 1 by omega)).resolve_right h1)
      exact Nat.pow_lt_pow_right (by decide) (by omega)
    · decide
-- a copy of a TOWN
theorem C_take {M : z_M} {i j : Nat} {f : Nat → Nat} (hij : j ≠ i) (hc : p_C M j f) (h0 : f 0 ≤ 8) (h1 : f 1 ≤ 5) : ∃ M', F_X5_take i (some j) M = some M' ∧ m_of (fun a b => 7 ≤ a ∧ a ≤ 11 ∧ b = i) M M' ∧ p_C M' i f := by
  unfold F_X5_take z_opt
  simp only [z_nmM_e]
  rw [z_grd_t (by decide), z_grd_t (by decide), z_grd_t (by decide), z_grd_t (by decide)]
  rw [show (0 : Int32).toNatClampNeg = 0 from rfl, show (8 : Int32).toNatClampNeg = 8 from rfl, show (20 : Int32).toNatClampNeg = 20 from rfl]
  generalize hM8 : z_cp (z_cp (z_cp (z_cp M 8 j 8 i 0 0 8) 9 j 9 i 0 0 8) 10 j 10 i 0 0 8) 11 j 11 i 0 0 20 = M8
  have g : ∀ a b c, z_gi M8 a b c = if b = i ∧ ((8 ≤ a ∧ a ≤ 10 ∧ c < 8) ∨ (a = 11 ∧ c < 20)) then z_gi M a j c else z_gi M a b c := by
    intro a b c
    rw [← hM8]
    simp only [m_gcp, Nat.zero_add, Nat.sub_zero, Nat.zero_le, true_and]
    by_cases hb : b = i
    · subst hb
      by_cases a8 : a = 8
      · subst a8; by_cases hc : c < 8 <;> simp [hc]
      · by_cases a9 : a = 9
        · subst a9; by_cases hc : c < 8 <;> simp [hc]
        · by_cases a10 : a = 10
          · subst a10; by_cases hc : c < 8 <;> simp [hc]
          · by_cases a11 : a = 11
            · subst a11; by_cases hc : c < 20 <;> simp [hc, hij]
            · rw [if_neg (by omega), if_neg (by omega), if_neg (by omega), if_neg (by omega), if_neg (by omega)]
    · simp [hb]
  have g7 : ∀ b c, z_gi M8 7 b c = z_gi M 7 b c := fun b c => by rw [g, if_neg (by omega)]
  obtain ⟨⟨c0, c1, c2, c3, c4⟩, c5, c6⟩ := hc
  simp (disch := omega) only [m_off, g7, c0, c1, c2, c3, c4]
  refine ⟨_, rfl, ?_, ?_⟩
  · intro a b hs c
    rw [m_off _ _ _ _ _ (by omega), m_off _ _ _ _ _ (by omega), m_off _ _ _ _ _ (by omega), m_off _ _ _ _ _ (by omega), m_off _ _ _ _ _ (by omega), g, if_neg (by omega)]
  · refine ⟨?_, fun t ht => ?_, fun w hw => ?_⟩
    · simp (disch := omega) only [m_off, m_same]
      exact ⟨trivial, trivial, trivial, trivial, trivial⟩
    · obtain ⟨e1, e2, e3⟩ := c5 t ht
      simp (disch := omega) only [m_off]
      rw [g, g, g, if_pos (by omega), if_pos (by omega), if_pos (by omega)]
      exact ⟨e1, e2, e3⟩
    · obtain ⟨e1, e2, e3, e4⟩ := c6 w hw
      simp (disch := omega) only [m_off]
      rw [g, g, g, g, if_pos (by omega), if_pos (by omega), if_pos (by omega), if_pos (by omega)]
      exact ⟨e1, e2, e3, e4⟩
