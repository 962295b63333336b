/-! DRAWN: weeks by draws -/
def s_ck (g : Nat → Nat) (w : Nat) : Nat → Nat
  | 0 => 0
  | k + 1 => s_ck g w k + (if s_snd g (s_td g w k) (g (39 + w)) = 10 then 0 else 1)
def s_cw (g : Nat → Nat) : Nat → Nat
  | 0 => 0
  | w + 1 => s_cw g w + s_ck g w (s_lg g w)
def s_tt (g : Nat → Nat) : Nat → Nat
  | 0 => 0
  | t + 1 => s_tt g t + s_tn g t
def s_x (x : Nat) : Nat := x * 16807 % 2147483647
def s_g1 (g : Nat → Nat) (x : Nat) : Nat → Nat := if x % 3 = 0 then z_pl g (x % g 0) (x % 10) else g
def s_g2 (g : Nat → Nat) (x : Nat) : Nat → Nat := if x % 4 = 0 then z_up g (44 + x % g 1) (x % 21) else g
abbrev s_gw (g : Nat → Nat) (x : Nat) : Nat → Nat := s_g2 (s_g1 g x) x
def q_wek : Nat → (Nat → Nat) → Nat → Nat → (Nat → Nat) × Nat
  | 0, g, _, acc => (g, acc)
  | d + 1, g, x, acc => q_wek d (s_day (s_gw g (s_x x))) (s_x x) (acc + s_cw (s_gw g (s_x x)) (g 1))
section
variable {M : z_M} {g : Nat → Nat}
theorem s_g1_j {x j : Nat} (h : j < 13) : s_g1 g x j = g j := by
  unfold s_g1
  split
  · unfold z_pl; rw [z_up_ne (by omega), z_up_ne (by omega)]
  · rfl
theorem s_g2_j {x j : Nat} (h : j < 44) : s_g2 g x j = g j := by
  unfold s_g2
  split
  · rw [z_up_ne (by omega)]
  · rfl
theorem s_g1_V (hv : p_V g) {x : Nat} : p_V (s_g1 g x) := by
  have hV := hv.1
  unfold s_g1
  split
  · exact z_pl_V hv (Nat.mod_lt _ (by omega)) (by omega)
  · exact hv
theorem s_g2_V (hv : p_V g) {x : Nat} : p_V (s_g2 g x) := by
  have hV := hv.1
  unfold s_g2
  split
  · exact hv.up (by omega) (by omega) (by omega) (by omega) (by omega) (by omega) (by omega) (by omega) (by omega) (by omega)
  · exact hv
theorem s_gw_V (hv : p_V g) {x : Nat} : p_V (s_gw g x) := s_g2_V (s_g1_V hv)
theorem C_sounding (hc : p_C M 27 g) (hv : p_V g) : F_X3_soundingSteps M = some (nI (s_cw g (g 1))) := by
  have hV := hv.1
  have inner : ∀ d w k n acc (K : Int32 → Int32 → Option Int32), w < g 1 → k + d = s_lg g w → d < n → F_X3_soundingSteps_b27 M K n (nI (acc + s_ck g w k)) (nI w) (nI (s_lg g w)) (nI k) = K (nI (acc + s_ck g w (s_lg g w))) (nI (w + 1)) := by
    intro d
    induction d with
    | zero =>
      intro w k n acc K hw h1 h2
      obtain ⟨n, rfl⟩ : ∃ k', n = k' + 1 := ⟨n - 1, by omega⟩
      have hq := hv.lg hw
      rw [F_X3_soundingSteps_b27, if_pos (by rw [n_le (by omega) (by omega)]; omega), n_1, nI_add, show k = s_lg g w by omega]
    | succ d ih =>
      intro w k n acc K hw h1 h2
      obtain ⟨n, rfl⟩ : ∃ k', n = k' + 1 := ⟨n - 1, by omega⟩
      have hq := hv.lg hw
      have hl := s_td_lt hv hw (show k < s_lg g w by omega)
      have hs := s_snd_le (step := g (39 + w)) hv hl
      have i := ih w (k + 1) n acc K hw (by omega) (by omega)
      have u : s_ck g w (k + 1) = s_ck g w k + (if s_snd g (s_td g w k) (g (39 + w)) = 10 then 0 else 1) := rfl
      rw [F_X3_soundingSteps_b27, if_neg (by rw [n_le (by omega) (by omega)]; omega), C_soundOf hc hv hw (by omega), Option.bind_some, if_pos (show k < s_lg g w by omega)]
      unfold F_X3_soundingSteps_b51
      rw [n_1, nI_add, nI_add]
      by_cases h : s_snd g (s_td g w k) (g (39 + w)) = 10
      · rw [u, if_pos h, Nat.add_zero] at i
        rw [h, if_pos (show nI 10 = 10 from rfl)]
        exact i
      · rw [u, if_neg h, ← Nat.add_assoc] at i
        rw [if_neg (by rw [n_10, n_eq (by omega) (by omega)]; exact h)]
        exact i
  have key : ∀ d w n, w + d = g 1 → d < n → F_X3_soundingSteps_b4 M n (nI (s_cw g w)) (nI w) = some (nI (s_cw g (g 1))) := by
    intro d
    induction d with
    | zero =>
      intro w n h1 h2
      obtain ⟨n, rfl⟩ : ∃ k', n = k' + 1 := ⟨n - 1, by omega⟩
      unfold F_X3_soundingSteps_b4 F_X5_walkerCount
      rw [Option.bind_some, hc.1.2.1, if_pos (by rw [n_le (by omega) (by omega)]; omega), show w = g 1 by omega]
    | succ d ih =>
      intro w n h1 h2
      obtain ⟨n, rfl⟩ : ∃ k', n = k' + 1 := ⟨n - 1, by omega⟩
      have hq := hv.lg (show w < g 1 by omega)
      unfold F_X3_soundingSteps_b4 F_X5_walkerCount
      rw [Option.bind_some, hc.1.2.1, if_neg (by rw [n_le (by omega) (by omega)]; omega), C_long hc hv (by omega), Option.bind_some]
      refine (show F_X3_soundingSteps_b27 M _ z_fuel (nI (s_cw g w)) (nI w) (nI (s_lg g w)) 0 = _ from inner (s_lg g w) w 0 z_fuel (s_cw g w) (F_X3_soundingSteps_b4 M n) (by omega) (by omega) (by unfold z_fuel; omega)).trans ?_
      exact ih (w + 1) n (by omega) (by omega)
  unfold F_X3_soundingSteps
  exact key (g 1) 0 z_fuel (by omega) (by unfold z_fuel; omega)
theorem M_sounding (ht : p_T M 25 0 g) (hv : p_V g) : F_X7_soundsMany M = some (nI (s_cw g (g 1))) := by
  have hV := hv.1
  have inner : ∀ d w k n acc (K : Int32 → Int32 → Option Int32), w < g 1 → k + d = s_lg g w → d < n → F_X7_soundsMany_b16 M K n (nI (acc + s_ck g w k)) (nI w) (nI k) = K (nI (acc + s_ck g w (s_lg g w))) (nI (w + 1)) := by
    intro d
    induction d with
    | zero =>
      intro w k n acc K hw h1 h2
      obtain ⟨n, rfl⟩ : ∃ k', n = k' + 1 := ⟨n - 1, by omega⟩
      have hq := hv.lg hw
      rw [F_X7_soundsMany_b16, M_long ht hv hw, Option.bind_some, if_pos (by rw [n_le (by omega) (by omega)]; omega), n_1, nI_add, show k = s_lg g w by omega]
    | succ d ih =>
      intro w k n acc K hw h1 h2
      obtain ⟨n, rfl⟩ : ∃ k', n = k' + 1 := ⟨n - 1, by omega⟩
      have hq := hv.lg hw
      have hl := s_td_lt hv hw (show k < s_lg g w by omega)
      have hs := s_snd_le (step := g (39 + w)) hv hl
      have i := ih w (k + 1) n acc K hw (by omega) (by omega)
      have u : s_ck g w (k + 1) = s_ck g w k + (if s_snd g (s_td g w k) (g (39 + w)) = 10 then 0 else 1) := rfl
      rw [F_X7_soundsMany_b16, M_long ht hv hw, Option.bind_some, if_neg (by rw [n_le (by omega) (by omega)]; omega), M_tuneOf ht hv hw (by omega), Option.bind_some]
      unfold F_X7_soundsMany_b42
      simp only [z_nmI_e]
      rw [n_1, nI_add, nI_add, n_0, nI_add, Nat.add_zero]
      by_cases h : s_snd g (s_td g w k) (g (39 + w)) = 10
      · rw [u, if_pos h, Nat.add_zero] at i
        rw [if_pos (by rw [n_10, n_le (by omega) (by omega)]; omega)]
        exact i
      · rw [u, if_neg h, ← Nat.add_assoc] at i
        rw [if_neg (by rw [n_10, n_le (by omega) (by omega)]; omega)]
        exact i
  have key : ∀ d w n, w + d = g 1 → d < n → F_X7_soundsMany_b4 M n (nI (s_cw g w)) (nI w) = some (nI (s_cw g (g 1))) := by
    intro d
    induction d with
    | zero =>
      intro w n h1 h2
      obtain ⟨n, rfl⟩ : ∃ k', n = k' + 1 := ⟨n - 1, by omega⟩
      rw [F_X7_soundsMany_b4, z_grd_t (by decide), show (1 : Int32).toNatClampNeg = 1 from rfl, M_st ht (by decide), if_pos (by rw [n_le (by omega) (by omega)]; omega), show w = g 1 by omega]
    | succ d ih =>
      intro w n h1 h2
      obtain ⟨n, rfl⟩ : ∃ k', n = k' + 1 := ⟨n - 1, by omega⟩
      have hq := hv.lg (show w < g 1 by omega)
      rw [F_X7_soundsMany_b4, z_grd_t (by decide), show (1 : Int32).toNatClampNeg = 1 from rfl, M_st ht (by decide), if_neg (by rw [n_le (by omega) (by omega)]; omega)]
      refine (show F_X7_soundsMany_b16 M _ z_fuel (nI (s_cw g w)) (nI w) 0 = _ from inner (s_lg g w) w 0 z_fuel (s_cw g w) (F_X7_soundsMany_b4 M n) (by omega) (by omega) (by unfold z_fuel; omega)).trans ?_
      exact ih (w + 1) n (by omega) (by omega)
  unfold F_X7_soundsMany
  exact key (g 1) 0 z_fuel (by omega) (by unfold z_fuel; omega)
theorem C_tones (hc : p_C M 27 g) (hv : p_V g) : F_X5_tonesTogether 27 M = some (nI (s_tt g (g 0))) := by
  have hV := hv.1
  have key : ∀ d t n, t + d = g 0 → d < n → F_X5_tonesTogether_b4 27 M n (nI (s_tt g t)) (nI t) = some (nI (s_tt g (g 0))) := by
    intro d
    induction d with
    | zero =>
      intro t n h1 h2
      obtain ⟨n, rfl⟩ : ∃ k', n = k' + 1 := ⟨n - 1, by omega⟩
      rw [F_X5_tonesTogether_b4, hc.1.1, if_pos (by rw [n_le (by omega) (by omega)]; omega), show t = g 0 by omega]
    | succ d ih =>
      intro t n h1 h2
      obtain ⟨n, rfl⟩ : ∃ k', n = k' + 1 := ⟨n - 1, by omega⟩
      rw [F_X5_tonesTogether_b4, hc.1.1, if_neg (by rw [n_le (by omega) (by omega)]; omega), C_toneOf hc hv (by omega), Option.bind_some, z_nmI_e, nI_add, n_1, nI_add]
      exact ih (t + 1) n (by omega) (by omega)
  unfold F_X5_tonesTogether
  exact key (g 0) 0 z_fuel (by omega) (by unfold z_fuel; omega)
theorem M_tones (ht : p_T M 25 0 g) (hv : p_V g) : F_X7_allTones M = some (nI (s_tt g (g 0))) := by
  have hV := hv.1
  have key : ∀ d t n, t + d = g 0 → d < n → F_X7_allTones_b4 M n (nI (s_tt g t)) (nI t) = some (nI (s_tt g (g 0))) := by
    intro d
    induction d with
    | zero =>
      intro t n h1 h2
      obtain ⟨n, rfl⟩ : ∃ k', n = k' + 1 := ⟨n - 1, by omega⟩
      rw [F_X7_allTones_b4, z_grd_t (by decide), show (0 : Int32).toNatClampNeg = 0 from rfl, M_st ht (by decide), if_pos (by rw [n_le (by omega) (by omega)]; omega), show t = g 0 by omega]
    | succ d ih =>
      intro t n h1 h2
      obtain ⟨n, rfl⟩ : ∃ k', n = k' + 1 := ⟨n - 1, by omega⟩
      rw [F_X7_allTones_b4, z_grd_t (by decide), show (0 : Int32).toNatClampNeg = 0 from rfl, M_st ht (by decide), if_neg (by rw [n_le (by omega) (by omega)]; omega), M_toneOf ht hv (by omega), Option.bind_some, z_nmI_e, nI_add, n_1, nI_add]
      exact ih (t + 1) n (by omega) (by omega)
  unfold F_X7_allTones
  exact key (g 0) 0 z_fuel (by omega) (by unfold z_fuel; omega)
theorem s_x_lt {x : Nat} : s_x x < 2147483647 := Nat.mod_lt _ (by decide)
theorem L_x {x : Nat} (h : x < 2 ^ 31) : (nL x * 16807) - (nL x * 16807) / 2147483647 * 2147483647 = nL (s_x x) := by
  rw [show (16807 : Int64) = nL 16807 from rfl, show (2147483647 : Int64) = nL 2147483647 from rfl, nL_mul, nL_rem (by omega) (by decide) (by decide)]
  rfl
theorem L_r {x k : Nat} {K : Int64} (hK : K = nL k) (h : x < 2 ^ 31) (hk : 0 < k) (hk2 : k < 2 ^ 31) : nL x - nL x / K * K = nL (x % k) := by
  rw [hK, nL_rem (by omega) hk (by omega)]
theorem L_z {a : Nat} (h : a < 2 ^ 31) : (lg_cmp (nL a) 0 = 0) = (a = 0) := by
  apply propext
  rw [lg_0, L_0, nL_eq (by omega) (by omega)]
theorem L_nz {a : Nat} (h : a < 2 ^ 31) (h0 : 0 < a) : ¬ nL a = 0 := by
  rw [L_0, nL_eq (by omega) (by omega)]; omega
theorem C_w1 (hc : p_C M 27 g) (hv : p_V g) (k a acc j : Int32) {x : Nat} (hx : x < 2 ^ 31) (n : Nat) (hne : ¬ k ≤ j) : ∃ M1, F_X3_weeksBy_b43 (n + 1) k a (nI (g 0)) (nI (g 1)) (nL x) acc j M = F_X3_weeksBy_b93 (F_X3_weeksBy_b43 n) k a (nI (g 0)) (nI (g 1)) (nL (s_x x)) acc j M1 ∧ m_of (p_in 27) M M1 ∧ p_C M1 27 (s_g1 g (s_x x)) := by
  have hV := hv.1
  have hxl := s_x_lt (x := x)
  rw [F_X3_weeksBy_b43, if_neg hne, L_x hx, z_nmL_e]
  generalize s_x x = y at *
  rw [L_r (K := 3) (k := 3) rfl (by omega) (by omega) (by omega)]
  simp only [L_z (show y % 3 < 2 ^ 31 by omega)]
  unfold s_g1
  by_cases h : y % 3 = 0
  · have hm : y % g 0 < g 0 := Nat.mod_lt _ (by omega)
    obtain ⟨e1, e2⟩ := C_planeTo (v := y % 10) hc hm (by omega) (by omega)
    refine ⟨z_si (z_si M 9 27 (y % g 0) (nI (y % 10))) 10 27 (y % g 0) (nI 0), ?_, m_of.si (S := p_in 27) (m_of.si (S := p_in 27) m_of.rf ⟨by decide, by decide, rfl⟩) ⟨by decide, by decide, rfl⟩, by rw [if_pos h]; exact e2⟩
    rw [if_pos h, nI_toL (by omega), z_grd_t (L_nz (by omega) (by omega)), L_r (k := g 0) rfl (by omega) (by omega) (by omega), L_r (K := 10) (k := 10) rfl (by omega) (by omega) (by omega), nL_32, nL_32, e1, Option.bind_some]
  · exact ⟨M, by rw [if_neg h], m_of.rf, by rw [if_neg h]; exact hc⟩
theorem C_w2 (hc : p_C M 27 g) (hv : p_V g) (k a t acc j : Int32) {y : Nat} (hx : y < 2 ^ 31) (K : Int32 → Int32 → Int32 → Int32 → Int64 → Int32 → Int32 → z_M → Option (Int32 × z_M)) : ∃ M1, F_X3_weeksBy_b93 K k a t (nI (g 1)) (nL y) acc j M = F_X3_weeksBy_b126 K k a t (nI (g 1)) (nL y) acc j M1 ∧ m_of (p_in 27) M M1 ∧ p_C M1 27 (s_g2 g y) := by
  have hV := hv.1
  unfold F_X3_weeksBy_b93
  rw [L_r (K := 4) (k := 4) rfl (by omega) (by omega) (by omega)]
  simp only [L_z (show y % 4 < 2 ^ 31 by omega)]
  unfold s_g2
  by_cases h : y % 4 = 0
  · have hm : y % g 1 < g 1 := Nat.mod_lt _ (by omega)
    obtain ⟨e1, e2⟩ := C_setPart (v := y % 21) hc (k := 3) hm (by omega) (by omega) (by omega)
    refine ⟨z_si M 11 27 (y % g 1 * 4 + 3) (nI (y % 21)), ?_, m_of.si (S := p_in 27) m_of.rf ⟨by decide, by decide, rfl⟩, by rw [if_pos h]; exact e2⟩
    rw [if_pos h, nI_toL (by omega), z_grd_t (L_nz (by omega) (by omega)), L_r (k := g 1) rfl (by omega) (by omega) (by omega), L_r (K := 21) (k := 21) rfl (by omega) (by omega) (by omega), nL_32, nL_32, show F_X5_setPart 27 (nI (y % g 1)) 3 (nI (y % 21)) M = _ from e1, Option.bind_some]
  · exact ⟨M, by rw [if_neg h], m_of.rf, by rw [if_neg h]; exact hc⟩
theorem C_wkL (a : Int32) {n0 n1 k : Nat} (hk : k ≤ 60) : ∀ d j n x acc g (M : z_M), j + d = k → d < n → p_C M 27 g → p_V g → g 4 + d ≤ 5000 → g 0 = n0 → g 1 = n1 → x < 2 ^ 31 → ∃ M', F_X3_weeksBy_b43 n (nI k) a (nI n0) (nI n1) (nL x) (nI acc) (nI j) M = some (if a = 0 then nI (q_wek d g x acc).2 else nI (s_tt (q_wek d g x acc).1 n0), M') ∧ m_of (p_in 27) M M' := by
  intro d
  induction d with
  | zero =>
    intro j n x acc g M h1 h2 hc hv h4 h0 h01 hx
    obtain ⟨n, rfl⟩ : ∃ k', n = k' + 1 := ⟨n - 1, by omega⟩
    refine ⟨M, ?_, m_of.rf⟩
    rw [F_X3_weeksBy_b43, if_pos (by rw [n_le (by omega) (by omega)]; omega), C_tones hc hv, Option.bind_some, h0]
    by_cases e : a = 0
    · rw [if_pos e, if_pos e]; rfl
    · rw [if_neg e, if_neg e]; rfl
  | succ d ih =>
    intro j n x acc g M h1 h2 hc hv h4 h0 h01 hx
    obtain ⟨n, rfl⟩ : ∃ k', n = k' + 1 := ⟨n - 1, by omega⟩
    subst h0 h01
    have hxl := s_x_lt (x := x)
    obtain ⟨M1, i1, i2, i3⟩ := C_w1 hc hv (nI k) a (nI acc) (nI j) hx n (by rw [n_le (by omega) (by omega)]; omega)
    have e1 : s_g1 g (s_x x) 1 = g 1 := s_g1_j (by omega)
    obtain ⟨M2, j1, j2, j3⟩ := C_w2 i3 (s_g1_V hv) (nI k) a (nI (g 0)) (nI acc) (nI j) (y := s_x x) (by omega) (F_X3_weeksBy_b43 n)
    rw [e1] at j1
    have hv2 : p_V (s_gw g (s_x x)) := s_gw_V hv
    have w0 : s_gw g (s_x x) 0 = g 0 := (s_g2_j (by omega)).trans (s_g1_j (by omega))
    have w1 : s_gw g (s_x x) 1 = g 1 := (s_g2_j (by omega)).trans (s_g1_j (by omega))
    have w1' : s_g2 (s_g1 g (s_x x)) (s_x x) 1 = g 1 := w1
    have w4 : s_gw g (s_x x) 4 = g 4 := (s_g2_j (by omega)).trans (s_g1_j (by omega))
    obtain ⟨M3, l1, l2, l3⟩ := C_passDay j3 hv2
    obtain ⟨M', m1, m2⟩ := ih (j + 1) n (s_x x) (acc + s_cw (s_gw g (s_x x)) (g 1)) (s_day (s_gw g (s_x x))) M3 (by omega) (by omega) l3 (s_day_V hv2 (by omega)) (by rw [s_day_4, w4]; omega) (by rw [s_day_lo (by omega) (by omega), w0]) (by rw [s_day_lo (by omega) (by omega), w1]) (by omega)
    refine ⟨M', ?_, ((i2.tr j2).tr l2).tr m2⟩
    rw [i1, j1]
    unfold F_X3_weeksBy_b126
    rw [C_sounding j3 hv2, Option.bind_some, w1', z_nmI_e, nI_add, l1, Option.bind_some, n_1, nI_add]
    exact m1
theorem M_w1 (hc : p_T M 25 0 g) (hv : p_V g) (k a acc j : Int32) {x : Nat} (hx : x < 2 ^ 31) (n : Nat) (hne : ¬ k ≤ j) : ∃ M1, F_X7_drawn_b58 (n + 1) k a (nL x) acc j M = F_X7_drawn_b109 (F_X7_drawn_b58 n) k a (nL (s_x x)) acc j M1 ∧ m_of (fun a _ => a = 25) M M1 ∧ p_T M1 25 0 (s_g1 g (s_x x)) := by
  have hV := hv.1
  have hxl := s_x_lt (x := x)
  rw [F_X7_drawn_b58, if_neg hne, L_x hx, z_nmL_e]
  generalize s_x x = y at *
  rw [L_r (K := 3) (k := 3) rfl (by omega) (by omega) (by omega)]
  simp only [L_z (show y % 3 < 2 ^ 31 by omega)]
  unfold s_g1
  by_cases h : y % 3 = 0
  · have hm : y % g 0 < g 0 := Nat.mod_lt _ (by omega)
    refine ⟨z_si (z_si M 25 0 (13 + y % g 0) (nI (y % 10))) 25 0 (21 + y % g 0) (nI 0), ?_, m_of.si (S := fun a _ => a = 25) (m_of.si (S := fun a _ => a = 25) m_of.rf rfl) rfl, by rw [if_pos h]; exact (hc.set (13 + y % g 0) (y % 10)).set (21 + y % g 0) 0⟩
    rw [if_pos h, z_grd_t (by decide)]
    simp only [show (0 : Int32).toNatClampNeg = 0 from rfl, M_st hc (show 0 < 49 by decide), nI_toL (show g 0 < 2 ^ 31 by omega)]
    rw [z_grd_t (L_nz (by omega) (by omega)), L_r (k := g 0) rfl (by omega) (by omega) (by omega), L_r (K := 10) (k := 10) rfl (by omega) (by omega) (by omega), nL_32, nL_32, M_planeTo (by omega), Option.bind_some]
  · exact ⟨M, by rw [if_neg h], m_of.rf, by rw [if_neg h]; exact hc⟩
theorem M_w2 (hc : p_T M 25 0 g) (hv : p_V g) (k a acc j : Int32) {y : Nat} (hx : y < 2 ^ 31) (K : Int32 → Int32 → Int64 → Int32 → Int32 → z_M → Option (Int32 × z_M)) : ∃ M1, F_X7_drawn_b109 K k a (nL y) acc j M = F_X7_drawn_b146 K k a (nL y) acc j M1 ∧ m_of (fun a _ => a = 25) M M1 ∧ p_T M1 25 0 (s_g2 g y) := by
  have hV := hv.1
  unfold F_X7_drawn_b109
  rw [L_r (K := 4) (k := 4) rfl (by omega) (by omega) (by omega)]
  simp only [L_z (show y % 4 < 2 ^ 31 by omega)]
  unfold s_g2
  by_cases h : y % 4 = 0
  · have hm : y % g 1 < g 1 := Nat.mod_lt _ (by omega)
    refine ⟨z_si M 25 0 (44 + y % g 1) (nI (y % 21)), ?_, m_of.si (S := fun a _ => a = 25) m_of.rf rfl, by rw [if_pos h]; exact hc.set (44 + y % g 1) (y % 21)⟩
    rw [if_pos h, z_grd_t (by decide)]
    simp only [show (1 : Int32).toNatClampNeg = 1 from rfl, M_st hc (show 1 < 49 by decide), nI_toL (show g 1 < 2 ^ 31 by omega)]
    rw [z_grd_t (L_nz (by omega) (by omega)), L_r (k := g 1) rfl (by omega) (by omega) (by omega), L_r (K := 21) (k := 21) rfl (by omega) (by omega) (by omega), nL_32, nL_32, n_44, nI_add, z_grd_t (by rw [n_in (by omega) (by omega)]; omega), n_cl (by omega)]
  · exact ⟨M, by rw [if_neg h], m_of.rf, by rw [if_neg h]; exact hc⟩
theorem M_wkL {f : Nat → Nat} (a : Int32) {n0 n1 k : Nat} (hk : k ≤ 60) : ∀ d j n x acc g (M : z_M), j + d = k → d < n → p_T M 25 0 g → p_V g → g 4 + d ≤ 5000 → g 0 = n0 → g 1 = n1 → x < 2 ^ 31 → p_T M 30 0 f → ∃ M', F_X7_drawn_b58 n (nI k) a (nL x) (nI acc) (nI j) M = some (if a = 0 then nI (q_wek d g x acc).2 else nI (s_tt (q_wek d g x acc).1 n0), M') ∧ m_of (fun a _ => a = 25) M M' ∧ p_T M' 25 0 f := by
  intro d
  induction d with
  | zero =>
    intro j n x acc g M h1 h2 hc hv h4 h0 h01 hx h30
    obtain ⟨n, rfl⟩ : ∃ k', n = k' + 1 := ⟨n - 1, by omega⟩
    obtain ⟨M', i1, i2, i3⟩ := M_takeBack h30
    refine ⟨M', ?_, i2, i3⟩
    rw [F_X7_drawn_b58, if_pos (by rw [n_le (by omega) (by omega)]; omega), M_tones hc hv, Option.bind_some, h0]
    unfold F_X7_drawn_b178
    rw [i1, Option.bind_some, Option.bind_some]
    by_cases e : a = 0
    · rw [if_pos e, if_pos e]; rfl
    · rw [if_neg e, if_neg e]; rfl
  | succ d ih =>
    intro j n x acc g M h1 h2 hc hv h4 h0 h01 hx h30
    obtain ⟨n, rfl⟩ : ∃ k', n = k' + 1 := ⟨n - 1, by omega⟩
    subst h0 h01
    have hxl := s_x_lt (x := x)
    obtain ⟨M1, i1, i2, i3⟩ := M_w1 hc hv (nI k) a (nI acc) (nI j) hx n (by rw [n_le (by omega) (by omega)]; omega)
    obtain ⟨M2, j1, j2, j3⟩ := M_w2 i3 (s_g1_V hv) (nI k) a (nI acc) (nI j) (y := s_x x) (by omega) (F_X7_drawn_b58 n)
    have hv2 : p_V (s_gw g (s_x x)) := s_gw_V hv
    have w0 : s_gw g (s_x x) 0 = g 0 := (s_g2_j (by omega)).trans (s_g1_j (by omega))
    have w1 : s_gw g (s_x x) 1 = g 1 := (s_g2_j (by omega)).trans (s_g1_j (by omega))
    have w1' : s_g2 (s_g1 g (s_x x)) (s_x x) 1 = g 1 := w1
    have w4 : s_gw g (s_x x) 4 = g 4 := (s_g2_j (by omega)).trans (s_g1_j (by omega))
    obtain ⟨M3, l1, l2, l3⟩ := M_oneDay j3 hv2
    have om := (i2.tr j2).tr l2
    obtain ⟨M', m1, m2, m3⟩ := ih (j + 1) n (s_x x) (acc + s_cw (s_gw g (s_x x)) (g 1)) (s_day (s_gw g (s_x x))) M3 (by omega) (by omega) l3 (s_day_V hv2 (by omega)) (by rw [s_day_4, w4]; omega) (by rw [s_day_lo (by omega) (by omega), w0]) (by rw [s_day_lo (by omega) (by omega), w1]) (by omega) (h30.fr (fun c => om 30 0 (by omega) c))
    refine ⟨M', ?_, om.tr m2, m3⟩
    rw [i1, j1]
    unfold F_X7_drawn_b146
    rw [M_sounding j3 hv2, Option.bind_some, w1', z_nmI_e, nI_add, l1, Option.bind_some, n_1, nI_add]
    exact m1
end
theorem eq_drawn {M : z_M} (hR : z_Rel M) (a1 : Int32) (a2 : Int32) (a3 : Int32) : ∃ (r : Int32) (M1 : z_M) (M2 : z_M), F_X6_drawn a1 a2 a3 M = some (r, M1) ∧ F_X7_drawn a1 a2 a3 M1 = some (r, M2) ∧ z_Rel M2 := by
  obtain ⟨f, hc, ht, h8, h5, hVN⟩ := hR.2.2.2.2.1.of
  unfold F_X6_drawn F_X7_drawn
  simp only [C_st hc h8, C_isFirst, M_isWhat, C_within (lo := 0) (hi := 60) (L := 0) (U := 60), M_bw (lo := 0) (hi := 60) (L := 0) (U := 60), C_within (lo := 1) (hi := 999999) (L := 1) (U := 999999), M_bw (lo := 1) (hi := 999999) (L := 1) (U := 999999), Option.bind_some, b1_if]
  rcases hVN with ⟨hv, h9, hs⟩ | ⟨h0, -, -, hs⟩
  · have hV := hv.1
    rw [if_pos (show 1 ≤ f 0 by omega)]
    by_cases h1 : bw 0 60 a1
    · by_cases h2 : bw 1 999999 a2
      · by_cases h3 : bw 0 1 a3
        · obtain ⟨k, hk, rfl⟩ := bw_nb h1 (by decide)
          obtain ⟨x, hx1, hx2, rfl⟩ := bw_of h2 (by decide) (by decide)
          obtain ⟨M1, e1, e2, e3, -⟩ := C_now hc h8 h5
          obtain ⟨M2, i1, i2⟩ := C_wkL a3 (n0 := f 0) (n1 := f 1) hk k 0 z_fuel x 0 f M1 (by omega) (by unfold z_fuel; omega) e3 hv (by omega) rfl rfl (by omega)
          have o2 : m_of p_fr M M2 := e2.tr (i2.mono (fun a b h => Or.inl (by unfold p_in at h; omega)))
          have ht2 := ht.free o2
          obtain ⟨M3, j1, j2, j3⟩ := M_putAside ht2
          obtain ⟨M4, l1, l2, l3⟩ := M_wkL a3 (n0 := f 0) (n1 := f 1) hk k 0 z_fuel x 0 f M3 (by omega) (by unfold z_fuel; omega) (ht2.fr (fun c => j2 25 0 (by omega) c)) hv (by omega) rfl rfl (by omega) j3
          have fin : z_Rel M4 := (hR.free o2).back (hc.fr (fun a _ _ c => o2 a 24 (by unfold p_fr; omega) c)) ⟨hv, h9, by rw [o2.stat, hs]⟩ l3 (fun a b c x y => by rw [l2 a b x, j2 a b (fun e => y (by unfold p_fr; omega))])
          refine ⟨if a3 = 0 then nI (q_wek k f x 0).2 else nI (s_tt (q_wek k f x 0).1 (f 0)), M2, M4, ?_, ?_, fin⟩
          · rw [if_pos h1, if_pos h2, if_pos h3, e1, Option.bind_some]
            unfold F_X3_weeksBy F_X5_treadCount F_X5_walkerCount
            rw [Option.bind_some, Option.bind_some, e3.1.1, e3.1.2.1, if_neg (by rw [n_1, n_lt (by omega) (by omega)]; omega), if_pos (by rw [n_1, n_le (by omega) (by omega)]; omega), nI_toL (by omega), z_nmL_e, show F_X3_weeksBy_b43 z_fuel (nI k) a3 (nI (f 0)) (nI (f 1)) (nL x) 0 0 M1 = _ from i1, Option.bind_some]
          · rw [o2.stat, hs, if_neg (by decide), if_pos h1, if_pos h2, if_pos h3, j1, Option.bind_some, nI_toL (by omega), z_nmL_e]
            exact l1
        · exact ⟨-1000001, M, M, by rw [if_pos h1, if_pos h2, if_neg h3], by rw [hs, if_neg (by decide), if_pos h1, if_pos h2, if_neg h3], hR⟩
      · exact ⟨-1000001, M, M, by rw [if_pos h1, if_neg h2], by rw [hs, if_neg (by decide), if_pos h1, if_neg h2], hR⟩
    · exact ⟨-1000001, M, M, by rw [if_neg h1], by rw [hs, if_neg (by decide), if_neg h1], hR⟩
  · exact ⟨-1000002, M, M, by rw [if_neg (by omega)], by rw [hs, if_pos rfl], hR⟩
