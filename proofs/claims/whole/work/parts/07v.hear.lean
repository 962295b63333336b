/-! HEAR: is one WALKER heard at a door, TREADS of felt laid or not -/
def s_hk (g : Nat → Nat) (door w k : Nat) : Bool := decide (q_far (s_td g w k) door ≤ g 3) && decide (s_snd g (s_td g w k) (g (39 + w)) ≠ 10)
def s_hr (g : Nat → Nat) (door w : Nat) : Nat → Bool
  | 0 => false
  | k + 1 => s_hr g door w k || s_hk g door w k
theorem M_isHeard {M : z_M} {g : Nat → Nat} (ht : p_T M 25 0 g) (hv : p_V g) {door w : Nat} (hw : w < g 1) (hd : door < g 0) : F_X7_isHeard (nI w) (nI door) M = some (b1 (s_hr g door w (s_lg g w) = true)) := by
  have hV := hv.1
  have h0 := hv.walker hw
  have hq := hv.lg hw
  have key : ∀ d k n, k + d = s_lg g w → d < n → F_X7_isHeard_b5 M n (nI w) (nI door) (b1 (s_hr g door w k = true)) (nI k) = some (b1 (s_hr g door w (s_lg g w) = true)) := by
    intro d
    induction d with
    | zero =>
      intro k n h1 h2
      obtain ⟨n, rfl⟩ : ∃ k', n = k' + 1 := ⟨n - 1, by omega⟩
      rw [F_X7_isHeard_b5, M_long ht hv hw, Option.bind_some, if_pos (by rw [n_le (by omega) (by omega)]; omega), z_grd_t b1_and, show s_lg g w = k by omega]
    | succ d ih =>
      intro k n h1 h2
      obtain ⟨n, rfl⟩ : ∃ k', n = k' + 1 := ⟨n - 1, by omega⟩
      have hk : k < s_lg g w := by omega
      have hl := s_td_lt hv hw hk
      have hs := s_snd_le (step := g (39 + w)) hv hl
      have yes : s_hr g door w (k + 1) = true → F_X7_isHeard_b62 M (F_X7_isHeard_b5 M n) (nI w) (nI door) (nI k) = some (b1 (s_hr g door w (s_lg g w) = true)) := by
        intro e
        have := ih (k + 1) n (by omega) (by omega)
        rw [b1_t e] at this
        unfold F_X7_isHeard_b62 F_X7_isHeard_b67
        rw [n_1, nI_add]; exact this
      have no : ¬ s_hr g door w (k + 1) = true → F_X7_isHeard_b66 M (F_X7_isHeard_b5 M n) (nI w) (nI door) (nI k) = some (b1 (s_hr g door w (s_lg g w) = true)) := by
        intro e
        have := ih (k + 1) n (by omega) (by omega)
        rw [b1_f e] at this
        unfold F_X7_isHeard_b66 F_X7_isHeard_b67
        rw [n_1, nI_add]; exact this
      rw [F_X7_isHeard_b5, M_long ht hv hw, Option.bind_some, if_neg (by rw [n_le (by omega) (by omega)]; omega), M_td ht hv hw (by omega), Option.bind_some, b1_if]
      by_cases e : s_hr g door w k = true
      · rw [if_pos e]
        exact yes (by show (s_hr g door w k || _) = true; rw [e]; rfl)
      · rw [if_neg e, M_size, Option.bind_some, e_sz_far (by omega) (by omega), z_grd_t (by decide), show (3 : Int32).toNatClampNeg = 3 from rfl, M_st ht (by decide)]
        have hf : q_far (s_td g w k) door < 16 := by unfold q_far; omega
        have u : s_hr g door w (k + 1) = s_hk g door w k := by
          show (s_hr g door w k || s_hk g door w k) = _
          rw [Bool.eq_false_iff.mpr e]; rfl
        rw [u] at yes no
        by_cases n1 : g 3 < q_far (s_td g w k) door
        · rw [if_pos (by rw [n_lt (by omega) (by omega)]; exact n1)]
          refine no (fun h => ?_)
          have := decide_eq_true_eq.mp (Bool.and_eq_true_iff.mp h).1
          omega
        · rw [if_neg (by rw [n_lt (by omega) (by omega)]; exact n1), z_grd_t (by rw [n_39, nI_add, n_in (by omega) (by omega)]; omega), n_39, nI_add, n_cl (by omega), M_st ht (by omega), M_sound ht hv hl (by omega) (by omega), Option.bind_some]
          by_cases h10 : s_snd g (s_td g w k) (g (39 + w)) = 10
          · rw [if_pos h10, if_pos (by decide)]
            refine no (fun h => ?_)
            exact decide_eq_true_eq.mp (Bool.and_eq_true_iff.mp h).2 h10
          · rw [if_neg h10, if_neg (by rw [n_0, n_lt (by omega) (by omega)]; omega)]
            exact yes (Bool.and_eq_true_iff.mpr ⟨decide_eq_true_eq.mpr (by omega), decide_eq_true_eq.mpr h10⟩)
  unfold F_X7_isHeard
  have := key (s_lg g w) 0 z_fuel (by omega) (by unfold z_fuel; omega)
  exact this
