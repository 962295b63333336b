/-! DOORS by the reference: is each WALKER heard at one of a set of doors -/
def s_a1 (f : Nat → Nat) (m w : Nat) : Nat → Bool
  | 0 => false
  | t + 1 => s_a1 f m w t || (decide (m / 2 ^ t % 2 = 1) && s_hr f t w (s_lg f w))
def s_aa (f : Nat → Nat) (m : Nat) : Nat → Bool
  | 0 => true
  | w + 1 => s_aa f m w && s_a1 f m w (f 0)
theorem M_areHeard {M : z_M} {f : Nat → Nat} (ht : p_T M 25 0 f) (hv : p_V f) {m : Nat} (hm : m < 256) : F_X7_areHeard (nI m) M = some (b1 (s_aa f m (f 1) = true)) := by
  have hV := hv.1
  have inner : ∀ w, w < f 1 → ∀ (K : Int32 → Int32 → Int32 → Option Int32) d t n, t + d = f 0 → d < n → F_X7_areHeard_b20 M K n (nI m) (b1 (s_aa f m w = true)) (nI w) (b1 (s_a1 f m w t = true)) (nI t) = K (nI m) (b1 (s_aa f m (w + 1) = true)) (nI (w + 1)) := by
    intro w hw K d
    induction d with
    | zero =>
      intro t n h1 h2
      obtain ⟨n, rfl⟩ : ∃ k', n = k' + 1 := ⟨n - 1, by omega⟩
      have e : t = f 0 := by omega
      subst e
      rw [F_X7_areHeard_b20, z_grd_t (by decide), show (0 : Int32).toNatClampNeg = 0 from rfl, M_st ht (by decide), if_pos (by rw [n_le (by omega) (by omega)]; omega)]
      unfold F_X7_areHeard_b81 F_X7_areHeard_b82
      have u : s_aa f m (w + 1) = (s_aa f m w && s_a1 f m w (f 0)) := rfl
      rw [u, n_1, nI_add]
      cases s_aa f m w <;> cases s_a1 f m w (f 0) <;> rfl
    | succ d ih =>
      intro t n h1 h2
      obtain ⟨n, rfl⟩ : ∃ k', n = k' + 1 := ⟨n - 1, by omega⟩
      have i := ih (t + 1) n (by omega) (by omega)
      have u : s_a1 f m w (t + 1) = (s_a1 f m w t || (decide (m / 2 ^ t % 2 = 1) && s_hr f t w (s_lg f w))) := rfl
      rw [u] at i
      rw [F_X7_areHeard_b20, z_grd_t (by decide), show (0 : Int32).toNatClampNeg = 0 from rfl, M_st ht (by decide), if_neg (by rw [n_le (by omega) (by omega)]; omega), b1_if, M_has hm (by omega), Option.bind_some, b1_if, M_isHeard ht hv hw (by omega), Option.bind_some, b1_if]
      unfold F_X7_areHeard_b55 F_X7_areHeard_b59 F_X7_areHeard_b60
      rw [n_1, nI_add]
      by_cases ha : s_a1 f m w t = true
      · rw [if_pos ha]
        rw [b1_t (show (s_a1 f m w t || (decide (m / 2 ^ t % 2 = 1) && s_hr f t w (s_lg f w))) = true by rw [ha]; rfl)] at i
        exact i
      · rw [if_neg ha]
        by_cases hb : m / 2 ^ t % 2 = 1
        · rw [if_pos hb]
          by_cases hh : s_hr f t w (s_lg f w) = true
          · rw [if_pos hh]
            rw [b1_t (show (s_a1 f m w t || (decide (m / 2 ^ t % 2 = 1) && s_hr f t w (s_lg f w))) = true by rw [hh, decide_eq_true hb]; simp)] at i
            exact i
          · rw [if_neg hh]
            rw [b1_f (show ¬ (s_a1 f m w t || (decide (m / 2 ^ t % 2 = 1) && s_hr f t w (s_lg f w))) = true by rw [Bool.eq_false_iff.mpr ha, Bool.eq_false_iff.mpr hh]; simp)] at i
            exact i
        · rw [if_neg hb]
          rw [b1_f (show ¬ (s_a1 f m w t || (decide (m / 2 ^ t % 2 = 1) && s_hr f t w (s_lg f w))) = true by rw [Bool.eq_false_iff.mpr ha, decide_eq_false hb]; simp)] at i
          exact i
  have key : ∀ d w n, w + d = f 1 → d < n → F_X7_areHeard_b4 M n (nI m) (b1 (s_aa f m w = true)) (nI w) = some (b1 (s_aa f m (f 1) = true)) := by
    intro d
    induction d with
    | zero =>
      intro w n h1 h2
      obtain ⟨n, rfl⟩ : ∃ k', n = k' + 1 := ⟨n - 1, by omega⟩
      rw [F_X7_areHeard_b4, z_grd_t (by decide), show (1 : Int32).toNatClampNeg = 1 from rfl, M_st ht (by decide), if_pos (by rw [n_le (by omega) (by omega)]; omega), z_grd_t b1_and, show w = f 1 by omega]
    | succ d ih =>
      intro w n h1 h2
      obtain ⟨n, rfl⟩ : ∃ k', n = k' + 1 := ⟨n - 1, by omega⟩
      rw [F_X7_areHeard_b4, z_grd_t (by decide), show (1 : Int32).toNatClampNeg = 1 from rfl, M_st ht (by decide), if_neg (by rw [n_le (by omega) (by omega)]; omega)]
      refine (show F_X7_areHeard_b20 _ _ _ _ _ _ 0 0 = _ from inner w (by omega) (F_X7_areHeard_b4 M n) (f 0) 0 z_fuel (by omega) (by unfold z_fuel; omega)).trans ?_
      exact ih (w + 1) n (by omega) (by omega)
  unfold F_X7_areHeard
  exact key (f 1) 0 z_fuel (by omega) (by unfold z_fuel; omega)
