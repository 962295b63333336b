/-! DOORS -/
theorem z_fm_0 {f : Nat → Nat} : z_fm f 0 = f := by
  funext j
  unfold z_fm
  rw [if_neg (fun k => by have := k.2.2; rw [Nat.zero_div] at this; exact absurd this (by decide))]
/-- WALKER w is heard at door t -/
abbrev s_dh (f : Nat → Nat) (w t : Nat) : Prop := s_hr f t w (s_lg f w) = true
/-- the doors at which w is heard, as a set -/
def s_ds (f : Nat → Nat) (w : Nat) : Nat → Nat
  | 0 => 0
  | t + 1 => s_ds f w t ||| (if s_dh f w t then 2 ^ t else 0)
theorem C_doorsHearing {M : z_M} {f : Nat → Nat} (hc : p_C M 27 f) (hv : p_V f) {w : Nat} (hw : w < f 1) : F_X3_doorsHearing (nI w) M = some (nI (s_ds f w (f 0))) := by
  have hV := hv.1
  have key : ∀ d t n, t + d = f 0 → d < n → F_X3_doorsHearing_b4 M n (nI w) (nI (s_ds f w t)) (nI t) = some (nI (s_ds f w (f 0))) := by
    intro d
    induction d with
    | zero =>
      intro t n h1 h2
      obtain ⟨n, rfl⟩ : ∃ k', n = k' + 1 := ⟨n - 1, by omega⟩
      unfold F_X3_doorsHearing_b4 F_X5_treadCount
      rw [Option.bind_some, hc.1.1, if_pos (by rw [n_le (by omega) (by omega)]; omega), show t = f 0 by omega]
    | succ d ih =>
      intro t n h1 h2
      obtain ⟨n, rfl⟩ : ∃ k', n = k' + 1 := ⟨n - 1, by omega⟩
      have e := C_isUnheard hc hv hw (show t < f 0 by omega) (show 0 < 256 by omega)
      rw [z_fm_0] at e
      unfold F_X3_doorsHearing_b4 F_X5_treadCount
      rw [Option.bind_some, hc.1.1, if_neg (by rw [n_le (by omega) (by omega)]; omega), show F_X3_isUnheard (nI w) (nI t) 0 M = _ from e, Option.bind_some, b1_if]
      unfold F_X3_doorsHearing_b31
      rw [n_1, nI_add]
      by_cases h : s_dh f w t
      · have i := ih (t + 1) n (by omega) (by omega)
        rw [show s_ds f w (t + 1) = s_ds f w t ||| 2 ^ t by show _ ||| (if _ then _ else _) = _; rw [if_pos h]] at i
        rw [if_neg (fun k => k h), ← n_1, n_shl _ (by omega), n_or, z_nmI_e]
        exact i
      · have i := ih (t + 1) n (by omega) (by omega)
        rw [show s_ds f w (t + 1) = s_ds f w t by show _ ||| (if _ then _ else _) = _; rw [if_neg h, Nat.or_zero]] at i
        rw [if_pos h]
        exact i
  exact key (f 0) 0 z_fuel (by omega) (by unfold z_fuel; omega)
