/-! FELT -/
abbrev v_msk (s : Nat) : Int32 := if s < 256 then nI s else -1000000
def q_fs (f : Nat → Nat) (door w m s : Nat) : Nat := if (¬ s < 256 ∨ s_bits m < s_bits s) ∧ ¬ s_hr (z_fm f m) door w (s_lg f w) = true then m else s
def q_fl (f : Nat → Nat) (door w : Nat) : Nat → Nat → Nat → Nat
  | 0, _, s => s
  | d + 1, m, s => q_fl f door w d (m + 1) (q_fs f door w m s)
theorem two_le {n : Nat} (h : n ≤ 8) : 2 ^ n ≤ 256 := Nat.pow_le_pow_right (n := 2) (by decide) h
theorem C_smaller {M : z_M} {m s : Nat} (hm : m < 256) : F_X3_isSmaller (nI m) (v_msk s) M = some (b1 (¬ s < 256 ∨ s_bits m < s_bits s)) := by
  unfold F_X3_isSmaller F_X3_isSmaller_b17
  have a := s_bits_le (x := m)
  have b := s_bits_le (x := s)
  by_cases h : s < 256
  · rw [show v_msk s = nI s from if_pos h, if_neg (by rw [n_bad (by omega)]; exact id), C_bits (by omega), C_bits (by omega), Option.bind_some, Option.bind_some]
    by_cases h2 : s_bits m < s_bits s
    · rw [if_neg (by rw [n_le (by omega) (by omega)]; omega), b1_t (Or.inr h2)]
    · rw [if_pos (by rw [n_le (by omega) (by omega)]; omega), b1_f (fun k => k.elim (fun x => x h) h2)]
  · rw [show v_msk s = -1000000 from if_neg h, if_pos rfl, b1_t (Or.inl h)]
theorem C_feltL {M : z_M} {f : Nat → Nat} (hc : p_C M 27 f) (hv : p_V f) {door w : Nat} (hw : w < f 1) (hd : door < f 0) (a : Int32) : ∀ d m n s, m + d = 2 ^ f 0 → d < n → s ≤ 256 → F_X3_fewestFelts_b18 M n (nI w) (nI door) a (v_msk s) (nI (2 ^ f 0)) (nI m) = (if a = 0 then (F_X3_sizeOf (v_msk (q_fl f door w d m s)) M).bind (fun q6 => some q6) else some (v_msk (q_fl f door w d m s))) := by
  have hV := hv.1
  have h2 := two_le (n := f 0) (by omega)
  intro d
  induction d with
  | zero =>
    intro m n s h1 h3 hs
    obtain ⟨n, rfl⟩ : ∃ k', n = k' + 1 := ⟨n - 1, by omega⟩
    rw [F_X3_fewestFelts_b18, if_pos (by rw [n_le (by omega) (by omega)]; omega)]; rfl
  | succ d ih =>
    intro m n s h1 h3 hs
    obtain ⟨n, rfl⟩ : ∃ k', n = k' + 1 := ⟨n - 1, by omega⟩
    rw [F_X3_fewestFelts_b18, if_neg (by rw [n_le (by omega) (by omega)]; omega), C_smaller (by omega), Option.bind_some, b1_if]
    unfold F_X3_fewestFelts_b50
    rw [n_1, nI_add]
    have u : q_fl f door w (d + 1) m s = q_fl f door w d (m + 1) (q_fs f door w m s) := rfl
    rw [u]
    by_cases h : ¬ s < 256 ∨ s_bits m < s_bits s
    · rw [if_pos h, C_isUnheard hc hv hw hd (by omega), Option.bind_some, b1_if]
      by_cases k : ¬ s_hr (z_fm f m) door w (s_lg f w) = true
      · rw [if_pos k, show q_fs f door w m s = m from if_pos ⟨h, k⟩]
        have := ih (m + 1) n m (by omega) (by omega) (by omega)
        rw [show v_msk m = nI m from if_pos (by omega)] at this
        exact this
      · rw [if_neg k, show q_fs f door w m s = s from if_neg (fun x => k x.2)]
        exact ih (m + 1) n s (by omega) (by omega) hs
    · rw [if_neg h, show q_fs f door w m s = s from if_neg (fun x => h x.1)]
      exact ih (m + 1) n s (by omega) (by omega) hs
theorem C_felts {M : z_M} {f : Nat → Nat} (hc : p_C M 27 f) (hv : p_V f) {door w : Nat} (hw : w < f 1) (hd : door < f 0) (a : Int32) : F_X3_fewestFelts (nI w) (nI door) a M = (if a = 0 then (F_X3_sizeOf (v_msk (q_fl f door w (2 ^ f 0) 0 256)) M).bind (fun q6 => some q6) else some (v_msk (q_fl f door w (2 ^ f 0) 0 256))) := by
  have hV := hv.1
  have h2 := two_le (n := f 0) (by omega)
  unfold F_X3_fewestFelts F_X5_treadCount
  rw [Option.bind_some, hc.1.1, n_shl _ (by omega), z_nmI_e]
  exact C_feltL hc hv hw hd a (2 ^ f 0) 0 z_fuel 256 (by omega) (by unfold z_fuel; omega) (by omega)
