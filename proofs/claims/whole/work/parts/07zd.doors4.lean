/-! DOORS, the class: all heard, by what 17 holds -/
abbrev p_dr (M : z_M) (f : Nat → Nat) (n : Nat) : Prop := ∀ w, w < n → z_gi M 17 0 w = nI (s_ds f w (f 0))
theorem n_and0 {a b : Nat} (ha : a < 2 ^ 31) : ((nI a &&& nI b) = 0) ↔ a &&& b = 0 := by
  have e : nI a &&& nI b = nI (a &&& b) := by
    apply Int32.toBitVec_inj.mp
    show BitVec.ofNat 32 a &&& BitVec.ofNat 32 b = BitVec.ofNat 32 (a &&& b)
    apply BitVec.eq_of_toNat_eq
    simp [BitVec.toNat_and, Nat.and_mod_two_pow]
  have : a &&& b ≤ a := Nat.and_le_left
  rw [e, n_0, n_eq (by omega) (by omega)]
theorem s_ds_lt {f : Nat → Nat} {w : Nat} : ∀ t, t ≤ 8 → s_ds f w t < 2 ^ 8
  | 0, _ => by show 0 < 256; omega
  | t + 1, h => by
    show s_ds f w t ||| (if _ then _ else _) < 2 ^ 8
    refine Nat.or_lt_two_pow (s_ds_lt t (by omega)) ?_
    split
    · exact Nat.pow_lt_pow_right (by decide) (by omega)
    · decide
theorem s_aa_no {f : Nat → Nat} {m w : Nat} (h : s_aa f m w = false) : ∀ d, s_aa f m (w + d) = false
  | 0 => h
  | d + 1 => by show (s_aa f m (w + d) && _) = false; rw [s_aa_no h d]; rfl
theorem C_hearAll {M : z_M} {f : Nat → Nat} (hv : p_V f) (hd : p_dr M f (f 1)) {m : Nat} (hm : m < 256) : F_X3_hearAll (nI m) (nI (f 1)) M = some (b1 (s_aa f m (f 1) = true)) := by
  have hV := hv.1
  have key : ∀ d w n, w + d = f 1 → d < n → s_aa f m w = true → F_X3_hearAll_b2 M n (nI m) (nI (f 1)) (nI w) = some (b1 (s_aa f m (f 1) = true)) := by
    intro d
    induction d with
    | zero =>
      intro w n h1 h2 ha
      obtain ⟨n, rfl⟩ : ∃ k', n = k' + 1 := ⟨n - 1, by omega⟩
      rw [F_X3_hearAll_b2, if_pos (by rw [n_le (by omega) (by omega)]; omega), show f 1 = w by omega, b1_t ha]
    | succ d ih =>
      intro w n h1 h2 ha
      obtain ⟨n, rfl⟩ : ∃ k', n = k' + 1 := ⟨n - 1, by omega⟩
      have sl := s_ds_lt (f := f) (w := w) (f 0) (by omega)
      have lk := s_ds_a1 (f := f) (w := w) hm (f 0) (by omega)
      rw [F_X3_hearAll_b2, if_neg (by rw [n_le (by omega) (by omega)]; omega), if_neg (by rw [n_5, n_le (by omega) (by omega)]; omega), z_grd_t (by rw [n_in (by omega) (by omega)]; omega), n_cl (by omega), hd w (by omega)]
      by_cases h : s_a1 f m w (f 0) = false
      · rw [if_pos ((n_and0 (by omega)).mpr (lk.mpr h))]
        have := s_aa_no (f := f) (m := m) (w := w + 1) (show (s_aa f m w && s_a1 f m w (f 0)) = false by rw [h, Bool.and_false]) d
        rw [show w + 1 + d = f 1 by omega] at this
        rw [b1_f (by rw [this]; exact Bool.false_ne_true)]
      · rw [if_neg (fun k => h (lk.mp ((n_and0 (by omega)).mp k))), n_1, nI_add]
        exact ih (w + 1) n (by omega) (by omega) (by show (s_aa f m w && s_a1 f m w (f 0)) = true; rw [ha, eq_true_of_ne_false h]; rfl)
  exact key (f 1) 0 z_fuel (by omega) (by unfold z_fuel; omega) rfl
