/-! TUNES: a tune as one number; twins -/
abbrev nL (n : Nat) : Int64 := Int64.ofNat n
theorem nL_toInt {n : Nat} (h : n < 2 ^ 63) : (nL n).toInt = n := Int64.toInt_ofNat_of_lt h
theorem nI_toL {n : Nat} (h : n < 2 ^ 31) : (nI n).toInt64 = nL n := by
  apply Int64.toInt_inj.mp
  rw [Int32.toInt_toInt64, nI_toInt h, nL_toInt (by omega)]
theorem nL_add (a b : Nat) : nL a + nL b = nL (a + b) := (Int64.ofNat_add a b).symm
theorem nL_mul (a b : Nat) : nL a * nL b = nL (a * b) := (Int64.ofNat_mul a b).symm
theorem nL_eq {a b : Nat} (ha : a < 2 ^ 63) (hb : b < 2 ^ 63) : (nL a = nL b) = (a = b) := by
  apply propext
  constructor
  · intro h
    have := congrArg Int64.toInt h
    rw [nL_toInt ha, nL_toInt hb] at this
    omega
  · rintro rfl; rfl
theorem lg_0 (x y : Int64) : lg_cmp x y = 0 ↔ x = y := by
  unfold lg_cmp
  by_cases h1 : x > y
  · rw [if_pos h1]
    exact ⟨fun h => absurd h (by decide), fun h => by rw [h] at h1; exact absurd h1 Int64.lt_irrefl⟩
  · rw [if_neg h1]
    by_cases h2 : x = y
    · rw [if_pos h2]; exact ⟨fun _ => h2, fun _ => rfl⟩
    · rw [if_neg h2]
      exact ⟨fun h => absurd h (by decide), fun h => absurd h h2⟩
/-- step k of a tune, and the tune as a number -/
abbrev s_st (f : Nat → Nat) (w k : Nat) : Nat := s_snd f (s_td f w k) (f (39 + w))
def t_n (f : Nat → Nat) (w : Nat) : Nat → Nat
  | 0 => 1
  | k + 1 => t_n f w k * 16 + s_st f w k
theorem t_n_1 {f : Nat → Nat} {w : Nat} : ∀ k, 1 ≤ t_n f w k
  | 0 => Nat.le_refl _
  | k + 1 => by have := t_n_1 (f := f) (w := w) k; show 1 ≤ t_n f w k * 16 + s_st f w k; omega
theorem t_n_lt {f : Nat → Nat} (hv : p_V f) {w : Nat} (hw : w < f 1) : ∀ k, k ≤ s_lg f w → t_n f w k < 2 * 16 ^ k
  | 0, _ => by show 1 < 2; omega
  | k + 1, h => by
    have h1 := t_n_lt hv hw k (by omega)
    have h2 := s_snd_le (step := f (39 + w)) hv (s_td_lt hv hw (show k < s_lg f w by omega))
    show t_n f w k * 16 + s_snd f (s_td f w k) (f (39 + w)) < 2 * 16 ^ (k + 1)
    rw [Nat.pow_succ]
    omega
theorem t_n_32 {f : Nat → Nat} (hv : p_V f) {w k : Nat} (hw : w < f 1) (hk : k ≤ s_lg f w) : t_n f w k < 2 ^ 40 := by
  have h1 := t_n_lt hv hw k hk
  have h2 := hv.lg hw
  have h3 : 16 ^ k ≤ 16 ^ 8 := Nat.pow_le_pow_right (by decide) (by omega)
  omega
theorem t_n_inj {f : Nat → Nat} (hv : p_V f) {w x : Nat} (hw : w < f 1) (hx : x < f 1) : ∀ a b, a ≤ s_lg f w → b ≤ s_lg f x → (t_n f w a = t_n f x b ↔ a = b ∧ ∀ k, k < a → s_st f w k = s_st f x k)
  | 0, 0, _, _ => ⟨fun _ => ⟨rfl, fun k hk => by omega⟩, fun _ => rfl⟩
  | 0, b + 1, _, _ => by
    have := t_n_1 (f := f) (w := x) b
    constructor
    · intro h
      have h : 1 = t_n f x b * 16 + s_st f x b := h
      omega
    · intro h; omega
  | a + 1, 0, _, _ => by
    have := t_n_1 (f := f) (w := w) a
    constructor
    · intro h
      have h : t_n f w a * 16 + s_st f w a = 1 := h
      omega
    · intro h; omega
  | a + 1, b + 1, ha, hb => by
    have ih := t_n_inj hv hw hx a b (by omega) (by omega)
    have h1 : s_st f w a ≤ 10 := s_snd_le hv (s_td_lt hv hw (show a < s_lg f w by omega))
    have h2 : s_st f x b ≤ 10 := s_snd_le hv (s_td_lt hv hx (show b < s_lg f x by omega))
    constructor
    · intro h
      have h : t_n f w a * 16 + s_st f w a = t_n f x b * 16 + s_st f x b := h
      obtain ⟨e1, e2⟩ := ih.mp (by omega)
      subst e1
      refine ⟨rfl, fun k hk => ?_⟩
      by_cases e : k = a
      · subst e; omega
      · exact e2 k (by omega)
    · rintro ⟨e1, e2⟩
      have e1 : a = b := by omega
      subst e1
      show t_n f w a * 16 + s_st f w a = t_n f x a * 16 + s_st f x a
      rw [ih.mpr ⟨rfl, fun k hk => e2 k (by omega)⟩, e2 a (by omega)]
section
variable {M : z_M} {i : Nat} {f : Nat → Nat}
theorem C_tuneNumber (hc : p_C M i f) (hv : p_V f) {w : Nat} (hw : w < f 1) : F_X5_tuneNumber i (nI w) M = some (nL (t_n f w (s_lg f w))) := by
  have h0 := hv.walker hw
  have hq := hv.lg hw
  have key : ∀ d k n, k + d = s_lg f w → d < n → F_X5_tuneNumber_b13 i M n (nI w) (nL (t_n f w k)) (nI (f (39 + w))) (nI k) = some (nL (t_n f w (s_lg f w))) := by
    intro d
    induction d with
    | zero =>
      intro k n h1 h2
      obtain ⟨n, rfl⟩ : ∃ k', n = k' + 1 := ⟨n - 1, by omega⟩
      rw [F_X5_tuneNumber_b13, show s_lg f w = k by omega]
      by_cases h8 : k = 8
      · rw [if_pos (by rw [n_8, n_le (by omega) (by omega)]; omega)]
      · rw [if_neg (by rw [n_8, n_le (by omega) (by omega)]; omega), C_td hc hv hw (by omega), Option.bind_some, if_neg (by omega), C_hasTread hc.1.1 (by omega), Option.bind_some, b1_if, if_neg bl_bad]
    | succ d ih =>
      intro k n h1 h2
      obtain ⟨n, rfl⟩ : ∃ k', n = k' + 1 := ⟨n - 1, by omega⟩
      have hk : k < s_lg f w := by omega
      have hl := s_td_lt hv hw hk
      have ht := hv.tread hl
      have hs : s_st f w k ≤ 10 := s_snd_le hv hl
      rw [F_X5_tuneNumber_b13, if_neg (by rw [n_8, n_le (by omega) (by omega)]; omega), C_td hc hv hw (by omega), Option.bind_some, if_pos hk, C_hasTread hc.1.1 (by omega), Option.bind_some, b1_if, if_pos (bl_n hl (by omega)), z_grd_t (by rw [n_in (by omega) (by omega)]; omega), C_toneOf hc hv hl, Option.bind_some, n_cl (by omega), (hc.2.1 _ hl).1, C_soundAs hc hv (by omega) (by omega) (s_tn10 hv hl) (by omega) (by omega), Option.bind_some, z_nmL_e, show nI (s_so (f (5 + s_td f w k)) (s_tn f (s_td f w k)) (f (39 + w)) (s_wt f)) = nI (s_st f w k) from rfl, nI_toL (by omega), show (16 : Int64) = nL 16 from rfl, nL_mul, nL_add, n_1, nI_add]
      exact ih (k + 1) n (by omega) (by omega)
  unfold F_X5_tuneNumber
  rw [(C_partOf hc hv hw).2.1, Option.bind_some]
  exact key (s_lg f w) 0 z_fuel (by omega) (by unfold z_fuel; omega)
theorem C_numberTunes (hc : p_C M 27 f) (hv : p_V f) : ∃ M', F_X3_numberTunes M = some (nI (f 1), M') ∧ (∀ a b c, z_gi M' a b c = z_gi M a b c) ∧ ∀ w, w < f 1 → z_gl M' w = nL (t_n f w (s_lg f w)) := by
  have hV := hv.1
  have key : ∀ d w n (M : z_M), w + d = f 1 → d < n → p_C M 27 f → (∀ x, x < w → z_gl M x = nL (t_n f x (s_lg f x))) → ∃ M', F_X3_numberTunes_b14 n (nI (f 1)) (nI w) M = some (nI (f 1), M') ∧ (∀ a b c, z_gi M' a b c = z_gi M a b c) ∧ ∀ w, w < f 1 → z_gl M' w = nL (t_n f w (s_lg f w)) := by
    intro d
    induction d with
    | zero =>
      intro w n M h1 h2 hc hx
      obtain ⟨n, rfl⟩ : ∃ k', n = k' + 1 := ⟨n - 1, by omega⟩
      exact ⟨M, by rw [F_X3_numberTunes_b14, if_pos (by rw [n_le (by omega) (by omega)]; omega)], fun a b c => rfl, fun x h => hx x (by omega)⟩
    | succ d ih =>
      intro w n M h1 h2 hc hx
      obtain ⟨n, rfl⟩ : ∃ k', n = k' + 1 := ⟨n - 1, by omega⟩
      obtain ⟨M', i1, i2, i3⟩ := ih (w + 1) n (z_sl M w (nL (t_n f w (s_lg f w)))) (by omega) (by omega) (hc.fr (fun _ _ _ _ => rfl)) (fun x h => by
        show (if x = w then _ else z_gl M x) = _
        by_cases e : x = w
        · rw [if_pos e, e]
        · rw [if_neg e]; exact hx x (by omega))
      refine ⟨M', ?_, fun a b c => (i2 a b c).trans rfl, i3⟩
      rw [F_X3_numberTunes_b14, if_neg (by rw [n_le (by omega) (by omega)]; omega), C_tuneNumber hc hv (by omega), Option.bind_some, z_grd_t (by rw [n_in (by omega) (by omega)]; omega), n_cl (by omega), n_1, nI_add]
      exact i1
  unfold F_X3_numberTunes F_X5_walkerCount
  have e5 : z_min (nI (f 1)) (5 : Int32) = nI (f 1) := by
    have : ∀ k, k < 6 → z_min (nI k) (5 : Int32) = nI k := by decide +kernel
    exact this _ (by omega)
  rw [Option.bind_some, z_nmI_e, hc.1.2.1, e5]
  exact key (f 1) 0 z_fuel M (by omega) (by unfold z_fuel; omega) hc (fun x h => by omega)
end
