/-! HEARD by the reference; a TOWN that is asked of by both -/
section
variable {M : z_M} {i : Nat} {f : Nat → Nat}
theorem s_hd_near {door : Nat} (hv : p_V f) (hd : door < f 0) : ∀ t, t < f 0 → (decide (q_far t door ≤ f 3) = true ↔ ¬ nI t < nI door - nI (f 3) ∧ nI t ≤ nI door + nI (f 3)) := by
  intro t ht
  have h := hv.1
  rw [decide_eq_true_eq, Int32.lt_iff_toInt_lt, Int32.le_iff_toInt_le, nI_add, pk_sub_toInt (by omega) (by omega), nI_toInt (by omega), nI_toInt (by omega)]
  unfold q_far
  omega
theorem C_heardAt (hc : p_C M i f) (hv : p_V f) {door m : Nat} (hd : door < f 0) (hm : m < 1000) : F_X5_heardAt i (nI door) (nI m) M = some (nI (s_hd f door m)) := by
  unfold F_X5_heardAt
  rw [hc.1.2.2.2.1, C_sounds hc hv hm (s_hd_near hv hd), Option.bind_some]
  rfl
theorem C_allIn (hc : p_C M i f) (hv : p_V f) {m : Nat} (hm : m < 1000) : F_X5_soundsIn i (nI m) 0 8 M = some (nI (s_all f m)) := by
  refine C_sounds hc hv hm (fun t ht => ?_)
  have h := hv.1
  rw [n_0, n_8, n_lt (by omega) (by omega), n_le (by omega) (by omega)]
  simp
  omega
theorem M_st (ht : p_T M 25 0 f) {k : Nat} (hk : k < 49) : z_gi M 25 0 k = nI (f k) := by rw [← ht k hk, Nat.zero_add]
theorem e_sz_far {a b : Nat} (ha : a < 8) (hb : b < 8) : e_sz (nI a - nI b) = nI (q_far a b) := by
  have : ∀ a, a < 8 → ∀ b, b < 8 → e_sz (nI a - nI b) = nI (q_far a b) := by decide +kernel
  exact this a ha b hb
theorem M_heardAt (ht : p_T M 25 0 f) (hv : p_V f) {door m : Nat} (hd : door < f 0) (hm : m < 1000) : F_X7_heardAt (nI door) (nI m) M = some (nI (s_hd f door m)) := by
  have hV := hv.1
  generalize hnr : (fun t => decide (q_far t door ≤ f 3)) = near
  have hd' : s_hd f door m = s_hs f near m (f 1) := by rw [← hnr]; rfl
  rw [hd']
  have key : ∀ d w n, w + d = f 1 → d < n → F_X7_heardAt_b5 M n (nI door) (nI m) (nI (s_hs f near m w)) (nI w) = some (nI (s_hs f near m (f 1))) := by
    intro d
    induction d with
    | zero =>
      intro w n h1 h2
      obtain ⟨n, rfl⟩ : ∃ k', n = k' + 1 := ⟨n - 1, by omega⟩
      rw [F_X7_heardAt_b5, z_grd_t (by decide), show (1 : Int32).toNatClampNeg = 1 from rfl, M_st ht (by decide), if_pos (by rw [n_le (by omega) (by omega)]; omega), show w = f 1 by omega]
    | succ d ih =>
      intro w n h1 h2
      obtain ⟨n, rfl⟩ : ∃ k', n = k' + 1 := ⟨n - 1, by omega⟩
      have hw : w < f 1 := by omega
      have h0 := hv.walker hw
      have st : ∀ x, nI (s_hs f near m w) ||| x = nI (s_hs f near m (w + 1)) → F_X7_heardAt_b82 M (F_X7_heardAt_b5 M n) (nI door) (nI m) (nI w) x (nI (s_hs f near m w)) = some (nI (s_hs f near m (f 1))) := by
        intro x hx
        unfold F_X7_heardAt_b82
        rw [z_nmI_e, hx, n_1, nI_add]
        exact ih (w + 1) n (by omega) (by omega)
      have st0 : s_h1 f near m w = 0 → F_X7_heardAt_b81 M (F_X7_heardAt_b5 M n) (nI door) (nI m) (nI w) (nI (s_hs f near m w)) = some (nI (s_hs f near m (f 1))) := by
        intro e0
        unfold F_X7_heardAt_b81
        refine st 0 ?_
        rw [n_0, n_or]
        show nI (_ ||| 0) = nI (s_hs f near m w ||| s_h1 f near m w)
        rw [e0]
      rw [F_X7_heardAt_b5, z_grd_t (by decide), show (1 : Int32).toNatClampNeg = 1 from rfl, M_st ht (by decide), if_neg (by rw [n_le (by omega) (by omega)]; omega), M_at ht hv hw hm, Option.bind_some]
      rcases s_at_lt hv (m := m) hw with ha | ha
      · have h99 : s_at f w m ≠ 99 := by omega
        have hs := s_snd_le (step := f (39 + w)) hv ha
        have ht8 := hv.tread ha
        rw [if_neg h99, if_pos (by rw [n_0, n_le (by omega) (by omega)]; omega), z_grd_t (by rw [n_39, nI_add, n_in (by omega) (by omega)]; omega), n_39, nI_add, n_cl (by omega), M_st ht (by omega), M_sound ht hv ha (by omega) (by omega), Option.bind_some]
        unfold F_X7_heardAt_b50
        by_cases h10 : s_snd f (s_at f w m) (f (39 + w)) = 10
        · rw [if_pos h10, if_pos (by decide)]
          exact st0 (if_neg (fun h => h.2.2 h10))
        · rw [if_neg h10, if_neg (by rw [n_0, n_lt (by omega) (by omega)]; omega), M_size, Option.bind_some, e_sz_far (by omega) (by omega), z_grd_t (by decide), show (3 : Int32).toNatClampNeg = 3 from rfl, M_st ht (by decide)]
          have hq : q_far (s_at f w m) door < 16 := by unfold q_far; omega
          by_cases hn : f 3 < q_far (s_at f w m) door
          · rw [if_pos (by rw [n_lt (by omega) (by omega)]; exact hn)]
            exact st0 (if_neg (fun h => by have h2 := h.2.1; rw [← hnr] at h2; have h3 := decide_eq_true_eq.mp h2; omega))
          · rw [if_neg (by rw [n_lt (by omega) (by omega)]; exact hn), n_shl _ (by omega)]
            refine st _ ?_
            rw [n_or]
            show nI _ = nI (s_hs f near m w ||| s_h1 f near m w)
            rw [show s_h1 f near m w = 2 ^ s_snd f (s_at f w m) (f (39 + w)) from if_pos ⟨h99, by rw [← hnr]; exact decide_eq_true_eq.mpr (by omega), h10⟩]
      · rw [if_pos ha, if_neg (by decide)]
        unfold F_X7_heardAt_b50
        rw [if_pos (by decide)]
        exact st0 (if_neg (fun h => h.1 ha))
  unfold F_X7_heardAt
  exact key (f 1) 0 z_fuel (by omega) (by unfold z_fuel; omega)
theorem M_allIn (ht : p_T M 25 0 f) (hv : p_V f) {m : Nat} (hm : m < 1000) : F_X7_allIn (nI m) M = some (nI (s_all f m)) := by
  have hV := hv.1
  generalize hnr : (fun _ : Nat => true) = near
  have hd' : s_all f m = s_hs f near m (f 1) := by rw [← hnr]; rfl
  rw [hd']
  have key : ∀ d w n, w + d = f 1 → d < n → F_X7_allIn_b4 M n (nI m) (nI (s_hs f near m w)) (nI w) = some (nI (s_hs f near m (f 1))) := by
    intro d
    induction d with
    | zero =>
      intro w n h1 h2
      obtain ⟨n, rfl⟩ : ∃ k', n = k' + 1 := ⟨n - 1, by omega⟩
      rw [F_X7_allIn_b4, z_grd_t (by decide), show (1 : Int32).toNatClampNeg = 1 from rfl, M_st ht (by decide), if_pos (by rw [n_le (by omega) (by omega)]; omega), show w = f 1 by omega]
    | succ d ih =>
      intro w n h1 h2
      obtain ⟨n, rfl⟩ : ∃ k', n = k' + 1 := ⟨n - 1, by omega⟩
      have hw : w < f 1 := by omega
      have h0 := hv.walker hw
      have st : ∀ x, nI (s_hs f near m w) ||| x = nI (s_hs f near m (w + 1)) → F_X7_allIn_b62 M (F_X7_allIn_b4 M n) (nI m) (nI w) x (nI (s_hs f near m w)) = some (nI (s_hs f near m (f 1))) := by
        intro x hx
        unfold F_X7_allIn_b62
        rw [z_nmI_e, hx, n_1, nI_add]
        exact ih (w + 1) n (by omega) (by omega)
      have st0 : s_h1 f near m w = 0 → F_X7_allIn_b62 M (F_X7_allIn_b4 M n) (nI m) (nI w) 0 (nI (s_hs f near m w)) = some (nI (s_hs f near m (f 1))) := by
        intro e0
        refine st 0 ?_
        rw [n_0, n_or]
        show nI (_ ||| 0) = nI (s_hs f near m w ||| s_h1 f near m w)
        rw [e0]
      rw [F_X7_allIn_b4, z_grd_t (by decide), show (1 : Int32).toNatClampNeg = 1 from rfl, M_st ht (by decide), if_neg (by rw [n_le (by omega) (by omega)]; omega), M_at ht hv hw hm, Option.bind_some]
      rcases s_at_lt hv (m := m) hw with ha | ha
      · have h99 : s_at f w m ≠ 99 := by omega
        have hs := s_snd_le (step := f (39 + w)) hv ha
        have ht8 := hv.tread ha
        rw [if_neg h99, if_pos (by rw [n_0, n_le (by omega) (by omega)]; omega), z_grd_t (by rw [n_39, nI_add, n_in (by omega) (by omega)]; omega), n_39, nI_add, n_cl (by omega), M_st ht (by omega), M_sound ht hv ha (by omega) (by omega), Option.bind_some]
        unfold F_X7_allIn_b46
        by_cases h10 : s_snd f (s_at f w m) (f (39 + w)) = 10
        · rw [if_pos h10, if_pos (by decide)]
          exact st0 (if_neg (fun h => h.2.2 h10))
        · rw [if_neg h10, if_neg (by rw [n_0, n_lt (by omega) (by omega)]; omega), n_shl _ (by omega)]
          refine st _ ?_
          rw [n_or]
          show nI _ = nI (s_hs f near m w ||| s_h1 f near m w)
          rw [show s_h1 f near m w = 2 ^ s_snd f (s_at f w m) (f (39 + w)) from if_pos ⟨h99, by rw [← hnr], h10⟩]
      · rw [if_pos ha, if_neg (by decide)]
        unfold F_X7_allIn_b46
        rw [if_pos (by decide)]
        exact st0 (if_neg (fun h => h.1 ha))
  unfold F_X7_allIn
  exact key (f 1) 0 z_fuel (by omega) (by unfold z_fuel; omega)
theorem C_soundOf (hc : p_C M i f) (hv : p_V f) {w k : Nat} (h : w < f 1) (hk : k < 2 ^ 30) : F_X5_soundOf i (nI w) (nI k) M = some (if k < s_lg f w then nI (s_snd f (s_td f w k) (f (39 + w))) else -1000000) := by
  have h0 := hv.walker h
  unfold F_X5_soundOf
  rw [C_td hc hv h hk, Option.bind_some, C_hasTread hc.1.1 (by omega), Option.bind_some, b1_if]
  by_cases h1 : k < s_lg f w
  · have hl := s_td_lt hv h h1
    have ht8 := hv.tread hl
    rw [if_pos h1, if_pos (bl_n hl (by omega)), if_pos h1]
    have hz : z_in (nI (s_td f w k)) 8 := by rw [n_in (by omega) (by omega)]; omega
    rw [z_grd_t hz, C_toneOf hc hv hl, Option.bind_some, (C_partOf hc hv h).2.1, Option.bind_some, n_cl (by omega), (hc.2.1 _ hl).1, C_soundAs hc hv (by omega) (by omega) (s_tn10 hv hl) (by omega) (by omega), Option.bind_some]
    rfl
  · rw [if_neg h1, if_neg bl_bad, if_neg h1]
theorem M_tuneOf (ht : p_T M 25 0 f) (hv : p_V f) {w k : Nat} (h : w < f 1) (hk : k < s_lg f w) : F_X7_tuneOf (nI w) (nI k) M = some (nI (s_snd f (s_td f w k) (f (39 + w)))) := by
  have h0 := hv.walker h
  have hq := hv.lg h
  have hl := s_td_lt hv h hk
  have hs := s_snd_le (step := f (39 + w)) hv hl
  unfold F_X7_tuneOf
  rw [M_td ht hv h (by omega), Option.bind_some, z_grd_t (by rw [n_39, nI_add, n_in (by omega) (by omega)]; omega), n_39, nI_add, n_cl (by omega), M_st ht (by omega), M_sound ht hv hl (by omega) (by omega), Option.bind_some]
  by_cases h10 : s_snd f (s_td f w k) (f (39 + w)) = 10
  · rw [if_pos h10, if_neg (by decide), h10]; rfl
  · rw [if_neg h10, if_pos (by rw [n_0, n_le (by omega) (by omega)]; omega)]
end
