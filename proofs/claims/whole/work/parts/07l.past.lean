/-! PAST: what is kept and taken back, by both -/
def z_push (f : Nat → Nat) (h : Nat → Nat → Nat) : Nat → Nat → Nat
  | 0 => f
  | j + 1 => h j
theorem C_townAt {M : z_M} {j : Nat} (h : j < 24) : F_X1_townAt (nI j) M = some (some (0 + j)) := by
  unfold F_X1_townAt
  rw [if_neg (by rw [n_0, n_lt (by omega) (by omega)]; omega), if_neg (by rw [n_24, n_le (by omega) (by omega)]; omega), z_grd_t (by rw [n_in (by omega) (by omega)]; exact h), n_cl (by omega), z_grd_t (by omega)]
theorem C_keep {M : z_M} {nx kp : Nat} {h : Nat → Nat → Nat} {f : Nat → Nat} (h6 : C6 M nx kp h) (hc : p_C M 24 f) (h8 : f 0 ≤ 8) (h5 : f 1 ≤ 5) : ∃ M', F_X1_keep M = some M' ∧ m_of (fun a b => (7 ≤ a ∧ a ≤ 11 ∧ b < 24) ∨ a = 12) M M' ∧ C6 M' ((nx + 1) % 24) (min 24 (kp + 1)) (z_push f h) := by
  obtain ⟨h1, h2, h3, h4, h7⟩ := h6
  obtain ⟨M1, e1, e2, e3⟩ := C_take (i := nx) (by omega) hc h8 h5
  have q1 : z_gi M1 12 0 1 = nI nx := by rw [e2 12 0 (by omega), h3]
  have q2 : z_gi M1 12 0 2 = nI kp := by rw [e2 12 0 (by omega), h4]
  unfold F_X1_keep
  rw [h3, C_townAt h1, Option.bind_some, Nat.zero_add]
  show ∃ M', z_grd (nx < 29) ((F_X5_take nx (some 24) M).bind _) = some M' ∧ _
  rw [z_grd_t (by omega), e1, Option.bind_some, q1, n_1, nI_add]
  have fin : ∀ v, v = (nx + 1) % 24 → ∃ M', F_X1_keep_b41 (nI v) M1 = some M' ∧ m_of (fun a b => (7 ≤ a ∧ a ≤ 11 ∧ b < 24) ∨ a = 12) M M' ∧ C6 M' ((nx + 1) % 24) (min 24 (kp + 1)) (z_push f h) := by
    intro v hvv
    unfold F_X1_keep_b41
    simp only [z_nmM_e]
    have e24 : z_min (24 : Int32) (nI kp + 1) = nI (min 24 (kp + 1)) := by
      have : ∀ k, k < 25 → z_min (24 : Int32) (nI k + 1) = nI (min 24 (k + 1)) := by decide +kernel
      exact this kp (by omega)
    rw [m_off _ _ _ _ _ (by omega), q2, e24]
    refine ⟨_, rfl, m_of.si (S := fun a b => (7 ≤ a ∧ a ≤ 11 ∧ b < 24) ∨ a = 12) (m_of.si (S := fun a b => (7 ≤ a ∧ a ≤ 11 ∧ b < 24) ∨ a = 12) (e2.mono (fun a b h => Or.inl (by omega))) (Or.inr rfl)) (Or.inr rfl), by omega, by omega, by rw [m_off _ _ _ _ _ (by omega), m_same, hvv], by rw [m_same], ?_⟩
    intro j hj
    cases j with
    | zero =>
      rw [show p_rg ((nx + 1) % 24) 0 = nx by unfold p_rg; omega]
      exact e3.fr (fun a k1 k2 c => by rw [m_off _ _ _ _ _ (by omega), m_off _ _ _ _ _ (by omega)])
    | succ j =>
      rw [show p_rg ((nx + 1) % 24) (j + 1) = p_rg nx j by unfold p_rg; omega]
      refine (h7 j (by omega)).fr (fun a k1 k2 c => ?_)
      rw [m_off _ _ _ _ _ (by omega), m_off _ _ _ _ _ (by omega), e2 a _ (by unfold p_rg; omega)]
  by_cases hx : nx = 23
  · subst hx
    rw [if_pos (by decide)]
    exact fin 0 (by decide)
  · rw [if_neg (by rw [n_24, n_le (by omega) (by omega)]; omega)]
    exact fin (nx + 1) (by omega)
theorem C_takeBack {M : z_M} {nx kp : Nat} {h : Nat → Nat → Nat} (h6 : C6 M nx (kp + 1) h) (h8 : h 0 0 ≤ 8) (h5 : h 0 1 ≤ 5) : ∃ M', F_X1_takeBack M = some (nI kp, M') ∧ m_of (fun a b => (7 ≤ a ∧ a ≤ 11 ∧ b = 24) ∨ a = 12) M M' ∧ C6 M' (p_rg nx 0) kp (fun j => h (j + 1)) ∧ p_C M' 24 (h 0) := by
  obtain ⟨h1, h2, h3, h4, h7⟩ := h6
  have hp : p_rg nx 0 < 24 := p_rg_lt
  unfold F_X1_takeBack
  rw [h4, h3, if_pos (by rw [n_1, n_le (by omega) (by omega)]; omega)]
  have fin : ∃ M', F_X1_takeBack_b34 (nI (p_rg nx 0)) M = some (nI kp, M') ∧ m_of (fun a b => (7 ≤ a ∧ a ≤ 11 ∧ b = 24) ∨ a = 12) M M' ∧ C6 M' (p_rg nx 0) kp (fun j => h (j + 1)) ∧ p_C M' 24 (h 0) := by
    have hc : p_C (z_si M 12 0 1 (nI (p_rg nx 0))) (p_rg nx 0) (h 0) := (h7 0 (by omega)).fr (fun a k1 k2 c => m_off _ _ _ _ _ (by omega))
    obtain ⟨M1, e1, e2, e3⟩ := C_take (i := 24) (by omega) hc h8 h5
    have q2 : z_gi M1 12 0 2 = nI (kp + 1) := by rw [e2 12 0 (by omega), m_off _ _ _ _ _ (by omega), h4]
    unfold F_X1_takeBack_b34
    simp only [z_nmM_e]
    rw [m_same, C_townAt hp, Option.bind_some, Nat.zero_add]
    show ∃ M', z_grd (p_rg nx 0 < 29) ((F_X5_take 24 (some (p_rg nx 0)) _).bind _) = some (nI kp, M') ∧ _
    rw [z_grd_t (by omega), e1, Option.bind_some, q2, n_1, n_sub (by omega), Nat.add_sub_cancel, m_same]
    have eo : m_of (fun a b => (7 ≤ a ∧ a ≤ 11 ∧ b = 24) ∨ a = 12) M (z_si M1 12 0 2 (nI kp)) := ((m_of.rf.si (Or.inr rfl)).tr (e2.mono (fun a b h => Or.inl (by omega)))).si (Or.inr rfl)
    refine ⟨_, rfl, eo, ⟨hp, by omega, by rw [m_off _ _ _ _ _ (by omega), e2 12 0 (by omega), m_same], by rw [m_same], ?_⟩, e3.fr (fun a k1 k2 c => by rw [m_off _ _ _ _ _ (by omega)])⟩
    intro j hj
    rw [show p_rg (p_rg nx 0) j = p_rg nx (j + 1) by unfold p_rg; omega]
    exact (h7 (j + 1) (by omega)).fr (fun a k1 k2 c => eo a _ (by have := p_rg_lt (nx := nx) (j := j + 1); omega) c)
  by_cases hx : nx = 0
  · subst hx
    rw [if_pos (by decide)]
    exact fin
  · rw [if_neg (by rw [n_0, n_le (by omega) (by omega)]; omega), n_1, n_sub (by omega), show nx - 1 = p_rg nx 0 by unfold p_rg; omega]
    exact fin
theorem M_shift : ∀ d r n (M : z_M), r + d = 1127 → d < n → ∃ M', F_X7_note_b11 n (nI r) M = F_X7_note_b49 (z_si M' 21 0 17 ((z_gi M' 21 0 17) - 1)) ∧ m_of (fun a _ => a = 29) M M' ∧ ∀ c, z_gi M' 29 0 c = if r ≤ c ∧ c < 1127 then z_gi M 29 0 (c + 49) else z_gi M 29 0 c := by
  intro d
  induction d with
  | zero =>
    intro r n M h1 h2
    obtain ⟨n, rfl⟩ : ∃ k', n = k' + 1 := ⟨n - 1, by omega⟩
    exact ⟨M, by rw [F_X7_note_b11, if_pos (by rw [n_1127, n_le (by omega) (by omega)]; omega)], m_of.rf, fun c => by rw [if_neg (by omega)]⟩
  | succ d ih =>
    intro r n M h1 h2
    obtain ⟨n, rfl⟩ : ∃ k', n = k' + 1 := ⟨n - 1, by omega⟩
    rw [F_X7_note_b11, if_neg (by rw [n_1127, n_le (by omega) (by omega)]; omega), n_49, nI_add, z_grd_t (by rw [n_in (by omega) (by omega)]; omega), z_grd_t (by rw [n_in (by omega) (by omega)]; omega), n_cl (by omega), n_cl (by omega), n_1, nI_add]
    obtain ⟨M', i1, i2, i3⟩ := ih (r + 1) n (z_si M 29 0 r (z_gi M 29 0 (r + 49))) (by omega) (by omega)
    refine ⟨M', i1, (m_of.si (S := fun a _ => a = 29) m_of.rf rfl).tr i2, fun c => ?_⟩
    rw [i3 c]
    by_cases hc : c = r
    · subst hc
      rw [if_neg (by omega), m_same, if_pos (by omega)]
    · by_cases hc2 : r + 1 ≤ c ∧ c < 1127
      · rw [if_pos hc2, m_off _ _ _ _ _ (by omega), if_pos (by omega)]
      · rw [if_neg hc2, m_off _ _ _ _ _ (by omega), if_neg (by omega)]
theorem M_noteL {kp : Nat} (hk : kp < 24) : ∀ d r n (M : z_M), r + d = 49 → d < n → z_gi M 21 0 17 = nI kp → ∃ M', F_X7_note_b51 n (nI r) M = some (z_si M' 21 0 17 (nI (kp + 1))) ∧ m_of (fun a _ => a = 29) M M' ∧ ∀ c, z_gi M' 29 0 c = if 49 * kp + r ≤ c ∧ c < 49 * kp + 49 then z_gi M 25 0 (c - 49 * kp) else z_gi M 29 0 c := by
  intro d
  induction d with
  | zero =>
    intro r n M h1 h2 h3
    obtain ⟨n, rfl⟩ : ∃ k', n = k' + 1 := ⟨n - 1, by omega⟩
    exact ⟨M, by rw [F_X7_note_b51, if_pos (by rw [n_49, n_le (by omega) (by omega)]; omega), h3, n_1, nI_add], m_of.rf, fun c => by rw [if_neg (by omega)]⟩
  | succ d ih =>
    intro r n M h1 h2 h3
    obtain ⟨n, rfl⟩ : ∃ k', n = k' + 1 := ⟨n - 1, by omega⟩
    rw [F_X7_note_b51, if_neg (by rw [n_49, n_le (by omega) (by omega)]; omega), h3, n_49, pk_mul, nI_add, z_grd_t (by rw [n_in (by omega) (by omega)]; omega), z_grd_t (by rw [n_in (by omega) (by omega)]; omega), n_cl (by omega), n_cl (by omega), n_1, nI_add]
    obtain ⟨M', i1, i2, i3⟩ := ih (r + 1) n (z_si M 29 0 (49 * kp + r) (z_gi M 25 0 r)) (by omega) (by omega) (by rw [m_off _ _ _ _ _ (by omega), h3])
    refine ⟨M', i1, (m_of.si (S := fun a _ => a = 29) m_of.rf rfl).tr i2, fun c => ?_⟩
    rw [i3 c]
    by_cases hc : c = 49 * kp + r
    · subst hc
      rw [if_neg (by omega), m_same, if_pos (by omega), Nat.add_sub_cancel_left]
    · by_cases hc2 : 49 * kp + (r + 1) ≤ c ∧ c < 49 * kp + 49
      · rw [if_pos hc2, m_off _ _ _ _ _ (by omega), if_pos (by omega)]
      · rw [if_neg hc2, m_off _ _ _ _ _ (by omega), if_neg (by omega)]
theorem M_note {M : z_M} {kp : Nat} {h : Nat → Nat → Nat} {f : Nat → Nat} (h6 : M6 M kp h) (ht : p_T M 25 0 f) : ∃ M', F_X7_note M = some M' ∧ (∀ a b c, a ≠ 29 → (a = 21 → c ≠ 17) → z_gi M' a b c = z_gi M a b c) ∧ M6 M' (min 24 (kp + 1)) (z_push f h) := by
  obtain ⟨h1, h2, h3⟩ := h6
  unfold F_X7_note
  rw [h2]
  by_cases hk : kp = 24
  · subst hk
    obtain ⟨M1, i1, i2, i3⟩ := M_shift 1127 0 z_fuel M (by omega) (by unfold z_fuel; omega)
    have q : z_gi M1 21 0 17 = nI 24 := by rw [i2 21 0 (by omega), h2]
    rw [q, n_1, n_sub (by omega)] at i1
    obtain ⟨M2, j1, j2, j3⟩ := M_noteL (kp := 23) (by omega) 49 0 z_fuel (z_si M1 21 0 17 (nI (24 - 1))) (by omega) (by unfold z_fuel; omega) (m_same _ _ _ _ _)
    rw [if_pos (show nI 24 = 24 from rfl)]
    refine ⟨z_si M2 21 0 17 (nI (23 + 1)), (show F_X7_note_b11 z_fuel 0 M = _ from i1).trans j1, fun a b c k1 k2 => ?_, by omega, by rw [m_same]; rfl, fun j hj => ?_⟩
    · rw [m_off _ _ _ _ _ (by omega), j2 a b k1, m_off _ _ _ _ _ (by omega), i2 a b k1]
    · cases j with
      | zero =>
        intro c hc
        show z_gi _ 29 0 _ = nI (f c)
        rw [m_off _ _ _ _ _ (by omega), j3, if_pos (by omega), m_off _ _ _ _ _ (by omega), i2 25 0 (by omega), ← ht c hc]
        exact congrArg (z_gi M _ 0) (by omega)
      | succ j =>
        intro c hc
        show z_gi _ 29 0 _ = nI (h j c)
        rw [m_off _ _ _ _ _ (by omega), j3, if_neg (by omega), m_off _ _ _ _ _ (by omega), i3, if_pos (by omega), ← h3 j (by omega) c hc]
        exact congrArg (z_gi M _ 0) (by omega)
  · obtain ⟨M2, j1, j2, j3⟩ := M_noteL (kp := kp) (by omega) 49 0 z_fuel M (by omega) (by unfold z_fuel; omega) h2
    rw [if_neg (by rw [n_24, n_eq (by omega) (by omega)]; exact hk)]
    refine ⟨z_si M2 21 0 17 (nI (kp + 1)), j1, fun a b c k1 k2 => ?_, by omega, by rw [m_same, show min 24 (kp + 1) = kp + 1 by omega], fun j hj => ?_⟩
    · rw [m_off _ _ _ _ _ (by omega), j2 a b k1]
    · cases j with
      | zero =>
        intro c hc
        show z_gi _ 29 0 _ = nI (f c)
        rw [m_off _ _ _ _ _ (by omega), j3, if_pos (by omega), ← ht c hc]
        exact congrArg (z_gi M _ 0) (by omega)
      | succ j =>
        intro c hc
        show z_gi _ 29 0 _ = nI (h j c)
        rw [m_off _ _ _ _ _ (by omega), j3, if_neg (by omega), ← h3 j (by omega) c hc]
        exact congrArg (z_gi M _ 0) (by omega)
theorem M_undoL {kp : Nat} (hk : kp < 24) : ∀ d r n (M : z_M), r + d = 49 → d < n → z_gi M 21 0 17 = nI kp → ∃ M', F_X7_undo_b22 n (nI r) M = some (nI kp, M') ∧ m_of (fun a _ => a = 25) M M' ∧ ∀ c, z_gi M' 25 0 c = if r ≤ c ∧ c < 49 then z_gi M 29 0 (49 * kp + c) else z_gi M 25 0 c := by
  intro d
  induction d with
  | zero =>
    intro r n M h1 h2 h3
    obtain ⟨n, rfl⟩ : ∃ k', n = k' + 1 := ⟨n - 1, by omega⟩
    exact ⟨M, by rw [F_X7_undo_b22, if_pos (by rw [n_49, n_le (by omega) (by omega)]; omega), h3], m_of.rf, fun c => by rw [if_neg (by omega)]⟩
  | succ d ih =>
    intro r n M h1 h2 h3
    obtain ⟨n, rfl⟩ : ∃ k', n = k' + 1 := ⟨n - 1, by omega⟩
    rw [F_X7_undo_b22, if_neg (by rw [n_49, n_le (by omega) (by omega)]; omega), h3, n_49, pk_mul, nI_add, z_grd_t (by rw [n_in (by omega) (by omega)]; omega), z_grd_t (by rw [n_in (by omega) (by omega)]; omega), n_cl (by omega), n_cl (by omega), n_1, nI_add]
    obtain ⟨M', i1, i2, i3⟩ := ih (r + 1) n (z_si M 25 0 r (z_gi M 29 0 (49 * kp + r))) (by omega) (by omega) (by rw [m_off _ _ _ _ _ (by omega), h3])
    refine ⟨M', i1, (m_of.si (S := fun a _ => a = 25) m_of.rf rfl).tr i2, fun c => ?_⟩
    rw [i3 c]
    by_cases hc : c = r
    · subst hc
      rw [if_neg (by omega), m_same, if_pos (by omega)]
    · by_cases hc2 : r + 1 ≤ c ∧ c < 49
      · rw [if_pos hc2, m_off _ _ _ _ _ (by omega), if_pos (by omega)]
      · rw [if_neg hc2, m_off _ _ _ _ _ (by omega), if_neg (by omega)]
theorem M_undo {M : z_M} {kp : Nat} {h : Nat → Nat → Nat} (h6 : M6 M (kp + 1) h) : ∃ M', F_X7_undo M = some (nI kp, M') ∧ (∀ a b c, a ≠ 25 → (a = 21 → c ≠ 17) → z_gi M' a b c = z_gi M a b c) ∧ M6 M' kp (fun j => h (j + 1)) ∧ p_T M' 25 0 (h 0) := by
  obtain ⟨h1, h2, h3⟩ := h6
  unfold F_X7_undo
  rw [h2, if_neg (by rw [n_0, n_eq (by omega) (by omega)]; omega), n_1, n_sub (by omega), Nat.add_sub_cancel]
  obtain ⟨M2, j1, j2, j3⟩ := M_undoL (kp := kp) (by omega) 49 0 z_fuel (z_si M 21 0 17 (nI kp)) (by omega) (by unfold z_fuel; omega) (m_same _ _ _ _ _)
  refine ⟨M2, j1, fun a b c k1 k2 => ?_, ⟨by omega, by rw [j2 21 0 (by omega), m_same], fun j hj c hc => ?_⟩, fun c hc => ?_⟩
  · rw [j2 a b k1, m_off _ _ _ _ _ (by omega)]
  · rw [j2 29 0 (by omega), m_off _ _ _ _ _ (by omega), ← h3 (j + 1) (by omega) c hc]
    congr 1; omega
  · rw [j3, if_pos (by omega), m_off _ _ _ _ _ (by omega), ← h3 0 (by omega) c hc]
    congr 1; omega
