/-! IMAGE: image, restore; what the reference puts aside; ahead -/
theorem M_imageL {k : Nat} (hk : k < 2) : ∀ d r n (M : z_M), r + d = 49 → d < n → ∃ M', F_X7_image_b25 n (nI k) (nI r) M = some (1, z_si M' 31 0 k 1) ∧ m_of (fun a _ => a = 32) M M' ∧ ∀ c, z_gi M' 32 0 c = if 49 * k + r ≤ c ∧ c < 49 * k + 49 then z_gi M 25 0 (c - 49 * k) else z_gi M 32 0 c := by
  intro d
  induction d with
  | zero =>
    intro r n M h1 h2
    obtain ⟨n, rfl⟩ : ∃ k', n = k' + 1 := ⟨n - 1, by omega⟩
    exact ⟨M, by rw [F_X7_image_b25, if_pos (by rw [n_49, n_le (by omega) (by omega)]; omega), z_grd_t (by rw [n_in (by omega) (by omega)]; omega), n_cl (by omega)], m_of.rf, fun c => by rw [if_neg (by omega)]⟩
  | succ d ih =>
    intro r n M h1 h2
    obtain ⟨n, rfl⟩ : ∃ k', n = k' + 1 := ⟨n - 1, by omega⟩
    rw [F_X7_image_b25, if_neg (by rw [n_49, n_le (by omega) (by omega)]; omega), n_49, pk_mul, nI_add, z_grd_t (by rw [n_in (by omega) (by omega)]; omega), z_grd_t (by rw [n_in (by omega) (by omega)]; omega), n_cl (by omega), n_cl (by omega), n_1, nI_add]
    obtain ⟨M', i1, i2, i3⟩ := ih (r + 1) n (z_si M 32 0 (49 * k + r) (z_gi M 25 0 r)) (by omega) (by omega)
    refine ⟨M', i1, (m_of.si (S := fun a _ => a = 32) m_of.rf rfl).tr i2, fun c => ?_⟩
    rw [i3 c]
    by_cases hc : c = 49 * k + r
    · subst hc
      rw [if_neg (by omega), m_same, if_pos (by omega), Nat.add_sub_cancel_left]
    · by_cases hc2 : 49 * k + (r + 1) ≤ c ∧ c < 49 * k + 49
      · rw [if_pos hc2, m_off _ _ _ _ _ (by omega), if_pos (by omega)]
      · rw [if_neg hc2, m_off _ _ _ _ _ (by omega), if_neg (by omega)]
theorem M_restoreL {k : Nat} (hk : k < 2) : ∀ d r n (M : z_M), r + d = 49 → d < n → ∃ M', F_X7_restore_b27 n (nI k) (nI r) M = some (1, z_si M' 21 0 17 0) ∧ m_of (fun a _ => a = 25) M M' ∧ ∀ c, z_gi M' 25 0 c = if r ≤ c ∧ c < 49 then z_gi M 32 0 (49 * k + c) else z_gi M 25 0 c := by
  intro d
  induction d with
  | zero =>
    intro r n M h1 h2
    obtain ⟨n, rfl⟩ : ∃ k', n = k' + 1 := ⟨n - 1, by omega⟩
    exact ⟨M, by rw [F_X7_restore_b27, if_pos (by rw [n_49, n_le (by omega) (by omega)]; omega)], m_of.rf, fun c => by rw [if_neg (by omega)]⟩
  | succ d ih =>
    intro r n M h1 h2
    obtain ⟨n, rfl⟩ : ∃ k', n = k' + 1 := ⟨n - 1, by omega⟩
    rw [F_X7_restore_b27, if_neg (by rw [n_49, n_le (by omega) (by omega)]; omega), n_49, pk_mul, nI_add, z_grd_t (by rw [n_in (by omega) (by omega)]; omega), z_grd_t (by rw [n_in (by omega) (by omega)]; omega), n_cl (by omega), n_cl (by omega), n_1, nI_add]
    obtain ⟨M', i1, i2, i3⟩ := ih (r + 1) n (z_si M 25 0 r (z_gi M 32 0 (49 * k + r))) (by omega) (by omega)
    refine ⟨M', i1, (m_of.si (S := fun a _ => a = 25) m_of.rf rfl).tr i2, fun c => ?_⟩
    rw [i3 c]
    by_cases hc : c = r
    · subst hc
      rw [if_neg (by omega), m_same, if_pos (by omega)]
    · by_cases hc2 : r + 1 ≤ c ∧ c < 49
      · rw [if_pos hc2, m_off _ _ _ _ _ (by omega), if_pos (by omega)]
      · rw [if_neg hc2, m_off _ _ _ _ _ (by omega), if_neg (by omega)]
theorem M_asideL : ∀ d r n (M : z_M), r + d = 49 → d < n → ∃ M', F_X7_putAside_b2 n (nI r) M = some M' ∧ m_of (fun a _ => a = 30) M M' ∧ ∀ c, z_gi M' 30 0 c = if r ≤ c ∧ c < 49 then z_gi M 25 0 c else z_gi M 30 0 c := by
  intro d
  induction d with
  | zero =>
    intro r n M h1 h2
    obtain ⟨n, rfl⟩ : ∃ k', n = k' + 1 := ⟨n - 1, by omega⟩
    exact ⟨M, by rw [F_X7_putAside_b2, if_pos (by rw [n_49, n_le (by omega) (by omega)]; omega)], m_of.rf, fun c => by rw [if_neg (by omega)]⟩
  | succ d ih =>
    intro r n M h1 h2
    obtain ⟨n, rfl⟩ : ∃ k', n = k' + 1 := ⟨n - 1, by omega⟩
    have hg : z_in (nI r) 49 := by rw [n_in (by omega) (by omega)]; omega
    rw [F_X7_putAside_b2, if_neg (by rw [n_49, n_le (by omega) (by omega)]; omega), z_grd_t hg, z_grd_t hg, n_cl (by omega), n_1, nI_add]
    obtain ⟨M', i1, i2, i3⟩ := ih (r + 1) n (z_si M 30 0 r (z_gi M 25 0 r)) (by omega) (by omega)
    refine ⟨M', i1, (m_of.si (S := fun a _ => a = 30) m_of.rf rfl).tr i2, fun c => ?_⟩
    rw [i3 c]
    by_cases hc : c = r
    · subst hc
      rw [if_neg (by omega), m_same, if_pos (by omega)]
    · by_cases hc2 : r + 1 ≤ c ∧ c < 49
      · rw [if_pos hc2, m_off _ _ _ _ _ (by omega), if_pos (by omega)]
      · rw [if_neg hc2, m_off _ _ _ _ _ (by omega), if_neg (by omega)]
theorem M_backL : ∀ d r n (M : z_M), r + d = 49 → d < n → ∃ M', F_X7_takeBack_b2 n (nI r) M = some M' ∧ m_of (fun a _ => a = 25) M M' ∧ ∀ c, z_gi M' 25 0 c = if r ≤ c ∧ c < 49 then z_gi M 30 0 c else z_gi M 25 0 c := by
  intro d
  induction d with
  | zero =>
    intro r n M h1 h2
    obtain ⟨n, rfl⟩ : ∃ k', n = k' + 1 := ⟨n - 1, by omega⟩
    exact ⟨M, by rw [F_X7_takeBack_b2, if_pos (by rw [n_49, n_le (by omega) (by omega)]; omega)], m_of.rf, fun c => by rw [if_neg (by omega)]⟩
  | succ d ih =>
    intro r n M h1 h2
    obtain ⟨n, rfl⟩ : ∃ k', n = k' + 1 := ⟨n - 1, by omega⟩
    have hg : z_in (nI r) 49 := by rw [n_in (by omega) (by omega)]; omega
    rw [F_X7_takeBack_b2, if_neg (by rw [n_49, n_le (by omega) (by omega)]; omega), z_grd_t hg, z_grd_t hg, n_cl (by omega), n_1, nI_add]
    obtain ⟨M', i1, i2, i3⟩ := ih (r + 1) n (z_si M 25 0 r (z_gi M 30 0 r)) (by omega) (by omega)
    refine ⟨M', i1, (m_of.si (S := fun a _ => a = 25) m_of.rf rfl).tr i2, fun c => ?_⟩
    rw [i3 c]
    by_cases hc : c = r
    · subst hc
      rw [if_neg (by omega), m_same, if_pos (by omega)]
    · by_cases hc2 : r + 1 ≤ c ∧ c < 49
      · rw [if_pos hc2, m_off _ _ _ _ _ (by omega), if_pos (by omega)]
      · rw [if_neg hc2, m_off _ _ _ _ _ (by omega), if_neg (by omega)]
theorem M_putAside {M : z_M} {f : Nat → Nat} (ht : p_T M 25 0 f) : ∃ M', F_X7_putAside M = some M' ∧ m_of (fun a _ => a = 30) M M' ∧ p_T M' 30 0 f := by
  obtain ⟨M', i1, i2, i3⟩ := M_asideL 49 0 z_fuel M (by omega) (by unfold z_fuel; omega)
  exact ⟨M', i1, i2, fun j hj => by rw [i3, if_pos (by omega)]; exact ht j hj⟩
theorem M_takeBack {M : z_M} {f : Nat → Nat} (ht : p_T M 30 0 f) : ∃ M', F_X7_takeBack M = some M' ∧ m_of (fun a _ => a = 25) M M' ∧ p_T M' 25 0 f := by
  obtain ⟨M', i1, i2, i3⟩ := M_backL 49 0 z_fuel M (by omega) (by unfold z_fuel; omega)
  exact ⟨M', i1, i2, fun j hj => by rw [i3, if_pos (by omega)]; exact ht j hj⟩
/-- the reference put its TOWN aside, changed it, and has it again -/
theorem z_Rel.back {M M2 : z_M} (hR : z_Rel M) {f : Nat → Nat} (hc : p_C M 24 f) (hv : p_V f ∧ f 4 ≤ 999 ∧ z_gi M 21 0 4 = 1) (ht : p_T M2 25 0 f) (e : ∀ a b c, a ≠ 25 → ¬ p_fr a b → z_gi M2 a b c = z_gi M a b c) : z_Rel M2 := by
  obtain ⟨r1, r2, r3, r4, r5, r6, r7, r8⟩ := hR
  have k : ∀ a b c, a ≠ 25 → (7 ≤ a → a ≤ 11 → b < 27) → (a < 15 ∨ 19 ≤ a) → a ≠ 26 ∧ a ≠ 28 ∧ a ≠ 30 → z_gi M2 a b c = z_gi M a b c := fun a b c x0 x y z => e a b c x0 (by unfold p_fr; omega)
  exact ⟨r1.fr (fun a b _ ha c => k _ _ _ (by omega) (by omega) (by omega) (by omega)), r2.fr (k _ _ _ (by omega) (by omega) (by omega) (by omega)) (k _ _ _ (by omega) (by omega) (by omega) (by omega)), r3.fr (k _ _ _ (by omega) (by omega) (by omega) (by omega)) (k _ _ _ (by omega) (by omega) (by omega) (by omega)) (fun a _ c => k _ _ _ (by omega) (by omega) (by omega) (by omega)), r4.fr (k _ _ _ (by omega) (by omega) (by omega) (by omega)) (k _ _ _ (by omega) (by omega) (by omega) (by omega)), ⟨f, hc.fr (fun a _ _ c => k _ _ _ (by omega) (by omega) (by omega) (by omega)), ht, Or.inl ⟨hv.1, hv.2.1, by rw [k _ _ _ (by omega) (by omega) (by omega) (by omega), hv.2.2]⟩⟩, r6.fr (fun a _ _ b _ c => k _ _ _ (by omega) (by omega) (by omega) (by omega)) (fun a _ c => k _ _ _ (by omega) (by omega) (by omega) (by omega)) (k _ _ _ (by omega) (by omega) (by omega) (by omega)) (k _ _ _ (by omega) (by omega) (by omega) (by omega)), r7.fr (fun a _ _ b _ c => k _ _ _ (by omega) (by omega) (by omega) (by omega)) (fun a _ c => k _ _ _ (by omega) (by omega) (by omega) (by omega)) (k _ _ _ (by omega) (by omega) (by omega) (by omega)), r8.fr (k _ _ _ (by omega) (by omega) (by omega) (by omega)) (k _ _ _ (by omega) (by omega) (by omega) (by omega)) (fun a _ c => k _ _ _ (by omega) (by omega) (by omega) (by omega))⟩
theorem eq_image {M : z_M} (hR : z_Rel M) (a1 : Int32) : ∃ (r : Int32) (M1 : z_M) (M2 : z_M), F_X6_image a1 M = some (r, M1) ∧ F_X7_image a1 M1 = some (r, M2) ∧ z_Rel M2 := by
  obtain ⟨f, hc, ht, h8, h5, hVN⟩ := hR.2.2.2.2.1.of
  unfold F_X6_image F_X7_image
  simp only [C_st hc h8, Option.bind_some, b1_if, C_within (lo := 0) (hi := 1) (L := 0) (U := 1), M_bw (lo := 0) (hi := 1) (L := 0) (U := 1)]
  by_cases h : bw 0 1 a1
  · obtain ⟨k, hk, rfl⟩ := bw_nb h (by decide)
    have hg : z_in (nI k) 2 := by rw [n_in (by omega) (by omega)]; omega
    rw [if_pos h, z_grd_t hg, n_cl (by omega), z_grd_t (by omega)]
    rcases hVN with ⟨hv, h9, hs⟩ | ⟨h0, -, -, hs⟩
    · rw [if_pos (show 1 ≤ f 0 by have := hv.1; omega)]
      obtain ⟨M1, e1, e2, e3⟩ := C_take (i := 25 + k) (by omega) hc h8 h5
      have hs1 : z_gi M1 21 0 4 = 1 := by rw [e2 21 0 (by omega), hs]
      obtain ⟨M2, i1, i2, i3⟩ := M_imageL (k := k) (by omega) 49 0 z_fuel M1 (by omega) (by unfold z_fuel; omega)
      refine ⟨1, M1, z_si M2 31 0 k 1, by rw [e1]; rfl, by rw [if_pos h, hs1, if_neg (by decide)]; exact i1, ?_⟩
      have q : ∀ a b c, ¬ (7 ≤ a ∧ a ≤ 11 ∧ b = 25 + k) → ¬ (a = 31 ∧ c = k) → ¬ a = 32 → z_gi (z_si M2 31 0 k 1) a b c = z_gi M a b c := fun a b c x y z => by rw [m_off _ _ _ _ _ (by omega), i2 a b z, e2 a b x]
      obtain ⟨r1, r2, r3, r4, r5, r6, r7, r8⟩ := hR
      refine ⟨r1.fr (fun a b _ ha c => q _ _ _ (by omega) (by omega) (by omega)), r2.fr (q _ _ _ (by omega) (by omega) (by omega)) (q _ _ _ (by omega) (by omega) (by omega)), r3.fr (q _ _ _ (by omega) (by omega) (by omega)) (q _ _ _ (by omega) (by omega) (by omega)) (fun a _ c => q _ _ _ (by omega) (by omega) (by omega)), r4.fr (q _ _ _ (by omega) (by omega) (by omega)) (q _ _ _ (by omega) (by omega) (by omega)), r5.fr (fun a _ _ c => q _ _ _ (by omega) (by omega) (by omega)) (fun c => q _ _ _ (by omega) (by omega) (by omega)) (q _ _ _ (by omega) (by omega) (by omega)), r6.fr (fun a _ _ b _ c => q _ _ _ (by omega) (by omega) (by omega)) (fun a _ c => q _ _ _ (by omega) (by omega) (by omega)) (q _ _ _ (by omega) (by omega) (by omega)) (q _ _ _ (by omega) (by omega) (by omega)), ?_, r8.fr (q _ _ _ (by omega) (by omega) (by omega)) (q _ _ _ (by omega) (by omega) (by omega)) (fun a _ c => q _ _ _ (by omega) (by omega) (by omega))⟩
      intro x hx
      by_cases ex : x = k
      · subst ex
        refine Or.inr ⟨m_same _ _ _ _ _, by rw [q _ _ _ (by omega) (by omega) (by omega), hs], f, hv, h9, e3.fr (fun a _ _ c => by rw [m_off _ _ _ _ _ (by omega), i2 a _ (by omega)]), fun j hj => ?_⟩
        rw [m_off _ _ _ _ _ (by omega), i3, if_pos (by omega), e2 25 0 (by omega), ← M_st ht hj]
        exact congrArg (z_gi M 25 0) (by omega)
      · rw [q 31 0 x (by omega) (by omega) (by omega), q 7 (25 + x) 4 (by omega) (by omega) (by omega), q 21 0 4 (by omega) (by omega) (by omega)]
        refine (r7 x hx).imp id (fun ⟨a, s, g, b, c, d, t⟩ => ⟨a, s, g, b, c, d.fr (fun a _ _ c => q _ _ _ (by omega) (by omega) (by omega)), fun j hj => ?_⟩)
        rw [m_off _ _ _ _ _ (by omega), i3, if_neg (by omega), e2 32 0 (by omega)]
        exact t j hj
    · exact ⟨-1000002, M, M, by rw [if_neg (by omega)], by rw [if_pos h, hs, if_pos rfl], hR⟩
  · exact ⟨-1000001, M, M, by rw [if_neg h], by rw [if_neg h], hR⟩
theorem eq_restore {M : z_M} (hR : z_Rel M) (a1 : Int32) : ∃ (r : Int32) (M1 : z_M) (M2 : z_M), F_X6_restore a1 M = some (r, M1) ∧ F_X7_restore a1 M1 = some (r, M2) ∧ z_Rel M2 := by
  unfold F_X6_restore F_X7_restore
  simp only [C_within (lo := 0) (hi := 1) (L := 0) (U := 1), M_bw (lo := 0) (hi := 1) (L := 0) (U := 1), Option.bind_some, b1_if]
  by_cases h : bw 0 1 a1
  · obtain ⟨k, hk, rfl⟩ := bw_nb h (by decide)
    have hg : z_in (nI k) 2 := by rw [n_in (by omega) (by omega)]; omega
    rw [if_pos h, z_grd_t hg]
    simp only [n_cl (show k < 2 ^ 31 by omega)]
    rw [z_grd_t (show 25 + k < 29 by omega)]
    rcases hR.2.2.2.2.2.2.1 k (by omega) with ⟨h31, h7⟩ | ⟨h31, hs, f, hv, h9, hc, ht⟩
    · exact ⟨-1000002, M, M, by rw [C_stands (n := 0) h7 (by omega), Option.bind_some, b1_if, if_neg (by omega)], by rw [if_pos h, z_grd_t hg, h31, if_pos rfl], hR⟩
    · have hV := hv.1
      obtain ⟨M1, e1, e2, e3⟩ := C_take (i := 24) (by omega) hc (by omega) (by omega)
      obtain ⟨nx, kp, hh, k1, k2, k3, k4⟩ := hR.2.2.2.2.2.1
      obtain ⟨M2, i1, i2, i3⟩ := M_restoreL (k := k) (by omega) 49 0 z_fuel (z_si M1 12 0 2 0) (by omega) (by unfold z_fuel; omega)
      have q : ∀ a b c, ¬ (7 ≤ a ∧ a ≤ 11 ∧ b = 24) → ¬ a = 25 → ¬ (a = 12 ∧ c = 2) → ¬ (a = 21 ∧ c = 17) → z_gi (z_si M2 21 0 17 0) a b c = z_gi M a b c := fun a b c x y z w => by rw [m_off _ _ _ _ _ (by omega), i2 a b y, m_off _ _ _ _ _ (by omega), e2 a b x]
      refine ⟨1, z_si M1 12 0 2 0, z_si M2 21 0 17 0, ?_, ?_, hR.act hv h9 (e3.fr (fun a _ _ c => by rw [m_off _ _ _ _ _ (by omega), i2 a _ (by omega), m_off _ _ _ _ _ (by omega)])) (fun j hj => ?_) (nx := nx) (kp := 0) (h := hh) ⟨k1.1, by omega, by rw [q _ _ _ (by omega) (by omega) (by omega) (by omega), k1.2.2.1], ?_, fun j hj => by omega⟩ ⟨by omega, m_same _ _ _ _ _, fun j hj => by omega⟩ (fun j hj => by omega) hs (fun a b c hn => ?_)⟩
      · rw [C_stands hc.1.1 (by omega), Option.bind_some, b1_if, if_pos (by omega), e1]; rfl
      · rw [if_pos h, z_grd_t hg, m_off _ _ _ _ _ (by omega), e2 31 0 (by omega), h31, if_neg (by decide)]
        exact i1
      · rw [m_off _ _ _ _ _ (by omega), i3, if_pos (by omega), m_off _ _ _ _ _ (by omega), e2 32 0 (by omega), ← ht j hj]
        exact congrArg (z_gi M 32 0) (by omega)
      · rw [m_off _ _ _ _ _ (by omega), i2 12 0 (by omega), m_same]; rfl
      · unfold p_ac at hn
        exact q a b c (by omega) (by omega) (by omega) (by omega)
  · exact ⟨-1000001, M, M, by rw [if_neg h], by rw [if_neg h], hR⟩
