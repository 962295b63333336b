/-! DOORS, both -/
def q_ds (f : Nat → Nat) (m s : Nat) : Nat := if (¬ s < 256 ∨ s_bits m < s_bits s) ∧ s_aa f m (f 1) = true then m else s
def q_dl (f : Nat → Nat) : Nat → Nat → Nat → Nat
  | 0, _, s => s
  | d + 1, m, s => q_dl f d (m + 1) (q_ds f m s)
theorem C_size {M : z_M} {q : Nat} (hq : q ≤ 256) : F_X3_sizeOf (v_msk q) M = some (v_res 0 q) := by
  unfold F_X3_sizeOf
  by_cases h : q < 256
  · rw [show v_msk q = nI q from if_pos h, if_neg (by rw [n_bad (by omega)]; exact id), C_bits (by omega), show v_res 0 q = _ from if_pos h, if_neg (by decide)]; rfl
  · rw [show v_msk q = -1000000 from if_neg h, if_pos rfl, show v_res 0 q = _ from if_neg h]
theorem v_res1 {q : Nat} : v_res 1 q = v_msk q := by
  by_cases h : q < 256
  · rw [show v_res 1 q = _ from if_pos h, show v_msk q = _ from if_pos h, if_pos rfl]
  · rw [show v_res 1 q = _ from if_neg h, show v_msk q = _ from if_neg h]
theorem C_doorsL {M : z_M} {f : Nat → Nat} (hv : p_V f) (hd : p_dr M f (f 1)) (a : Int32) (ha : a = 0 ∨ a = 1) : ∀ d m n s, m + d = 2 ^ f 0 → d < n → s ≤ 256 → F_X3_fewestDoors_b53 n a (nI (f 1)) (v_msk s) (nI (2 ^ f 0)) (nI m) M = some (v_res a (q_dl f d m s), M) := by
  have hV := hv.1
  have h2 := two_le (n := f 0) (by omega)
  intro d
  induction d with
  | zero =>
    intro m n s h1 h3 hs
    obtain ⟨n, rfl⟩ : ∃ k', n = k' + 1 := ⟨n - 1, by omega⟩
    rw [F_X3_fewestDoors_b53, if_pos (by rw [n_le (by omega) (by omega)]; omega)]
    show _ = some (v_res a s, M)
    rcases ha with rfl | rfl
    · rw [if_pos rfl, C_size hs]; rfl
    · rw [if_neg (by decide), v_res1]
  | succ d ih =>
    intro m n s h1 h3 hs
    obtain ⟨n, rfl⟩ : ∃ k', n = k' + 1 := ⟨n - 1, by omega⟩
    rw [F_X3_fewestDoors_b53, if_neg (by rw [n_le (by omega) (by omega)]; omega), C_smaller (by omega), Option.bind_some, b1_if]
    unfold F_X3_fewestDoors_b82
    rw [n_1, nI_add]
    have u : q_dl f (d + 1) m s = q_dl f d (m + 1) (q_ds f m s) := rfl
    rw [u]
    by_cases h : ¬ s < 256 ∨ s_bits m < s_bits s
    · rw [if_pos h, C_hearAll hv hd (by omega), Option.bind_some, b1_if]
      by_cases k : s_aa f m (f 1) = true
      · rw [if_pos k, show q_ds f m s = m from if_pos ⟨h, k⟩]
        have := ih (m + 1) n m (by omega) (by omega) (by omega)
        rw [show v_msk m = nI m from if_pos (by omega)] at this
        exact this
      · rw [if_neg k, show q_ds f m s = s from if_neg (fun x => k x.2)]
        exact ih (m + 1) n s (by omega) (by omega) hs
    · rw [if_neg h, show q_ds f m s = s from if_neg (fun x => h x.1)]
      exact ih (m + 1) n s (by omega) (by omega) hs
theorem C_doorsF {f : Nat → Nat} (hv : p_V f) (a : Int32) (ha : a = 0 ∨ a = 1) : ∀ d w n (M : z_M), w + d = f 1 → d < n → p_C M 27 f → p_dr M f w → ∃ M', F_X3_fewestDoors_b14 n a (nI (f 1)) (nI w) M = some (v_res a (q_dl f (2 ^ f 0) 0 256), M') ∧ m_of (fun a _ => a = 17) M M' := by
  have hV := hv.1
  have h2 := two_le (n := f 0) (by omega)
  intro d
  induction d with
  | zero =>
    intro w n M h1 h3 hc hd
    obtain ⟨n, rfl⟩ : ∃ k', n = k' + 1 := ⟨n - 1, by omega⟩
    refine ⟨M, ?_, m_of.rf⟩
    unfold F_X3_fewestDoors_b14 F_X5_treadCount
    rw [if_pos (by rw [n_le (by omega) (by omega)]; omega), Option.bind_some, hc.1.1, n_shl _ (by omega), z_nmI_e]
    have e : w = f 1 := by omega
    subst e
    exact C_doorsL hv hd a ha (2 ^ f 0) 0 z_fuel 256 (by omega) (by unfold z_fuel; omega) (by omega)
  | succ d ih =>
    intro w n M h1 h3 hc hd
    obtain ⟨n, rfl⟩ : ∃ k', n = k' + 1 := ⟨n - 1, by omega⟩
    obtain ⟨M', i1, i2⟩ := ih (w + 1) n (z_si M 17 0 w (nI (s_ds f w (f 0)))) (by omega) (by omega) (hc.fr (fun a k1 k2 c => m_off _ _ _ _ _ (by omega))) (fun x hx => by
      by_cases e : x = w
      · rw [e, m_same]
      · rw [m_off _ _ _ _ _ (by omega)]; exact hd x (by omega))
    refine ⟨M', ?_, (m_of.si (S := fun a _ => a = 17) m_of.rf rfl).tr i2⟩
    rw [F_X3_fewestDoors_b14, if_neg (by rw [n_le (by omega) (by omega)]; omega), C_doorsHearing hc hv (by omega), Option.bind_some, z_grd_t (by rw [n_in (by omega) (by omega)]; omega), n_cl (by omega), n_1, nI_add]
    exact i1
theorem M_doorsL {M : z_M} {f : Nat → Nat} (ht : p_T M 25 0 f) (hv : p_V f) (a : Int32) : ∀ d m n s, m + d = 2 ^ f 0 → d < n → s ≤ 256 → F_X7_doors_b25 M n a (v_msk s) (nI m) = some (v_res a (q_dl f d m s)) := by
  have hV := hv.1
  have h2 := two_le (n := f 0) (by omega)
  intro d
  induction d with
  | zero =>
    intro m n s h1 h3 hs
    obtain ⟨n, rfl⟩ : ∃ k', n = k' + 1 := ⟨n - 1, by omega⟩
    rw [F_X7_doors_b25, z_grd_t (by decide), show (0 : Int32).toNatClampNeg = 0 from rfl, M_st ht (by decide), n_shl _ (by omega), if_pos (by rw [n_le (by omega) (by omega)]; omega)]
    unfold F_X7_doors_b81
    show _ = some (v_res a s)
    by_cases h : s < 256
    · rw [show v_msk s = nI s from if_pos h, show v_res a s = _ from if_pos h, if_neg (by rw [n_0, n_lt (by omega) (by omega)]; omega), M_bits (by omega)]
      by_cases ha : a = 1
      · rw [if_pos ha, if_pos ha]
      · rw [if_neg ha, if_neg ha]; rfl
    · rw [show v_msk s = -1000000 from if_neg h, show v_res a s = -1000000 from if_neg h, if_pos (by decide)]
  | succ d ih =>
    intro m n s h1 h3 hs
    obtain ⟨n, rfl⟩ : ∃ k', n = k' + 1 := ⟨n - 1, by omega⟩
    have u : q_dl f (d + 1) m s = q_dl f d (m + 1) (q_ds f m s) := rfl
    have b1' := s_bits_le (x := m)
    have b2' := s_bits_le (x := s)
    have lay : (¬ s < 256 ∨ s_bits m < s_bits s) → F_X7_doors_b52 M (F_X7_doors_b25 M n) a (v_msk s) (nI m) = some (v_res a (q_dl f (d + 1) m s)) := by
      intro h
      unfold F_X7_doors_b52 F_X7_doors_b64 F_X7_doors_b65
      rw [M_areHeard ht hv (by omega), Option.bind_some, b1_if, n_1, nI_add, u]
      by_cases k : s_aa f m (f 1) = true
      · rw [if_pos k, show q_ds f m s = m from if_pos ⟨h, k⟩]
        have := ih (m + 1) n m (by omega) (by omega) (by omega)
        rw [show v_msk m = nI m from if_pos (by omega)] at this
        exact this
      · rw [if_neg k, show q_ds f m s = s from if_neg (fun x => k x.2)]
        exact ih (m + 1) n s (by omega) (by omega) hs
    rw [F_X7_doors_b25, z_grd_t (by decide), show (0 : Int32).toNatClampNeg = 0 from rfl, M_st ht (by decide), n_shl _ (by omega), if_neg (by rw [n_le (by omega) (by omega)]; omega)]
    by_cases h : s < 256
    · have ev : v_msk s = nI s := if_pos h
      rw [if_neg (show ¬ v_msk s < 0 by rw [ev, n_0, n_lt (by omega) (by omega)]; omega), M_bits (by omega), Option.bind_some, ev, M_bits (by omega), Option.bind_some, ← ev]
      by_cases k : s_bits m < s_bits s
      · rw [if_neg (by rw [n_le (by omega) (by omega)]; omega)]
        exact lay (Or.inr k)
      · rw [if_pos (by rw [n_le (by omega) (by omega)]; omega)]
        unfold F_X7_doors_b64 F_X7_doors_b65
        rw [n_1, nI_add, u, show q_ds f m s = s from if_neg (fun x => x.1.elim (fun y => y h) k)]
        exact ih (m + 1) n s (by omega) (by omega) hs
    · rw [if_pos (show v_msk s < 0 by rw [show v_msk s = -1000000 from if_neg h]; decide)]
      exact lay (Or.inl h)
theorem eq_doors {M : z_M} (hR : z_Rel M) (a1 : Int32) : ∃ (r : Int32) (M1 : z_M), F_X6_doors a1 M = some (r, M1) ∧ F_X7_doors a1 M1 = some r ∧ z_Rel M1 := by
  obtain ⟨f, hc, ht, h8, h5, hVN⟩ := hR.2.2.2.2.1.of
  unfold F_X6_doors F_X7_doors
  simp only [C_st hc h8, C_isFirst, M_isWhat, Option.bind_some, b1_if]
  rcases hVN with ⟨hv, h9, hs⟩ | ⟨h0, -, -, hs⟩
  · rw [if_pos (show 1 ≤ f 0 by have := hv.1; omega)]
    by_cases h1 : bw 0 1 a1
    · have h2 := two_le (n := f 0) (by omega)
      obtain ⟨M1, e1, e2, e3, -⟩ := C_now hc h8 h5
      obtain ⟨M2, i1, i2⟩ := C_doorsF hv a1 (bw01 h1) (f 1) 0 z_fuel M1 (by omega) (by unfold z_fuel; omega) e3 (fun w hw => by omega)
      have o2 : m_of p_fr M M2 := e2.tr (i2.mono (fun a b h => Or.inr (Or.inr (Or.inr (Or.inl h)))))
      have emin : z_min (nI (f 1)) 5 = nI (f 1) := by
        have : ∀ k, k < 6 → z_min (nI k) 5 = nI k := by decide +kernel
        exact this _ (by omega)
      refine ⟨v_res a1 (q_dl f (2 ^ f 0) 0 256), M2, ?_, ?_, hR.free o2⟩
      · rw [if_pos h1, e1, Option.bind_some]
        unfold F_X3_fewestDoors F_X5_walkerCount
        rw [Option.bind_some, e3.1.2.1, emin, z_nmI_e, show F_X3_fewestDoors_b14 z_fuel a1 (nI (f 1)) 0 M1 = _ from i1, Option.bind_some]
      · rw [o2.stat, hs, if_neg (by decide), if_pos h1]
        exact M_doorsL (ht.free o2) hv a1 (2 ^ f 0) 0 z_fuel 256 (by omega) (by unfold z_fuel; omega) (by omega)
    · exact ⟨-1000001, M, by rw [if_neg h1], by rw [hs, if_neg (by decide), if_neg h1], hR⟩
  · exact ⟨-1000002, M, by rw [if_neg (by omega)], by rw [hs, if_pos rfl], hR⟩
