/-! FELT, both -/
abbrev v_res (a : Int32) (q : Nat) : Int32 := if q < 256 then (if a = 1 then nI q else nI (s_bits q)) else -1000000
theorem q_fl_le {f : Nat → Nat} {door w : Nat} : ∀ d m s, m + d ≤ 256 → s ≤ 256 → q_fl f door w d m s ≤ 256
  | 0, _, s, _, h => h
  | d + 1, m, s, h1, h => by
    show q_fl f door w d (m + 1) (q_fs f door w m s) ≤ 256
    refine q_fl_le d (m + 1) _ (by omega) ?_
    unfold q_fs
    split <;> omega
theorem M_feltL {f : Nat → Nat} (hv : p_V f) {door w : Nat} (hw : w < f 1) (hd : door < f 0) (a : Int32) : ∀ d m n s (M : z_M), m + d = 2 ^ f 0 → d < n → s ≤ 256 → p_T M 25 0 f → p_T M 30 0 f → ∃ M', F_X7_felt_b37 n (nI w) (nI door) a (v_msk s) (nI m) M = some (v_res a (q_fl f door w d m s), M') ∧ m_of (fun a _ => a = 25) M M' ∧ p_T M' 25 0 f := by
  have hV := hv.1
  have h2 := two_le (n := f 0) (by omega)
  intro d
  induction d with
  | zero =>
    intro m n s M h1 h3 hs hc hc2
    obtain ⟨n, rfl⟩ : ∃ k', n = k' + 1 := ⟨n - 1, by omega⟩
    refine ⟨M, ?_, m_of.rf, hc⟩
    rw [F_X7_felt_b37, z_grd_t (by decide), show (0 : Int32).toNatClampNeg = 0 from rfl, M_st hc (by decide), n_shl _ (by omega), if_pos (by rw [n_le (by omega) (by omega)]; omega)]
    unfold F_X7_felt_b158
    show _ = some (v_res a s, M)
    by_cases h : s < 256
    · rw [show v_msk s = nI s from if_pos h, show v_res a s = _ from if_pos h, if_neg (by rw [n_0, n_lt (by omega) (by omega)]; omega), M_bits (by omega)]
      by_cases ha : a = 1
      · rw [if_pos ha, if_pos ha]
      · rw [if_neg ha, if_neg ha]; rfl
    · rw [show v_msk s = -1000000 from if_neg h, show v_res a s = -1000000 from if_neg h, if_pos (by decide)]
  | succ d ih =>
    intro m n s M h1 h3 hs hc hc2
    obtain ⟨n, rfl⟩ : ∃ k', n = k' + 1 := ⟨n - 1, by omega⟩
    have u : q_fl f door w (d + 1) m s = q_fl f door w d (m + 1) (q_fs f door w m s) := rfl
    have b1' := s_bits_le (x := m)
    have b2' := s_bits_le (x := s)
    have lay : (¬ s < 256 ∨ s_bits m < s_bits s) → ∃ M', F_X7_felt_b68 (F_X7_felt_b37 n) (nI w) (nI door) a (v_msk s) (nI m) M = some (v_res a (q_fl f door w (d + 1) m s), M') ∧ m_of (fun a _ => a = 25) M M' ∧ p_T M' 25 0 f := by
      intro h
      obtain ⟨M1, i1, i2, i3⟩ := M_layL hv hw hd (m := m) (by omega) a (v_msk s) (F_X7_felt_b37 n) (f 0) 0 z_fuel M (by omega) (by unfold z_fuel; omega) (by rw [z_fk_0]; exact hc) hc2
      have q1 : q_fs f door w m s ≤ 256 := by unfold q_fs; split <;> omega
      obtain ⟨M', j1, j2, j3⟩ := ih (m + 1) n (q_fs f door w m s) M1 (by omega) (by omega) q1 i3 (hc2.fr (fun c => i2 30 0 (by omega) c))
      refine ⟨M', ?_, i2.tr j2, j3⟩
      rw [u, ← j1]
      unfold F_X7_felt_b68
      refine (show F_X7_felt_b71 _ _ _ _ _ _ _ 0 M = _ from i1).trans ?_
      by_cases k : ¬ s_hr (z_fm f m) door w (s_lg f w) = true
      · rw [if_pos k, show q_fs f door w m s = m from if_pos ⟨h, k⟩, show v_msk m = nI m from if_pos (by omega)]
      · rw [if_neg k, show q_fs f door w m s = s from if_neg (fun x => k x.2)]
    rw [F_X7_felt_b37, z_grd_t (by decide), show (0 : Int32).toNatClampNeg = 0 from rfl, M_st hc (by decide), n_shl _ (by omega), if_neg (by rw [n_le (by omega) (by omega)]; omega)]
    by_cases h : s < 256
    · have ev : v_msk s = nI s := if_pos h
      rw [if_neg (show ¬ v_msk s < 0 by rw [ev, n_0, n_lt (by omega) (by omega)]; omega), M_bits (by omega), Option.bind_some, ev, M_bits (by omega), Option.bind_some, ← ev]
      by_cases k : s_bits m < s_bits s
      · rw [if_neg (by rw [n_le (by omega) (by omega)]; omega)]
        exact lay (Or.inr k)
      · rw [if_pos (by rw [n_le (by omega) (by omega)]; omega)]
        unfold F_X7_felt_b142
        rw [n_1, nI_add, u, show q_fs f door w m s = s from if_neg (fun x => x.1.elim (fun y => y h) k)]
        exact ih (m + 1) n s M (by omega) (by omega) hs hc hc2
    · rw [if_pos (show v_msk s < 0 by rw [show v_msk s = -1000000 from if_neg h]; decide)]
      exact lay (Or.inl h)
theorem eq_felt {M : z_M} (hR : z_Rel M) (a1 : Int32) (a2 : Int32) (a3 : Int32) : ∃ (r : Int32) (M1 : z_M) (M2 : z_M), F_X6_felt a1 a2 a3 M = some (r, M1) ∧ F_X7_felt a1 a2 a3 M1 = some (r, M2) ∧ z_Rel M2 := by
  obtain ⟨f, hc, ht, h8, h5, hVN⟩ := hR.2.2.2.2.1.of
  have no : F_X6_felt a1 a2 a3 M = some (-1000001, M) → F_X7_felt a1 a2 a3 M = some (-1000001, M) → ∃ (r : Int32) (M1 : z_M) (M2 : z_M), F_X6_felt a1 a2 a3 M = some (r, M1) ∧ F_X7_felt a1 a2 a3 M1 = some (r, M2) ∧ z_Rel M2 := fun x y => ⟨_, _, _, x, y, hR⟩
  unfold F_X6_felt F_X7_felt at *
  simp only [C_hasTread hc.1.1 (show f 0 < 2 ^ 31 by omega), C_hasWalker hc.1.2.1 (show f 1 < 2 ^ 31 by omega), C_isFirst, M_isWhat, Option.bind_some, b1_if] at no ⊢
  have q1 : ∀ (N : z_M), p_T N 25 0 f → F_X7_isWalker a1 N = some (b1 (bl (f 1) a1)) := fun N h => M_isWalker (M_st h (by decide)) (by omega)
  have q2 : ∀ (N : z_M), p_T N 25 0 f → F_X7_isTread a2 N = some (b1 (bl (f 0) a2)) := fun N h => M_isTread (M_st h (by decide)) (by omega)
  by_cases h1 : bl (f 1) a1
  · by_cases h2 : bl (f 0) a2
    · by_cases h3 : bw 0 1 a3
      · obtain ⟨w, hw, rfl⟩ := bl_of h1 (by omega)
        obtain ⟨door, hd, rfl⟩ := bl_of h2 (by omega)
        rcases hVN with ⟨hv, h9, hs⟩ | hN
        · have h28 := two_le (n := f 0) (by omega)
          obtain ⟨M1, e1, e2, e3, -⟩ := C_now hc h8 h5
          have ht1 := ht.free e2
          obtain ⟨M3, j1, j2, j3⟩ := M_putAside ht1
          obtain ⟨M4, l1, l2, l3⟩ := M_feltL hv hw hd a3 (2 ^ f 0) 0 z_fuel 256 M3 (by omega) (by unfold z_fuel; omega) (by omega) (ht1.fr (fun c => j2 25 0 (by omega) c)) j3
          have l1' : F_X7_felt_b37 z_fuel (nI w) (nI door) a3 (-1000000) 0 M3 = _ := l1
          have fin : z_Rel M4 := (hR.free e2).back (hc.fr (fun a _ _ c => e2 a 24 (by unfold p_fr; omega) c)) ⟨hv, h9, by rw [e2.stat, hs]⟩ l3 (fun a b c x y => by rw [l2 a b x, j2 a b (fun e => y (by unfold p_fr; omega))])
          have ql := q_fl_le (f := f) (door := door) (w := w) (2 ^ f 0) 0 256 (by omega) (by omega)
          refine ⟨v_res a3 (q_fl f door w (2 ^ f 0) 0 256), M1, M4, ?_, ?_, fin⟩
          · rw [if_pos h1, if_pos h2, if_pos h3, e1, Option.bind_some, C_felts e3 hv hw hd]
            unfold F_X3_sizeOf
            generalize q_fl f door w (2 ^ f 0) 0 256 = q at *
            rcases bw01 h3 with rfl | rfl
            · rw [if_pos rfl]
              by_cases h : q < 256
              · rw [show v_msk q = nI q from if_pos h, if_neg (by rw [n_bad (by omega)]; exact id), C_bits (by omega), show v_res 0 q = _ from if_pos h, if_neg (by decide)]; rfl
              · rw [show v_msk q = -1000000 from if_neg h, if_pos rfl, show v_res 0 q = _ from if_neg h]; rfl
            · rw [if_neg (by decide)]
              by_cases h : q < 256
              · rw [show v_msk q = nI q from if_pos h, show v_res 1 q = _ from if_pos h, if_pos rfl]; rfl
              · rw [show v_msk q = -1000000 from if_neg h, show v_res 1 q = _ from if_neg h]; rfl
          · rw [q1 _ ht1, Option.bind_some, b1_if, if_pos h1, q2 _ ht1, Option.bind_some, b1_if, if_pos h2, if_pos h3, j1, Option.bind_some, l1']
        · omega
      · exact no (by rw [if_pos h1, if_pos h2, if_neg h3]) (by rw [q1 _ ht, Option.bind_some, b1_if, if_pos h1, q2 _ ht, Option.bind_some, b1_if, if_pos h2, if_neg h3])
    · exact no (by rw [if_pos h1, if_neg h2]) (by rw [q1 _ ht, Option.bind_some, b1_if, if_pos h1, q2 _ ht, Option.bind_some, b1_if, if_neg h2])
  · exact no (by rw [if_neg h1]) (by rw [q1 _ ht, Option.bind_some, b1_if, if_neg h1])
