/-! WHAT, WHO -/
theorem C_finding0 {r m : Nat} {i c : Int32} {M : z_M} (h : r < 8) (hm : m ≤ 40) (hs : z_gi M 4 0 r = nI m) (hf : p_fit i c m) : F_X4_findingOf (nI r) i c M = some 0 := by
  haveI := Classical.propDecidable (p_fit i c m)
  rw [C_finding h hm hs, if_pos hf]
theorem C_finding2 {r m : Nat} {i c : Int32} {M : z_M} (h : r < 8) (hm : m ≤ 40) (hs : z_gi M 4 0 r = nI m) (hf : ¬ p_fit i c m) : F_X4_findingOf (nI r) i c M = some 2 := by
  haveI := Classical.propDecidable (p_fit i c m)
  rw [C_finding h hm hs, if_neg hf]
theorem M_lacksN {r : Nat} {x y : Int32} {N : z_M} (hr : r < 8) (h : z_gi N 23 0 r = -1) : F_X7_lacks (nI r) x y N = some ((-1000010) - 1, z_si N 21 0 3 1) := by
  unfold F_X7_lacks
  rw [z_grd_t (by rw [n_in (by omega) (by omega)]; exact hr)]
  simp only [n_cl (show r < 2 ^ 31 by omega), h]
  rw [if_neg (by decide)]
  rfl
theorem M_lacksR {r mm n : Nat} {x : Int32} {N : z_M} (hr : r < 8) (hm : mm ≤ 40) (hn : n ≤ 12) (h : z_gi N 23 0 r = nI mm) : (p_fit x (nI n) mm → F_X7_lacks (nI r) x (nI n) N = some (0, N)) ∧ (¬ p_fit x (nI n) mm → F_X7_lacks (nI r) x (nI n) N = some ((-1000010) - 2, z_si N 21 0 3 2)) := by
  have e : F_X7_lacks (nI r) x (nI n) N = if 0 ≤ x ∧ x ≤ nI mm - nI n then some (0, N) else some ((-1000010) - 2, z_si N 21 0 3 2) := by
    unfold F_X7_lacks
    rw [z_grd_t (by rw [n_in (by omega) (by omega)]; exact hr)]
    simp only [n_cl (show r < 2 ^ 31 by omega), h]
    rw [if_pos (by rw [n_0, n_le (by omega) (by omega)]; omega), z_grd_t (by rw [n_in (by omega) (by omega)]; exact hr)]
    rw [show F_X7_in x.toInt64 0 ((nI mm - nI n).toInt64) N = some _ from M_in32 x 0 (nI mm - nI n) N, Option.bind_some]
    by_cases k : 0 ≤ x ∧ x ≤ nI mm - nI n
    · rw [if_pos k, if_neg (by decide), if_pos k]
    · rw [if_neg k, if_pos rfl, if_neg k]; rfl
  have q : (0 ≤ x ∧ x ≤ nI mm - nI n) ↔ p_fit x (nI n) mm := by
    unfold p_fit
    rw [Int32.le_iff_toInt_le, Int32.le_iff_toInt_le, t_0, pk_sub_toInt (a := mm) (b := n) (by omega) (by omega), nI_toInt (by omega)]
    omega
  rw [e]
  exact ⟨fun k => if_pos (q.mpr k), fun k => if_neg (fun z => k (q.mp z))⟩
theorem C_rowL {r i n mm : Nat} (hr : r < 8) (hm : mm ≤ 40) (hin : i + n ≤ mm) (hn : n ≤ 12) : ∀ d k fu (N : z_M), k + d = n → d < fu → z_gi N 15 0 4 = nI k → z_gi N 4 0 r = nI mm → ∃ N', F_X6_seerOfRow_b14 fu (nI r) (nI i) (nI n) (nI k) N = some N' ∧ m_of (fun a _ => a = 15 ∨ a = 16) N N' ∧ z_gi N' 15 0 4 = nI n ∧ ∀ j, z_gi N' 16 0 j = if k ≤ j ∧ j < n then z_gi N 2 0 (40 * r + (i + j)) else z_gi N 16 0 j := by
  intro d
  induction d with
  | zero =>
    intro k fu N h1 h2 h3 h4
    obtain ⟨fu, rfl⟩ : ∃ k', fu = k' + 1 := ⟨fu - 1, by omega⟩
    refine ⟨N, ?_, m_of.rf, ?_, fun j => by rw [if_neg (by omega)]⟩
    · rw [F_X6_seerOfRow_b14, if_pos (by rw [n_le (by omega) (by omega)]; omega)]
    · rw [h3, show k = n by omega]
  | succ d ih =>
    intro k fu N h1 h2 h3 h4
    obtain ⟨fu, rfl⟩ : ∃ k', fu = k' + 1 := ⟨fu - 1, by omega⟩
    obtain ⟨N', j1, j2, j3, j4⟩ := ih (k + 1) fu (z_si (z_si N 16 0 k (z_gi N 2 0 (40 * r + (i + k)))) 15 0 4 (nI (k + 1))) (by omega) (by omega) (m_same _ _ _ _ _) (by rw [m_off _ _ _ _ _ (by omega), m_off _ _ _ _ _ (by omega), h4])
    refine ⟨N', ?_, (m_of.si (S := fun a _ => a = 15 ∨ a = 16) (m_of.si (S := fun a _ => a = 15 ∨ a = 16) m_of.rf (Or.inr rfl)) (Or.inl rfl)).tr j2, j3, fun j => ?_⟩
    · rw [F_X6_seerOfRow_b14, if_neg (by rw [n_le (by omega) (by omega)]; omega), nI_add]
      unfold F_X4_itemAt F_X3_hearFrom
      rw [show F_X4_findingOf (nI r) (nI (i + k)) 1 N = some 0 from C_finding0 (c := nI 1) hr hm h4 (p_fit.to (by omega) hm), Option.bind_some, if_pos rfl, n_40, pk_mul, nI_add, z_grd_t (by rw [n_in (by omega) (by omega)]; omega), Option.bind_some]
      simp only [h3, n_cl (show k < 2 ^ 31 by omega), n_cl (show r * 40 + (i + k) < 2 ^ 31 by omega)]
      rw [if_neg (by rw [n_0, n_lt (by omega) (by omega)]; omega), if_neg (by rw [n_12, n_le (by omega) (by omega)]; omega), z_grd_t (by rw [n_in (by omega) (by omega)]; omega), z_nmM_e, m_off _ _ _ _ _ (by omega), h3, n_1, nI_add, Option.bind_some, Nat.mul_comm r 40]
      exact j1
    · rw [j4 j]
      by_cases hj : k + 1 ≤ j ∧ j < n
      · rw [if_pos hj, if_pos (by omega), m_off _ _ _ _ _ (by omega), m_off _ _ _ _ _ (by omega)]
      · rw [if_neg hj, m_off _ _ _ _ _ (by omega)]
        by_cases e : j = k
        · subst e
          rw [m_same, if_pos (by omega)]
        · rw [m_off _ _ _ _ _ (by omega), if_neg (by omega)]
theorem C_seerOfRow {M : z_M} {f : Nat → Nat} (hc : p_C M 24 f) (h8 : f 0 ≤ 8) (h5 : f 1 ≤ 5) {r i n mm : Nat} (hr : r < 8) (hm : mm ≤ 40) (hs : z_gi M 4 0 r = nI mm) (hin : i + n ≤ mm) (hn : n ≤ 12) : ∃ M1, F_X6_seerOfRow (nI r) (nI i) (nI n) M = some M1 ∧ m_of p_fr M M1 ∧ p_C M1 27 f ∧ p_it M1 (fun k => z_gi M 2 0 (40 * r + (i + k))) n := by
  obtain ⟨M0, e1, e2, e3⟩ := C_take (i := 27) (by decide) hc h8 h5
  obtain ⟨M1, j1, j2, j3, j4⟩ := C_rowL hr hm hin hn n 0 z_fuel (z_si M0 15 0 4 0) (by omega) (by unfold z_fuel; omega) (m_same _ _ _ _ _) (by rw [m_off _ _ _ _ _ (by omega), e2 4 0 (by omega), hs])
  refine ⟨M1, ?_, ?_, ?_, j3, fun k hk => ?_⟩
  · unfold F_X6_seerOfRow F_X3_lookAt
    rw [e1, Option.bind_some, Option.bind_some]
    exact j1
  · exact ((e2.mono (fun a b h => Or.inl (by omega))).si (S := p_fr) (Or.inr (Or.inl rfl))).tr (j2.mono (fun a b h => by unfold p_fr; omega))
  · exact (e3.fr (M' := z_si M0 15 0 4 0) (fun a h1 h2 c => m_off _ _ _ _ _ (by omega))).fr (fun a h1 h2 c => j2 a 27 (by omega) c)
  · rw [j4 k, if_pos (by omega), m_off _ _ _ _ _ (by omega), e2 2 0 (by omega)]
theorem C_isTelling {M : z_M} {f : Nat → Nat} (hc : p_C M 24 f) (h8 : f 0 ≤ 8) {a b c d : Int32} : F_X6_isTelling a b c d M = some (b1 (bl (f 0) a ∧ bw 0 29 b ∧ bw 0 7 c ∧ bw 1 12 d)) := by
  unfold F_X6_isTelling
  rw [C_hasTread hc.1.1 (by omega), Option.bind_some, b1_if, C_isMinute, Option.bind_some, b1_if, C_isRow, Option.bind_some, b1_if, C_within (lo := 1) (hi := 12), Option.bind_some, b1_if]
  unfold b1
  by_cases g1 : bl (f 0) a
  · rw [if_pos g1]
    by_cases g2 : bw 0 29 b
    · rw [if_pos g2]
      by_cases g3 : bw 0 7 c
      · rw [if_pos g3]
        by_cases g4 : bw 1 12 d
        · rw [if_pos g4, if_pos ⟨g1, g2, g3, g4⟩]
        · rw [if_neg g4, if_neg (fun h => g4 h.2.2.2)]
      · rw [if_neg g3, if_neg (fun h => g3 h.2.2.1)]
    · rw [if_neg g2, if_neg (fun h => g2 h.2.1)]
  · rw [if_neg g1, if_neg (fun h => g1 h.1)]
/-- what holds after what(), who() -/
theorem z_Rel.told {M M2 M4 : z_M} (hR : z_Rel M) {f : Nat → Nat} (hc : p_C M 24 f) (hv : p_V f ∧ f 4 ≤ 999 ∧ z_gi M 21 0 4 = 1) (o2 : m_of p_fr (z_si M 0 0 7 0) M2) (l2 : m_of (fun a _ => a = 25) M2 M4) (ht : p_T M4 25 0 f) : z_Rel (z_si M4 21 0 3 0) := by
  refine (hR.find 0).back (f := f) (hc.fr (fun a _ _ c => by rw [m_off _ _ _ _ _ (by omega), m_off _ _ _ _ _ (by omega)])) ⟨hv.1, hv.2.1, by rw [m_off _ _ _ _ _ (by omega), m_off _ _ _ _ _ (by omega), hv.2.2]⟩ (ht.fr (fun c => m_off _ _ _ _ _ (by omega))) (fun a b c x y => ?_)
  rw [m_gs, m_gs]
  by_cases e : a = 21 ∧ b = 0 ∧ c = 3
  · rw [if_pos e, if_pos e]
  · rw [if_neg e, if_neg e, l2 a b x, o2 a b y]
theorem eq_what {M : z_M} (hR : z_Rel M) (a1 : Int32) (a2 : Int32) (a3 : Int32) (a4 : Int32) (a5 : Int32) (a6 : Int32) (a7 : Int32) : ∃ (r : Int32) (M1 : z_M) (M2 : z_M), F_X6_what a1 a2 a3 a4 a5 a6 a7 M = some (r, M1) ∧ F_X7_what a1 a2 a3 a4 a5 a6 a7 M1 = some (r, M2) ∧ z_Rel M2 := by
  obtain ⟨f, hc, ht, h8, h5, hVN⟩ := hR.2.2.2.2.1.of
  have no : F_X6_what a1 a2 a3 a4 a5 a6 a7 M = some (-1000001, M) → F_X7_what a1 a2 a3 a4 a5 a6 a7 M = some (-1000001, M) → ∃ (r : Int32) (M1 : z_M) (M2 : z_M), F_X6_what a1 a2 a3 a4 a5 a6 a7 M = some (r, M1) ∧ F_X7_what a1 a2 a3 a4 a5 a6 a7 M1 = some (r, M2) ∧ z_Rel M2 := fun x y => ⟨_, _, _, x, y, hR⟩
  unfold F_X6_what F_X7_what at *
  simp only [C_hasTread hc.1.1 (show f 0 < 2 ^ 31 by omega), C_within (lo := 0) (hi := 1) (L := 0) (U := 1), C_isTelling hc h8, M_bw (lo := 0) (hi := 1) (L := 0) (U := 1), M_bw (lo := 1) (hi := 12) (L := 1) (U := 12), M_isMinute, M_isRow, Option.bind_some, b1_if] at no ⊢
  have q1 : ∀ (N : z_M), p_T N 25 0 f → ∀ x, F_X7_isTread x N = some (b1 (bl (f 0) x)) := fun N h x => M_isTread (M_st h (by decide)) (by omega)
  by_cases h1 : bl (f 0) a1
  · by_cases h2 : bw 0 1 a2
    · by_cases h3 : bl (f 0) a3 ∧ bw 0 29 a4 ∧ bw 0 7 a5 ∧ bw 1 12 a7
      · have h3' := h3
        obtain ⟨g1, g2, g3, g4⟩ := h3'
        obtain ⟨t, htt, rfl⟩ := bl_of h1 (by omega)
        obtain ⟨door, hd, rfl⟩ := bl_of g1 (by omega)
        obtain ⟨m, hm, rfl⟩ := bw_nb g2 (by decide)
        obtain ⟨r, hr, rfl⟩ := bw7 g3
        obtain ⟨n, hn1, hn2, rfl⟩ := bw_of g4 (by decide) (by decide)
        rcases hVN with ⟨hv, h9, hs⟩ | hN
        · have hb := hv.tread htt
          have ht0 : ∀ v, p_T (z_si M 0 0 7 v) 25 0 f := fun v => ht.fr (fun c => m_off _ _ _ _ _ (by omega))
          rcases hR.1 r hr with ⟨x1, x2 | ⟨mm, c1, c2, c3, c4⟩⟩
          · refine ⟨(-1000010) - 1, z_si M 0 0 7 1, z_si (z_si M 0 0 7 1) 21 0 3 1, ?_, ?_, hR.find 1⟩
            · rw [if_pos h1, if_pos h2, if_pos h3, C_findingN hr x2, Option.bind_some, z_nmM_e, m_same, if_neg (by decide)]
            · rw [q1 _ (ht0 1), Option.bind_some, b1_if, if_pos h1, if_pos h2, q1 _ (ht0 1), Option.bind_some, b1_if, if_pos g1, if_pos g2, if_pos g3, if_pos g4, M_lacksN hr (by rw [m_off _ _ _ _ _ (by omega), ← x1, x2]), Option.bind_some, if_neg (show ¬ (0 : Int32) ≤ (-1000010) - 1 from by decide)]
          · by_cases hf : p_fit a6 (nI n) mm
            · obtain ⟨i, n', rfl, en, hin⟩ := hf.of c1
              obtain rfl : n = n' := by rw [n_eq (by omega) (by omega)] at en; exact en
              obtain ⟨M1, e1, e2, e3, e4⟩ := C_seerOfRow (M := z_si M 0 0 7 0) (hc.fr (fun a _ _ c => m_off _ _ _ _ _ (by omega))) h8 h5 (r := r) (i := i) (n := n) hr c1 (by rw [m_off _ _ _ _ _ (by omega), c2]) hin hn2
              have e5 : p_it M1 (fun k => z_gi M 24 0 (40 * r + (i + k))) n := ⟨e4.1, fun k hk => (e4.2 k hk).trans (by show z_gi (z_si M 0 0 7 0) 2 0 (40 * r + (i + k)) = z_gi M 24 0 (40 * r + (i + k)); rw [m_off _ _ _ _ _ (by omega)]; exact c4 (i + k) (by omega))⟩
              have la : ∀ N, m_of p_fr (z_si M 0 0 7 0) N → F_X7_lacks (nI r) (nI i) (nI n) N = some (0, N) := fun N h => (M_lacksR hr c1 hn2 (by rw [h 23 0 (by unfold p_fr; omega), m_off _ _ _ _ _ (by omega), ← x1, c2])).1 hf
              have i24 : ∀ N, m_of p_fr (z_si M 0 0 7 0) N → ∀ k, k < n → z_gi N 24 0 (40 * r + i + k) = z_gi M 24 0 (40 * r + (i + k)) := fun N h k hk => by rw [h 24 0 (by unfold p_fr; omega), m_off _ _ _ _ _ (by omega), Nat.add_assoc]
              rcases bw01 h2 with rfl | rfl
              · obtain ⟨M2, i1, i2⟩ := C_kindsL h8 h5 htt hd (show m < 900 by omega) hn2 5 1 z_fuel 0 f M1 (by omega) (fun u k1 k2 => hv.up (by omega) (by omega) (by omega) (by omega) (by omega) (by omega) (by omega) (by omega) (by omega) (by omega)) (by unfold z_fuel; omega) e3 p_up.rf e5
                have o2 : m_of p_fr (z_si M 0 0 7 0) M2 := e2.tr (i2.mono (fun a b h => Or.inl (by unfold p_in at h; omega)))
                have ht2 := (ht0 0).free o2
                obtain ⟨M4, l1, l2, l3⟩ := M_fits (it := fun k => z_gi M 24 0 (40 * r + (i + k))) (p := 5 + t) ht2 hd (show m < 900 by omega) hn2 (o := 40 * r + i) (lo := 1) (hi := 5) (by omega) (by omega) (by omega) (by omega) (by omega) (fun u k1 k2 => hv.up (by omega) (by omega) (by omega) (by omega) (by omega) (by omega) (by omega) (by omega) (by omega) (by omega)) (i24 M2 o2)
                refine ⟨nI (q_ft f (5 + t) (fun k => z_gi M 24 0 (40 * r + (i + k))) door m n 5 1 0), M2, z_si M4 21 0 3 0, ?_, ?_, hR.told hc ⟨hv, h9, hs⟩ o2 l2 l3⟩
                · rw [if_pos h1, if_pos h2, if_pos h3, C_finding0 hr c1 c2 hf, Option.bind_some, z_nmM_e, m_same, if_pos rfl, e1, Option.bind_some, if_pos rfl]
                  unfold F_X3_kindsBy
                  rw [show F_X3_kindsBy_b6 z_fuel (nI t) (nI door) (nI m) 0 1 M1 = _ from i1]
                  rfl
                · rw [q1 _ ht2, Option.bind_some, b1_if, if_pos h1, if_pos h2, q1 _ ht2, Option.bind_some, b1_if, if_pos g1, if_pos g2, if_pos g3, if_pos g4, la _ o2, Option.bind_some, if_pos (show (0 : Int32) ≤ 0 from by decide), n_40, pk_mul, nI_add, z_nmI_e, if_pos rfl, n_5, nI_add]
                  rw [show F_X7_fits (nI (5 + t)) 1 (nI 5) (nI door) (nI m) (nI (40 * r + i)) (nI n) M2 = _ from l1]
                  rfl
              · obtain ⟨M2, i1, i2⟩ := C_notesL h8 h5 htt hd (show m < 900 by omega) hn2 10 0 z_fuel 0 f M1 (by omega) (fun u k1 k2 => hv.up (by omega) (by omega) (by omega) (by omega) (by omega) (by omega) (by omega) (by omega) (by omega) (by omega)) (by unfold z_fuel; omega) e3 p_up.rf e5
                have o2 : m_of p_fr (z_si M 0 0 7 0) M2 := e2.tr (i2.mono (fun a b h => Or.inl (by unfold p_in at h; omega)))
                have ht2 := (ht0 0).free o2
                obtain ⟨M4, l1, l2, l3⟩ := M_fits (it := fun k => z_gi M 24 0 (40 * r + (i + k))) (p := 13 + t) ht2 hd (show m < 900 by omega) hn2 (o := 40 * r + i) (lo := 0) (hi := 9) (by omega) (by omega) (by omega) (by omega) (by omega) (fun u k1 k2 => hv.up (by omega) (by omega) (by omega) (by omega) (by omega) (by omega) (by omega) (by omega) (by omega) (by omega)) (i24 M2 o2)
                refine ⟨nI (q_ft f (13 + t) (fun k => z_gi M 24 0 (40 * r + (i + k))) door m n 10 0 0), M2, z_si M4 21 0 3 0, ?_, ?_, hR.told hc ⟨hv, h9, hs⟩ o2 l2 l3⟩
                · rw [if_pos h1, if_pos h2, if_pos h3, C_finding0 hr c1 c2 hf, Option.bind_some, z_nmM_e, m_same, if_pos rfl, e1, Option.bind_some, if_neg (by decide)]
                  unfold F_X3_notesBy
                  rw [show F_X3_notesBy_b6 z_fuel (nI t) (nI door) (nI m) 0 0 M1 = _ from i1]
                  rfl
                · rw [q1 _ ht2, Option.bind_some, b1_if, if_pos h1, if_pos h2, q1 _ ht2, Option.bind_some, b1_if, if_pos g1, if_pos g2, if_pos g3, if_pos g4, la _ o2, Option.bind_some, if_pos (show (0 : Int32) ≤ 0 from by decide), n_40, pk_mul, nI_add, z_nmI_e, if_neg (by decide), n_13, nI_add]
                  rw [show F_X7_fits (nI (13 + t)) 0 9 (nI door) (nI m) (nI (40 * r + i)) (nI n) M2 = _ from l1]
                  rfl
            · refine ⟨(-1000010) - 2, z_si M 0 0 7 2, z_si (z_si M 0 0 7 2) 21 0 3 2, ?_, ?_, hR.find 2⟩
              · rw [if_pos h1, if_pos h2, if_pos h3, C_finding2 hr c1 c2 hf, Option.bind_some, z_nmM_e, m_same, if_neg (by decide)]
              · rw [q1 _ (ht0 2), Option.bind_some, b1_if, if_pos h1, if_pos h2, q1 _ (ht0 2), Option.bind_some, b1_if, if_pos g1, if_pos g2, if_pos g3, if_pos g4, (M_lacksR hr c1 hn2 (by rw [m_off _ _ _ _ _ (by omega), ← x1, c2])).2 hf, Option.bind_some, if_neg (show ¬ (0 : Int32) ≤ (-1000010) - 2 from by decide)]
        · omega
      · refine no (by rw [if_pos h1, if_pos h2, if_neg h3]) ?_
        rw [q1 _ ht, Option.bind_some, b1_if, if_pos h1, if_pos h2, q1 _ ht, Option.bind_some, b1_if]
        by_cases g1 : bl (f 0) a3
        · rw [if_pos g1]
          by_cases g2 : bw 0 29 a4
          · rw [if_pos g2]
            by_cases g3 : bw 0 7 a5
            · rw [if_pos g3, if_neg (fun g4 => h3 ⟨g1, g2, g3, g4⟩)]
            · rw [if_neg g3]
          · rw [if_neg g2]
        · rw [if_neg g1]
    · exact no (by rw [if_pos h1, if_neg h2]) (by rw [q1 _ ht, Option.bind_some, b1_if, if_pos h1, if_neg h2])
  · exact no (by rw [if_neg h1]) (by rw [q1 _ ht, Option.bind_some, b1_if, if_neg h1])
theorem M_whoHi {N : z_M} {f : Nat → Nat} (ht : p_T N 25 0 f) (h0 : 1 ≤ f 0) (h8 : f 0 ≤ 8) {w k : Nat} (hk : k < 4) (hw : w < 5) (b c d e g : Int32) : (if (2 : Int32) ≤ nI k then (if nI k = 2 then F_X7_who_b107 (nI w) (nI k) b c d e g 3 N else F_X7_who_b107 (nI w) (nI k) b c d e g 20 N) else z_grd (z_in 0 49) (F_X7_who_b107 (nI w) (nI k) b c d e g ((z_gi N 25 0 (0 : Int32).toNatClampNeg) - 1) N)) = (F_X7_fits (nI (29 + 5 * k + w)) (nI (s_plo k)) (nI (s_phi f k)) b c (((40 : Int32) * d) + e) g N).bind fun q => some (q.1, q.2) := by
  rw [z_grd_t (by decide), show (0 : Int32).toNatClampNeg = 0 from rfl, M_st ht (by decide), n_1, n_sub h0]
  unfold F_X7_who_b107 F_X7_who_b128 s_plo s_phi
  rw [n_29, n_5, pk_mul, nI_add, nI_add]
  rcases (show k = 0 ∨ k = 1 ∨ k = 2 ∨ k = 3 by omega) with rfl | rfl | rfl | rfl <;> rfl
theorem eq_who {M : z_M} (hR : z_Rel M) (a1 : Int32) (a2 : Int32) (a3 : Int32) (a4 : Int32) (a5 : Int32) (a6 : Int32) (a7 : Int32) : ∃ (r : Int32) (M1 : z_M) (M2 : z_M), F_X6_who a1 a2 a3 a4 a5 a6 a7 M = some (r, M1) ∧ F_X7_who a1 a2 a3 a4 a5 a6 a7 M1 = some (r, M2) ∧ z_Rel M2 := by
  obtain ⟨f, hc, ht, h8, h5, hVN⟩ := hR.2.2.2.2.1.of
  have no : F_X6_who a1 a2 a3 a4 a5 a6 a7 M = some (-1000001, M) → F_X7_who a1 a2 a3 a4 a5 a6 a7 M = some (-1000001, M) → ∃ (r : Int32) (M1 : z_M) (M2 : z_M), F_X6_who a1 a2 a3 a4 a5 a6 a7 M = some (r, M1) ∧ F_X7_who a1 a2 a3 a4 a5 a6 a7 M1 = some (r, M2) ∧ z_Rel M2 := fun x y => ⟨_, _, _, x, y, hR⟩
  unfold F_X6_who F_X7_who at *
  simp only [C_hasWalker hc.1.2.1 (show f 1 < 2 ^ 31 by omega), C_within (lo := 0) (hi := 3) (L := 0) (U := 3), C_isTelling hc h8, M_bw (lo := 0) (hi := 3) (L := 0) (U := 3), M_bw (lo := 1) (hi := 12) (L := 1) (U := 12), M_isMinute, M_isRow, Option.bind_some, b1_if] at no ⊢
  have q0 : ∀ (N : z_M), p_T N 25 0 f → ∀ x, F_X7_isWalker x N = some (b1 (bl (f 1) x)) := fun N h x => M_isWalker (M_st h (by decide)) (by omega)
  have q1 : ∀ (N : z_M), p_T N 25 0 f → ∀ x, F_X7_isTread x N = some (b1 (bl (f 0) x)) := fun N h x => M_isTread (M_st h (by decide)) (by omega)
  by_cases h1 : bl (f 1) a1
  · by_cases h2 : bw 0 3 a2
    · by_cases h3 : bl (f 0) a3 ∧ bw 0 29 a4 ∧ bw 0 7 a5 ∧ bw 1 12 a7
      · have h3' := h3
        obtain ⟨g1, g2, g3, g4⟩ := h3'
        obtain ⟨w, hw, rfl⟩ := bl_of h1 (by omega)
        obtain ⟨k, hk, rfl⟩ := bw_nb h2 (by decide)
        obtain ⟨door, hd, rfl⟩ := bl_of g1 (by omega)
        obtain ⟨m, hm, rfl⟩ := bw_nb g2 (by decide)
        obtain ⟨r, hr, rfl⟩ := bw7 g3
        obtain ⟨n, hn1, hn2, rfl⟩ := bw_of g4 (by decide) (by decide)
        rcases hVN with ⟨hv, h9, hs⟩ | hN
        · have hb := hv.walker hw
          have hV := hv.1
          have ht0 : ∀ v, p_T (z_si M 0 0 7 v) 25 0 f := fun v => ht.fr (fun c => m_off _ _ _ _ _ (by omega))
          rcases hR.1 r hr with ⟨x1, x2 | ⟨mm, c1, c2, c3, c4⟩⟩
          · refine ⟨(-1000010) - 1, z_si M 0 0 7 1, z_si (z_si M 0 0 7 1) 21 0 3 1, ?_, ?_, hR.find 1⟩
            · rw [if_pos h1, if_pos h2, if_pos h3, C_findingN hr x2, Option.bind_some, z_nmM_e, m_same, if_neg (by decide)]
            · rw [q0 _ (ht0 1), Option.bind_some, b1_if, if_pos h1, if_pos h2, q1 _ (ht0 1), Option.bind_some, b1_if, if_pos g1, if_pos g2, if_pos g3, if_pos g4, M_lacksN hr (by rw [m_off _ _ _ _ _ (by omega), ← x1, x2]), Option.bind_some, if_neg (show ¬ (0 : Int32) ≤ (-1000010) - 1 from by decide)]
          · by_cases hf : p_fit a6 (nI n) mm
            · obtain ⟨i, n', rfl, en, hin⟩ := hf.of c1
              obtain rfl : n = n' := by rw [n_eq (by omega) (by omega)] at en; exact en
              obtain ⟨M1, e1, e2, e3, e4⟩ := C_seerOfRow (M := z_si M 0 0 7 0) (hc.fr (fun a _ _ c => m_off _ _ _ _ _ (by omega))) h8 h5 (r := r) (i := i) (n := n) hr c1 (by rw [m_off _ _ _ _ _ (by omega), c2]) hin hn2
              have e5 : p_it M1 (fun k => z_gi M 24 0 (40 * r + (i + k))) n := ⟨e4.1, fun k hk => (e4.2 k hk).trans (by show z_gi (z_si M 0 0 7 0) 2 0 (40 * r + (i + k)) = z_gi M 24 0 (40 * r + (i + k)); rw [m_off _ _ _ _ _ (by omega)]; exact c4 (i + k) (by omega))⟩
              have la : ∀ N, m_of p_fr (z_si M 0 0 7 0) N → F_X7_lacks (nI r) (nI i) (nI n) N = some (0, N) := fun N h => (M_lacksR hr c1 hn2 (by rw [h 23 0 (by unfold p_fr; omega), m_off _ _ _ _ _ (by omega), ← x1, c2])).1 hf
              have i24 : ∀ N, m_of p_fr (z_si M 0 0 7 0) N → ∀ k, k < n → z_gi N 24 0 (40 * r + i + k) = z_gi M 24 0 (40 * r + (i + k)) := fun N h k hk => by rw [h 24 0 (by unfold p_fr; omega), m_off _ _ _ _ _ (by omega), Nat.add_assoc]
              have hph : s_phi f k ≤ 20 := by unfold s_phi; repeat' split
                                              all_goals omega
              have hpl : s_plo k ≤ s_phi f k + 1 := by unfold s_plo s_phi; repeat' split
                                                       all_goals omega
              have hVu : ∀ u, s_plo k ≤ u → u ≤ s_phi f k → p_V (z_up f (29 + 5 * k + w) u) := by
                intro u k1 k2
                unfold s_plo at k1
                unfold s_phi at k2
                rcases (show k = 0 ∨ k = 1 ∨ k = 2 ∨ k = 3 by omega) with rfl | rfl | rfl | rfl
                · simp at k1 k2
                  exact hv.up (by omega) (by omega) (by omega) (by omega) (by omega) (by omega) (by omega) (by omega) (by omega) (by omega)
                · simp at k1 k2
                  exact hv.up (by omega) (by omega) (by omega) (by omega) (by omega) (by omega) (by omega) (by omega) (by omega) (by omega)
                · simp at k1 k2
                  exact hv.up (by omega) (by omega) (by omega) (by omega) (by omega) (by omega) (by omega) (by omega) (by omega) (by omega)
                · simp at k1 k2
                  exact hv.up (by omega) (by omega) (by omega) (by omega) (by omega) (by omega) (by omega) (by omega) (by omega) (by omega)
              obtain ⟨M2, i1, i2⟩ := C_partsL (k := k) (by omega) (show 1 ≤ f 0 by omega) h8 h5 hw hd (show m < 900 by omega) hn2 (s_phi f k + 1 - s_plo k) (s_plo k) z_fuel 0 f M1 (by omega) hVu (by unfold z_fuel; omega) e3 p_up.rf e5
              have o2 : m_of p_fr (z_si M 0 0 7 0) M2 := e2.tr (i2.mono (fun a b h => Or.inl (by unfold p_in at h; omega)))
              have ht2 := (ht0 0).free o2
              obtain ⟨M4, l1, l2, l3⟩ := M_fits (it := fun k => z_gi M 24 0 (40 * r + (i + k))) (p := 29 + 5 * k + w) ht2 hd (show m < 900 by omega) hn2 (o := 40 * r + i) (lo := s_plo k) (hi := s_phi f k) (by omega) (by omega) (by omega) (by omega) hpl hVu (i24 M2 o2)
              refine ⟨nI (q_ft f (29 + 5 * k + w) (fun k => z_gi M 24 0 (40 * r + (i + k))) door m n (s_phi f k + 1 - s_plo k) (s_plo k) 0), M2, z_si M4 21 0 3 0, ?_, ?_, hR.told hc ⟨hv, h9, hs⟩ o2 l2 l3⟩
              · rw [if_pos h1, if_pos h2, if_pos h3, C_finding0 hr c1 c2 hf, Option.bind_some, z_nmM_e, m_same, if_pos rfl, e1, Option.bind_some]
                unfold F_X3_partsBy
                rw [C_least (by omega), Option.bind_some, show F_X3_partsBy_b13 z_fuel (nI w) (nI k) (nI door) (nI m) 0 (nI (s_plo k)) M1 = _ from i1]
                rfl
              · rw [q0 _ ht2, Option.bind_some, b1_if, if_pos h1, if_pos h2, q1 _ ht2, Option.bind_some, b1_if, if_pos g1, if_pos g2, if_pos g3, if_pos g4, la _ o2, Option.bind_some, if_pos (show (0 : Int32) ≤ 0 from by decide)]
                refine (M_whoHi ht2 (by omega) h8 (by omega) (by omega) _ _ _ _ _).trans ?_
                rw [n_40, pk_mul, nI_add, l1]
                rfl
            · refine ⟨(-1000010) - 2, z_si M 0 0 7 2, z_si (z_si M 0 0 7 2) 21 0 3 2, ?_, ?_, hR.find 2⟩
              · rw [if_pos h1, if_pos h2, if_pos h3, C_finding2 hr c1 c2 hf, Option.bind_some, z_nmM_e, m_same, if_neg (by decide)]
              · rw [q0 _ (ht0 2), Option.bind_some, b1_if, if_pos h1, if_pos h2, q1 _ (ht0 2), Option.bind_some, b1_if, if_pos g1, if_pos g2, if_pos g3, if_pos g4, (M_lacksR hr c1 hn2 (by rw [m_off _ _ _ _ _ (by omega), ← x1, c2])).2 hf, Option.bind_some, if_neg (show ¬ (0 : Int32) ≤ (-1000010) - 2 from by decide)]
        · omega
      · refine no (by rw [if_pos h1, if_pos h2, if_neg h3]) ?_
        rw [q0 _ ht, Option.bind_some, b1_if, if_pos h1, if_pos h2, q1 _ ht, Option.bind_some, b1_if]
        by_cases g1 : bl (f 0) a3
        · rw [if_pos g1]
          by_cases g2 : bw 0 29 a4
          · rw [if_pos g2]
            by_cases g3 : bw 0 7 a5
            · rw [if_pos g3, if_neg (fun g4 => h3 ⟨g1, g2, g3, g4⟩)]
            · rw [if_neg g3]
          · rw [if_neg g2]
        · rw [if_neg g1]
    · exact no (by rw [if_pos h1, if_neg h2]) (by rw [q0 _ ht, Option.bind_some, b1_if, if_pos h1, if_neg h2])
  · exact no (by rw [if_neg h1]) (by rw [q0 _ ht, Option.bind_some, b1_if, if_neg h1])
