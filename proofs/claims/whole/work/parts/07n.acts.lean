/-! ACTS: reach, plane, way, gait -/
section
variable {M : z_M} {i : Nat} {f : Nat → Nat}
theorem C_can (x : Int32) {lo hi : Nat} : (if x < nI lo then some (0 : Int32) else if nI hi < x then some 0 else some 1) = some (b1 (bw lo hi x)) := C_within (x := x) (lo := lo) (hi := hi) (L := nI lo) (U := nI hi) (M := (fun _ _ _ => 0, fun _ => 0))
theorem C_canP (hc : p_C M i f) (hv : p_V f) (k : Nat) (hk : k < 2) {x : Int32} : F_X5_canBe i (nI k) x M = some (b1 (bl (f 0) x)) := by
  have h := hv.1
  obtain ⟨n, hn⟩ : ∃ n, f 0 = n + 1 := ⟨f 0 - 1, by omega⟩
  unfold F_X5_canBe F_X5_leastOf F_X5_mostOf
  rw [if_neg (show ¬ nI k = 2 by rw [n_2, n_eq (by omega) (by omega)]; omega), if_neg (show ¬ nI k = 2 by rw [n_2, n_eq (by omega) (by omega)]; omega), if_neg (show ¬ nI k = 3 by rw [n_3, n_eq (by omega) (by omega)]; omega), Option.bind_some, Option.bind_some, hc.1.1, n_1, n_sub (by omega), hn, Nat.add_sub_cancel]
  refine (C_can x (lo := 0) (hi := n)).trans ?_
  by_cases e : bw 0 n x
  · rw [b1_t e, b1_t ((bl_bw (by omega)).mpr e)]
  · rw [b1_f e, b1_f (fun h => e ((bl_bw (by omega)).mp h))]
theorem C_can2 {x : Int32} : F_X5_canBe i 2 x M = some (b1 (bw 1 3 x)) := by
  unfold F_X5_canBe F_X5_leastOf F_X5_mostOf
  rw [if_pos rfl, if_pos rfl]
  exact C_can x (lo := 1) (hi := 3)
theorem C_can3 {x : Int32} : F_X5_canBe i (2 + 1) x M = some (b1 (bw 0 20 x)) := by
  unfold F_X5_canBe F_X5_leastOf F_X5_mostOf
  rw [if_neg (by decide), if_neg (by decide), if_pos (by decide)]
  exact C_can x (lo := 0) (hi := 20)
end
/-- an ACT: the class keeps, then changes its TOWN; the reference notes, then changes its own -/
theorem z_act_pre {M : z_M} (hR : z_Rel M) {f : Nat → Nat} (hc : p_C M 24 f) (ht : p_T M 25 0 f) (hv : p_V f) (h9 : f 4 ≤ 999) (hs : z_gi M 21 0 4 = 1) : ∃ Ma, F_X1_keep M = some Ma ∧ p_C Ma 24 f ∧ ∀ M1, m_of (fun a b => 7 ≤ a ∧ a ≤ 11 ∧ b = 24) Ma M1 → z_gi M1 21 0 4 = 1 ∧ p_T M1 25 0 f ∧ ∃ Mb, F_X7_note M1 = some Mb ∧ p_T Mb 25 0 f ∧ (∀ a b c, a ≠ 29 → (a = 21 → c ≠ 17) → z_gi Mb a b c = z_gi M1 a b c) ∧ ∀ M2 f', m_of (fun a _ => a = 25) Mb M2 → p_C M1 24 f' → p_T M2 25 0 f' → p_V f' → f' 4 ≤ 999 → z_Rel M2 := by
  obtain ⟨nx, kp, h, k1, k2, k3, k4⟩ := hR.2.2.2.2.2.1
  have hb := hv.1
  obtain ⟨Ma, e1, e2, e3⟩ := C_keep k1 hc (by omega) (by omega)
  refine ⟨Ma, e1, hc.fr (fun a _ _ c => e2 a 24 (by omega) c), fun M1 g1 => ?_⟩
  have o1 : ∀ a b c, ¬ (7 ≤ a ∧ a ≤ 11 ∧ b ≤ 24) → a ≠ 12 → z_gi M1 a b c = z_gi M a b c := fun a b c x y => by rw [g1 a b (by omega), e2 a b (by omega)]
  have ht1 : p_T M1 25 0 f := ht.fr (fun c => o1 25 0 c (by omega) (by omega))
  obtain ⟨Mb, i1, i2, i3⟩ := M_note (k2.fr (fun c => o1 29 0 c (by omega) (by omega)) (o1 21 0 17 (by omega) (by omega))) ht1
  refine ⟨by rw [o1 _ _ _ (by omega) (by omega), hs], ht1, Mb, i1, ht1.fr (fun c => i2 25 0 c (by omega) (by omega)), i2, fun M2 f' g2 c1 t1 v1 v2 => ?_⟩
  have o2 : ∀ a b c, a ≠ 25 → a ≠ 29 → (a = 21 → c ≠ 17) → z_gi M2 a b c = z_gi M1 a b c := fun a b c x y z => by rw [g2 a b x, i2 a b c y z]
  refine hR.act v1 v2 (c1.fr (fun a _ _ c => o2 a 24 c (by omega) (by omega) (by omega))) t1 (nx := (nx + 1) % 24) (kp := min 24 (kp + 1)) (h := z_push f h) ?_ (i3.fr (fun c => g2 29 0 (by omega) c) (g2 21 0 (by omega) 17)) ?_ hs (fun a b c hn => ?_)
  · exact e3.fr (fun a _ _ b _ c => by rw [o2 a b c (by omega) (by omega) (by omega), g1 a b (by omega)]) (fun c => by rw [o2 12 0 c (by omega) (by omega) (by omega), g1 12 0 (by omega)])
  · intro j hj
    cases j with
    | zero => exact ⟨hv, h9⟩
    | succ j => exact k3 j (by omega)
  · unfold p_ac at hn
    rw [o2 a b c (by omega) (by omega) (by omega), o1 a b c (by omega) (by omega)]
theorem bw_nb {x : Int32} {hi : Nat} (h : bw 0 hi x) (hh : hi < 2 ^ 31) : ∃ v, v ≤ hi ∧ x = nI v := by
  obtain ⟨v, -, h2, rfl⟩ := bw_of h (by decide) hh
  exact ⟨v, h2, rfl⟩
theorem eq_reach {M : z_M} (hR : z_Rel M) (a1 : Int32) : ∃ (r : Int32) (M1 : z_M) (M2 : z_M), F_X6_reach a1 M = some (r, M1) ∧ F_X7_reach a1 M1 = some (r, M2) ∧ z_Rel M2 := by
  obtain ⟨f, hc, ht, h8, h5, hVN⟩ := hR.2.2.2.2.1.of
  unfold F_X6_reach F_X7_reach
  simp only [C_st hc h8, Option.bind_some, b1_if, C_within (lo := 0) (hi := 9) (L := 0) (U := 9), M_bw (lo := 0) (hi := 9) (L := 0) (U := 9)]
  rcases hVN with ⟨hv, h9, hs⟩ | ⟨h0, -, -, hs⟩
  · rw [if_pos (show 1 ≤ f 0 by have := hv.1; omega)]
    by_cases h : bw 0 9 a1
    · obtain ⟨v, hvv, rfl⟩ := bw_nb h (by decide)
      obtain ⟨Ma, e1, e2, e3⟩ := z_act_pre hR hc ht hv h9 hs
      have hm : m_of (fun a b => 7 ≤ a ∧ a ≤ 11 ∧ b = 24) Ma (z_si Ma 7 24 7 (nI v)) := m_of.rf.si ⟨by decide, by decide, rfl⟩
      obtain ⟨hs1, -, Mb, i1, i2, i3, i4⟩ := e3 _ hm
      refine ⟨nI (f 3), z_si Ma 7 24 7 (nI v), z_si Mb 25 0 3 (nI v), ?_, ?_, i4 _ (z_up f 3 v) (m_of.rf.si rfl) (e2.reach v) (i2.set 3 v) (hv.up (by omega) (by omega) (by omega) (by omega) (by omega) (by omega) (by omega) (by omega) (by omega) (by omega)) (by rw [z_up_ne (by omega)]; exact h9)⟩
      · unfold F_X5_reachNow F_X5_setReach
        rw [if_pos h, e1, hc.1.2.2.2.1]; rfl
      · rw [hs1, if_neg (by decide), if_pos h, i1, Option.bind_some, z_grd_t (by decide), z_nmI_e, z_grd_t (by decide), show (3 : Int32).toNatClampNeg = 3 from rfl, M_st i2 (by decide)]
    · exact ⟨-1000001, M, M, by rw [if_neg h], by rw [hs, if_neg (by decide), if_neg h], hR⟩
  · exact ⟨-1000002, M, M, by rw [if_neg (by omega)], by rw [hs, if_pos rfl], hR⟩
theorem eq_plane {M : z_M} (hR : z_Rel M) (a1 : Int32) (a2 : Int32) : ∃ (r : Int32) (M1 : z_M) (M2 : z_M), F_X6_plane a1 a2 M = some (r, M1) ∧ F_X7_plane a1 a2 M1 = some (r, M2) ∧ z_Rel M2 := by
  obtain ⟨f, hc, ht, h8, h5, hVN⟩ := hR.2.2.2.2.1.of
  unfold F_X6_plane F_X7_plane
  simp only [C_hasTread hc.1.1 (by omega), Option.bind_some, b1_if, C_within (lo := 0) (hi := 9) (L := 0) (U := 9), M_bw (lo := 0) (hi := 9) (L := 0) (U := 9)]
  by_cases h1 : bl (f 0) a1
  · by_cases h : bw 0 9 a2
    · obtain ⟨v, hvv, rfl⟩ := bw_nb h (by decide)
      obtain ⟨t, htt, rfl⟩ := bl_of h1 (by omega)
      rcases hVN with ⟨hv, h9, hs⟩ | hN
      · obtain ⟨Ma, e1, e2, e3⟩ := z_act_pre hR hc ht hv h9 hs
        obtain ⟨q1, q2⟩ := C_planeTo (v := v) e2 htt h5 h8
        have hm : m_of (fun a b => 7 ≤ a ∧ a ≤ 11 ∧ b = 24) Ma (z_si (z_si Ma 9 24 t (nI v)) 10 24 t (nI 0)) := m_of.si (m_of.si m_of.rf ⟨by decide, by decide, rfl⟩) ⟨by decide, by decide, rfl⟩
        obtain ⟨hs1, ht1, Mb, i1, i2, i3, i4⟩ := e3 _ hm
        refine ⟨nI (s_tn f t), z_si (z_si Ma 9 24 t (nI v)) 10 24 t (nI 0), z_si (z_si Mb 25 0 (13 + t) (nI v)) 25 0 (21 + t) (nI 0), ?_, ?_, i4 _ (z_up (z_up f (13 + t) v) (21 + t) 0) (m_of.si (m_of.si m_of.rf rfl) rfl) q2 ((i2.set _ v).set _ 0) ((hv.up (k := 13 + t) (v := v) (by omega) (by omega) (by omega) (by omega) (by omega) (by omega) (by omega) (by omega) (by omega) (by omega)).up (by omega) (by omega) (by omega) (by omega) (by omega) (by omega) (by omega) (by omega) (by omega) (by omega)) (by rw [z_up_ne (by omega), z_up_ne (by omega)]; exact h9)⟩
        · rw [if_pos h1, if_pos h, C_toneOf hc hv htt, Option.bind_some, e1, Option.bind_some, q1]; rfl
        · rw [M_isTread (M_st ht1 (by decide)) (by omega), Option.bind_some, b1_if, if_pos h1, if_pos h, i1, Option.bind_some, M_toneOf i2 hv htt, Option.bind_some]
          unfold F_X7_planeTo
          simp only [z_nmM_e]
          rw [n_13, n_21, nI_add, nI_add, z_grd_t (by rw [n_in (by omega) (by omega)]; omega), z_grd_t (by rw [n_in (by omega) (by omega)]; omega), n_cl (by omega), n_cl (by omega)]; rfl
      · omega
    · exact ⟨-1000001, M, M, by rw [if_pos h1, if_neg h], by rw [M_isTread (M_st ht (by decide)) (by omega), Option.bind_some, b1_if, if_pos h1, if_neg h], hR⟩
  · exact ⟨-1000001, M, M, by rw [if_neg h1], by rw [M_isTread (M_st ht (by decide)) (by omega), Option.bind_some, b1_if, if_neg h1], hR⟩
/-- two parts of a WALKER set -/
theorem C_changed {M : z_M} {f : Nat → Nat} (hc : p_C M 24 f) {w k u v : Nat} (hw : w < f 1) (hk : k < 3) (h5 : f 1 ≤ 5) (h8 : f 0 ≤ 8) : F_X5_setPart 24 (nI w) (nI k) (nI u) M = some (z_si M 11 24 (w * 4 + k) (nI u)) ∧ F_X5_setPart 24 (nI w) (nI (k + 1)) (nI v) (z_si M 11 24 (w * 4 + k) (nI u)) = some (z_si (z_si M 11 24 (w * 4 + k) (nI u)) 11 24 (w * 4 + (k + 1)) (nI v)) ∧ p_C (z_si (z_si M 11 24 (w * 4 + k) (nI u)) 11 24 (w * 4 + (k + 1)) (nI v)) 24 (z_up (z_up f (29 + 5 * k + w) u) (29 + 5 * (k + 1) + w) v) ∧ m_of (fun a b => 7 ≤ a ∧ a ≤ 11 ∧ b = 24) M (z_si (z_si M 11 24 (w * 4 + k) (nI u)) 11 24 (w * 4 + (k + 1)) (nI v)) := by
  obtain ⟨e1, e2⟩ := C_setPart (v := u) hc hw (show k < 4 by omega) h5 h8
  obtain ⟨e3, e4⟩ := C_setPart (w := w) (k := k + 1) (v := v) e2 (by rw [z_up_ne (by omega)]; exact hw) (by omega) (by rw [z_up_ne (by omega)]; exact h5) (by rw [z_up_ne (by omega)]; exact h8)
  exact ⟨e1, e3, e4, m_of.si (m_of.si m_of.rf ⟨by decide, by decide, rfl⟩) ⟨by decide, by decide, rfl⟩⟩
theorem eq_way {M : z_M} (hR : z_Rel M) (a1 : Int32) (a2 : Int32) (a3 : Int32) : ∃ (r : Int32) (M1 : z_M) (M2 : z_M), F_X6_way a1 a2 a3 M = some (r, M1) ∧ F_X7_way a1 a2 a3 M1 = some (r, M2) ∧ z_Rel M2 := by
  obtain ⟨f, hc, ht, h8, h5, hVN⟩ := hR.2.2.2.2.1.of
  have no : F_X6_way a1 a2 a3 M = some (-1000001, M) → F_X7_way a1 a2 a3 M = some (-1000001, M) → ∃ (r : Int32) (M1 : z_M) (M2 : z_M), F_X6_way a1 a2 a3 M = some (r, M1) ∧ F_X7_way a1 a2 a3 M1 = some (r, M2) ∧ z_Rel M2 := fun x y => ⟨_, _, _, x, y, hR⟩
  unfold F_X6_way F_X6_changed F_X7_way at *
  by_cases h1 : bl (f 1) a1
  · obtain ⟨w, hw, rfl⟩ := bl_of h1 (by omega)
    rcases hVN with ⟨hv, h9, hs⟩ | hN
    · have k1 : F_X5_hasWalker 24 (nI w) M = some 1 := by rw [C_hasWalker hc.1.2.1 (by omega), b1_t h1]
      have k2 : ∀ x, F_X5_canBe 24 0 x M = some (b1 (bl (f 0) x)) := fun x => C_canP hc hv 0 (by omega)
      have k3 : ∀ x, F_X5_canBe 24 (0 + 1) x M = some (b1 (bl (f 0) x)) := fun x => C_canP hc hv 1 (by omega)
      have q1 : ∀ N : z_M, p_T N 25 0 f → F_X7_isWalker (nI w) N = some 1 := fun N h => by rw [M_isWalker (M_st h (by decide)) (by omega), b1_t h1]
      have q2 : ∀ (N : z_M) x, p_T N 25 0 f → F_X7_isTread x N = some (b1 (bl (f 0) x)) := fun N x h => M_isTread (M_st h (by decide)) (by omega)
      simp only [k1, k2, k3, Option.bind_some, b1_if, if_neg (show ¬ (1 : Int32) = 0 by decide)] at no ⊢
      by_cases h2 : bl (f 0) a2
      · by_cases h3 : bl (f 0) a3
        · obtain ⟨u, hu, rfl⟩ := bl_of h2 (by omega)
          obtain ⟨v, hvv, rfl⟩ := bl_of h3 (by omega)
          obtain ⟨Ma, e1, e2, e3⟩ := z_act_pre hR hc ht hv h9 hs
          obtain ⟨p1, p2, p3, p4⟩ := C_changed (w := w) (k := 0) (u := u) (v := v) e2 hw (by omega) h5 h8
          obtain ⟨hs1, ht1, Mb, i1, i2, i3, i4⟩ := e3 _ p4
          have hv' : p_V (z_up (z_up f (29 + w) u) (34 + w) v) := (hv.up (k := 29 + w) (v := u) (by omega) (by omega) (by omega) (by omega) (by omega) (by omega) (by omega) (by omega) (by omega) (by omega)).up (by omega) (by omega) (by omega) (by omega) (by omega) (by omega) (by omega) (by rw [z_up_ne (by omega)]; omega) (by omega) (by omega)
          have hl' : w < z_up (z_up f (29 + w) u) (34 + w) v 1 := by rw [z_up_ne (by omega), z_up_ne (by omega)]; exact hw
          have p3' : p_C (z_si (z_si Ma 11 24 (w * 4 + 0) (nI u)) 11 24 (w * 4 + (0 + 1)) (nI v)) 24 (z_up (z_up f (29 + w) u) (34 + w) v) := p3
          have t2 := (i2.set (29 + w) u).set (34 + w) v
          refine ⟨nI (s_lg (z_up (z_up f (29 + w) u) (34 + w) v) w), z_si (z_si Ma 11 24 (w * 4 + 0) (nI u)) 11 24 (w * 4 + (0 + 1)) (nI v), z_si (z_si Mb 25 0 (29 + w) (nI u)) 25 0 (34 + w) (nI v), ?_, ?_, i4 _ _ (m_of.si (m_of.si m_of.rf rfl) rfl) p3' t2 hv' (by rw [z_up_ne (by omega), z_up_ne (by omega)]; exact h9)⟩
          · rw [if_pos h2, if_pos h3, e1, Option.bind_some, show F_X5_setPart 24 (nI w) 0 (nI u) Ma = _ from p1, Option.bind_some, show F_X5_setPart 24 (nI w) (0 + 1) (nI v) _ = _ from p2, Option.bind_some, C_long p3' hv' hl']; rfl
          · rw [q1 _ ht1, Option.bind_some, if_neg (by decide), q2 _ _ ht1, Option.bind_some, b1_if, if_pos h2, q2 _ _ ht1, Option.bind_some, b1_if, if_pos h3, i1, Option.bind_some]
            simp only [z_nmM_e]
            rw [n_29, n_34, nI_add, nI_add, z_grd_t (by rw [n_in (by omega) (by omega)]; omega), z_grd_t (by rw [n_in (by omega) (by omega)]; omega), n_cl (by omega), n_cl (by omega), M_long t2 hv' hl']; rfl
        · exact no (by rw [if_pos h2, if_neg h3]; rfl) (by rw [q1 _ ht, Option.bind_some, if_neg (by decide), q2 _ _ ht, Option.bind_some, b1_if, if_pos h2, q2 _ _ ht, Option.bind_some, b1_if, if_neg h3])
      · exact no (by rw [if_neg h2]; rfl) (by rw [q1 _ ht, Option.bind_some, if_neg (by decide), q2 _ _ ht, Option.bind_some, b1_if, if_neg h2])
    · omega
  · exact no (by rw [C_hasWalker hc.1.2.1 (by omega), Option.bind_some, b1_if, if_neg h1]; rfl) (by rw [M_isWalker (M_st ht (by decide)) (by omega), Option.bind_some, b1_if, if_neg h1])
theorem eq_gait {M : z_M} (hR : z_Rel M) (a1 : Int32) (a2 : Int32) (a3 : Int32) : ∃ (r : Int32) (M1 : z_M) (M2 : z_M), F_X6_gait a1 a2 a3 M = some (r, M1) ∧ F_X7_gait a1 a2 a3 M1 = some (r, M2) ∧ z_Rel M2 := by
  obtain ⟨f, hc, ht, h8, h5, hVN⟩ := hR.2.2.2.2.1.of
  have no : F_X6_gait a1 a2 a3 M = some (-1000001, M) → F_X7_gait a1 a2 a3 M = some (-1000001, M) → ∃ (r : Int32) (M1 : z_M) (M2 : z_M), F_X6_gait a1 a2 a3 M = some (r, M1) ∧ F_X7_gait a1 a2 a3 M1 = some (r, M2) ∧ z_Rel M2 := fun x y => ⟨_, _, _, x, y, hR⟩
  unfold F_X6_gait F_X6_changed F_X7_gait at *
  by_cases h1 : bl (f 1) a1
  · obtain ⟨w, hw, rfl⟩ := bl_of h1 (by omega)
    rcases hVN with ⟨hv, h9, hs⟩ | hN
    · have k1 : F_X5_hasWalker 24 (nI w) M = some 1 := by rw [C_hasWalker hc.1.2.1 (by omega), b1_t h1]
      have q1 : ∀ N : z_M, p_T N 25 0 f → F_X7_isWalker (nI w) N = some 1 := fun N h => by rw [M_isWalker (M_st h (by decide)) (by omega), b1_t h1]
      have q2 : ∀ (N : z_M) (x : Int32), F_X7_in x.toInt64 1 3 N = some (b1 (bw 1 3 x)) := fun N x => M_bw
      have q3 : ∀ (N : z_M) (x : Int32), F_X7_in x.toInt64 0 20 N = some (b1 (bw 0 20 x)) := fun N x => M_bw
      simp only [k1, C_can2, C_can3, q2, q3, Option.bind_some, b1_if, if_neg (show ¬ (1 : Int32) = 0 by decide)] at no ⊢
      by_cases h2 : bw 1 3 a2
      · by_cases h3 : bw 0 20 a3
        · obtain ⟨u, hu0, hu, rfl⟩ := bw_of h2 (by decide) (by decide)
          obtain ⟨v, hvv, rfl⟩ := bw_nb h3 (by decide)
          obtain ⟨Ma, e1, e2, e3⟩ := z_act_pre hR hc ht hv h9 hs
          obtain ⟨p1, p2, p3, p4⟩ := C_changed (w := w) (k := 2) (u := u) (v := v) e2 hw (by omega) h5 h8
          obtain ⟨hs1, ht1, Mb, i1, i2, i3, i4⟩ := e3 _ p4
          have hv' : p_V (z_up (z_up f (39 + w) u) (44 + w) v) := (hv.up (k := 39 + w) (v := u) (by omega) (by omega) (by omega) (by omega) (by omega) (by omega) (by omega) (by omega) (by omega) (by omega)).up (by omega) (by omega) (by omega) (by omega) (by omega) (by omega) (by omega) (by omega) (by omega) (by omega)
          have hl' : w < z_up (z_up f (39 + w) u) (44 + w) v 1 := by rw [z_up_ne (by omega), z_up_ne (by omega)]; exact hw
          have p3' : p_C (z_si (z_si Ma 11 24 (w * 4 + 2) (nI u)) 11 24 (w * 4 + (2 + 1)) (nI v)) 24 (z_up (z_up f (39 + w) u) (44 + w) v) := p3
          have t2 := (i2.set (39 + w) u).set (44 + w) v
          refine ⟨nI (s_lg (z_up (z_up f (39 + w) u) (44 + w) v) w), z_si (z_si Ma 11 24 (w * 4 + 2) (nI u)) 11 24 (w * 4 + (2 + 1)) (nI v), z_si (z_si Mb 25 0 (39 + w) (nI u)) 25 0 (44 + w) (nI v), ?_, ?_, i4 _ _ (m_of.si (m_of.si m_of.rf rfl) rfl) p3' t2 hv' (by rw [z_up_ne (by omega), z_up_ne (by omega)]; exact h9)⟩
          · rw [if_pos h2, if_pos h3, e1, Option.bind_some, show F_X5_setPart 24 (nI w) 2 (nI u) Ma = _ from p1, Option.bind_some, show F_X5_setPart 24 (nI w) (2 + 1) (nI v) _ = _ from p2, Option.bind_some, C_long p3' hv' hl']; rfl
          · rw [q1 _ ht1, Option.bind_some, if_neg (by decide), if_pos h2, if_pos h3, i1, Option.bind_some]
            simp only [z_nmM_e]
            rw [n_39, n_44, nI_add, nI_add, z_grd_t (by rw [n_in (by omega) (by omega)]; omega), z_grd_t (by rw [n_in (by omega) (by omega)]; omega), n_cl (by omega), n_cl (by omega), M_long t2 hv' hl']; rfl
        · exact no (by rw [if_pos h2, if_neg h3]; rfl) (by rw [q1 _ ht, Option.bind_some, if_neg (by decide), if_pos h2, if_neg h3])
      · exact no (by rw [if_neg h2]; rfl) (by rw [q1 _ ht, Option.bind_some, if_neg (by decide), if_neg h2])
    · omega
  · exact no (by rw [C_hasWalker hc.1.2.1 (by omega), Option.bind_some, b1_if, if_neg h1]; rfl) (by rw [M_isWalker (M_st ht (by decide)) (by omega), Option.bind_some, b1_if, if_neg h1])
