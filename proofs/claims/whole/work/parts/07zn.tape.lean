/-! TAPE: a token of the reference; numbers and signs of the class -/
abbrev s_dg (v : Nat → Nat) (n j : Nat) : Prop := j < n ∧ 48 ≤ v j ∧ v j ≤ 57
abbrev s_sg (x : Nat) : Prop := (97 ≤ x ∧ x ≤ 122) ∨ x = 44 ∨ x = 59
/-- the token that begins at b: 1 a letter or sign, 2 a number, 3 the end, 0 none -/
def s_ty (v : Nat → Nat) (n b : Nat) : Nat := if b < n then (if s_dg v n b then (if s_dg v n (b + 1) ∧ s_dg v n (b + 2) then 0 else 2) else if s_sg (v b) then 1 else 0) else 3
def s_vl (v : Nat → Nat) (n b : Nat) : Nat := if s_dg v n (b + 1) then 10 * (v b - 48) + v (b + 1) - 48 else v b - 48
def s_ne (v : Nat → Nat) (n b : Nat) : Nat := if s_dg v n (b + 1) then b + 2 else b + 1
def K_o (v : Nat → Nat) (n : Nat) : Prop := n ≤ 100 ∧ ∀ j, j < n → v j ≤ 255
def K_r (M : z_M) (v : Nat → Nat) (n : Nat) : Prop := z_gi M 21 0 8 = nI n ∧ ∀ j, j < n → z_gi M 27 0 j = nI (v j)
def K_c (M : z_M) (v : Nat → Nat) (n : Nat) : Prop := z_gi M 5 0 2 = nI n ∧ ∀ j, j < n → z_gi M 6 0 j = nI (v j)
def K_k (M : z_M) (v : Nat → Nat) (n b : Nat) : Prop := z_gi M 21 0 13 = nI b ∧ z_gi M 21 0 11 = nI (s_ty v n b) ∧ (s_ty v n b = 2 → z_gi M 21 0 12 = nI (s_vl v n b) ∧ z_gi M 21 0 10 = nI (s_ne v n b)) ∧ (s_ty v n b = 1 → z_gi M 21 0 12 = nI (v b) ∧ z_gi M 21 0 10 = nI (b + 1))
abbrev m_tk (M M' : z_M) : Prop := ∀ a b c, (a = 21 → ¬ (10 ≤ c ∧ c ≤ 13)) → z_gi M' a b c = z_gi M a b c
section
variable {M N : z_M} {v : Nat → Nat} {n : Nat}
theorem K_r.fr (h : K_r M v n) (e : m_tk M N) : K_r N v n := ⟨by rw [e _ _ _ (by omega), h.1], fun j hj => by rw [e _ _ _ (by omega), h.2 j hj]⟩
/-- a figure is taken -/
theorem M_n1 (ho : K_o v n) (hK : K_r N v n) {j w fu : Nat} (h10 : z_gi N 21 0 10 = nI j) (hw : w ≤ 999) (h12 : z_gi N 21 0 12 = nI w) (hd : s_dg v n j) : F_X7_nextToken_b33 (fu + 1) N = F_X7_nextToken_b33 fu (z_si (z_si N 21 0 12 (nI (if w ≤ 99 then 10 * w + v j - 48 else w))) 21 0 10 (nI (j + 1))) := by
  have hn := ho.1
  obtain ⟨d1, d2, d3⟩ := hd
  have hz : z_in (nI j) 100 := by rw [n_in (by omega) (by omega)]; omega
  rw [F_X7_nextToken_b33]
  unfold F_X7_nextToken_b103
  simp only [h10, hK.1, n_cl (show j < 2 ^ 31 by omega), hK.2 j d1, z_grd_t hz, h12, M_bw (lo := 48) (hi := 57) (L := 48) (U := 57), Option.bind_some, b1_if, z_nmM_e]
  rw [if_neg (by rw [n_le (by omega) (by omega)]; omega), if_pos (bw_n (by omega) (by omega) (by omega)), m_off _ _ _ _ _ (by omega), m_off _ _ _ _ _ (by omega), h10, n_1, nI_add]
  by_cases h : w ≤ 99
  · rw [if_pos h, if_pos (by rw [n_99, n_le (by omega) (by omega)]; omega), n_10, pk_mul, nI_add, n_48, n_sub (by omega)]
  · rw [if_neg h, if_neg (by rw [n_99, n_le (by omega) (by omega)]; omega)]
theorem M_n0 (ho : K_o v n) (hK : K_r N v n) {j fu : Nat} (h10 : z_gi N 21 0 10 = nI j) (hj : j ≤ n) (hd : ¬ s_dg v n j) : F_X7_nextToken_b33 (fu + 1) N = F_X7_nextToken_b119 N := by
  have hn := ho.1
  rw [F_X7_nextToken_b33]
  by_cases h : j < n
  · have hz : z_in (nI j) 100 := by rw [n_in (by omega) (by omega)]; omega
    have hvj := ho.2 j h
    simp only [h10, hK.1, n_cl (show j < 2 ^ 31 by omega), hK.2 j h, z_grd_t hz, M_bw (lo := 48) (hi := 57) (L := 48) (U := 57), Option.bind_some, b1_if]
    rw [if_neg (by rw [n_le (by omega) (by omega)]; omega), if_neg]
    intro k
    have := (bw_iff (by decide) (by decide)).mp k
    rw [nI_toInt (by omega)] at this
    omega
  · simp only [h10, hK.1]
    rw [if_pos (by rw [n_le (by omega) (by omega)]; omega)]
theorem M_run (ho : K_o v n) : ∀ d j w fu (N : z_M), j + d = n → d < fu → K_r N v n → z_gi N 21 0 10 = nI j → w ≤ 999 → z_gi N 21 0 12 = nI w → ∃ N' j', F_X7_nextToken_b33 fu N = F_X7_nextToken_b119 N' ∧ j ≤ j' ∧ j' ≤ n ∧ z_gi N' 21 0 10 = nI j' ∧ ∀ a b c, ¬ (a = 21 ∧ (c = 10 ∨ c = 12)) → z_gi N' a b c = z_gi N a b c := by
  intro d
  induction d with
  | zero =>
    intro j w fu N h1 h2 hK h10 hw h12
    obtain ⟨fu, rfl⟩ : ∃ k', fu = k' + 1 := ⟨fu - 1, by omega⟩
    exact ⟨N, j, M_n0 ho hK h10 (by omega) (fun h => by omega), by omega, by omega, h10, fun a b c _ => rfl⟩
  | succ d ih =>
    intro j w fu N h1 h2 hK h10 hw h12
    obtain ⟨fu, rfl⟩ : ∃ k', fu = k' + 1 := ⟨fu - 1, by omega⟩
    by_cases hd : s_dg v n j
    · have hw' : (if w ≤ 99 then 10 * w + v j - 48 else w) ≤ 999 := by split <;> omega
      obtain ⟨N', j', i1, i2, i3, i4, i5⟩ := ih (j + 1) _ fu (z_si (z_si N 21 0 12 (nI (if w ≤ 99 then 10 * w + v j - 48 else w))) 21 0 10 (nI (j + 1))) (by omega) (by omega) (hK.fr (fun a b c h => by rw [m_off _ _ _ _ _ (by omega), m_off _ _ _ _ _ (by omega)])) (m_same _ _ _ _ _) hw' (by rw [m_off _ _ _ _ _ (by omega), m_same])
      exact ⟨N', j', (M_n1 ho hK h10 hw h12 hd).trans i1, by omega, i3, i4, fun a b c h => by rw [i5 a b c h, m_off _ _ _ _ _ (by omega), m_off _ _ _ _ _ (by omega)]⟩
    · exact ⟨N, j, M_n0 ho hK h10 (by omega) hd, by omega, by omega, h10, fun a b c _ => rfl⟩
theorem M_nB {x : Int32} : F_X7_nextToken_b25 x N = F_X7_nextToken_b33 z_fuel (z_si (z_si N 21 0 11 x) 21 0 12 0) := rfl
theorem z_fuel_4 : z_fuel = 99996 + 1 + 1 + 1 + 1 := rfl
theorem M_next (ho : K_o v n) (hK : K_r M v n) {b : Nat} (h10 : z_gi M 21 0 10 = nI b) (hb : b ≤ n) : ∃ M', F_X7_nextToken M = some M' ∧ K_k M' v n b ∧ m_tk M M' := by
  have hn := ho.1
  unfold F_X7_nextToken
  rw [z_nmM_e, m_off _ _ _ _ _ (by omega), m_off _ _ _ _ _ (by omega), h10, hK.1]
  by_cases hbn : b < n
  · rw [if_neg (by rw [n_eq (by omega) (by omega)]; omega), M_nB]
    obtain ⟨N0, hN0⟩ : ∃ N0, N0 = z_si (z_si (z_si M 21 0 13 (nI b)) 21 0 11 0) 21 0 12 0 := ⟨_, rfl⟩
    rw [← hN0]
    have f0 : ∀ a x c, (a = 21 → ¬ (11 ≤ c ∧ c ≤ 13)) → z_gi N0 a x c = z_gi M a x c := fun a x c h => by rw [hN0, m_off _ _ _ _ _ (by omega), m_off _ _ _ _ _ (by omega), m_off _ _ _ _ _ (by omega)]
    have k0 : K_r N0 v n := hK.fr (fun a x c h => f0 a x c (by omega))
    have e10 : z_gi N0 21 0 10 = nI b := by rw [f0 _ _ _ (by omega), h10]
    have e11 : z_gi N0 21 0 11 = 0 := by rw [hN0, m_off _ _ _ _ _ (by omega), m_same]
    have e12 : z_gi N0 21 0 12 = nI 0 := by rw [hN0, m_same]; rfl
    have e13 : z_gi N0 21 0 13 = nI b := by rw [hN0, m_off _ _ _ _ _ (by omega), m_off _ _ _ _ _ (by omega), m_same]
    rw [z_fuel_4]
    by_cases d0 : s_dg v n b
    · rw [M_n1 ho k0 e10 (by omega) e12 d0, if_pos (by omega)]
      obtain ⟨N1, hN1⟩ : ∃ N1, N1 = z_si (z_si N0 21 0 12 (nI (10 * 0 + v b - 48))) 21 0 10 (nI (b + 1)) := ⟨_, rfl⟩
      rw [← hN1]
      have f1 : ∀ a x c, (a = 21 → ¬ (10 ≤ c ∧ c ≤ 12) ∨ c = 11) → z_gi N1 a x c = z_gi N0 a x c := fun a x c h => by rw [hN1, m_off _ _ _ _ _ (by omega), m_off _ _ _ _ _ (by omega)]
      have k1 : K_r N1 v n := k0.fr (fun a x c h => f1 a x c (by omega))
      have g10 : z_gi N1 21 0 10 = nI (b + 1) := by rw [hN1, m_same]
      have g12 : z_gi N1 21 0 12 = nI (v b - 48) := by rw [hN1, m_off _ _ _ _ _ (by omega), m_same]; exact congrArg nI (by omega)
      have g13 : z_gi N1 21 0 13 = nI b := by rw [f1 _ _ _ (by omega), e13]
      by_cases d1 : s_dg v n (b + 1)
      · rw [M_n1 ho k1 g10 (by omega) g12 d1, if_pos (by omega)]
        obtain ⟨N2, hN2⟩ : ∃ N2, N2 = z_si (z_si N1 21 0 12 (nI (10 * (v b - 48) + v (b + 1) - 48))) 21 0 10 (nI (b + 1 + 1)) := ⟨_, rfl⟩
        rw [← hN2]
        have f2 : ∀ a x c, (a = 21 → ¬ (10 ≤ c ∧ c ≤ 12) ∨ c = 11) → z_gi N2 a x c = z_gi N1 a x c := fun a x c h => by rw [hN2, m_off _ _ _ _ _ (by omega), m_off _ _ _ _ _ (by omega)]
        have k2 : K_r N2 v n := k1.fr (fun a x c h => f2 a x c (by omega))
        have j10 : z_gi N2 21 0 10 = nI (b + 2) := by rw [hN2, m_same]
        have j12 : z_gi N2 21 0 12 = nI (10 * (v b - 48) + v (b + 1) - 48) := by rw [hN2, m_off _ _ _ _ _ (by omega), m_same]
        have j13 : z_gi N2 21 0 13 = nI b := by rw [f2 _ _ _ (by omega), g13]
        by_cases d2 : s_dg v n (b + 2)
        · have ty : s_ty v n b = 0 := by unfold s_ty; rw [if_pos hbn, if_pos d0, if_pos ⟨d1, d2⟩]
          obtain ⟨w3, hw3, e3⟩ : ∃ w3, w3 ≤ 999 ∧ w3 = (if 10 * (v b - 48) + v (b + 1) - 48 ≤ 99 then 10 * (10 * (v b - 48) + v (b + 1) - 48) + v (b + 2) - 48 else 10 * (v b - 48) + v (b + 1) - 48) := ⟨_, by split <;> omega, rfl⟩
          rw [M_n1 ho k2 j10 (by omega) j12 d2, ← e3]
          obtain ⟨N', j', i1, i2, i3, i4, i5⟩ := M_run ho (n - (b + 3)) (b + 3) w3 (99996 + 1) (z_si (z_si N2 21 0 12 (nI w3)) 21 0 10 (nI (b + 3))) (by omega) (by omega) (k2.fr (fun a x c h => by rw [m_off _ _ _ _ _ (by omega), m_off _ _ _ _ _ (by omega)])) (m_same _ _ _ _ _) hw3 (by rw [m_off _ _ _ _ _ (by omega), m_same])
          have l13 : z_gi N' 21 0 13 = nI b := by rw [i5 _ _ _ (by omega), m_off _ _ _ _ _ (by omega), m_off _ _ _ _ _ (by omega), j13]
          refine ⟨z_si N' 21 0 11 0, ?_, ⟨by rw [m_off _ _ _ _ _ (by omega), l13], by rw [m_same, ty]; rfl, fun h => by omega, fun h => by omega⟩, fun a x c h => ?_⟩
          · refine i1.trans ?_
            unfold F_X7_nextToken_b119 F_X7_nextToken_b149
            rw [i4, l13, if_neg (by rw [n_le (by omega) (by omega)]; omega), n_sub (by omega), if_neg (by rw [n_2, n_le (by omega) (by omega)]; omega)]
          · rw [m_off _ _ _ _ _ (by omega), i5 _ _ _ (by omega), m_off _ _ _ _ _ (by omega), m_off _ _ _ _ _ (by omega), f2 _ _ _ (by omega), f1 _ _ _ (by omega), f0 _ _ _ (by omega)]
        · have ty : s_ty v n b = 2 := by unfold s_ty; rw [if_pos hbn, if_pos d0, if_neg (fun h => d2 h.2)]
          refine ⟨z_si N2 21 0 11 2, ?_, ⟨by rw [m_off _ _ _ _ _ (by omega), j13], by rw [m_same, ty]; rfl, fun _ => ⟨?_, ?_⟩, fun h => by omega⟩, fun a x c h => ?_⟩
          · rw [M_n0 ho k2 j10 (by omega) d2]
            unfold F_X7_nextToken_b119 F_X7_nextToken_b149
            rw [j10, j13, if_neg (by rw [n_le (by omega) (by omega)]; omega), n_sub (by omega), if_pos (by rw [n_2, n_le (by omega) (by omega)]; omega)]
          · rw [m_off _ _ _ _ _ (by omega), j12]; unfold s_vl; rw [if_pos d1]
          · rw [m_off _ _ _ _ _ (by omega), j10]; unfold s_ne; rw [if_pos d1]
          · rw [m_off _ _ _ _ _ (by omega), f2 _ _ _ (by omega), f1 _ _ _ (by omega), f0 _ _ _ (by omega)]
      · have ty : s_ty v n b = 2 := by unfold s_ty; rw [if_pos hbn, if_pos d0, if_neg (fun h => d1 h.1)]
        refine ⟨z_si N1 21 0 11 2, ?_, ⟨by rw [m_off _ _ _ _ _ (by omega), g13], by rw [m_same, ty]; rfl, fun _ => ⟨?_, ?_⟩, fun h => by omega⟩, fun a x c h => ?_⟩
        · rw [M_n0 ho k1 g10 (by omega) d1]
          unfold F_X7_nextToken_b119 F_X7_nextToken_b149
          rw [g10, g13, if_neg (by rw [n_le (by omega) (by omega)]; omega), n_sub (by omega), if_pos (by rw [n_2, n_le (by omega) (by omega)]; omega)]
        · rw [m_off _ _ _ _ _ (by omega), g12]; unfold s_vl; rw [if_neg d1]
        · rw [m_off _ _ _ _ _ (by omega), g10]; unfold s_ne; rw [if_neg d1]
        · rw [m_off _ _ _ _ _ (by omega), f1 _ _ _ (by omega), f0 _ _ _ (by omega)]
    · have hvb := ho.2 b hbn
      have hz : z_in (nI b) 100 := by rw [n_in (by omega) (by omega)]; omega
      have fin : ∀ x, F_X7_nextToken_b216 x (z_si N0 21 0 12 (nI (v b))) = some (z_si (z_si (z_si N0 21 0 12 (nI (v b))) 21 0 11 x) 21 0 10 (nI (b + 1))) := fun x => by
        unfold F_X7_nextToken_b216
        rw [z_nmM_e, m_off _ _ _ _ _ (by omega), m_off _ _ _ _ _ (by omega), e10, n_1, nI_add]
      have fr : ∀ x, m_tk M (z_si (z_si (z_si N0 21 0 12 (nI (v b))) 21 0 11 x) 21 0 10 (nI (b + 1))) := fun x a y c h => by
        rw [m_off _ _ _ _ _ (by omega), m_off _ _ _ _ _ (by omega), m_off _ _ _ _ _ (by omega), f0 _ _ _ (by omega)]
      have q13 : ∀ x, z_gi (z_si (z_si (z_si N0 21 0 12 (nI (v b))) 21 0 11 x) 21 0 10 (nI (b + 1))) 21 0 13 = nI b := fun x => by
        rw [m_off _ _ _ _ _ (by omega), m_off _ _ _ _ _ (by omega), m_off _ _ _ _ _ (by omega), e13]
      rw [M_n0 ho k0 e10 (by omega) d0]
      unfold F_X7_nextToken_b119 F_X7_nextToken_b211
      simp only [e10, e13, e11, n_cl (show b < 2 ^ 31 by omega), k0.2 b hbn, z_grd_t hz, z_nmM_e, m_same, M_bw (lo := 97) (hi := 122) (L := 97) (U := 122), Option.bind_some, b1_if, fin]
      rw [if_pos (Int32.le_refl _), if_pos trivial]
      by_cases hs : s_sg (v b)
      · have ty : s_ty v n b = 1 := by unfold s_ty; rw [if_pos hbn, if_neg d0, if_pos hs]
        refine ⟨_, ?_, ⟨q13 1, ?_, fun h => by omega, fun _ => ⟨?_, m_same _ _ _ _ _⟩⟩, fr 1⟩
        · by_cases h1 : bw 97 122 (nI (v b))
          · rw [if_pos h1]
          · rw [if_neg h1]
            have h1' : ¬ (97 ≤ v b ∧ v b ≤ 122) := fun k => h1 (bw_n k.1 k.2 (by decide))
            by_cases h2 : v b = 44
            · rw [if_pos (by rw [h2]; rfl)]
            · rw [if_neg (by rw [n_44, n_eq (by omega) (by omega)]; exact h2), if_pos (by rw [show v b = 59 by omega]; rfl)]
        · rw [m_off _ _ _ _ _ (by omega), m_same, ty]; rfl
        · rw [m_off _ _ _ _ _ (by omega), m_off _ _ _ _ _ (by omega), m_same]
      · have ty : s_ty v n b = 0 := by unfold s_ty; rw [if_pos hbn, if_neg d0, if_neg hs]
        refine ⟨_, ?_, ⟨q13 0, ?_, fun h => by omega, fun h => by omega⟩, fr 0⟩
        · have h1 : ¬ bw 97 122 (nI (v b)) := fun k => by
            have := (bw_iff (by decide) (by decide)).mp k
            rw [nI_toInt (by omega)] at this
            omega
          rw [if_neg h1, if_neg (by rw [n_44, n_eq (by omega) (by omega)]; omega), if_neg (by rw [show (59 : Int32) = nI 59 from rfl, n_eq (by omega) (by omega)]; omega)]
        · rw [m_off _ _ _ _ _ (by omega), m_same, ty]; rfl
  · have e : b = n := by omega
    subst e
    have ty : s_ty v b b = 3 := by unfold s_ty; rw [if_neg (by omega)]
    rw [if_pos rfl, M_nB]
    obtain ⟨N0, hN0⟩ : ∃ N0, N0 = z_si (z_si (z_si M 21 0 13 (nI b)) 21 0 11 3) 21 0 12 0 := ⟨_, rfl⟩
    rw [← hN0]
    have f0 : ∀ a x c, (a = 21 → ¬ (11 ≤ c ∧ c ≤ 13)) → z_gi N0 a x c = z_gi M a x c := fun a x c h => by rw [hN0, m_off _ _ _ _ _ (by omega), m_off _ _ _ _ _ (by omega), m_off _ _ _ _ _ (by omega)]
    have k0 : K_r N0 v b := hK.fr (fun a x c h => f0 a x c (by omega))
    have e10 : z_gi N0 21 0 10 = nI b := by rw [f0 _ _ _ (by omega), h10]
    have e11 : z_gi N0 21 0 11 = 3 := by rw [hN0, m_off _ _ _ _ _ (by omega), m_same]
    have e13 : z_gi N0 21 0 13 = nI b := by rw [hN0, m_off _ _ _ _ _ (by omega), m_off _ _ _ _ _ (by omega), m_same]
    refine ⟨N0, ?_, ⟨e13, by rw [e11, ty]; rfl, fun h => by omega, fun h => by omega⟩, fun a x c h => f0 a x c (by omega)⟩
    rw [z_fuel_4, M_n0 ho k0 e10 (by omega) (fun h => by omega)]
    unfold F_X7_nextToken_b119
    rw [e10, e13, if_pos (Int32.le_refl _), e11, if_neg (by decide)]
end
