/-! TOWN: the whole text, and the call -/
section
variable {v : Nat → Nat} {n : Nat}
/-- the whole text, by the class -/
def c_all (M : z_M) : Option (Int32 × z_M) := (F_X2_readLaw M).bind fun q1 => if q1.1 = 0 then some (0, q1.2) else c_tw (F_X2_readTreads q1.2)
/-- the whole text, by the reference -/
def r_all (M : z_M) : Option (Int32 × z_M) := (F_X7_nextToken M).bind fun q2 => (F_X7_takes (116 : Int32) q2).bind fun q4 => if q4.1 = 0 then some (0, q4.2) else (F_X7_takesNumber (0 : Int32) (15 : Int32) (2 : Int32) (44 : Int32) q4.2).bind fun q7 => if q7.1 = 0 then some (0, q7.2) else (F_X7_takesNumber (0 : Int32) (9 : Int32) (3 : Int32) (59 : Int32) q7.2).bind fun q10 => if q10.1 = 0 then some (0, q10.2) else F_X7_readTown_b69 z_fuel 1 q10.2
abbrev Q_0 (v : Nat → Nat) (n : Nat) (N : z_M) : Prop := K_r N v n ∧ z_gi N 21 0 10 = nI 0 ∧ p_T N 28 0 (fun _ => 0)
theorem C_beg {M : z_M} {x y : Nat} : ∃ M', F_X5_begin 28 (nI x) (nI y) M = some M' ∧ p_C M' 28 (z_up (z_up (fun _ => 0) 2 x) 3 y) ∧ ∀ a b c, ¬ (a = 7 ∧ b = 28) → z_gi M' a b c = z_gi M a b c := by
  refine ⟨_, rfl, ⟨⟨?_, ?_, ?_, ?_, ?_⟩, fun t ht => ?_, fun w hw => ?_⟩, fun a b c h => ?_⟩
  · rw [m_off _ _ _ _ _ (by omega), m_same]; rfl
  · rw [m_same]; rfl
  · rw [m_off _ _ _ _ _ (by omega), m_off _ _ _ _ _ (by omega), m_off _ _ _ _ _ (by omega), m_off _ _ _ _ _ (by omega), m_same]; rfl
  · rw [m_off _ _ _ _ _ (by omega), m_off _ _ _ _ _ (by omega), m_off _ _ _ _ _ (by omega), m_same]; rfl
  · rw [m_off _ _ _ _ _ (by omega), m_off _ _ _ _ _ (by omega), m_same]; rfl
  · have ht : t < 0 := ht
    omega
  · have hw : w < 0 := hw
    omega
  · rw [m_off _ _ _ _ _ (by omega), m_off _ _ _ _ _ (by omega), m_off _ _ _ _ _ (by omega), m_off _ _ _ _ _ (by omega), m_off _ _ _ _ _ (by omega)]
theorem L_all (ho : K_o v n) {M : z_M} (hK : K_c M v n) (hb : z_gi M 5 0 3 = nI 0) : U_out v n M (c_all M) (Q_0 v n) r_all S_t := by
  have hn := ho.1
  obtain ⟨G2, hG2⟩ : ∃ G2 : Int32 → Int32 → z_M → Option (Int32 × z_M), G2 = fun x y q => (F_X5_begin 28 x y q).bind fun q16 => some (1, q16) := ⟨_, rfl⟩
  obtain ⟨G1, hG1⟩ : ∃ G1 : Int32 → z_M → Option (Int32 × z_M), G1 = fun x q => ((F_X2_readNumber (nI 0) (nI 9) q).bind fun q4 => if q4.1 = ((-1) : Int32) then some (0, q4.2) else (F_X2_readSign (nI 59) q4.2).bind fun q7 => if q7.1 = 0 then some (0, q7.2) else G2 x q4.1 q7.2) := ⟨_, rfl⟩
  have el : F_X2_readLaw M = (F_X2_readSign (nI 116) M).bind fun q1 => if q1.1 = 0 then some (0, q1.2) else ((F_X2_readNumber (nI 0) (nI 15) q1.2).bind fun q4 => if q4.1 = ((-1) : Int32) then some (0, q4.2) else (F_X2_readSign (nI 44) q4.2).bind fun q7 => if q7.1 = 0 then some (0, q7.2) else G1 q4.1 q7.2) := by
    rw [hG1, hG2]; rfl
  have rt : ∀ N, Q_0 v n N → ∃ N1, F_X7_nextToken N = some N1 ∧ K_r N1 v n ∧ K_k N1 v n 0 ∧ p_T N1 28 0 (fun _ => 0) ∧ m_rp N N1 := fun N hN => by
    obtain ⟨N1, k1, k2, k3⟩ := M_next ho hN.1 hN.2.1 (by omega)
    exact ⟨N1, k1, hN.1.fr k3, k2, hN.2.2.fr (fun c => k3 28 0 c (by omega)), m_tk.rp k3⟩
  by_cases ok1 : 0 < n ∧ v 0 = 116
  · obtain ⟨M1, hM1⟩ : ∃ M1, M1 = z_si M 5 0 3 (nI (0 + 1)) := ⟨_, rfl⟩
    have e1 : F_X2_readLaw M = ((F_X2_readNumber (nI 0) (nI 15) M1).bind fun q4 => if q4.1 = ((-1) : Int32) then some (0, q4.2) else (F_X2_readSign (nI 44) q4.2).bind fun q7 => if q7.1 = 0 then some (0, q7.2) else G1 q4.1 q7.2) := by
      rw [el, C_sign ho hK hb (by omega) (by omega), if_pos ok1, ← hM1, Option.bind_some, if_neg (show ¬ (1 : Int32) = 0 by decide)]
    have f1 : ∀ a x c, ¬ (a = 5 ∧ c = 3) → z_gi M1 a x c = z_gi M a x c := fun a x c h => by rw [hM1, m_off _ _ _ _ _ (by omega)]
    have hK1 : K_c M1 v n := hK.fr (fun a x c h _ => f1 a x c (by omega))
    have b1 : z_gi M1 5 0 3 = nI 1 := by rw [hM1, m_same]
    obtain ⟨ct, cf⟩ := C_tn ho hK1 (b := 1) (lo := 0) (hi := 15) (s := 44) b1 (by omega) (by omega) (by omega) (by omega) G1
    have rt1 : ∀ N, Q_0 v n N → ∃ N1, K_r N1 v n ∧ K_k N1 v n 1 ∧ p_T N1 28 0 (fun _ => 0) ∧ m_rp N N1 ∧ r_all N = (F_X7_takesNumber (nI 0) (nI 15) (nI 2) (nI 44) N1).bind fun q7 => if q7.1 = 0 then some (0, q7.2) else (F_X7_takesNumber (nI 0) (nI 9) (nI 3) (nI 59) q7.2).bind fun q10 => if q10.1 = 0 then some (0, q10.2) else F_X7_readTown_b69 z_fuel 1 q10.2 := fun N hN => by
      obtain ⟨N1, k1, k2, k3, k4, k5⟩ := rt N hN
      obtain ⟨N2, l1, l2, l3⟩ := (M_takes ho k2 k3 (s := 116) (by decide)).1 ok1
      refine ⟨N2, k2.fr l3, l2, k4.fr (fun c => l3 28 0 c (by omega)), k5.tr (m_tk.rp l3), ?_⟩
      unfold r_all
      rw [k1, Option.bind_some, show F_X7_takes 116 N1 = some (1, N2) from l1, Option.bind_some, if_neg (show ¬ (1 : Int32) = 0 by decide)]
      rfl
    by_cases ok2 : s_nok v n 1 0 15 44
    · have hv2 := s_vl_le ho (s_ty2 ok2.1)
      obtain ⟨M2, hM2⟩ : ∃ M2, M2 = z_si (z_si M1 5 0 3 (nI (s_ne v n 1))) 5 0 3 (nI (s_ne v n 1 + 1)) := ⟨_, rfl⟩
      have ct' := ct ok2
      rw [← hM2] at ct'
      have eg1 : G1 (nI (s_vl v n 1)) M2 = ((F_X2_readNumber (nI 0) (nI 9) M2).bind fun q4 => if q4.1 = ((-1) : Int32) then some (0, q4.2) else (F_X2_readSign (nI 59) q4.2).bind fun q7 => if q7.1 = 0 then some (0, q7.2) else G2 (nI (s_vl v n 1)) q4.1 q7.2) := by rw [hG1]
      have f2 : ∀ a x c, ¬ (a = 5 ∧ c = 3) → z_gi M2 a x c = z_gi M a x c := fun a x c h => by rw [hM2, m_off _ _ _ _ _ (by omega), m_off _ _ _ _ _ (by omega), f1 _ _ _ h]
      have hK2 : K_c M2 v n := hK.fr (fun a x c h _ => f2 a x c (by omega))
      have b2 : z_gi M2 5 0 3 = nI (s_ne v n 1 + 1) := by rw [hM2, m_same]
      have hl2 : s_ne v n 1 + 1 ≤ n := by have := ok2.2.2.1; omega
      obtain ⟨dt, df⟩ := C_tn ho hK2 (b := s_ne v n 1 + 1) (lo := 0) (hi := 9) (s := 59) b2 hl2 (by omega) (by omega) (by omega) (G2 (nI (s_vl v n 1)))
      have rt2 : ∀ N, Q_0 v n N → ∃ N1, K_r N1 v n ∧ K_k N1 v n (s_ne v n 1 + 1) ∧ p_T N1 28 0 (z_up (fun _ => 0) 2 (s_vl v n 1)) ∧ m_rp N N1 ∧ r_all N = (F_X7_takesNumber (nI 0) (nI 9) (nI 3) (nI 59) N1).bind fun q10 => if q10.1 = 0 then some (0, q10.2) else F_X7_readTown_b69 z_fuel 1 q10.2 := fun N hN => by
        obtain ⟨N1, k1, k2, k3, k4, k5⟩ := rt1 N hN
        obtain ⟨N2, l1, l2, l3⟩ := (M_tn ho k1 k2 (lo := 0) (hi := 15) (s := 44) (idx := 2) (by omega) (by omega) (by decide) (by omega)).1 ok2
        have hr : m_rp N1 N2 := fun a x c h h2 => by rw [l3 a x c (by omega), m_off _ _ _ _ _ (by omega)]
        exact ⟨N2, k1.rp hr, l2, (k3.set28 _ _).fr (fun c => l3 28 0 c (by omega)), k4.tr hr, by rw [k5, l1, Option.bind_some, if_neg (show ¬ (1 : Int32) = 0 by decide)]⟩
      by_cases ok3 : s_nok v n (s_ne v n 1 + 1) 0 9 59
      · have hv3 := s_vl_le ho (s_ty2 ok3.1)
        obtain ⟨M3, hM3⟩ : ∃ M3, M3 = z_si (z_si M2 5 0 3 (nI (s_ne v n (s_ne v n 1 + 1)))) 5 0 3 (nI (s_ne v n (s_ne v n 1 + 1) + 1)) := ⟨_, rfl⟩
        have dt' := dt ok3
        rw [← hM3] at dt'
        have eg2 : G2 (nI (s_vl v n 1)) (nI (s_vl v n (s_ne v n 1 + 1))) M3 = (F_X5_begin 28 (nI (s_vl v n 1)) (nI (s_vl v n (s_ne v n 1 + 1))) M3).bind fun q16 => some (1, q16) := by rw [hG2]
        have f3 : ∀ a x c, ¬ (a = 5 ∧ c = 3) → z_gi M3 a x c = z_gi M a x c := fun a x c h => by rw [hM3, m_off _ _ _ _ _ (by omega), m_off _ _ _ _ _ (by omega), f2 _ _ _ h]
        have b3 : z_gi M3 5 0 3 = nI (s_ne v n (s_ne v n 1 + 1) + 1) := by rw [hM3, m_same]
        obtain ⟨M4, g1, g2, g3⟩ := C_beg (M := M3) (x := s_vl v n 1) (y := s_vl v n (s_ne v n 1 + 1))
        have hm : m_cp M M4 := fun a x c h h2 => by rw [g3 _ _ _ (by omega), f3 _ _ _ (by omega)]
        have ec : c_all M = c_tw (F_X2_readTreads M4) := by
          unfold c_all
          rw [e1, ct', eg1, dt', eg2, g1, Option.bind_some, Option.bind_some, if_neg (show ¬ (1 : Int32) = 0 by decide)]
        have hW : p_W (z_up (z_up (fun _ => 0) 2 (s_vl v n 1)) 3 (s_vl v n (s_ne v n 1 + 1))) := by
          have a2 := ok2.2.1
          have a3 := ok3.2.1
          refine ⟨?_, fun t ht => ?_, fun t ht => ?_, fun x hx => ?_⟩
          · rw [z_up_ne (by omega), z_up_ne (by omega), z_up_ne (by omega), z_up_ne (by omega), z_up_ne (by omega), z_up_eq, z_up_eq, z_up_ne (by omega), z_up_ne (by omega)]
            omega
          · have ht : t < 0 := ht
            omega
          · rw [z_up_ne (by omega), z_up_ne (by omega)]
          · have hx : x < 0 := hx
            omega
        have u := T_all ho 8 0 z_fuel z_fuel (s_ne v n (s_ne v n 1 + 1) + 1) _ M4 (by omega) (by unfold z_fuel; omega) (by unfold z_fuel; omega) (hK.fr hm) (by rw [g3 _ _ _ (by omega), b3]) (by have := ok3.2.2.1; omega) hW rfl rfl g2
        refine u.step ec hm (by rw [g3 _ _ _ (by omega), f3 _ _ _ (by omega)]) (fun N hN => ?_)
        obtain ⟨N1, k1, k2, k3, k4, k5⟩ := rt2 N hN
        obtain ⟨N2, l1, l2, l3⟩ := (M_tn ho k1 k2 (lo := 0) (hi := 9) (s := 59) (idx := 3) (by omega) (by omega) (by decide) (by omega)).1 ok3
        have hr : m_rp N1 N2 := fun a x c h h2 => by rw [l3 a x c (by omega), m_off _ _ _ _ _ (by omega)]
        exact ⟨N2, ⟨k1.rp hr, l2, (k3.set28 _ _).fr (fun c => l3 28 0 c (by omega))⟩, by rw [k5, l1, Option.bind_some, if_neg (show ¬ (1 : Int32) = 0 by decide)], k4.tr hr⟩
      · obtain ⟨M', c1, c2, c3, c4⟩ := df ok3
        refine Or.inl ⟨(s_nf v n (s_ne v n 1 + 1) 0 9).1, (s_nf v n (s_ne v n 1 + 1) 0 9).2, ⟨M', ?_, c2, c3, fun a x c h h2 => by rw [c4 a x c h h2, f2 _ _ _ (by omega)]⟩, fun N hN => ?_⟩
        · unfold c_all
          rw [e1, ct', eg1, c1, Option.bind_some, if_pos rfl]
        · obtain ⟨N1, k1, k2, k3, k4, k5⟩ := rt2 N hN
          obtain ⟨N2, l1, l2, l3, l4⟩ := (M_tn ho k1 k2 (lo := 0) (hi := 9) (s := 59) (idx := 3) (by omega) (by omega) (by decide) (by omega)).2 ok3
          exact ⟨N2, by rw [k5, l1, Option.bind_some, if_pos rfl], l2, l3, k4.tr l4⟩
    · obtain ⟨M', c1, c2, c3, c4⟩ := cf ok2
      refine Or.inl ⟨(s_nf v n 1 0 15).1, (s_nf v n 1 0 15).2, ⟨M', ?_, c2, c3, fun a x c h h2 => by rw [c4 a x c h h2, f1 _ _ _ (by omega)]⟩, fun N hN => ?_⟩
      · unfold c_all
        rw [e1, c1, Option.bind_some, if_pos rfl]
      · obtain ⟨N1, k1, k2, k3, k4, k5⟩ := rt1 N hN
        obtain ⟨N2, l1, l2, l3, l4⟩ := (M_tn ho k1 k2 (lo := 0) (hi := 15) (s := 44) (idx := 2) (by omega) (by omega) (by decide) (by omega)).2 ok2
        exact ⟨N2, by rw [k5, l1, Option.bind_some, if_pos rfl], l2, l3, k4.tr l4⟩
  · refine Or.inl ⟨1, 0, ⟨z_si (z_si M 5 0 4 1) 5 0 5 (nI 0), ?_, ?_, m_same _ _ _ _ _, fun a x c h h2 => by rw [m_off _ _ _ _ _ (by omega), m_off _ _ _ _ _ (by omega)]⟩, fun N hN => ?_⟩
    · unfold c_all
      rw [el, C_sign ho hK hb (by omega) (by omega), if_neg ok1, Option.bind_some, if_pos rfl, Option.bind_some, if_pos rfl]
    · rw [m_off _ _ _ _ _ (by omega), m_same]; rfl
    · obtain ⟨N1, k1, k2, k3, k4, k5⟩ := rt N hN
      have l1 := (M_takes ho k2 k3 (s := 116) (by decide)).2 ok1
      refine ⟨z_si N1 21 0 14 1, ?_, m_same _ _ _ _ _, by rw [m_off _ _ _ _ _ (by omega), k3.1], fun a x c h h2 => by rw [m_off _ _ _ _ _ (by omega), k5 a x c h h2]⟩
      unfold r_all
      rw [k1, Option.bind_some, show F_X7_takes 116 N1 = _ from l1, Option.bind_some, if_pos rfl]
end
theorem M_zeroL : ∀ d j fu (N : z_M), j + d = 49 → d < fu → ∃ N', F_X7_readTown_b7 fu (nI j) N = r_all N' ∧ m_of (fun a _ => a = 28) N N' ∧ ∀ c, z_gi N' 28 0 c = if j ≤ c ∧ c < 49 then 0 else z_gi N 28 0 c := by
  intro d
  induction d with
  | zero =>
    intro j fu N h1 h2
    obtain ⟨fu, rfl⟩ : ∃ k', fu = k' + 1 := ⟨fu - 1, by omega⟩
    exact ⟨N, by rw [F_X7_readTown_b7, if_pos (by rw [n_49, n_le (by omega) (by omega)]; omega)]; rfl, m_of.rf, fun c => by rw [if_neg (by omega)]⟩
  | succ d ih =>
    intro j fu N h1 h2
    obtain ⟨fu, rfl⟩ : ∃ k', fu = k' + 1 := ⟨fu - 1, by omega⟩
    obtain ⟨N', i1, i2, i3⟩ := ih (j + 1) fu (z_si N 28 0 j 0) (by omega) (by omega)
    refine ⟨N', ?_, (m_of.si (S := fun a _ => a = 28) m_of.rf rfl).tr i2, fun c => ?_⟩
    · rw [F_X7_readTown_b7, if_neg (by rw [n_49, n_le (by omega) (by omega)]; omega), z_grd_t (by rw [n_in (by omega) (by omega)]; omega), n_cl (by omega), n_1, nI_add]
      exact i1
    · rw [i3 c]
      by_cases hc : c = j
      · subst hc
        rw [if_neg (by omega), m_same, if_pos (by omega)]
      · by_cases hc2 : j + 1 ≤ c ∧ c < 49
        · rw [if_pos hc2, if_pos (by omega)]
        · rw [if_neg hc2, m_off _ _ _ _ _ (by omega), if_neg (by omega)]
theorem M_townL : ∀ d j fu (N : z_M), j + d = 49 → d < fu → ∃ N', F_X7_town_b32 fu (nI j) N = some (z_gi N' 25 0 0, z_si (z_si N' 21 0 4 1) 21 0 17 0) ∧ m_of (fun a _ => a = 25) N N' ∧ ∀ c, z_gi N' 25 0 c = if j ≤ c ∧ c < 49 then z_gi N 28 0 c else z_gi N 25 0 c := by
  intro d
  induction d with
  | zero =>
    intro j fu N h1 h2
    obtain ⟨fu, rfl⟩ : ∃ k', fu = k' + 1 := ⟨fu - 1, by omega⟩
    refine ⟨N, ?_, m_of.rf, fun c => by rw [if_neg (by omega)]⟩
    rw [F_X7_town_b32, if_pos (by rw [n_49, n_le (by omega) (by omega)]; omega), z_nmM_e, z_nmM_e, z_grd_t (by decide), m_off _ _ _ _ _ (by omega), m_off _ _ _ _ _ (by omega)]
    rfl
  | succ d ih =>
    intro j fu N h1 h2
    obtain ⟨fu, rfl⟩ : ∃ k', fu = k' + 1 := ⟨fu - 1, by omega⟩
    obtain ⟨N', i1, i2, i3⟩ := ih (j + 1) fu (z_si N 25 0 j (z_gi N 28 0 j)) (by omega) (by omega)
    refine ⟨N', ?_, (m_of.si (S := fun a _ => a = 25) m_of.rf rfl).tr i2, fun c => ?_⟩
    · rw [F_X7_town_b32, if_neg (by rw [n_49, n_le (by omega) (by omega)]; omega), z_grd_t (by rw [n_in (by omega) (by omega)]; omega), z_grd_t (by rw [n_in (by omega) (by omega)]; omega), n_cl (by omega), n_1, nI_add]
      exact i1
    · rw [i3 c]
      by_cases hc : c = j
      · subst hc
        rw [if_neg (by omega), m_same, if_pos (by omega)]
      · by_cases hc2 : j + 1 ≤ c ∧ c < 49
        · rw [if_pos hc2, m_off _ _ _ _ _ (by omega), if_pos (by omega)]
        · rw [if_neg hc2, m_off _ _ _ _ _ (by omega), if_neg (by omega)]
theorem C_tape (M : z_M) : F_X2_readTape M = (c_all (z_si M 5 0 3 0)).bind fun q => if q.1 = 0 then F_X2_readTape_b30 q.2 else F_X2_readTape_b31 1 q.2 := by
  unfold F_X2_readTape c_all c_tw
  cases F_X2_readLaw (z_si M 5 0 3 0) with
  | none => rfl
  | some q =>
    rw [Option.bind_some, Option.bind_some]
    by_cases h : q.1 = 0
    · rw [if_pos h, if_pos h, Option.bind_some, if_pos rfl]
    · rw [if_neg h, if_neg h]
      cases F_X2_readTreads q.2 with
      | none => rfl
      | some q5 =>
        rw [Option.bind_some, Option.bind_some]
        by_cases h5 : q5.1 = 0
        · rw [if_pos h5, if_pos h5, Option.bind_some, if_pos rfl]
        · rw [if_neg h5, if_neg h5]
theorem eq_town {M : z_M} (hR : z_Rel M) : ∃ (r : Int32) (M1 : z_M) (M2 : z_M), F_X6_town M = some (r, M1) ∧ F_X7_town M1 = some (r, M2) ∧ z_Rel M2 := by
  have hR0 := hR
  obtain ⟨r1, r2, ⟨n, h1, h2, h3, h4⟩, r4, r5, r6, r7, r8⟩ := hR
  obtain ⟨v, hvv⟩ : ∃ v : Nat → Nat, v = fun j => (z_gi M 6 0 j).toNatClampNeg := ⟨_, rfl⟩
  have hv : ∀ j, j < n → v j ≤ 255 ∧ z_gi M 6 0 j = nI (v j) ∧ z_gi M 27 0 j = nI (v j) := fun j hj => by
    obtain ⟨u, k1, k2, k3⟩ := h4 j hj
    have : v j = u := by rw [hvv]; show (z_gi M 6 0 j).toNatClampNeg = u; rw [k2, n_cl (by omega)]
    rw [this]; exact ⟨k1, k2, k3⟩
  have ho : K_o v n := ⟨h1, fun j hj => (hv j hj).1⟩
  have hK : K_c (z_si M 5 0 3 0) v n := ⟨by rw [m_off _ _ _ _ _ (by omega), h2], fun j hj => by rw [m_off _ _ _ _ _ (by omega)]; exact (hv j hj).2.1⟩
  have hL := L_all ho hK (m_same _ _ _ _ _)
  -- the reference, on any memory that the class leaves
  have rr : ∀ M1, (∀ a b c, a ≠ 5 → ¬ (7 ≤ a ∧ a ≤ 12) → z_gi M1 a b c = z_gi M a b c) → ∃ N, Q_0 v n N ∧ F_X7_readTown M1 = r_all N ∧ ∀ a b c, (a = 21 → c ≠ 10) → a ≠ 28 → z_gi N a b c = z_gi M1 a b c := fun M1 e => by
    obtain ⟨N, i1, i2, i3⟩ := M_zeroL 49 0 z_fuel (z_si M1 21 0 10 0) (by omega) (by unfold z_fuel; omega)
    refine ⟨N, ⟨⟨?_, fun j hj => ?_⟩, ?_, fun j hj => ?_⟩, i1, fun a b c k1 k2 => by rw [i2 a b k2, m_off _ _ _ _ _ (by omega)]⟩
    · rw [i2 21 0 (by omega), m_off _ _ _ _ _ (by omega), e _ _ _ (by omega) (by omega), h3]
    · rw [i2 27 0 (by omega), m_off _ _ _ _ _ (by omega), e _ _ _ (by omega) (by omega)]; exact (hv j hj).2.2
    · rw [i2 21 0 (by omega), m_same]; rfl
    · rw [i3, if_pos (by omega)]; rfl
  unfold F_X6_town F_X7_town
  rw [C_tape]
  rcases hL with ⟨x, p, ⟨M', i1, i2, i3, i4⟩, j⟩ | ⟨b', f, ⟨M', i1, ⟨s1, s2, s3⟩, i3, i4⟩, j⟩
  · obtain ⟨M1, hM1⟩ : ∃ M1, M1 = z_si M' 5 0 2 0 := ⟨_, rfl⟩
    have e1 : ∀ a b c, (a = 5 → ¬ (2 ≤ c ∧ c ≤ 5)) → ¬ (7 ≤ a ∧ a ≤ 11 ∧ b = 28) → z_gi M1 a b c = z_gi M a b c := fun a b c k1 k2 => by rw [hM1, m_off _ _ _ _ _ (by omega), i4 a b c (by omega) k2, m_off _ _ _ _ _ (by omega)]
    have q5 : z_gi M1 5 0 5 = nI p := by rw [hM1, m_off _ _ _ _ _ (by omega), i3]
    have q4 : z_gi M1 5 0 4 = nI x := by rw [hM1, m_off _ _ _ _ _ (by omega), i2]
    have q2 : z_gi M1 5 0 2 = 0 := by rw [hM1, m_same]
    obtain ⟨N, n1, n2, n3⟩ := rr M1 (fun a b c k1 k2 => e1 a b c (by omega) (by omega))
    obtain ⟨N', l1, l2, l3, l4⟩ := j N n1
    refine ⟨(-1000100) - nI p, M1, z_si (z_si N' 21 0 8 0) 21 0 9 (nI x), ?_, ?_, ?_⟩
    · rw [i1, Option.bind_some, if_pos rfl]
      unfold F_X2_readTape_b30 F_X2_readTape_b31 F_X2_faultPlace
      rw [if_pos rfl, Option.bind_some, ← q5, hM1]
      rfl
    · rw [n2, l1, Option.bind_some, if_pos rfl, z_nmM_e, z_nmM_e]
      simp (disch := omega) only [m_off, l2, l3]
    · have o : ∀ a b c, (a = 21 → ¬ (8 ≤ c ∧ c ≤ 14)) → a ≠ 28 → z_gi (z_si (z_si N' 21 0 8 0) 21 0 9 (nI x)) a b c = z_gi M1 a b c := fun a b c k1 k2 => by rw [m_off _ _ _ _ _ (by omega), m_off _ _ _ _ _ (by omega), l4 a b c (by omega) k2, n3 a b c (by omega) k2]
      have k : ∀ a b c, (a = 21 → ¬ (8 ≤ c ∧ c ≤ 14)) → a ≠ 28 → (a = 5 → ¬ (2 ≤ c ∧ c ≤ 5)) → ¬ (7 ≤ a ∧ a ≤ 11 ∧ b = 28) → z_gi (z_si (z_si N' 21 0 8 0) 21 0 9 (nI x)) a b c = z_gi M a b c := fun a b c k1 k2 k3 k4 => by rw [o a b c k1 k2, e1 a b c k3 k4]
      refine ⟨r1.fr (fun a b _ ha c => k _ _ _ (by omega) (by omega) (by omega) (by omega)), r2.fr (k _ _ _ (by omega) (by omega) (by omega) (by omega)) (k _ _ _ (by omega) (by omega) (by omega) (by omega)), ⟨0, by omega, ?_, ?_, fun j hj => absurd hj (Nat.not_lt_zero _)⟩, ?_, r5.fr (fun a _ _ c => k _ _ _ (by omega) (by omega) (by omega) (by omega)) (fun c => k _ _ _ (by omega) (by omega) (by omega) (by omega)) (k _ _ _ (by omega) (by omega) (by omega) (by omega)), r6.fr (fun a _ _ b _ c => k _ _ _ (by omega) (by omega) (by omega) (by omega)) (fun a _ c => k _ _ _ (by omega) (by omega) (by omega) (by omega)) (k _ _ _ (by omega) (by omega) (by omega) (by omega)) (k _ _ _ (by omega) (by omega) (by omega) (by omega)), r7.fr (fun a _ _ b _ c => k _ _ _ (by omega) (by omega) (by omega) (by omega)) (fun a _ c => k _ _ _ (by omega) (by omega) (by omega) (by omega)) (k _ _ _ (by omega) (by omega) (by omega) (by omega)), r8.fr (k _ _ _ (by omega) (by omega) (by omega) (by omega)) (k _ _ _ (by omega) (by omega) (by omega) (by omega)) (fun a _ c => k _ _ _ (by omega) (by omega) (by omega) (by omega))⟩
      · rw [o _ _ _ (by omega) (by omega), q2]; rfl
      · rw [m_off _ _ _ _ _ (by omega), m_same]; rfl
      · unfold R4
        rw [o _ _ _ (by omega) (by omega), q4, m_same]
  · have hV := s1.1
    obtain ⟨M0, hM0⟩ : ∃ M0, M0 = z_si M' 5 0 2 0 := ⟨_, rfl⟩
    have c28 : p_C M0 28 f := by rw [hM0]; exact s3.fr (fun a _ _ c => m_off _ _ _ _ _ (by omega))
    obtain ⟨M00, t1, t2, t3⟩ := C_take (i := 24) (j := 28) (by decide) c28 (by omega) (by omega)
    obtain ⟨M1, hM1⟩ : ∃ M1, M1 = z_si M00 12 0 2 0 := ⟨_, rfl⟩
    have e1 : ∀ a b c, (a = 5 → c ≠ 2 ∧ c ≠ 3 ∧ c ≠ 5) → ¬ (7 ≤ a ∧ a ≤ 11 ∧ (b = 28 ∨ b = 24)) → ¬ (a = 12 ∧ c = 2) → (a = 5 → c = 4 → b = 0) → z_gi M1 a b c = z_gi M a b c := fun a b c k1 k2 k3 k4 => by
      rw [hM1, m_off _ _ _ _ _ (by omega), t2 a b (by omega), hM0, m_off _ _ _ _ _ (by omega)]
      by_cases e5 : a = 5 ∧ c = 4
      · obtain ⟨rfl, rfl⟩ := e5
        rw [k4 rfl rfl, i3, m_off _ _ _ _ _ (by omega)]
      · rw [i4 a b c (by omega) (by omega), m_off _ _ _ _ _ (by omega)]
    have q2 : z_gi M1 5 0 2 = 0 := by rw [hM1, m_off _ _ _ _ _ (by omega), t2 5 0 (by omega), hM0, m_same]
    have c24 : p_C M1 24 f := by rw [hM1]; exact t3.fr (fun a _ _ c => m_off _ _ _ _ _ (by omega))
    obtain ⟨N, n1, n2, n3⟩ := rr M1 (fun a b c k1 k2 => e1 a b c (by omega) (by omega) (by omega) (by omega))
    obtain ⟨N', l1, -, l2, l4⟩ := j N n1
    obtain ⟨N2, g1, g2, g3⟩ := M_townL 49 0 z_fuel (z_si N' 21 0 8 0) (by omega) (by unfold z_fuel; omega)
    have g25 : ∀ c, c < 49 → z_gi N2 25 0 c = nI (f c) := fun c hc => by rw [g3, if_pos (by omega), m_off _ _ _ _ _ (by omega), M_rd l2 hc]
    refine ⟨nI (f 0), M1, z_si (z_si N2 21 0 4 1) 21 0 17 0, ?_, ?_, ?_⟩
    · rw [i1, Option.bind_some, if_neg (show ¬ (1 : Int32) = 0 by decide)]
      unfold F_X2_readTape_b31
      rw [if_neg (show ¬ (1 : Int32) = 0 by decide), Option.bind_some]
      show z_grd (28 < 29) ((F_X5_take 24 (some 28) (z_si M' 5 0 2 0)).bind _) = _
      rw [z_grd_t (by omega), ← hM0, t1, Option.bind_some]
      unfold F_X1_forget F_X5_treadCount
      rw [Option.bind_some, ← hM1, Option.bind_some, c24.1.1]
    · rw [n2, l1, Option.bind_some, if_neg (show ¬ (1 : Int32) = 0 by decide)]
      rw [show F_X7_town_b32 z_fuel 0 (z_si N' 21 0 8 0) = _ from g1, g25 0 (by omega)]
    · have o : ∀ a b c, (a = 21 → c ≠ 4 ∧ c ≠ 8 ∧ c ≠ 17 ∧ ¬ (10 ≤ c ∧ c ≤ 14)) → a ≠ 28 → a ≠ 25 → z_gi (z_si (z_si N2 21 0 4 1) 21 0 17 0) a b c = z_gi M1 a b c := fun a b c k1 k2 k3 => by rw [m_off _ _ _ _ _ (by omega), m_off _ _ _ _ _ (by omega), g2 a b k3, m_off _ _ _ _ _ (by omega), l4 a b c (by omega) k2, n3 a b c (by omega) k2]
      have k : ∀ a b c, (a = 21 → c ≠ 4 ∧ c ≠ 8 ∧ c ≠ 17 ∧ ¬ (10 ≤ c ∧ c ≤ 14)) → a ≠ 28 → a ≠ 25 → (a = 5 → c ≠ 2 ∧ c ≠ 3 ∧ c ≠ 5) → ¬ (7 ≤ a ∧ a ≤ 11 ∧ (b = 28 ∨ b = 24)) → ¬ (a = 12 ∧ c = 2) → (a = 5 → c = 4 → b = 0) → z_gi (z_si (z_si N2 21 0 4 1) 21 0 17 0) a b c = z_gi M a b c := fun a b c k1 k2 k3 k4 k5 k6 k7 => by rw [o a b c k1 k2 k3, e1 a b c k4 k5 k6 k7]
      have st : z_gi (z_si (z_si N2 21 0 4 1) 21 0 17 0) 21 0 4 = 1 := by rw [m_off _ _ _ _ _ (by omega), m_same]
      obtain ⟨nx, kp, h, k1, -⟩ := r6
      refine ⟨r1.fr (fun a b _ ha c => k _ _ _ (by omega) (by omega) (by omega) (by omega) (by omega) (by omega) (by omega)), r2.fr (k _ _ _ (by omega) (by omega) (by omega) (by omega) (by omega) (by omega) (by omega)) (k _ _ _ (by omega) (by omega) (by omega) (by omega) (by omega) (by omega) (by omega)), ⟨0, by omega, ?_, ?_, fun j hj => absurd hj (Nat.not_lt_zero _)⟩, r4.fr (k _ _ _ (by omega) (by omega) (by omega) (by omega) (by omega) (by omega) (by omega)) (k _ _ _ (by omega) (by omega) (by omega) (by omega) (by omega) (by omega) (by omega)), ⟨f, c24.fr (fun a _ _ c => o _ _ _ (by omega) (by omega) (by omega)), fun j hj => ?_, Or.inl ⟨s1, by omega, st⟩⟩, ⟨nx, 0, h, ⟨k1.1, by omega, ?_, ?_, fun j hj => absurd hj (Nat.not_lt_zero _)⟩, ⟨by omega, m_same _ _ _ _ _, fun j hj => absurd hj (Nat.not_lt_zero _)⟩, fun j hj => absurd hj (Nat.not_lt_zero _), fun _ => rfl⟩, fun y hy => ?_, r8.fr (k _ _ _ (by omega) (by omega) (by omega) (by omega) (by omega) (by omega) (by omega)) (k _ _ _ (by omega) (by omega) (by omega) (by omega) (by omega) (by omega) (by omega)) (fun a _ c => k _ _ _ (by omega) (by omega) (by omega) (by omega) (by omega) (by omega) (by omega))⟩
      · rw [o _ _ _ (by omega) (by omega) (by omega), q2]; rfl
      · rw [m_off _ _ _ _ _ (by omega), m_off _ _ _ _ _ (by omega), g2 21 0 (by omega), m_same]; rfl
      · rw [m_off _ _ _ _ _ (by omega), m_off _ _ _ _ _ (by omega), Nat.zero_add]; exact g25 j hj
      · rw [k _ _ _ (by omega) (by omega) (by omega) (by omega) (by omega) (by omega) (by omega), k1.2.2.1]
      · rw [o _ _ _ (by omega) (by omega) (by omega), hM1, m_same]; rfl
      · rw [k 31 0 y (by omega) (by omega) (by omega) (by omega) (by omega) (by omega) (by omega), k 7 (25 + y) 4 (by omega) (by omega) (by omega) (by omega) (by omega) (by omega) (by omega), st]
        exact (r7 y hy).imp id (fun ⟨a, s, g, b, c, d, t⟩ => ⟨a, rfl, g, b, c, d.fr (fun a _ _ c => k _ _ _ (by omega) (by omega) (by omega) (by omega) (by omega) (by omega) (by omega)), t.fr (fun c => k _ _ _ (by omega) (by omega) (by omega) (by omega) (by omega) (by omega) (by omega))⟩)
