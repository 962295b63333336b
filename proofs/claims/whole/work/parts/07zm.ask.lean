/-! AS, ASK -/
theorem e_isA {M : z_M} {k w : Nat} (h1 : 1 ≤ k) (h5 : k ≤ 5) (hw : w ≤ 5) : ∃ b : Bool, F_X0_isA (nI k) (nI w) M = some (if b = true then 1 else 0) ∧ F_X7_isKind (nI k) (nI w) M = some (if b = true then 1 else 0) := by
  unfold F_X0_isA
  show ∃ b : Bool, F_X0_isA_b5 M (99990 + 10) (nI w) (nI k) 0 = _ ∧ _
  generalize 99990 = n
  rcases (show k = 1 ∨ k = 2 ∨ k = 3 ∨ k = 4 ∨ k = 5 by omega) with rfl | rfl | rfl | rfl | rfl <;> rcases (show w = 0 ∨ w = 1 ∨ w = 2 ∨ w = 3 ∨ w = 4 ∨ w = 5 by omega) with rfl | rfl | rfl | rfl | rfl | rfl <;> first | exact ⟨true, rfl, rfl⟩ | exact ⟨false, rfl, rfl⟩
theorem eq_as {M : z_M} (hR : z_Rel M) (a1 : Int32) (a2 : Int32) : ∃ (r : Int32) (M1 : z_M) (M2 : z_M), F_X6_as a1 a2 M = some (r, M1) ∧ F_X7_as a1 a2 M1 = some (r, M2) ∧ z_Rel M2 := by
  obtain ⟨f, hc, ht, h8, h5, hVN⟩ := hR.2.2.2.2.1.of
  have no : F_X6_as a1 a2 M = some (-1000001, M) → F_X7_as a1 a2 M = some (-1000001, M) → ∃ (r : Int32) (M1 : z_M) (M2 : z_M), F_X6_as a1 a2 M = some (r, M1) ∧ F_X7_as a1 a2 M1 = some (r, M2) ∧ z_Rel M2 := fun x y => ⟨_, _, _, x, y, hR⟩
  unfold F_X6_as F_X7_as at *
  simp only [C_hasTread hc.1.1 (show f 0 < 2 ^ 31 by omega), C_within (lo := 0) (hi := 5) (L := 0) (U := 5), M_bw (lo := 0) (hi := 5) (L := 0) (U := 5), Option.bind_some, b1_if] at no ⊢
  have q1 : ∀ (N : z_M), p_T N 25 0 f → ∀ x, F_X7_isTread x N = some (b1 (bl (f 0) x)) := fun N h x => M_isTread (M_st h (by decide)) (by omega)
  by_cases h1 : bl (f 0) a1
  · by_cases h2 : bw 0 5 a2
    · obtain ⟨t, htt, rfl⟩ := bl_of h1 (by omega)
      obtain ⟨w, hw, rfl⟩ := bw_nb h2 (by decide)
      rcases hVN with ⟨hv, h9, hs⟩ | hN
      · have hb := hv.tread htt
        have ht0 : ∀ v, p_T (z_si M 0 0 7 v) 25 0 f := fun v => ht.fr (fun c => m_off _ _ _ _ _ (by omega))
        obtain ⟨b, i1, -⟩ := e_isA (M := M) (k := f (5 + t)) (w := w) hb.2.1 hb.2.2.1 hw
        have i2 : ∀ N, F_X7_isKind (nI (f (5 + t))) (nI w) N = some (if b = true then 1 else 0) := fun N => by
          obtain ⟨b', j1, j2⟩ := e_isA (M := N) (k := f (5 + t)) (w := w) hb.2.1 hb.2.2.1 hw
          obtain ⟨b2, k1, k2⟩ := e_isA (M := M) (k := f (5 + t)) (w := w) hb.2.1 hb.2.2.1 hw
          have e3 : F_X7_isKind (nI (f (5 + t))) (nI w) N = F_X7_isKind (nI (f (5 + t))) (nI w) M := rfl
          rw [e3, k2, ← k1, i1]
        have go : ∀ v, F_X7_isTread (nI t) (z_si M 0 0 7 v) = some (b1 (bl (f 0) (nI t))) := fun v => q1 _ (ht0 v) _
        have g5 : ∀ v, z_gi (z_si M 0 0 7 v) 25 0 (5 + t) = nI (f (5 + t)) := fun v => M_st (ht0 v) (by omega)
        have hz : z_in (nI (5 + t)) 49 := by rw [n_in (by omega) (by omega)]; omega
        rw [C_kindOf hc hv htt, Option.bind_some, i1, Option.bind_some]
        unfold F_X6_as_b48
        simp only [z_nmM_e, m_same]
        cases b with
        | true =>
          refine ⟨nI t, z_si M 0 0 7 0, z_si (z_si M 0 0 7 0) 21 0 3 0, ?_, ?_, hR.find 0⟩
          · rw [if_pos h1, if_pos h2, if_pos rfl, if_neg (by decide), if_pos trivial]
          · rw [go, Option.bind_some, b1_if, if_pos h1, if_pos h2, n_5, nI_add, z_grd_t hz, n_cl (by omega), g5, i2, Option.bind_some, if_pos rfl, if_neg (by decide)]
            rfl
        | false =>
          refine ⟨(-1000010) - 3, z_si M 0 0 7 3, z_si (z_si M 0 0 7 3) 21 0 3 3, ?_, ?_, hR.find 3⟩
          · rw [if_pos h1, if_pos h2, if_neg Bool.false_ne_true, if_pos rfl, if_neg (by decide)]
          · rw [go, Option.bind_some, b1_if, if_pos h1, if_pos h2, n_5, nI_add, z_grd_t hz, n_cl (by omega), g5, i2, Option.bind_some, if_neg Bool.false_ne_true, if_pos rfl]
            rfl
      · omega
    · exact no (by rw [if_pos h1, if_neg h2]) (by rw [q1 _ ht, Option.bind_some, b1_if, if_pos h1, if_neg h2])
  · exact no (by rw [if_neg h1]) (by rw [q1 _ ht, Option.bind_some, b1_if, if_neg h1])
/-- what stands in an ask of the class: number, kind, note, worn, the trace so far -/
def p_tr (M : z_M) (k l a : Nat) (L : List Int32) : Prop := z_gi M k 0 l = nI L.length ∧ ∀ j, j < L.length → z_gi M a 0 j = L.getD j 0
theorem p_tr.add {M M' : z_M} {k l a : Nat} {L : List Int32} {x : Int32} (h : p_tr M k l a L) (h1 : z_gi M' k 0 l = nI (L.length + 1)) (h2 : ∀ j, z_gi M' a 0 j = if j = L.length then x else z_gi M a 0 j) : p_tr M' k l a (L ++ [x]) := by
  refine ⟨by rw [h1, List.length_append]; rfl, fun j hj => ?_⟩
  rw [List.length_append] at hj
  have hj : j < L.length + 1 := hj
  rw [h2]
  by_cases e : j = L.length
  · rw [if_pos e, e]
    simp [List.getD]
  · rw [if_neg e, h.2 j (by omega)]
    simp [List.getD, List.getElem?_append_left (show j < L.length by omega)]
def p_ak (M : z_M) (u k n w : Int32) (L : List Int32) : Prop := (z_gi M 19 0 2 = u ∧ z_gi M 19 0 3 = k ∧ z_gi M 19 0 4 = n ∧ z_gi M 19 0 5 = w) ∧ p_tr M 19 1 20 L
abbrev p_af (a b : Nat) : Prop := a = 19 ∨ a = 20
section
variable {M : z_M} {u kd n w : Int32} {L : List Int32}
theorem A_begin (h : p_ak M u kd n w L) (hl : L.length < 16) (x : Int32) : ∃ M', F_X0_begin x M = some M' ∧ p_ak M' u kd n w (L ++ [x]) ∧ m_of p_af M M' := by
  obtain ⟨⟨h2, h3, h4, h5⟩, h1, h6⟩ := h
  refine ⟨z_si (z_si M 20 0 L.length x) 19 0 1 (nI (L.length + 1)), ?_, ⟨⟨?_, ?_, ?_, ?_⟩, ?_⟩, m_of.si (S := p_af) (m_of.si (S := p_af) m_of.rf (Or.inr rfl)) (Or.inl rfl)⟩
  · unfold F_X0_begin
    simp only [h1, n_cl (show L.length < 2 ^ 31 by omega), z_nmM_e]
    rw [if_neg (by rw [n_0, n_lt (by omega) (by omega)]; omega), if_neg (by rw [n_16, n_le (by omega) (by omega)]; omega), z_grd_t (by rw [n_in (by omega) (by omega)]; omega), m_off _ _ _ _ _ (by omega), h1, n_1, nI_add]
  · rw [m_off _ _ _ _ _ (by omega), m_off _ _ _ _ _ (by omega), h2]
  · rw [m_off _ _ _ _ _ (by omega), m_off _ _ _ _ _ (by omega), h3]
  · rw [m_off _ _ _ _ _ (by omega), m_off _ _ _ _ _ (by omega), h4]
  · rw [m_off _ _ _ _ _ (by omega), m_off _ _ _ _ _ (by omega), h5]
  · refine p_tr.add ⟨h1, h6⟩ (m_same _ _ _ _ _) (fun j => ?_)
    rw [m_off _ _ _ _ _ (by omega), m_gs]
    by_cases e : j = L.length
    · rw [if_pos e, if_pos ⟨rfl, rfl, e⟩]
    · rw [if_neg e, if_neg (fun k => e k.2.2)]
theorem A_10 (h : p_ak M u kd n w L) (hl : L.length < 16) {N d : Nat} (hd : d ≤ 8) : ∃ M', F_X0_body (N + 1) 10 (nI d) M = some (n, M') ∧ p_ak M' u kd n w (L ++ [10]) ∧ m_of p_af M M' := by
  obtain ⟨M1, e1, e2, e3⟩ := A_begin h hl 10
  refine ⟨M1, ?_, e2, e3⟩
  rw [F_X0_body, if_pos (show nI d ≤ 8 by rw [n_8, n_le (by omega) (by omega)]; omega), e1, Option.bind_some, z_nmI_e, n_1, nI_add, if_pos rfl, e2.1.2.2.1]
theorem A_20 (h : p_ak M u kd n w L) (hl : L.length < 16) {N d : Nat} (hd : d ≤ 8) : ∃ M', F_X0_body (N + 1) 20 (nI d) M = some (u, M') ∧ p_ak M' u kd n w (L ++ [20]) ∧ m_of p_af M M' := by
  obtain ⟨M1, e1, e2, e3⟩ := A_begin h hl 20
  refine ⟨M1, ?_, e2, e3⟩
  rw [F_X0_body, if_pos (show nI d ≤ 8 by rw [n_8, n_le (by omega) (by omega)]; omega), e1, Option.bind_some, z_nmI_e, n_1, nI_add, if_neg (by decide), if_neg (by decide), if_neg (by decide), if_neg (by decide), if_neg (by decide), if_neg (by decide), if_neg (by decide), if_neg (by decide), if_neg (by decide), if_neg (by decide), if_pos rfl, e2.1.1]
theorem A_21 (h : p_ak M u kd n w L) (hl : L.length + 1 < 16) {N d : Nat} (hd : d + 1 ≤ 8) : ∃ M', F_X0_body (N + 2) 21 (nI d) M = some (u + w, M') ∧ p_ak M' u kd n w (L ++ [21,20]) ∧ m_of p_af M M' := by
  obtain ⟨M1, e1, e2, e3⟩ := A_begin h (by omega) 21
  obtain ⟨M2, i1, i2, i3⟩ := A_20 (N := N) (d := d + 1) e2 (by simp only [List.length_append, List.length_cons, List.length_nil]; omega) (by omega)
  refine ⟨M2, ?_, by rw [List.append_assoc] at i2; exact i2, e3.tr i3⟩
  rw [F_X0_body, if_pos (show nI d ≤ 8 by rw [n_8, n_le (by omega) (by omega)]; omega), e1, Option.bind_some, z_nmI_e, n_1, nI_add, if_neg (by decide), if_neg (by decide), if_neg (by decide), if_neg (by decide), if_neg (by decide), if_neg (by decide), if_neg (by decide), if_neg (by decide), if_neg (by decide), if_neg (by decide), if_neg (by decide), if_pos rfl, i1, Option.bind_some, i2.1.2.2.2]
theorem A_22 (h : p_ak M u kd n w L) (hl : L.length + 2 < 16) {N d : Nat} (hd : d + 2 ≤ 8) : ∃ M', F_X0_body (N + 3) 22 (nI d) M = some ((u + w) - 1000, M') ∧ p_ak M' u kd n w (L ++ [22,21,20]) ∧ m_of p_af M M' := by
  obtain ⟨M1, e1, e2, e3⟩ := A_begin h (by omega) 22
  obtain ⟨M2, i1, i2, i3⟩ := A_21 (N := N) (d := d + 1) e2 (by simp only [List.length_append, List.length_cons, List.length_nil]; omega) (by omega)
  refine ⟨M2, ?_, by rw [List.append_assoc] at i2; exact i2, e3.tr i3⟩
  rw [F_X0_body, if_pos (show nI d ≤ 8 by rw [n_8, n_le (by omega) (by omega)]; omega), e1, Option.bind_some, z_nmI_e, n_1, nI_add, if_neg (by decide), if_neg (by decide), if_neg (by decide), if_neg (by decide), if_neg (by decide), if_neg (by decide), if_neg (by decide), if_neg (by decide), if_neg (by decide), if_neg (by decide), if_neg (by decide), if_neg (by decide), if_pos rfl, i1, Option.bind_some]
theorem A_24 (h : p_ak M u kd n w L) (hl : L.length + 2 < 16) {N d : Nat} (hd : d + 2 ≤ 8) : ∃ M', F_X0_body (N + 3) 24 (nI d) M = some (2 * (u + w), M') ∧ p_ak M' u kd n w (L ++ [24,21,20]) ∧ m_of p_af M M' := by
  obtain ⟨M1, e1, e2, e3⟩ := A_begin h (by omega) 24
  obtain ⟨M2, i1, i2, i3⟩ := A_21 (N := N) (d := d + 1) e2 (by simp only [List.length_append, List.length_cons, List.length_nil]; omega) (by omega)
  refine ⟨M2, ?_, by rw [List.append_assoc] at i2; exact i2, e3.tr i3⟩
  rw [F_X0_body, if_pos (show nI d ≤ 8 by rw [n_8, n_le (by omega) (by omega)]; omega), e1, Option.bind_some, z_nmI_e, n_1, nI_add, if_neg (by decide), if_neg (by decide), if_neg (by decide), if_neg (by decide), if_neg (by decide), if_neg (by decide), if_neg (by decide), if_neg (by decide), if_neg (by decide), if_neg (by decide), if_neg (by decide), if_neg (by decide), if_neg (by decide), if_neg (by decide), if_pos rfl, i1, Option.bind_some]
theorem A_13 (h : p_ak M u kd n w L) (hl : L.length + 1 < 16) {N d : Nat} (hd : d + 1 ≤ 8) : ∃ M', F_X0_body (N + 2) 13 (nI d) M = some (n - 100, M') ∧ p_ak M' u kd n w (L ++ [13,10]) ∧ m_of p_af M M' := by
  obtain ⟨M1, e1, e2, e3⟩ := A_begin h (by omega) 13
  obtain ⟨M2, i1, i2, i3⟩ := A_10 (N := N) (d := d + 1) e2 (by simp only [List.length_append, List.length_cons, List.length_nil]; omega) (by omega)
  refine ⟨M2, ?_, by rw [List.append_assoc] at i2; exact i2, e3.tr i3⟩
  rw [F_X0_body, if_pos (show nI d ≤ 8 by rw [n_8, n_le (by omega) (by omega)]; omega), e1, Option.bind_some, z_nmI_e, n_1, nI_add, if_neg (by decide), if_neg (by decide), if_neg (by decide), if_pos rfl, i1, Option.bind_some]
theorem A_14 (h : p_ak M u kd n w L) (hl : L.length + 2 < 16) {N d : Nat} (hd : d + 2 ≤ 8) : ∃ M', F_X0_body (N + 3) 14 (nI d) M = some (2 * (n - 100), M') ∧ p_ak M' u kd n w (L ++ [14,13,10]) ∧ m_of p_af M M' := by
  obtain ⟨M1, e1, e2, e3⟩ := A_begin h (by omega) 14
  obtain ⟨M2, i1, i2, i3⟩ := A_13 (N := N) (d := d + 1) e2 (by simp only [List.length_append, List.length_cons, List.length_nil]; omega) (by omega)
  refine ⟨M2, ?_, by rw [List.append_assoc] at i2; exact i2, e3.tr i3⟩
  rw [F_X0_body, if_pos (show nI d ≤ 8 by rw [n_8, n_le (by omega) (by omega)]; omega), e1, Option.bind_some, z_nmI_e, n_1, nI_add, if_neg (by decide), if_neg (by decide), if_neg (by decide), if_neg (by decide), if_pos rfl, i1, Option.bind_some]
end
def s_rs (k : Nat) (n : Int32) : Int32 := if k = 5 then 2 * (n - 100) else n - 100
def s_rsT (k : Nat) : List Int32 := if k = 5 then [14, 13, 10] else [13, 10]
def s_ma (k : Nat) (u n w : Int32) : Int32 := if k = 1 then u + w else if k = 2 then 2 * (u + w) else if k = 3 then (u + w) - 1000 else u - s_rs k n
def s_maT (k : Nat) : List Int32 := if k = 1 then [21, 20] else if k = 2 then [24, 21, 20] else if k = 3 then [22, 21, 20] else [23, 20] ++ s_rsT k
def s_sz (k : Nat) (u n w : Int32) : Int32 := if k = 2 then -(n + s_ma k u n w) else if k < 4 then n + s_ma k u n w else s_rs k n
def s_szT (k : Nat) : List Int32 := if k = 2 then [12, 11, 10] ++ s_maT k else if k < 4 then [11, 10] ++ s_maT k else s_rsT k
theorem s_rsT_l {k : Nat} : (s_rsT k).length ≤ 3 := by unfold s_rsT; split <;> decide
theorem s_maT_l {k : Nat} : (s_maT k).length ≤ 5 := by
  unfold s_maT
  have := s_rsT_l (k := k)
  repeat' split
  all_goals simp
  omega
theorem s_szT_l {k : Nat} : (s_szT k).length ≤ 8 := by
  unfold s_szT
  have := s_rsT_l (k := k)
  have := s_maT_l (k := k)
  repeat' split
  all_goals simp
  all_goals omega
section
variable {M : z_M} {u n w : Int32} {L : List Int32}
theorem A_near {k : Nat} (h1 : 1 ≤ k) (h5 : k ≤ 5) (hk : z_gi M 19 0 3 = nI k) : F_X0_nearest 1 M = some (if k = 2 then 12 else if k < 4 then 11 else if k = 5 then 14 else 13) ∧ F_X0_nearest 2 M = some (if k = 1 then 21 else if k = 2 then 24 else if k = 3 then 22 else 23) := by
  unfold F_X0_nearest
  rw [hk, z_nmI_e, z_nmI_e]
  show F_X0_nearest_b7 1 M (99990 + 10) (nI k) 0 = _ ∧ F_X0_nearest_b7 2 M (99990 + 10) (nI k) 0 = _
  generalize 99990 = N
  rcases (show k = 1 ∨ k = 2 ∨ k = 3 ∨ k = 4 ∨ k = 5 by omega) with rfl | rfl | rfl | rfl | rfl <;> exact ⟨rfl, rfl⟩
theorem A_rs {k : Nat} (h4 : 4 ≤ k) (h5 : k ≤ 5) (h : p_ak M u (nI k) n w L) (hl : L.length + 2 < 16) {N d : Nat} (hd : d + 2 ≤ 8) : ∃ M', F_X0_sizeAsked (F_X0_body (N + 3)) (nI d) M = some (s_rs k n, M') ∧ p_ak M' u (nI k) n w (L ++ s_rsT k) ∧ m_of p_af M M' := by
  unfold F_X0_sizeAsked s_rs s_rsT
  rw [(A_near (by omega) h5 h.1.2.1).1]
  rcases (show k = 4 ∨ k = 5 by omega) with rfl | rfl
  · obtain ⟨M', i1, i2⟩ := A_13 (N := N + 1) h (by omega) (show d + 1 ≤ 8 by omega)
    refine ⟨M', ?_, i2⟩
    rw [Option.bind_some]
    show (F_X0_body (N + 1 + 2) 13 (nI d) M).bind _ = _
    rw [i1]; rfl
  · obtain ⟨M', i1, i2⟩ := A_14 (N := N) h (by omega) (show d + 2 ≤ 8 by omega)
    refine ⟨M', ?_, i2⟩
    rw [Option.bind_some]
    show (F_X0_body (N + 3) 14 (nI d) M).bind _ = _
    rw [i1]; rfl
theorem A_23 {k : Nat} (h4 : 4 ≤ k) (h5 : k ≤ 5) (h : p_ak M u (nI k) n w L) (hl : L.length + 5 < 16) {N d : Nat} (hd : d + 3 ≤ 8) : ∃ M', F_X0_body (N + 4) 23 (nI d) M = some (u - s_rs k n, M') ∧ p_ak M' u (nI k) n w (L ++ ([23, 20] ++ s_rsT k)) ∧ m_of p_af M M' := by
  obtain ⟨M1, e1, e2, e3⟩ := A_begin h (by omega) 23
  obtain ⟨M2, i1, i2, i3⟩ := A_20 (N := N + 2) (d := d + 1) e2 (by simp only [List.length_append, List.length_cons, List.length_nil]; omega) (by omega)
  obtain ⟨M3, j1, j2, j3⟩ := A_rs h4 h5 i2 (by simp only [List.length_append, List.length_cons, List.length_nil]; omega) (N := N) (d := d + 1) (by omega)
  refine ⟨M3, ?_, by rw [List.append_assoc, List.append_assoc] at j2; exact j2, (e3.tr i3).tr j3⟩
  rw [F_X0_body, if_pos (show nI d ≤ 8 by rw [n_8, n_le (by omega) (by omega)]; omega), e1, Option.bind_some, z_nmI_e, n_1, nI_add, if_neg (by decide), if_neg (by decide), if_neg (by decide), if_neg (by decide), if_neg (by decide), if_neg (by decide), if_neg (by decide), if_neg (by decide), if_neg (by decide), if_neg (by decide), if_neg (by decide), if_neg (by decide), if_neg (by decide), if_pos rfl, i1, Option.bind_some, j1, Option.bind_some]
theorem A_ma {k : Nat} (h1 : 1 ≤ k) (h5 : k ≤ 5) (h : p_ak M u (nI k) n w L) (hl : L.length + 5 < 16) {N d : Nat} (hd : d + 3 ≤ 8) : ∃ M', F_X0_markAsked (F_X0_body (N + 4)) (nI d) M = some (s_ma k u n w, M') ∧ p_ak M' u (nI k) n w (L ++ s_maT k) ∧ m_of p_af M M' := by
  unfold F_X0_markAsked s_ma s_maT
  rw [(A_near h1 h5 h.1.2.1).2, Option.bind_some]
  by_cases k1 : k = 1
  · rw [if_pos k1, if_pos k1, if_pos k1]
    obtain ⟨M', i1, i2⟩ := A_21 (N := N + 2) h (by omega) (show d + 1 ≤ 8 by omega)
    exact ⟨M', by rw [i1]; rfl, i2⟩
  · rw [if_neg k1, if_neg k1, if_neg k1]
    by_cases k2 : k = 2
    · rw [if_pos k2, if_pos k2, if_pos k2]
      obtain ⟨M', i1, i2⟩ := A_24 (N := N + 1) h (by omega) (show d + 2 ≤ 8 by omega)
      exact ⟨M', by rw [i1]; rfl, i2⟩
    · rw [if_neg k2, if_neg k2, if_neg k2]
      by_cases k3 : k = 3
      · rw [if_pos k3, if_pos k3, if_pos k3]
        obtain ⟨M', i1, i2⟩ := A_22 (N := N + 1) h (by omega) (show d + 2 ≤ 8 by omega)
        exact ⟨M', by rw [i1]; rfl, i2⟩
      · rw [if_neg k3, if_neg k3, if_neg k3]
        obtain ⟨M', i1, i2⟩ := A_23 (by omega) h5 h hl (N := N) hd
        exact ⟨M', by rw [i1]; rfl, i2⟩
theorem A_11 {k : Nat} (h1 : 1 ≤ k) (h5 : k ≤ 5) (h : p_ak M u (nI k) n w L) (hl : L.length + 7 < 16) {N d : Nat} (hd : d + 4 ≤ 8) : ∃ M', F_X0_body (N + 5) 11 (nI d) M = some (n + s_ma k u n w, M') ∧ p_ak M' u (nI k) n w (L ++ ([11, 10] ++ s_maT k)) ∧ m_of p_af M M' := by
  obtain ⟨M1, e1, e2, e3⟩ := A_begin h (by omega) 11
  obtain ⟨M2, i1, i2, i3⟩ := A_10 (N := N + 3) (d := d + 1) e2 (by simp only [List.length_append, List.length_cons, List.length_nil]; omega) (by omega)
  obtain ⟨M3, j1, j2, j3⟩ := A_ma h1 h5 i2 (by simp only [List.length_append, List.length_cons, List.length_nil]; omega) (N := N) (d := d + 1) (by omega)
  refine ⟨M3, ?_, by rw [List.append_assoc, List.append_assoc] at j2; exact j2, (e3.tr i3).tr j3⟩
  rw [F_X0_body, if_pos (show nI d ≤ 8 by rw [n_8, n_le (by omega) (by omega)]; omega), e1, Option.bind_some, z_nmI_e, n_1, nI_add, if_neg (by decide), if_pos rfl, i1, Option.bind_some, j1, Option.bind_some]
theorem A_12 {k : Nat} (h1 : 1 ≤ k) (h5 : k ≤ 5) (h : p_ak M u (nI k) n w L) (hl : L.length + 8 < 16) {N d : Nat} (hd : d + 5 ≤ 8) : ∃ M', F_X0_body (N + 6) 12 (nI d) M = some (-(n + s_ma k u n w), M') ∧ p_ak M' u (nI k) n w (L ++ ([12, 11, 10] ++ s_maT k)) ∧ m_of p_af M M' := by
  obtain ⟨M1, e1, e2, e3⟩ := A_begin h (by omega) 12
  obtain ⟨M2, i1, i2, i3⟩ := A_11 h1 h5 e2 (by simp only [List.length_append, List.length_cons, List.length_nil]; omega) (N := N) (d := d + 1) (by omega)
  refine ⟨M2, ?_, by rw [List.append_assoc] at i2; exact i2, e3.tr i3⟩
  rw [F_X0_body, if_pos (show nI d ≤ 8 by rw [n_8, n_le (by omega) (by omega)]; omega), e1, Option.bind_some, z_nmI_e, n_1, nI_add, if_neg (by decide), if_neg (by decide), if_pos rfl, i1, Option.bind_some]
theorem A_sz {k : Nat} (h1 : 1 ≤ k) (h5 : k ≤ 5) (h : p_ak M u (nI k) n w L) (hl : L.length + 8 < 16) {N d : Nat} (hd : d + 5 ≤ 8) : ∃ M', F_X0_sizeAsked (F_X0_body (N + 6)) (nI d) M = some (s_sz k u n w, M') ∧ p_ak M' u (nI k) n w (L ++ s_szT k) ∧ m_of p_af M M' := by
  by_cases k4 : 4 ≤ k
  · unfold s_sz s_szT
    rw [if_neg (show ¬ k = 2 by omega), if_neg (show ¬ k < 4 by omega), if_neg (show ¬ k = 2 by omega), if_neg (show ¬ k < 4 by omega)]
    exact A_rs k4 h5 h (by omega) (N := N + 3) (by omega)
  · unfold F_X0_sizeAsked s_sz s_szT
    rw [(A_near h1 h5 h.1.2.1).1, Option.bind_some]
    by_cases k2 : k = 2
    · rw [if_pos k2, if_pos k2, if_pos k2]
      obtain ⟨M', i1, i2⟩ := A_12 h1 h5 h (by omega) (N := N) hd
      exact ⟨M', by rw [i1]; rfl, i2⟩
    · rw [if_neg k2, if_neg k2, if_neg k2, if_pos (show k < 4 by omega), if_pos (show k < 4 by omega), if_pos (show k < 4 by omega)]
      obtain ⟨M', i1, i2⟩ := A_11 h1 h5 h (by omega) (N := N + 1) (show d + 4 ≤ 8 by omega)
      exact ⟨M', by rw [i1]; rfl, i2⟩
end
/-! ASK by the reference -/
def p_bk (M : z_M) (f : Nat → Nat) (L : List Int32) : Prop := p_T M 25 0 f ∧ p_tr M 21 23 33 L
abbrev m_ask (M M' : z_M) : Prop := ∀ a b c, a ≠ 33 → (a = 21 → c ≠ 23) → z_gi M' a b c = z_gi M a b c
theorem m_ask.tr {M M' M'' : z_M} (h : m_ask M M') (h2 : m_ask M' M'') : m_ask M M'' := fun a b c x y => by rw [h2 a b c x y, h a b c x y]
section
variable {M : z_M} {f : Nat → Nat} {L : List Int32} {t : Nat}
theorem B_begin (h : p_bk M f L) (hl : L.length < 16) (x : Int32) : ∃ M', F_X7_begin x M = some M' ∧ p_bk M' f (L ++ [x]) ∧ m_ask M M' := by
  obtain ⟨h0, h1, h6⟩ := h
  refine ⟨z_si (z_si M 33 0 L.length x) 21 0 23 (nI (L.length + 1)), ?_, ⟨?_, ?_⟩, fun a b c x y => by rw [m_off _ _ _ _ _ (by omega), m_off _ _ _ _ _ (by omega)]⟩
  · unfold F_X7_begin
    simp only [h1, n_cl (show L.length < 2 ^ 31 by omega), z_nmM_e]
    rw [if_neg (by rw [n_16, n_le (by omega) (by omega)]; omega), z_grd_t (by rw [n_in (by omega) (by omega)]; omega), m_off _ _ _ _ _ (by omega), h1, n_1, nI_add]
  · exact h0.fr (fun c => by rw [m_off _ _ _ _ _ (by omega), m_off _ _ _ _ _ (by omega)])
  · refine p_tr.add ⟨h1, h6⟩ (m_same _ _ _ _ _) (fun j => ?_)
    rw [m_off _ _ _ _ _ (by omega), m_gs]
    by_cases e : j = L.length
    · rw [if_pos e, if_pos ⟨rfl, rfl, e⟩]
    · rw [if_neg e, if_neg (fun k => e k.2.2)]
theorem B_10 (ht : t < 8) (h : p_bk M f L) (hl : L.length < 16) : ∃ M', F_X7_lent (nI t) 10 M = some (nI (f (13 + t)), M') ∧ p_bk M' f (L ++ [10]) ∧ m_ask M M' := by
  obtain ⟨M1, e1, e2, e3⟩ := B_begin h hl 10
  refine ⟨M1, ?_, e2, e3⟩
  unfold F_X7_lent
  rw [e1, Option.bind_some, if_pos rfl, n_13, nI_add, z_grd_t (by rw [n_in (by omega) (by omega)]; omega), n_cl (by omega), M_st e2.1 (by omega)]
theorem B_20 (ht : t < 8) (h : p_bk M f L) (hl : L.length < 16) : ∃ M', F_X7_lent (nI t) 20 M = some (nI t, M') ∧ p_bk M' f (L ++ [20]) ∧ m_ask M M' := by
  obtain ⟨M1, e1, e2, e3⟩ := B_begin h hl 20
  refine ⟨M1, ?_, e2, e3⟩
  unfold F_X7_lent
  rw [e1, Option.bind_some, if_neg (by decide)]
theorem B_21 (ht : t < 8) (h : p_bk M f L) (hl : L.length + 1 < 16) : ∃ M', F_X7_plainMark (nI t) M = some (nI t + nI (f (21 + t)), M') ∧ p_bk M' f (L ++ [21, 20]) ∧ m_ask M M' := by
  obtain ⟨M1, e1, e2, e3⟩ := B_begin h (by omega) 21
  obtain ⟨M2, i1, i2, i3⟩ := B_20 ht e2 (by simp only [List.length_append, List.length_cons, List.length_nil]; omega)
  refine ⟨M2, ?_, by rw [List.append_assoc] at i2; exact i2, e3.tr i3⟩
  unfold F_X7_plainMark
  rw [e1, Option.bind_some, i1, Option.bind_some, n_21, nI_add, z_grd_t (by rw [n_in (by omega) (by omega)]; omega), n_cl (by omega), M_st i2.1 (by omega)]
theorem B_13 (ht : t < 8) (h : p_bk M f L) (hl : L.length + 1 < 16) : ∃ M', F_X7_rottenSize (nI t) M = some (nI (f (13 + t)) - 100, M') ∧ p_bk M' f (L ++ [13, 10]) ∧ m_ask M M' := by
  obtain ⟨M1, e1, e2, e3⟩ := B_begin h (by omega) 13
  obtain ⟨M2, i1, i2, i3⟩ := B_10 ht e2 (by simp only [List.length_append, List.length_cons, List.length_nil]; omega)
  refine ⟨M2, ?_, by rw [List.append_assoc] at i2; exact i2, e3.tr i3⟩
  unfold F_X7_rottenSize
  rw [e1, Option.bind_some, i1, Option.bind_some]
theorem B_kd (ht : t < 8) (h : p_bk M f L) : z_in ((5 : Int32) + nI t) 49 ∧ z_gi M 25 0 ((5 : Int32) + nI t).toNatClampNeg = nI (f (5 + t)) := by
  rw [n_5, nI_add]
  exact ⟨by rw [n_in (by omega) (by omega)]; omega, by rw [n_cl (by omega), M_st h.1 (by omega)]⟩
theorem B_rs (ht : t < 8) (h4 : 4 ≤ f (5 + t)) (h5 : f (5 + t) ≤ 5) (h : p_bk M f L) (hl : L.length + 2 < 16) : ∃ M', F_X7_sizeOfRotten (nI t) M = some (s_rs (f (5 + t)) (nI (f (13 + t))), M') ∧ p_bk M' f (L ++ s_rsT (f (5 + t))) ∧ m_ask M M' := by
  unfold F_X7_sizeOfRotten s_rs s_rsT
  rw [z_grd_t (B_kd ht h).1, (B_kd ht h).2]
  by_cases k5 : f (5 + t) = 5
  · rw [if_pos k5, if_pos k5, if_pos (by rw [k5]; rfl)]
    obtain ⟨M1, e1, e2, e3⟩ := B_begin h (by omega) 14
    obtain ⟨M2, i1, i2, i3⟩ := B_13 ht e2 (by simp only [List.length_append, List.length_cons, List.length_nil]; omega)
    exact ⟨M2, by rw [e1, Option.bind_some, i1]; rfl, by rw [List.append_assoc] at i2; exact i2, e3.tr i3⟩
  · rw [if_neg k5, if_neg k5, if_neg (by rw [n_5, n_eq (by omega) (by omega)]; exact k5)]
    obtain ⟨M2, i1, i2, i3⟩ := B_13 ht h (by omega)
    exact ⟨M2, by rw [i1]; rfl, i2, i3⟩
theorem B_ma (ht : t < 8) (h1 : 1 ≤ f (5 + t)) (h5 : f (5 + t) ≤ 5) (h : p_bk M f L) (hl : L.length + 5 < 16) : ∃ M', F_X7_markOf (nI t) M = some (s_ma (f (5 + t)) (nI t) (nI (f (13 + t))) (nI (f (21 + t))), M') ∧ p_bk M' f (L ++ s_maT (f (5 + t))) ∧ m_ask M M' := by
  unfold F_X7_markOf s_ma s_maT
  rw [z_grd_t (B_kd ht h).1, (B_kd ht h).2, z_nmI_e]
  by_cases k1 : f (5 + t) = 1
  · obtain ⟨M2, i1, i2, i3⟩ := B_21 ht h (by omega)
    rw [if_pos k1, if_pos k1, if_neg (by rw [k1]; decide), if_neg (by rw [k1]; decide), if_pos (by rw [k1]; rfl)]
    exact ⟨M2, by rw [i1]; rfl, i2, i3⟩
  · rw [if_neg k1, if_neg k1]
    by_cases k2 : f (5 + t) = 2
    · obtain ⟨M1, e1, e2, e3⟩ := B_begin h (by omega) 24
      obtain ⟨M2, i1, i2, i3⟩ := B_21 ht e2 (by simp only [List.length_append, List.length_cons, List.length_nil]; omega)
      rw [if_pos k2, if_pos k2, if_pos (by rw [k2]; rfl)]
      exact ⟨M2, by rw [e1, Option.bind_some, i1]; rfl, by rw [List.append_assoc] at i2; exact i2, e3.tr i3⟩
    · rw [if_neg k2, if_neg k2, if_neg (by rw [n_2, n_eq (by omega) (by omega)]; exact k2)]
      by_cases k3 : f (5 + t) = 3
      · obtain ⟨M1, e1, e2, e3⟩ := B_begin h (by omega) 22
        obtain ⟨M2, i1, i2, i3⟩ := B_21 ht e2 (by simp only [List.length_append, List.length_cons, List.length_nil]; omega)
        rw [if_pos k3, if_pos k3, if_pos (by rw [k3]; rfl)]
        exact ⟨M2, by rw [e1, Option.bind_some, i1]; rfl, by rw [List.append_assoc] at i2; exact i2, e3.tr i3⟩
      · rw [if_neg k3, if_neg k3, if_neg (by rw [n_3, n_eq (by omega) (by omega)]; exact k3), if_neg (by rw [n_1, n_eq (by omega) (by omega)]; exact k1)]
        obtain ⟨M1, e1, e2, e3⟩ := B_begin h (by omega) 23
        obtain ⟨M2, i1, i2, i3⟩ := B_20 ht e2 (by simp only [List.length_append, List.length_cons, List.length_nil]; omega)
        obtain ⟨M3, j1, j2, j3⟩ := B_rs ht (by omega) h5 i2 (by simp only [List.length_append, List.length_cons, List.length_nil]; omega)
        exact ⟨M3, by rw [e1, Option.bind_some, i1, Option.bind_some, j1]; rfl, by rw [List.append_assoc, List.append_assoc] at j2; exact j2, (e3.tr i3).tr j3⟩
theorem B_11 (ht : t < 8) (h1 : 1 ≤ f (5 + t)) (h5 : f (5 + t) ≤ 5) (h : p_bk M f L) (hl : L.length + 7 < 16) : ∃ M', F_X7_plainSize (nI t) M = some (nI (f (13 + t)) + s_ma (f (5 + t)) (nI t) (nI (f (13 + t))) (nI (f (21 + t))), M') ∧ p_bk M' f (L ++ ([11, 10] ++ s_maT (f (5 + t)))) ∧ m_ask M M' := by
  obtain ⟨M1, e1, e2, e3⟩ := B_begin h (by omega) 11
  obtain ⟨M2, i1, i2, i3⟩ := B_10 ht e2 (by simp only [List.length_append, List.length_cons, List.length_nil]; omega)
  obtain ⟨M3, j1, j2, j3⟩ := B_ma ht h1 h5 i2 (by simp only [List.length_append, List.length_cons, List.length_nil]; omega)
  refine ⟨M3, ?_, by rw [List.append_assoc, List.append_assoc] at j2; exact j2, (e3.tr i3).tr j3⟩
  unfold F_X7_plainSize
  rw [e1, Option.bind_some, i1, Option.bind_some, j1, Option.bind_some]
theorem B_sz (ht : t < 8) (h1 : 1 ≤ f (5 + t)) (h5 : f (5 + t) ≤ 5) (h : p_bk M f L) (hl : L.length + 8 < 16) : ∃ M', F_X7_sizeOf (nI t) M = some (s_sz (f (5 + t)) (nI t) (nI (f (13 + t))) (nI (f (21 + t))), M') ∧ p_bk M' f (L ++ s_szT (f (5 + t))) ∧ m_ask M M' := by
  unfold F_X7_sizeOf s_sz s_szT
  rw [z_grd_t (B_kd ht h).1, (B_kd ht h).2, z_nmI_e]
  by_cases k2 : f (5 + t) = 2
  · obtain ⟨M1, e1, e2, e3⟩ := B_begin h (by omega) 12
    obtain ⟨M2, i1, i2, i3⟩ := B_11 ht h1 h5 e2 (by simp only [List.length_append, List.length_cons, List.length_nil]; omega)
    rw [if_pos k2, if_pos k2, if_pos (by rw [k2]; rfl)]
    exact ⟨M2, by rw [e1, Option.bind_some, i1]; rfl, by rw [List.append_assoc] at i2; exact i2, e3.tr i3⟩
  · rw [if_neg k2, if_neg k2, if_neg (by rw [n_2, n_eq (by omega) (by omega)]; exact k2)]
    by_cases k4 : f (5 + t) < 4
    · obtain ⟨M2, i1, i2, i3⟩ := B_11 ht h1 h5 h (by omega)
      rw [if_pos k4, if_pos k4, if_pos (by rw [n_4, n_lt (by omega) (by omega)]; exact k4)]
      exact ⟨M2, by rw [i1]; rfl, i2, i3⟩
    · obtain ⟨M2, i1, i2, i3⟩ := B_rs ht (by omega) h5 h (by omega)
      rw [if_neg k4, if_neg k4, if_neg (by rw [n_4, n_lt (by omega) (by omega)]; exact k4)]
      exact ⟨M2, by rw [i1]; rfl, i2, i3⟩
end
theorem z_Rel.asked {M M2 : z_M} (h : z_Rel M) (h8 : R8 M2) (k : ∀ a b c, a ≠ 19 → a ≠ 20 → a ≠ 33 → (a = 21 → c ≠ 23) → z_gi M2 a b c = z_gi M a b c) : z_Rel M2 := by
  obtain ⟨h1, h2, h3, h4, h5, h6, h7, -⟩ := h
  exact ⟨h1.fr (fun a b _ ha c => k _ _ _ (by omega) (by omega) (by omega) (by omega)), h2.fr (k _ _ _ (by omega) (by omega) (by omega) (by omega)) (k _ _ _ (by omega) (by omega) (by omega) (by omega)), h3.fr (k _ _ _ (by omega) (by omega) (by omega) (by omega)) (k _ _ _ (by omega) (by omega) (by omega) (by omega)) (fun a _ c => k _ _ _ (by omega) (by omega) (by omega) (by omega)), h4.fr (k _ _ _ (by omega) (by omega) (by omega) (by omega)) (k _ _ _ (by omega) (by omega) (by omega) (by omega)), h5.fr (fun a _ _ c => k _ _ _ (by omega) (by omega) (by omega) (by omega)) (fun c => k _ _ _ (by omega) (by omega) (by omega) (by omega)) (k _ _ _ (by omega) (by omega) (by omega) (by omega)), h6.fr (fun a _ _ b _ c => k _ _ _ (by omega) (by omega) (by omega) (by omega)) (fun a _ c => k _ _ _ (by omega) (by omega) (by omega) (by omega)) (k _ _ _ (by omega) (by omega) (by omega) (by omega)) (k _ _ _ (by omega) (by omega) (by omega) (by omega)), h7.fr (fun a _ _ b _ c => k _ _ _ (by omega) (by omega) (by omega) (by omega)) (fun a _ c => k _ _ _ (by omega) (by omega) (by omega) (by omega)) (k _ _ _ (by omega) (by omega) (by omega) (by omega)), h8⟩
theorem eq_ask {M : z_M} (hR : z_Rel M) (a1 : Int32) (a2 : Int32) : ∃ (r : Int32) (M1 : z_M) (M2 : z_M), F_X6_ask a1 a2 M = some (r, M1) ∧ F_X7_ask a1 a2 M1 = some (r, M2) ∧ z_Rel M2 := by
  obtain ⟨f, hc, ht, h8, h5, hVN⟩ := hR.2.2.2.2.1.of
  have no : F_X6_ask a1 a2 M = some (-1000001, M) → F_X7_ask a1 a2 M = some (-1000001, M) → ∃ (r : Int32) (M1 : z_M) (M2 : z_M), F_X6_ask a1 a2 M = some (r, M1) ∧ F_X7_ask a1 a2 M1 = some (r, M2) ∧ z_Rel M2 := fun x y => ⟨_, _, _, x, y, hR⟩
  unfold F_X6_ask F_X7_ask at *
  simp only [C_hasTread hc.1.1 (show f 0 < 2 ^ 31 by omega), C_isFirst, M_bw (lo := 0) (hi := 1) (L := 0) (U := 1), Option.bind_some, b1_if] at no ⊢
  have q1 : ∀ (N : z_M), p_T N 25 0 f → ∀ x, F_X7_isTread x N = some (b1 (bl (f 0) x)) := fun N h x => M_isTread (M_st h (by decide)) (by omega)
  by_cases h1 : bl (f 0) a1
  · by_cases h2 : bw 0 1 a2
    · obtain ⟨t, htt, rfl⟩ := bl_of h1 (by omega)
      rcases hVN with ⟨hv, h9, hs⟩ | hN
      · have hb := hv.tread htt
        have c1 : ∀ v, p_C (z_si M 19 0 2 v) 24 f := fun v => hc.fr (fun a _ _ c => m_off _ _ _ _ _ (by omega))
        have c2 : ∀ v v2, p_C (z_si (z_si M 19 0 2 v) 19 0 3 v2) 24 f := fun v v2 => (c1 v).fr (fun a _ _ c => m_off _ _ _ _ _ (by omega))
        have c3 : ∀ v v2 v3, p_C (z_si (z_si (z_si M 19 0 2 v) 19 0 3 v2) 19 0 4 v3) 24 f := fun v v2 v3 => (c2 v v2).fr (fun a _ _ c => m_off _ _ _ _ _ (by omega))
        obtain ⟨M0, hM0⟩ : ∃ M0, M0 = z_si (z_si (z_si (z_si (z_si M 19 0 2 (nI t)) 19 0 3 (nI (f (5 + t)))) 19 0 4 (nI (f (13 + t)))) 19 0 5 (nI (f (21 + t)))) 19 0 1 0 := ⟨_, rfl⟩
        have e0 : F_X0_answerOf (nI t) a2 M = if a2 = 0 then (F_X0_sizeAsked (F_X0_body z_deep) 0 M0).bind (fun q14 => some (q14.1, q14.2)) else (F_X0_markAsked (F_X0_body z_deep) 0 M0).bind (fun q12 => some (q12.1, q12.2)) := by
          unfold F_X0_answerOf
          rw [C_kindOf (c1 _) hv htt, Option.bind_some, z_nmM_e, C_noteOf (c2 _ _) hv htt, Option.bind_some, z_nmM_e, C_wornOf (c3 _ _ _) hv htt, Option.bind_some, z_nmM_e, z_nmM_e, ← hM0]
        have ak0 : p_ak M0 (nI t) (nI (f (5 + t))) (nI (f (13 + t))) (nI (f (21 + t))) [] := by
          rw [hM0]
          refine ⟨⟨?_, ?_, ?_, ?_⟩, m_same _ _ _ _ _, fun j hj => absurd hj (Nat.not_lt_zero _)⟩
          · rw [m_off _ _ _ _ _ (by omega), m_off _ _ _ _ _ (by omega), m_off _ _ _ _ _ (by omega), m_off _ _ _ _ _ (by omega), m_same]
          · rw [m_off _ _ _ _ _ (by omega), m_off _ _ _ _ _ (by omega), m_off _ _ _ _ _ (by omega), m_same]
          · rw [m_off _ _ _ _ _ (by omega), m_off _ _ _ _ _ (by omega), m_same]
          · rw [m_off _ _ _ _ _ (by omega), m_same]
        have om0 : m_of p_af M M0 := by
          rw [hM0]
          exact m_of.si (S := p_af) (m_of.si (S := p_af) (m_of.si (S := p_af) (m_of.si (S := p_af) (m_of.si (S := p_af) m_of.rf (Or.inl rfl)) (Or.inl rfl)) (Or.inl rfl)) (Or.inl rfl)) (Or.inl rfl)
        have fin : ∀ M1 M2 (T : List Int32), T.length ≤ 16 → m_of p_af M M1 → p_tr M1 19 1 20 T → m_ask (z_si M1 21 0 23 0) M2 → p_tr M2 21 23 33 T → z_Rel M2 := by
          intro M1 M2 T hT o1 t1 o2 t2
          have o : ∀ a b c, a ≠ 33 → (a = 21 → c ≠ 23) → z_gi M2 a b c = z_gi M1 a b c := fun a b c x y => by rw [o2 a b c x y, m_off _ _ _ _ _ (by omega)]
          refine hR.asked ⟨T.length, hT, by rw [o 19 0 1 (by omega) (by omega), t1.1], t2.1, fun j hj => by rw [o 20 0 j (by omega) (by omega), t1.2 j hj, t2.2 j hj]⟩ (fun a b c x y z v => by rw [o a b c z v, o1 a b (by unfold p_af; omega)])
        have bk0 : ∀ M1, m_of p_af M M1 → p_bk (z_si M1 21 0 23 0) f [] := fun M1 o1 => ⟨ht.fr (fun c => by rw [m_off _ _ _ _ _ (by omega), o1 25 0 (by unfold p_af; omega)]), m_same _ _ _ _ _, fun j hj => absurd hj (Nat.not_lt_zero _)⟩
        have ht1 : ∀ M1, m_of p_af M M1 → p_T M1 25 0 f := fun M1 o1 => ht.fr (fun c => o1 25 0 (by unfold p_af; omega) c)
        rw [e0]
        rcases bw01 h2 with rfl | rfl
        · obtain ⟨M1, i1, i2, i3⟩ := A_sz hb.2.1 hb.2.2.1 ak0 (by decide) (N := 8) (d := 0) (by omega)
          have o1 := om0.tr i3
          obtain ⟨M2, j1, j2, j3⟩ := B_sz (f := f) (by omega) hb.2.1 hb.2.2.1 (bk0 M1 o1) (by decide)
          refine ⟨s_sz (f (5 + t)) (nI t) (nI (f (13 + t))) (nI (f (21 + t))), M1, M2, ?_, ?_, fin M1 M2 _ (by have := s_szT_l (k := f (5 + t)); simp only [List.nil_append]; omega) o1 i2.2 j3 j2.2⟩
          · rw [if_pos h1, if_pos h2, if_pos rfl, show F_X0_sizeAsked (F_X0_body z_deep) 0 M0 = _ from i1]; rfl
          · rw [q1 _ (ht1 M1 o1), Option.bind_some, b1_if, if_pos h1, if_pos h2, if_pos rfl, j1]; rfl
        · obtain ⟨M1, i1, i2, i3⟩ := A_ma hb.2.1 hb.2.2.1 ak0 (by decide) (N := 10) (d := 0) (by omega)
          have o1 := om0.tr i3
          obtain ⟨M2, j1, j2, j3⟩ := B_ma (f := f) (by omega) hb.2.1 hb.2.2.1 (bk0 M1 o1) (by decide)
          refine ⟨s_ma (f (5 + t)) (nI t) (nI (f (13 + t))) (nI (f (21 + t))), M1, M2, ?_, ?_, fin M1 M2 _ (by have := s_maT_l (k := f (5 + t)); simp only [List.nil_append]; omega) o1 i2.2 j3 j2.2⟩
          · rw [if_pos h1, if_pos h2, if_neg (by decide), show F_X0_markAsked (F_X0_body z_deep) 0 M0 = _ from i1]; rfl
          · rw [q1 _ (ht1 M1 o1), Option.bind_some, b1_if, if_pos h1, if_pos h2, if_neg (by decide), j1]; rfl
      · omega
    · exact no (by rw [if_pos h1, if_neg h2]) (by rw [q1 _ ht, Option.bind_some, b1_if, if_pos h1, if_neg h2])
  · exact no (by rw [if_neg h1]) (by rw [q1 _ ht, Option.bind_some, b1_if, if_neg h1])
