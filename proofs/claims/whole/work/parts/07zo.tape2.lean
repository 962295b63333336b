/-! TAPE: a number and a sign, by both -/
def s_nok (v : Nat → Nat) (n b lo hi s : Nat) : Prop := s_ty v n b = 2 ∧ (lo ≤ s_vl v n b ∧ s_vl v n b ≤ hi) ∧ (s_ne v n b < n ∧ v (s_ne v n b) = s)
/-- the fault, and its place -/
def s_nf (v : Nat → Nat) (n b lo hi : Nat) : Nat × Nat := if s_ty v n b = 2 then (if lo ≤ s_vl v n b ∧ s_vl v n b ≤ hi then (1, s_ne v n b) else (2, b)) else (1, b)
abbrev m_cp (M M' : z_M) : Prop := ∀ a b c, (a = 5 → ¬ (3 ≤ c ∧ c ≤ 5)) → ¬ (7 ≤ a ∧ a ≤ 11 ∧ b = 28) → z_gi M' a b c = z_gi M a b c
abbrev m_rp (M M' : z_M) : Prop := ∀ a b c, (a = 21 → ¬ (10 ≤ c ∧ c ≤ 14)) → a ≠ 28 → z_gi M' a b c = z_gi M a b c
theorem m_cp.tr {M M' M'' : z_M} (h : m_cp M M') (h2 : m_cp M' M'') : m_cp M M'' := fun a b c x y => by rw [h2 a b c x y, h a b c x y]
theorem m_rp.tr {M M' M'' : z_M} (h : m_rp M M') (h2 : m_rp M' M'') : m_rp M M'' := fun a b c x y => by rw [h2 a b c x y, h a b c x y]
theorem m_tk.rp {M M' : z_M} (h : m_tk M M') : m_rp M M' := fun a b c x _ => h a b c (by omega)
section
variable {M N : z_M} {v : Nat → Nat} {n : Nat}
theorem K_c.fr (h : K_c M v n) (e : m_cp M N) : K_c N v n := ⟨by rw [e _ _ _ (by omega) (by omega), h.1], fun j hj => by rw [e _ _ _ (by omega) (by omega), h.2 j hj]⟩
theorem K_r.rp (h : K_r M v n) (e : m_rp M N) : K_r N v n := ⟨by rw [e _ _ _ (by omega) (by omega), h.1], fun j hj => by rw [e _ _ _ (by omega) (by omega), h.2 j hj]⟩
theorem s_vl_le (ho : K_o v n) {b : Nat} (hd : s_dg v n b) : s_vl v n b ≤ 99 := by
  unfold s_vl
  split <;> omega
theorem s_ty2 {b : Nat} (h : s_ty v n b = 2) : s_dg v n b := by
  unfold s_ty at h
  by_cases h1 : b < n
  · rw [if_pos h1] at h
    by_cases h2 : s_dg v n b
    · exact h2
    · rw [if_neg h2] at h
      split at h <;> omega
  · rw [if_neg h1] at h; omega
theorem s_ne_le {b : Nat} (h : s_ty v n b = 2) : s_ne v n b ≤ n ∧ b < s_ne v n b := by
  have := s_ty2 h
  unfold s_ne
  split <;> omega
theorem C_fail {x : Int32} {b : Nat} (hb : z_gi M 5 0 3 = nI b) : F_X2_fail x M = some (0, z_si (z_si M 5 0 4 x) 5 0 5 (nI b)) := by
  unfold F_X2_fail
  rw [z_nmM_e, m_off _ _ _ _ _ (by omega), hb]
theorem C_n1 (ho : K_o v n) (hK : K_c M v n) {j w fig fu : Nat} {lo hi : Int32} (hf : fig < 3) (hd : s_dg v n j) : F_X2_readNumber_b11 (fu + 1) lo hi (nI fig) (nI w) (nI j) M = F_X2_readNumber_b11 fu lo hi (nI (fig + 1)) (nI (10 * w + v j - 48)) (nI (j + 1)) M := by
  have hn := ho.1
  obtain ⟨d1, d2, d3⟩ := hd
  have hz : z_in (nI j) 100 := by rw [n_in (by omega) (by omega)]; omega
  rw [F_X2_readNumber_b11]
  simp only [hK.1, n_cl (show j < 2 ^ 31 by omega), hK.2 j d1, z_grd_t hz, z_nmI_e]
  rw [if_neg (by rw [n_le (by omega) (by omega)]; omega), if_neg (by rw [n_100, n_le (by omega) (by omega)]; omega), if_neg (by rw [n_3, n_le (by omega) (by omega)]; omega), if_neg (by rw [n_48, n_lt (by omega) (by omega)]; omega), if_pos (by rw [n_57, n_le (by omega) (by omega)]; omega), n_10, pk_mul, nI_add, n_48, n_sub (by omega), n_1, nI_add, nI_add, Nat.mul_comm w 10]
theorem C_n0 (ho : K_o v n) (hK : K_c M v n) {j fig fu : Nat} {w lo hi : Int32} (hf : fig ≤ 3) (hj : j ≤ n) (hd : ¬ s_dg v n j ∨ fig = 3) : F_X2_readNumber_b11 (fu + 1) lo hi (nI fig) w (nI j) M = F_X2_readNumber_b86 lo hi (nI fig) w M := by
  have hn := ho.1
  rw [F_X2_readNumber_b11, hK.1]
  by_cases h : j < n
  · have hz : z_in (nI j) 100 := by rw [n_in (by omega) (by omega)]; omega
    have hvj := ho.2 j h
    rw [if_neg (by rw [n_le (by omega) (by omega)]; omega), if_neg (by rw [n_100, n_le (by omega) (by omega)]; omega)]
    by_cases h3 : fig = 3
    · rw [if_pos (by rw [n_3, n_le (by omega) (by omega)]; omega)]
    · rw [if_neg (by rw [n_3, n_le (by omega) (by omega)]; omega)]
      simp only [n_cl (show j < 2 ^ 31 by omega), hK.2 j h, z_grd_t hz]
      by_cases h4 : v j < 48
      · rw [if_pos (by rw [n_48, n_lt (by omega) (by omega)]; exact h4)]
      · rw [if_neg (by rw [n_48, n_lt (by omega) (by omega)]; exact h4), if_neg (by rw [n_57, n_le (by omega) (by omega)]; omega)]
  · rw [if_pos (by rw [n_le (by omega) (by omega)]; omega)]
theorem C_n86 {fig w b lo hi : Nat} (hb : z_gi M 5 0 3 = nI b) (hf : fig = 1 ∨ fig = 2) (hw : w < 2 ^ 31) (hlo : lo < 2 ^ 31) (hhi : hi < 2 ^ 31) : F_X2_readNumber_b86 (nI lo) (nI hi) (nI fig) (nI w) M = if lo ≤ w ∧ w ≤ hi then some (nI w, z_si M 5 0 3 (nI (b + fig))) else some (-1, z_si (z_si M 5 0 4 2) 5 0 5 (nI b)) := by
  unfold F_X2_readNumber_b86 F_X2_readNumber_b116
  rw [if_neg (by rw [n_1, n_lt (by omega) (by omega)]; omega), if_pos (by rw [n_2, n_le (by omega) (by omega)]; omega), C_fail hb, Option.bind_some, hb, nI_add]
  by_cases h1 : w < lo
  · rw [if_pos (by rw [n_lt (by omega) (by omega)]; exact h1), if_neg (by omega)]
  · rw [if_neg (by rw [n_lt (by omega) (by omega)]; exact h1)]
    by_cases h2 : w ≤ hi
    · rw [if_pos (by rw [n_le (by omega) (by omega)]; exact h2), if_pos (by omega)]
    · rw [if_neg (by rw [n_le (by omega) (by omega)]; exact h2), if_neg (by omega)]
theorem C_num (ho : K_o v n) (hK : K_c M v n) {b lo hi : Nat} (hb : z_gi M 5 0 3 = nI b) (hbn : b ≤ n) (hlo : lo < 2 ^ 31) (hhi : hi < 2 ^ 31) : F_X2_readNumber (nI lo) (nI hi) M = if s_ty v n b = 2 then (if lo ≤ s_vl v n b ∧ s_vl v n b ≤ hi then some (nI (s_vl v n b), z_si M 5 0 3 (nI (s_ne v n b))) else some (-1, z_si (z_si M 5 0 4 2) 5 0 5 (nI b))) else some (-1, z_si (z_si M 5 0 4 1) 5 0 5 (nI b)) := by
  have hn := ho.1
  unfold F_X2_readNumber
  rw [z_nmI_e, hb, z_fuel_4]
  show F_X2_readNumber_b11 (99996 + 1 + 1 + 1 + 1) (nI lo) (nI hi) (nI 0) (nI 0) (nI b) M = _
  by_cases d0 : s_dg v n b
  · rw [C_n1 ho hK (by omega) d0]
    by_cases d1 : s_dg v n (b + 1)
    · rw [C_n1 ho hK (by omega) d1]
      by_cases d2 : s_dg v n (b + 1 + 1)
      · have ty : ¬ s_ty v n b = 2 := by unfold s_ty; rw [if_pos d0.1, if_pos d0, if_pos ⟨d1, d2⟩]; omega
        rw [C_n1 ho hK (by omega) d2, C_n0 ho hK (by omega) (by omega) (Or.inr rfl), if_neg ty]
        unfold F_X2_readNumber_b86 F_X2_readNumber_b96
        rw [if_neg (by decide), if_neg (by decide), C_fail hb, Option.bind_some]
      · have ty : s_ty v n b = 2 := by unfold s_ty; rw [if_pos d0.1, if_pos d0, if_neg (fun h => d2 h.2)]
        have ev : s_vl v n b = 10 * (10 * 0 + v b - 48) + v (b + 1) - 48 := by unfold s_vl; rw [if_pos d1]; omega
        have en : s_ne v n b = b + 2 := if_pos d1
        rw [C_n0 ho hK (by omega) (by omega) (Or.inl d2), if_pos ty, C_n86 hb (Or.inr rfl) (by omega) hlo hhi, ev, en]
    · have ty : s_ty v n b = 2 := by unfold s_ty; rw [if_pos d0.1, if_pos d0, if_neg (fun h => d1 h.1)]
      have ev : s_vl v n b = 10 * 0 + v b - 48 := by unfold s_vl; rw [if_neg d1]; omega
      have en : s_ne v n b = b + 1 := if_neg d1
      rw [C_n0 ho hK (by omega) (by omega) (Or.inl d1), if_pos ty, C_n86 hb (Or.inl rfl) (by omega) hlo hhi, ev, en]
  · have ty : ¬ s_ty v n b = 2 := fun h => d0 (s_ty2 h)
    rw [C_n0 ho hK (by omega) hbn (Or.inl d0), if_neg ty]
    unfold F_X2_readNumber_b86 F_X2_readNumber_b96
    rw [if_pos (by decide), C_fail hb, Option.bind_some]
theorem C_letter (ho : K_o v n) (hK : K_c M v n) {b : Nat} (hb : z_gi M 5 0 3 = nI b) (hbn : b ≤ n) : F_X2_letter M = some (if b < n then nI (v b) else -1000000) := by
  have hn := ho.1
  unfold F_X2_letter
  simp only [hb, hK.1, n_cl (show b < 2 ^ 31 by omega)]
  rw [if_neg (by rw [n_0, n_lt (by omega) (by omega)]; omega)]
  by_cases h : b < n
  · rw [if_neg (by rw [n_le (by omega) (by omega)]; omega), if_neg (by rw [n_100, n_le (by omega) (by omega)]; omega), z_grd_t (by rw [n_in (by omega) (by omega)]; omega), hK.2 b h, if_pos h]
  · rw [if_pos (by rw [n_le (by omega) (by omega)]; omega), if_neg h]
theorem C_sign (ho : K_o v n) (hK : K_c M v n) {b s : Nat} (hb : z_gi M 5 0 3 = nI b) (hbn : b ≤ n) (hs : s < 256) : F_X2_readSign (nI s) M = if b < n ∧ v b = s then some (1, z_si M 5 0 3 (nI (b + 1))) else some (0, z_si (z_si M 5 0 4 1) 5 0 5 (nI b)) := by
  have hn := ho.1
  unfold F_X2_readSign
  rw [C_letter ho hK hb hbn, Option.bind_some, C_fail hb, Option.bind_some, z_grd_t (show (0 : Int32) &&& 1 = 0 from by decide), hb, n_1, nI_add]
  by_cases h : b < n
  · have hvb := ho.2 b h
    rw [if_pos h]
    by_cases h2 : v b = s
    · rw [if_pos (by rw [h2]), if_pos ⟨h, h2⟩]
    · rw [if_neg (by rw [n_eq (by omega) (by omega)]; exact h2), if_neg (fun k => h2 k.2)]
  · rw [if_neg h, if_neg (fun k => by have := k.symm; rw [n_bad (by omega)] at this; exact this), if_neg (fun k => h k.1)]
/-- a number and a sign, by the class; then G -/
theorem C_tn (ho : K_o v n) (hK : K_c M v n) {b lo hi s : Nat} (hb : z_gi M 5 0 3 = nI b) (hbn : b ≤ n) (hlo : lo < 2 ^ 31) (hhi : hi < 2 ^ 31) (hs : s < 256) (G : Int32 → z_M → Option (Int32 × z_M)) : (s_nok v n b lo hi s → ((F_X2_readNumber (nI lo) (nI hi) M).bind fun q4 => if q4.1 = ((-1) : Int32) then some (0, q4.2) else (F_X2_readSign (nI s) q4.2).bind fun q7 => if q7.1 = 0 then some (0, q7.2) else G q4.1 q7.2) = G (nI (s_vl v n b)) (z_si (z_si M 5 0 3 (nI (s_ne v n b))) 5 0 3 (nI (s_ne v n b + 1)))) ∧ (¬ s_nok v n b lo hi s → ∃ M', ((F_X2_readNumber (nI lo) (nI hi) M).bind fun q4 => if q4.1 = ((-1) : Int32) then some (0, q4.2) else (F_X2_readSign (nI s) q4.2).bind fun q7 => if q7.1 = 0 then some (0, q7.2) else G q4.1 q7.2) = some (0, M') ∧ z_gi M' 5 0 4 = nI (s_nf v n b lo hi).1 ∧ z_gi M' 5 0 5 = nI (s_nf v n b lo hi).2 ∧ m_cp M M') := by
  rw [C_num ho hK hb hbn hlo hhi]
  unfold s_nok s_nf
  by_cases ty : s_ty v n b = 2
  · have hvl := s_vl_le ho (s_ty2 ty)
    obtain ⟨l1, l2⟩ := s_ne_le ty
    rw [if_pos ty, if_pos ty]
    by_cases hr : lo ≤ s_vl v n b ∧ s_vl v n b ≤ hi
    · rw [if_pos hr, if_pos hr, Option.bind_some, if_neg (show ¬ nI (s_vl v n b) = -1 by rw [n_m1 (by omega)]; exact id), C_sign (b := s_ne v n b) ho (hK.fr (fun a x c h _ => m_off _ _ _ _ _ (by omega))) (m_same _ _ _ _ _) l1 hs]
      by_cases hg : s_ne v n b < n ∧ v (s_ne v n b) = s
      · rw [if_pos hg, Option.bind_some, if_neg (show ¬ (1 : Int32) = 0 by decide)]
        exact ⟨fun _ => rfl, fun k => absurd ⟨ty, hr, hg⟩ k⟩
      · rw [if_neg hg, Option.bind_some, if_pos rfl]
        exact ⟨fun k => absurd k.2.2 hg, fun _ => ⟨_, rfl, by rw [m_off _ _ _ _ _ (by omega), m_same]; rfl, m_same _ _ _ _ _, fun a x c h _ => by rw [m_off _ _ _ _ _ (by omega), m_off _ _ _ _ _ (by omega), m_off _ _ _ _ _ (by omega)]⟩⟩
    · rw [if_neg hr, if_neg hr, Option.bind_some, if_pos rfl]
      exact ⟨fun k => absurd k.2.1 hr, fun _ => ⟨_, rfl, by rw [m_off _ _ _ _ _ (by omega), m_same]; rfl, m_same _ _ _ _ _, fun a x c h _ => by rw [m_off _ _ _ _ _ (by omega), m_off _ _ _ _ _ (by omega)]⟩⟩
  · rw [if_neg ty, if_neg ty, Option.bind_some, if_pos rfl]
    exact ⟨fun k => absurd k.1 ty, fun _ => ⟨_, rfl, by rw [m_off _ _ _ _ _ (by omega), m_same]; rfl, m_same _ _ _ _ _, fun a x c h _ => by rw [m_off _ _ _ _ _ (by omega), m_off _ _ _ _ _ (by omega)]⟩⟩
-- the reference
theorem s_ty1 {b : Nat} (h : b < n) (hs : s_sg (v b)) : s_ty v n b = 1 := by
  unfold s_ty
  rw [if_pos h, if_neg (by omega), if_pos hs]
theorem s_ty1' {b : Nat} (h : s_ty v n b = 1) : b < n ∧ s_sg (v b) := by
  unfold s_ty at h
  by_cases h1 : b < n
  · rw [if_pos h1] at h
    by_cases h2 : s_dg v n b
    · rw [if_pos h2] at h
      split at h <;> omega
    · rw [if_neg h2] at h
      by_cases h3 : s_sg (v b)
      · exact ⟨h1, h3⟩
      · rw [if_neg h3] at h; omega
  · rw [if_neg h1] at h; omega
theorem s_ty_le {b : Nat} : s_ty v n b ≤ 3 := by
  unfold s_ty
  repeat' split
  all_goals omega
theorem M_isLetter (ho : K_o v n) {b s : Nat} (hk : K_k M v n b) (hs : s_sg s) : F_X7_isLetter (nI s) M = some (b1 (b < n ∧ v b = s)) := by
  have hl := s_ty_le (v := v) (n := n) (b := b)
  unfold F_X7_isLetter
  rw [hk.2.1]
  by_cases ty : s_ty v n b = 1
  · obtain ⟨h1, h2⟩ := s_ty1' ty
    have hvb := ho.2 b h1
    rw [if_pos (by rw [ty]; rfl), (hk.2.2.2 ty).1]
    by_cases e : v b = s
    · rw [if_pos (by rw [e]), b1_t ⟨h1, e⟩]
    · rw [if_neg (by rw [n_eq (by omega) (by omega)]; exact e), b1_f (fun k => e k.2)]
  · rw [if_neg (by rw [n_1, n_eq (by omega) (by omega)]; exact ty), b1_f (fun k => ty (s_ty1 k.1 (by rw [k.2]; exact hs)))]
theorem M_takes (ho : K_o v n) (hK : K_r M v n) {b s : Nat} (hk : K_k M v n b) (hs : s_sg s) : (b < n ∧ v b = s → ∃ M', F_X7_takes (nI s) M = some (1, M') ∧ K_k M' v n (b + 1) ∧ m_tk M M') ∧ (¬ (b < n ∧ v b = s) → F_X7_takes (nI s) M = some (0, z_si M 21 0 14 1)) := by
  unfold F_X7_takes
  rw [M_isLetter ho hk hs, Option.bind_some, b1_if]
  by_cases h : b < n ∧ v b = s
  · obtain ⟨M', i1, i2, i3⟩ := M_next ho hK ((hk.2.2.2 (s_ty1 h.1 (by rw [h.2]; exact hs))).2) (show b + 1 ≤ n by omega)
    rw [if_pos h]
    exact ⟨fun _ => ⟨M', by rw [i1, Option.bind_some], i2, i3⟩, fun k => absurd h k⟩
  · rw [if_neg h]
    exact ⟨fun k => absurd k h, fun _ => by unfold F_X7_faults; rw [Option.bind_some, z_grd_t (show (0 : Int32) &&& 1 = 0 by decide)]⟩
theorem M_tn (ho : K_o v n) (hK : K_r M v n) {b lo hi s idx : Nat} (hk : K_k M v n b) (hlo : lo < 2 ^ 31) (hhi : hi < 2 ^ 31) (hs : s_sg s) (hx : idx < 49) : (s_nok v n b lo hi s → ∃ M', F_X7_takesNumber (nI lo) (nI hi) (nI idx) (nI s) M = some (1, M') ∧ K_k M' v n (s_ne v n b + 1) ∧ m_tk (z_si M 28 0 idx (nI (s_vl v n b))) M') ∧ (¬ s_nok v n b lo hi s → ∃ M', F_X7_takesNumber (nI lo) (nI hi) (nI idx) (nI s) M = some (0, M') ∧ z_gi M' 21 0 14 = nI (s_nf v n b lo hi).1 ∧ z_gi M' 21 0 13 = nI (s_nf v n b lo hi).2 ∧ m_rp M M') := by
  have hl := s_ty_le (v := v) (n := n) (b := b)
  unfold F_X7_takesNumber F_X7_takesNumber_b23 F_X7_takesNumber_b37 F_X7_faults s_nok s_nf
  rw [hk.2.1]
  simp only [Option.bind_some]
  rw [z_grd_t (show (0 : Int32) &&& 1 = 0 by decide), z_grd_t (show (0 : Int32) &&& 1 = 0 by decide)]
  by_cases ty : s_ty v n b = 2
  · have hvl := s_vl_le ho (s_ty2 ty)
    obtain ⟨l1, l2⟩ := s_ne_le ty
    obtain ⟨k1, k2⟩ := hk.2.2.1 ty
    rw [if_pos (by rw [ty]; rfl), if_pos (by rw [ty]; rfl), if_pos ty, k1, M_bw (lo := lo) (hi := hi), Option.bind_some, b1_if]
    have eb : bw lo hi (nI (s_vl v n b)) ↔ lo ≤ s_vl v n b ∧ s_vl v n b ≤ hi := by
      rw [bw_iff hlo hhi, nI_toInt (by omega)]; omega
    by_cases hr : lo ≤ s_vl v n b ∧ s_vl v n b ≤ hi
    · rw [if_pos (eb.mpr hr), if_pos hr, z_grd_t (by rw [n_in (by omega) (by omega)]; exact hx), n_cl (by omega)]
      have hK1 : K_r (z_si M 28 0 idx (nI (s_vl v n b))) v n := ⟨by rw [m_off _ _ _ _ _ (by omega), hK.1], fun j hj => by rw [m_off _ _ _ _ _ (by omega), hK.2 j hj]⟩
      obtain ⟨M1, i1, i2, i3⟩ := M_next ho hK1 (b := s_ne v n b) (by rw [m_off _ _ _ _ _ (by omega), k2]) l1
      obtain ⟨t1, t2⟩ := M_takes ho (hK1.fr i3) i2 hs
      rw [i1, Option.bind_some]
      by_cases hg : s_ne v n b < n ∧ v (s_ne v n b) = s
      · obtain ⟨M2, j1, j2, j3⟩ := t1 hg
        rw [j1, Option.bind_some, z_grd_t (show (1 : Int32) &&& 1 = 1 by decide)]
        exact ⟨fun _ => ⟨M2, rfl, j2, fun a x c h => by rw [j3 a x c h, i3 a x c h]⟩, fun k => absurd ⟨ty, hr, hg⟩ k⟩
      · rw [t2 hg, Option.bind_some, z_grd_t (show (0 : Int32) &&& 1 = 0 by decide)]
        exact ⟨fun k => absurd k.2.2 hg, fun _ => ⟨_, rfl, m_same _ _ _ _ _, by rw [m_off _ _ _ _ _ (by omega), i2.1], fun a x c h h2 => by rw [m_off _ _ _ _ _ (by omega), i3 a x c (by omega), m_off _ _ _ _ _ (by omega)]⟩⟩
    · rw [if_neg (fun k => hr (eb.mp k)), if_neg hr]
      exact ⟨fun k => absurd k.2.1 hr, fun _ => ⟨_, rfl, m_same _ _ _ _ _, by rw [m_off _ _ _ _ _ (by omega), hk.1], fun a x c h _ => m_off _ _ _ _ _ (by omega)⟩⟩
  · rw [if_neg (by rw [n_2, n_eq (by omega) (by omega)]; exact ty), if_neg (by rw [n_2, n_eq (by omega) (by omega)]; exact ty), if_neg ty]
    exact ⟨fun k => absurd k.1 ty, fun _ => ⟨_, rfl, m_same _ _ _ _ _, by rw [m_off _ _ _ _ _ (by omega), hk.1], fun a x c h _ => m_off _ _ _ _ _ (by omega)⟩⟩
end
