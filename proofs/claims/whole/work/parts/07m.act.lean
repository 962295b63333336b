/-! ACT: setting one number of a TOWN; what holds after an ACT; undo, reach, plane, way, gait -/
def z_up (f : Nat → Nat) (k v : Nat) : Nat → Nat := fun j => if j = k then v else f j
theorem z_up_ne {f : Nat → Nat} {k v j : Nat} (h : j ≠ k) : z_up f k v j = f j := if_neg h
theorem z_up_eq {f : Nat → Nat} {k v : Nat} : z_up f k v k = v := if_pos rfl
theorem z_up_or (f : Nat → Nat) (k v j : Nat) : (j = k ∧ z_up f k v j = v) ∨ (j ≠ k ∧ z_up f k v j = f j) := by
  by_cases h : j = k
  · exact Or.inl ⟨h, if_pos h⟩
  · exact Or.inr ⟨h, if_neg h⟩
theorem p_T.set {M : z_M} {f : Nat → Nat} (ht : p_T M 25 0 f) (k v : Nat) : p_T (z_si M 25 0 k (nI v)) 25 0 (z_up f k v) := by
  intro j hj
  rw [Nat.zero_add]
  by_cases h : j = k
  · subst h; rw [m_same, z_up_eq]
  · rw [m_off _ _ _ _ _ (by omega), z_up_ne h, M_st ht hj]
section
variable {M : z_M} {i : Nat} {f : Nat → Nat}
theorem p_C.part (hc : p_C M i f) {w q : Nat} (hw : w < f 1) (hq : q < 4) : z_gi M 11 i (4 * w + q) = nI (f (29 + 5 * q + w)) := by
  obtain ⟨h1, h2, h3, h4⟩ := hc.2.2 w hw
  rcases (show q = 0 ∨ q = 1 ∨ q = 2 ∨ q = 3 by omega) with rfl | rfl | rfl | rfl
  · exact h1
  · exact h2
  · exact h3
  · exact h4
theorem p_C.setPart (hc : p_C M i f) {w k : Nat} (v : Nat) (hw : w < f 1) (hk : k < 4) (h5 : f 1 ≤ 5) (h8 : f 0 ≤ 8) : p_C (z_si M 11 i (w * 4 + k) (nI v)) i (z_up f (29 + 5 * k + w) v) := by
  obtain ⟨c0, c1, c2, c3, c4⟩ := hc.1
  refine ⟨?_, fun t ht => ?_, fun x hx => ?_⟩
  · simp (disch := omega) only [m_off, z_up_ne]
    exact hc.1
  · rw [z_up_ne (by omega)] at ht
    simp (disch := omega) only [m_off, z_up_ne]
    exact hc.2.1 t ht
  · rw [z_up_ne (by omega)] at hx
    have key : ∀ q, q < 4 → z_gi (z_si M 11 i (w * 4 + k) (nI v)) 11 i (4 * x + q) = nI (z_up f (29 + 5 * k + w) v (29 + 5 * q + x)) := by
      intro q hq
      by_cases e : x = w ∧ q = k
      · obtain ⟨rfl, rfl⟩ := e
        rw [Nat.mul_comm 4 x, m_same, z_up_eq]
      · rw [m_off _ _ _ _ _ (by omega), z_up_ne (by omega), hc.part hx hq]
    exact ⟨key 0 (by omega), key 1 (by omega), key 2 (by omega), key 3 (by omega)⟩
theorem C_setPart (hc : p_C M i f) {w k v : Nat} (hw : w < f 1) (hk : k < 4) (h5 : f 1 ≤ 5) (h8 : f 0 ≤ 8) : F_X5_setPart i (nI w) (nI k) (nI v) M = some (z_si M 11 i (w * 4 + k) (nI v)) ∧ p_C (z_si M 11 i (w * 4 + k) (nI v)) i (z_up f (29 + 5 * k + w) v) := by
  refine ⟨?_, hc.setPart v hw hk h5 h8⟩
  unfold F_X5_setPart
  rw [C_hasWalker hc.1.2.1 (by omega), b1_t (bl_n hw (by omega)), Option.bind_some, if_neg (by decide), if_neg (by rw [n_0, n_lt (by omega) (by omega)]; omega), if_neg (by rw [n_4, n_le (by omega) (by omega)]; omega), n_4, pk_mul, nI_add, z_grd_t (by rw [n_in (by omega) (by omega)]; omega), n_cl (by omega)]
/-- one of the three numbers of a TREAD -/
theorem p_C.setT (hc : p_C M i f) {t k : Nat} (v : Nat) (ht : t < f 0) (hk : k < 3) (h5 : f 1 ≤ 5) (h8 : f 0 ≤ 8) : p_C (z_si M (8 + k) i t (nI v)) i (z_up f (5 + 8 * k + t) v) := by
  refine ⟨?_, fun x hx => ?_, fun w hw => ?_⟩
  · simp (disch := omega) only [m_off, z_up_ne]
    exact hc.1
  · rw [z_up_ne (by omega)] at hx
    obtain ⟨e1, e2, e3⟩ := hc.2.1 x hx
    by_cases e : x = t
    · subst e
      rcases (show k = 0 ∨ k = 1 ∨ k = 2 by omega) with rfl | rfl | rfl
      · exact ⟨by rw [m_same, z_up_eq], by rw [m_off _ _ _ _ _ (by omega), z_up_ne (by omega), e2], by rw [m_off _ _ _ _ _ (by omega), z_up_ne (by omega), e3]⟩
      · exact ⟨by rw [m_off _ _ _ _ _ (by omega), z_up_ne (by omega), e1], by rw [m_same, z_up_eq], by rw [m_off _ _ _ _ _ (by omega), z_up_ne (by omega), e3]⟩
      · exact ⟨by rw [m_off _ _ _ _ _ (by omega), z_up_ne (by omega), e1], by rw [m_off _ _ _ _ _ (by omega), z_up_ne (by omega), e2], by rw [m_same, z_up_eq]⟩
    · exact ⟨by rw [m_off _ _ _ _ _ (by omega), z_up_ne (by omega), e1], by rw [m_off _ _ _ _ _ (by omega), z_up_ne (by omega), e2], by rw [m_off _ _ _ _ _ (by omega), z_up_ne (by omega), e3]⟩
  · rw [z_up_ne (by omega)] at hw
    simp (disch := omega) only [m_off, z_up_ne]
    exact hc.2.2 w hw
theorem C_setKind (hc : p_C M i f) {t v : Nat} (h : t < f 0) (h5 : f 1 ≤ 5) (h8 : f 0 ≤ 8) : F_X5_setKind i (nI t) (nI v) M = some (z_si M 8 i t (nI v)) ∧ p_C (z_si M 8 i t (nI v)) i (z_up f (5 + t) v) := by
  refine ⟨?_, hc.setT (k := 0) v h (by omega) h5 h8⟩
  unfold F_X5_setKind
  rw [C_hasTread hc.1.1 (by omega), b1_t (bl_n h (by omega)), Option.bind_some, if_neg (by decide), z_grd_t (by rw [n_in (by omega) (by omega)]; omega), n_cl (by omega)]
theorem C_setNote (hc : p_C M i f) {t v : Nat} (h : t < f 0) (h5 : f 1 ≤ 5) (h8 : f 0 ≤ 8) : F_X5_setNote i (nI t) (nI v) M = some (z_si M 9 i t (nI v)) ∧ p_C (z_si M 9 i t (nI v)) i (z_up f (13 + t) v) := by
  refine ⟨?_, hc.setT (k := 1) v h (by omega) h5 h8⟩
  unfold F_X5_setNote
  rw [C_hasTread hc.1.1 (by omega), b1_t (bl_n h (by omega)), Option.bind_some, if_neg (by decide), z_grd_t (by rw [n_in (by omega) (by omega)]; omega), n_cl (by omega)]
theorem C_setWorn (hc : p_C M i f) {t v : Nat} (h : t < f 0) (h5 : f 1 ≤ 5) (h8 : f 0 ≤ 8) : F_X5_setWorn i (nI t) (nI v) M = some (z_si M 10 i t (nI v)) ∧ p_C (z_si M 10 i t (nI v)) i (z_up f (21 + t) v) := by
  refine ⟨?_, hc.setT (k := 2) v h (by omega) h5 h8⟩
  unfold F_X5_setWorn
  rw [C_hasTread hc.1.1 (by omega), b1_t (bl_n h (by omega)), Option.bind_some, if_neg (by decide), z_grd_t (by rw [n_in (by omega) (by omega)]; omega), n_cl (by omega)]
theorem C_planeTo (hc : p_C M i f) {t v : Nat} (h : t < f 0) (h5 : f 1 ≤ 5) (h8 : f 0 ≤ 8) : F_X5_planeTo i (nI t) (nI v) M = some (z_si (z_si M 9 i t (nI v)) 10 i t (nI 0)) ∧ p_C (z_si (z_si M 9 i t (nI v)) 10 i t (nI 0)) i (z_up (z_up f (13 + t) v) (21 + t) 0) := by
  obtain ⟨e1, e2⟩ := C_setNote (v := v) hc h h5 h8
  obtain ⟨e3, e4⟩ := C_setWorn (v := 0) e2 (t := t) (by rw [z_up_ne (by omega)]; exact h) (by rw [z_up_ne (by omega)]; exact h5) (by rw [z_up_ne (by omega)]; exact h8)
  refine ⟨?_, e4⟩
  unfold F_X5_planeTo
  rw [e1, Option.bind_some, n_0, e3]; rfl
theorem p_C.reach (hc : p_C M i f) (v : Nat) : p_C (z_si M 7 i 7 (nI v)) i (z_up f 3 v) := by
  refine ⟨?_, fun x hx => ?_, fun w hw => ?_⟩
  · obtain ⟨c0, c1, c2, c3, c4⟩ := hc.1
    exact ⟨by rw [m_off _ _ _ _ _ (by omega), z_up_ne (by omega), c0], by rw [m_off _ _ _ _ _ (by omega), z_up_ne (by omega), c1], by rw [m_off _ _ _ _ _ (by omega), z_up_ne (by omega), c2], by rw [m_same, z_up_eq], by rw [m_off _ _ _ _ _ (by omega), z_up_ne (by omega), c4]⟩
  · rw [z_up_ne (by omega)] at hx
    simp (disch := omega) only [m_off, z_up_ne]
    exact hc.2.1 x hx
  · rw [z_up_ne (by omega)] at hw
    simp (disch := omega) only [m_off, z_up_ne]
    exact hc.2.2 w hw
theorem p_V.up (hv : p_V f) {k v : Nat} (h2 : 2 ≤ k) (g2 : k = 2 → v ≤ 15) (g3 : k = 3 → v ≤ 9) (g4 : k = 4 → v ≤ 5000) (g5 : 5 ≤ k → k < 13 → 1 ≤ v ∧ v ≤ 5) (g6 : 13 ≤ k → k < 21 → v ≤ 9) (g7 : 21 ≤ k → k < 29 → v ≤ 99) (g8 : 29 ≤ k → k < 39 → v < f 0) (g9 : 39 ≤ k → k < 44 → 1 ≤ v ∧ v ≤ 3) (g10 : 44 ≤ k → v ≤ 20) : p_V (z_up f k v) := by
  have h := hv.1
  have u := z_up_or f k v
  have u0 := u 0
  have u1 := u 1
  refine ⟨?_, fun t ht => ?_, fun w hw => ?_⟩
  · have u2 := u 2
    have u3 := u 3
    have u4 := u 4
    omega
  · have e := hv.2.1 t (by omega)
    have u5 := u (5 + t)
    have u6 := u (13 + t)
    have u7 := u (21 + t)
    omega
  · have e := hv.2.2 w (by omega)
    have u5 := u (29 + w)
    have u6 := u (34 + w)
    have u7 := u (39 + w)
    have u8 := u (44 + w)
    omega
end
-- what holds after an ACT
def p_ac (a b c : Nat) : Prop := (7 ≤ a ∧ a ≤ 11 ∧ b ≤ 24) ∨ a = 12 ∨ a = 25 ∨ a = 29 ∨ (a = 21 ∧ c = 17)
theorem z_Rel.act {M M2 : z_M} (hR : z_Rel M) {f : Nat → Nat} (hv : p_V f) (h9 : f 4 ≤ 999) (hc : p_C M2 24 f) (ht : p_T M2 25 0 f) {nx kp : Nat} {h : Nat → Nat → Nat} (h6 : C6 M2 nx kp h) (h7 : M6 M2 kp h) (hh : ∀ j, j < kp → p_V (h j) ∧ h j 4 ≤ 999) (hs : z_gi M 21 0 4 = 1) (e : ∀ a b c, ¬ p_ac a b c → z_gi M2 a b c = z_gi M a b c) : z_Rel M2 := by
  obtain ⟨r1, r2, r3, r4, r5, r6, r7, r8⟩ := hR
  have k : ∀ a b c, (7 ≤ a → a ≤ 11 → 24 < b) → a ≠ 12 → a ≠ 25 → a ≠ 29 → (a = 21 → c ≠ 17) → z_gi M2 a b c = z_gi M a b c := fun a b c k1 k2 k3 k4 k5 => e a b c (by unfold p_ac; omega)
  have s : z_gi M2 21 0 4 = 1 := by rw [k _ _ _ (by omega) (by omega) (by omega) (by omega) (by omega), hs]
  refine ⟨r1.fr (fun a b _ ha c => k _ _ _ (by omega) (by omega) (by omega) (by omega) (by omega)), r2.fr (k _ _ _ (by omega) (by omega) (by omega) (by omega) (by omega)) (k _ _ _ (by omega) (by omega) (by omega) (by omega) (by omega)), r3.fr (k _ _ _ (by omega) (by omega) (by omega) (by omega) (by omega)) (k _ _ _ (by omega) (by omega) (by omega) (by omega) (by omega)) (fun a _ c => k _ _ _ (by omega) (by omega) (by omega) (by omega) (by omega)), r4.fr (k _ _ _ (by omega) (by omega) (by omega) (by omega) (by omega)) (k _ _ _ (by omega) (by omega) (by omega) (by omega) (by omega)), ⟨f, hc, ht, Or.inl ⟨hv, h9, s⟩⟩, ⟨nx, kp, h, h6, h7, hh, fun h0 => by rw [s] at h0; exact absurd h0 (by decide)⟩, r7.fr (fun a _ _ b _ c => k _ _ _ (by omega) (by omega) (by omega) (by omega) (by omega)) (fun a _ c => k _ _ _ (by omega) (by omega) (by omega) (by omega) (by omega)) (k _ _ _ (by omega) (by omega) (by omega) (by omega) (by omega)), r8.fr (k _ _ _ (by omega) (by omega) (by omega) (by omega) (by omega)) (k _ _ _ (by omega) (by omega) (by omega) (by omega) (by omega)) (fun a _ c => k _ _ _ (by omega) (by omega) (by omega) (by omega) (by omega))⟩
theorem eq_undo {M : z_M} (hR : z_Rel M) : ∃ (r : Int32) (M1 : z_M) (M2 : z_M), F_X6_undo M = some (r, M1) ∧ F_X7_undo M1 = some (r, M2) ∧ z_Rel M2 := by
  obtain ⟨f, hc, ht, h8, h5, hVN⟩ := hR.2.2.2.2.1.of
  obtain ⟨nx, kp, h, k1, k2, k3, k4⟩ := hR.2.2.2.2.2.1
  unfold F_X6_undo
  cases kp with
  | zero =>
    refine ⟨-1000002, M, M, ?_, ?_, hR⟩
    · unfold F_X1_takeBack
      rw [k1.2.2.2.1, if_neg (by decide)]; rfl
    · unfold F_X7_undo
      rw [k2.2.1, if_pos (show nI 0 = 0 from rfl)]
  | succ kp =>
    obtain ⟨v0, v9⟩ := k3 0 (by omega)
    have vb := v0.1
    obtain ⟨M1, e1, e2, e3, e4⟩ := C_takeBack k1 (by omega) (by omega)
    obtain ⟨M2, i1, i2, i3, i4⟩ := M_undo (k2.fr (M' := M1) (e2 29 0 (by omega)) (e2 21 0 (by omega) _))
    refine ⟨nI kp, M1, M2, by rw [e1]; rfl, i1, hR.act v0 v9 (e4.fr (fun a _ _ c => i2 a _ c (by omega) (by omega))) i4 (e3.fr (fun a _ _ b _ c => i2 a _ c (by omega) (by omega)) (fun c => i2 12 _ c (by omega) (by omega))) i3 (fun j hj => k3 (j + 1) (by omega)) ?_ (fun a b c hn => ?_)⟩
    · rcases hVN with hV | hN
      · exact hV.2.2
      · exact absurd (k4 hN.2.2.2) (by omega)
    · unfold p_ac at hn
      rw [i2 a b c (by omega) (by omega), e2 a b (by omega)]
