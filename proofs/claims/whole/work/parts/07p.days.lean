/-! DAYS: a day passes for the reference; days -/
section
variable {M : z_M} {f : Nat → Nat}
theorem M_wearL (hv : p_V f) {w : Nat} (hw : w < f 1) {u : Nat → Nat} (hu : ∀ t, t < f 0 → u t ≤ 99) (K : Int32 → z_M → Option z_M) : ∀ d k n (M : z_M), k + d = s_lg f w → d < n → p_T M 25 0 (z_mk f (q_wk f w k u) w) → ∃ M', F_X7_oneDay_b14 K n (nI w) (nI k) M = K (nI (w + 1)) M' ∧ m_of (fun a _ => a = 25) M M' ∧ p_T M' 25 0 (z_mk f (q_wk f w (s_lg f w) u) (w + 1)) := by
  have hV := hv.1
  have hW := hv.walker hw
  have hq := hv.lg hw
  intro d
  induction d with
  | zero =>
    intro k n M h1 h2 hc
    obtain ⟨n, rfl⟩ : ∃ k', n = k' + 1 := ⟨n - 1, by omega⟩
    have ul := q_wk_le (f := f) (w := w) hu k
    have hv2 : p_V (z_mk f (q_wk f w k u) w) := z_mk_V hv ul
    have f1 : z_mk f (q_wk f w k u) w 1 = f 1 := z_mk_lo (by omega)
    have t1 := hc.set (29 + w) (f (34 + w))
    have t2 := t1.set (34 + w) (f (29 + w))
    rw [z_mk_turn (by omega)] at t2
    refine ⟨z_si (z_si M 25 0 (29 + w) (nI (f (34 + w)))) 25 0 (34 + w) (nI (f (29 + w))), ?_, m_of.si (S := fun a _ => a = 25) (m_of.si (S := fun a _ => a = 25) m_of.rf rfl) rfl, ?_⟩
    · rw [F_X7_oneDay_b14, M_long hc hv2 (by rw [f1]; exact hw), Option.bind_some, z_mk_lg (by omega) (by omega), if_pos (by rw [n_le (by omega) (by omega)]; omega)]
      simp only [z_nmI_e, z_nmM_e]
      rw [n_29, n_34, nI_add, nI_add, z_grd_t (by rw [n_in (by omega) (by omega)]; omega), z_grd_t (by rw [n_in (by omega) (by omega)]; omega), z_grd_t (by rw [n_in (by omega) (by omega)]; omega), z_grd_t (by rw [n_in (by omega) (by omega)]; omega), n_cl (by omega), n_cl (by omega), M_st hc (by omega), M_st hc (by omega), z_mk_from (by omega) (by omega), z_mk_to (by omega) (by omega), n_1, nI_add]
    · rw [show s_lg f w = k by omega]; exact t2
  | succ d ih =>
    intro k n M h1 h2 hc
    obtain ⟨n, rfl⟩ : ∃ k', n = k' + 1 := ⟨n - 1, by omega⟩
    have ul := q_wk_le (f := f) (w := w) hu k
    have hv2 : p_V (z_mk f (q_wk f w k u) w) := z_mk_V hv ul
    have hk : k < s_lg f w := by omega
    have ht := s_td_lt hv hw hk
    have f0 : z_mk f (q_wk f w k u) w 0 = f 0 := z_mk_lo (by omega)
    have f1 : z_mk f (q_wk f w k u) w 1 = f 1 := z_mk_lo (by omega)
    have u9 := ul _ ht
    have e2 := hc.set (21 + s_td f w k) (min 99 (q_wk f w k u (s_td f w k) + 1))
    rw [z_mk_wear (by omega)] at e2
    obtain ⟨M', i1, i2, i3⟩ := ih (k + 1) n _ (by omega) (by omega) (show p_T _ 25 0 (z_mk f (q_wk f w (k + 1) u) w) from by
      have : (fun x => if x = s_td f w k then min 99 (q_wk f w k u (s_td f w k) + 1) else q_wk f w k u x) = q_wk f w (k + 1) u := by
        funext x
        show _ = if x = s_td f w k then min 99 (q_wk f w k u x + 1) else q_wk f w k u x
        by_cases e : x = s_td f w k
        · rw [if_pos e, if_pos e, e]
        · rw [if_neg e, if_neg e]
      rw [← this]; exact e2)
    refine ⟨M', ?_, (m_of.si (S := fun a _ => a = 25) m_of.rf rfl).tr i2, i3⟩
    rw [F_X7_oneDay_b14, M_long hc hv2 (by rw [f1]; exact hw), Option.bind_some, z_mk_lg (by omega) (by omega), if_neg (by rw [n_le (by omega) (by omega)]; omega), M_td hc hv2 (by rw [f1]; exact hw) (by omega), Option.bind_some, z_mk_td (by omega) (by omega)]
    unfold F_X7_oneDay_b68
    rw [n_21, nI_add]
    have hg : z_in (nI (21 + s_td f w k)) 49 := by rw [n_in (by omega) (by omega)]; omega
    simp only [z_grd_t hg]
    rw [n_cl (by omega), M_st hc (by omega), z_mk_worn (by omega), n_1, nI_add, nI_add]
    by_cases h9 : q_wk f w k u (s_td f w k) = 99
    · rw [h9] at i1 ⊢
      rw [if_pos (show nI 99 = 99 from rfl)]
      exact i1
    · rw [if_neg (by rw [n_99, n_eq (by omega) (by omega)]; exact h9)]
      rw [show min 99 (q_wk f w k u (s_td f w k) + 1) = q_wk f w k u (s_td f w k) + 1 by omega] at i1
      exact i1
theorem M_oneDayA (hv : p_V f) {u : Nat → Nat} (hu : ∀ t, t < f 0 → u t ≤ 99) : ∀ d w n (M : z_M), w + d = f 1 → d < n → p_T M 25 0 (z_mk f (q_wa f w u) w) → ∃ M', F_X7_oneDay_b2 n (nI w) M = some (z_si M' 25 0 4 (nI (f 4 + 1))) ∧ m_of (fun a _ => a = 25) M M' ∧ p_T M' 25 0 (z_mk f (q_wa f (f 1) u) (f 1)) := by
  have hV := hv.1
  intro d
  induction d with
  | zero =>
    intro w n M h1 h2 hc
    obtain ⟨n, rfl⟩ : ∃ k', n = k' + 1 := ⟨n - 1, by omega⟩
    have e : w = f 1 := by omega
    subst e
    refine ⟨M, ?_, m_of.rf, hc⟩
    rw [F_X7_oneDay_b2, z_grd_t (by decide), show (1 : Int32).toNatClampNeg = 1 from rfl, M_st hc (by decide), z_mk_lo (by omega), if_pos (by rw [n_le (by omega) (by omega)]; omega), z_grd_t (by decide), z_grd_t (by decide), show (4 : Int32).toNatClampNeg = 4 from rfl, M_st hc (by decide), z_mk_lo (by omega), n_1, nI_add]
  | succ d ih =>
    intro w n M h1 h2 hc
    obtain ⟨n, rfl⟩ : ∃ k', n = k' + 1 := ⟨n - 1, by omega⟩
    have hq := hv.lg (show w < f 1 by omega)
    obtain ⟨M1, i1, i2, i3⟩ := M_wearL hv (show w < f 1 by omega) (q_wa_le hu w) (F_X7_oneDay_b2 n) (s_lg f w) 0 z_fuel M (by omega) (by unfold z_fuel; omega) hc
    obtain ⟨M', j1, j2, j3⟩ := ih (w + 1) n M1 (by omega) (by omega) i3
    refine ⟨M', ?_, i2.tr j2, j3⟩
    rw [F_X7_oneDay_b2, z_grd_t (by decide), show (1 : Int32).toNatClampNeg = 1 from rfl, M_st hc (by decide), z_mk_lo (by omega), if_neg (by rw [n_le (by omega) (by omega)]; omega)]
    exact i1.trans j1
theorem M_oneDay (ht : p_T M 25 0 f) (hv : p_V f) : ∃ M', F_X7_oneDay M = some M' ∧ m_of (fun a _ => a = 25) M M' ∧ p_T M' 25 0 (s_day f) := by
  have hV := hv.1
  have hu : ∀ t, t < f 0 → f (21 + t) ≤ 99 := fun t ht => (hv.2.1 t ht).2.2.2
  obtain ⟨M1, i1, i2, i3⟩ := M_oneDayA hv (u := fun t => f (21 + t)) hu (f 1) 0 z_fuel M (by omega) (by unfold z_fuel; omega) (by show p_T M 25 0 (z_mk f (fun t => f (21 + t)) 0); rw [z_mk_0]; exact ht)
  exact ⟨_, i1, i2.si rfl, i3.set 4 _⟩
/-- how worn all TREADS are together -/
def s_wsum (f : Nat → Nat) : Nat → Nat
  | 0 => 0
  | t + 1 => s_wsum f t + f (21 + t)
theorem C_worn {i : Nat} (hc : p_C M i f) (hv : p_V f) : F_X5_wornTogether i M = some (nI (s_wsum f (f 0))) := by
  have hV := hv.1
  have key : ∀ d t n, t + d = f 0 → d < n → F_X5_wornTogether_b4 i M n (nI (s_wsum f t)) (nI t) = some (nI (s_wsum f (f 0))) := by
    intro d
    induction d with
    | zero =>
      intro t n h1 h2
      obtain ⟨n, rfl⟩ : ∃ k', n = k' + 1 := ⟨n - 1, by omega⟩
      rw [F_X5_wornTogether_b4, hc.1.1, if_pos (by rw [n_le (by omega) (by omega)]; omega), show t = f 0 by omega]
    | succ d ih =>
      intro t n h1 h2
      obtain ⟨n, rfl⟩ : ∃ k', n = k' + 1 := ⟨n - 1, by omega⟩
      rw [F_X5_wornTogether_b4, hc.1.1, if_neg (by rw [n_le (by omega) (by omega)]; omega), C_wornOf hc hv (by omega), Option.bind_some, z_nmI_e, n_1, nI_add, nI_add]
      exact ih (t + 1) n (by omega) (by omega)
  exact key (f 0) 0 z_fuel (by omega) (by unfold z_fuel; omega)
theorem M_worn (ht : p_T M 25 0 f) (hv : p_V f) : F_X7_allWorn M = some (nI (s_wsum f (f 0))) := by
  have hV := hv.1
  have key : ∀ d t n, t + d = f 0 → d < n → F_X7_allWorn_b4 M n (nI (s_wsum f t)) (nI t) = some (nI (s_wsum f (f 0))) := by
    intro d
    induction d with
    | zero =>
      intro t n h1 h2
      obtain ⟨n, rfl⟩ : ∃ k', n = k' + 1 := ⟨n - 1, by omega⟩
      rw [F_X7_allWorn_b4, z_grd_t (by decide), show (0 : Int32).toNatClampNeg = 0 from rfl, M_st ht (by decide), if_pos (by rw [n_le (by omega) (by omega)]; omega), show t = f 0 by omega]
    | succ d ih =>
      intro t n h1 h2
      obtain ⟨n, rfl⟩ : ∃ k', n = k' + 1 := ⟨n - 1, by omega⟩
      rw [F_X7_allWorn_b4, z_grd_t (by decide), show (0 : Int32).toNatClampNeg = 0 from rfl, M_st ht (by decide), if_neg (by rw [n_le (by omega) (by omega)]; omega), n_21, nI_add, z_grd_t (by rw [n_in (by omega) (by omega)]; omega), n_cl (by omega), M_st ht (by omega), z_nmI_e, n_1, nI_add, nI_add]
      exact ih (t + 1) n (by omega) (by omega)
  exact key (f 0) 0 z_fuel (by omega) (by unfold z_fuel; omega)
end
def q_days (f : Nat → Nat) : Nat → Nat → Nat
  | 0 => f
  | j + 1 => s_day (q_days f j)
def z_hs (f : Nat → Nat) (h : Nat → Nat → Nat) : Nat → Nat → Nat → Nat
  | 0 => h
  | j + 1 => z_push (q_days f j) (z_hs f h j)
theorem q_days_V {f : Nat → Nat} (hv : p_V f) : ∀ j, f 4 + j ≤ 5000 → p_V (q_days f j) ∧ q_days f j 4 = f 4 + j
  | 0, _ => ⟨hv, rfl⟩
  | j + 1, h => by
    obtain ⟨h1, h2⟩ := q_days_V hv j (by omega)
    exact ⟨s_day_V h1 (by omega), by show s_day (q_days f j) 4 = _; rw [s_day_4, h2]; omega⟩
theorem z_hs_V {f : Nat → Nat} {h : Nat → Nat → Nat} {kp : Nat} (hv : p_V f) (hh : ∀ j, j < kp → p_V (h j) ∧ h j 4 ≤ 999) : ∀ k, f 4 + k ≤ 999 → ∀ j, j < min 24 (kp + k) → p_V (z_hs f h k j) ∧ z_hs f h k j 4 ≤ 999
  | 0, _, j, hj => hh j (by omega)
  | k + 1, h9, 0, _ => by
    obtain ⟨h1, h2⟩ := q_days_V hv k (by omega)
    exact ⟨h1, by show q_days f k 4 ≤ 999; omega⟩
  | k + 1, h9, j + 1, hj => z_hs_V hv hh k (by omega) j (by omega)
theorem C_daysL {f : Nat → Nat} {h : Nat → Nat → Nat} {nx kp k : Nat} (hv : p_V f) (h9 : f 4 + k ≤ 999) : ∀ d j n (M : z_M), j + d = k → d < n → p_C M 24 (q_days f j) → C6 M ((nx + j) % 24) (min 24 (kp + j)) (z_hs f h j) → ∃ M', F_X6_days_b46 n (nI k) (nI j) M = (F_X5_wornTogether 24 M').bind (fun q11 => some (q11, M')) ∧ m_of (fun a b => (7 ≤ a ∧ a ≤ 11 ∧ b ≤ 24) ∨ a = 12) M M' ∧ p_C M' 24 (q_days f k) ∧ C6 M' ((nx + k) % 24) (min 24 (kp + k)) (z_hs f h k) := by
  intro d
  induction d with
  | zero =>
    intro j n M h1 h2 hc h6
    obtain ⟨n, rfl⟩ : ∃ k', n = k' + 1 := ⟨n - 1, by omega⟩
    have e : j = k := by omega
    subst e
    exact ⟨M, by rw [F_X6_days_b46, if_pos (by rw [n_le (by omega) (by omega)]; omega)], m_of.rf, hc, h6⟩
  | succ d ih =>
    intro j n M h1 h2 hc h6
    obtain ⟨n, rfl⟩ : ∃ k', n = k' + 1 := ⟨n - 1, by omega⟩
    obtain ⟨v1, v2⟩ := q_days_V hv j (by omega)
    have vb := v1.1
    obtain ⟨M1, e1, e2, e3⟩ := C_keep h6 hc (by omega) (by omega)
    obtain ⟨M2, i1, i2, i3⟩ := C_passDay (hc.fr (fun a _ _ c => e2 a 24 (by omega) c)) v1
    have e4 : C6 M2 ((nx + (j + 1)) % 24) (min 24 (kp + (j + 1))) (z_hs f h (j + 1)) := by
      rw [show (nx + (j + 1)) % 24 = ((nx + j) % 24 + 1) % 24 by omega, show min 24 (kp + (j + 1)) = min 24 (min 24 (kp + j) + 1) by omega]
      exact e3.fr (fun a _ _ b hb c => i2 a b (by unfold p_in; omega) c) (fun c => i2 12 0 (by unfold p_in; omega) c)
    obtain ⟨M', j1, j2, j3, j4⟩ := ih (j + 1) n M2 (by omega) (by omega) i3 e4
    refine ⟨M', ?_, ((e2.mono (fun a b h => by omega)).tr (i2.mono (fun a b h => by unfold p_in at h; omega))).tr j2, j3, j4⟩
    rw [F_X6_days_b46, if_neg (by rw [n_le (by omega) (by omega)]; omega), e1, Option.bind_some, i1, Option.bind_some, n_1, nI_add]
    exact j1
theorem M_daysL {f : Nat → Nat} {h : Nat → Nat → Nat} {kp k : Nat} (hv : p_V f) (h9 : f 4 + k ≤ 999) : ∀ d j n (M : z_M), j + d = k → d < n → p_T M 25 0 (q_days f j) → M6 M (min 24 (kp + j)) (z_hs f h j) → ∃ M', F_X7_days_b44 n (nI k) (nI j) M = (F_X7_allWorn M').bind (fun q8 => some (q8, M')) ∧ (∀ a b c, a ≠ 25 → a ≠ 29 → (a = 21 → c ≠ 17) → z_gi M' a b c = z_gi M a b c) ∧ p_T M' 25 0 (q_days f k) ∧ M6 M' (min 24 (kp + k)) (z_hs f h k) := by
  intro d
  induction d with
  | zero =>
    intro j n M h1 h2 hc h6
    obtain ⟨n, rfl⟩ : ∃ k', n = k' + 1 := ⟨n - 1, by omega⟩
    have e : j = k := by omega
    subst e
    exact ⟨M, by rw [F_X7_days_b44, if_pos (by rw [n_le (by omega) (by omega)]; omega)], fun a b c _ _ _ => rfl, hc, h6⟩
  | succ d ih =>
    intro j n M h1 h2 hc h6
    obtain ⟨n, rfl⟩ : ∃ k', n = k' + 1 := ⟨n - 1, by omega⟩
    obtain ⟨v1, v2⟩ := q_days_V hv j (by omega)
    obtain ⟨M1, e1, e2, e3⟩ := M_note h6 hc
    obtain ⟨M2, i1, i2, i3⟩ := M_oneDay (hc.fr (fun c => e2 25 0 c (by omega) (by omega))) v1
    have e4 : M6 M2 (min 24 (kp + (j + 1))) (z_hs f h (j + 1)) := by
      rw [show min 24 (kp + (j + 1)) = min 24 (min 24 (kp + j) + 1) by omega]
      exact e3.fr (fun c => i2 29 0 (by omega) c) (i2 21 0 (by omega) 17)
    obtain ⟨M', j1, j2, j3, j4⟩ := ih (j + 1) n M2 (by omega) (by omega) i3 e4
    refine ⟨M', ?_, fun a b c x y z => by rw [j2 a b c x y z, i2 a b x, e2 a b c y z], j3, j4⟩
    rw [F_X7_days_b44, if_neg (by rw [n_le (by omega) (by omega)]; omega), e1, Option.bind_some, i1, Option.bind_some, n_1, nI_add]
    exact j1
theorem eq_days {M : z_M} (hR : z_Rel M) (a1 : Int32) : ∃ (r : Int32) (M1 : z_M) (M2 : z_M), F_X6_days a1 M = some (r, M1) ∧ F_X7_days a1 M1 = some (r, M2) ∧ z_Rel M2 := by
  obtain ⟨f, hc, ht, h8, h5, hVN⟩ := hR.2.2.2.2.1.of
  unfold F_X6_days F_X7_days
  simp only [C_st hc h8, Option.bind_some, b1_if, C_within (lo := 1) (hi := 24) (L := 1) (U := 24), M_bw (lo := 1) (hi := 24) (L := 1) (U := 24)]
  rcases hVN with ⟨hv, h9, hs⟩ | ⟨h0, -, -, hs⟩
  · rw [if_pos (show 1 ≤ f 0 by have := hv.1; omega)]
    by_cases h : bw 1 24 a1
    · obtain ⟨k, hk1, hk2, rfl⟩ := bw_of h (by decide) (by decide)
      unfold F_X5_dayNumber
      rw [if_pos h, hc.1.2.2.2.2, Option.bind_some, nI_add]
      by_cases h99 : f 4 + k ≤ 999
      · obtain ⟨nx, kp, hh, k1, k2, k3, k4⟩ := hR.2.2.2.2.2.1
        have hnx := k1.1
        have hkp := k1.2.1
        obtain ⟨M1, e1, e2, e3, e4⟩ := C_daysL (f := f) (h := hh) (nx := nx) (kp := kp) (k := k) hv h99 k 0 z_fuel M (by omega) (by unfold z_fuel; omega) hc (by rw [show (nx + 0) % 24 = nx by omega, show min 24 (kp + 0) = kp by omega]; exact k1)
        obtain ⟨M2, i1, i2, i3, i4⟩ := M_daysL (f := f) (h := hh) (kp := kp) (k := k) hv h99 k 0 z_fuel M1 (by omega) (by unfold z_fuel; omega) (ht.fr (fun c => e2 25 0 (by omega) c)) (by rw [show min 24 (kp + 0) = kp by omega]; exact k2.fr (fun c => e2 29 0 (by omega) c) (e2 21 0 (by omega) 17))
        obtain ⟨v1, v2⟩ := q_days_V hv k (by omega)
        refine ⟨nI (s_wsum (q_days f k) (q_days f k 0)), M1, M2, ?_, ?_, hR.act v1 (by omega) (e3.fr (fun a _ _ c => i2 a 24 c (by omega) (by omega) (by omega))) i3 (e4.fr (fun a _ _ b _ c => i2 a b c (by omega) (by omega) (by omega)) (fun c => i2 12 0 c (by omega) (by omega) (by omega))) i4 (z_hs_V hv k3 k h99) hs (fun a b c hn => ?_)⟩
        · rw [if_pos (by rw [n_999, n_le (by omega) (by omega)]; exact h99), n_0, e1, C_worn e3 v1]; rfl
        · rw [e2 21 0 (by omega) 4, hs, if_neg (by decide), if_pos h, z_grd_t (by decide), show (4 : Int32).toNatClampNeg = 4 from rfl, e2 25 0 (by omega) 4, M_st ht (by decide), nI_add, if_pos (by rw [n_999, n_le (by omega) (by omega)]; exact h99), n_0, i1, M_worn i3 v1]; rfl
        · unfold p_ac at hn
          rw [i2 a b c (by omega) (by omega) (by omega), e2 a b (by omega)]
      · refine ⟨-1000003, M, M, ?_, ?_, hR⟩
        · rw [if_neg (by rw [n_999, n_le (by omega) (by omega)]; exact h99)]
        · rw [hs, if_neg (by decide), if_pos h, z_grd_t (by decide), show (4 : Int32).toNatClampNeg = 4 from rfl, M_st ht (by decide), nI_add, if_neg (by rw [n_999, n_le (by omega) (by omega)]; exact h99)]
    · exact ⟨-1000001, M, M, by rw [if_neg h], by rw [hs, if_neg (by decide), if_neg h], hR⟩
  · exact ⟨-1000002, M, M, by rw [if_neg (by omega)], by rw [hs, if_pos rfl], hR⟩
