/-! DAY: a day passes, for both; days -/
def q_wk (f : Nat → Nat) (w : Nat) : Nat → (Nat → Nat) → Nat → Nat
  | 0, u => u
  | k + 1, u => fun t => if t = s_td f w k then min 99 (q_wk f w k u t + 1) else q_wk f w k u t
def q_wa (f : Nat → Nat) : Nat → (Nat → Nat) → Nat → Nat
  | 0, u => u
  | w + 1, u => q_wk f w (s_lg f w) (q_wa f w u)
/-- f, but worn as u says, and the first s WALKERS turned round -/
def z_mk (f u : Nat → Nat) (s : Nat) : Nat → Nat := fun j =>
  if 21 ≤ j ∧ j < 29 then u (j - 21) else if 29 ≤ j ∧ j < 34 ∧ j - 29 < s then f (j + 5) else if 34 ≤ j ∧ j < 39 ∧ j - 34 < s then f (j - 5) else f j
theorem z_mk_lo {f u : Nat → Nat} {s j : Nat} (h : j < 21) : z_mk f u s j = f j := by
  unfold z_mk; rw [if_neg (by omega), if_neg (by omega), if_neg (by omega)]
theorem z_mk_worn {f u : Nat → Nat} {s t : Nat} (h : t < 8) : z_mk f u s (21 + t) = u t := by
  unfold z_mk; rw [if_pos (by omega), Nat.add_sub_cancel_left]
theorem z_mk_hi {f u : Nat → Nat} {s j : Nat} (h : 39 ≤ j) : z_mk f u s j = f j := by
  unfold z_mk; rw [if_neg (by omega), if_neg (by omega), if_neg (by omega)]
theorem z_mk_from {f u : Nat → Nat} {s w : Nat} (h : w < 5) (hs : s ≤ w) : z_mk f u s (29 + w) = f (29 + w) := by
  unfold z_mk; rw [if_neg (by omega), if_neg (by omega), if_neg (by omega)]
theorem z_mk_to {f u : Nat → Nat} {s w : Nat} (h : w < 5) (hs : s ≤ w) : z_mk f u s (34 + w) = f (34 + w) := by
  unfold z_mk; rw [if_neg (by omega), if_neg (by omega), if_neg (by omega)]
theorem z_mk_from2 {f u : Nat → Nat} {s w : Nat} (h : w < 5) (hs : w < s) : z_mk f u s (29 + w) = f (34 + w) := by
  unfold z_mk; rw [if_neg (by omega), if_pos (by omega)]; congr 1; omega
theorem z_mk_to2 {f u : Nat → Nat} {s w : Nat} (h : w < 5) (hs : w < s) : z_mk f u s (34 + w) = f (29 + w) := by
  unfold z_mk; rw [if_neg (by omega), if_neg (by omega), if_pos (by omega)]; congr 1; omega
theorem z_mk_0 {f : Nat → Nat} : z_mk f (fun t => f (21 + t)) 0 = f := by
  funext j
  unfold z_mk
  by_cases h : 21 ≤ j ∧ j < 29
  · rw [if_pos h]; show f (21 + (j - 21)) = f j; congr 1; omega
  · rw [if_neg h, if_neg (by omega), if_neg (by omega)]
theorem z_mk_wear {f u : Nat → Nat} {s t v : Nat} (h : t < 8) : z_up (z_mk f u s) (21 + t) v = z_mk f (fun x => if x = t then v else u x) s := by
  funext j
  by_cases e : j = 21 + t
  · subst e; rw [z_up_eq, z_mk_worn h, if_pos rfl]
  · rw [z_up_ne e]
    unfold z_mk
    by_cases h2 : 21 ≤ j ∧ j < 29
    · rw [if_pos h2, if_pos h2]; show _ = if j - 21 = t then _ else _; rw [if_neg (by omega)]
    · rw [if_neg h2, if_neg h2]
theorem z_mk_turn {f u : Nat → Nat} {s : Nat} (h : s < 5) : z_up (z_up (z_mk f u s) (29 + s) (f (34 + s))) (34 + s) (f (29 + s)) = z_mk f u (s + 1) := by
  funext j
  by_cases e : j = 34 + s
  · subst e; rw [z_up_eq, z_mk_to2 h (by omega)]
  · rw [z_up_ne e]
    by_cases e2 : j = 29 + s
    · subst e2; rw [z_up_eq, z_mk_from2 h (by omega)]
    · rw [z_up_ne e2]
      unfold z_mk
      by_cases h1 : 21 ≤ j ∧ j < 29
      · rw [if_pos h1, if_pos h1]
      · rw [if_neg h1, if_neg h1]
        by_cases h2 : 29 ≤ j ∧ j < 34 ∧ j - 29 < s
        · rw [if_pos h2, if_pos (show 29 ≤ j ∧ j < 34 ∧ j - 29 < s + 1 by omega)]
        · rw [if_neg h2, if_neg (show ¬ (29 ≤ j ∧ j < 34 ∧ j - 29 < s + 1) by omega)]
          by_cases h3 : 34 ≤ j ∧ j < 39 ∧ j - 34 < s
          · rw [if_pos h3, if_pos (show 34 ≤ j ∧ j < 39 ∧ j - 34 < s + 1 by omega)]
          · rw [if_neg h3, if_neg (show ¬ (34 ≤ j ∧ j < 39 ∧ j - 34 < s + 1) by omega)]
theorem z_mk_V {f u : Nat → Nat} {s : Nat} (hv : p_V f) (hu : ∀ t, t < f 0 → u t ≤ 99) : p_V (z_mk f u s) := by
  have h := hv.1
  refine ⟨?_, fun t ht => ?_, fun w hw => ?_⟩
  · simp only [z_mk_lo (show 0 < 21 by omega), z_mk_lo (show 1 < 21 by omega), z_mk_lo (show 2 < 21 by omega), z_mk_lo (show 3 < 21 by omega), z_mk_lo (show 4 < 21 by omega)]
    exact h
  · rw [z_mk_lo (by omega)] at ht
    have e := hv.2.1 t ht
    rw [z_mk_lo (by omega), z_mk_lo (by omega), z_mk_worn (by omega)]
    exact ⟨e.1, e.2.1, e.2.2.1, hu t ht⟩
  · rw [z_mk_lo (by omega)] at hw
    have e := hv.2.2 w hw
    rw [z_mk_lo (j := 0) (by omega), z_mk_hi (j := 39 + w) (by omega), z_mk_hi (j := 44 + w) (by omega)]
    by_cases hs : w < s
    · rw [z_mk_from2 (by omega) hs, z_mk_to2 (by omega) hs]; exact ⟨e.2.1, e.1, e.2.2⟩
    · rw [z_mk_from (by omega) (by omega), z_mk_to (by omega) (by omega)]; exact e
theorem z_mk_lg {f u : Nat → Nat} {s w : Nat} (h : w < 5) (hs : s ≤ w) : s_lg (z_mk f u s) w = s_lg f w := by
  unfold s_lg; rw [z_mk_from h hs, z_mk_to h hs, z_mk_hi (by omega)]
theorem z_mk_td {f u : Nat → Nat} {s w k : Nat} (h : w < 5) (hs : s ≤ w) : s_td (z_mk f u s) w k = s_td f w k := by
  unfold s_td; rw [z_mk_from h hs, z_mk_to h hs, z_mk_hi (by omega)]
theorem q_wk_le {f u : Nat → Nat} {w : Nat} {n : Nat} (hu : ∀ t, t < n → u t ≤ 99) : ∀ k t, t < n → q_wk f w k u t ≤ 99
  | 0, t, ht => hu t ht
  | k + 1, t, ht => by
    have := q_wk_le (f := f) (w := w) hu k t ht
    show (if _ then _ else _) ≤ 99
    split
    · exact Nat.min_le_left _ _
    · exact this
theorem q_wa_le {f u : Nat → Nat} {n : Nat} (hu : ∀ t, t < n → u t ≤ 99) : ∀ w t, t < n → q_wa f w u t ≤ 99
  | 0, t, ht => hu t ht
  | w + 1, t, ht => q_wk_le (q_wa_le hu w) _ t ht
def s_day (f : Nat → Nat) : Nat → Nat := z_up (z_mk f (q_wa f (f 1) (fun t => f (21 + t))) (f 1)) 4 (f 4 + 1)
theorem s_day_V {f : Nat → Nat} (hv : p_V f) (h : f 4 < 5000) : p_V (s_day f) :=
  (z_mk_V hv (q_wa_le (fun t ht => (hv.2.1 t ht).2.2.2) _)).up (by omega) (by omega) (by omega) (by omega) (by omega) (by omega) (by omega) (by omega) (by omega) (by omega)
theorem s_day_4 {f : Nat → Nat} : s_day f 4 = f 4 + 1 := z_up_eq
section
variable {M : z_M} {i : Nat} {f : Nat → Nat}
theorem p_C.day (hc : p_C M i f) (v : Nat) : p_C (z_si M 7 i 8 (nI v)) i (z_up f 4 v) := by
  refine ⟨?_, fun x hx => ?_, fun w hw => ?_⟩
  · obtain ⟨c0, c1, c2, c3, c4⟩ := hc.1
    exact ⟨by rw [m_off _ _ _ _ _ (by omega), z_up_ne (by omega), c0], by rw [m_off _ _ _ _ _ (by omega), z_up_ne (by omega), c1], by rw [m_off _ _ _ _ _ (by omega), z_up_ne (by omega), c2], by rw [m_off _ _ _ _ _ (by omega), z_up_ne (by omega), c3], by rw [m_same, z_up_eq]⟩
  · rw [z_up_ne (by omega)] at hx
    simp (disch := omega) only [m_off, z_up_ne]
    exact hc.2.1 x hx
  · rw [z_up_ne (by omega)] at hw
    simp (disch := omega) only [m_off, z_up_ne]
    exact hc.2.2 w hw
abbrev p_in (i : Nat) (a b : Nat) : Prop := 7 ≤ a ∧ a ≤ 11 ∧ b = i
theorem n_wear : ∀ a, a < 100 → z_min (99 : Int32) (nI a + 1) = nI (min 99 (a + 1)) := by decide +kernel
theorem C_wearL (hv : p_V f) {w : Nat} (hw : w < f 1) {u : Nat → Nat} (hu : ∀ t, t < f 0 → u t ≤ 99) (K : Int32 → z_M → Option z_M) : ∀ d k n (M : z_M), k + d = s_lg f w → d < n → p_C M i (z_mk f (q_wk f w k u) 0) → ∃ M', F_X5_passDay_b18 i K n (nI w) (nI (s_lg f w)) (nI k) M = K (nI (w + 1)) M' ∧ m_of (p_in i) M M' ∧ p_C M' i (z_mk f (q_wk f w (s_lg f w) u) 0) := by
  have hV := hv.1
  have hW := hv.walker hw
  have hq := hv.lg hw
  intro d
  induction d with
  | zero =>
    intro k n M h1 h2 hc
    obtain ⟨n, rfl⟩ : ∃ k', n = k' + 1 := ⟨n - 1, by omega⟩
    refine ⟨M, by rw [F_X5_passDay_b18, if_pos (by rw [n_le (by omega) (by omega)]; omega), n_1, nI_add], m_of.rf, ?_⟩
    rw [show s_lg f w = k by omega]; exact hc
  | succ d ih =>
    intro k n M h1 h2 hc
    obtain ⟨n, rfl⟩ : ∃ k', n = k' + 1 := ⟨n - 1, by omega⟩
    have ul := q_wk_le (f := f) (w := w) hu k
    have hv2 : p_V (z_mk f (q_wk f w k u) 0) := z_mk_V hv ul
    have hk : k < s_lg f w := by omega
    have ht := s_td_lt hv hw hk
    have f0 : z_mk f (q_wk f w k u) 0 0 = f 0 := z_mk_lo (by omega)
    have f1 : z_mk f (q_wk f w k u) 0 1 = f 1 := z_mk_lo (by omega)
    have u9 := ul _ ht
    obtain ⟨e1, e2⟩ := C_setWorn (v := min 99 (q_wk f w k u (s_td f w k) + 1)) hc (t := s_td f w k) (by rw [f0]; exact ht) (by rw [f1]; omega) (by rw [f0]; omega)
    rw [z_mk_wear (by omega)] at e2
    obtain ⟨M', i1, i2, i3⟩ := ih (k + 1) n _ (by omega) (by omega) (show p_C _ i (z_mk f (q_wk f w (k + 1) u) 0) from by
      have : (fun x => if x = s_td f w k then min 99 (q_wk f w k u (s_td f w k) + 1) else q_wk f w k u x) = q_wk f w (k + 1) u := by
        funext x
        show _ = if x = s_td f w k then min 99 (q_wk f w k u x + 1) else q_wk f w k u x
        by_cases e : x = s_td f w k
        · rw [if_pos e, if_pos e, e]
        · rw [if_neg e, if_neg e]
      rw [← this]; exact e2)
    refine ⟨M', ?_, (m_of.si (S := p_in i) m_of.rf ⟨by decide, by decide, rfl⟩).tr i2, i3⟩
    rw [F_X5_passDay_b18, if_neg (by rw [n_le (by omega) (by omega)]; omega), C_td hc hv2 (by rw [f1]; exact hw) (by omega), Option.bind_some, z_mk_lg (by omega) (by omega), if_pos hk, z_mk_td (by omega) (by omega), C_wornOf hc hv2 (by rw [f0]; exact ht), Option.bind_some, z_mk_worn (by omega), n_wear _ (by omega), e1, Option.bind_some, n_1, nI_add]
    exact i1
theorem C_wearA (hv : p_V f) {u : Nat → Nat} (hu : ∀ t, t < f 0 → u t ≤ 99) : ∀ d w n (M : z_M), w + d = f 1 → d < n → p_C M i (z_mk f (q_wa f w u) 0) → ∃ M', F_X5_passDay_b2 i n (nI w) M = F_X5_passDay_b64 i z_fuel 0 M' ∧ m_of (p_in i) M M' ∧ p_C M' i (z_mk f (q_wa f (f 1) u) 0) := by
  have hV := hv.1
  intro d
  induction d with
  | zero =>
    intro w n M h1 h2 hc
    obtain ⟨n, rfl⟩ : ∃ k', n = k' + 1 := ⟨n - 1, by omega⟩
    have f1 : z_mk f (q_wa f w u) 0 1 = f 1 := z_mk_lo (by omega)
    refine ⟨M, by rw [F_X5_passDay_b2, hc.1.2.1, f1, if_pos (by rw [n_le (by omega) (by omega)]; omega)], m_of.rf, ?_⟩
    rw [show f 1 = w by omega]; exact hc
  | succ d ih =>
    intro w n M h1 h2 hc
    obtain ⟨n, rfl⟩ : ∃ k', n = k' + 1 := ⟨n - 1, by omega⟩
    have f1 : z_mk f (q_wa f w u) 0 1 = f 1 := z_mk_lo (by omega)
    have hq := hv.lg (show w < f 1 by omega)
    obtain ⟨M1, i1, i2, i3⟩ := C_wearL hv (show w < f 1 by omega) (q_wa_le hu w) (F_X5_passDay_b2 i n) (s_lg f w) 0 z_fuel M (by omega) (by unfold z_fuel; omega) hc
    obtain ⟨M', j1, j2, j3⟩ := ih (w + 1) n M1 (by omega) (by omega) i3
    refine ⟨M', ?_, i2.tr j2, j3⟩
    rw [F_X5_passDay_b2, hc.1.2.1, f1, if_neg (by rw [n_le (by omega) (by omega)]; omega), C_long hc (z_mk_V hv (q_wa_le hu w)) (by rw [f1]; omega), Option.bind_some, z_mk_lg (by omega) (by omega)]
    exact i1.trans j1
theorem C_turnA (hv : p_V f) {u : Nat → Nat} (hu : ∀ t, t < f 0 → u t ≤ 99) : ∀ d s n (M : z_M), s + d = f 1 → d < n → p_C M i (z_mk f u s) → ∃ M', F_X5_passDay_b64 i n (nI s) M = some (z_si M' 7 i 8 (nI (f 4 + 1))) ∧ m_of (p_in i) M M' ∧ p_C M' i (z_mk f u (f 1)) := by
  have hV := hv.1
  intro d
  induction d with
  | zero =>
    intro s n M h1 h2 hc
    obtain ⟨n, rfl⟩ : ∃ k', n = k' + 1 := ⟨n - 1, by omega⟩
    have f1 : z_mk f u s 1 = f 1 := z_mk_lo (by omega)
    have f4 : z_mk f u s 4 = f 4 := z_mk_lo (by omega)
    refine ⟨M, by rw [F_X5_passDay_b64, hc.1.2.1, f1, if_pos (by rw [n_le (by omega) (by omega)]; omega), hc.1.2.2.2.2, f4, n_1, nI_add], m_of.rf, ?_⟩
    rw [show f 1 = s by omega]; exact hc
  | succ d ih =>
    intro s n M h1 h2 hc
    obtain ⟨n, rfl⟩ : ∃ k', n = k' + 1 := ⟨n - 1, by omega⟩
    have f0 : z_mk f u s 0 = f 0 := z_mk_lo (by omega)
    have f1 : z_mk f u s 1 = f 1 := z_mk_lo (by omega)
    have hs : s < z_mk f u s 1 := by rw [f1]; omega
    have hv2 : p_V (z_mk f u s) := z_mk_V hv hu
    obtain ⟨⟨p0, p1⟩, -⟩ := C_partOf hc hv2 hs
    rw [z_mk_from (by omega) (by omega)] at p0
    rw [z_mk_to (by omega) (by omega)] at p1
    obtain ⟨e1, e2⟩ := C_setPart (v := f (34 + s)) hc hs (show 0 < 4 by omega) (by rw [f1]; omega) (by rw [f0]; omega)
    obtain ⟨e3, e4⟩ := C_setPart (w := s) (k := 1) (v := f (29 + s)) e2 (by rw [z_up_ne (by omega)]; exact hs) (by omega) (by rw [z_up_ne (by omega), f1]; omega) (by rw [z_up_ne (by omega), f0]; omega)
    have e5 : p_C (z_si (z_si M 11 i (s * 4 + 0) (nI (f (34 + s)))) 11 i (s * 4 + 1) (nI (f (29 + s)))) i (z_up (z_up (z_mk f u s) (29 + s) (f (34 + s))) (34 + s) (f (29 + s))) := e4
    rw [z_mk_turn (by omega)] at e5
    obtain ⟨M', i1, i2, i3⟩ := ih (s + 1) n _ (by omega) (by omega) e5
    refine ⟨M', ?_, (m_of.si (S := p_in i) (m_of.si (S := p_in i) m_of.rf ⟨by decide, by decide, rfl⟩) ⟨by decide, by decide, rfl⟩).tr i2, i3⟩
    rw [F_X5_passDay_b64, hc.1.2.1, f1, if_neg (by rw [n_le (by omega) (by omega)]; omega), p0, Option.bind_some, p1, Option.bind_some, show F_X5_setPart i (nI s) 0 (nI (f (34 + s))) M = _ from e1, Option.bind_some, show F_X5_setPart i (nI s) 1 (nI (f (29 + s))) _ = _ from e3, Option.bind_some, n_1, nI_add]
    exact i1
theorem C_passDay (hc : p_C M i f) (hv : p_V f) : ∃ M', F_X5_passDay i M = some M' ∧ m_of (p_in i) M M' ∧ p_C M' i (s_day f) := by
  have hV := hv.1
  have hu : ∀ t, t < f 0 → f (21 + t) ≤ 99 := fun t ht => (hv.2.1 t ht).2.2.2
  obtain ⟨M1, i1, i2, i3⟩ := C_wearA (i := i) hv (u := fun t => f (21 + t)) hu (f 1) 0 z_fuel M (by omega) (by unfold z_fuel; omega) (by show p_C M i (z_mk f (fun t => f (21 + t)) 0); rw [z_mk_0]; exact hc)
  obtain ⟨M2, j1, j2, j3⟩ := C_turnA hv (q_wa_le hu (f 1)) (f 1) 0 z_fuel M1 (by omega) (by unfold z_fuel; omega) i3
  exact ⟨_, (show F_X5_passDay i M = _ from i1).trans j1, (i2.tr j2).si ⟨by decide, by decide, rfl⟩, j3.day _⟩
end
