/-! TWINS -/
abbrev s_tw (f : Nat → Nat) (w x : Nat) : Prop := t_n f w (s_lg f w) = t_n f x (s_lg f x)
theorem M_areTwins {M : z_M} {f : Nat → Nat} (ht : p_T M 25 0 f) (hv : p_V f) {w x : Nat} (hw : w < f 1) (hx : x < f 1) : F_X7_areTwins (nI w) (nI x) M = some (b1 (s_tw f w x)) := by
  have qw := hv.lg hw
  have qx := hv.lg hx
  have inj := t_n_inj hv hw hx (s_lg f w) (s_lg f x) (Nat.le_refl _) (Nat.le_refl _)
  have none : ∀ n k, k < 100 → F_X7_areTwins_b22 M (n + 1) (nI w) (nI x) 0 (nI k) = some 0 := by
    intro n k hk
    rw [F_X7_areTwins_b22, M_long ht hv hw, Option.bind_some, z_grd_t (by decide), if_pos rfl]
    by_cases h : nI (s_lg f w) ≤ nI k
    · rw [if_pos h]
    · rw [if_neg h]
  have key : s_lg f w = s_lg f x → ∀ d k n, k + d = s_lg f w → d + 1 < n → (∀ j, j < k → s_st f w j = s_st f x j) → F_X7_areTwins_b22 M n (nI w) (nI x) 1 (nI k) = some (b1 (s_tw f w x)) := by
    intro hl d
    induction d with
    | zero =>
      intro k n h1 h2 hj
      obtain ⟨n, rfl⟩ : ∃ k', n = k' + 1 := ⟨n - 1, by omega⟩
      rw [F_X7_areTwins_b22, M_long ht hv hw, Option.bind_some, if_pos (by rw [n_le (by omega) (by omega)]; omega), z_grd_t (by decide), b1_t (inj.mpr ⟨hl, fun j h => hj j (by omega)⟩)]
    | succ d ih =>
      intro k n h1 h2 hj
      obtain ⟨n, rfl⟩ : ∃ k', n = k' + 2 := ⟨n - 2, by omega⟩
      rw [F_X7_areTwins_b22, M_long ht hv hw, Option.bind_some, if_neg (by rw [n_le (by omega) (by omega)]; omega), if_neg (by decide), M_tuneOf ht hv hw (by omega), Option.bind_some, M_tuneOf ht hv hx (by omega), Option.bind_some]
      have a1 : s_st f w k ≤ 10 := s_snd_le hv (s_td_lt hv hw (by omega))
      have a2 : s_st f x k ≤ 10 := s_snd_le hv (s_td_lt hv hx (by omega))
      unfold F_X7_areTwins_b58
      by_cases e : s_st f w k = s_st f x k
      · rw [if_pos (congrArg nI e)]
        rw [n_1, nI_add]
        exact ih (k + 1) (n + 1) (by omega) (by omega) (fun j h => by
          by_cases ej : j = k
          · subst ej; exact e
          · exact hj j (by omega))
      · rw [if_neg (fun h => e (Eq.mp (n_eq (a := s_st f w k) (b := s_st f x k) (by omega) (by omega)) h)), n_1, nI_add, none _ _ (by omega), b1_f (fun h => e ((inj.mp h).2 k (by omega)))]
  unfold F_X7_areTwins F_X7_areTwins_b18
  rw [M_long ht hv hw, Option.bind_some, M_long ht hv hx, Option.bind_some]
  by_cases hl : s_lg f w = s_lg f x
  · rw [if_pos (congrArg nI hl)]
    exact key hl (s_lg f w) 0 z_fuel (by omega) (by unfold z_fuel; omega) (fun j h => by omega)
  · rw [if_neg (fun h => hl (by rw [n_eq (by omega) (by omega)] at h; exact h)), b1_f (fun h => hl (inj.mp h).1)]
    exact none 99999 0 (by omega)
/-- pairs of twins: how many so far, and the first (100: none) -/
def q_x (f : Nat → Nat) (w : Nat) : Nat → Nat → Nat × Nat → Nat × Nat
  | 0, _, s => s
  | d + 1, x, s => q_x f w d (x + 1) (if s_tw f w x then (s.1 + 1, if s.2 < 100 then s.2 else 10 * w + x) else s)
def q_w (f : Nat → Nat) : Nat → Nat → Nat × Nat → Nat × Nat
  | 0, _, s => s
  | d + 1, w, s => q_w f d (w + 1) (q_x f w (f 1 - (w + 1)) (w + 1) s)
theorem q_x_1 {f : Nat → Nat} {w : Nat} : ∀ d x s, s.2 < 100 → (q_x f w d x s).2 = s.2
  | 0, _, _, _ => rfl
  | d + 1, x, s, h => by
    show (q_x f w d (x + 1) _).2 = _
    by_cases e : s_tw f w x
    · rw [if_pos e, q_x_1 d _ _ (by show (if s.2 < 100 then s.2 else _) < 100; rw [if_pos h]; exact h)]
      exact if_pos h
    · rw [if_neg e, q_x_1 d _ _ h]
theorem q_w_1 {f : Nat → Nat} : ∀ d w s, s.2 < 100 → (q_w f d w s).2 = s.2
  | 0, _, _, _ => rfl
  | d + 1, w, s, h => by
    have := q_x_1 (f := f) (w := w) (f 1 - (w + 1)) (w + 1) s h
    show (q_w f d (w + 1) _).2 = _
    rw [q_w_1 d _ _ (by rw [this]; exact h), this]
abbrev p_tn (M : z_M) (f : Nat → Nat) : Prop := ∀ w, w < f 1 → z_gl M w = nL (t_n f w (s_lg f w))
theorem C_eqt {M : z_M} {f : Nat → Nat} (hl : p_tn M f) (hv : p_V f) {w x : Nat} (hw : w < f 1) (hx : x < f 1) : lg_cmp (z_gl M w) (z_gl M x) = 0 ↔ s_tw f w x := by
  have a := t_n_32 hv hw (Nat.le_refl _)
  have b := t_n_32 hv hx (Nat.le_refl _)
  rw [lg_0, hl w hw, hl x hx, nL_eq (by omega) (by omega)]
theorem C_count2 {M : z_M} {f : Nat → Nat} (hl : p_tn M f) (hv : p_V f) {w : Nat} (hw : w < f 1) (K : Int32 → Int32 → Int32 → z_M → Option (Int32 × z_M)) : ∀ d x n s, x + d = f 1 → d < n → F_X3_twinCount_b19 K n (nI (f 1)) (nI s.1) (nI w) (nI x) M = K (nI (f 1)) (nI (q_x f w d x s).1) (nI (w + 1)) M := by
  have hV := hv.1
  intro d
  induction d with
  | zero =>
    intro x n s h1 h2
    obtain ⟨n, rfl⟩ : ∃ k', n = k' + 1 := ⟨n - 1, by omega⟩
    rw [F_X3_twinCount_b19, if_pos (by rw [n_le (by omega) (by omega)]; omega), n_1, nI_add]; rfl
  | succ d ih =>
    intro x n s h1 h2
    obtain ⟨n, rfl⟩ : ∃ k', n = k' + 1 := ⟨n - 1, by omega⟩
    have e := C_eqt hl hv hw (show x < f 1 by omega)
    rw [F_X3_twinCount_b19, if_neg (by rw [n_le (by omega) (by omega)]; omega), z_grd_t (by rw [n_in (by omega) (by omega)]; omega), z_grd_t (by rw [n_in (by omega) (by omega)]; omega), n_cl (by omega), n_cl (by omega)]
    unfold F_X3_twinCount_b45
    rw [n_1, nI_add, nI_add]
    show _ = K (nI (f 1)) (nI (q_x f w d (x + 1) (if s_tw f w x then (s.1 + 1, if s.2 < 100 then s.2 else 10 * w + x) else s)).1) (nI (w + 1)) M
    by_cases t : s_tw f w x
    · rw [if_pos (e.mpr t), if_pos t]
      exact ih (x + 1) n (s.1 + 1, if s.2 < 100 then s.2 else 10 * w + x) (by omega) (by omega)
    · rw [if_neg (fun h => t (e.mp h)), if_neg t]
      exact ih (x + 1) n s (by omega) (by omega)
theorem C_twinCount {M : z_M} {f : Nat → Nat} (hc : p_C M 27 f) (hv : p_V f) : ∃ M', F_X3_twinCount M = some (nI (q_w f (f 1) 0 (0, 100)).1, M') ∧ ∀ a b c, z_gi M' a b c = z_gi M a b c := by
  have hV := hv.1
  obtain ⟨M', i1, i2, i3⟩ := C_numberTunes hc hv
  have key : ∀ d w n s, w + d = f 1 → d < n → F_X3_twinCount_b9 n (nI (f 1)) (nI s.1) (nI w) M' = some (nI (q_w f d w s).1, M') := by
    intro d
    induction d with
    | zero =>
      intro w n s h1 h2
      obtain ⟨n, rfl⟩ : ∃ k', n = k' + 1 := ⟨n - 1, by omega⟩
      rw [F_X3_twinCount_b9, if_pos (by rw [n_le (by omega) (by omega)]; omega)]; rfl
    | succ d ih =>
      intro w n s h1 h2
      obtain ⟨n, rfl⟩ : ∃ k', n = k' + 1 := ⟨n - 1, by omega⟩
      rw [F_X3_twinCount_b9, if_neg (by rw [n_le (by omega) (by omega)]; omega), z_nmI_e, n_1, nI_add, C_count2 i3 hv (by omega) _ (f 1 - (w + 1)) (w + 1) z_fuel s (by omega) (by unfold z_fuel; omega)]
      exact ih (w + 1) n _ (by omega) (by omega)
  refine ⟨M', ?_, i2⟩
  unfold F_X3_twinCount
  rw [i1]
  exact key (f 1) 0 z_fuel (0, 100) (by omega) (by unfold z_fuel; omega)
abbrev v_fst (p : Nat) : Int32 := if p < 100 then nI p else -1000000
theorem C_first2 {M : z_M} {f : Nat → Nat} (hl : p_tn M f) (hv : p_V f) {w : Nat} (hw : w < f 1) (K : Int32 → Int32 → z_M → Option (Int32 × z_M)) : ∀ d x n s, x + d = f 1 → d < n → ¬ s.2 < 100 → F_X3_firstTwins_b16 K n (nI (f 1)) (nI w) (nI x) M = if (q_x f w d x s).2 < 100 then some (nI (q_x f w d x s).2, M) else K (nI (f 1)) (nI (w + 1)) M := by
  have hV := hv.1
  intro d
  induction d with
  | zero =>
    intro x n s h1 h2 hs
    obtain ⟨n, rfl⟩ : ∃ k', n = k' + 1 := ⟨n - 1, by omega⟩
    rw [F_X3_firstTwins_b16, if_pos (by rw [n_le (by omega) (by omega)]; omega), n_1, nI_add]
    exact (if_neg hs).symm
  | succ d ih =>
    intro x n s h1 h2 hs
    obtain ⟨n, rfl⟩ : ∃ k', n = k' + 1 := ⟨n - 1, by omega⟩
    have e := C_eqt hl hv hw (show x < f 1 by omega)
    rw [F_X3_firstTwins_b16, if_neg (by rw [n_le (by omega) (by omega)]; omega), z_grd_t (by rw [n_in (by omega) (by omega)]; omega), z_grd_t (by rw [n_in (by omega) (by omega)]; omega), n_cl (by omega), n_cl (by omega), n_10, pk_mul, nI_add, n_1, nI_add]
    have u : q_x f w (d + 1) x s = q_x f w d (x + 1) (if s_tw f w x then (s.1 + 1, if s.2 < 100 then s.2 else 10 * w + x) else s) := rfl
    rw [u]
    by_cases t : s_tw f w x
    · rw [if_pos (e.mpr t), if_pos t, if_neg hs, q_x_1 d (x + 1) (s.1 + 1, 10 * w + x) (by show 10 * w + x < 100; omega), if_pos (show 10 * w + x < 100 by omega)]
    · rw [if_neg (fun h => t (e.mp h)), if_neg t]
      exact ih (x + 1) n s (by omega) (by omega) hs
theorem C_firstTwins {M : z_M} {f : Nat → Nat} (hc : p_C M 27 f) (hv : p_V f) : ∃ M', F_X3_firstTwins M = some (v_fst (q_w f (f 1) 0 (0, 100)).2, M') ∧ ∀ a b c, z_gi M' a b c = z_gi M a b c := by
  have hV := hv.1
  obtain ⟨M', i1, i2, i3⟩ := C_numberTunes hc hv
  have key : ∀ d w n s, w + d = f 1 → d < n → ¬ s.2 < 100 → F_X3_firstTwins_b7 n (nI (f 1)) (nI w) M' = some (v_fst (q_w f d w s).2, M') := by
    intro d
    induction d with
    | zero =>
      intro w n s h1 h2 hs
      obtain ⟨n, rfl⟩ : ∃ k', n = k' + 1 := ⟨n - 1, by omega⟩
      rw [F_X3_firstTwins_b7, if_pos (by rw [n_le (by omega) (by omega)]; omega)]
      show _ = some ((if s.2 < 100 then _ else _), M')
      rw [if_neg hs]
    | succ d ih =>
      intro w n s h1 h2 hs
      obtain ⟨n, rfl⟩ : ∃ k', n = k' + 1 := ⟨n - 1, by omega⟩
      rw [F_X3_firstTwins_b7, if_neg (by rw [n_le (by omega) (by omega)]; omega), z_nmI_e, n_1, nI_add, C_first2 i3 hv (by omega) _ (f 1 - (w + 1)) (w + 1) z_fuel s (by omega) (by unfold z_fuel; omega) hs]
      have u : q_w f (d + 1) w s = q_w f d (w + 1) (q_x f w (f 1 - (w + 1)) (w + 1) s) := rfl
      rw [u]
      by_cases h : (q_x f w (f 1 - (w + 1)) (w + 1) s).2 < 100
      · rw [if_pos h, q_w_1 _ _ _ h, show v_fst _ = _ from if_pos h]
      · rw [if_neg h]
        exact ih (w + 1) n _ (by omega) (by omega) h
  refine ⟨M', ?_, i2⟩
  unfold F_X3_firstTwins
  rw [i1]
  exact key (f 1) 0 z_fuel (0, 100) (by omega) (by unfold z_fuel; omega) (by decide)
/-- the reference: what it keeps of the first pair -/
theorem M_count2 {f : Nat → Nat} (hv : p_V f) {w : Nat} (hw : w < f 1) (K : Int32 → Int32 → z_M → Option (Int32 × z_M)) : ∀ d x n s (M : z_M), x + d = f 1 → d < n → p_T M 25 0 f → z_gi M 21 0 19 = v_fst s.2 → s.2 ≤ 100 → ∃ M', F_X7_twinsMany_b24 K n (nI s.1) (nI w) (nI x) M = K (nI (q_x f w d x s).1) (nI (w + 1)) M' ∧ (∀ a b c, (a = 21 → c ≠ 19) → z_gi M' a b c = z_gi M a b c) ∧ z_gi M' 21 0 19 = v_fst (q_x f w d x s).2 ∧ (q_x f w d x s).2 ≤ 100 := by
  have hV := hv.1
  intro d
  induction d with
  | zero =>
    intro x n s M h1 h2 ht h3 h4
    obtain ⟨n, rfl⟩ : ∃ k', n = k' + 1 := ⟨n - 1, by omega⟩
    refine ⟨M, ?_, fun a b c _ => rfl, h3, h4⟩
    rw [F_X7_twinsMany_b24, z_grd_t (by decide), show (1 : Int32).toNatClampNeg = 1 from rfl, M_st ht (by decide), if_pos (by rw [n_le (by omega) (by omega)]; omega), n_1, nI_add]; rfl
  | succ d ih =>
    intro x n s M h1 h2 ht h3 h4
    obtain ⟨n, rfl⟩ : ∃ k', n = k' + 1 := ⟨n - 1, by omega⟩
    rw [F_X7_twinsMany_b24, z_grd_t (by decide), show (1 : Int32).toNatClampNeg = 1 from rfl, M_st ht (by decide), if_neg (by rw [n_le (by omega) (by omega)]; omega), M_areTwins ht hv hw (by omega), Option.bind_some, b1_if, h3]
    unfold F_X7_twinsMany_b67 F_X7_twinsMany_b70
    rw [n_1, nI_add, nI_add, n_10, pk_mul, nI_add]
    have u : q_x f w (d + 1) x s = q_x f w d (x + 1) (if s_tw f w x then (s.1 + 1, if s.2 < 100 then s.2 else 10 * w + x) else s) := rfl
    rw [u]
    by_cases t : s_tw f w x
    · rw [if_pos t, if_pos t]
      have go : ∀ p, p < 100 → (if s.2 < 100 then s.2 else 10 * w + x) = p → ∃ M', F_X7_twinsMany_b24 K n (nI (s.1 + 1)) (nI w) (nI (x + 1)) (z_si M 21 0 19 (nI p)) = K (nI (q_x f w d (x + 1) (s.1 + 1, if s.2 < 100 then s.2 else 10 * w + x)).1) (nI (w + 1)) M' ∧ (∀ a b c, (a = 21 → c ≠ 19) → z_gi M' a b c = z_gi M a b c) ∧ z_gi M' 21 0 19 = v_fst (q_x f w d (x + 1) (s.1 + 1, if s.2 < 100 then s.2 else 10 * w + x)).2 ∧ (q_x f w d (x + 1) (s.1 + 1, if s.2 < 100 then s.2 else 10 * w + x)).2 ≤ 100 := by
        intro p hp e
        rw [e]
        obtain ⟨M', i1, i2, i3, i4⟩ := ih (x + 1) n (s.1 + 1, p) (z_si M 21 0 19 (nI p)) (by omega) (by omega) (ht.fr (fun c => m_off _ _ _ _ _ (by omega))) (by rw [m_same]; exact (if_pos hp).symm) (by show p ≤ 100; omega)
        exact ⟨M', i1, fun a b c hh => by rw [i2 a b c hh, m_off _ _ _ _ _ (by omega)], i3, i4⟩
      by_cases hs : s.2 < 100
      · rw [show v_fst s.2 = nI s.2 from if_pos hs, if_pos (by rw [n_0, n_le (by omega) (by omega)]; omega)]
        exact go s.2 hs (if_pos hs)
      · rw [show v_fst s.2 = -1000000 from if_neg hs, if_neg (by decide)]
        exact go (10 * w + x) (by omega) (if_neg hs)
    · rw [if_neg t, if_neg t]
      exact ih (x + 1) n s M (by omega) (by omega) ht h3 h4
theorem M_twinsMany {M : z_M} {f : Nat → Nat} (ht : p_T M 25 0 f) (hv : p_V f) : ∃ M', F_X7_twinsMany M = some (nI (q_w f (f 1) 0 (0, 100)).1, M') ∧ (∀ a b c, (a = 21 → c ≠ 19) → z_gi M' a b c = z_gi M a b c) ∧ z_gi M' 21 0 19 = v_fst (q_w f (f 1) 0 (0, 100)).2 := by
  have hV := hv.1
  have key : ∀ d w n s (M : z_M), w + d = f 1 → d < n → p_T M 25 0 f → z_gi M 21 0 19 = v_fst s.2 → s.2 ≤ 100 → ∃ M', F_X7_twinsMany_b10 n (nI s.1) (nI w) M = some (nI (q_w f d w s).1, M') ∧ (∀ a b c, (a = 21 → c ≠ 19) → z_gi M' a b c = z_gi M a b c) ∧ z_gi M' 21 0 19 = v_fst (q_w f d w s).2 := by
    intro d
    induction d with
    | zero =>
      intro w n s M h1 h2 ht h3 h4
      obtain ⟨n, rfl⟩ : ∃ k', n = k' + 1 := ⟨n - 1, by omega⟩
      exact ⟨M, by rw [F_X7_twinsMany_b10, z_grd_t (by decide), show (1 : Int32).toNatClampNeg = 1 from rfl, M_st ht (by decide), if_pos (by rw [n_le (by omega) (by omega)]; omega)]; rfl, fun a b c _ => rfl, h3⟩
    | succ d ih =>
      intro w n s M h1 h2 ht h3 h4
      obtain ⟨n, rfl⟩ : ∃ k', n = k' + 1 := ⟨n - 1, by omega⟩
      obtain ⟨M1, i1, i2, i3, i4⟩ := M_count2 hv (show w < f 1 by omega) (F_X7_twinsMany_b10 n) (f 1 - (w + 1)) (w + 1) z_fuel s M (by omega) (by unfold z_fuel; omega) ht h3 h4
      obtain ⟨M', j1, j2, j3⟩ := ih (w + 1) n (q_x f w (f 1 - (w + 1)) (w + 1) s) M1 (by omega) (by omega) (ht.fr (fun c => i2 25 0 c (by omega))) i3 i4
      refine ⟨M', ?_, fun a b c hh => by rw [j2 a b c hh, i2 a b c hh], j3⟩
      rw [F_X7_twinsMany_b10, z_grd_t (by decide), show (1 : Int32).toNatClampNeg = 1 from rfl, M_st ht (by decide), if_neg (by rw [n_le (by omega) (by omega)]; omega), z_nmI_e, n_1, nI_add, i1]
      exact j1
  unfold F_X7_twinsMany
  obtain ⟨M', i1, i2, i3⟩ := key (f 1) 0 z_fuel (0, 100) (z_si M 21 0 19 (-1000000)) (by omega) (by unfold z_fuel; omega) (ht.fr (fun c => m_off _ _ _ _ _ (by omega))) (m_same _ _ _ _ _) (by decide)
  exact ⟨M', i1, fun a b c hh => by rw [i2 a b c hh, m_off _ _ _ _ _ (by omega)], i3⟩
/-- the first pair that the reference keeps is free too -/
theorem z_Rel.free21 {M M' : z_M} (h : z_Rel M) (e : ∀ a b c, (a = 21 → c ≠ 19) → z_gi M' a b c = z_gi M a b c) : z_Rel M' := by
  obtain ⟨r1, r2, r3, r4, r5, r6, r7, r8⟩ := h
  exact ⟨r1.fr (fun a b _ ha c => e _ _ _ (by omega)), r2.fr (e _ _ _ (by omega)) (e _ _ _ (by omega)), r3.fr (e _ _ _ (by omega)) (e _ _ _ (by omega)) (fun a _ c => e _ _ _ (by omega)), r4.fr (e _ _ _ (by omega)) (e _ _ _ (by omega)), r5.fr (fun a _ _ c => e _ _ _ (by omega)) (fun c => e _ _ _ (by omega)) (e _ _ _ (by omega)), r6.fr (fun a _ _ b _ c => e _ _ _ (by omega)) (fun a _ c => e _ _ _ (by omega)) (e _ _ _ (by omega)) (e _ _ _ (by omega)), r7.fr (fun a _ _ b _ c => e _ _ _ (by omega)) (fun a _ c => e _ _ _ (by omega)) (e _ _ _ (by omega)), r8.fr (e _ _ _ (by omega)) (e _ _ _ (by omega)) (fun a _ c => e _ _ _ (by omega))⟩
theorem eq_twins {M : z_M} (hR : z_Rel M) (a1 : Int32) : ∃ (r : Int32) (M1 : z_M) (M2 : z_M), F_X6_twins a1 M = some (r, M1) ∧ F_X7_twins a1 M1 = some (r, M2) ∧ z_Rel M2 := by
  obtain ⟨f, hc, ht, h8, h5, hVN⟩ := hR.2.2.2.2.1.of
  unfold F_X6_twins F_X7_twins
  simp only [C_st hc h8, C_isFirst, M_isWhat, Option.bind_some, b1_if]
  rcases hVN with ⟨hv, -, hs⟩ | ⟨h0, -, -, hs⟩
  · rw [if_pos (show 1 ≤ f 0 by have := hv.1; omega)]
    by_cases h1 : bw 0 1 a1
    · obtain ⟨M1, e1, e2, e3, -⟩ := C_now hc h8 h5
      by_cases ha : a1 = 0
      · obtain ⟨M2, i1, i2⟩ := C_twinCount e3 hv
        obtain ⟨M3, j1, j2, j3⟩ := M_twinsMany ((ht.free e2).fr (M' := M2) (fun c => i2 25 0 c)) hv
        refine ⟨_, M2, M3, by rw [if_pos h1, if_pos ha, e1, Option.bind_some, i1]; rfl, ?_, (hR.free (e2.tr (fun a b _ c => i2 a b c))).free21 j2⟩
        rw [i2, e2.stat, hs, if_neg (by decide), if_pos h1, j1, Option.bind_some, if_pos ha]
      · obtain ⟨M2, i1, i2⟩ := C_firstTwins e3 hv
        obtain ⟨M3, j1, j2, j3⟩ := M_twinsMany ((ht.free e2).fr (M' := M2) (fun c => i2 25 0 c)) hv
        refine ⟨_, M2, M3, by rw [if_pos h1, if_neg ha, e1, Option.bind_some, i1]; rfl, ?_, (hR.free (e2.tr (fun a b _ c => i2 a b c))).free21 j2⟩
        rw [i2, e2.stat, hs, if_neg (by decide), if_pos h1, j1, Option.bind_some, if_neg ha, j3]
    · exact ⟨-1000001, M, M, by rw [if_neg h1], by rw [hs, if_neg (by decide), if_neg h1], hR⟩
  · exact ⟨-1000002, M, M, by rw [if_neg (by omega)], by rw [hs, if_pos rfl], hR⟩
