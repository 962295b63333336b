/-! RISE -/
def s_rk (g : Nat → Nat) (door w n k : Nat) : Bool := decide (n ≤ s_bits (s_hd g door (g (44 + w) + k)))
def s_rr (g : Nat → Nat) (door w n : Nat) : Nat → Bool
  | 0 => false
  | k + 1 => s_rr g door w n k || s_rk g door w n k
theorem s_rr_up {g : Nat → Nat} {door w n k : Nat} (h : s_rr g door w n k = true) : ∀ e, s_rr g door w n (k + e) = true
  | 0 => h
  | e + 1 => by show (s_rr g door w n (k + e) || _) = true; rw [s_rr_up h e]; rfl
theorem s_hd_lt {f : Nat → Nat} (hv : p_V f) {door m : Nat} : s_hd f door m < 1024 := s_hs_lt hv _ (Nat.le_refl _)
theorem C_isRise {M : z_M} {g : Nat → Nat} (hc : p_C M 27 g) (hv : p_V g) {door w n : Nat} (hw : w < g 1) (hd : door < g 0) (hn : n < 10) : F_X3_isRise (nI w) (nI door) (nI n) M = some (b1 (s_rr g door w n (s_lg g w) = true)) := by
  have h0 := hv.walker hw
  have hq := hv.lg hw
  have key : ∀ d k nn, k + d = s_lg g w → d < nn → s_rr g door w n k = false → F_X3_isRise_b24 M nn (nI door) (nI n) (nI (g (44 + w))) (nI (s_lg g w)) (nI k) = some (b1 (s_rr g door w n (s_lg g w) = true)) := by
    intro d
    induction d with
    | zero =>
      intro k nn h1 h2 hf
      obtain ⟨nn, rfl⟩ : ∃ k', nn = k' + 1 := ⟨nn - 1, by omega⟩
      rw [F_X3_isRise_b24, if_pos (by rw [n_le (by omega) (by omega)]; omega), show s_lg g w = k by omega, hf, b1_f Bool.false_ne_true]
    | succ d ih =>
      intro k nn h1 h2 hf
      obtain ⟨nn, rfl⟩ : ∃ k', nn = k' + 1 := ⟨nn - 1, by omega⟩
      have hb := s_bits_le (x := s_hd g door (g (44 + w) + k))
      have u : s_rr g door w n (k + 1) = s_rk g door w n k := by show (s_rr g door w n k || _) = _; rw [hf]; rfl
      rw [F_X3_isRise_b24, if_neg (by rw [n_le (by omega) (by omega)]; omega), nI_add, C_heardAt hc hv hd (by omega), Option.bind_some, C_bits (s_hd_lt hv), Option.bind_some]
      by_cases h : s_bits (s_hd g door (g (44 + w) + k)) < n
      · rw [if_pos (by rw [n_lt (by omega) (by omega)]; exact h), n_1, nI_add]
        exact ih (k + 1) nn (by omega) (by omega) (by rw [u]; exact decide_eq_false (by omega))
      · rw [if_neg (by rw [n_lt (by omega) (by omega)]; exact h)]
        have := s_rr_up (e := d) (show s_rr g door w n (k + 1) = true by rw [u]; exact decide_eq_true (by omega))
        rw [show k + 1 + d = s_lg g w by omega] at this
        rw [b1_t this]
  unfold F_X3_isRise
  rw [(C_partOf hc hv hw).2.2, Option.bind_some, C_long hc hv hw, Option.bind_some]
  exact key (s_lg g w) 0 z_fuel (by omega) (by unfold z_fuel; omega) rfl
theorem M_isRise {M : z_M} {g : Nat → Nat} (ht : p_T M 25 0 g) (hv : p_V g) {door w n : Nat} (hw : w < g 1) (hd : door < g 0) (hn : n < 10) : F_X7_isRise (nI w) (nI door) (nI n) M = some (b1 (s_rr g door w n (s_lg g w) = true)) := by
  have h0 := hv.walker hw
  have hq := hv.lg hw
  have key : ∀ d k nn, k + d = s_lg g w → d < nn → F_X7_isRise_b6 M nn (nI w) (nI door) (nI n) (b1 (s_rr g door w n k = true)) (nI k) = some (b1 (s_rr g door w n (s_lg g w) = true)) := by
    intro d
    induction d with
    | zero =>
      intro k nn h1 h2
      obtain ⟨nn, rfl⟩ : ∃ k', nn = k' + 1 := ⟨nn - 1, by omega⟩
      rw [F_X7_isRise_b6, M_long ht hv hw, Option.bind_some, if_pos (by rw [n_le (by omega) (by omega)]; omega), z_grd_t b1_and, show s_lg g w = k by omega]
    | succ d ih =>
      intro k nn h1 h2
      obtain ⟨nn, rfl⟩ : ∃ k', nn = k' + 1 := ⟨nn - 1, by omega⟩
      have hb := s_bits_le (x := s_hd g door (g (44 + w) + k))
      have i := ih (k + 1) nn (by omega) (by omega)
      rw [F_X7_isRise_b6, M_long ht hv hw, Option.bind_some, if_neg (by rw [n_le (by omega) (by omega)]; omega), b1_if]
      unfold F_X7_isRise_b45 F_X7_isRise_b50
      rw [n_1, nI_add]
      by_cases e : s_rr g door w n k = true
      · rw [if_pos e]
        rw [b1_t (s_rr_up e 1)] at i
        exact i
      · have u : s_rr g door w n (k + 1) = s_rk g door w n k := by show (s_rr g door w n k || _) = _; rw [Bool.eq_false_iff.mpr e]; rfl
        rw [u] at i
        rw [if_neg e, z_grd_t (by rw [n_44, nI_add, n_in (by omega) (by omega)]; omega), n_44, nI_add, n_cl (by omega), M_st ht (by omega), nI_add, M_heardAt ht hv hd (by omega), Option.bind_some, M_bits (s_hd_lt hv), Option.bind_some]
        by_cases h : s_bits (s_hd g door (g (44 + w) + k)) < n
        · rw [if_pos (by rw [n_lt (by omega) (by omega)]; exact h)]
          rw [b1_f (show ¬ s_rk g door w n k = true by rw [show s_rk g door w n k = false from decide_eq_false (by omega)]; exact Bool.false_ne_true)] at i
          exact i
        · rw [if_neg (by rw [n_lt (by omega) (by omega)]; exact h)]
          rw [b1_t (show s_rk g door w n k = true from decide_eq_true (by omega))] at i
          exact i
  unfold F_X7_isRise
  exact key (s_lg g w) 0 z_fuel (by omega) (by unfold z_fuel; omega)
/-- f, STEP and START of w are a and b -/
def z_rp (f : Nat → Nat) (w a b : Nat) : Nat → Nat := z_up (z_up f (39 + w) a) (44 + w) b
def p_rp (f : Nat → Nat) (w : Nat) (g : Nat → Nat) : Prop := g 0 = f 0 ∧ g 1 = f 1 ∧ ∀ a b, z_rp g w a b = z_rp f w a b
theorem z_rp_rp {f : Nat → Nat} {w a b c d : Nat} : z_rp (z_rp f w a b) w c d = z_rp f w c d := by
  funext j
  unfold z_rp z_up
  by_cases h1 : j = 44 + w
  · rw [if_pos h1, if_pos h1]
  · rw [if_neg h1, if_neg h1, if_neg h1]
    by_cases h2 : j = 39 + w
    · rw [if_pos h2, if_pos h2]
    · rw [if_neg h2, if_neg h2, if_neg h2]
theorem p_rp.rf {f : Nat → Nat} {w : Nat} : p_rp f w f := ⟨rfl, rfl, fun _ _ => rfl⟩
theorem p_rp.rp {f : Nat → Nat} {w a b : Nat} : p_rp f w (z_rp f w a b) := ⟨by unfold z_rp; rw [z_up_ne (by omega), z_up_ne (by omega)], by unfold z_rp; rw [z_up_ne (by omega), z_up_ne (by omega)], fun _ _ => z_rp_rp⟩
theorem z_rp_V {f : Nat → Nat} (hv : p_V f) {w a b : Nat} (hw : w < f 1) (ha : 1 ≤ a ∧ a ≤ 3) (hb : b ≤ 20) : p_V (z_rp f w a b) := by
  have h := hv.walker hw
  exact (hv.up (k := 39 + w) (v := a) (by omega) (by omega) (by omega) (by omega) (by omega) (by omega) (by omega) (by omega) (by omega) (by omega)).up (by omega) (by omega) (by omega) (by omega) (by omega) (by omega) (by omega) (by omega) (by omega) (by omega)
abbrev v_fs (n : Nat) : Int32 := if n < 1000 then nI n else -1000000
def s_ri (f : Nat → Nat) (door w n a b : Nat) : Bool := s_rr (z_rp f w a b) door w n (s_lg (z_rp f w a b) w)
def q_r1 (f : Nat → Nat) (door w n a b : Nat) (s : Nat × Nat) : Nat × Nat := if s_ri f door w n a b = true then (s.1 + 1, if s.2 < 1000 then s.2 else 100 * a + b) else s
def q_rb (f : Nat → Nat) (door w n a : Nat) : Nat → Nat → Nat × Nat → Nat × Nat
  | 0, _, s => s
  | d + 1, b, s => q_rb f door w n a d (b + 1) (q_r1 f door w n a b s)
def q_ra (f : Nat → Nat) (door w n : Nat) : Nat → Nat → Nat × Nat → Nat × Nat
  | 0, _, s => s
  | d + 1, a, s => q_ra f door w n d (a + 1) (q_rb f door w n a 21 0 s)
section
variable {f : Nat → Nat}
theorem C_riB (hv : p_V f) {door w n a : Nat} (hw : w < f 1) (hd : door < f 0) (hn : n < 10) (ha : 1 ≤ a ∧ a ≤ 3) (a4 : Int32) (K : Int32 → Int32 → Int32 → Int32 → Int32 → Int32 → Int32 → z_M → Option (Int32 × z_M)) : ∀ d b nn s g (M : z_M), b + d = 21 → d < nn → p_C M 27 g → p_rp f w g → ∃ M' g', F_X3_risesOf_b19 K nn (nI w) (nI door) (nI n) a4 (nI s.1) (v_fs s.2) (nI a) (nI b) M = K (nI w) (nI door) (nI n) a4 (nI (q_rb f door w n a d b s).1) (v_fs (q_rb f door w n a d b s).2) (nI (a + 1)) M' ∧ m_of (p_in 27) M M' ∧ p_C M' 27 g' ∧ p_rp f w g' := by
  have hV := hv.1
  have h0 := hv.walker hw
  intro d
  induction d with
  | zero =>
    intro b nn s g M h1 h2 hc hg
    obtain ⟨nn, rfl⟩ : ∃ k', nn = k' + 1 := ⟨nn - 1, by omega⟩
    exact ⟨M, g, by rw [F_X3_risesOf_b19, if_pos (by rw [n_20, n_lt (by omega) (by omega)]; omega), n_1, nI_add]; rfl, m_of.rf, hc, hg⟩
  | succ d ih =>
    intro b nn s g M h1 h2 hc hg
    obtain ⟨nn, rfl⟩ : ∃ k', nn = k' + 1 := ⟨nn - 1, by omega⟩
    obtain ⟨g0, g1, g2⟩ := hg
    obtain ⟨e1, e2⟩ := C_setPart (v := a) hc (w := w) (k := 2) (by rw [g1]; exact hw) (by omega) (by rw [g1]; omega) (by rw [g0]; omega)
    obtain ⟨e3, e4⟩ := C_setPart (v := b) e2 (w := w) (k := 3) (by rw [z_up_ne (by omega), g1]; exact hw) (by omega) (by rw [z_up_ne (by omega), g1]; omega) (by rw [z_up_ne (by omega), g0]; omega)
    have e5 : p_C (z_si (z_si M 11 27 (w * 4 + 2) (nI a)) 11 27 (w * 4 + 3) (nI b)) 27 (z_rp f w a b) := by rw [← g2]; exact e4
    have hv' := z_rp_V hv hw ha (show b ≤ 20 by omega)
    have om : m_of (p_in 27) M (z_si (z_si M 11 27 (w * 4 + 2) (nI a)) 11 27 (w * 4 + 3) (nI b)) := m_of.si (S := p_in 27) (m_of.si (S := p_in 27) m_of.rf ⟨by decide, by decide, rfl⟩) ⟨by decide, by decide, rfl⟩
    have pr : p_rp f w (z_rp f w a b) := p_rp.rp
    have ri : F_X3_isRise (nI w) (nI door) (nI n) _ = some (b1 (s_ri f door w n a b = true)) := C_isRise e5 hv' (door := door) (w := w) (n := n) (by rw [pr.2.1]; exact hw) (by rw [pr.1]; exact hd) hn
    rw [F_X3_risesOf_b19, if_neg (by rw [n_20, n_lt (by omega) (by omega)]; omega), show F_X5_setPart 27 (nI w) 2 (nI a) M = _ from e1, Option.bind_some, show F_X5_setPart 27 (nI w) 3 (nI b) _ = _ from e3, Option.bind_some, ri, Option.bind_some, b1_if]
    have st : ∀ s', s' = q_r1 f door w n a b s → ∃ M' g', F_X3_risesOf_b81 K (F_X3_risesOf_b19 K nn) (nI w) (nI door) (nI n) a4 (nI s'.1) (v_fs s'.2) (nI a) (nI b) (z_si (z_si M 11 27 (w * 4 + 2) (nI a)) 11 27 (w * 4 + 3) (nI b)) = K (nI w) (nI door) (nI n) a4 (nI (q_rb f door w n a (d + 1) b s).1) (v_fs (q_rb f door w n a (d + 1) b s).2) (nI (a + 1)) M' ∧ m_of (p_in 27) M M' ∧ p_C M' 27 g' ∧ p_rp f w g' := by
      intro s' e
      obtain ⟨M', g', j1, j2, j3⟩ := ih (b + 1) nn s' (z_rp f w a b) _ (by omega) (by omega) e5 pr
      rw [show q_rb f door w n a (d + 1) b s = q_rb f door w n a d (b + 1) s' by rw [e]; rfl]
      refine ⟨M', g', ?_, om.tr j2, j3⟩
      unfold F_X3_risesOf_b81
      rw [n_1, nI_add]
      exact j1
    by_cases h : s_ri f door w n a b = true
    · rw [if_pos h]
      by_cases h2 : s.2 < 1000
      · have := st (s.1 + 1, s.2) (by unfold q_r1; rw [if_pos h, if_pos h2])
        rw [show v_fs (s.1 + 1, s.2).2 = nI s.2 from if_pos h2] at this
        rw [show v_fs s.2 = nI s.2 from if_pos h2, if_neg (by rw [n_bad (by omega)]; exact id), n_1, nI_add]
        exact this
      · have := st (s.1 + 1, 100 * a + b) (by unfold q_r1; rw [if_pos h, if_neg h2])
        rw [show v_fs (s.1 + 1, 100 * a + b).2 = nI (100 * a + b) from if_pos (by show 100 * a + b < 1000; omega)] at this
        rw [show v_fs s.2 = -1000000 from if_neg h2, if_pos rfl, n_1, nI_add, n_100, pk_mul, nI_add, z_nmI_e]
        exact this
    · rw [if_neg h]
      exact st s (if_neg h).symm
theorem C_riA (hv : p_V f) {door w n : Nat} (hw : w < f 1) (hd : door < f 0) (hn : n < 10) (a4 : Int32) : ∀ d a nn s g (M : z_M), a + d = 4 → 1 ≤ a → d < nn → p_C M 27 g → p_rp f w g → ∃ M', F_X3_risesOf_b10 nn (nI w) (nI door) (nI n) a4 (nI s.1) (v_fs s.2) (nI a) M = some (if a4 = 0 then nI (q_ra f door w n d a s).1 else v_fs (q_ra f door w n d a s).2, M') ∧ m_of (p_in 27) M M' := by
  intro d
  induction d with
  | zero =>
    intro a nn s g M h1 h1' h2 hc hg
    obtain ⟨nn, rfl⟩ : ∃ k', nn = k' + 1 := ⟨nn - 1, by omega⟩
    refine ⟨M, ?_, m_of.rf⟩
    rw [F_X3_risesOf_b10, if_pos (by rw [n_3, n_lt (by omega) (by omega)]; omega)]
    by_cases e : a4 = 0
    · rw [if_pos e, if_pos e]; rfl
    · rw [if_neg e, if_neg e]; rfl
  | succ d ih =>
    intro a nn s g M h1 h1' h2 hc hg
    obtain ⟨nn, rfl⟩ : ∃ k', nn = k' + 1 := ⟨nn - 1, by omega⟩
    obtain ⟨M1, g1, i1, i2, i3, i4⟩ := C_riB hv hw hd hn (a := a) (by omega) a4 (F_X3_risesOf_b10 nn) 21 0 z_fuel s g M (by omega) (by unfold z_fuel; omega) hc hg
    obtain ⟨M', j1, j2⟩ := ih (a + 1) nn (q_rb f door w n a 21 0 s) g1 M1 (by omega) (by omega) (by omega) i3 i4
    refine ⟨M', ?_, i2.tr j2⟩
    rw [F_X3_risesOf_b10, if_neg (by rw [n_3, n_lt (by omega) (by omega)]; omega)]
    exact i1.trans j1
theorem M_riB (hv : p_V f) {door w n a : Nat} (hw : w < f 1) (hd : door < f 0) (hn : n < 10) (ha : 1 ≤ a ∧ a ≤ 3) (a4 : Int32) (K : Int32 → Int32 → Int32 → Int32 → Int32 → Int32 → Int32 → z_M → Option (Int32 × z_M)) : ∀ d b nn s g (M : z_M), b + d = 21 → d < nn → p_T M 25 0 g → p_rp f w g → ∃ M' g', F_X7_rise_b62 K nn (nI w) (nI door) (nI n) a4 (nI s.1) (v_fs s.2) (nI a) (nI b) M = K (nI w) (nI door) (nI n) a4 (nI (q_rb f door w n a d b s).1) (v_fs (q_rb f door w n a d b s).2) (nI (a + 1)) M' ∧ m_of (fun a _ => a = 25) M M' ∧ p_T M' 25 0 g' ∧ p_rp f w g' := by
  have hV := hv.1
  have h0 := hv.walker hw
  intro d
  induction d with
  | zero =>
    intro b nn s g M h1 h2 hc hg
    obtain ⟨nn, rfl⟩ : ∃ k', nn = k' + 1 := ⟨nn - 1, by omega⟩
    exact ⟨M, g, by rw [F_X7_rise_b62, if_pos (by rw [n_20, n_lt (by omega) (by omega)]; omega), n_1, nI_add]; rfl, m_of.rf, hc, hg⟩
  | succ d ih =>
    intro b nn s g M h1 h2 hc hg
    obtain ⟨nn, rfl⟩ : ∃ k', nn = k' + 1 := ⟨nn - 1, by omega⟩
    obtain ⟨g0, g1, g2⟩ := hg
    have e5 : p_T (z_si (z_si M 25 0 (39 + w) (nI a)) 25 0 (44 + w) (nI b)) 25 0 (z_rp f w a b) := by rw [← g2]; exact (hc.set _ a).set _ b
    have hv' := z_rp_V hv hw ha (show b ≤ 20 by omega)
    have om : m_of (fun a _ => a = 25) M (z_si (z_si M 25 0 (39 + w) (nI a)) 25 0 (44 + w) (nI b)) := m_of.si (S := fun a _ => a = 25) (m_of.si (S := fun a _ => a = 25) m_of.rf rfl) rfl
    have pr : p_rp f w (z_rp f w a b) := p_rp.rp
    have ri : F_X7_isRise (nI w) (nI door) (nI n) _ = some (b1 (s_ri f door w n a b = true)) := M_isRise e5 hv' (door := door) (w := w) (n := n) (by rw [pr.2.1]; exact hw) (by rw [pr.1]; exact hd) hn
    rw [F_X7_rise_b62, if_neg (by rw [n_20, n_lt (by omega) (by omega)]; omega), z_grd_t (by rw [n_39, nI_add, n_in (by omega) (by omega)]; omega), z_grd_t (by rw [n_44, nI_add, n_in (by omega) (by omega)]; omega), z_nmM_e, n_39, nI_add, n_cl (by omega), n_44, nI_add, n_cl (by omega), ri, Option.bind_some, b1_if]
    have st : ∀ s', s' = q_r1 f door w n a b s → ∃ M' g', F_X7_rise_b124 K (F_X7_rise_b62 K nn) (nI w) (nI door) (nI n) a4 (nI s'.1) (v_fs s'.2) (nI a) (nI b) (z_si (z_si M 25 0 (39 + w) (nI a)) 25 0 (44 + w) (nI b)) = K (nI w) (nI door) (nI n) a4 (nI (q_rb f door w n a (d + 1) b s).1) (v_fs (q_rb f door w n a (d + 1) b s).2) (nI (a + 1)) M' ∧ m_of (fun a _ => a = 25) M M' ∧ p_T M' 25 0 g' ∧ p_rp f w g' := by
      intro s' e
      obtain ⟨M', g', j1, j2, j3⟩ := ih (b + 1) nn s' (z_rp f w a b) _ (by omega) (by omega) e5 pr
      rw [show q_rb f door w n a (d + 1) b s = q_rb f door w n a d (b + 1) s' by rw [e]; rfl]
      refine ⟨M', g', ?_, om.tr j2, j3⟩
      unfold F_X7_rise_b124
      rw [n_1, nI_add]
      exact j1
    by_cases h : s_ri f door w n a b = true
    · rw [if_pos h]
      unfold F_X7_rise_b122
      by_cases h2 : s.2 < 1000
      · have := st (s.1 + 1, s.2) (by unfold q_r1; rw [if_pos h, if_pos h2])
        rw [show v_fs (s.1 + 1, s.2).2 = nI s.2 from if_pos h2] at this
        rw [show v_fs s.2 = nI s.2 from if_pos h2, if_pos (by rw [n_0, n_le (by omega) (by omega)]; omega), n_1, nI_add]
        exact this
      · have := st (s.1 + 1, 100 * a + b) (by unfold q_r1; rw [if_pos h, if_neg h2])
        rw [show v_fs (s.1 + 1, 100 * a + b).2 = nI (100 * a + b) from if_pos (by show 100 * a + b < 1000; omega)] at this
        rw [show v_fs s.2 = -1000000 from if_neg h2, if_neg (by decide), n_1, nI_add, n_100, pk_mul, nI_add]
        exact this
    · rw [if_neg h]
      exact st s (if_neg h).symm
theorem M_riA (hv : p_V f) {door w n : Nat} (hw : w < f 1) (hd : door < f 0) (hn : n < 10) (a4 : Int32) : ∀ d a nn s g (M : z_M), a + d = 4 → 1 ≤ a → d < nn → p_T M 25 0 g → p_rp f w g → p_T M 30 0 f → ∃ M', F_X7_rise_b53 nn (nI w) (nI door) (nI n) a4 (nI s.1) (v_fs s.2) (nI a) M = some (if a4 = 0 then nI (q_ra f door w n d a s).1 else v_fs (q_ra f door w n d a s).2, M') ∧ m_of (fun a _ => a = 25) M M' ∧ p_T M' 25 0 f := by
  intro d
  induction d with
  | zero =>
    intro a nn s g M h1 h1' h2 hc hg h30
    obtain ⟨nn, rfl⟩ : ∃ k', nn = k' + 1 := ⟨nn - 1, by omega⟩
    obtain ⟨M', i1, i2, i3⟩ := M_takeBack h30
    refine ⟨M', ?_, i2, i3⟩
    rw [F_X7_rise_b53, if_pos (by rw [n_4, n_le (by omega) (by omega)]; omega), i1, Option.bind_some]
    by_cases e : a4 = 0
    · rw [if_pos e, if_pos e]; rfl
    · rw [if_neg e, if_neg e]; rfl
  | succ d ih =>
    intro a nn s g M h1 h1' h2 hc hg h30
    obtain ⟨nn, rfl⟩ : ∃ k', nn = k' + 1 := ⟨nn - 1, by omega⟩
    obtain ⟨M1, g1, i1, i2, i3, i4⟩ := M_riB hv hw hd hn (a := a) (by omega) a4 (F_X7_rise_b53 nn) 21 0 z_fuel s g M (by omega) (by unfold z_fuel; omega) hc hg
    obtain ⟨M', j1, j2, j3⟩ := ih (a + 1) nn (q_rb f door w n a 21 0 s) g1 M1 (by omega) (by omega) (by omega) i3 i4 (h30.fr (fun c => i2 30 0 (by omega) c))
    refine ⟨M', ?_, i2.tr j2, j3⟩
    rw [F_X7_rise_b53, if_neg (by rw [n_4, n_le (by omega) (by omega)]; omega)]
    exact i1.trans j1
end
theorem eq_rise {M : z_M} (hR : z_Rel M) (a1 : Int32) (a2 : Int32) (a3 : Int32) (a4 : Int32) : ∃ (r : Int32) (M1 : z_M) (M2 : z_M), F_X6_rise a1 a2 a3 a4 M = some (r, M1) ∧ F_X7_rise a1 a2 a3 a4 M1 = some (r, M2) ∧ z_Rel M2 := by
  obtain ⟨f, hc, ht, h8, h5, hVN⟩ := hR.2.2.2.2.1.of
  have no : F_X6_rise a1 a2 a3 a4 M = some (-1000001, M) → F_X7_rise a1 a2 a3 a4 M = some (-1000001, M) → ∃ (r : Int32) (M1 : z_M) (M2 : z_M), F_X6_rise a1 a2 a3 a4 M = some (r, M1) ∧ F_X7_rise a1 a2 a3 a4 M1 = some (r, M2) ∧ z_Rel M2 := fun x y => ⟨_, _, _, x, y, hR⟩
  unfold F_X6_rise F_X7_rise at *
  simp only [C_hasTread hc.1.1 (show f 0 < 2 ^ 31 by omega), C_hasWalker hc.1.2.1 (show f 1 < 2 ^ 31 by omega), C_isFirst, M_isWhat, C_within (lo := 1) (hi := 9) (L := 1) (U := 9), M_bw (lo := 1) (hi := 9) (L := 1) (U := 9), Option.bind_some, b1_if] at no ⊢
  have q1 : ∀ (N : z_M), p_T N 25 0 f → F_X7_isWalker a1 N = some (b1 (bl (f 1) a1)) := fun N h => M_isWalker (M_st h (by decide)) (by omega)
  have q2 : ∀ (N : z_M), p_T N 25 0 f → F_X7_isTread a2 N = some (b1 (bl (f 0) a2)) := fun N h => M_isTread (M_st h (by decide)) (by omega)
  by_cases h1 : bl (f 1) a1
  · by_cases h2 : bl (f 0) a2
    · by_cases h3 : bw 1 9 a3
      · by_cases h4 : bw 0 1 a4
        · obtain ⟨w, hw, rfl⟩ := bl_of h1 (by omega)
          obtain ⟨door, hd, rfl⟩ := bl_of h2 (by omega)
          obtain ⟨n, hn1, hn2, rfl⟩ := bw_of h3 (by decide) (by decide)
          rcases hVN with ⟨hv, h9, hs⟩ | hN
          · obtain ⟨M1, e1, e2, e3, -⟩ := C_now hc h8 h5
            obtain ⟨M2, i1, i2⟩ := C_riA hv hw hd (n := n) (by omega) a4 3 1 z_fuel (0, 1000) f M1 (by omega) (by omega) (by unfold z_fuel; omega) e3 p_rp.rf
            have o2 : m_of p_fr M M2 := e2.tr (i2.mono (fun a b h => Or.inl (by unfold p_in at h; omega)))
            have ht2 := ht.free o2
            obtain ⟨M3, j1, j2, j3⟩ := M_putAside ht2
            obtain ⟨M4, l1, l2, l3⟩ := M_riA hv hw hd (n := n) (by omega) a4 3 1 z_fuel (0, 1000) f M3 (by omega) (by omega) (by unfold z_fuel; omega) (ht2.fr (fun c => j2 25 0 (by omega) c)) p_rp.rf j3
            have l1' : F_X7_rise_b53 z_fuel (nI w) (nI door) (nI n) a4 0 (-1000000) 1 M3 = _ := l1
            have fin : z_Rel M4 := (hR.free o2).back (hc.fr (fun a _ _ c => o2 a 24 (by unfold p_fr; omega) c)) ⟨hv, h9, by rw [o2.stat, hs]⟩ l3 (fun a b c x y => by rw [l2 a b x, j2 a b (fun e => y (by unfold p_fr; omega))])
            refine ⟨if a4 = 0 then nI (q_ra f door w n 3 1 (0, 1000)).1 else v_fs (q_ra f door w n 3 1 (0, 1000)).2, M2, M4, ?_, ?_, fin⟩
            · rw [if_pos h1, if_pos h2, if_pos h3, if_pos h4, e1, Option.bind_some]
              unfold F_X3_risesOf
              rw [show F_X3_risesOf_b10 z_fuel (nI w) (nI door) (nI n) a4 0 (-1000000) 1 M1 = _ from i1, Option.bind_some]
            · rw [q1 _ ht2, Option.bind_some, b1_if, if_pos h1, q2 _ ht2, Option.bind_some, b1_if, if_pos h2, if_pos h3, if_pos h4, j1, Option.bind_some, l1']
          · omega
        · exact no (by rw [if_pos h1, if_pos h2, if_pos h3, if_neg h4]) (by rw [q1 _ ht, Option.bind_some, b1_if, if_pos h1, q2 _ ht, Option.bind_some, b1_if, if_pos h2, if_pos h3, if_neg h4])
      · exact no (by rw [if_pos h1, if_pos h2, if_neg h3]) (by rw [q1 _ ht, Option.bind_some, b1_if, if_pos h1, q2 _ ht, Option.bind_some, b1_if, if_pos h2, if_neg h3])
    · exact no (by rw [if_pos h1, if_neg h2]) (by rw [q1 _ ht, Option.bind_some, b1_if, if_pos h1, q2 _ ht, Option.bind_some, b1_if, if_neg h2])
  · exact no (by rw [if_neg h1]) (by rw [q1 _ ht, Option.bind_some, b1_if, if_neg h1])
