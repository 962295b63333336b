/-! PLANED -/
theorem z_Rel.back2 {M M2 : z_M} (hR : z_Rel M) {f : Nat → Nat} (hc : p_C M 24 f) (hv : p_V f ∧ f 4 ≤ 999 ∧ z_gi M 21 0 4 = 1) (ht : p_T M2 25 0 f) (e : ∀ a b c, a ≠ 25 → ¬ p_fr a b → (a = 21 → c ≠ 19) → z_gi M2 a b c = z_gi M a b c) : z_Rel M2 := by
  obtain ⟨r1, r2, r3, r4, r5, r6, r7, r8⟩ := hR
  have k : ∀ a b c, a ≠ 25 → (7 ≤ a → a ≤ 11 → b < 27) → (a < 15 ∨ 19 ≤ a) → a ≠ 26 ∧ a ≠ 28 ∧ a ≠ 30 → (a = 21 → c ≠ 19) → z_gi M2 a b c = z_gi M a b c := fun a b c x0 x y z w => e a b c x0 (by unfold p_fr; omega) w
  exact ⟨r1.fr (fun a b _ ha c => k _ _ _ (by omega) (by omega) (by omega) (by omega) (by omega)), r2.fr (k _ _ _ (by omega) (by omega) (by omega) (by omega) (by omega)) (k _ _ _ (by omega) (by omega) (by omega) (by omega) (by omega)), r3.fr (k _ _ _ (by omega) (by omega) (by omega) (by omega) (by omega)) (k _ _ _ (by omega) (by omega) (by omega) (by omega) (by omega)) (fun a _ c => k _ _ _ (by omega) (by omega) (by omega) (by omega) (by omega)), r4.fr (k _ _ _ (by omega) (by omega) (by omega) (by omega) (by omega)) (k _ _ _ (by omega) (by omega) (by omega) (by omega) (by omega)), ⟨f, hc.fr (fun a _ _ c => k _ _ _ (by omega) (by omega) (by omega) (by omega) (by omega)), ht, Or.inl ⟨hv.1, hv.2.1, by rw [k _ _ _ (by omega) (by omega) (by omega) (by omega) (by omega), hv.2.2]⟩⟩, r6.fr (fun a _ _ b _ c => k _ _ _ (by omega) (by omega) (by omega) (by omega) (by omega)) (fun a _ c => k _ _ _ (by omega) (by omega) (by omega) (by omega) (by omega)) (k _ _ _ (by omega) (by omega) (by omega) (by omega) (by omega)) (k _ _ _ (by omega) (by omega) (by omega) (by omega) (by omega)), r7.fr (fun a _ _ b _ c => k _ _ _ (by omega) (by omega) (by omega) (by omega) (by omega)) (fun a _ c => k _ _ _ (by omega) (by omega) (by omega) (by omega) (by omega)) (k _ _ _ (by omega) (by omega) (by omega) (by omega) (by omega)), r8.fr (k _ _ _ (by omega) (by omega) (by omega) (by omega) (by omega)) (k _ _ _ (by omega) (by omega) (by omega) (by omega) (by omega)) (fun a _ c => k _ _ _ (by omega) (by omega) (by omega) (by omega) (by omega))⟩
theorem M_planeTo {M : z_M} {t v : Nat} (ht : t < 8) : F_X7_planeTo (nI t) (nI v) M = some (z_si (z_si M 25 0 (13 + t) (nI v)) 25 0 (21 + t) (nI 0)) := by
  unfold F_X7_planeTo
  simp only [z_nmM_e]
  rw [n_13, n_21, nI_add, nI_add, z_grd_t (by rw [n_in (by omega) (by omega)]; omega), z_grd_t (by rw [n_in (by omega) (by omega)]; omega), n_cl (by omega), n_cl (by omega)]; rfl
/-- f, tread t planed to v -/
def z_pl (f : Nat → Nat) (t v : Nat) : Nat → Nat := z_up (z_up f (13 + t) v) (21 + t) 0
theorem z_pl_V {f : Nat → Nat} (hv : p_V f) {t v : Nat} (ht : t < f 0) (h : v ≤ 9) : p_V (z_pl f t v) := by
  have hb := hv.tread ht
  exact (hv.up (k := 13 + t) (v := v) (by omega) (by omega) (by omega) (by omega) (by omega) (by omega) (by omega) (by omega) (by omega) (by omega)).up (by omega) (by omega) (by omega) (by omega) (by omega) (by omega) (by omega) (by omega) (by omega) (by omega)
/-- equal to f but in the note and the wear of t -/
def z_but (f g : Nat → Nat) (t : Nat) : Prop := ∀ j, j ≠ 13 + t → j ≠ 21 + t → g j = f j
theorem z_but.pl {f g : Nat → Nat} {t : Nat} (h : z_but f g t) (v : Nat) : z_up (z_up g (13 + t) v) (21 + t) 0 = z_pl f t v := by
  funext j
  unfold z_pl
  by_cases e : j = 21 + t
  · rw [e, z_up_eq, z_up_eq]
  · rw [z_up_ne e, z_up_ne e]
    by_cases e2 : j = 13 + t
    · rw [e2, z_up_eq, z_up_eq]
    · rw [z_up_ne e2, z_up_ne e2, h j e2 e]
theorem z_but.rest {f g : Nat → Nat} {t : Nat} (h : z_but f g t) : z_up (z_up g (13 + t) (f (13 + t))) (21 + t) (f (21 + t)) = f := by
  funext j
  by_cases e : j = 21 + t
  · rw [e, z_up_eq]
  · rw [z_up_ne e]
    by_cases e2 : j = 13 + t
    · rw [e2, z_up_eq]
    · rw [z_up_ne e2, h j e2 e]
theorem z_but_pl {f : Nat → Nat} {t v : Nat} : z_but f (z_pl f t v) t := fun j h1 h2 => by unfold z_pl; rw [z_up_ne h2, z_up_ne h1]
abbrev q_pc (f : Nat → Nat) (t v : Nat) : Nat := (q_w (z_pl f t v) (f 1) 0 (0, 100)).1
def q_ps (f : Nat → Nat) (t v : Nat) (s : Nat × Nat) : Nat × Nat := if s.1 < 100 ∧ s.2 ≤ q_pc f t v then s else (10 * t + v, q_pc f t v)
def q_pv (f : Nat → Nat) (t : Nat) : Nat → Nat → Nat × Nat → Nat × Nat
  | 0, _, s => s
  | d + 1, v, s => q_pv f t d (v + 1) (q_ps f t v s)
def q_pt (f : Nat → Nat) : Nat → Nat → Nat × Nat → Nat × Nat
  | 0, _, s => s
  | d + 1, t, s => q_pt f d (t + 1) (q_pv f t 10 0 s)
theorem q_x_le {f : Nat → Nat} {w : Nat} : ∀ d x s, (q_x f w d x s).1 ≤ s.1 + d
  | 0, _, _ => Nat.le_refl _
  | d + 1, x, s => by
    show (q_x f w d (x + 1) _).1 ≤ _
    by_cases e : s_tw f w x
    · rw [if_pos e]; have := q_x_le (f := f) (w := w) d (x + 1) (s.1 + 1, if s.2 < 100 then s.2 else 10 * w + x); omega
    · rw [if_neg e]; have := q_x_le (f := f) (w := w) d (x + 1) s; omega
theorem q_w_le {f : Nat → Nat} (h : f 1 ≤ 5) : ∀ d w s, (q_w f d w s).1 ≤ s.1 + 5 * d
  | 0, _, _ => Nat.le_refl _
  | d + 1, w, s => by
    have h1 := q_x_le (f := f) (w := w) (f 1 - (w + 1)) (w + 1) s
    have h2 := q_w_le h d (w + 1) (q_x f w (f 1 - (w + 1)) (w + 1) s)
    show (q_w f d (w + 1) _).1 ≤ _
    omega
section
variable {f : Nat → Nat}
theorem C_plV (hv : p_V f) {t : Nat} (ht : t < f 0) (a : Int32) (K : Int32 → Int32 → Int32 → Int32 → z_M → Option (Int32 × z_M)) : ∀ d v n s g (M : z_M), v + d = 10 → d < n → z_but f g t → p_C M 27 g → s.2 ≤ 100 → s.1 ≤ 100 → ∃ M', F_X3_bestPlaning_b45 K n a (v_fst s.1) (nI s.2) (nI t) (nI (f (13 + t))) (nI (f (21 + t))) (nI v) M = K a (v_fst (q_pv f t d v s).1) (nI (q_pv f t d v s).2) (nI (t + 1)) M' ∧ m_of (p_in 27) M M' ∧ p_C M' 27 f ∧ (q_pv f t d v s).2 ≤ 100 ∧ (q_pv f t d v s).1 ≤ 100 := by
  have hV := hv.1
  have hb := hv.tread ht
  intro d
  induction d with
  | zero =>
    intro v n s g M h1 h2 hg hc hs hs1
    obtain ⟨n, rfl⟩ : ∃ k', n = k' + 1 := ⟨n - 1, by omega⟩
    have g0 : g 0 = f 0 := hg 0 (by omega) (by omega)
    have g1 : g 1 = f 1 := hg 1 (by omega) (by omega)
    obtain ⟨e1, e2⟩ := C_setNote (v := f (13 + t)) hc (t := t) (by rw [g0]; exact ht) (by rw [g1]; omega) (by rw [g0]; omega)
    obtain ⟨e3, e4⟩ := C_setWorn (v := f (21 + t)) e2 (t := t) (by rw [z_up_ne (by omega), g0]; exact ht) (by rw [z_up_ne (by omega), g1]; omega) (by rw [z_up_ne (by omega), g0]; omega)
    rw [hg.rest] at e4
    refine ⟨_, ?_, m_of.si (S := p_in 27) (m_of.si (S := p_in 27) m_of.rf ⟨by decide, by decide, rfl⟩) ⟨by decide, by decide, rfl⟩, e4, hs, hs1⟩
    rw [F_X3_bestPlaning_b45, if_pos (by rw [n_9, n_lt (by omega) (by omega)]; omega), e1, Option.bind_some, e3, Option.bind_some, n_1, nI_add]; rfl
  | succ d ih =>
    intro v n s g M h1 h2 hg hc hs hs1
    obtain ⟨n, rfl⟩ : ∃ k', n = k' + 1 := ⟨n - 1, by omega⟩
    have g0 : g 0 = f 0 := hg 0 (by omega) (by omega)
    have g1 : g 1 = f 1 := hg 1 (by omega) (by omega)
    obtain ⟨e1, e2⟩ := C_planeTo (v := v) hc (t := t) (by rw [g0]; exact ht) (by rw [g1]; omega) (by rw [g0]; omega)
    rw [hg.pl] at e2
    obtain ⟨M2, i1, i2⟩ := C_twinCount e2 (z_pl_V hv ht (by omega))
    rw [show z_pl f t v 1 = f 1 from z_but_pl 1 (by omega) (by omega)] at i1
    have cl : q_pc f t v ≤ 100 := by
      have := q_w_le (f := z_pl f t v) (by rw [show z_pl f t v 1 = f 1 from z_but_pl 1 (by omega) (by omega)]; omega) (f 1) 0 (0, 100)
      show (q_w _ _ _ _).1 ≤ 100
      simp only [Nat.zero_add] at this
      omega
    have om : m_of (p_in 27) M M2 := (m_of.si (S := p_in 27) (m_of.si (S := p_in 27) m_of.rf ⟨by decide, by decide, rfl⟩) ⟨by decide, by decide, rfl⟩).tr (fun a b _ c => i2 a b c)
    have st : ∀ s', s' = q_ps f t v s → s'.2 ≤ 100 → s'.1 ≤ 100 → ∃ M', F_X3_bestPlaning_b93 K (F_X3_bestPlaning_b45 K n) a (v_fst s'.1) (nI s'.2) (nI t) (nI (f (13 + t))) (nI (f (21 + t))) (nI v) M2 = K a (v_fst (q_pv f t (d + 1) v s).1) (nI (q_pv f t (d + 1) v s).2) (nI (t + 1)) M' ∧ m_of (p_in 27) M M' ∧ p_C M' 27 f ∧ (q_pv f t (d + 1) v s).2 ≤ 100 ∧ (q_pv f t (d + 1) v s).1 ≤ 100 := by
      intro s' e k1 k2
      obtain ⟨M', j1, j2, j3, j4⟩ := ih (v + 1) n s' (z_pl f t v) M2 (by omega) (by omega) z_but_pl (e2.fr (fun a _ _ c => i2 a 27 c)) k1 k2
      rw [show q_pv f t (d + 1) v s = q_pv f t d (v + 1) s' by rw [e]; rfl]
      refine ⟨M', ?_, om.tr j2, j3, j4⟩
      unfold F_X3_bestPlaning_b93
      rw [n_1, nI_add]
      exact j1
    rw [F_X3_bestPlaning_b45, if_neg (by rw [n_9, n_lt (by omega) (by omega)]; omega), e1, Option.bind_some, i1, Option.bind_some]
    have upd : ¬ (s.1 < 100 ∧ s.2 ≤ q_pc f t v) → ∃ M', F_X3_bestPlaning_b81 K (F_X3_bestPlaning_b45 K n) a (nI t) (nI (f (13 + t))) (nI (f (21 + t))) (nI v) (nI (q_pc f t v)) M2 = K a (v_fst (q_pv f t (d + 1) v s).1) (nI (q_pv f t (d + 1) v s).2) (nI (t + 1)) M' ∧ m_of (p_in 27) M M' ∧ p_C M' 27 f ∧ (q_pv f t (d + 1) v s).2 ≤ 100 ∧ (q_pv f t (d + 1) v s).1 ≤ 100 := by
      intro hn
      obtain ⟨M', j1, j2⟩ := st (10 * t + v, q_pc f t v) (if_neg hn).symm cl (by show 10 * t + v ≤ 100; omega)
      refine ⟨M', ?_, j2⟩
      unfold F_X3_bestPlaning_b81
      rw [n_10, pk_mul, nI_add, z_nmI_e]
      rw [show v_fst (10 * t + v, q_pc f t v).1 = nI (10 * t + v) from if_pos (by show 10 * t + v < 100; omega)] at j1
      exact j1
    by_cases h : s.1 < 100
    · rw [show v_fst s.1 = nI s.1 from if_pos h, if_neg (by rw [n_bad (by omega)]; exact id)]
      by_cases h2 : s.2 ≤ q_pc f t v
      · rw [if_pos (show nI s.2 ≤ nI (q_pc f t v) by rw [n_le (by omega) (by omega)]; exact h2)]
        have := st s (if_pos ⟨h, h2⟩).symm hs hs1
        rw [show v_fst s.1 = nI s.1 from if_pos h] at this
        exact this
      · rw [if_neg (show ¬ nI s.2 ≤ nI (q_pc f t v) by rw [n_le (by omega) (by omega)]; exact h2)]
        exact upd (fun k => h2 k.2)
    · rw [show v_fst s.1 = -1000000 from if_neg h, if_pos rfl]
      exact upd (fun k => h k.1)
theorem C_plT (hv : p_V f) (a : Int32) : ∀ d t n s (M : z_M), t + d = f 0 → d < n → p_C M 27 f → s.2 ≤ 100 → s.1 ≤ 100 → ∃ M', F_X3_bestPlaning_b8 n a (v_fst s.1) (nI s.2) (nI t) M = (if a = 0 then some (v_fst (q_pt f d t s).1, M') else some (nI (q_pt f d t s).2, M')) ∧ m_of (p_in 27) M M' := by
  have hV := hv.1
  intro d
  induction d with
  | zero =>
    intro t n s M h1 h2 hc k1 k2
    obtain ⟨n, rfl⟩ : ∃ k', n = k' + 1 := ⟨n - 1, by omega⟩
    refine ⟨M, ?_, m_of.rf⟩
    unfold F_X3_bestPlaning_b8 F_X5_treadCount
    rw [Option.bind_some, hc.1.1, if_pos (by rw [n_le (by omega) (by omega)]; omega)]; rfl
  | succ d ih =>
    intro t n s M h1 h2 hc k1 k2
    obtain ⟨n, rfl⟩ : ∃ k', n = k' + 1 := ⟨n - 1, by omega⟩
    obtain ⟨M1, i1, i2, i3, i4, i5⟩ := C_plV hv (show t < f 0 by omega) a (F_X3_bestPlaning_b8 n) 10 0 z_fuel s f M (by omega) (by unfold z_fuel; omega) (fun j _ _ => rfl) hc k1 k2
    obtain ⟨M', j1, j2⟩ := ih (t + 1) n (q_pv f t 10 0 s) M1 (by omega) (by omega) i3 i4 i5
    refine ⟨M', ?_, i2.tr j2⟩
    unfold F_X3_bestPlaning_b8 F_X5_treadCount
    rw [Option.bind_some, hc.1.1, if_neg (by rw [n_le (by omega) (by omega)]; omega), C_noteOf hc hv (by omega), Option.bind_some, C_wornOf hc hv (by omega), Option.bind_some]
    exact i1.trans j1
abbrev p_pf (M M' : z_M) : Prop := ∀ a b c, a ≠ 25 → (a = 21 → c ≠ 19) → z_gi M' a b c = z_gi M a b c
theorem M_plV (hv : p_V f) {t : Nat} (ht : t < f 0) (a : Int32) (K : Int32 → Int32 → Int32 → Int32 → z_M → Option (Int32 × z_M)) : ∀ d v n s (M : z_M), v + d = 10 → d < n → p_T M 25 0 f → p_T M 30 0 f → s.2 ≤ 100 → s.1 ≤ 100 → ∃ M', F_X7_planed_b46 K n a (v_fst s.1) (nI s.2) (nI t) (nI v) M = K a (v_fst (q_pv f t d v s).1) (nI (q_pv f t d v s).2) (nI (t + 1)) M' ∧ p_pf M M' ∧ p_T M' 25 0 f ∧ (q_pv f t d v s).2 ≤ 100 ∧ (q_pv f t d v s).1 ≤ 100 := by
  have hV := hv.1
  have hb := hv.tread ht
  intro d
  induction d with
  | zero =>
    intro v n s M h1 h2 hc hc2 hs hs1
    obtain ⟨n, rfl⟩ : ∃ k', n = k' + 1 := ⟨n - 1, by omega⟩
    exact ⟨M, by rw [F_X7_planed_b46, if_pos (by rw [n_10, n_le (by omega) (by omega)]; omega), n_1, nI_add]; rfl, fun a b c _ _ => rfl, hc, hs, hs1⟩
  | succ d ih =>
    intro v n s M h1 h2 hc hc2 hs hs1
    obtain ⟨n, rfl⟩ : ∃ k', n = k' + 1 := ⟨n - 1, by omega⟩
    have e2 : p_T (z_si (z_si M 25 0 (13 + t) (nI v)) 25 0 (21 + t) (nI 0)) 25 0 (z_pl f t v) := (hc.set _ v).set _ 0
    obtain ⟨M2, i1, i2, i3⟩ := M_twinsMany e2 (z_pl_V hv ht (by omega))
    rw [show z_pl f t v 1 = f 1 from z_but_pl 1 (by omega) (by omega)] at i1
    have cl : q_pc f t v ≤ 100 := by
      have := q_w_le (f := z_pl f t v) (by rw [show z_pl f t v 1 = f 1 from z_but_pl 1 (by omega) (by omega)]; omega) (f 1) 0 (0, 100)
      show (q_w _ _ _ _).1 ≤ 100
      simp only [Nat.zero_add] at this
      omega
    have o2 : ∀ a b c, a ≠ 25 → (a = 21 → c ≠ 19) → z_gi M2 a b c = z_gi M a b c := fun a b c x y => by rw [i2 a b c y, m_off _ _ _ _ _ (by omega), m_off _ _ _ _ _ (by omega)]
    obtain ⟨M3, l1, l2, l3⟩ := M_takeBack (hc2.fr (M' := M2) (fun c => o2 30 0 c (by omega) (by omega)))
    have om : p_pf M M3 := fun a b c x y => by rw [l2 a b x, o2 a b c x y]
    have st : ∀ s', s' = q_ps f t v s → s'.2 ≤ 100 → s'.1 ≤ 100 → ∃ M', F_X7_planed_b93 K (F_X7_planed_b46 K n) a (v_fst s'.1) (nI s'.2) (nI t) (nI v) M3 = K a (v_fst (q_pv f t (d + 1) v s).1) (nI (q_pv f t (d + 1) v s).2) (nI (t + 1)) M' ∧ p_pf M M' ∧ p_T M' 25 0 f ∧ (q_pv f t (d + 1) v s).2 ≤ 100 ∧ (q_pv f t (d + 1) v s).1 ≤ 100 := by
      intro s' e k1 k2
      obtain ⟨M', j1, j2, j3, j4⟩ := ih (v + 1) n s' M3 (by omega) (by omega) l3 (hc2.fr (fun c => om 30 0 c (by omega) (by omega))) k1 k2
      rw [show q_pv f t (d + 1) v s = q_pv f t d (v + 1) s' by rw [e]; rfl]
      refine ⟨M', ?_, fun a b c x y => by rw [j2 a b c x y, om a b c x y], j3, j4⟩
      unfold F_X7_planed_b93
      rw [n_1, nI_add]
      exact j1
    rw [F_X7_planed_b46, if_neg (by rw [n_10, n_le (by omega) (by omega)]; omega), M_planeTo (by omega), Option.bind_some, i1, Option.bind_some, l1, Option.bind_some]
    have upd : ¬ (s.1 < 100 ∧ s.2 ≤ q_pc f t v) → ∃ M', F_X7_planed_b81 K (F_X7_planed_b46 K n) a (nI t) (nI v) (nI (q_pc f t v)) M3 = K a (v_fst (q_pv f t (d + 1) v s).1) (nI (q_pv f t (d + 1) v s).2) (nI (t + 1)) M' ∧ p_pf M M' ∧ p_T M' 25 0 f ∧ (q_pv f t (d + 1) v s).2 ≤ 100 ∧ (q_pv f t (d + 1) v s).1 ≤ 100 := by
      intro hn
      obtain ⟨M', j1, j2⟩ := st (10 * t + v, q_pc f t v) (if_neg hn).symm cl (by show 10 * t + v ≤ 100; omega)
      refine ⟨M', ?_, j2⟩
      unfold F_X7_planed_b81
      rw [n_10, pk_mul, nI_add, z_nmI_e]
      rw [show v_fst (10 * t + v, q_pc f t v).1 = nI (10 * t + v) from if_pos (by show 10 * t + v < 100; omega)] at j1
      exact j1
    by_cases h : s.1 < 100
    · rw [show v_fst s.1 = nI s.1 from if_pos h, if_neg (by rw [n_0, n_lt (by omega) (by omega)]; omega)]
      by_cases h2 : s.2 ≤ q_pc f t v
      · rw [if_pos (show nI s.2 ≤ nI (q_pc f t v) by rw [n_le (by omega) (by omega)]; exact h2)]
        have := st s (if_pos ⟨h, h2⟩).symm hs hs1
        rw [show v_fst s.1 = nI s.1 from if_pos h] at this
        exact this
      · rw [if_neg (show ¬ nI s.2 ≤ nI (q_pc f t v) by rw [n_le (by omega) (by omega)]; exact h2)]
        exact upd (fun k => h2 k.2)
    · rw [show v_fst s.1 = -1000000 from if_neg h, if_pos (by decide)]
      exact upd (fun k => h k.1)
theorem M_plT (hv : p_V f) (a : Int32) : ∀ d t n s (M : z_M), t + d = f 0 → d < n → p_T M 25 0 f → p_T M 30 0 f → s.2 ≤ 100 → s.1 ≤ 100 → ∃ M', F_X7_planed_b32 n a (v_fst s.1) (nI s.2) (nI t) M = (if a = 0 then some (v_fst (q_pt f d t s).1, M') else some (nI (q_pt f d t s).2, M')) ∧ p_pf M M' ∧ p_T M' 25 0 f := by
  have hV := hv.1
  intro d
  induction d with
  | zero =>
    intro t n s M h1 h2 hc hc2 k1 k2
    obtain ⟨n, rfl⟩ : ∃ k', n = k' + 1 := ⟨n - 1, by omega⟩
    refine ⟨M, ?_, fun a b c _ _ => rfl, hc⟩
    rw [F_X7_planed_b32, z_grd_t (by decide), show (0 : Int32).toNatClampNeg = 0 from rfl, M_st hc (by decide), if_pos (by rw [n_le (by omega) (by omega)]; omega)]; rfl
  | succ d ih =>
    intro t n s M h1 h2 hc hc2 k1 k2
    obtain ⟨n, rfl⟩ : ∃ k', n = k' + 1 := ⟨n - 1, by omega⟩
    obtain ⟨M1, i1, i2, i3, i4, i5⟩ := M_plV hv (show t < f 0 by omega) a (F_X7_planed_b32 n) 10 0 z_fuel s M (by omega) (by unfold z_fuel; omega) hc hc2 k1 k2
    obtain ⟨M', j1, j2, j3⟩ := ih (t + 1) n (q_pv f t 10 0 s) M1 (by omega) (by omega) i3 (hc2.fr (fun c => i2 30 0 c (by omega) (by omega))) i4 i5
    refine ⟨M', ?_, fun a b c x y => by rw [j2 a b c x y, i2 a b c x y], j3⟩
    rw [F_X7_planed_b32, z_grd_t (by decide), show (0 : Int32).toNatClampNeg = 0 from rfl, M_st hc (by decide), if_neg (by rw [n_le (by omega) (by omega)]; omega)]
    exact i1.trans j1
end
theorem eq_planed {M : z_M} (hR : z_Rel M) (a1 : Int32) : ∃ (r : Int32) (M1 : z_M) (M2 : z_M), F_X6_planed a1 M = some (r, M1) ∧ F_X7_planed a1 M1 = some (r, M2) ∧ z_Rel M2 := by
  obtain ⟨f, hc, ht, h8, h5, hVN⟩ := hR.2.2.2.2.1.of
  unfold F_X6_planed F_X7_planed
  simp only [C_st hc h8, C_isFirst, M_isWhat, Option.bind_some, b1_if]
  rcases hVN with ⟨hv, h9, hs⟩ | ⟨h0, -, -, hs⟩
  · rw [if_pos (show 1 ≤ f 0 by have := hv.1; omega)]
    by_cases h1 : bw 0 1 a1
    · obtain ⟨M1, e1, e2, e3, -⟩ := C_now hc h8 h5
      obtain ⟨M2, i1, i2⟩ := C_plT hv a1 (f 0) 0 z_fuel (100, 0) M1 (by omega) (by unfold z_fuel; omega) e3 (by decide) (by decide)
      have o2 : m_of p_fr M M2 := e2.tr (i2.mono (fun a b h => Or.inl (by unfold p_in at h; omega)))
      obtain ⟨M3, j1, j2, j3⟩ := M_putAside (ht.free o2)
      obtain ⟨M4, l1, l2, l3⟩ := M_plT hv a1 (f 0) 0 z_fuel (100, 0) M3 (by omega) (by unfold z_fuel; omega) ((ht.free o2).fr (fun c => j2 25 0 (by omega) c)) j3 (by decide) (by decide)
      have i1' : F_X3_bestPlaning a1 M1 = _ := i1
      have l1' : F_X7_planed_b32 z_fuel a1 (-1000000) 0 0 M3 = _ := l1
      have fin : z_Rel M4 := (hR.free o2).back2 (hc.fr (fun a _ _ c => o2 a 24 (by unfold p_fr; omega) c)) ⟨hv, h9, by rw [o2.stat, hs]⟩ l3 (fun a b c x y z => by rw [l2 a b c x z, j2 a b (fun e => y (by unfold p_fr; omega))])
      rw [if_pos h1, e1, Option.bind_some, i1']
      by_cases ha : a1 = 0
      · refine ⟨v_fst (q_pt f (f 0) 0 (100, 0)).1, M2, M4, by rw [if_pos ha]; rfl, ?_, fin⟩
        rw [o2.stat, hs, if_neg (by decide), if_pos h1, j1, Option.bind_some, l1', if_pos ha]
      · refine ⟨nI (q_pt f (f 0) 0 (100, 0)).2, M2, M4, by rw [if_neg ha]; rfl, ?_, fin⟩
        rw [o2.stat, hs, if_neg (by decide), if_pos h1, j1, Option.bind_some, l1', if_neg ha]
    · exact ⟨-1000001, M, M, by rw [if_neg h1], by rw [hs, if_neg (by decide), if_neg h1], hR⟩
  · exact ⟨-1000002, M, M, by rw [if_neg (by omega)], by rw [hs, if_pos rfl], hR⟩
