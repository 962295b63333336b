/-! ROTS, both -/
section
variable {f : Nat → Nat}
def s_lm (f : Nat → Nat) : Nat → Nat
  | 0 => 0
  | t + 1 => s_lm f t ||| (if s_lv f t then 2 ^ t else 0)
theorem s_lm_lt : ∀ t, t ≤ 8 → s_lm f t < 2 ^ 8
  | 0, _ => by show 0 < 256; omega
  | t + 1, h => by
    show s_lm f t ||| (if _ then _ else _) < 2 ^ 8
    refine Nat.or_lt_two_pow (s_lm_lt t (by omega)) ?_
    split
    · exact Nat.pow_lt_pow_right (by decide) (by omega)
    · decide
theorem s_lm_le : ∀ t, s_lm f t < 2 ^ t
  | 0 => by show 0 < 1; omega
  | t + 1 => by
    show s_lm f t ||| (if _ then _ else _) < 2 ^ (t + 1)
    have ih := s_lm_le t
    have h2 : 2 ^ t < 2 ^ (t + 1) := Nat.pow_lt_pow_right (by decide) (by omega)
    refine Nat.or_lt_two_pow (by omega) ?_
    split
    · exact h2
    · omega
theorem s_lm_tb {i : Nat} : ∀ t, (s_lm f t).testBit i = decide (i < t ∧ s_lv f i)
  | 0 => by
    show (0 : Nat).testBit i = _
    rw [Nat.zero_testBit, decide_eq_false (by omega)]
  | t + 1 => by
    have ih := s_lm_tb (i := i) t
    show (s_lm f t ||| (if _ then _ else _)).testBit i = _
    rw [Nat.testBit_or, ih]
    by_cases hl : s_lv f t
    · rw [if_pos hl, Nat.testBit_two_pow, ← Bool.decide_or]
      apply decide_eq_decide.mpr
      constructor
      · rintro (h | h)
        · exact ⟨by omega, h.2⟩
        · subst h; exact ⟨by omega, hl⟩
      · rintro ⟨h1, h2⟩
        by_cases e : t = i
        · exact Or.inr e
        · exact Or.inl ⟨by omega, h2⟩
    · rw [if_neg hl, Nat.zero_testBit, Bool.or_false]
      apply decide_eq_decide.mpr
      constructor
      · rintro ⟨h1, h2⟩
        exact ⟨by omega, h2⟩
      · rintro ⟨h1, h2⟩
        by_cases e : t = i
        · subst e; exact absurd h2 hl
        · exact ⟨by omega, h2⟩
theorem n_subA : ((List.range 256).all fun m => (List.range 256).all fun l => decide (((nI m &&& (nI l ^^^ (-1))) = 0) ↔ (m &&& l = m))) = true := by decide +kernel
theorem n_subset {m l : Nat} (hm : m < 256) (hl : l < 256) : ((nI m &&& (nI l ^^^ (-1))) = 0) ↔ (m &&& l = m) :=
  of_decide_eq_true (List.all_eq_true.mp (List.all_eq_true.mp n_subA m (List.mem_range.mpr hm)) l (List.mem_range.mpr hl))
theorem q_su_z {F : Nat → Nat} : ∀ n, (∀ m, m < n → F m = 0) → q_su F n = 0
  | 0, _ => rfl
  | n + 1, h => by
    show q_su F n + F n = 0
    rw [q_su_z n (fun m hm => h m (by omega)), h n (by omega)]
/-- sets that are not of sound TREADS alone have no weight -/
theorem s_F_0 {p door w m : Nat} (hm : m < 2 ^ f 0) (h : ¬ m &&& s_lm f (f 0) = m) : s_F f p door w m = 0 := by
  have hx : ∃ t, t < f 0 ∧ m.testBit t = true ∧ ¬ s_lv f t := by
    apply Classical.byContradiction
    intro hn
    apply h
    apply Nat.eq_of_testBit_eq
    intro i
    rw [Nat.testBit_and, s_lm_tb]
    by_cases hi : i < f 0
    · by_cases hb : m.testBit i = true
      · have hl : s_lv f i := Classical.byContradiction (fun k => hn ⟨i, hi, hb, k⟩)
        rw [hb, decide_eq_true ⟨hi, hl⟩]; rfl
      · rw [Bool.eq_false_iff.mpr hb, Bool.false_and]
    · have h2 : 2 ^ f 0 ≤ 2 ^ i := Nat.pow_le_pow_right (by decide) (by omega)
      rw [Nat.testBit_lt_two_pow (show m < 2 ^ i by omega), Bool.false_and]
  obtain ⟨t, h1, h2, h3⟩ := hx
  unfold s_F
  rw [q_pr_z (G := w_0 f p) (t := t) (by unfold w_0; rw [if_neg h3, if_pos h2]) (f 0) h1, Nat.zero_mul]
theorem s_H_l {p door w : Nat} : q_su (s_F f p door w) (s_lm f (f 0) + 1) = s_H f p door w := by
  have h := s_lm_le (f := f) (f 0)
  unfold s_H
  obtain ⟨r, hr⟩ : ∃ r, 2 ^ f 0 = s_lm f (f 0) + 1 + r := ⟨2 ^ f 0 - (s_lm f (f 0) + 1), by omega⟩
  have e : q_su (fun m => s_F f p door w (s_lm f (f 0) + 1 + m)) r = 0 := q_su_z r (fun m hm => s_F_0 (by omega) (fun k => by
    have : (s_lm f (f 0) + 1 + m) &&& s_lm f (f 0) ≤ s_lm f (f 0) := Nat.and_le_right
    omega))
  have s := q_su_split (s_F f p door w) (s_lm f (f 0) + 1) r
  rw [e] at s
  rw [hr]
  omega
theorem s_lm_st {t : Nat} {M : z_M} (h8 : f 0 ≤ 8) (ht : t < f 0) : F_X7_has (nI (s_lm f (f 0))) (nI t) M = some (b1 (s_lv f t)) := by
  have h := s_lm_lt (f := f) (f 0) h8
  rw [M_has (by omega) (by omega)]
  have e : (s_lm f (f 0) / 2 ^ t % 2 = 1) ↔ s_lv f t := by
    rw [n_tb, s_lm_tb, decide_eq_true_eq]
    exact ⟨fun k => k.2, fun k => ⟨ht, k⟩⟩
  by_cases k : s_lv f t
  · rw [b1_t k, b1_t (e.mpr k)]
  · rw [b1_f k, b1_f (fun z => k (e.mp z))]
theorem M_hasB {m t : Nat} {M : z_M} (hm : m < 256) (ht : t < 8) : F_X7_has (nI m) (nI t) M = some (b1 (m.testBit t = true)) := by
  rw [M_has hm ht]
  by_cases k : m.testBit t = true
  · rw [b1_t k, b1_t (n_tb.mpr k)]
  · rw [b1_f k, b1_f (fun z => k (n_tb.mp z))]
theorem M_rotT {M : z_M} (ht : p_T M 25 0 f) (hv : p_V f) (w door p a4 : Int32) : ∀ d t n, t + d = f 0 → d < n → F_X7_rots_b53 n w door p a4 (nI (s_lm f t)) (nL (s_T f t)) (nI t) M = F_X7_rots_b131 z_fuel w door p a4 (nI (s_lm f (f 0))) (nL (s_T f (f 0))) 0 0 M := by
  have hV := hv.1
  intro d
  induction d with
  | zero =>
    intro t n h1 h2
    obtain ⟨n, rfl⟩ : ∃ k', n = k' + 1 := ⟨n - 1, by omega⟩
    rw [F_X7_rots_b53, z_grd_t (by decide), show (0 : Int32).toNatClampNeg = 0 from rfl, M_st ht (by decide), if_pos (by rw [n_le (by omega) (by omega)]; omega), show t = f 0 by omega]
  | succ d ih =>
    intro t n h1 h2
    obtain ⟨n, rfl⟩ : ∃ k', n = k' + 1 := ⟨n - 1, by omega⟩
    have hb := hv.tread (show t < f 0 by omega)
    have i := ih (t + 1) n (by omega) (by omega)
    rw [F_X7_rots_b53, z_grd_t (by decide), show (0 : Int32).toNatClampNeg = 0 from rfl, M_st ht (by decide), if_neg (by rw [n_le (by omega) (by omega)]; omega), z_grd_t (by rw [n_5, nI_add, n_in (by omega) (by omega)]; omega), n_5, nI_add, n_cl (by omega), M_st ht (by omega)]
    unfold F_X7_rots_b82 F_X7_rots_b99 F_X7_rots_b116
    simp only [z_nmI_e, z_nmL_e]
    rw [n_1, nI_add]
    by_cases hl : s_lv f t
    · rw [if_neg (by rw [n_4, n_le (by omega) (by omega)]; omega), if_neg (show ¬ nI 1 = 0 by decide), if_neg (show ¬ nI 1 = 0 by decide), ← n_1, n_shl _ (by omega), n_or, show (10 : Int64) = nL 10 from rfl, nL_mul, ← i]
      show _ = F_X7_rots_b53 n w door p a4 (nI (s_lm f t ||| (if s_lv f t then 2 ^ t else 0))) (nL (s_T f t * (if s_lv f t then 10 else 1))) (nI (t + 1)) M
      rw [if_pos hl, if_pos hl]
    · rw [if_pos (by rw [n_4, n_le (by omega) (by omega)]; omega), if_pos trivial, if_pos trivial, show nI (s_lm f t) ||| 0 = nI (s_lm f t ||| 0) from n_or _ 0, show (1 : Int64) = nL 1 from rfl, nL_mul, ← i]
      show _ = F_X7_rots_b53 n w door p a4 (nI (s_lm f t ||| (if s_lv f t then 2 ^ t else 0))) (nL (s_T f t * (if s_lv f t then 10 else 1))) (nI (t + 1)) M
      rw [if_neg hl, if_neg hl]
theorem M_rotB (hv : p_V f) {w door p m : Nat} (hw : w < f 1) (hd : door < f 0) (hp : p ≤ 10) (hm : m < 256) (hsub : m &&& s_lm f (f 0) = m) (a4 : Int32) (T S : Nat) (K : Int32 → Int32 → Int32 → Int32 → Int32 → Int64 → Int64 → Int32 → z_M → Option (Int64 × z_M)) : ∀ d t n (M : z_M), t + d = f 0 → d < n → p_T M 25 0 (z_rk f m t) → p_T M 30 0 f → ∃ M', F_X7_rots_b154 K n (nI w) (nI door) (nI p) a4 (nI (s_lm f (f 0))) (nL T) (nL S) (nI m) (nL (q_pr (w_0 f p) m t)) (nI t) M = K (nI w) (nI door) (nI p) a4 (nI (s_lm f (f 0))) (nL T) (nL (S + s_F f p door w m)) (nI (m + 1)) M' ∧ m_of (fun a _ => a = 25) M M' ∧ p_T M' 25 0 f := by
  have hV := hv.1
  intro d
  induction d with
  | zero =>
    intro t n M h1 h2 hc hc2
    obtain ⟨n, rfl⟩ : ∃ k', n = k' + 1 := ⟨n - 1, by omega⟩
    have e : t = f 0 := by omega
    subst e
    have e0 : z_rk f m (f 0) 0 = f 0 := z_rk_o (by omega)
    have e1 : z_rk f m (f 0) 1 = f 1 := z_rk_o (by omega)
    have el : s_lg (z_rk f m (f 0)) w = s_lg f w := by unfold s_lg; rw [z_rk_o (by omega), z_rk_o (by omega), z_rk_o (by omega)]
    obtain ⟨M', i1, i2, i3⟩ := M_takeBack hc2
    refine ⟨M', ?_, i2, i3⟩
    rw [F_X7_rots_b154, z_grd_t (by decide), show (0 : Int32).toNatClampNeg = 0 from rfl, M_st hc (by decide), e0, if_pos (by rw [n_le (by omega) (by omega)]; omega), M_isHeard hc (z_rk_V hv) (by rw [e1]; exact hw) (by rw [e0]; exact hd), Option.bind_some, b1_if, el]
    unfold F_X7_rots_b259 F_X7_rots_b266
    simp only [z_nmL_e]
    rw [i1, n_1, nI_add, L_0, nL_add, nL_add]
    simp only [Option.bind_some]
    unfold s_F
    by_cases k : s_hr (z_rk f m (f 0)) door w (s_lg f w) = true
    · rw [if_pos k, if_pos k, Nat.mul_one]
    · rw [if_neg k, if_neg k, Nat.mul_zero]
  | succ d ih =>
    intro t n M h1 h2 hc hc2
    obtain ⟨n, rfl⟩ : ∃ k', n = k' + 1 := ⟨n - 1, by omega⟩
    have e0 : z_rk f m t 0 = f 0 := z_rk_o (by omega)
    have hb := hv.tread (show t < f 0 by omega)
    have e5 : z_gi M 25 0 (5 + t) = nI (f (5 + t)) := by rw [M_st hc (by omega), z_rk_o (by omega)]
    have st : ∀ x v, x = q_pr (w_0 f p) m (t + 1) → v = (if m.testBit t = true then 4 else f (5 + t)) → ∃ M', F_X7_rots_b235 K (F_X7_rots_b154 K n) (nI w) (nI door) (nI p) a4 (nI (s_lm f (f 0))) (nL T) (nL S) (nI m) (nL x) (nI t) (nI v) (nI (5 + t)) M = K (nI w) (nI door) (nI p) a4 (nI (s_lm f (f 0))) (nL T) (nL (S + s_F f p door w m)) (nI (m + 1)) M' ∧ m_of (fun a _ => a = 25) M M' ∧ p_T M' 25 0 f := by
      intro x v hx hvv
      have hc' := hc.set (5 + t) v
      rw [hvv, z_rk_s, ← hvv] at hc'
      obtain ⟨M', j1, j2, j3⟩ := ih (t + 1) n _ (by omega) (by omega) hc' (hc2.fr (fun c => m_off _ _ _ _ _ (by omega)))
      refine ⟨M', ?_, (m_of.si (S := fun a _ => a = 25) m_of.rf rfl).tr j2, j3⟩
      unfold F_X7_rots_b235
      rw [z_grd_t (by rw [n_in (by omega) (by omega)]; omega), n_cl (by omega), n_1, nI_add, hx]
      exact j1
    rw [F_X7_rots_b154, z_grd_t (by decide), show (0 : Int32).toNatClampNeg = 0 from rfl, M_st hc (by decide), e0, if_neg (by rw [n_le (by omega) (by omega)]; omega), s_lm_st (by omega) (by omega), Option.bind_some, b1_if]
    unfold F_X7_rots_b201
    simp only [z_nmL_e, M_hasB hm (show t < 8 by omega), Option.bind_some, b1_if]
    have hz : z_in (nI (5 + t)) 49 := by rw [n_in (by omega) (by omega)]; omega
    rw [n_5, nI_add]
    simp only [z_grd_t hz, n_cl (show 5 + t < 2 ^ 31 by omega), e5]
    have u : q_pr (w_0 f p) m (t + 1) = q_pr (w_0 f p) m t * w_0 f p t (m.testBit t) := rfl
    by_cases hl : s_lv f t
    · rw [if_pos hl]
      by_cases hm' : m.testBit t = true
      · rw [if_pos hm', if_pos hm', nI_toL (by omega), nL_mul]
        exact st _ 4 (by rw [u]; unfold w_0; rw [if_pos hl, if_pos hm']) (if_pos hm').symm
      · rw [if_neg hm', if_neg hm', n_10, n_sub hp, nI_toL (by omega), nL_mul]
        exact st _ _ (by rw [u]; unfold w_0; rw [if_pos hl, if_neg hm']) (if_neg hm').symm
    · have hm' : ¬ m.testBit t = true := fun k => by
        have : (m &&& s_lm f (f 0)).testBit t = true := by rw [hsub]; exact k
        rw [Nat.testBit_and, s_lm_tb, Bool.and_eq_true_iff, decide_eq_true_eq] at this
        exact hl this.2.2
      rw [if_neg hl, if_neg hm', show (1 : Int64) = nL 1 from rfl, nL_mul]
      exact st _ _ (by rw [u]; unfold w_0; rw [if_neg hl, if_neg hm']) (if_neg hm').symm
theorem M_rotA (hv : p_V f) {w door p : Nat} (hw : w < f 1) (hd : door < f 0) (hp : p ≤ 10) (a4 : Int32) : ∀ d m n (M : z_M), m + d = s_lm f (f 0) + 1 → d < n → p_T M 25 0 f → p_T M 30 0 f → ∃ M', F_X7_rots_b131 n (nI w) (nI door) (nI p) a4 (nI (s_lm f (f 0))) (nL (s_T f (f 0))) (nL (q_su (s_F f p door w) m)) (nI m) M = some (if a4 = 0 then nL (s_H f p door w / Nat.gcd (s_H f p door w) (s_T f (f 0))) else nL (s_T f (f 0) / Nat.gcd (s_H f p door w) (s_T f (f 0))), M') ∧ m_of (fun a _ => a = 25) M M' ∧ p_T M' 25 0 f := by
  have hV := hv.1
  have hll := s_lm_lt (f := f) (f 0) (by omega)
  have hT := s_T_b (f := f) (f 0)
  have hT8 : 10 ^ f 0 ≤ 10 ^ 8 := Nat.pow_le_pow_right (by decide) (by omega)
  have hH := (q_rots hv (door := door) hp hw).2
  intro d
  induction d with
  | zero =>
    intro m n M h1 h2 hc hc2
    obtain ⟨n, rfl⟩ : ∃ k', n = k' + 1 := ⟨n - 1, by omega⟩
    refine ⟨M, ?_, m_of.rf, hc⟩
    have e : m = s_lm f (f 0) + 1 := by omega
    subst e
    rw [F_X7_rots_b131, if_pos (by rw [n_lt (by omega) (by omega)]; omega), s_H_l]
    exact M_gcd (by omega) (by omega) 27 _ _ _ (by omega) (by omega) (by omega) (by unfold z_fuel; omega) (Nat.gcd_pos_of_pos_right _ (by omega))
  | succ d ih =>
    intro m n M h1 h2 hc hc2
    obtain ⟨n, rfl⟩ : ∃ k', n = k' + 1 := ⟨n - 1, by omega⟩
    have h28 := s_lm_le (f := f) (f 0)
    have u : q_su (s_F f p door w) (m + 1) = q_su (s_F f p door w) m + s_F f p door w m := rfl
    rw [F_X7_rots_b131, if_neg (by rw [n_lt (by omega) (by omega)]; omega)]
    by_cases hs : m &&& s_lm f (f 0) = m
    · obtain ⟨M1, i1, i2, i3⟩ := M_rotB hv hw hd hp (m := m) (by omega) hs a4 (s_T f (f 0)) (q_su (s_F f p door w) m) (F_X7_rots_b131 n) (f 0) 0 z_fuel M (by omega) (by unfold z_fuel; omega) (by rw [z_rk_0]; exact hc) hc2
      obtain ⟨M', j1, j2, j3⟩ := ih (m + 1) n M1 (by omega) (by omega) i3 (hc2.fr (fun c => i2 30 0 (by omega) c))
      refine ⟨M', ?_, i2.tr j2, j3⟩
      rw [if_pos ((n_subset (by omega) (by omega)).mpr hs)]
      refine (show F_X7_rots_b154 _ _ _ _ _ _ _ _ _ _ 1 0 M = _ from i1).trans ?_
      rw [← u]
      exact j1
    · obtain ⟨M', j1, j2, j3⟩ := ih (m + 1) n M (by omega) (by omega) hc hc2
      refine ⟨M', ?_, j2, j3⟩
      rw [if_neg (fun k => hs ((n_subset (by omega) (by omega)).mp k))]
      rw [u, s_F_0 (by omega) hs, Nat.add_zero] at j1
      unfold F_X7_rots_b266
      rw [n_1, nI_add]
      exact j1
theorem C_rotL {M : z_M} (hc : p_C M 27 f) (hv : p_V f) {w door p : Nat} (hw : w < f 1) (hd : door < f 0) (hp : p ≤ 10) (a4 : Int32) {c l : Nat} (ec : c = s_cs f door w (s_lg f w)) (el : l = c - s_si f p door w (s_lg f w)) : ∀ d k n, k + d = 8 → d < n → F_X3_likelihood_b9 M n (nI w) (nI door) (nI p) a4 (nL (s_cs f door w (min k (s_lg f w)))) (nL (s_si f p door w (min k (s_lg f w)))) (nI k) = some (if a4 = 0 then nL (l / Nat.gcd c l) else nL (c / Nat.gcd c l)) := by
  have hV := hv.1
  have h0 := hv.walker hw
  have hq := hv.lg hw
  have hcb := s_cs_b (f := f) (door := door) (w := w) (s_lg f w)
  have hT8 : 10 ^ s_lg f w ≤ 10 ^ 8 := Nat.pow_le_pow_right (by decide) (by omega)
  intro d
  induction d with
  | zero =>
    intro k n h1 h2
    obtain ⟨n, rfl⟩ : ∃ k', n = k' + 1 := ⟨n - 1, by omega⟩
    have hg : 0 < Nat.gcd c l := Nat.gcd_pos_of_pos_left _ (by omega)
    have hgl : Nat.gcd c l ≤ c := Nat.gcd_le_left _ (by omega)
    rw [F_X3_likelihood_b9, if_pos (by rw [n_8, n_le (by omega) (by omega)]; omega), show min k (s_lg f w) = s_lg f w by omega, nL_sub (s_si_le hp _), ← ec, ← el, z_nmL_e]
    unfold F_X3_commonDivisor
    rw [show F_X3_commonDivisor_b9 M z_fuel (nL c) (nL l) 0 = some (nL (Nat.gcd c l)) from C_gcd 27 c l z_fuel 0 (by omega) (by omega) (by omega) (by omega) (by unfold z_fuel; omega), Option.bind_some]
    have hne : ¬ nL (Nat.gcd c l) = 0 := by rw [L_0, nL_eq (by omega) (by omega)]; omega
    rw [if_pos (Int32.not_lt.mp (fun h => by
      have := (i_cmp _ _).1.mp h
      rw [Int64.lt_iff_toInt_lt, nL_toInt (by omega), show (1 : Int64).toInt = 1 from by decide] at this
      omega)), z_grd_t hne, z_grd_t hne, nL_div (by omega) hg (by omega), nL_div (by omega) hg (by omega)]
    by_cases e : a4 = 0
    · rw [if_pos e, if_pos e]
    · rw [if_neg e, if_neg e]
  | succ d ih =>
    intro k n h1 h2
    obtain ⟨n, rfl⟩ : ∃ k', n = k' + 1 := ⟨n - 1, by omega⟩
    rw [F_X3_likelihood_b9, if_neg (by rw [n_8, n_le (by omega) (by omega)]; omega), C_td hc hv hw (by omega), Option.bind_some]
    unfold F_X5_isNear F_X3_likelihood_b85 F_X3_likelihood_b103
    have i := ih (k + 1) n (by omega) (by omega)
    simp only [z_nmL_e]
    rw [n_1, nI_add]
    by_cases hk : k < s_lg f w
    · have hl := s_td_lt hv hw hk
      have hb := hv.tread hl
      rw [show min (k + 1) (s_lg f w) = k + 1 by omega] at i
      unfold s_cs s_si at i
      rw [show min k (s_lg f w) = k by omega, if_pos hk, C_hasTread hc.1.1 (by omega), b1_t (bl_n hl (by omega)), Option.bind_some, if_neg (by decide), C_hasTread hc.1.1 (by omega), b1_t (bl_n hd (by omega)), Option.bind_some, if_neg (by decide), hc.1.2.2.2.1, n_farA _ (by omega) _ (by omega)]
      have hf : q_far (s_td f w k) door < 16 := by unfold q_far; omega
      by_cases n1 : s_nr f door w k
      · rw [if_neg (by rw [n_lt (by omega) (by omega)]; omega), Option.bind_some, if_neg (by decide), C_kindOf hc hv hl, Option.bind_some]
        rw [if_pos n1] at i
        by_cases hlv : s_lv f (s_td f w k)
        · rw [if_neg (by rw [n_4, n_eq (by omega) (by omega)]; omega), if_neg (by rw [n_5, n_eq (by omega) (by omega)]; omega), show (10 : Int64) = nL 10 from rfl, nL_mul, nI_toL (by omega), nL_mul]
          rw [if_pos ⟨n1, hlv⟩, if_pos hlv] at i
          exact i
        · rw [if_neg (fun h => hlv h.2), if_neg hlv] at i
          have hs := s_snd_le (step := f (39 + w)) hv hl
          rw [C_soundOf hc hv hw (by omega), if_pos hk]
          have go : ((some (nI (s_snd f (s_td f w k) (f (39 + w))))).bind fun q17 => if q17 = (10 : Int32) then F_X3_likelihood_b9 M n (nI w) (nI door) (nI p) a4 (nL (s_cs f door w k)) (nL (s_si f p door w k)) (nI (k + 1)) else F_X3_likelihood_b9 M n (nI w) (nI door) (nI p) a4 (nL (s_cs f door w k)) 0 (nI (k + 1))) = some (if a4 = 0 then nL (l / Nat.gcd c l) else nL (c / Nat.gcd c l)) := by
            rw [Option.bind_some]
            by_cases h10 : s_snd f (s_td f w k) (f (39 + w)) = 10
            · rw [if_pos h10] at i
              rw [h10, if_pos (show nI 10 = 10 from rfl)]
              exact i
            · rw [if_neg h10] at i
              rw [if_neg (by rw [n_10, n_eq (by omega) (by omega)]; exact h10)]
              exact i
          rcases (show f (5 + s_td f w k) = 4 ∨ f (5 + s_td f w k) = 5 by omega) with e | e
          · rw [e, if_pos (show nI 4 = 4 from rfl)]
            exact go
          · rw [e, if_neg (show ¬ nI 5 = 4 by decide), if_pos (show nI 5 = 5 from rfl)]
            exact go
      · rw [if_pos (by rw [n_lt (by omega) (by omega)]; omega), Option.bind_some, if_pos rfl]
        rw [if_neg (fun h => n1 h.1), if_neg n1] at i
        exact i
    · rw [show min (k + 1) (s_lg f w) = min k (s_lg f w) by omega] at i
      rw [if_neg hk, C_hasTread hc.1.1 (by omega), b1_f bl_bad, Option.bind_some, if_pos rfl, Option.bind_some, if_pos rfl]
      exact i
end
theorem eq_rots {M : z_M} (hR : z_Rel M) (a1 : Int32) (a2 : Int32) (a3 : Int32) (a4 : Int32) : ∃ (r : Int64) (M1 : z_M) (M2 : z_M), F_X6_rots a1 a2 a3 a4 M = some (r, M1) ∧ F_X7_rots a1 a2 a3 a4 M1 = some (r, M2) ∧ z_Rel M2 := by
  obtain ⟨f, hc, ht, h8, h5, hVN⟩ := hR.2.2.2.2.1.of
  have no : F_X6_rots a1 a2 a3 a4 M = some (-1000001, M) → F_X7_rots a1 a2 a3 a4 M = some (-1000001, M) → ∃ (r : Int64) (M1 : z_M) (M2 : z_M), F_X6_rots a1 a2 a3 a4 M = some (r, M1) ∧ F_X7_rots a1 a2 a3 a4 M1 = some (r, M2) ∧ z_Rel M2 := fun x y => ⟨_, _, _, x, y, hR⟩
  unfold F_X6_rots F_X7_rots at *
  simp only [C_hasTread hc.1.1 (show f 0 < 2 ^ 31 by omega), C_hasWalker hc.1.2.1 (show f 1 < 2 ^ 31 by omega), C_isFirst, M_isWhat, C_within (lo := 0) (hi := 10) (L := 0) (U := 10), M_bw (lo := 0) (hi := 10) (L := 0) (U := 10), Option.bind_some, b1_if] at no ⊢
  have q1 : ∀ (N : z_M), p_T N 25 0 f → F_X7_isWalker a1 N = some (b1 (bl (f 1) a1)) := fun N h => M_isWalker (M_st h (by decide)) (by omega)
  have q2 : ∀ (N : z_M), p_T N 25 0 f → F_X7_isTread a2 N = some (b1 (bl (f 0) a2)) := fun N h => M_isTread (M_st h (by decide)) (by omega)
  by_cases h1 : bl (f 1) a1
  · by_cases h2 : bl (f 0) a2
    · by_cases h3 : bw 0 10 a3
      · by_cases h4 : bw 0 1 a4
        · obtain ⟨w, hw, rfl⟩ := bl_of h1 (by omega)
          obtain ⟨door, hd, rfl⟩ := bl_of h2 (by omega)
          obtain ⟨p, hp, rfl⟩ := bw_nb h3 (by decide)
          rcases hVN with ⟨hv, h9, hs⟩ | hN
          · obtain ⟨M1, e1, e2, e3, -⟩ := C_now hc h8 h5
            have ht1 := ht.free e2
            have cl := C_rotL e3 hv hw hd hp a4 rfl rfl 8 0 z_fuel (by omega) (by unfold z_fuel; omega)
            rw [Nat.zero_min] at cl
            obtain ⟨M3, j1, j2, j3⟩ := M_putAside ht1
            have ht3 : p_T M3 25 0 f := ht1.fr (fun c => j2 25 0 (by omega) c)
            obtain ⟨M4, l1, l2, l3⟩ := M_rotA hv hw hd hp a4 (s_lm f (f 0) + 1) 0 z_fuel M3 (by omega) (by have := s_lm_lt (f := f) (f 0) h8; unfold z_fuel; omega) ht3 j3
            have fin : z_Rel M4 := (hR.free e2).back (hc.fr (fun a _ _ c => e2 a 24 (by unfold p_fr; omega) c)) ⟨hv, h9, by rw [e2.stat, hs]⟩ l3 (fun a b c x y => by rw [l2 a b x, j2 a b (fun e => y (by unfold p_fr; omega))])
            obtain ⟨fr1, fr2⟩ := q_fr (c := s_cs f door w (s_lg f w)) (l := s_cs f door w (s_lg f w) - s_si f p door w (s_lg f w)) (T := s_T f (f 0)) (H := s_H f p door w) (s_cs_b _).1 (s_T_b _).1 (q_rots hv hp hw).1
            refine ⟨if a4 = 0 then nL ((s_cs f door w (s_lg f w) - s_si f p door w (s_lg f w)) / Nat.gcd (s_cs f door w (s_lg f w)) (s_cs f door w (s_lg f w) - s_si f p door w (s_lg f w))) else nL (s_cs f door w (s_lg f w) / Nat.gcd (s_cs f door w (s_lg f w)) (s_cs f door w (s_lg f w) - s_si f p door w (s_lg f w))), M1, M4, ?_, ?_, fin⟩
            · rw [if_pos h1, if_pos h2, if_pos h3, if_pos h4, e1, Option.bind_some]
              unfold F_X3_likelihood
              rw [show F_X3_likelihood_b9 M1 z_fuel (nI w) (nI door) (nI p) a4 1 1 0 = _ from cl, Option.bind_some]
            · rw [q1 _ ht1, Option.bind_some, b1_if, if_pos h1, q2 _ ht1, Option.bind_some, b1_if, if_pos h2, if_pos h3, if_pos h4, j1, Option.bind_some]
              have t1 := M_rotT ht3 hv (nI w) (nI door) (nI p) a4 (f 0) 0 z_fuel (by omega) (by unfold z_fuel; omega)
              rw [show F_X7_rots_b53 z_fuel (nI w) (nI door) (nI p) a4 0 1 0 M3 = _ from t1, fr1, fr2]
              exact l1
          · omega
        · exact no (by rw [if_pos h1, if_pos h2, if_pos h3, if_neg h4]) (by rw [q1 _ ht, Option.bind_some, b1_if, if_pos h1, q2 _ ht, Option.bind_some, b1_if, if_pos h2, if_pos h3, if_neg h4])
      · exact no (by rw [if_pos h1, if_pos h2, if_neg h3]) (by rw [q1 _ ht, Option.bind_some, b1_if, if_pos h1, q2 _ ht, Option.bind_some, b1_if, if_pos h2, if_neg h3])
    · exact no (by rw [if_pos h1, if_neg h2]) (by rw [q1 _ ht, Option.bind_some, b1_if, if_pos h1, q2 _ ht, Option.bind_some, b1_if, if_neg h2])
  · exact no (by rw [if_neg h1]) (by rw [q1 _ ht, Option.bind_some, b1_if, if_neg h1])
