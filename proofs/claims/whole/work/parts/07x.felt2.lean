/-! FELT by the reference -/
def z_fk (f : Nat → Nat) (m t : Nat) : Nat → Nat := fun j => if 5 ≤ j ∧ j < 5 + t ∧ m / 2 ^ (j - 5) % 2 = 1 then 5 else f j
theorem z_fk_0 {f : Nat → Nat} {m : Nat} : z_fk f m 0 = f := by
  funext j; unfold z_fk; rw [if_neg (by omega)]
theorem z_fk_o {f : Nat → Nat} {m t j : Nat} (h : ¬ (5 ≤ j ∧ j < 5 + t)) : z_fk f m t j = f j := by
  unfold z_fk; rw [if_neg (fun k => h ⟨k.1, k.2.1⟩)]
theorem z_fk_s {f : Nat → Nat} {m t : Nat} : z_up (z_fk f m t) (5 + t) (if m / 2 ^ t % 2 = 1 then 5 else f (5 + t)) = z_fk f m (t + 1) := by
  funext j
  by_cases e : j = 5 + t
  · rw [e, z_up_eq]
    unfold z_fk
    rw [Nat.add_sub_cancel_left]
    by_cases b : m / 2 ^ t % 2 = 1
    · rw [if_pos b, if_pos ⟨by omega, by omega, b⟩]
    · rw [if_neg b, if_neg (fun k => b k.2.2)]
  · rw [z_up_ne e]
    unfold z_fk
    by_cases b : 5 ≤ j ∧ j < 5 + t ∧ m / 2 ^ (j - 5) % 2 = 1
    · rw [if_pos b, if_pos ⟨b.1, by omega, b.2.2⟩]
    · rw [if_neg b, if_neg (fun k => b ⟨k.1, by omega, k.2.2⟩)]
theorem z_fk_all {f : Nat → Nat} {m : Nat} (h8 : f 0 ≤ 8) (hm : m < 2 ^ f 0) : z_fk f m (f 0) = z_fm f m := by
  funext j
  unfold z_fk z_fm
  by_cases b : 5 ≤ j ∧ j < 5 + f 0 ∧ m / 2 ^ (j - 5) % 2 = 1
  · rw [if_pos b, if_pos ⟨b.1, by omega, b.2.2⟩]
  · rw [if_neg b, if_neg (fun k => ?_)]
    by_cases e : j < 5 + f 0
    · exact b ⟨k.1, e, k.2.2⟩
    · have h1 : 2 ^ f 0 ≤ 2 ^ (j - 5) := Nat.pow_le_pow_right (n := 2) (by decide) (by omega)
      have h2 : m / 2 ^ (j - 5) = 0 := Nat.div_eq_of_lt (Nat.lt_of_lt_of_le hm h1)
      have := k.2.2
      rw [h2] at this
      omega
theorem M_has {M : z_M} {m t : Nat} (hm : m < 256) (ht : t < 8) : F_X7_has (nI m) (nI t) M = some (b1 (m / 2 ^ t % 2 = 1)) := by
  unfold F_X7_has
  rw [n_bit hm ht]
  by_cases e : m / 2 ^ t % 2 = 1
  · rw [e, if_pos (show nI 1 = 1 from rfl), b1_t rfl]
  · rw [if_neg (by rw [n_1, n_eq (by omega) (by omega)]; exact e), b1_f e]
theorem M_layL {f : Nat → Nat} (hv : p_V f) {door w m : Nat} (hw : w < f 1) (hd : door < f 0) (hm : m < 2 ^ f 0) (a b : Int32) (K : Int32 → Int32 → Int32 → Int32 → Int32 → z_M → Option (Int32 × z_M)) : ∀ d t n (M : z_M), t + d = f 0 → d < n → p_T M 25 0 (z_fk f m t) → p_T M 30 0 f → ∃ M', F_X7_felt_b71 K n (nI w) (nI door) a b (nI m) (nI t) M = K (nI w) (nI door) a (if ¬ s_hr (z_fm f m) door w (s_lg f w) = true then nI m else b) (nI (m + 1)) M' ∧ m_of (fun a _ => a = 25) M M' ∧ p_T M' 25 0 f := by
  have hV := hv.1
  have h2 := two_le (n := f 0) (by omega)
  intro d
  induction d with
  | zero =>
    intro t n M h1 h3 hc hc2
    obtain ⟨n, rfl⟩ : ∃ k', n = k' + 1 := ⟨n - 1, by omega⟩
    have e : t = f 0 := by omega
    have e0 : z_fk f m t 0 = f 0 := z_fk_o (by omega)
    obtain ⟨M', i1, i2, i3⟩ := M_takeBack hc2
    have hc3 : p_T M 25 0 (z_fm f m) := by rw [← z_fk_all (by omega) hm, ← e]; exact hc
    refine ⟨M', ?_, i2, i3⟩
    rw [F_X7_felt_b71, z_grd_t (by decide), show (0 : Int32).toNatClampNeg = 0 from rfl, M_st hc (by decide), e0, if_pos (by rw [n_le (by omega) (by omega)]; omega), M_isHeard hc3 (z_fm_V hv) (by rw [z_fm_o (by omega)]; exact hw) (by rw [z_fm_o (by omega)]; exact hd), Option.bind_some, b1_if, z_fm_lg]
    unfold F_X7_felt_b136 F_X7_felt_b142
    rw [i1, Option.bind_some, Option.bind_some, n_1, nI_add]
    by_cases k : s_hr (z_fm f m) door w (s_lg f w) = true
    · rw [if_pos k, if_neg (fun h => h k)]
    · rw [if_neg k, if_pos k]
  | succ d ih =>
    intro t n M h1 h3 hc hc2
    obtain ⟨n, rfl⟩ : ∃ k', n = k' + 1 := ⟨n - 1, by omega⟩
    have e0 : z_fk f m t 0 = f 0 := z_fk_o (by omega)
    have es : z_gi M 25 0 (5 + t) = nI (f (5 + t)) := by rw [M_st hc (by omega), z_fk_o (by omega)]
    have nxt := hc.set (5 + t) (if m / 2 ^ t % 2 = 1 then 5 else f (5 + t))
    rw [z_fk_s] at nxt
    obtain ⟨M', i1, i2, i3⟩ := ih (t + 1) n _ (by omega) (by omega) nxt (hc2.fr (fun c => m_off _ _ _ _ _ (by omega)))
    refine ⟨M', ?_, (m_of.si (S := fun a _ => a = 25) m_of.rf rfl).tr i2, i3⟩
    rw [F_X7_felt_b71, z_grd_t (by decide), show (0 : Int32).toNatClampNeg = 0 from rfl, M_st hc (by decide), e0, if_neg (by rw [n_le (by omega) (by omega)]; omega), M_has (by omega) (by omega), Option.bind_some, b1_if]
    unfold F_X7_felt_b113
    have hg : z_in (nI (5 + t)) 49 := by rw [n_in (by omega) (by omega)]; omega
    rw [n_5, nI_add]
    simp only [z_grd_t hg, n_cl (show 5 + t < 2 ^ 31 by omega), es]
    rw [n_1, nI_add]
    by_cases b : m / 2 ^ t % 2 = 1
    · rw [if_pos b] at i1 ⊢; exact i1
    · rw [if_neg b] at i1 ⊢; exact i1
