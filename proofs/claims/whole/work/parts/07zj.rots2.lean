/-! ROTS: by sets of rotten TREADS (the reference), by the TREADS of the WALK alone (the class) -/
theorem n_tb {m t : Nat} : (m / 2 ^ t % 2 = 1) ↔ m.testBit t = true := by rw [Nat.testBit_eq_decide_div_mod_eq, decide_eq_true_eq]
section
variable {f : Nat → Nat}
/-- f, the first t TREADS of the set m rotten -/
def z_rk (f : Nat → Nat) (m t : Nat) : Nat → Nat := fun j => if 5 ≤ j ∧ j < 5 + t ∧ m.testBit (j - 5) = true then 4 else f j
theorem z_rk_0 {m : Nat} : z_rk f m 0 = f := by
  funext j; unfold z_rk; rw [if_neg (by omega)]
theorem z_rk_o {m t j : Nat} (h : ¬ (5 ≤ j ∧ j < 5 + t)) : z_rk f m t j = f j := by
  unfold z_rk; rw [if_neg (fun k => h ⟨k.1, k.2.1⟩)]
theorem z_rk_k {m t s : Nat} (h : s < t) : z_rk f m t (5 + s) = if m.testBit s = true then 4 else f (5 + s) := by
  unfold z_rk
  rw [Nat.add_sub_cancel_left]
  by_cases e : m.testBit s = true
  · rw [if_pos e, if_pos ⟨by omega, by omega, e⟩]
  · rw [if_neg e, if_neg (fun k => e k.2.2)]
theorem z_rk_s {m t : Nat} : z_up (z_rk f m t) (5 + t) (if m.testBit t = true then 4 else f (5 + t)) = z_rk f m (t + 1) := by
  funext j
  by_cases e : j = 5 + t
  · rw [e, z_up_eq, z_rk_k (by omega)]
  · rw [z_up_ne e]
    unfold z_rk
    by_cases b : 5 ≤ j ∧ j < 5 + t ∧ m.testBit (j - 5) = true
    · rw [if_pos b, if_pos ⟨b.1, by omega, b.2.2⟩]
    · rw [if_neg b, if_neg (fun k => b ⟨k.1, by omega, k.2.2⟩)]
theorem z_rk_V (hv : p_V f) {m : Nat} : p_V (z_rk f m (f 0)) := by
  have h := hv.1
  refine ⟨?_, fun t ht => ?_, fun w hw => ?_⟩
  · rw [z_rk_o (j := 0) (by omega), z_rk_o (j := 1) (by omega), z_rk_o (j := 2) (by omega), z_rk_o (j := 3) (by omega), z_rk_o (j := 4) (by omega)]; exact h
  · rw [z_rk_o (by omega)] at ht
    have e := hv.2.1 t ht
    rw [z_rk_k ht, z_rk_o (j := 13 + t) (by omega), z_rk_o (j := 21 + t) (by omega)]
    refine ⟨?_, ?_, e.2.2⟩
    · split <;> omega
    · split <;> omega
  · rw [z_rk_o (by omega)] at hw
    rw [z_rk_o (j := 0) (by omega), z_rk_o (j := 29 + w) (by omega), z_rk_o (j := 34 + w) (by omega), z_rk_o (j := 39 + w) (by omega), z_rk_o (j := 44 + w) (by omega)]
    exact hv.2.2 w hw
abbrev s_lv (f : Nat → Nat) (t : Nat) : Prop := f (5 + t) < 4
abbrev s_nr (f : Nat → Nat) (door w k : Nat) : Prop := q_far (s_td f w k) door ≤ f 3
def w_0 (f : Nat → Nat) (p t : Nat) (b : Bool) : Nat := if s_lv f t then (if b = true then p else 10 - p) else (if b = true then 0 else 1)
def s_wk (f : Nat → Nat) (door w : Nat) : Nat → Nat → Bool
  | 0, _ => false
  | k + 1, t => s_wk f door w k t || decide (t = s_td f w k ∧ s_nr f door w k ∧ s_lv f t)
def s_bk (f : Nat → Nat) (door w : Nat) : Nat → Nat
  | 0 => 1
  | k + 1 => if s_nr f door w k ∧ ¬ s_lv f (s_td f w k) ∧ s_snd f (s_td f w k) (f (39 + w)) ≠ 10 then 0 else s_bk f door w k
def w_k (f : Nat → Nat) (p door w k t : Nat) (b : Bool) : Nat := if s_lv f t then (if b = true then p else if s_wk f door w k t = true then 0 else 10 - p) else (if b = true then 0 else 1)
theorem s_wk_ne {door w k t : Nat} (h : ¬ (t = s_td f w k ∧ s_nr f door w k ∧ s_lv f t)) : s_wk f door w (k + 1) t = s_wk f door w k t := by
  show (s_wk f door w k t || decide _) = _
  rw [decide_eq_false h, Bool.or_false]
theorem w_k_ne {p door w k t : Nat} {b : Bool} (h : ¬ (t = s_td f w k ∧ s_nr f door w k ∧ s_lv f t)) : w_k f p door w (k + 1) t b = w_k f p door w k t b := by
  unfold w_k; rw [s_wk_ne h]
theorem s_so_lv {k tone step wet : Nat} (h1 : 1 ≤ k) (h : k < 4) (ht : tone ≤ 9) : s_so k tone step wet ≠ 10 := by
  unfold s_so
  rcases (show k = 1 ∨ k = 2 ∨ k = 3 by omega) with rfl | rfl | rfl
  · simp; omega
  · simp; split <;> omega
  · simp; omega
theorem s_hk_rk (hv : p_V f) {door w k m : Nat} (hw : w < f 1) (hk : k < s_lg f w) : s_hk (z_rk f m (f 0)) door w k = (decide (s_nr f door w k) && decide (s_so (if m.testBit (s_td f w k) = true then 4 else f (5 + s_td f w k)) (s_tn f (s_td f w k)) (f (39 + w)) (s_wt f) ≠ 10)) := by
  have hl := s_td_lt hv hw hk
  have hb := hv.tread hl
  have hV := hv.1
  have e1 : s_td (z_rk f m (f 0)) w k = s_td f w k := by unfold s_td; rw [z_rk_o (by omega), z_rk_o (by omega), z_rk_o (by omega)]
  unfold s_hk
  rw [e1, z_rk_o (j := 3) (by omega), z_rk_o (j := 39 + w) (by omega)]
  have e2 : s_snd (z_rk f m (f 0)) (s_td f w k) (f (39 + w)) = s_so (if m.testBit (s_td f w k) = true then 4 else f (5 + s_td f w k)) (s_tn f (s_td f w k)) (f (39 + w)) (s_wt f) := by
    unfold s_snd s_tn s_wt
    rw [z_rk_k hl, z_rk_o (j := 13 + s_td f w k) (by omega), z_rk_o (j := 21 + s_td f w k) (by omega), z_rk_o (j := 2) (by omega), z_rk_o (j := 4) (by omega)]
  rw [e2]
abbrev i_un (b : Bool) : Nat := if b = true then 0 else 1
theorem q_rotA (hv : p_V f) {p door w m : Nat} (hw : w < f 1) : ∀ k, k ≤ s_lg f w → q_pr (w_0 f p) m (f 0) * i_un (s_hr (z_rk f m (f 0)) door w k) = s_bk f door w k * q_pr (w_k f p door w k) m (f 0)
  | 0, _ => by
    show q_pr _ m _ * 1 = 1 * _
    rw [Nat.mul_one, Nat.one_mul]
    exact q_pr_cg _ (fun t ht => rfl)
  | k + 1, hk => by
    have ih := q_rotA hv (p := p) (door := door) (m := m) hw k (by omega)
    have hT := s_td_lt hv hw (show k < s_lg f w by omega)
    have hb := hv.tread hT
    have htn := s_tn10 hv hT
    have hh := s_hk_rk hv (door := door) (m := m) hw (show k < s_lg f w by omega)
    have u : s_hr (z_rk f m (f 0)) door w (k + 1) = (s_hr (z_rk f m (f 0)) door w k || s_hk (z_rk f m (f 0)) door w k) := rfl
    rw [u]
    by_cases hn : s_nr f door w k
    · by_cases hl : s_lv f (s_td f w k)
      · have e1 : s_bk f door w (k + 1) = s_bk f door w k := if_neg (fun h => h.2.1 hl)
        rw [e1]
        by_cases hm : m.testBit (s_td f w k) = true
        · have e2 : s_hk (z_rk f m (f 0)) door w k = false := by
            rw [hh, if_pos hm]
            simp [s_so]
          rw [e2, Bool.or_false, ih]
          congr 1
          refine q_pr_cg _ (fun t ht => ?_)
          by_cases et : t = s_td f w k
          · subst et
            unfold w_k
            rw [if_pos hl, if_pos hl, if_pos hm, if_pos hm]
          · rw [w_k_ne (fun h => et h.1)]
        · have e2 : s_hk (z_rk f m (f 0)) door w k = true := by
            rw [hh, if_neg hm, decide_eq_true hn, decide_eq_true (s_so_lv hb.2.1 hl (by omega))]; rfl
          rw [e2, Bool.or_true]
          rw [q_pr_z (G := w_k f p door w (k + 1)) (t := s_td f w k) ?_ (f 0) hT]
          · rfl
          · unfold w_k
            rw [if_pos hl, if_neg hm, if_pos]
            show (s_wk f door w k _ || decide _) = true
            rw [decide_eq_true (⟨rfl, hn, hl⟩), Bool.or_true]
      · have e0 : q_pr (w_k f p door w (k + 1)) m (f 0) = q_pr (w_k f p door w k) m (f 0) := q_pr_cg _ (fun t ht => w_k_ne (fun h => hl (h.1 ▸ h.2.2)))
        rw [e0]
        by_cases hm : m.testBit (s_td f w k) = true
        · rw [q_pr_z (G := w_0 f p) (t := s_td f w k) (by unfold w_0; rw [if_neg hl, if_pos hm]) (f 0) hT, q_pr_z (G := w_k f p door w k) (t := s_td f w k) (by unfold w_k; rw [if_neg hl, if_pos hm]) (f 0) hT, Nat.zero_mul, Nat.mul_zero]
        · rw [if_neg hm] at hh
          have hs : s_so (f (5 + s_td f w k)) (s_tn f (s_td f w k)) (f (39 + w)) (s_wt f) = s_snd f (s_td f w k) (f (39 + w)) := rfl
          rw [hs, decide_eq_true hn, Bool.true_and] at hh
          by_cases h10 : s_snd f (s_td f w k) (f (39 + w)) = 10
          · have e1 : s_bk f door w (k + 1) = s_bk f door w k := if_neg (fun h => h.2.2 h10)
            rw [hh, decide_eq_false (fun h => h h10), Bool.or_false, e1, ih]
          · have e1 : s_bk f door w (k + 1) = 0 := if_pos ⟨hn, hl, h10⟩
            rw [hh, decide_eq_true h10, Bool.or_true, e1, Nat.zero_mul]; rfl
    · have e1 : s_bk f door w (k + 1) = s_bk f door w k := if_neg (fun h => hn h.1)
      have e0 : q_pr (w_k f p door w (k + 1)) m (f 0) = q_pr (w_k f p door w k) m (f 0) := q_pr_cg _ (fun t ht => w_k_ne (fun h => hn h.2.1))
      rw [hh, decide_eq_false hn, Bool.false_and, Bool.or_false, e1, e0, ih]
-- no TREAD twice in one WALK
theorem q_td_neA : ∀ a, a < 8 → ∀ b, b < 8 → ∀ s, s < 3 → ((List.range (q_lg a b (s + 1))).all fun k => (List.range k).all fun j => decide (q_td a b (s + 1) j ≠ q_td a b (s + 1) k)) = true := by decide +kernel
theorem s_td_ne (hv : p_V f) {w j k : Nat} (hw : w < f 1) (hj : j < k) (hk : k < s_lg f w) : s_td f w j ≠ s_td f w k := by
  have h0 := hv.walker hw
  have h1 := q_td_neA (f (29 + w)) (by omega) (f (34 + w)) (by omega) (f (39 + w) - 1) (by omega)
  rw [show f (39 + w) - 1 + 1 = f (39 + w) by omega] at h1
  exact of_decide_eq_true (List.all_eq_true.mp (List.all_eq_true.mp h1 k (List.mem_range.mpr hk)) j (List.mem_range.mpr hj))
theorem s_wk_ex {door w t : Nat} : ∀ k, s_wk f door w k t = true → ∃ j, j < k ∧ s_td f w j = t
  | 0, h => absurd h Bool.false_ne_true
  | k + 1, h => by
    rcases Bool.or_eq_true_iff.mp (show (s_wk f door w k t || decide _) = true from h) with h | h
    · obtain ⟨j, h1, h2⟩ := s_wk_ex k h
      exact ⟨j, by omega, h2⟩
    · exact ⟨k, by omega, (of_decide_eq_true h).1.symm⟩
def s_cs (f : Nat → Nat) (door w : Nat) : Nat → Nat
  | 0 => 1
  | k + 1 => if s_nr f door w k ∧ s_lv f (s_td f w k) then s_cs f door w k * 10 else s_cs f door w k
def s_sp (f : Nat → Nat) (p door w : Nat) : Nat → Nat
  | 0 => 1
  | k + 1 => if s_nr f door w k ∧ s_lv f (s_td f w k) then s_sp f p door w k * p else s_sp f p door w k
def s_si (f : Nat → Nat) (p door w : Nat) : Nat → Nat
  | 0 => 1
  | k + 1 => if s_nr f door w k then (if s_lv f (s_td f w k) then s_si f p door w k * p else if s_snd f (s_td f w k) (f (39 + w)) = 10 then s_si f p door w k else 0) else s_si f p door w k
theorem s_si_bk {p door w : Nat} : ∀ k, s_si f p door w k = s_bk f door w k * s_sp f p door w k
  | 0 => rfl
  | k + 1 => by
    have ih := s_si_bk (p := p) (door := door) (w := w) k
    unfold s_si s_bk s_sp
    by_cases hn : s_nr f door w k
    · by_cases hl : s_lv f (s_td f w k)
      · rw [if_pos hn, if_pos hl, if_neg (fun h => h.2.1 hl), if_pos ⟨hn, hl⟩, ih, Nat.mul_assoc]
      · rw [if_pos hn, if_neg hl, if_neg (fun h : s_nr f door w k ∧ s_lv f (s_td f w k) => hl h.2)]
        by_cases h10 : s_snd f (s_td f w k) (f (39 + w)) = 10
        · rw [if_pos h10, if_neg (fun h => h.2.2 h10), ih]
        · rw [if_neg h10, if_pos ⟨hn, hl, h10⟩, Nat.zero_mul]
    · rw [if_neg hn, if_neg (fun h => hn h.1), if_neg (fun h => hn h.1), ih]
theorem s_si_le {p door w : Nat} (hp : p ≤ 10) : ∀ k, s_si f p door w k ≤ s_cs f door w k
  | 0 => Nat.le_refl _
  | k + 1 => by
    have ih := s_si_le (door := door) (w := w) hp k
    unfold s_si s_cs
    by_cases hn : s_nr f door w k
    · by_cases hl : s_lv f (s_td f w k)
      · rw [if_pos hn, if_pos hl, if_pos ⟨hn, hl⟩]
        exact Nat.mul_le_mul ih hp
      · rw [if_pos hn, if_neg hl, if_neg (fun h : s_nr f door w k ∧ s_lv f (s_td f w k) => hl h.2)]
        split <;> omega
    · rw [if_neg hn, if_neg (fun h => hn h.1)]
      exact ih
theorem s_cs_b {door w : Nat} : ∀ k, 1 ≤ s_cs f door w k ∧ s_cs f door w k ≤ 10 ^ k
  | 0 => ⟨Nat.le_refl _, Nat.le_refl _⟩
  | k + 1 => by
    have ih := s_cs_b (door := door) (w := w) k
    rw [Nat.pow_succ]
    unfold s_cs
    split <;> omega
abbrev w_d (f : Nat → Nat) (p door w k t : Nat) : Nat := w_k f p door w k t false + w_k f p door w k t true
theorem w_d_v {p door w k t : Nat} (hp : p ≤ 10) : w_d f p door w k t = if s_lv f t then (if s_wk f door w k t = true then p else 10) else 1 := by
  unfold w_d w_k
  by_cases hl : s_lv f t
  · rw [if_pos hl, if_pos hl, if_pos hl, if_pos rfl, if_neg Bool.false_ne_true]
    split <;> omega
  · rw [if_neg hl, if_neg hl, if_neg hl, if_pos rfl, if_neg Bool.false_ne_true]
theorem q_rotB (hv : p_V f) {p door w : Nat} (hp : p ≤ 10) (hw : w < f 1) : ∀ k, k ≤ s_lg f w → q_pd (w_d f p door w k) (f 0) * s_cs f door w k = q_pd (w_d f p door w 0) (f 0) * s_sp f p door w k
  | 0, _ => rfl
  | k + 1, hk => by
    have ih := q_rotB hv (door := door) hp hw k (by omega)
    have hT := s_td_lt hv hw (show k < s_lg f w by omega)
    unfold s_cs s_sp
    by_cases h : s_nr f door w k ∧ s_lv f (s_td f w k)
    · rw [if_pos h, if_pos h]
      have fresh : ¬ s_wk f door w k (s_td f w k) = true := fun e => by
        obtain ⟨j, h1, h2⟩ := s_wk_ex k e
        exact s_td_ne hv hw h1 (by omega) h2
      have d1 : w_d f p door w (k + 1) (s_td f w k) = p := by
        rw [w_d_v hp, if_pos h.2, if_pos]
        show (s_wk f door w k _ || decide _) = true
        rw [decide_eq_true (⟨rfl, h⟩), Bool.or_true]
      have d0 : w_d f p door w k (s_td f w k) = 10 := by rw [w_d_v hp, if_pos h.2, if_neg fresh]
      have st := q_pd_set (D := w_d f p door w k) (D' := w_d f p door w (k + 1)) (t := s_td f w k) (fun x hx => by unfold w_d; rw [w_k_ne (fun e => hx e.1), w_k_ne (fun e => hx e.1)]) (f 0) hT
      rw [d0, d1] at st
      rw [Nat.mul_comm (s_cs f door w k) 10, ← Nat.mul_assoc, st, Nat.mul_right_comm, ih, Nat.mul_assoc]
    · rw [if_neg h, if_neg h, ← ih]
      congr 1
      exact q_pd_cg _ (fun t ht => by unfold w_d; rw [w_k_ne (fun e => h ⟨e.2.1, e.1 ▸ e.2.2⟩), w_k_ne (fun e => h ⟨e.2.1, e.1 ▸ e.2.2⟩)])
/-- what the reference sums up, and of how many -/
def s_F (f : Nat → Nat) (p door w m : Nat) : Nat := q_pr (w_0 f p) m (f 0) * (if s_hr (z_rk f m (f 0)) door w (s_lg f w) = true then 1 else 0)
def s_H (f : Nat → Nat) (p door w : Nat) : Nat := q_su (s_F f p door w) (2 ^ f 0)
def s_T (f : Nat → Nat) : Nat → Nat
  | 0 => 1
  | t + 1 => s_T f t * (if s_lv f t then 10 else 1)
theorem s_T_pd {p door w : Nat} (hp : p ≤ 10) : ∀ n, q_pd (w_d f p door w 0) n = s_T f n
  | 0 => rfl
  | n + 1 => by
    show q_pd _ n * w_d f p door w 0 n = s_T f n * _
    rw [s_T_pd hp n, w_d_v hp]
    rfl
theorem s_T_b : ∀ n, 1 ≤ s_T f n ∧ s_T f n ≤ 10 ^ n
  | 0 => ⟨Nat.le_refl _, Nat.le_refl _⟩
  | n + 1 => by
    have ih := s_T_b n
    rw [Nat.pow_succ]
    unfold s_T
    split <;> omega
theorem q_rots (hv : p_V f) {p door w : Nat} (hp : p ≤ 10) (hw : w < f 1) : s_H f p door w * s_cs f door w (s_lg f w) = s_T f (f 0) * (s_cs f door w (s_lg f w) - s_si f p door w (s_lg f w)) ∧ s_H f p door w ≤ s_T f (f 0) := by
  have hU : q_su (fun m => q_pr (w_0 f p) m (f 0) * i_un (s_hr (z_rk f m (f 0)) door w (s_lg f w))) (2 ^ f 0) = s_bk f door w (s_lg f w) * q_pd (w_d f p door w (s_lg f w)) (f 0) := by
    rw [q_su_cg (G := fun m => s_bk f door w (s_lg f w) * q_pr (w_k f p door w (s_lg f w)) m (f 0)) _ (fun m _ => q_rotA hv hw _ (Nat.le_refl _)), q_su_mull, q_su_pr]
  have hS : q_su (fun m => q_pr (w_0 f p) m (f 0)) (2 ^ f 0) = s_T f (f 0) := by
    rw [q_su_pr, ← s_T_pd (door := door) (w := w) hp]
    exact q_pd_cg _ (fun t _ => rfl)
  have hA : q_su (fun m => q_pr (w_0 f p) m (f 0)) (2 ^ f 0) = s_H f p door w + q_su (fun m => q_pr (w_0 f p) m (f 0) * i_un (s_hr (z_rk f m (f 0)) door w (s_lg f w))) (2 ^ f 0) := by
    refine q_su_add2 (fun m => ?_) _
    unfold s_F i_un
    split <;> omega
  rw [hS, hU] at hA
  have hB := q_rotB hv (door := door) hp hw _ (Nat.le_refl _)
  rw [s_T_pd hp] at hB
  have hC : s_bk f door w (s_lg f w) * q_pd (w_d f p door w (s_lg f w)) (f 0) * s_cs f door w (s_lg f w) = s_T f (f 0) * s_si f p door w (s_lg f w) := by
    rw [Nat.mul_assoc, hB, s_si_bk, Nat.mul_left_comm]
  generalize s_bk f door w (s_lg f w) * q_pd (w_d f p door w (s_lg f w)) (f 0) = U at *
  refine ⟨?_, by omega⟩
  rw [show s_H f p door w = s_T f (f 0) - U by omega, Nat.sub_mul, hC, Nat.mul_sub]
end
