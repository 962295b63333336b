/-! HEARD: where one is, what is heard -/
section
variable {M : z_M} {i : Nat} {f : Nat → Nat}
def e_lg (q3 s : Int32) : Option Int32 := z_grd (¬ s = 0) <| some ((1 : Int32) + (((q3 + s) - 1) / s))
def e_sz (x : Int32) : Int32 := if 0 ≤ x then x else -x
theorem e_lg_q : ∀ a, a < 8 → ∀ b, b < 8 → ∀ s, s < 4 → 1 ≤ s → e_lg (e_sz (nI b - nI a)) (nI s) = some (nI (q_lg a b s)) := by decide +kernel
theorem M_size {x : Int32} : F_X7_size x M = some (e_sz x) := by
  unfold F_X7_size e_sz
  split <;> rfl
theorem M_part (ht : p_T M 25 0 f) {w k : Nat} (hk : k + w < 49) : z_gi M 25 0 (k + w) = nI (f (k + w)) := by rw [← ht (k + w) hk, Nat.zero_add]
theorem M_long (ht : p_T M 25 0 f) (hv : p_V f) {w : Nat} (h : w < f 1) : F_X7_longOf (nI w) M = some (nI (s_lg f w)) := by
  have h0 := hv.walker h
  unfold F_X7_longOf
  simp only [M_size, Option.bind_some]
  have g29 : z_in (29 + nI w) 49 := by rw [n_29, nI_add, n_in (by omega) (by omega)]; omega
  have g34 : z_in (34 + nI w) 49 := by rw [n_34, nI_add, n_in (by omega) (by omega)]; omega
  have g39 : z_in (39 + nI w) 49 := by rw [n_39, nI_add, n_in (by omega) (by omega)]; omega
  have c29 : (29 + nI w).toNatClampNeg = 29 + w := by rw [n_29, nI_add, n_cl (by omega)]
  have c34 : (34 + nI w).toNatClampNeg = 34 + w := by rw [n_34, nI_add, n_cl (by omega)]
  have c39 : (39 + nI w).toNatClampNeg = 39 + w := by rw [n_39, nI_add, n_cl (by omega)]
  simp only [z_grd_t g29, z_grd_t g34, z_grd_t g39, c29, c34, c39, M_part ht (show 29 + w < 49 by omega), M_part ht (show 34 + w < 49 by omega), M_part ht (show 39 + w < 49 by omega)]
  exact e_lg_q _ (by omega) _ (by omega) _ (by omega) (by omega)
def e_tm (a x3 s k : Int32) : Option Int32 :=
  let x5 := k * s
  let r := fun by' : Int32 => if 0 ≤ x3 then some (a + by') else some (a - by')
  if x5 ≤ e_sz x3 then r x5 else r (e_sz x3)
def e_tmP (a b s k : Nat) : Bool := e_tm (nI a) (nI b - nI a) (nI s) (nI k) == some (nI (q_td a b s k))
theorem e_tmA : ∀ a, a < 8 → ∀ b, b < 8 → ∀ s, s < 3 → ((List.range 8).all fun k => e_tmP a b (s + 1) k) = true := by decide +kernel
theorem M_td (ht : p_T M 25 0 f) (hv : p_V f) {w k : Nat} (h : w < f 1) (hk : k < 8) : F_X7_treadOf (nI w) (nI k) M = some (nI (s_td f w k)) := by
  have h0 := hv.walker h
  unfold F_X7_treadOf F_X7_treadOf_b51
  simp only [M_size, Option.bind_some, z_nmI_e]
  have g29 : z_in (29 + nI w) 49 := by rw [n_29, nI_add, n_in (by omega) (by omega)]; omega
  have g34 : z_in (34 + nI w) 49 := by rw [n_34, nI_add, n_in (by omega) (by omega)]; omega
  have g39 : z_in (39 + nI w) 49 := by rw [n_39, nI_add, n_in (by omega) (by omega)]; omega
  have c29 : (29 + nI w).toNatClampNeg = 29 + w := by rw [n_29, nI_add, n_cl (by omega)]
  have c34 : (34 + nI w).toNatClampNeg = 34 + w := by rw [n_34, nI_add, n_cl (by omega)]
  have c39 : (39 + nI w).toNatClampNeg = 39 + w := by rw [n_39, nI_add, n_cl (by omega)]
  simp only [z_grd_t g29, z_grd_t g34, z_grd_t g39, c29, c34, c39, M_part ht (show 29 + w < 49 by omega), M_part ht (show 34 + w < 49 by omega), M_part ht (show 39 + w < 49 by omega)]
  have hh := List.all_eq_true.mp (e_tmA (f (29 + w)) (by omega) (f (34 + w)) (by omega) (f (39 + w) - 1) (by omega)) k (List.mem_range.mpr hk)
  rw [show f (39 + w) - 1 + 1 = f (39 + w) by omega] at hh
  exact eq_of_beq hh
/-- where a WALKER is: a TREAD, or 99 -/
def s_at (f : Nat → Nat) (w m : Nat) : Nat := if f (44 + w) ≤ m ∧ m - f (44 + w) < s_lg f w then s_td f w (m - f (44 + w)) else 99
theorem s_at_in {w m : Nat} (h1 : f (44 + w) ≤ m) (h2 : m - f (44 + w) < s_lg f w) : s_at f w m = s_td f w (m - f (44 + w)) := if_pos ⟨h1, h2⟩
theorem s_at_out {w m : Nat} (h : ¬ (f (44 + w) ≤ m ∧ m - f (44 + w) < s_lg f w)) : s_at f w m = 99 := if_neg h
theorem s_at_lt (hv : p_V f) {w m : Nat} (h : w < f 1) : s_at f w m < f 0 ∨ s_at f w m = 99 := by
  unfold s_at
  split
  · rename_i hh; exact Or.inl (s_td_lt hv h hh.2)
  · exact Or.inr rfl
theorem n_subneg {a b : Nat} (h : a < b) (hb : b < 2 ^ 30) : nI a - nI b < 0 := pk_sneg hb h
/-- class: where one is at a minute (by the START that is told) -/
theorem C_at (hc : p_C M i f) (hv : p_V f) {w m : Nat} (h : w < f 1) (hm : m < 1000) : F_X5_treadOf i (nI w) (nI m - nI (f (44 + w))) M = some (if s_at f w m = 99 then -1000000 else nI (s_at f w m)) := by
  have h0 := hv.walker h
  by_cases h1 : f (44 + w) ≤ m
  · rw [n_sub h1, C_td hc hv h (by omega)]
    by_cases h2 : m - f (44 + w) < s_lg f w
    · have := s_td_lt hv h h2
      rw [if_pos h2, s_at_in h1 h2, if_neg (by omega)]
    · rw [if_neg h2, s_at_out (fun h => h2 h.2), if_pos rfl]
  · rw [C_td_neg hc hv h (n_subneg (by omega) (by omega)), s_at_out (fun h => h1 h.1), if_pos rfl]
theorem C_placeIn (hc : p_C M i f) (hv : p_V f) {w m : Nat} (h : w < f 1) (hm : m < 1000) : F_X5_placeIn i (nI w) (nI m) M = some (if s_at f w m = 99 then -1000000 else nI (s_at f w m)) := by
  have h0 := hv.walker h
  unfold F_X5_placeIn
  rw [C_hasWalker hc.1.2.1 (by omega), b1_t (bl_n h (by omega)), Option.bind_some, if_neg (by decide), (C_partOf hc hv h).2.2, Option.bind_some, C_at hc hv h hm, Option.bind_some]
theorem M_at (ht : p_T M 25 0 f) (hv : p_V f) {w m : Nat} (h : w < f 1) (hm : m < 1000) : F_X7_at (nI w) (nI m) M = some (if s_at f w m = 99 then -1 else nI (s_at f w m)) := by
  have h0 := hv.walker h
  have hq := hv.lg h
  unfold F_X7_at
  rw [z_grd_t (by rw [n_44, nI_add, n_in (by omega) (by omega)]; omega), n_44, nI_add, n_cl (by omega), M_part ht (show 44 + w < 49 by omega), z_nmI_e, M_long ht hv h, Option.bind_some, M_bl (by omega), Option.bind_some, b1_if]
  have e : (nI m - nI (f (44 + w))).toInt = (m : Int) - f (44 + w) := pk_sub_toInt (by omega) (by omega)
  by_cases h1 : f (44 + w) ≤ m ∧ m - f (44 + w) < s_lg f w
  · have := s_td_lt hv h h1.2
    rw [if_pos (by unfold bl; rw [e]; omega), s_at_in h1.1 h1.2, n_sub h1.1, M_td ht hv h (by omega), Option.bind_some, if_neg (by omega)]
  · rw [if_neg (by unfold bl; rw [e]; omega), s_at_out h1, if_pos rfl]
theorem bl_bad {n : Nat} : ¬ bl n (-1000000) := fun h => absurd h.1 (by decide)
-- sets of sounds
theorem n_or (a b : Nat) : nI a ||| nI b = nI (a ||| b) := by
  apply Int32.toBitVec_inj.mp
  show BitVec.ofNat 32 a ||| BitVec.ofNat 32 b = BitVec.ofNat 32 (a ||| b)
  apply BitVec.eq_of_toNat_eq
  simp [BitVec.toNat_or, Nat.or_mod_two_pow]
theorem n_shl : ∀ s, s < 31 → (1 : Int32) <<< (nI s &&& 31) = nI (2 ^ s) := by decide +kernel
/-- what one WALKER adds to what is heard of the TREADS that are near -/
def s_h1 (f : Nat → Nat) (near : Nat → Bool) (m w : Nat) : Nat := if s_at f w m ≠ 99 ∧ near (s_at f w m) = true ∧ s_snd f (s_at f w m) (f (39 + w)) ≠ 10 then 2 ^ s_snd f (s_at f w m) (f (39 + w)) else 0
def s_hs (f : Nat → Nat) (near : Nat → Bool) (m : Nat) : Nat → Nat
  | 0 => 0
  | w + 1 => s_hs f near m w ||| s_h1 f near m w
def s_hd (f : Nat → Nat) (door m : Nat) : Nat := s_hs f (fun t => decide (q_far t door ≤ f 3)) m (f 1)
def s_all (f : Nat → Nat) (m : Nat) : Nat := s_hs f (fun _ => true) m (f 1)
theorem C_sounds (hc : p_C M i f) (hv : p_V f) {m : Nat} {lo hi : Int32} {near : Nat → Bool} (hm : m < 1000) (hn : ∀ t, t < f 0 → (near t = true ↔ ¬ nI t < lo ∧ nI t ≤ hi)) : F_X5_soundsIn i (nI m) lo hi M = some (nI (s_hs f near m (f 1))) := by
  have hf1 : f 1 ≤ 5 := by have := hv.1; omega
  have hf0 : f 0 ≤ 8 := by have := hv.1; omega
  have key : ∀ d w n, w + d = f 1 → d < n → F_X5_soundsIn_b6 i M n (nI m) lo hi (nI (s_hs f near m w)) (nI w) = some (nI (s_hs f near m (f 1))) := by
    intro d
    induction d with
    | zero =>
      intro w n h1 h2
      obtain ⟨n, rfl⟩ : ∃ k', n = k' + 1 := ⟨n - 1, by omega⟩
      rw [F_X5_soundsIn_b6, hc.1.2.1, if_pos (by rw [n_le (by omega) (by omega)]; omega), show w = f 1 by omega]
    | succ d ih =>
      intro w n h1 h2
      obtain ⟨n, rfl⟩ : ∃ k', n = k' + 1 := ⟨n - 1, by omega⟩
      have hw : w < f 1 := by omega
      have h0 := hv.walker hw
      have step : ∀ x, x = nI (s_hs f near m (w + 1)) → F_X5_soundsIn_b98 i M (F_X5_soundsIn_b6 i M n) (nI m) lo hi x (nI w) = some (nI (s_hs f near m (f 1))) := by
        intro x hx
        unfold F_X5_soundsIn_b98
        rw [hx, n_1, nI_add]
        exact ih (w + 1) n (by omega) (by omega)
      rw [F_X5_soundsIn_b6, hc.1.2.1, if_neg (by rw [n_le (by omega) (by omega)]; omega), (C_partOf hc hv hw).2.2, Option.bind_some, C_at hc hv hw hm, Option.bind_some, C_hasTread hc.1.1 (by omega), Option.bind_some, b1_if]
      rcases s_at_lt hv (m := m) hw with ha | ha
      · have h99 : s_at f w m ≠ 99 := by omega
        have hs := s_snd_le (step := f (39 + w)) hv ha
        have ht := hv.tread ha
        rw [if_neg h99, if_pos (bl_n ha (by omega))]
        have hz : z_in (nI (s_at f w m)) 8 := by rw [n_in (by omega) (by omega)]; omega
        rw [z_grd_t hz, C_toneOf hc hv ha, Option.bind_some, (C_partOf hc hv hw).2.1, Option.bind_some, n_cl (by omega), (hc.2.1 _ ha).1, C_soundAs hc hv (by omega) (by omega) (s_tn10 hv ha) (by omega) (by omega), Option.bind_some]
        show (if nI (s_at f w m) < lo then _ else if nI (s_at f w m) ≤ hi then (if nI (s_snd f (s_at f w m) (f (39 + w))) = 10 then _ else z_nmI (_ ||| (1 : Int32) <<< (nI (s_snd f (s_at f w m) (f (39 + w))) &&& 31)) _) else _) = _
        by_cases hnr : near (s_at f w m) = true
        · obtain ⟨k1, k2⟩ := (hn _ ha).mp hnr
          rw [if_neg k1, if_pos k2]
          by_cases h10 : s_snd f (s_at f w m) (f (39 + w)) = 10
          · rw [h10, if_pos (show nI 10 = 10 from rfl)]
            refine step _ ?_
            show _ = nI (s_hs f near m w ||| s_h1 f near m w)
            rw [show s_h1 f near m w = 0 from if_neg (fun h => h.2.2 h10), Nat.or_zero]
          · rw [if_neg (by rw [n_10, n_eq (by omega) (by omega)]; exact h10), n_shl _ (by omega), n_or, z_nmI_e]
            refine step _ ?_
            show _ = nI (s_hs f near m w ||| s_h1 f near m w)
            rw [show s_h1 f near m w = 2 ^ s_snd f (s_at f w m) (f (39 + w)) from if_pos ⟨h99, hnr, h10⟩]
        · have e0 : s_h1 f near m w = 0 := if_neg (fun h => hnr h.2.1)
          have st := step (nI (s_hs f near m w)) (by show _ = nI (s_hs f near m w ||| s_h1 f near m w); rw [e0, Nat.or_zero])
          by_cases k1 : nI (s_at f w m) < lo
          · rw [if_pos k1]; exact st
          · rw [if_neg k1, if_neg (fun k2 => hnr ((hn _ ha).mpr ⟨k1, k2⟩))]; exact st
      · rw [if_pos ha, if_neg bl_bad]
        refine step _ ?_
        show _ = nI (s_hs f near m w ||| s_h1 f near m w)
        rw [show s_h1 f near m w = 0 from if_neg (fun h => h.1 ha), Nat.or_zero]
  unfold F_X5_soundsIn
  exact key (f 1) 0 z_fuel (by omega) (by unfold z_fuel; omega)
end
