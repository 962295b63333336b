/-! HEAR: is one WALKER heard at a door, TREADS of felt laid or not -/
def s_hk (g : Nat → Nat) (door w k : Nat) : Bool := decide (q_far (s_td g w k) door ≤ g 3) && decide (s_snd g (s_td g w k) (g (39 + w)) ≠ 10)
def s_hr (g : Nat → Nat) (door w : Nat) : Nat → Bool
  | 0 => false
  | k + 1 => s_hr g door w k || s_hk g door w k
theorem M_isHeard {M : z_M} {g : Nat → Nat} (ht : p_T M 25 0 g) (hv : p_V g) {door w : Nat} (hw : w < g 1) (hd : door < g 0) : F_X7_isHeard (nI w) (nI door) M = some (b1 (s_hr g door w (s_lg g w) = true)) := by
  have hV := hv.1
  have h0 := hv.walker hw
  have hq := hv.lg hw
  have key : ∀ d k n, k + d = s_lg g w → d < n → F_X7_isHeard_b5 M n (nI w) (nI door) (b1 (s_hr g door w k = true)) (nI k) = some (b1 (s_hr g door w (s_lg g w) = true)) := by
    intro d
    induction d with
    | zero =>
      intro k n h1 h2
      obtain ⟨n, rfl⟩ : ∃ k', n = k' + 1 := ⟨n - 1, by omega⟩
      rw [F_X7_isHeard_b5, M_long ht hv hw, Option.bind_some, if_pos (by rw [n_le (by omega) (by omega)]; omega), z_grd_t b1_and, show s_lg g w = k by omega]
    | succ d ih =>
      intro k n h1 h2
      obtain ⟨n, rfl⟩ : ∃ k', n = k' + 1 := ⟨n - 1, by omega⟩
      have hk : k < s_lg g w := by omega
      have hl := s_td_lt hv hw hk
      have hs := s_snd_le (step := g (39 + w)) hv hl
      have yes : s_hr g door w (k + 1) = true → F_X7_isHeard_b62 M (F_X7_isHeard_b5 M n) (nI w) (nI door) (nI k) = some (b1 (s_hr g door w (s_lg g w) = true)) := by
        intro e
        have := ih (k + 1) n (by omega) (by omega)
        rw [b1_t e] at this
        unfold F_X7_isHeard_b62 F_X7_isHeard_b67
        rw [n_1, nI_add]; exact this
      have no : ¬ s_hr g door w (k + 1) = true → F_X7_isHeard_b66 M (F_X7_isHeard_b5 M n) (nI w) (nI door) (nI k) = some (b1 (s_hr g door w (s_lg g w) = true)) := by
        intro e
        have := ih (k + 1) n (by omega) (by omega)
        rw [b1_f e] at this
        unfold F_X7_isHeard_b66 F_X7_isHeard_b67
        rw [n_1, nI_add]; exact this
      rw [F_X7_isHeard_b5, M_long ht hv hw, Option.bind_some, if_neg (by rw [n_le (by omega) (by omega)]; omega), M_td ht hv hw (by omega), Option.bind_some, b1_if]
      by_cases e : s_hr g door w k = true
      · rw [if_pos e]
        exact yes (by show (s_hr g door w k || _) = true; rw [e]; rfl)
      · rw [if_neg e, M_size, Option.bind_some, e_sz_far (by omega) (by omega), z_grd_t (by decide), show (3 : Int32).toNatClampNeg = 3 from rfl, M_st ht (by decide)]
        have hf : q_far (s_td g w k) door < 16 := by unfold q_far; omega
        have u : s_hr g door w (k + 1) = s_hk g door w k := by
          show (s_hr g door w k || s_hk g door w k) = _
          rw [Bool.eq_false_iff.mpr e]; rfl
        rw [u] at yes no
        by_cases n1 : g 3 < q_far (s_td g w k) door
        · rw [if_pos (by rw [n_lt (by omega) (by omega)]; exact n1)]
          refine no (fun h => ?_)
          have := decide_eq_true_eq.mp (Bool.and_eq_true_iff.mp h).1
          omega
        · rw [if_neg (by rw [n_lt (by omega) (by omega)]; exact n1), z_grd_t (by rw [n_39, nI_add, n_in (by omega) (by omega)]; omega), n_39, nI_add, n_cl (by omega), M_st ht (by omega), M_sound ht hv hl (by omega) (by omega), Option.bind_some]
          by_cases h10 : s_snd g (s_td g w k) (g (39 + w)) = 10
          · rw [if_pos h10, if_pos (by decide)]
            refine no (fun h => ?_)
            exact decide_eq_true_eq.mp (Bool.and_eq_true_iff.mp h).2 h10
          · rw [if_neg h10, if_neg (by rw [n_0, n_lt (by omega) (by omega)]; omega)]
            exact yes (Bool.and_eq_true_iff.mpr ⟨decide_eq_true_eq.mpr (by omega), decide_eq_true_eq.mpr h10⟩)
  unfold F_X7_isHeard
  have := key (s_lg g w) 0 z_fuel (by omega) (by unfold z_fuel; omega)
  exact this
/-- f, felt laid on the TREADS of the set m -/
def z_fm (f : Nat → Nat) (m : Nat) : Nat → Nat := fun j => if 5 ≤ j ∧ j < 13 ∧ m / 2 ^ (j - 5) % 2 = 1 then 5 else f j
theorem z_fm_o {f : Nat → Nat} {m j : Nat} (h : ¬ (5 ≤ j ∧ j < 13)) : z_fm f m j = f j := by
  unfold z_fm; rw [if_neg (fun k => h ⟨k.1, k.2.1⟩)]
theorem z_fm_k {f : Nat → Nat} {m t : Nat} (h : t < 8) : z_fm f m (5 + t) = if m / 2 ^ t % 2 = 1 then 5 else f (5 + t) := by
  unfold z_fm
  rw [Nat.add_sub_cancel_left]
  by_cases e : m / 2 ^ t % 2 = 1
  · rw [if_pos e, if_pos ⟨by omega, by omega, e⟩]
  · rw [if_neg e, if_neg (fun k => e k.2.2)]
theorem z_fm_V {f : Nat → Nat} (hv : p_V f) {m : Nat} : p_V (z_fm f m) := by
  have h := hv.1
  refine ⟨?_, fun t ht => ?_, fun w hw => ?_⟩
  · rw [z_fm_o (j := 0) (by omega), z_fm_o (j := 1) (by omega), z_fm_o (j := 2) (by omega), z_fm_o (j := 3) (by omega), z_fm_o (j := 4) (by omega)]; exact h
  · rw [z_fm_o (by omega)] at ht
    have e := hv.2.1 t ht
    rw [z_fm_k (by omega), z_fm_o (j := 13 + t) (by omega), z_fm_o (j := 21 + t) (by omega)]
    refine ⟨?_, ?_, e.2.2⟩
    · split <;> omega
    · split <;> omega
  · rw [z_fm_o (by omega)] at hw
    rw [z_fm_o (j := 0) (by omega), z_fm_o (j := 29 + w) (by omega), z_fm_o (j := 34 + w) (by omega), z_fm_o (j := 39 + w) (by omega), z_fm_o (j := 44 + w) (by omega)]
    exact hv.2.2 w hw
theorem z_fm_lg {f : Nat → Nat} {m w : Nat} : s_lg (z_fm f m) w = s_lg f w := by
  unfold s_lg; rw [z_fm_o (by omega), z_fm_o (by omega), z_fm_o (by omega)]
theorem z_fm_td {f : Nat → Nat} {m w k : Nat} : s_td (z_fm f m) w k = s_td f w k := by
  unfold s_td; rw [z_fm_o (by omega), z_fm_o (by omega), z_fm_o (by omega)]
theorem z_fm_snd {f : Nat → Nat} {m t step : Nat} (h : t < 8) : s_snd (z_fm f m) t step = s_so (if m / 2 ^ t % 2 = 1 then 5 else f (5 + t)) (s_tn f t) step (s_wt f) := by
  unfold s_snd s_tn s_wt
  rw [z_fm_k h, z_fm_o (j := 13 + t) (by omega), z_fm_o (j := 21 + t) (by omega), z_fm_o (j := 2) (by omega), z_fm_o (j := 4) (by omega)]
theorem n_bitA : ((List.range 256).all fun m => (List.range 8).all fun t => decide (((nI m >>> (nI t &&& 31)) &&& 1) = nI (m / 2 ^ t % 2))) = true := by decide +kernel
theorem n_bit {m t : Nat} (hm : m < 256) (ht : t < 8) : ((nI m >>> (nI t &&& 31)) &&& 1) = nI (m / 2 ^ t % 2) :=
  decide_eq_true_eq.mp (List.all_eq_true.mp (List.all_eq_true.mp n_bitA m (List.mem_range.mpr hm)) t (List.mem_range.mpr ht))
theorem n_farA : ∀ a, a < 8 → ∀ b, b < 8 → z_abs (nI a - nI b) = nI (q_far a b) := by decide +kernel
theorem C_isUnheard {M : z_M} {f : Nat → Nat} (hc : p_C M 27 f) (hv : p_V f) {door w m : Nat} (hw : w < f 1) (hd : door < f 0) (hm : m < 256) : F_X3_isUnheard (nI w) (nI door) (nI m) M = some (b1 (¬ s_hr (z_fm f m) door w (s_lg f w) = true)) := by
  have hV := hv.1
  have h0 := hv.walker hw
  have hq := hv.lg hw
  have key : ∀ d k n, k + d = 8 → d < n → (¬ s_hr (z_fm f m) door w (min k (s_lg f w)) = true) → F_X3_isUnheard_b14 M n (nI w) (nI door) (nI m) (nI (f (39 + w))) (nI k) = some (b1 (¬ s_hr (z_fm f m) door w (s_lg f w) = true)) := by
    intro d
    induction d with
    | zero =>
      intro k n h1 h2 hn
      obtain ⟨n, rfl⟩ : ∃ k', n = k' + 1 := ⟨n - 1, by omega⟩
      rw [show min k (s_lg f w) = s_lg f w by omega] at hn
      rw [F_X3_isUnheard_b14, if_pos (by rw [n_8, n_le (by omega) (by omega)]; omega), b1_t hn]
    | succ d ih =>
      intro k n h1 h2 hn
      obtain ⟨n, rfl⟩ : ∃ k', n = k' + 1 := ⟨n - 1, by omega⟩
      have nx : (¬ s_hr (z_fm f m) door w (min (k + 1) (s_lg f w)) = true) → F_X3_isUnheard_b101 M (F_X3_isUnheard_b14 M n) (nI w) (nI door) (nI m) (nI (f (39 + w))) (nI k) = some (b1 (¬ s_hr (z_fm f m) door w (s_lg f w) = true)) := by
        intro h
        unfold F_X3_isUnheard_b101
        rw [n_1, nI_add]
        exact ih (k + 1) n (by omega) (by omega) h
      rw [F_X3_isUnheard_b14, if_neg (by rw [n_8, n_le (by omega) (by omega)]; omega), C_td hc hv hw (by omega), Option.bind_some]
      unfold F_X5_isNear
      by_cases hk : k < s_lg f w
      · have hl := s_td_lt hv hw hk
        have ht := hv.tread hl
        rw [show min k (s_lg f w) = k by omega] at hn
        rw [show min (k + 1) (s_lg f w) = k + 1 by omega] at nx
        have u : s_hr (z_fm f m) door w (k + 1) = s_hk (z_fm f m) door w k := by
          show (s_hr (z_fm f m) door w k || s_hk (z_fm f m) door w k) = _
          rw [Bool.eq_false_iff.mpr hn]; rfl
        rw [u] at nx
        have hs : s_hk (z_fm f m) door w k = (decide (q_far (s_td f w k) door ≤ f 3) && decide (s_so (if m / 2 ^ s_td f w k % 2 = 1 then 5 else f (5 + s_td f w k)) (s_tn f (s_td f w k)) (f (39 + w)) (s_wt f) ≠ 10)) := by
          unfold s_hk
          rw [z_fm_td, z_fm_o (j := 3) (by omega), z_fm_o (j := 39 + w) (by omega), z_fm_snd (by omega)]
        have hf : q_far (s_td f w k) door < 16 := by unfold q_far; omega
        rw [if_pos hk, C_hasTread hc.1.1 (by omega), b1_t (bl_n hl (by omega)), Option.bind_some, if_neg (by decide), C_hasTread hc.1.1 (by omega), b1_t (bl_n hd (by omega)), Option.bind_some, if_neg (by decide), hc.1.2.2.2.1, n_farA _ (by omega) _ (by omega)]
        by_cases n1 : f 3 < q_far (s_td f w k) door
        · rw [if_pos (by rw [n_lt (by omega) (by omega)]; exact n1), Option.bind_some, if_pos rfl]
          refine nx (fun h => ?_)
          rw [hs] at h
          have := decide_eq_true_eq.mp (Bool.and_eq_true_iff.mp h).1
          omega
        · rw [if_neg (by rw [n_lt (by omega) (by omega)]; exact n1), Option.bind_some, if_neg (by decide), n_bit hm (by omega)]
          have go : ∀ kd, kd = (if m / 2 ^ s_td f w k % 2 = 1 then 5 else f (5 + s_td f w k)) → F_X3_isUnheard_b72 M (F_X3_isUnheard_b14 M n) (nI w) (nI door) (nI m) (nI (f (39 + w))) (nI k) (nI (s_td f w k)) (nI kd) = some (b1 (¬ s_hr (z_fm f m) door w (s_lg f w) = true)) := by
            intro kd ek
            have k5 : 1 ≤ kd ∧ kd ≤ 5 := by rw [ek]; constructor <;> split <;> omega
            have ks : s_so kd (s_tn f (s_td f w k)) (f (39 + w)) (s_wt f) ≤ 10 := s_so_le (by have := s_tn10 hv hl; omega)
            unfold F_X3_isUnheard_b72
            rw [C_toneOf hc hv hl, Option.bind_some, C_soundAs hc hv (by omega) (by omega) (s_tn10 hv hl) (by omega) (by omega), Option.bind_some]
            rw [← ek] at hs
            by_cases h10 : s_so kd (s_tn f (s_td f w k)) (f (39 + w)) (s_wt f) = 10
            · rw [h10, if_pos (show nI 10 = 10 from rfl)]
              refine nx (fun h => ?_)
              rw [hs] at h
              exact decide_eq_true_eq.mp (Bool.and_eq_true_iff.mp h).2 h10
            · rw [if_neg (by rw [n_10, n_eq (by omega) (by omega)]; exact h10)]
              have hyes : s_hr (z_fm f m) door w (k + 1) = true := by
                rw [u, hs]; exact Bool.and_eq_true_iff.mpr ⟨decide_eq_true_eq.mpr (by omega), decide_eq_true_eq.mpr h10⟩
              have up : ∀ e, s_hr (z_fm f m) door w (k + 1 + e) = true := by
                intro e
                induction e with
                | zero => exact hyes
                | succ e ih2 => show (s_hr (z_fm f m) door w (k + 1 + e) || _) = true; rw [ih2]; rfl
              have := up (s_lg f w - (k + 1))
              rw [show k + 1 + (s_lg f w - (k + 1)) = s_lg f w by omega] at this
              rw [b1_f (fun h => h this)]
          by_cases eb : m / 2 ^ s_td f w k % 2 = 1
          · rw [eb, if_pos (show nI 1 = 1 from rfl)]
            exact go 5 (if_pos eb).symm
          · rw [if_neg (by rw [n_1, n_eq (by omega) (by omega)]; exact eb), C_kindOf hc hv hl, Option.bind_some]
            exact go _ (if_neg eb).symm
      · rw [if_neg hk, C_hasTread hc.1.1 (by omega), b1_f bl_bad, Option.bind_some, if_pos rfl, Option.bind_some, if_pos rfl]
        exact nx (by rw [show min (k + 1) (s_lg f w) = min k (s_lg f w) by omega]; exact hn)
  unfold F_X3_isUnheard
  rw [(C_partOf hc hv hw).2.1, Option.bind_some]
  exact key 8 0 z_fuel (by omega) (by unfold z_fuel; omega) (by rw [Nat.zero_min]; exact Bool.false_ne_true)
