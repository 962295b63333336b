/-! DOORS: the link of the two searches -/
theorem n_pow_andA : ((List.range 256).all fun m => (List.range 8).all fun t => decide ((2 ^ t &&& m = 0) ↔ ¬ m / 2 ^ t % 2 = 1)) = true := by decide +kernel
theorem n_pow_and {m t : Nat} (hm : m < 256) (ht : t < 8) : (2 ^ t &&& m = 0) ↔ ¬ m / 2 ^ t % 2 = 1 :=
  of_decide_eq_true (List.all_eq_true.mp (List.all_eq_true.mp n_pow_andA m (List.mem_range.mpr hm)) t (List.mem_range.mpr ht))
theorem s_ds_a1 {f : Nat → Nat} {w m : Nat} (hm : m < 256) : ∀ t, t ≤ 8 → ((s_ds f w t &&& m = 0) ↔ s_a1 f m w t = false)
  | 0, _ => ⟨fun _ => rfl, fun _ => Nat.zero_and m⟩
  | t + 1, h8 => by
    have ih := s_ds_a1 (f := f) (w := w) hm t (by omega)
    show (s_ds f w t ||| (if s_dh f w t then 2 ^ t else 0)) &&& m = 0 ↔ (s_a1 f m w t || (decide (m / 2 ^ t % 2 = 1) && s_hr f t w (s_lg f w))) = false
    rw [Nat.and_or_distrib_right, Nat.or_eq_zero_iff, ih, Bool.or_eq_false_iff]
    refine and_congr Iff.rfl ?_
    by_cases h : s_dh f w t
    · rw [if_pos h, n_pow_and hm (by omega), show s_hr f t w (s_lg f w) = true from h, Bool.and_true, decide_eq_false_iff_not]
    · rw [if_neg h, Nat.zero_and, Bool.eq_false_iff.mpr h, Bool.and_false]; simp
