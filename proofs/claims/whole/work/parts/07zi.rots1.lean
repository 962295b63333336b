/-! ROTS: longs; sums over sets; products; divisors -/
theorem nL_sub {a b : Nat} (h : b ≤ a) : nL a - nL b = nL (a - b) := lN_sub h
theorem nL_div {a b : Nat} (ha : a < 2 ^ 63) (h0 : 0 < b) (hb : b < 2 ^ 63) : nL a / nL b = nL (a / b) := by
  have hne : nL b ≠ -1 := by
    intro h
    have := congrArg Int64.toInt h
    rw [nL_toInt hb, show (-1 : Int64).toInt = -1 from by decide] at this
    omega
  apply Int64.toInt_inj.mp
  rw [Int64.toInt_div_of_ne_right _ _ hne, nL_toInt ha, nL_toInt hb, nL_toInt (Nat.lt_of_le_of_lt (Nat.div_le_self a b) ha), Int.tdiv_eq_ediv_of_nonneg (by omega)]
  first | rfl | exact (Int.natCast_ediv _ _).symm
theorem nL_rem {a b : Nat} (ha : a < 2 ^ 63) (h0 : 0 < b) (hb : b < 2 ^ 63) : nL a - nL a / nL b * nL b = nL (a % b) := by
  rw [nL_div ha h0 hb, nL_mul, nL_sub (Nat.div_mul_le_self a b)]
  exact congrArg nL (by have := Nat.div_add_mod' a b; omega)
theorem nL_32 (n : Nat) : (nL n).toInt32 = nI n := lN_i n
theorem L_0 : (0 : Int64) = nL 0 := rfl
def q_su (F : Nat → Nat) : Nat → Nat
  | 0 => 0
  | m + 1 => q_su F m + F m
theorem q_su_cg {F G : Nat → Nat} : ∀ n, (∀ m, m < n → F m = G m) → q_su F n = q_su G n
  | 0, _ => rfl
  | n + 1, h => by
    show q_su F n + F n = q_su G n + G n
    rw [q_su_cg n (fun m hm => h m (by omega)), h n (by omega)]
theorem q_su_add2 {F G H : Nat → Nat} (h : ∀ m, H m = F m + G m) : ∀ n, q_su H n = q_su F n + q_su G n
  | 0 => rfl
  | n + 1 => by
    show q_su H n + H n = (q_su F n + F n) + (q_su G n + G n)
    rw [q_su_add2 h n, h n]; omega
theorem q_su_split (F : Nat → Nat) (a : Nat) : ∀ b, q_su F (a + b) = q_su F a + q_su (fun m => F (a + m)) b
  | 0 => rfl
  | b + 1 => by
    show q_su F (a + b) + F (a + b) = q_su F a + (q_su (fun m => F (a + m)) b + F (a + b))
    rw [q_su_split F a b]; omega
theorem q_su_mul (F : Nat → Nat) (c : Nat) : ∀ n, q_su (fun m => F m * c) n = q_su F n * c
  | 0 => (Nat.zero_mul c).symm
  | n + 1 => by
    show q_su (fun m => F m * c) n + F n * c = (q_su F n + F n) * c
    rw [q_su_mul F c n, Nat.add_mul]
theorem q_su_mull (F : Nat → Nat) (c : Nat) : ∀ n, q_su (fun m => c * F m) n = c * q_su F n
  | 0 => (Nat.mul_zero c).symm
  | n + 1 => by
    show q_su (fun m => c * F m) n + c * F n = c * (q_su F n + F n)
    rw [q_su_mull F c n, Nat.mul_add]
def q_pr (G : Nat → Bool → Nat) (m : Nat) : Nat → Nat
  | 0 => 1
  | t + 1 => q_pr G m t * G t (m.testBit t)
def q_pd (D : Nat → Nat) : Nat → Nat
  | 0 => 1
  | t + 1 => q_pd D t * D t
theorem q_pr_cg {G G' : Nat → Bool → Nat} {m m' : Nat} : ∀ n, (∀ t, t < n → G t (m.testBit t) = G' t (m'.testBit t)) → q_pr G m n = q_pr G' m' n
  | 0, _ => rfl
  | n + 1, h => by
    show q_pr G m n * _ = q_pr G' m' n * _
    rw [q_pr_cg n (fun t ht => h t (by omega)), h n (by omega)]
theorem q_pr_z {G : Nat → Bool → Nat} {m t : Nat} (h : G t (m.testBit t) = 0) : ∀ n, t < n → q_pr G m n = 0
  | 0, ht => by omega
  | n + 1, ht => by
    show q_pr G m n * _ = 0
    by_cases e : t = n
    · rw [← e, h, Nat.mul_zero]
    · rw [q_pr_z h n (by omega), Nat.zero_mul]
theorem q_pd_cg {D D' : Nat → Nat} : ∀ n, (∀ t, t < n → D t = D' t) → q_pd D n = q_pd D' n
  | 0, _ => rfl
  | n + 1, h => by
    show q_pd D n * _ = q_pd D' n * _
    rw [q_pd_cg n (fun t ht => h t (by omega)), h n (by omega)]
theorem q_pd_set {D D' : Nat → Nat} {t : Nat} (h : ∀ x, x ≠ t → D' x = D x) : ∀ n, t < n → q_pd D' n * D t = q_pd D n * D' t
  | 0, ht => by omega
  | n + 1, ht => by
    show q_pd D' n * D' n * D t = q_pd D n * D n * D' t
    by_cases e : t = n
    · subst e
      rw [q_pd_cg t (fun x hx => h x (by omega)), Nat.mul_right_comm]
    · rw [Nat.mul_right_comm, q_pd_set h n (by omega), h n (by omega), Nat.mul_right_comm]
theorem q_su_pr (G : Nat → Bool → Nat) : ∀ n, q_su (fun m => q_pr G m n) (2 ^ n) = q_pd (fun t => G t false + G t true) n
  | 0 => rfl
  | n + 1 => by
    have e1 : q_su (fun m => q_pr G m (n + 1)) (2 ^ n) = q_su (fun m => q_pr G m n) (2 ^ n) * G n false := by
      rw [← q_su_mul]
      refine q_su_cg _ (fun m hm => ?_)
      show q_pr G m n * G n (m.testBit n) = _
      rw [Nat.testBit_lt_two_pow hm]
    have e2 : q_su (fun m => q_pr G (2 ^ n + m) (n + 1)) (2 ^ n) = q_su (fun m => q_pr G m n) (2 ^ n) * G n true := by
      rw [← q_su_mul]
      refine q_su_cg _ (fun m hm => ?_)
      show q_pr G (2 ^ n + m) n * G n ((2 ^ n + m).testBit n) = _
      rw [Nat.testBit_two_pow_add_eq, Nat.testBit_lt_two_pow hm, q_pr_cg (G' := G) (m' := m) n (fun t ht => by rw [Nat.testBit_two_pow_add_gt ht])]
      rfl
    rw [Nat.pow_succ, Nat.mul_two, q_su_split, e1, e2, q_su_pr G n, ← Nat.mul_add]
    rfl
-- common divisors
theorem q_gcd_s {a b : Nat} : Nat.gcd a b = Nat.gcd b (a % b) := by
  rw [Nat.gcd_comm a b, Nat.gcd_rec b a, Nat.gcd_comm]
theorem q_gcd_0 {a : Nat} : Nat.gcd a 0 = a := Nat.gcd_zero_right a
theorem q_half {b r : Nat} (h0 : 0 < r) (h : r < b) : 2 * (b % r) < b := by
  by_cases e : 2 * r ≤ b
  · have := Nat.mod_lt b h0
    omega
  · have h1 : b % r = (b - r) % r := Nat.mod_eq_sub_mod (by omega)
    have h2 := Nat.mod_le (b - r) r
    omega
theorem C_gcd1 {M : z_M} {n a b v : Nat} (ha : a < 2 ^ 62) (hb : b < 2 ^ 62) (hv : v < 100) (h0 : 0 < b) : F_X3_commonDivisor_b9 M (n + 1) (nL a) (nL b) (nI v) = F_X3_commonDivisor_b9 M n (nL b) (nL (a % b)) (nI (v + 1)) := by
  have hne : ¬ nL b = 0 := by rw [L_0, nL_eq (by omega) (by omega)]; omega
  rw [F_X3_commonDivisor_b9, if_neg (by rw [n_100, n_le (by omega) (by omega)]; omega), if_neg (by rw [lg_0]; exact hne), z_grd_t hne, nL_rem (by omega) h0 (by omega), n_1, nI_add, z_nmL_e]
theorem C_gcd0 {M : z_M} {n a v : Nat} (hv : v < 100) : F_X3_commonDivisor_b9 M (n + 1) (nL a) (nL 0) (nI v) = some (nL a) := by
  rw [F_X3_commonDivisor_b9, if_neg (by rw [n_100, n_le (by omega) (by omega)]; omega), if_pos (by rw [lg_0]; rfl)]
theorem C_gcd {M : z_M} : ∀ d a b n v, b < 2 ^ d → a < 2 ^ 62 → b < 2 ^ 62 → v + 2 * d < 100 → 2 * d < n → F_X3_commonDivisor_b9 M n (nL a) (nL b) (nI v) = some (nL (Nat.gcd a b)) := by
  intro d
  induction d with
  | zero =>
    intro a b n v h1 h2 h3 h4 h5
    obtain ⟨n, rfl⟩ : ∃ k', n = k' + 1 := ⟨n - 1, by omega⟩
    obtain rfl : b = 0 := by omega
    rw [C_gcd0 (by omega), q_gcd_0]
  | succ d ih =>
    intro a b n v h1 h2 h3 h4 h5
    obtain ⟨n, rfl⟩ : ∃ k', n = k' + 1 := ⟨n - 1, by omega⟩
    by_cases h0 : b = 0
    · subst h0
      rw [C_gcd0 (by omega), q_gcd_0]
    · have hr : a % b < b := Nat.mod_lt a (by omega)
      rw [C_gcd1 h2 h3 (by omega) (by omega), q_gcd_s]
      obtain ⟨n, rfl⟩ : ∃ k', n = k' + 1 := ⟨n - 1, by omega⟩
      generalize a % b = r at *
      by_cases h6 : r = 0
      · subst h6
        rw [C_gcd0 (by omega), q_gcd_0]
      · have hh := q_half (b := b) (r := r) (by omega) hr
        rw [Nat.pow_succ] at h1
        rw [C_gcd1 h3 (by omega) (by omega) (by omega), q_gcd_s]
        exact ih r (b % r) n (v + 1 + 1) (by omega) (by omega) (by omega) (by omega) (by omega)
theorem M_gcd1 {M : z_M} {a4 : Int32} {n T H a b : Nat} (ha : a < 2 ^ 62) (hb : b < 2 ^ 62) (h0 : 0 < b) : F_X7_rots_b280 (n + 1) a4 (nL T) (nL H) (nL a) (nL b) M = F_X7_rots_b280 n a4 (nL T) (nL H) (nL b) (nL (a % b)) M := by
  have hne : ¬ nL b = 0 := by rw [L_0, nL_eq (by omega) (by omega)]; omega
  rw [F_X7_rots_b280, if_neg (by rw [lg_0]; exact hne), z_grd_t hne, nL_rem (by omega) h0 (by omega), z_nmL_e]
theorem M_gcd0 {M : z_M} {a4 : Int32} {n T H a : Nat} (hT : T < 2 ^ 62) (hH : H < 2 ^ 62) (h0 : 0 < a) (ha : a < 2 ^ 62) : F_X7_rots_b280 (n + 1) a4 (nL T) (nL H) (nL a) (nL 0) M = some (if a4 = 0 then nL (H / a) else nL (T / a), M) := by
  have hne : ¬ nL a = 0 := by rw [L_0, nL_eq (by omega) (by omega)]; omega
  rw [F_X7_rots_b280, if_pos (by rw [lg_0]; rfl), z_grd_t hne, z_grd_t hne, nL_div (by omega) h0 (by omega), nL_div (by omega) h0 (by omega)]
  by_cases e : a4 = 0
  · rw [if_pos e, if_pos e]
  · rw [if_neg e, if_neg e]
theorem M_gcd {M : z_M} {a4 : Int32} {T H : Nat} (hT : T < 2 ^ 62) (hH : H < 2 ^ 62) : ∀ d a b n, b < 2 ^ d → a < 2 ^ 62 → b < 2 ^ 62 → 2 * d < n → 0 < Nat.gcd a b → F_X7_rots_b280 n a4 (nL T) (nL H) (nL a) (nL b) M = some (if a4 = 0 then nL (H / Nat.gcd a b) else nL (T / Nat.gcd a b), M) := by
  intro d
  induction d with
  | zero =>
    intro a b n h1 h2 h3 h5 hg
    obtain ⟨n, rfl⟩ : ∃ k', n = k' + 1 := ⟨n - 1, by omega⟩
    obtain rfl : b = 0 := by omega
    rw [q_gcd_0] at *
    rw [M_gcd0 hT hH hg h2]
  | succ d ih =>
    intro a b n h1 h2 h3 h5 hg
    obtain ⟨n, rfl⟩ : ∃ k', n = k' + 1 := ⟨n - 1, by omega⟩
    by_cases h0 : b = 0
    · subst h0
      rw [q_gcd_0] at *
      rw [M_gcd0 hT hH hg h2]
    · have hr : a % b < b := Nat.mod_lt a (by omega)
      rw [M_gcd1 h2 h3 (by omega)]
      rw [q_gcd_s] at hg ⊢
      obtain ⟨n, rfl⟩ : ∃ k', n = k' + 1 := ⟨n - 1, by omega⟩
      generalize a % b = r at *
      by_cases h6 : r = 0
      · subst h6
        rw [q_gcd_0] at *
        rw [M_gcd0 hT hH hg h3]
      · have hh := q_half (b := b) (r := r) (by omega) hr
        rw [Nat.pow_succ] at h1
        rw [M_gcd1 h3 (by omega) (by omega)]
        rw [q_gcd_s] at hg ⊢
        exact ih r (b % r) n (by omega) (by omega) (by omega) (by omega) hg
/-- one fraction, told in two ways -/
theorem q_fr {c l T H : Nat} (hc : 0 < c) (hT : 0 < T) (h : H * c = T * l) : l / Nat.gcd c l = H / Nat.gcd H T ∧ c / Nat.gcd c l = T / Nat.gcd H T := by
  obtain ⟨c', l', hco, e1, e2⟩ := Nat.exists_coprime c l
  have hg : 0 < Nat.gcd c l := Nat.gcd_pos_of_pos_left l hc
  generalize Nat.gcd c l = g at *
  subst e1 e2
  have h1 : H * c' = T * l' := Nat.eq_of_mul_eq_mul_right hg (by rw [Nat.mul_assoc, h, Nat.mul_assoc])
  have hc' : 0 < c' := Nat.pos_of_ne_zero (fun e => by rw [e, Nat.zero_mul] at hc; omega)
  obtain ⟨t, rfl⟩ : c' ∣ T := hco.dvd_of_dvd_mul_right ⟨H, by rw [← h1, Nat.mul_comm]⟩
  have h2 : H = t * l' := Nat.eq_of_mul_eq_mul_right hc' (by rw [h1, Nat.mul_comm c' t, Nat.mul_assoc, Nat.mul_assoc, Nat.mul_comm c' l'])
  subst h2
  have ht : 0 < t := Nat.pos_of_ne_zero (fun e => by rw [e, Nat.mul_zero] at hT; omega)
  have hg2 : Nat.gcd (t * l') (c' * t) = t := by
    rw [Nat.mul_comm c' t, Nat.gcd_mul_left, Nat.gcd_comm, show Nat.gcd c' l' = 1 from hco, Nat.mul_one]
  rw [hg2, Nat.mul_div_cancel l' hg, Nat.mul_div_cancel c' hg, Nat.mul_div_cancel_left l' ht, Nat.mul_div_cancel c' ht]
  exact ⟨rfl, rfl⟩
