/-! NUMS: small numbers as Int32 -/
abbrev nB (a b : Bool) : Bool := a && b
theorem n_0 : (0 : Int32) = nI 0 := rfl
theorem n_1 : (1 : Int32) = nI 1 := rfl
theorem n_2 : (2 : Int32) = nI 2 := rfl
theorem n_3 : (3 : Int32) = nI 3 := rfl
theorem n_4 : (4 : Int32) = nI 4 := rfl
theorem n_5 : (5 : Int32) = nI 5 := rfl
theorem n_6 : (6 : Int32) = nI 6 := rfl
theorem n_7 : (7 : Int32) = nI 7 := rfl
theorem n_8 : (8 : Int32) = nI 8 := rfl
theorem n_9 : (9 : Int32) = nI 9 := rfl
theorem n_10 : (10 : Int32) = nI 10 := rfl
theorem n_11 : (11 : Int32) = nI 11 := rfl
theorem n_12 : (12 : Int32) = nI 12 := rfl
theorem n_13 : (13 : Int32) = nI 13 := rfl
theorem n_16 : (16 : Int32) = nI 16 := rfl
theorem n_20 : (20 : Int32) = nI 20 := rfl
theorem n_21 : (21 : Int32) = nI 21 := rfl
theorem n_23 : (23 : Int32) = nI 23 := rfl
theorem n_24 : (24 : Int32) = nI 24 := rfl
theorem n_29 : (29 : Int32) = nI 29 := rfl
theorem n_30 : (30 : Int32) = nI 30 := rfl
theorem n_34 : (34 : Int32) = nI 34 := rfl
theorem n_39 : (39 : Int32) = nI 39 := rfl
theorem n_40 : (40 : Int32) = nI 40 := rfl
theorem n_44 : (44 : Int32) = nI 44 := rfl
theorem n_48 : (48 : Int32) = nI 48 := rfl
theorem n_49 : (49 : Int32) = nI 49 := rfl
theorem n_57 : (57 : Int32) = nI 57 := rfl
theorem n_60 : (60 : Int32) = nI 60 := rfl
theorem n_97 : (97 : Int32) = nI 97 := rfl
theorem n_99 : (99 : Int32) = nI 99 := rfl
theorem n_100 : (100 : Int32) = nI 100 := rfl
theorem n_122 : (122 : Int32) = nI 122 := rfl
theorem n_255 : (255 : Int32) = nI 255 := rfl
theorem n_999 : (999 : Int32) = nI 999 := rfl
theorem n_1176 : (1176 : Int32) = nI 1176 := rfl
theorem n_1127 : (1127 : Int32) = nI 1127 := rfl
theorem n_le {a b : Nat} (ha : a < 2 ^ 31) (hb : b < 2 ^ 31) : (nI a ≤ nI b) = (a ≤ b) := propext (nI_leI ha hb)
theorem n_lt {a b : Nat} (ha : a < 2 ^ 31) (hb : b < 2 ^ 31) : (nI a < nI b) = (a < b) := propext (nI_ltI ha hb)
theorem n_eq {a b : Nat} (ha : a < 2 ^ 31) (hb : b < 2 ^ 31) : (nI a = nI b) = (a = b) := propext (nI_eq ha hb)
theorem n_cl {n : Nat} (h : n < 2 ^ 31) : (nI n).toNatClampNeg = n := nI_clamp h
theorem n_in {c N : Nat} (hc : c < 2 ^ 31) (hN : N < 2 ^ 31) : z_in (nI c) N = (c < N) := by
  unfold z_in
  rw [n_0, n_lt hc (by decide), n_cl hc]
  apply propext
  omega
theorem n_neg {a : Nat} {x : Int32} (hx : x < 0) (ha : a < 2 ^ 31) : (nI a = x) = False := by
  apply propext
  constructor
  · intro h
    rw [← h, n_0, n_lt ha (by decide)] at hx
    omega
  · intro h; exact h.elim
theorem n_bad {a : Nat} (ha : a < 2 ^ 31) : (nI a = (-1000000)) = False := n_neg (by decide) ha
theorem n_m1 {a : Nat} (ha : a < 2 ^ 31) : (nI a = (-1)) = False := n_neg (by decide) ha
theorem n_sub {a b : Nat} (h : b ≤ a) : nI a - nI b = nI (a - b) := pk_sub h
theorem n_div {a b : Nat} (ha : a < 2 ^ 31) (h0 : 0 < b) (hb : b < 2 ^ 31) : nI a / nI b = nI (a / b) := pk_div ha h0 hb
theorem n_and1 {x : Nat} (h : x < 2) : nI x &&& nI 1 = nI x := by
  rcases (show x = 0 ∨ x = 1 by omega) with rfl | rfl <;> decide
/-- the sieve of an argument: out of range, or a number below n -/
theorem n_ix (x : Int32) (n : Nat) (hn : n < 2 ^ 31) : (x < 0 ∨ nI n ≤ x) ∨ ∃ j : Nat, j < n ∧ x = nI j := by
  rcases pk_ix x hn with h | h | h
  · exact Or.inl (Or.inl h)
  · exact Or.inl (Or.inr h)
  · exact Or.inr h
theorem z_grd_t {α : Type} {p : Prop} [Decidable p] {x : Option α} (h : p) : z_grd p x = x := if_pos h
theorem z_nmI_e {α : Type} {e : Int32} {f : Int32 → Option α} : z_nmI e f = f e := rfl
theorem z_nmM_e {α : Type} {e : z_M} {f : z_M → Option α} : z_nmM e f = f e := rfl
theorem z_nmL_e {α : Type} {e : Int64} {f : Int64 → Option α} : z_nmL e f = f e := rfl
-- the memory: what is read behind a write
theorem m_gs (M : z_M) (k i j : Nat) (v : Int32) (a b c : Nat) : z_gi (z_si M k i j v) a b c = if a = k ∧ b = i ∧ c = j then v else z_gi M a b c := rfl
theorem m_same (M : z_M) (k i j : Nat) (v : Int32) : z_gi (z_si M k i j v) k i j = v := by simp [m_gs]
theorem m_off (M : z_M) (k i j : Nat) (v : Int32) {a b c : Nat} (h : ¬ (a = k ∧ b = i ∧ c = j)) : z_gi (z_si M k i j v) a b c = z_gi M a b c := by rw [m_gs, if_neg h]
theorem m_gsl (M : z_M) (j : Nat) (v : Int64) (a b c : Nat) : z_gi (z_sl M j v) a b c = z_gi M a b c := rfl
theorem m_gcp (M : z_M) (k i k' i' sp dp n : Nat) (a b c : Nat) : z_gi (z_cp M k i k' i' sp dp n) a b c = if a = k' ∧ b = i' ∧ dp ≤ c ∧ c < dp + n then z_gi M k i (sp + (c - dp)) else z_gi M a b c := rfl
/-- M' is M but in the cells of S -/
def m_of (S : Nat → Nat → Prop) (M M' : z_M) : Prop := ∀ a b, ¬ S a b → ∀ c, z_gi M' a b c = z_gi M a b c
theorem m_of.rf {S : Nat → Nat → Prop} {M : z_M} : m_of S M M := fun _ _ _ _ => rfl
theorem m_of.tr {S : Nat → Nat → Prop} {M M' M'' : z_M} (h : m_of S M M') (h' : m_of S M' M'') : m_of S M M'' := fun a b hs c => (h' a b hs c).trans (h a b hs c)
theorem m_of.si {S : Nat → Nat → Prop} {M M' : z_M} {k i j : Nat} {v : Int32} (h : m_of S M M') (hk : S k i) : m_of S M (z_si M' k i j v) := fun a b hs c => by
  rw [m_off _ _ _ _ _ (fun e => hs (by rw [e.1, e.2.1]; exact hk))]
  exact h a b hs c
theorem m_of.sl {S : Nat → Nat → Prop} {M M' : z_M} {j : Nat} {v : Int64} (h : m_of S M M') : m_of S M (z_sl M' j v) := fun a b hs c => h a b hs c
theorem m_of.mono {S S' : Nat → Nat → Prop} {M M' : z_M} (h : m_of S M M') (hS : ∀ a b, S a b → S' a b) : m_of S' M M' := fun a b hs c => h a b (fun x => hs (hS a b x)) c
