/-! SO: what a row tells is heard so; KINDS, NOTES, parts by it -/
def s_is (g : Nat → Nat) (it : Nat → Int32) (door m : Nat) : Nat → Bool
  | 0 => true
  | k + 1 => s_is g it door m k && decide (it k = nI (s_hd g door (m + k)))
theorem s_is_no {g : Nat → Nat} {it : Nat → Int32} {door m k : Nat} (h : s_is g it door m k = false) : ∀ e, s_is g it door m (k + e) = false
  | 0 => h
  | e + 1 => by show (s_is g it door m (k + e) && _) = false; rw [s_is_no h e]; rfl
theorem C_isHeardSo {M : z_M} {g : Nat → Nat} {it : Nat → Int32} (hc : p_C M 27 g) (hv : p_V g) {door m c : Nat} (hd : door < g 0) (hm : m < 900) (hn : c ≤ 12) (h4 : z_gi M 15 0 4 = nI c) (hi : ∀ k, k < c → z_gi M 16 0 k = it k) : F_X3_isHeardSo (nI door) (nI m) M = some (b1 (s_is g it door m c = true)) := by
  have key : ∀ d k n, k + d = c → d < n → s_is g it door m k = true → F_X3_isHeardSo_b2 M n (nI door) (nI m) (nI k) = some (b1 (s_is g it door m c = true)) := by
    intro d
    induction d with
    | zero =>
      intro k n h1 h2 hf
      obtain ⟨n, rfl⟩ : ∃ k', n = k' + 1 := ⟨n - 1, by omega⟩
      rw [F_X3_isHeardSo_b2, h4, if_pos (by rw [n_le (by omega) (by omega)]; omega), show c = k by omega, b1_t hf]
    | succ d ih =>
      intro k n h1 h2 hf
      obtain ⟨n, rfl⟩ : ∃ k', n = k' + 1 := ⟨n - 1, by omega⟩
      have u : s_is g it door m (k + 1) = decide (it k = nI (s_hd g door (m + k))) := by show (s_is g it door m k && _) = _; rw [hf]; rfl
      rw [F_X3_isHeardSo_b2, h4, if_neg (by rw [n_le (by omega) (by omega)]; omega), if_neg (by rw [n_12, n_le (by omega) (by omega)]; omega), z_grd_t (by rw [n_in (by omega) (by omega)]; omega), nI_add, C_heardAt hc hv hd (by omega), Option.bind_some, n_cl (by omega), hi k (by omega)]
      by_cases h : it k = nI (s_hd g door (m + k))
      · rw [if_pos h, n_1, nI_add]
        exact ih (k + 1) n (by omega) (by omega) (by rw [u]; exact decide_eq_true h)
      · rw [if_neg h]
        have := s_is_no (e := d) (show s_is g it door m (k + 1) = false by rw [u]; exact decide_eq_false h)
        rw [show k + 1 + d = c by omega] at this
        rw [b1_f (by rw [this]; exact Bool.false_ne_true)]
  unfold F_X3_isHeardSo
  exact key c 0 z_fuel (by omega) (by unfold z_fuel; omega) rfl
theorem M_isSo {M : z_M} {g : Nat → Nat} {it : Nat → Int32} (ht : p_T M 25 0 g) (hv : p_V g) {door m c o : Nat} (hd : door < g 0) (hm : m < 900) (hn : c ≤ 12) (ho : o + c ≤ 320) (hi : ∀ k, k < c → z_gi M 24 0 (o + k) = it k) : F_X7_isSo (nI door) (nI m) (nI o) (nI c) M = some (b1 (s_is g it door m c = true)) := by
  have key : ∀ d k n, k + d = c → d < n → F_X7_isSo_b6 M n (nI door) (nI m) (nI o) (nI c) (b1 (s_is g it door m k = true)) (nI k) = some (b1 (s_is g it door m c = true)) := by
    intro d
    induction d with
    | zero =>
      intro k n h1 h2
      obtain ⟨n, rfl⟩ : ∃ k', n = k' + 1 := ⟨n - 1, by omega⟩
      rw [F_X7_isSo_b6, if_pos (by rw [n_le (by omega) (by omega)]; omega), z_grd_t b1_and, show c = k by omega]
    | succ d ih =>
      intro k n h1 h2
      obtain ⟨n, rfl⟩ : ∃ k', n = k' + 1 := ⟨n - 1, by omega⟩
      have i := ih (k + 1) n (by omega) (by omega)
      rw [F_X7_isSo_b6, if_neg (by rw [n_le (by omega) (by omega)]; omega), b1_if]
      unfold F_X7_isSo_b44
      rw [n_1, nI_add, nI_add, nI_add]
      by_cases e : s_is g it door m k = true
      · have u : s_is g it door m (k + 1) = decide (it k = nI (s_hd g door (m + k))) := by show (s_is g it door m k && _) = _; rw [e]; rfl
        rw [u] at i
        rw [if_pos e, z_grd_t (by rw [n_in (by omega) (by omega)]; omega), M_heardAt ht hv hd (by omega), Option.bind_some, n_cl (by omega), hi k (by omega)]
        by_cases h : it k = nI (s_hd g door (m + k))
        · rw [if_pos h]
          rw [b1_t (decide_eq_true h)] at i
          exact i
        · rw [if_neg h]
          rw [b1_f (by rw [decide_eq_false h]; exact Bool.false_ne_true)] at i
          exact i
      · have := s_is_no (Bool.eq_false_iff.mpr e) (d + 1)
        rw [show k + (d + 1) = c by omega] at this
        rw [if_neg e, z_grd_t (show b1 (s_is g it door m k = true) &&& nI 1 = b1 (s_is g it door m k = true) from b1_and), b1_f e, b1_f (by rw [this]; exact Bool.false_ne_true)]
  unfold F_X7_isSo
  have := key c 0 z_fuel (by omega) (by unfold z_fuel; omega)
  exact this
/-- place p of f tried from v on: the set of what fits -/
def q_ft (f : Nat → Nat) (p : Nat) (it : Nat → Int32) (door m c : Nat) : Nat → Nat → Nat → Nat
  | 0, _, acc => acc
  | d + 1, v, acc => q_ft f p it door m c d (v + 1) (acc ||| (if s_is (z_up f p v) it door m c = true then 2 ^ v else 0))
theorem z_up_up {f : Nat → Nat} {p u v : Nat} : z_up (z_up f p u) p v = z_up f p v := by
  funext j
  unfold z_up
  by_cases h : j = p
  · rw [if_pos h, if_pos h]
  · rw [if_neg h, if_neg h, if_neg h]
theorem z_up_id {f : Nat → Nat} {p : Nat} : z_up f p (f p) = f := by
  funext j
  unfold z_up
  by_cases h : j = p
  · rw [if_pos h, h]
  · rw [if_neg h]
def p_up (f : Nat → Nat) (p : Nat) (g : Nat → Nat) : Prop := g 0 = f 0 ∧ g 1 = f 1 ∧ ∀ v, z_up g p v = z_up f p v
theorem p_up.rf {f : Nat → Nat} {p : Nat} : p_up f p f := ⟨rfl, rfl, fun _ => rfl⟩
theorem p_up.up {f : Nat → Nat} {p v : Nat} (hp : 2 ≤ p) : p_up f p (z_up f p v) := ⟨z_up_ne (by omega), z_up_ne (by omega), fun _ => z_up_up⟩
section
variable {f : Nat → Nat} {it : Nat → Int32} {door m c p : Nat}
theorem M_fitsL (hd : door < f 0) (hm : m < 900) (hn : c ≤ 12) {o hi : Nat} (ho : o + c ≤ 320) (hp : 5 ≤ p) (hp2 : p < 49) (hhi : hi < 31) : ∀ d v n acc g (M : z_M), v + d = hi + 1 → (∀ u, v ≤ u → u ≤ hi → p_V (z_up f p u)) → d < n → p_T M 25 0 g → p_up f p g → (∀ k, k < c → z_gi M 24 0 (o + k) = it k) → ∃ M', F_X7_fits_b14 n (nI p) (nI hi) (nI door) (nI m) (nI o) (nI c) (nI (f p)) (nI acc) (nI v) M = some (nI (q_ft f p it door m c d v acc), z_si M' 21 0 3 0) ∧ m_of (fun a _ => a = 25) M M' ∧ p_T M' 25 0 f := by
  intro d
  induction d with
  | zero =>
    intro v n acc g M h1 hV h2 hc hg hit
    obtain ⟨n, rfl⟩ : ∃ k', n = k' + 1 := ⟨n - 1, by omega⟩
    have e := hc.set p (f p)
    rw [hg.2.2, z_up_id] at e
    refine ⟨z_si M 25 0 p (nI (f p)), ?_, m_of.si (S := fun a _ => a = 25) m_of.rf rfl, e⟩
    rw [F_X7_fits_b14, if_pos (by rw [n_lt (by omega) (by omega)]; omega), z_grd_t (by rw [n_in (by omega) (by omega)]; omega), n_cl (by omega)]
    rfl
  | succ d ih =>
    intro v n acc g M h1 hV h2 hc hg hit
    obtain ⟨n, rfl⟩ : ∃ k', n = k' + 1 := ⟨n - 1, by omega⟩
    have e := hc.set p v
    rw [hg.2.2] at e
    have pr : p_up f p (z_up f p v) := p_up.up (by omega)
    have hit' : ∀ k, k < c → z_gi (z_si M 25 0 p (nI v)) 24 0 (o + k) = it k := fun k hk => by rw [m_off _ _ _ _ _ (by omega)]; exact hit k hk
    have so := M_isSo e (hV v (by omega) (by omega)) (door := door) (m := m) (c := c) (o := o) (by rw [pr.1]; exact hd) hm hn ho hit'
    rw [F_X7_fits_b14, if_neg (by rw [n_lt (by omega) (by omega)]; omega), z_grd_t (by rw [n_in (by omega) (by omega)]; omega), n_cl (by omega), so, Option.bind_some, b1_if]
    have st : ∀ x, x = (if s_is (z_up f p v) it door m c = true then 2 ^ v else 0) → ∃ M', F_X7_fits_b53 (F_X7_fits_b14 n) (nI p) (nI hi) (nI door) (nI m) (nI o) (nI c) (nI (f p)) (nI v) (nI x) (nI acc) (z_si M 25 0 p (nI v)) = some (nI (q_ft f p it door m c (d + 1) v acc), z_si M' 21 0 3 0) ∧ m_of (fun a _ => a = 25) M M' ∧ p_T M' 25 0 f := by
      intro x ex
      obtain ⟨M', j1, j2, j3⟩ := ih (v + 1) n (acc ||| x) (z_up f p v) _ (by omega) (fun u h1 h2 => hV u (by omega) h2) (by omega) e pr hit'
      refine ⟨M', ?_, (m_of.si (S := fun a _ => a = 25) m_of.rf rfl).tr j2, j3⟩
      unfold F_X7_fits_b53
      rw [n_or, z_nmI_e, n_1, nI_add]
      refine j1.trans ?_
      rw [ex]; rfl
    by_cases h : s_is (z_up f p v) it door m c = true
    · rw [if_pos h, n_shl _ (by omega)]
      exact st _ (if_pos h).symm
    · rw [if_neg h]
      exact st 0 (if_neg h).symm
theorem M_fits {M : z_M} (ht : p_T M 25 0 f) (hd : door < f 0) (hm : m < 900) (hn : c ≤ 12) {o lo hi : Nat} (ho : o + c ≤ 320) (hp : 5 ≤ p) (hp2 : p < 49) (hhi : hi < 31) (hlo : lo ≤ hi + 1) (hV : ∀ u, lo ≤ u → u ≤ hi → p_V (z_up f p u)) (hi' : ∀ k, k < c → z_gi M 24 0 (o + k) = it k) : ∃ M', F_X7_fits (nI p) (nI lo) (nI hi) (nI door) (nI m) (nI o) (nI c) M = some (nI (q_ft f p it door m c (hi + 1 - lo) lo 0), z_si M' 21 0 3 0) ∧ m_of (fun a _ => a = 25) M M' ∧ p_T M' 25 0 f := by
  obtain ⟨M', j1, j2, j3⟩ := M_fitsL (it := it) (p := p) hd hm hn (hi := hi) ho hp hp2 hhi (hi + 1 - lo) lo z_fuel 0 f M (by omega) hV (by unfold z_fuel; omega) ht p_up.rf hi'
  refine ⟨M', ?_, j2, j3⟩
  unfold F_X7_fits
  rw [z_grd_t (by rw [n_in (by omega) (by omega)]; omega), n_cl (by omega), z_nmI_e, M_st ht (by omega)]
  exact j1
/-- the items told, by the class -/
def p_it (M : z_M) (it : Nat → Int32) (c : Nat) : Prop := z_gi M 15 0 4 = nI c ∧ ∀ k, k < c → z_gi M 16 0 k = it k
theorem C_kindsL {t : Nat} (hf0 : f 0 ≤ 8) (hf1 : f 1 ≤ 5) (ht : t < f 0) (hd : door < f 0) (hm : m < 900) (hn : c ≤ 12) : ∀ d v n acc g (M : z_M), v + d = 6 → (∀ u, v ≤ u → u ≤ 5 → p_V (z_up f (5 + t) u)) → d < n → p_C M 27 g → p_up f (5 + t) g → p_it M it c → ∃ M', F_X3_kindsBy_b6 n (nI t) (nI door) (nI m) (nI acc) (nI v) M = some (nI (q_ft f (5 + t) it door m c d v acc), M') ∧ m_of (p_in 27) M M' := by
  intro d
  induction d with
  | zero =>
    intro v n acc g M h1 hV h2 hc hg hi
    obtain ⟨n, rfl⟩ : ∃ k', n = k' + 1 := ⟨n - 1, by omega⟩
    exact ⟨M, by rw [F_X3_kindsBy_b6, if_pos (by rw [n_5, n_lt (by omega) (by omega)]; omega)]; rfl, m_of.rf⟩
  | succ d ih =>
    intro v n acc g M h1 hV h2 hc hg hi
    obtain ⟨n, rfl⟩ : ∃ k', n = k' + 1 := ⟨n - 1, by omega⟩
    obtain ⟨e1, e2⟩ := C_setKind (v := v) hc (t := t) (by rw [hg.1]; exact ht) (by rw [hg.2.1]; exact hf1) (by rw [hg.1]; exact hf0)
    rw [hg.2.2] at e2
    have pr : p_up f (5 + t) (z_up f (5 + t) v) := p_up.up (by omega)
    have hi' : p_it (z_si M 8 27 t (nI v)) it c := ⟨by rw [m_off _ _ _ _ _ (by omega)]; exact hi.1, fun k hk => by rw [m_off _ _ _ _ _ (by omega)]; exact hi.2 k hk⟩
    have so := C_isHeardSo e2 (hV v (by omega) (by omega)) (door := door) (m := m) (c := c) (by rw [pr.1]; exact hd) hm hn hi'.1 hi'.2
    rw [F_X3_kindsBy_b6, if_neg (by rw [n_5, n_lt (by omega) (by omega)]; omega), e1, Option.bind_some, so, Option.bind_some, b1_if]
    have st : ∀ x, x = (if s_is (z_up f (5 + t) v) it door m c = true then 2 ^ v else 0) → ∃ M', F_X3_kindsBy_b40 (F_X3_kindsBy_b6 n) (nI t) (nI door) (nI m) (nI (acc ||| x)) (nI v) (z_si M 8 27 t (nI v)) = some (nI (q_ft f (5 + t) it door m c (d + 1) v acc), M') ∧ m_of (p_in 27) M M' := by
      intro x ex
      obtain ⟨M', j1, j2⟩ := ih (v + 1) n (acc ||| x) (z_up f (5 + t) v) _ (by omega) (fun u h1 h2 => hV u (by omega) h2) (by omega) e2 pr hi'
      refine ⟨M', ?_, (m_of.si (S := p_in 27) m_of.rf ⟨by decide, by decide, rfl⟩).tr j2⟩
      unfold F_X3_kindsBy_b40
      rw [n_1, nI_add]
      refine j1.trans ?_
      rw [ex]; rfl
    by_cases h : s_is (z_up f (5 + t) v) it door m c = true
    · rw [if_pos h, n_shl _ (by omega), n_or, z_nmI_e]
      exact st _ (if_pos h).symm
    · rw [if_neg h]
      have := st 0 (if_neg h).symm
      rw [Nat.or_zero] at this
      exact this
theorem C_notesL {t : Nat} (hf0 : f 0 ≤ 8) (hf1 : f 1 ≤ 5) (ht : t < f 0) (hd : door < f 0) (hm : m < 900) (hn : c ≤ 12) : ∀ d v n acc g (M : z_M), v + d = 10 → (∀ u, v ≤ u → u ≤ 9 → p_V (z_up f (13 + t) u)) → d < n → p_C M 27 g → p_up f (13 + t) g → p_it M it c → ∃ M', F_X3_notesBy_b6 n (nI t) (nI door) (nI m) (nI acc) (nI v) M = some (nI (q_ft f (13 + t) it door m c d v acc), M') ∧ m_of (p_in 27) M M' := by
  intro d
  induction d with
  | zero =>
    intro v n acc g M h1 hV h2 hc hg hi
    obtain ⟨n, rfl⟩ : ∃ k', n = k' + 1 := ⟨n - 1, by omega⟩
    exact ⟨M, by rw [F_X3_notesBy_b6, if_pos (by rw [n_9, n_lt (by omega) (by omega)]; omega)]; rfl, m_of.rf⟩
  | succ d ih =>
    intro v n acc g M h1 hV h2 hc hg hi
    obtain ⟨n, rfl⟩ : ∃ k', n = k' + 1 := ⟨n - 1, by omega⟩
    obtain ⟨e1, e2⟩ := C_setNote (v := v) hc (t := t) (by rw [hg.1]; exact ht) (by rw [hg.2.1]; exact hf1) (by rw [hg.1]; exact hf0)
    rw [hg.2.2] at e2
    have pr : p_up f (13 + t) (z_up f (13 + t) v) := p_up.up (by omega)
    have hi' : p_it (z_si M 9 27 t (nI v)) it c := ⟨by rw [m_off _ _ _ _ _ (by omega)]; exact hi.1, fun k hk => by rw [m_off _ _ _ _ _ (by omega)]; exact hi.2 k hk⟩
    have so := C_isHeardSo e2 (hV v (by omega) (by omega)) (door := door) (m := m) (c := c) (by rw [pr.1]; exact hd) hm hn hi'.1 hi'.2
    rw [F_X3_notesBy_b6, if_neg (by rw [n_9, n_lt (by omega) (by omega)]; omega), e1, Option.bind_some, so, Option.bind_some, b1_if]
    have st : ∀ x, x = (if s_is (z_up f (13 + t) v) it door m c = true then 2 ^ v else 0) → ∃ M', F_X3_notesBy_b41 (F_X3_notesBy_b6 n) (nI t) (nI door) (nI m) (nI (acc ||| x)) (nI v) (z_si M 9 27 t (nI v)) = some (nI (q_ft f (13 + t) it door m c (d + 1) v acc), M') ∧ m_of (p_in 27) M M' := by
      intro x ex
      obtain ⟨M', j1, j2⟩ := ih (v + 1) n (acc ||| x) (z_up f (13 + t) v) _ (by omega) (fun u h1 h2 => hV u (by omega) h2) (by omega) e2 pr hi'
      refine ⟨M', ?_, (m_of.si (S := p_in 27) m_of.rf ⟨by decide, by decide, rfl⟩).tr j2⟩
      unfold F_X3_notesBy_b41
      rw [n_1, nI_add]
      refine j1.trans ?_
      rw [ex]; rfl
    by_cases h : s_is (z_up f (13 + t) v) it door m c = true
    · rw [if_pos h, n_shl _ (by omega), n_or, z_nmI_e]
      exact st _ (if_pos h).symm
    · rw [if_neg h]
      have := st 0 (if_neg h).symm
      rw [Nat.or_zero] at this
      exact this
def s_plo (k : Nat) : Nat := if k = 2 then 1 else 0
def s_phi (f : Nat → Nat) (k : Nat) : Nat := if k = 2 then 3 else if k = 3 then 20 else f 0 - 1
theorem C_most {M : z_M} {g : Nat → Nat} (hc : p_C M 27 g) {k : Nat} (hk : k < 4) (h0 : 1 ≤ g 0) (h8 : g 0 ≤ 8) : F_X5_mostOf 27 (nI k) M = some (nI (s_phi g k)) := by
  unfold F_X5_mostOf s_phi
  rcases (show k = 0 ∨ k = 1 ∨ k = 2 ∨ k = 3 by omega) with rfl | rfl | rfl | rfl
  · rw [if_neg (by decide), if_neg (by decide), if_neg (by decide), if_neg (by decide), hc.1.1, n_1, n_sub h0]
  · rw [if_neg (by decide), if_neg (by decide), if_neg (by decide), if_neg (by decide), hc.1.1, n_1, n_sub h0]
  · rfl
  · rfl
theorem C_least {M : z_M} {k : Nat} (hk : k < 4) : F_X5_leastOf 27 (nI k) M = some (nI (s_plo k)) := by
  unfold F_X5_leastOf s_plo
  rcases (show k = 0 ∨ k = 1 ∨ k = 2 ∨ k = 3 by omega) with rfl | rfl | rfl | rfl <;> rfl
theorem C_partsL {w k : Nat} (hk : k < 4) (hf : 1 ≤ f 0) (hf0 : f 0 ≤ 8) (hf1 : f 1 ≤ 5) (hw : w < f 1) (hd : door < f 0) (hm : m < 900) (hn : c ≤ 12) : ∀ d v n acc g (M : z_M), v + d = s_phi f k + 1 → (∀ u, v ≤ u → u ≤ s_phi f k → p_V (z_up f (29 + 5 * k + w) u)) → d < n → p_C M 27 g → p_up f (29 + 5 * k + w) g → p_it M it c → ∃ M', F_X3_partsBy_b13 n (nI w) (nI k) (nI door) (nI m) (nI acc) (nI v) M = some (nI (q_ft f (29 + 5 * k + w) it door m c d v acc), M') ∧ m_of (p_in 27) M M' := by
  have hph : s_phi f k ≤ 20 := by unfold s_phi; split <;> try split
                                  all_goals omega
  intro d
  induction d with
  | zero =>
    intro v n acc g M h1 hV h2 hc hg hi
    obtain ⟨n, rfl⟩ : ∃ k', n = k' + 1 := ⟨n - 1, by omega⟩
    have e : s_phi g k = s_phi f k := by unfold s_phi; rw [hg.1]
    exact ⟨M, by rw [F_X3_partsBy_b13, C_most hc hk (by rw [hg.1]; exact hf) (by rw [hg.1]; exact hf0), Option.bind_some, e, if_pos (by rw [n_lt (by omega) (by omega)]; omega)]; rfl, m_of.rf⟩
  | succ d ih =>
    intro v n acc g M h1 hV h2 hc hg hi
    obtain ⟨n, rfl⟩ : ∃ k', n = k' + 1 := ⟨n - 1, by omega⟩
    have e : s_phi g k = s_phi f k := by unfold s_phi; rw [hg.1]
    obtain ⟨e1, e2⟩ := C_setPart (v := v) hc (w := w) (k := k) (by rw [hg.2.1]; exact hw) hk (by rw [hg.2.1]; exact hf1) (by rw [hg.1]; exact hf0)
    rw [hg.2.2] at e2
    have pr : p_up f (29 + 5 * k + w) (z_up f (29 + 5 * k + w) v) := p_up.up (by omega)
    have hi' : p_it (z_si M 11 27 (w * 4 + k) (nI v)) it c := ⟨by rw [m_off _ _ _ _ _ (by omega)]; exact hi.1, fun k hk => by rw [m_off _ _ _ _ _ (by omega)]; exact hi.2 k hk⟩
    have so := C_isHeardSo e2 (hV v (by omega) (by omega)) (door := door) (m := m) (c := c) (by rw [pr.1]; exact hd) hm hn hi'.1 hi'.2
    rw [F_X3_partsBy_b13, C_most hc hk (by rw [hg.1]; exact hf) (by rw [hg.1]; exact hf0), Option.bind_some, e, if_neg (by rw [n_lt (by omega) (by omega)]; omega), e1, Option.bind_some, so, Option.bind_some, b1_if]
    have st : ∀ x, x = (if s_is (z_up f (29 + 5 * k + w) v) it door m c = true then 2 ^ v else 0) → ∃ M', F_X3_partsBy_b56 (F_X3_partsBy_b13 n) (nI w) (nI k) (nI door) (nI m) (nI (acc ||| x)) (nI v) (z_si M 11 27 (w * 4 + k) (nI v)) = some (nI (q_ft f (29 + 5 * k + w) it door m c (d + 1) v acc), M') ∧ m_of (p_in 27) M M' := by
      intro x ex
      obtain ⟨M', j1, j2⟩ := ih (v + 1) n (acc ||| x) (z_up f (29 + 5 * k + w) v) _ (by omega) (fun u h1 h2 => hV u (by omega) h2) (by omega) e2 pr hi'
      refine ⟨M', ?_, (m_of.si (S := p_in 27) m_of.rf ⟨by decide, by decide, rfl⟩).tr j2⟩
      unfold F_X3_partsBy_b56
      rw [n_1, nI_add]
      refine j1.trans ?_
      rw [ex]; rfl
    by_cases h : s_is (z_up f (29 + 5 * k + w) v) it door m c = true
    · rw [if_pos h, n_shl _ (by omega), n_or, z_nmI_e]
      exact st _ (if_pos h).symm
    · rw [if_neg h]
      have := st 0 (if_neg h).symm
      rw [Nat.or_zero] at this
      exact this
end
