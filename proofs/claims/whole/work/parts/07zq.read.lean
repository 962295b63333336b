/-! READ: walkers and treads, in lockstep -/
def s_kd (x : Nat) : Nat := if x = 112 then 1 else if x = 115 then 2 else if x = 108 then 3 else if x = 114 then 4 else if x = 102 then 5 else 0
def s_kb (v : Nat → Nat) (n b : Nat) : Nat := if b < n then s_kd (v b) else 0
theorem s_kd_le {x : Nat} : s_kd x ≤ 5 := by
  unfold s_kd
  repeat' split
  all_goals omega
theorem s_kb_le {v : Nat → Nat} {n b : Nat} : s_kb v n b ≤ 5 := by
  unfold s_kb
  have := s_kd_le (x := v b)
  split <;> omega
theorem s_kd_sg {x : Nat} (h : s_kd x ≠ 0) : s_sg x := by
  unfold s_kd at h
  by_cases h1 : x = 112
  · left; omega
  · rw [if_neg h1] at h
    by_cases h2 : x = 115
    · left; omega
    · rw [if_neg h2] at h
      by_cases h3 : x = 108
      · left; omega
      · rw [if_neg h3] at h
        by_cases h4 : x = 114
        · left; omega
        · rw [if_neg h4] at h
          by_cases h5 : x = 102
          · left; omega
          · rw [if_neg h5] at h; omega
theorem e_kds : ∀ x, x < 256 → F_X2_kindOfSort (nI x) ((fun _ _ _ => 0, fun _ => 0) : z_M) = some (nI (s_kd x)) := by decide +kernel
theorem C_kds {M : z_M} {x : Nat} (h : x < 256) : F_X2_kindOfSort (nI x) M = some (nI (s_kd x)) := e_kds x h
theorem e_kby : ∀ x, x < 256 → F_X7_kindBy (nI x) ((fun _ _ _ => 0, fun _ => 0) : z_M) = some (nI (s_kd x)) := by decide +kernel
theorem M_kby {M : z_M} {x : Nat} (h : x < 256) : F_X7_kindBy (nI x) M = some (nI (s_kd x)) := e_kby x h
abbrev S_t (b' : Nat) (f' : Nat → Nat) (M' : z_M) : Prop := p_V f' ∧ f' 4 = 0 ∧ p_C M' 28 f'
section
variable {v : Nat → Nat} {n : Nat}
theorem C_kb (ho : K_o v n) {M : z_M} (hK : K_c M v n) {b : Nat} (hb : z_gi M 5 0 3 = nI b) (hbn : b ≤ n) : (F_X2_letter M).bind (fun q => F_X2_kindOfSort q M) = some (nI (s_kb v n b)) := by
  rw [C_letter ho hK hb hbn, Option.bind_some]
  unfold s_kb
  by_cases h : b < n
  · rw [if_pos h, if_pos h]
    exact C_kds (by have := ho.2 b h; omega)
  · rw [if_neg h, if_neg h]; rfl
theorem M_b90 (ho : K_o v n) {N : z_M} {b : Nat} (hk : K_k N v n b) (K : Int32 → z_M → Option (Int32 × z_M)) : F_X7_readTown_b90 K N = F_X7_readTown_b109 K (nI (s_kb v n b)) N := by
  have hl := s_ty_le (v := v) (n := n) (b := b)
  unfold F_X7_readTown_b90
  rw [hk.2.1]
  by_cases ty : s_ty v n b = 1
  · obtain ⟨h1, h2⟩ := s_ty1' ty
    rw [if_pos (by rw [ty]; rfl), (hk.2.2.2 ty).1, M_kby (by have := ho.2 b h1; omega), Option.bind_some, show s_kb v n b = s_kd (v b) from if_pos h1]
  · have e : s_kb v n b = 0 := by
      unfold s_kb
      by_cases h : b < n
      · rw [if_pos h]
        exact Classical.byContradiction (fun k => ty (s_ty1 h (s_kd_sg k)))
      · rw [if_neg h]
    rw [if_neg (by rw [n_1, n_eq (by omega) (by omega)]; exact ty), e]; rfl
theorem s_ty3 {b : Nat} : s_ty v n b = 3 ↔ ¬ b < n := by
  unfold s_ty
  by_cases h : b < n
  · rw [if_pos h]
    constructor
    · intro k
      exfalso
      revert k
      repeat' split
      all_goals omega
    · intro k; exact absurd h k
  · rw [if_neg h]; exact ⟨fun _ => h, fun _ => rfl⟩
theorem M_b69 {N : z_M} {b fu : Nat} {f : Nat → Nat} (hk : K_k N v n b) (ht : p_T N 28 0 f) (h5 : f 1 ≤ 5) : (b < n ∨ f 1 = 0 → F_X7_readTown_b69 (fu + 1) 1 N = F_X7_readTown_b90 (F_X7_readTown_b69 fu) N) ∧ (¬ b < n → 1 ≤ f 1 → F_X7_readTown_b69 (fu + 1) 1 N = some (1, N)) := by
  have hl := s_ty_le (v := v) (n := n) (b := b)
  rw [F_X7_readTown_b69, if_neg (show ¬ (1 : Int32) = 0 by decide), hk.2.1, z_grd_t (show z_in 1 49 by decide), show (1 : Int32).toNatClampNeg = 1 from rfl, M_rd ht (by decide), z_grd_t (show (1 : Int32) &&& 1 = 1 by decide)]
  by_cases h : b < n
  · rw [if_neg (by rw [n_3, n_eq (by omega) (by omega)]; exact fun k => s_ty3.mp k h)]
    exact ⟨fun _ => rfl, fun k => absurd h k⟩
  · rw [if_pos (by rw [s_ty3.mpr h]; rfl)]
    by_cases h1 : f 1 = 0
    · rw [if_pos (by rw [h1]; rfl)]
      exact ⟨fun _ => rfl, fun _ k => by omega⟩
    · rw [if_neg (by rw [n_0, n_eq (by omega) (by omega)]; exact h1)]
      exact ⟨fun k => k.elim (fun z => absurd z h) (fun z => absurd z h1), fun _ _ => rfl⟩
theorem M_b69z {N : z_M} {fu : Nat} : F_X7_readTown_b69 (fu + 1) 0 N = some (0, N) := by
  rw [F_X7_readTown_b69, if_pos rfl, z_grd_t (show (0 : Int32) &&& 1 = 0 by decide)]
/-- no tread's letter: a walker, or a fault -/
theorem M_b109z (ho : K_o v n) {N : z_M} {b fu : Nat} (hk : K_k N v n b) : (¬ (b < n ∧ v b = 122) → F_X7_readTown_b109 (F_X7_readTown_b69 (fu + 1)) (nI 0) N = some (0, z_si N 21 0 14 1)) ∧ (b < n ∧ v b = 122 → F_X7_readTown_b109 (F_X7_readTown_b69 (fu + 1)) (nI 0) N = (F_X7_readWalker N).bind fun q => F_X7_readTown_b69 (fu + 1) q.1 q.2) := by
  unfold F_X7_readTown_b109 F_X7_readTown_b143
  rw [if_pos (show nI 0 ≤ 0 by decide), show F_X7_isLetter 122 N = _ from M_isLetter ho hk (s := 122) (by decide), Option.bind_some, b1_if]
  by_cases h : b < n ∧ v b = 122
  · rw [if_pos h]
    exact ⟨fun k => absurd h k, fun _ => rfl⟩
  · rw [if_neg h]
    exact ⟨fun _ => by unfold F_X7_faults; rw [Option.bind_some]; exact M_b69z, fun k => absurd k h⟩
/-- a tread's letter, and no tread may stand there -/
theorem M_b109t {N : z_M} {kd fu x : Nat} {f : Nat → Nat} (ht : p_T N 28 0 f) (h1 : 1 ≤ kd) (h5 : kd ≤ 5) (hx : (1 ≤ f 1 ∧ f 1 ≤ 5 ∧ x = 1) ∨ (f 1 = 0 ∧ f 0 = 8 ∧ x = 3)) : F_X7_readTown_b109 (F_X7_readTown_b69 (fu + 1)) (nI kd) N = some (0, z_si N 21 0 14 (nI x)) := by
  unfold F_X7_readTown_b109 F_X7_readTown_b143 F_X7_readTread F_X7_readTread_b22 F_X7_readTread_b37 F_X7_faults
  rw [if_neg (by rw [n_0, n_le (by omega) (by omega)]; omega), z_grd_t (show z_in 0 49 by decide), z_nmI_e, z_grd_t (show z_in 1 49 by decide)]
  simp only [show (0 : Int32).toNatClampNeg = 0 from rfl, show (1 : Int32).toNatClampNeg = 1 from rfl, M_rd ht (show 0 < 49 by decide), M_rd ht (show 1 < 49 by decide), Option.bind_some]
  rw [z_grd_t (show (0 : Int32) &&& 1 = 0 by decide), z_grd_t (show (0 : Int32) &&& 1 = 0 by decide), z_grd_t (show z_in 1 49 by decide)]
  rcases hx with ⟨e1, e2, e3⟩ | ⟨e1, e2, e3⟩
  · rw [if_pos (show (0 : Int32) < nI (f 1) by rw [n_0, n_lt (by omega) (by omega)]; omega), if_neg (by rw [n_0, n_le (by omega) (by omega)]; omega), Option.bind_some, e3]
    exact M_b69z
  · rw [e1, e2, if_neg (show ¬ (0 : Int32) < nI 0 by decide), if_pos (show nI 8 = 8 from rfl), if_pos (show nI 0 ≤ 0 by decide), Option.bind_some, e3]
    exact M_b69z
/-- no walker may stand there -/
theorem M_rwF {N : z_M} {x : Nat} {f : Nat → Nat} (ht : p_T N 28 0 f) (hx : (1 ≤ f 0 ∧ f 0 ≤ 8 ∧ f 1 = 5 ∧ x = 3) ∨ (f 0 = 0 ∧ x = 1)) : F_X7_readWalker N = some (0, z_si N 21 0 14 (nI x)) := by
  unfold F_X7_readWalker F_X7_readWalker_b25 F_X7_readWalker_b35 F_X7_faults
  rw [z_grd_t (by decide), z_nmI_e, z_grd_t (by decide), z_nmI_e]
  simp only [show (0 : Int32).toNatClampNeg = 0 from rfl, show (1 : Int32).toNatClampNeg = 1 from rfl, M_rd ht (show 0 < 49 by decide), M_rd ht (show 1 < 49 by decide), Option.bind_some]
  rw [z_grd_t (show (0 : Int32) &&& 1 = 0 by decide), z_grd_t (show (0 : Int32) &&& 1 = 0 by decide)]
  rcases hx with ⟨e0, e1, e2, e3⟩ | ⟨e0, e3⟩
  · rw [n_1, n_sub e0, if_neg (by rw [n_0, n_lt (by omega) (by omega)]; omega), e2, if_pos (show nI 5 = 5 from rfl), if_pos (by rw [n_0, n_le (by omega) (by omega)]; omega), e3]; rfl
  · rw [e0, if_pos (show nI 0 - 1 < 0 by decide), if_neg (show ¬ 0 ≤ nI 0 - 1 by decide), e3]; rfl
theorem U_fail {M : z_M} {oc : Option (Int32 × z_M)} {Q : z_M → Prop} {orr : z_M → Option (Int32 × z_M)} {S : Nat → (Nat → Nat) → z_M → Prop} {b x : Nat} (h : oc = some (0, z_si (z_si M 5 0 4 (nI x)) 5 0 5 (nI b))) (hr : ∀ N, Q N → z_gi N 21 0 13 = nI b ∧ orr N = some (0, z_si N 21 0 14 (nI x))) : U_out v n M oc Q orr S :=
  Or.inl ⟨x, b, ⟨_, h, by rw [m_off _ _ _ _ _ (by omega), m_same], m_same _ _ _ _ _, fun a y c k _ => by rw [m_off _ _ _ _ _ (by omega), m_off _ _ _ _ _ (by omega)]⟩, fun N hN => ⟨_, (hr N hN).2, m_same _ _ _ _ _, by rw [m_off _ _ _ _ _ (by omega), (hr N hN).1], fun a y c k _ => m_off _ _ _ _ _ (by omega)⟩⟩
theorem W_step (ho : K_o v n) {w fu fu' : Nat} (hw : w ≤ 5) (IH : w < 5 → ∀ b f (M : z_M), K_c M v n → z_gi M 5 0 3 = nI b → b ≤ n → p_W f → 1 ≤ f 0 → f 1 = w + 1 → p_C M 28 f → U_out v n M (F_X2_readWalkers_b2 fu (nI (w + 1)) M) (Q_k v n b f) (fun N => F_X7_readTown_b69 (fu' + 1) 1 N) S_t) {b : Nat} {f : Nat → Nat} {M : z_M} (hK : K_c M v n) (hb : z_gi M 5 0 3 = nI b) (hbn : b ≤ n) (hW : p_W f) (h0 : 1 ≤ f 0) (h1 : f 1 = w) (hc : p_C M 28 f) (hkb : w = 0 → s_kb v n b = 0) : U_out v n M (F_X2_readWalkers_b2 (fu + 1) (nI w) M) (Q_k v n b f) (fun N => F_X7_readTown_b69 (fu' + 1 + 1) 1 N) S_t := by
  have hn := ho.1
  have hW1 := hW.1
  by_cases hA : 1 ≤ w ∧ ¬ b < n
  · refine Or.inr ⟨b, f, ⟨M, ?_, ⟨hW.V h0 (by omega), hW1.2.2.2.2, hc⟩, rfl, fun a x c _ _ => rfl⟩, fun N hN => ⟨N, (M_b69 hN.2.1 hN.2.2 (by omega)).2 hA.2 (by omega), hN.2.1, hN.2.2, fun a x c _ _ => rfl⟩⟩
    rw [F_X2_readWalkers_b2, if_neg (by rw [n_5, n_lt (by omega) (by omega)]; omega), if_neg (by rw [n_0, n_le (by omega) (by omega)]; omega), hb, hK.1, if_neg (by rw [n_lt (by omega) (by omega)]; omega)]
  · have e1 : F_X2_readWalkers_b2 (fu + 1) (nI w) M = F_X2_readWalkers_b24 (F_X2_readWalkers_b2 fu) (nI w) M := by
      rw [F_X2_readWalkers_b2, if_neg (by rw [n_5, n_lt (by omega) (by omega)]; omega)]
      by_cases hw0 : w = 0
      · rw [if_pos (by rw [hw0]; decide)]
      · rw [if_neg (by rw [n_0, n_le (by omega) (by omega)]; omega), hb, hK.1, if_pos (by rw [n_lt (by omega) (by omega)]; omega)]
    have er : ∀ N, Q_k v n b f N → F_X7_readTown_b69 (fu' + 1 + 1) 1 N = F_X7_readTown_b109 (F_X7_readTown_b69 (fu' + 1)) (nI (s_kb v n b)) N := fun N hN => ((M_b69 hN.2.1 hN.2.2 (by omega)).1 (by omega)).trans (M_b90 ho hN.2.1 _)
    by_cases hz : b < n ∧ v b = 122
    · have hk0 : s_kb v n b = 0 := by unfold s_kb; rw [if_pos hz.1, hz.2]; rfl
      by_cases hw5 : w = 5
      · refine U_fail (b := b) (x := 3) ?_ (fun N hN => ⟨hN.2.1.1, ?_⟩)
        · rw [e1]
          unfold F_X2_readWalkers_b24
          rw [C_letter ho hK hb hbn, Option.bind_some, if_pos hz.1, hz.2, if_pos (show nI 122 = 122 from rfl), hw5, if_pos (show nI 5 = 5 from rfl), C_fail hb, Option.bind_some, z_grd_t (show (0 : Int32) &&& 1 = 0 from by decide)]; rfl
        · show F_X7_readTown_b69 (fu' + 1 + 1) 1 N = _
          rw [er N hN, hk0, (M_b109z ho hN.2.1).2 hz, M_rwF hN.2.2 (x := 3) (Or.inl ⟨h0, hW1.1, by omega, rfl⟩), Option.bind_some]
          exact M_b69z
      · have wo := W_one ho hK hb hz.1 hz.2 hW h0 h1 (by omega) hc
        have ec : F_X2_readWalkers_b2 (fu + 1) (nI w) M = (F_X2_readWalker (nI w) (z_si M 5 0 3 ((z_gi M 5 0 3) + 1))).bind fun q7 => if q7.1 = 0 then some (0, q7.2) else F_X2_readWalkers_b2 fu (nI w + 1) q7.2 := by
          rw [e1]
          unfold F_X2_readWalkers_b24
          rw [C_letter ho hK hb hbn, Option.bind_some, if_pos hz.1, hz.2, if_pos (show nI 122 = 122 from rfl), if_neg (by rw [n_5, n_eq (by omega) (by omega)]; exact hw5)]
        have er2 : ∀ N, Q_k v n b f N → F_X7_readTown_b69 (fu' + 1 + 1) 1 N = (F_X7_readWalker N).bind fun q => F_X7_readTown_b69 (fu' + 1) q.1 q.2 := fun N hN => by
          rw [er N hN, hk0, (M_b109z ho hN.2.1).2 hz]
        rcases wo with ⟨x, p, ⟨M', i1, i2, i3, i4⟩, j⟩ | ⟨b', f', ⟨M', i1, ⟨s1, s2, s3, s4, s5⟩, i3, i4⟩, j⟩
        · refine Or.inl ⟨x, p, ⟨M', by rw [ec, i1, Option.bind_some, if_pos rfl], i2, i3, i4⟩, fun N hN => ?_⟩
          obtain ⟨N', l1, l2, l3, l4⟩ := j N hN
          exact ⟨N', by show F_X7_readTown_b69 (fu' + 1 + 1) 1 N = _; rw [er2 N hN, l1, Option.bind_some]; exact M_b69z, l2, l3, l4⟩
        · have u := IH (by omega) b' f' M' (hK.fr i4) s4 s1 s2.W (by rw [s3]; exact h0) s2.1.2.2.1 (s5.C s2.1.2.2.1)
          refine u.step (by rw [ec, i1, Option.bind_some, if_neg (show ¬ (1 : Int32) = 0 by decide), n_1, nI_add]) i4 i3 (fun N hN => ?_)
          obtain ⟨N', l1, l2, l3, l4⟩ := j N hN
          exact ⟨N', ⟨hN.1.rp l4, l2, l3⟩, by show F_X7_readTown_b69 (fu' + 1 + 1) 1 N = _; rw [er2 N hN, l1, Option.bind_some], l4⟩
    · refine U_fail (b := b) (x := 1) ?_ (fun N hN => ⟨hN.2.1.1, ?_⟩)
      · rw [e1]
        unfold F_X2_readWalkers_b24
        rw [C_letter ho hK hb hbn, Option.bind_some, if_neg, C_fail hb, Option.bind_some, z_grd_t (show (0 : Int32) &&& 1 = 0 from by decide)]
        · rfl
        · by_cases h : b < n
          · have := ho.2 b h
            rw [if_pos h, n_122, n_eq (by omega) (by omega)]
            exact fun k => hz ⟨h, k⟩
          · rw [if_neg h]; decide
      · show F_X7_readTown_b69 (fu' + 1 + 1) 1 N = _
        rw [er N hN]
        by_cases hk0 : s_kb v n b = 0
        · rw [hk0]; exact (M_b109z ho hN.2.1).1 hz
        · have := s_kb_le (v := v) (n := n) (b := b)
          exact M_b109t hN.2.2 (by omega) this (Or.inl ⟨by omega, by omega, rfl⟩)
theorem W_all (ho : K_o v n) : ∀ d w fu fu' b f (M : z_M), w + d = 5 → d < fu → d + 1 < fu' → K_c M v n → z_gi M 5 0 3 = nI b → b ≤ n → p_W f → 1 ≤ f 0 → f 1 = w → p_C M 28 f → (w = 0 → s_kb v n b = 0) → U_out v n M (F_X2_readWalkers_b2 fu (nI w) M) (Q_k v n b f) (fun N => F_X7_readTown_b69 fu' 1 N) S_t := by
  intro d
  induction d with
  | zero =>
    intro w fu fu' b f M h1 h2 h3 hK hb hbn hW h0 hf1 hc hkb
    obtain ⟨fu, rfl⟩ : ∃ k', fu = k' + 1 := ⟨fu - 1, by omega⟩
    obtain ⟨fu', rfl⟩ : ∃ k', fu' = k' + 1 + 1 := ⟨fu' - 2, by omega⟩
    exact W_step ho (by omega) (fun k => by omega) hK hb hbn hW h0 hf1 hc hkb
  | succ d ih =>
    intro w fu fu' b f M h1 h2 h3 hK hb hbn hW h0 hf1 hc hkb
    obtain ⟨fu, rfl⟩ : ∃ k', fu = k' + 1 := ⟨fu - 1, by omega⟩
    obtain ⟨fu', rfl⟩ : ∃ k', fu' = k' + 1 + 1 := ⟨fu' - 2, by omega⟩
    exact W_step ho (by omega) (fun k b f M g1 g2 g3 g4 g5 g6 g7 => ih (w + 1) fu (fu' + 1) b f M (by omega) (by omega) (by omega) g1 g2 g3 g4 g5 g6 g7 (fun z => by omega)) hK hb hbn hW h0 hf1 hc hkb
/-- treads, then walkers, by the class -/
def c_tw (o : Option (Int32 × z_M)) : Option (Int32 × z_M) := o.bind fun q5 => if q5.1 = 0 then some (0, q5.2) else F_X2_readWalkers q5.2
theorem c_tw0 {M' : z_M} : c_tw (some (0, M')) = some (0, M') := rfl
theorem C_addTread {M : z_M} {t kd x : Nat} (h : z_gi M 7 28 4 = nI t) (ht : t < 8) : F_X5_addTread 28 (nI kd) (nI x) M = some (z_si (z_si (z_si (z_si M 8 28 t (nI kd)) 9 28 t (nI x)) 10 28 t 0) 7 28 4 (nI (t + 1))) := by
  unfold F_X5_addTread
  have hz : z_in (nI t) 8 := by rw [n_in (by omega) (by omega)]; exact ht
  simp only [h, n_cl (show t < 2 ^ 31 by omega), z_grd_t hz, z_nmM_e]
  rw [if_neg (by rw [n_0, n_lt (by omega) (by omega)]; omega), if_pos (by rw [n_8, n_lt (by omega) (by omega)]; exact ht)]
  simp (disch := omega) only [m_off, h, n_cl (show t < 2 ^ 31 by omega), z_grd_t hz]
  rw [n_1, nI_add]
theorem T_step (ho : K_o v n) {t fu fu' : Nat} (ht : t ≤ 8) (hfu' : 6 < fu') (IH : t < 8 → ∀ b f (M : z_M), K_c M v n → z_gi M 5 0 3 = nI b → b ≤ n → p_W f → f 0 = t + 1 → f 1 = 0 → p_C M 28 f → U_out v n M (c_tw (F_X2_readTreads_b2 fu (nI (t + 1)) M)) (Q_k v n b f) (fun N => F_X7_readTown_b69 (fu' + 1) 1 N) S_t) {b : Nat} {f : Nat → Nat} {M : z_M} (hK : K_c M v n) (hb : z_gi M 5 0 3 = nI b) (hbn : b ≤ n) (hW : p_W f) (h0 : f 0 = t) (h1 : f 1 = 0) (hc : p_C M 28 f) : U_out v n M (c_tw (F_X2_readTreads_b2 (fu + 1) (nI t) M)) (Q_k v n b f) (fun N => F_X7_readTown_b69 (fu' + 1 + 1) 1 N) S_t := by
  have hn := ho.1
  have hW1 := hW.1
  have hkl := s_kb_le (v := v) (n := n) (b := b)
  have er : ∀ N, Q_k v n b f N → F_X7_readTown_b69 (fu' + 1 + 1) 1 N = F_X7_readTown_b109 (F_X7_readTown_b69 (fu' + 1)) (nI (s_kb v n b)) N := fun N hN => ((M_b69 hN.2.1 hN.2.2 (by omega)).1 (Or.inr h1)).trans (M_b90 ho hN.2.1 _)
  obtain ⟨A, hA⟩ : ∃ A : Int32 → Option (Int32 × z_M), A = fun q4 => if q4 = 0 then (if 0 < nI t then F_X2_readTreads_b32 M else (F_X2_fail (1 : Int32) M).bind fun q20 => if q20.1 = 0 then some (0, q20.2) else F_X2_readTreads_b32 q20.2) else (if nI t = (8 : Int32) then (F_X2_fail (3 : Int32) M).bind fun q16 => z_grd (q16.1 &&& 1 = q16.1) (some (q16.1, q16.2)) else (F_X2_readNumber (0 : Int32) (9 : Int32) (z_si M 5 0 3 ((z_gi M 5 0 3) + 1))).bind fun q8 => if q8.1 = ((-1) : Int32) then some (0, q8.2) else (F_X2_readSign (59 : Int32) q8.2).bind fun q11 => if q11.1 = 0 then some (0, q11.2) else (F_X5_addTread 28 q4 q8.1 q11.2).bind fun q14 => F_X2_readTreads_b2 fu (nI t + 1) q14) := ⟨_, rfl⟩
  have ec : F_X2_readTreads_b2 (fu + 1) (nI t) M = A (nI (s_kb v n b)) := by
    have hcb := C_kb ho hK hb hbn
    rw [F_X2_readTreads_b2, if_neg (by rw [n_8, n_lt (by omega) (by omega)]; omega)]
    rw [C_letter ho hK hb hbn, Option.bind_some] at hcb ⊢
    rw [hcb, Option.bind_some, hA]
  by_cases hk0 : s_kb v n b = 0
  · by_cases ht0 : t = 0
    · refine U_fail (b := b) (x := 1) ?_ (fun N hN => ⟨hN.2.1.1, ?_⟩)
      · rw [ec, hk0, hA, ht0]
        show c_tw (if nI 0 = 0 then (if 0 < nI 0 then _ else _) else _) = _
        rw [if_pos (show nI 0 = 0 from rfl), if_neg (show ¬ 0 < nI 0 by decide), C_fail hb, Option.bind_some, if_pos rfl]
        exact c_tw0
      · show F_X7_readTown_b69 (fu' + 1 + 1) 1 N = _
        rw [er N hN, hk0]
        by_cases hz : b < n ∧ v b = 122
        · rw [(M_b109z ho hN.2.1).2 hz, M_rwF hN.2.2 (x := 1) (Or.inr ⟨by omega, rfl⟩), Option.bind_some]
          exact M_b69z
        · exact (M_b109z ho hN.2.1).1 hz
    · have u := W_all ho 5 0 z_fuel (fu' + 1 + 1) b f M (by omega) (by unfold z_fuel; omega) (by omega) hK hb hbn hW (by omega) h1 hc (fun _ => hk0)
      refine u.step ?_ (fun a x c _ _ => rfl) rfl (fun N hN => ⟨N, hN, rfl, fun a x c _ _ => rfl⟩)
      rw [ec, hk0, hA]
      show c_tw (if nI 0 = 0 then (if 0 < nI t then _ else _) else _) = _
      rw [if_pos (show nI 0 = 0 from rfl), if_pos (show 0 < nI t by rw [n_0, n_lt (by omega) (by omega)]; omega)]
      rfl
  · have hbl : b < n := Classical.byContradiction (fun k => hk0 (if_neg k))
    have ekb : s_kb v n b = s_kd (v b) := if_pos hbl
    have ty : s_ty v n b = 1 := s_ty1 hbl (s_kd_sg (by rw [← ekb]; exact hk0))
    generalize hkd : s_kb v n b = kd at *
    have hne : ¬ nI kd = 0 := by rw [n_0, n_eq (by omega) (by omega)]; exact hk0
    by_cases ht8 : t = 8
    · refine U_fail (b := b) (x := 3) ?_ (fun N hN => ⟨hN.2.1.1, ?_⟩)
      · rw [ec, hA]
        show c_tw (if nI kd = 0 then _ else (if nI t = 8 then _ else _)) = _
        rw [if_neg hne, if_pos (show nI t = 8 by rw [ht8]; rfl), C_fail hb, Option.bind_some, z_grd_t (show (0 : Int32) &&& 1 = 0 from by decide)]
        exact c_tw0
      · show F_X7_readTown_b69 (fu' + 1 + 1) 1 N = _
        rw [er N hN]
        exact M_b109t hN.2.2 (by omega) hkl (Or.inr ⟨h1, by omega, rfl⟩)
    · obtain ⟨M0, hM0⟩ : ∃ M0, M0 = z_si M 5 0 3 (nI (b + 1)) := ⟨_, rfl⟩
      have f0 : ∀ a x c, ¬ (a = 5 ∧ c = 3) → z_gi M0 a x c = z_gi M a x c := fun a x c h => by rw [hM0, m_off _ _ _ _ _ (by omega)]
      obtain ⟨G, hG⟩ : ∃ G : Int32 → z_M → Option (Int32 × z_M), G = fun x q => (F_X5_addTread 28 (nI kd) x q).bind fun q14 => F_X2_readTreads_b2 fu (nI t + 1) q14 := ⟨_, rfl⟩
      have e : F_X2_readTreads_b2 (fu + 1) (nI t) M = ((F_X2_readNumber (nI 0) (nI 9) M0).bind fun q4 => if q4.1 = ((-1) : Int32) then some (0, q4.2) else (F_X2_readSign (nI 59) q4.2).bind fun q7 => if q7.1 = 0 then some (0, q7.2) else G q4.1 q7.2) := by
        rw [ec, hA, hG, hM0]
        show (if nI kd = 0 then _ else (if nI t = 8 then _ else _)) = _
        rw [if_neg hne, if_neg (by rw [n_8, n_eq (by omega) (by omega)]; exact ht8), hb, n_1, nI_add]
        rfl
      have hK0 : K_c M0 v n := hK.fr (fun a x c h _ => f0 a x c (by omega))
      have hb0 : z_gi M0 5 0 3 = nI (b + 1) := by rw [hM0, m_same]
      obtain ⟨ct, cf⟩ := C_tn ho hK0 (b := b + 1) (lo := 0) (hi := 9) (s := 59) hb0 (by omega) (by omega) (by omega) (by omega) G
      -- what the reference does ahead of the number
      have rr : ∀ N, Q_k v n b f N → ∃ N1, K_r N1 v n ∧ K_k N1 v n (b + 1) ∧ p_T N1 28 0 (z_up (z_up f (5 + t) kd) 0 (t + 1)) ∧ m_rp N N1 ∧ F_X7_readTown_b69 (fu' + 1 + 1) 1 N = (F_X7_takesNumber (nI 0) (nI 9) (nI (13 + t)) (nI 59) N1).bind fun q => (z_grd (q.1 &&& 1 = q.1) (some (q.1, q.2))).bind fun q25 => F_X7_readTown_b69 (fu' + 1) q25.1 q25.2 := fun N hN => by
        obtain ⟨N0, k1, k2, k3⟩ := M_next ho hN.1 (hN.2.1.2.2.2 ty).2 (show b + 1 ≤ n by omega)
        have t1 : p_T N0 28 0 f := hN.2.2.fr (fun c => k3 28 0 c (by omega))
        have hr : m_rp N (z_si (z_si N0 28 0 (5 + t) (nI kd)) 28 0 0 (nI (t + 1))) := fun a x c h h2 => by rw [m_off _ _ _ _ _ (by omega), m_off _ _ _ _ _ (by omega), k3 a x c (by omega)]
        refine ⟨z_si (z_si N0 28 0 (5 + t) (nI kd)) 28 0 0 (nI (t + 1)), hN.1.rp hr, ?_, (t1.set28 _ _).set28 _ _, hr, ?_⟩
        · obtain ⟨a1, a2, a3, a4⟩ := k2
          exact ⟨by rw [m_off _ _ _ _ _ (by omega), m_off _ _ _ _ _ (by omega), a1], by rw [m_off _ _ _ _ _ (by omega), m_off _ _ _ _ _ (by omega), a2], fun h => by rw [m_off _ _ _ _ _ (by omega), m_off _ _ _ _ _ (by omega), m_off _ _ _ _ _ (by omega), m_off _ _ _ _ _ (by omega)]; exact a3 h, fun h => by rw [m_off _ _ _ _ _ (by omega), m_off _ _ _ _ _ (by omega), m_off _ _ _ _ _ (by omega), m_off _ _ _ _ _ (by omega)]; exact a4 h⟩
        · rw [er N hN]
          unfold F_X7_readTown_b109 F_X7_readTown_b143 F_X7_readTread
          rw [if_neg (by rw [n_0, n_le (by omega) (by omega)]; omega), z_grd_t (show z_in 0 49 by decide), z_nmI_e, z_grd_t (show z_in 1 49 by decide)]
          simp only [show (0 : Int32).toNatClampNeg = 0 from rfl, show (1 : Int32).toNatClampNeg = 1 from rfl, M_rd hN.2.2 (show 0 < 49 by decide), M_rd hN.2.2 (show 1 < 49 by decide), h0, h1]
          have hz : z_in (nI (5 + t)) 49 := by rw [n_in (by omega) (by omega)]; omega
          rw [if_neg (show ¬ (0 : Int32) < nI 0 by decide), if_neg (by rw [n_8, n_eq (by omega) (by omega)]; exact ht8), k1, Option.bind_some, n_5, n_13, nI_add, nI_add]
          simp only [z_grd_t hz, n_cl (show 5 + t < 2 ^ 31 by omega), z_nmM_e, z_grd_t (show z_in 0 49 by decide)]
          rw [m_off _ _ _ _ _ (by omega), M_rd t1 (by decide), h0, n_1, nI_add]
          exact Option.bind_assoc _ _ _
      by_cases ok : s_nok v n (b + 1) 0 9 59
      · have hvl := s_vl_le ho (s_ty2 ok.1)
        obtain ⟨M1, hM1⟩ : ∃ M1, M1 = z_si (z_si M0 5 0 3 (nI (s_ne v n (b + 1)))) 5 0 3 (nI (s_ne v n (b + 1) + 1)) := ⟨_, rfl⟩
        have ct' := ct ok
        rw [← hM1] at ct'
        have f1 : ∀ a x c, ¬ (a = 5 ∧ c = 3) → z_gi M1 a x c = z_gi M a x c := fun a x c h => by rw [hM1, m_off _ _ _ _ _ (by omega), m_off _ _ _ _ _ (by omega), f0 _ _ _ h]
        have g3 : z_gi M1 5 0 3 = nI (s_ne v n (b + 1) + 1) := by rw [hM1, m_same]
        obtain ⟨M2, hM2⟩ : ∃ M2, M2 = z_si (z_si (z_si (z_si M1 8 28 t (nI kd)) 9 28 t (nI (s_vl v n (b + 1)))) 10 28 t 0) 7 28 4 (nI (t + 1)) := ⟨_, rfl⟩
        have eG : G (nI (s_vl v n (b + 1))) M1 = F_X2_readTreads_b2 fu (nI (t + 1)) M2 := by
          rw [hG]
          show (F_X5_addTread 28 (nI kd) (nI (s_vl v n (b + 1))) M1).bind _ = _
          rw [C_addTread (t := t) (by rw [f1 _ _ _ (by omega), hc.1.1, h0]) (by omega), Option.bind_some, n_1, nI_add, ← hM2]
        have f2 : ∀ a x c, ¬ (7 ≤ a ∧ a ≤ 11 ∧ x = 28) → ¬ (a = 5 ∧ c = 3) → z_gi M2 a x c = z_gi M a x c := fun a x c h h2 => by rw [hM2, m_off _ _ _ _ _ (by omega), m_off _ _ _ _ _ (by omega), m_off _ _ _ _ _ (by omega), m_off _ _ _ _ _ (by omega), f1 _ _ _ h2]
        have hm : m_cp M M2 := fun a x c h h2 => f2 a x c (by omega) (by omega)
        obtain ⟨f', hf'⟩ : ∃ f', f' = z_up (z_up (z_up f (5 + t) kd) 0 (t + 1)) (13 + t) (s_vl v n (b + 1)) := ⟨_, rfl⟩
        have u0 : f' 0 = t + 1 := by rw [hf', z_up_ne (by omega), z_up_eq]
        have ux : ∀ j, j ≠ 0 → j ≠ 5 + t → j ≠ 13 + t → f' j = f j := fun j q1 q2 q3 => by rw [hf', z_up_ne q3, z_up_ne q1, z_up_ne q2]
        have u5 : f' (5 + t) = kd := by rw [hf', z_up_ne (by omega), z_up_ne (by omega), z_up_eq]
        have u13 : f' (13 + t) = s_vl v n (b + 1) := by rw [hf', z_up_eq]
        have hW' : p_W f' := by
          obtain ⟨_, w5, w6, w7⟩ := hW
          refine ⟨?_, fun x hx => ?_, fun x hx => ?_, fun x hx => ?_⟩
          · rw [u0, ux 1 (by omega) (by omega) (by omega), ux 2 (by omega) (by omega) (by omega), ux 3 (by omega) (by omega) (by omega), ux 4 (by omega) (by omega) (by omega)]
            omega
          · by_cases ex : x = t
            · subst ex
              rw [u5, u13]
              have := ok.2.1
              omega
            · rw [ux _ (by omega) (by omega) (by omega), ux _ (by omega) (by omega) (by omega)]
              exact w5 x (by omega)
          · rw [ux _ (by omega) (by omega) (by omega)]; exact w6 x hx
          · rw [ux 1 (by omega) (by omega) (by omega), h1] at hx
            omega
        have hc' : p_C M2 28 f' := by
          obtain ⟨⟨c0, c1, c2, c3, c4⟩, c5, c6⟩ := hc
          have q7 : ∀ c, c ≠ 4 → z_gi M2 7 28 c = z_gi M 7 28 c := fun c h => by rw [hM2, m_off _ _ _ _ _ (by omega), m_off _ _ _ _ _ (by omega), m_off _ _ _ _ _ (by omega), m_off _ _ _ _ _ (by omega), f1 _ _ _ (by omega)]
          refine ⟨⟨?_, ?_, ?_, ?_, ?_⟩, fun x hx => ?_, fun x hx => ?_⟩
          · rw [hM2, m_same, u0]
          · rw [q7 _ (by omega), ux _ (by omega) (by omega) (by omega), c1]
          · rw [q7 _ (by omega), ux _ (by omega) (by omega) (by omega), c2]
          · rw [q7 _ (by omega), ux _ (by omega) (by omega) (by omega), c3]
          · rw [q7 _ (by omega), ux _ (by omega) (by omega) (by omega), c4]
          · by_cases ex : x = t
            · subst ex
              have w6 := hW.2.2.1 x (by omega)
              refine ⟨?_, ?_, ?_⟩
              · rw [hM2, m_off _ _ _ _ _ (by omega), m_off _ _ _ _ _ (by omega), m_off _ _ _ _ _ (by omega), m_same, u5]
              · rw [hM2, m_off _ _ _ _ _ (by omega), m_off _ _ _ _ _ (by omega), m_same, u13]
              · rw [hM2, m_off _ _ _ _ _ (by omega), m_same, ux _ (by omega) (by omega) (by omega), w6]; rfl
            · obtain ⟨d1, d2, d3⟩ := c5 x (by omega)
              refine ⟨?_, ?_, ?_⟩
              · rw [hM2, m_off _ _ _ _ _ (by omega), m_off _ _ _ _ _ (by omega), m_off _ _ _ _ _ (by omega), m_off _ _ _ _ _ (by omega), f1 _ _ _ (by omega), ux _ (by omega) (by omega) (by omega), d1]
              · rw [hM2, m_off _ _ _ _ _ (by omega), m_off _ _ _ _ _ (by omega), m_off _ _ _ _ _ (by omega), m_off _ _ _ _ _ (by omega), f1 _ _ _ (by omega), ux _ (by omega) (by omega) (by omega), d2]
              · rw [hM2, m_off _ _ _ _ _ (by omega), m_off _ _ _ _ _ (by omega), m_off _ _ _ _ _ (by omega), m_off _ _ _ _ _ (by omega), f1 _ _ _ (by omega), ux _ (by omega) (by omega) (by omega), d3]
          · rw [ux 1 (by omega) (by omega) (by omega), h1] at hx
            omega
        have i := IH (by omega) (s_ne v n (b + 1) + 1) f' M2 (hK.fr hm) (by rw [hM2, m_off _ _ _ _ _ (by omega), m_off _ _ _ _ _ (by omega), m_off _ _ _ _ _ (by omega), m_off _ _ _ _ _ (by omega), g3]) (by have := ok.2.2.1; omega) hW' u0 (by rw [ux 1 (by omega) (by omega) (by omega), h1]) hc'
        refine i.step (by rw [e, ct', eG]) hm (f2 _ _ _ (by omega) (by omega)) (fun N hN => ?_)
        obtain ⟨N1, r1, r2, r3, r4, r5⟩ := rr N hN
        obtain ⟨N2, k1, k2, k3⟩ := (M_tn ho r1 r2 (lo := 0) (hi := 9) (s := 59) (idx := 13 + t) (by omega) (by omega) (by decide) (by omega)).1 ok
        have hr : m_rp N1 N2 := fun a x c h h2 => by rw [k3 a x c (by omega), m_off _ _ _ _ _ (by omega)]
        refine ⟨N2, ⟨r1.rp hr, k2, by rw [hf']; exact (r3.set28 _ _).fr (fun c => k3 28 0 c (by omega))⟩, ?_, r4.tr hr⟩
        show F_X7_readTown_b69 (fu' + 1 + 1) 1 N = F_X7_readTown_b69 (fu' + 1) 1 N2
        rw [r5, k1, Option.bind_some, z_grd_t (show (1 : Int32) &&& 1 = 1 from by decide), Option.bind_some]
      · obtain ⟨M', c1, c2, c3, c4⟩ := cf ok
        refine Or.inl ⟨(s_nf v n (b + 1) 0 9).1, (s_nf v n (b + 1) 0 9).2, ⟨M', by rw [e, c1]; exact c_tw0, c2, c3, fun a x c h h2 => by rw [c4 a x c h h2, f0 _ _ _ (by omega)]⟩, fun N hN => ?_⟩
        obtain ⟨N1, r1, r2, r3, r4, r5⟩ := rr N hN
        obtain ⟨N2, k1, k2, k3, k4⟩ := (M_tn ho r1 r2 (lo := 0) (hi := 9) (s := 59) (idx := 13 + t) (by omega) (by omega) (by decide) (by omega)).2 ok
        refine ⟨N2, ?_, k2, k3, r4.tr k4⟩
        show F_X7_readTown_b69 (fu' + 1 + 1) 1 N = _
        rw [r5, k1, Option.bind_some, z_grd_t (show (0 : Int32) &&& 1 = 0 from by decide), Option.bind_some]
        exact M_b69z
theorem T_all (ho : K_o v n) : ∀ d t fu fu' b f (M : z_M), t + d = 8 → d < fu → d + 8 < fu' → K_c M v n → z_gi M 5 0 3 = nI b → b ≤ n → p_W f → f 0 = t → f 1 = 0 → p_C M 28 f → U_out v n M (c_tw (F_X2_readTreads_b2 fu (nI t) M)) (Q_k v n b f) (fun N => F_X7_readTown_b69 fu' 1 N) S_t := by
  intro d
  induction d with
  | zero =>
    intro t fu fu' b f M h1 h2 h3 hK hb hbn hW h0 hf1 hc
    obtain ⟨fu, rfl⟩ : ∃ k', fu = k' + 1 := ⟨fu - 1, by omega⟩
    obtain ⟨fu', rfl⟩ : ∃ k', fu' = k' + 1 + 1 := ⟨fu' - 2, by omega⟩
    exact T_step ho (by omega) (by omega) (fun k => by omega) hK hb hbn hW h0 hf1 hc
  | succ d ih =>
    intro t fu fu' b f M h1 h2 h3 hK hb hbn hW h0 hf1 hc
    obtain ⟨fu, rfl⟩ : ∃ k', fu = k' + 1 := ⟨fu - 1, by omega⟩
    obtain ⟨fu', rfl⟩ : ∃ k', fu' = k' + 1 + 1 := ⟨fu' - 2, by omega⟩
    exact T_step ho (by omega) (by omega) (fun k b f M g1 g2 g3 g4 g5 g6 g7 => ih (t + 1) fu (fu' + 1) b f M (by omega) (by omega) (by omega) g1 g2 g3 g4 g5 g6 g7) hK hb hbn hW h0 hf1 hc
end
