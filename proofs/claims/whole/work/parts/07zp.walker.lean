/-! WALKER: one walker is read, by both -/
abbrev s_wok (f : Nat → Nat) (x : Nat) : Prop := f (29 + x) < f 0 ∧ f (34 + x) < f 0 ∧ 1 ≤ f (39 + x) ∧ f (39 + x) ≤ 3 ∧ f (44 + x) ≤ 20
/-- a TOWN as far as it is read -/
def p_W (f : Nat → Nat) : Prop := (f 0 ≤ 8 ∧ f 1 ≤ 5 ∧ f 2 ≤ 15 ∧ f 3 ≤ 9 ∧ f 4 = 0) ∧ (∀ t, t < f 0 → 1 ≤ f (5 + t) ∧ f (5 + t) ≤ 5 ∧ f (13 + t) ≤ 9) ∧ (∀ t, t < 8 → f (21 + t) = 0) ∧ ∀ x, x < f 1 → s_wok f x
theorem p_W.V {f : Nat → Nat} (h : p_W f) (h0 : 1 ≤ f 0) (h1 : 1 ≤ f 1) : p_V f := by
  obtain ⟨a, b, c, d⟩ := h
  refine ⟨by omega, fun t ht => ?_, d⟩
  have := b t ht
  have := c t (by omega)
  omega
/-- k parts of WALKER w are read -/
def p_Y (f : Nat → Nat) (w k : Nat) : Prop := (1 ≤ f 0 ∧ f 0 ≤ 8 ∧ f 1 = w + 1 ∧ w < 5 ∧ f 2 ≤ 15 ∧ f 3 ≤ 9 ∧ f 4 = 0) ∧ (∀ t, t < f 0 → 1 ≤ f (5 + t) ∧ f (5 + t) ≤ 5 ∧ f (13 + t) ≤ 9) ∧ (∀ t, t < 8 → f (21 + t) = 0) ∧ (∀ x, x < w → s_wok f x) ∧ ∀ j, j < k → s_plo j ≤ f (29 + 5 * j + w) ∧ f (29 + 5 * j + w) ≤ s_phi f j
def p_Z (M : z_M) (f : Nat → Nat) (w k : Nat) : Prop := (z_gi M 7 28 4 = nI (f 0) ∧ z_gi M 7 28 5 = nI (w + 1) ∧ z_gi M 7 28 6 = nI (f 2) ∧ z_gi M 7 28 7 = nI (f 3) ∧ z_gi M 7 28 8 = nI (f 4)) ∧ (∀ t, t < f 0 → z_gi M 8 28 t = nI (f (5 + t)) ∧ z_gi M 9 28 t = nI (f (13 + t)) ∧ z_gi M 10 28 t = nI (f (21 + t))) ∧ (∀ x, x < w → ∀ j, j < 4 → z_gi M 11 28 (4 * x + j) = nI (f (29 + 5 * j + x))) ∧ ∀ j, j < k → z_gi M 11 28 (4 * w + j) = nI (f (29 + 5 * j + w))
theorem p_Y.W {f : Nat → Nat} {w : Nat} (h : p_Y f w 4) : p_W f := by
  obtain ⟨a, b, c, d, e⟩ := h
  refine ⟨by omega, b, c, fun x hx => ?_⟩
  by_cases k : x = w
  · subst k
    have e0 : 0 ≤ f (29 + x) ∧ f (29 + x) ≤ f 0 - 1 := e 0 (by omega)
    have e1 : 0 ≤ f (34 + x) ∧ f (34 + x) ≤ f 0 - 1 := e 1 (by omega)
    have e2 : 1 ≤ f (39 + x) ∧ f (39 + x) ≤ 3 := e 2 (by omega)
    have e3 : 0 ≤ f (44 + x) ∧ f (44 + x) ≤ 20 := e 3 (by omega)
    exact ⟨by omega, by omega, e2.1, e2.2, e3.2⟩
  · exact d x (by omega)
theorem p_Z.C {M : z_M} {f : Nat → Nat} {w : Nat} (h : p_Z M f w 4) (h1 : f 1 = w + 1) : p_C M 28 f := by
  obtain ⟨⟨a0, a1, a2, a3, a4⟩, b, c, d⟩ := h
  refine ⟨⟨a0, by rw [a1, h1], a2, a3, a4⟩, b, fun x hx => ?_⟩
  by_cases k : x = w
  · subst k
    exact ⟨d 0 (by omega), d 1 (by omega), d 2 (by omega), d 3 (by omega)⟩
  · exact ⟨c x (by omega) 0 (by omega), c x (by omega) 1 (by omega), c x (by omega) 2 (by omega), c x (by omega) 3 (by omega)⟩
theorem p_T.set28 {M : z_M} {f : Nat → Nat} (ht : p_T M 28 0 f) (k v : Nat) : p_T (z_si M 28 0 k (nI v)) 28 0 (z_up f k v) := by
  intro j hj
  rw [Nat.zero_add]
  by_cases e : j = k
  · rw [e, m_same, z_up_eq]
  · rw [m_off _ _ _ _ _ (by omega), z_up_ne e, ← ht j hj, Nat.zero_add]
theorem M_rd {M : z_M} {f : Nat → Nat} (ht : p_T M 28 0 f) {k : Nat} (hk : k < 49) : z_gi M 28 0 k = nI (f k) := by rw [← ht k hk, Nat.zero_add]
abbrev s_sgn (k : Nat) : Nat := if k = 3 then 59 else 44
abbrev s_phm (m k : Nat) : Nat := if k = 2 then 3 else if k = 3 then 20 else m
/-- the last d numbers of a walker, by the reference -/
def r_ch (w m : Nat) : Nat → z_M → Option (Int32 × z_M)
  | 0, M => some (1, M)
  | d + 1, M => (F_X7_takesNumber (nI (s_plo (3 - d))) (nI (s_phm m (3 - d))) (nI (29 + 5 * (3 - d) + w)) (nI (s_sgn (3 - d))) M).bind fun q => if q.1 = 0 then some (0, q.2) else r_ch w m d q.2
/-- what both come to: a fault, or some more of a TOWN and a place -/
def U_out (v : Nat → Nat) (n : Nat) (M : z_M) (oc : Option (Int32 × z_M)) (Q : z_M → Prop) (orr : z_M → Option (Int32 × z_M)) (S : Nat → (Nat → Nat) → z_M → Prop) : Prop :=
  (∃ x p : Nat, (∃ M', oc = some (0, M') ∧ z_gi M' 5 0 4 = nI x ∧ z_gi M' 5 0 5 = nI p ∧ m_cp M M') ∧ ∀ N, Q N → ∃ N', orr N = some (0, N') ∧ z_gi N' 21 0 14 = nI x ∧ z_gi N' 21 0 13 = nI p ∧ m_rp N N') ∨ (∃ b' f', (∃ M', oc = some (1, M') ∧ S b' f' M' ∧ z_gi M' 5 0 4 = z_gi M 5 0 4 ∧ m_cp M M') ∧ ∀ N, Q N → ∃ N', orr N = some (1, N') ∧ K_k N' v n b' ∧ p_T N' 28 0 f' ∧ m_rp N N')
abbrev Q_k (v : Nat → Nat) (n b : Nat) (f : Nat → Nat) (N : z_M) : Prop := K_r N v n ∧ K_k N v n b ∧ p_T N 28 0 f
theorem U_out.step {v : Nat → Nat} {n : Nat} {M M1 : z_M} {oc oc1 : Option (Int32 × z_M)} {Q Q1 : z_M → Prop} {orr orr1 : z_M → Option (Int32 × z_M)} {S : Nat → (Nat → Nat) → z_M → Prop} (h : U_out v n M1 oc1 Q1 orr1 S) (e : oc = oc1) (hm : m_cp M M1) (h4 : z_gi M1 5 0 4 = z_gi M 5 0 4) (hq : ∀ N, Q N → ∃ N1, Q1 N1 ∧ orr N = orr1 N1 ∧ m_rp N N1) : U_out v n M oc Q orr S := by
  subst e
  rcases h with ⟨x, p, ⟨M', i1, i2, i3, i4⟩, j⟩ | ⟨b', f', ⟨M', i1, i2, i3, i4⟩, j⟩
  · refine Or.inl ⟨x, p, ⟨M', i1, i2, i3, hm.tr i4⟩, fun N hN => ?_⟩
    obtain ⟨N1, k1, k2, k3⟩ := hq N hN
    obtain ⟨N', l1, l2, l3, l4⟩ := j N1 k1
    exact ⟨N', k2.trans l1, l2, l3, k3.tr l4⟩
  · refine Or.inr ⟨b', f', ⟨M', i1, i2, i3.trans h4, hm.tr i4⟩, fun N hN => ?_⟩
    obtain ⟨N1, k1, k2, k3⟩ := hq N hN
    obtain ⟨N', l1, l2, l3, l4⟩ := j N1 k1
    exact ⟨N', k2.trans l1, l2, l3, k3.tr l4⟩
section
variable {v : Nat → Nat} {n : Nat}
theorem C_least28 {M : z_M} {k : Nat} (hk : k < 4) : F_X5_leastOf 28 (nI k) M = some (nI (s_plo k)) := by
  unfold F_X5_leastOf s_plo
  rcases (show k = 0 ∨ k = 1 ∨ k = 2 ∨ k = 3 by omega) with rfl | rfl | rfl | rfl <;> rfl
theorem C_most28 {M : z_M} {t k : Nat} (h : z_gi M 7 28 4 = nI t) (h1 : 1 ≤ t) (hk : k < 4) : F_X5_mostOf 28 (nI k) M = some (nI (s_phm (t - 1) k)) := by
  unfold F_X5_mostOf s_phm
  rw [h, n_1, n_sub h1]
  rcases (show k = 0 ∨ k = 1 ∨ k = 2 ∨ k = 3 by omega) with rfl | rfl | rfl | rfl <;> rfl
theorem C_setPart28 {M : z_M} {w k x : Nat} (h : z_gi M 7 28 5 = nI (w + 1)) (hw : w < 5) (hk : k < 4) : F_X5_setPart 28 (nI w) (nI k) (nI x) M = some (z_si M 11 28 (w * 4 + k) (nI x)) := by
  unfold F_X5_setPart
  rw [C_hasWalker h (by omega), b1_t (bl_n (by omega) (by omega)), Option.bind_some, if_neg (by decide), if_neg (by rw [n_0, n_lt (by omega) (by omega)]; omega), if_neg (by rw [n_4, n_le (by omega) (by omega)]; omega), n_4, pk_mul, nI_add, z_grd_t (by rw [n_in (by omega) (by omega)]; omega), n_cl (by omega)]
abbrev S_w (n w : Nat) (t : Nat) (b' : Nat) (f' : Nat → Nat) (M' : z_M) : Prop := b' ≤ n ∧ p_Y f' w 4 ∧ f' 0 = t ∧ z_gi M' 5 0 3 = nI b' ∧ p_Z M' f' w 4
theorem W_k (ho : K_o v n) {w : Nat} : ∀ d k b f fu (M : z_M), k + d = 4 → d < fu → K_c M v n → z_gi M 5 0 3 = nI b → b ≤ n → p_Y f w k → p_Z M f w k → U_out v n M (F_X2_readWalker_b9 fu (nI w) (nI k) M) (Q_k v n b f) (r_ch w (f 0 - 1) d) (S_w n w (f 0)) := by
  intro d
  induction d with
  | zero =>
    intro k b f fu M h1 h2 hK hb hbn hY hZ
    obtain ⟨fu, rfl⟩ : ∃ k', fu = k' + 1 := ⟨fu - 1, by omega⟩
    have e : k = 4 := by omega
    subst e
    exact Or.inr ⟨b, f, ⟨M, by rw [F_X2_readWalker_b9, if_pos (show (4 : Int32) ≤ nI 4 by decide)], ⟨hbn, hY, rfl, hb, hZ⟩, rfl, fun a x c _ _ => rfl⟩, fun N hN => ⟨N, rfl, hN.2.1, hN.2.2, fun a x c _ _ => rfl⟩⟩
  | succ d ih =>
    intro k b f fu M h1 h2 hK hb hbn hY hZ
    obtain ⟨fu, rfl⟩ : ∃ k', fu = k' + 1 := ⟨fu - 1, by omega⟩
    obtain ⟨⟨y0, y1, y2, y3, y4⟩, y5, y6, y7, y8⟩ := hY
    have hY : p_Y f w k := ⟨⟨y0, y1, y2, y3, y4⟩, y5, y6, y7, y8⟩
    obtain ⟨⟨z0, z1, z2, z3, z4⟩, z5, z6, z7⟩ := hZ
    have hn := ho.1
    have ek : 3 - d = k := by omega
    have hlo : s_plo k < 2 ^ 31 := by unfold s_plo; split <;> omega
    have hhi : s_phm (f 0 - 1) k < 2 ^ 31 := by
      unfold s_phm
      repeat' split
      all_goals omega
    have hss : s_sgn k < 256 ∧ s_sg (s_sgn k) := by unfold s_sgn; split <;> omega
    obtain ⟨G, hG⟩ : ∃ G : Int32 → z_M → Option (Int32 × z_M), G = fun x q => (F_X5_setPart 28 (nI w) (nI k) x q).bind fun q15 => F_X2_readWalker_b9 fu (nI w) (nI k + 1) q15 := ⟨_, rfl⟩
    have e : F_X2_readWalker_b9 (fu + 1) (nI w) (nI k) M = ((F_X2_readNumber (nI (s_plo k)) (nI (s_phm (f 0 - 1) k)) M).bind fun q4 => if q4.1 = ((-1) : Int32) then some (0, q4.2) else (F_X2_readSign (nI (s_sgn k)) q4.2).bind fun q7 => if q7.1 = 0 then some (0, q7.2) else G q4.1 q7.2) := by
      rw [F_X2_readWalker_b9, if_neg (by rw [n_4, n_le (by omega) (by omega)]; omega), C_least28 (by omega), Option.bind_some, C_most28 z0 y0 (by omega), Option.bind_some, hG]
      unfold F_X2_readWalker_b53
      by_cases k3 : k = 3
      · subst k3; rfl
      · simp only [if_neg (show ¬ (3 : Int32) ≤ nI k by rw [n_3, n_le (by omega) (by omega)]; omega), show s_sgn k = 44 from if_neg k3]
        rfl
    obtain ⟨ct, cf⟩ := C_tn ho hK hb hbn hlo hhi hss.1 G
    have er : ∀ N, r_ch w (f 0 - 1) (d + 1) N = (F_X7_takesNumber (nI (s_plo k)) (nI (s_phm (f 0 - 1) k)) (nI (29 + 5 * k + w)) (nI (s_sgn k)) N).bind fun q => if q.1 = 0 then some (0, q.2) else r_ch w (f 0 - 1) d q.2 := fun N => by
      show (F_X7_takesNumber (nI (s_plo (3 - d))) (nI (s_phm (f 0 - 1) (3 - d))) (nI (29 + 5 * (3 - d) + w)) (nI (s_sgn (3 - d))) N).bind _ = _
      rw [ek]
    by_cases ok : s_nok v n b (s_plo k) (s_phm (f 0 - 1) k) (s_sgn k)
    · have hvl := s_vl_le ho (s_ty2 ok.1)
      obtain ⟨M1, hM1⟩ : ∃ M1, M1 = z_si (z_si M 5 0 3 (nI (s_ne v n b))) 5 0 3 (nI (s_ne v n b + 1)) := ⟨_, rfl⟩
      have ct' := ct ok
      rw [← hM1] at ct'
      have f1 : ∀ a x c, ¬ (a = 5 ∧ c = 3) → z_gi M1 a x c = z_gi M a x c := fun a x c h => by rw [hM1, m_off _ _ _ _ _ (by omega), m_off _ _ _ _ _ (by omega)]
      have g3 : z_gi M1 5 0 3 = nI (s_ne v n b + 1) := by rw [hM1, m_same]
      have eG : G (nI (s_vl v n b)) M1 = F_X2_readWalker_b9 fu (nI w) (nI (k + 1)) (z_si M1 11 28 (w * 4 + k) (nI (s_vl v n b))) := by
        rw [hG]
        show (F_X5_setPart 28 (nI w) (nI k) (nI (s_vl v n b)) M1).bind _ = _
        rw [C_setPart28 (by rw [f1 _ _ _ (by omega), z1]) y3 (by omega), Option.bind_some, n_1, nI_add]
      have hph : ∀ j, s_phi (z_up f (29 + 5 * k + w) (s_vl v n b)) j = s_phi f j := fun j => by unfold s_phi; rw [z_up_ne (by omega)]
      have hph2 : s_phm (f 0 - 1) k = s_phi f k := rfl
      have hY' : p_Y (z_up f (29 + 5 * k + w) (s_vl v n b)) w (k + 1) := by
        refine ⟨?_, fun t ht => ?_, fun t ht => ?_, fun x hx => ?_, fun j hj => ?_⟩
        · rw [z_up_ne (by omega), z_up_ne (by omega), z_up_ne (by omega), z_up_ne (by omega), z_up_ne (by omega)]; exact ⟨y0, y1, y2, y3, y4⟩
        · rw [z_up_ne (by omega)] at ht
          rw [z_up_ne (by omega), z_up_ne (by omega)]; exact y5 t ht
        · rw [z_up_ne (by omega)]; exact y6 t ht
        · have := y7 x hx
          unfold s_wok
          rw [z_up_ne (by omega), z_up_ne (by omega), z_up_ne (by omega), z_up_ne (by omega), z_up_ne (by omega)]; exact this
        · rw [hph]
          by_cases ej : j = k
          · subst ej
            rw [z_up_eq]; exact ok.2.1
          · rw [z_up_ne (by omega)]; exact y8 j (by omega)
      have hZ' : p_Z (z_si M1 11 28 (w * 4 + k) (nI (s_vl v n b))) (z_up f (29 + 5 * k + w) (s_vl v n b)) w (k + 1) := by
        refine ⟨?_, fun t ht => ?_, fun x hx j hj => ?_, fun j hj => ?_⟩
        · rw [m_off _ _ _ _ _ (by omega), m_off _ _ _ _ _ (by omega), m_off _ _ _ _ _ (by omega), m_off _ _ _ _ _ (by omega), m_off _ _ _ _ _ (by omega), z_up_ne (by omega), z_up_ne (by omega), z_up_ne (by omega), z_up_ne (by omega), f1 _ _ _ (by omega), f1 _ _ _ (by omega), f1 _ _ _ (by omega), f1 _ _ _ (by omega), f1 _ _ _ (by omega)]
          exact ⟨z0, z1, z2, z3, z4⟩
        · rw [z_up_ne (by omega)] at ht
          rw [m_off _ _ _ _ _ (by omega), m_off _ _ _ _ _ (by omega), m_off _ _ _ _ _ (by omega), z_up_ne (by omega), z_up_ne (by omega), z_up_ne (by omega), f1 _ _ _ (by omega), f1 _ _ _ (by omega), f1 _ _ _ (by omega)]
          exact z5 t ht
        · rw [m_off _ _ _ _ _ (by omega), z_up_ne (by omega), f1 _ _ _ (by omega)]
          exact z6 x hx j hj
        · by_cases ej : j = k
          · subst ej
            rw [Nat.mul_comm 4 w, m_same, z_up_eq]
          · rw [m_off _ _ _ _ _ (by omega), z_up_ne (by omega), f1 _ _ _ (by omega)]
            exact z7 j (by omega)
      have u0 : z_up f (29 + 5 * k + w) (s_vl v n b) 0 = f 0 := z_up_ne (by omega)
      have hm : m_cp M (z_si M1 11 28 (w * 4 + k) (nI (s_vl v n b))) := fun a x c h h2 => by rw [m_off _ _ _ _ _ (by omega), f1 _ _ _ (by omega)]
      have i := ih (k + 1) (s_ne v n b + 1) (z_up f (29 + 5 * k + w) (s_vl v n b)) fu _ (by omega) (by omega) (hK.fr hm) (by rw [m_off _ _ _ _ _ (by omega), g3]) (by have := ok.2.2.1; omega) hY' hZ'
      rw [u0] at i
      refine i.step (e.trans (ct'.trans eG)) hm (by rw [m_off _ _ _ _ _ (by omega), f1 _ _ _ (by omega)]) (fun N hN => ?_)
      obtain ⟨N1, k1, k2, k3⟩ := (M_tn ho hN.1 hN.2.1 hlo hhi hss.2 (idx := 29 + 5 * k + w) (by omega)).1 ok
      have hr : m_rp N N1 := fun a x c h h2 => by rw [k3 a x c (by omega), m_off _ _ _ _ _ (by omega)]
      exact ⟨N1, ⟨hN.1.rp hr, k2, (hN.2.2.set28 _ _).fr (fun c => k3 28 0 c (by omega))⟩, by rw [er, k1, Option.bind_some, if_neg (show ¬ (1 : Int32) = 0 by decide)], hr⟩
    · obtain ⟨M', c1, c2, c3, c4⟩ := cf ok
      refine Or.inl ⟨(s_nf v n b (s_plo k) (s_phm (f 0 - 1) k)).1, (s_nf v n b (s_plo k) (s_phm (f 0 - 1) k)).2, ⟨M', e.trans c1, c2, c3, c4⟩, fun N hN => ?_⟩
      obtain ⟨N1, k1, k2, k3, k4⟩ := (M_tn ho hN.1 hN.2.1 hlo hhi hss.2 (idx := 29 + 5 * k + w) (by omega)).2 ok
      exact ⟨N1, by rw [er, k1, Option.bind_some, if_pos rfl], k2, k3, k4⟩
/-- a whole walker, its letter at b -/
theorem W_one (ho : K_o v n) {w b : Nat} {f : Nat → Nat} {M : z_M} (hK : K_c M v n) (hb : z_gi M 5 0 3 = nI b) (hbn : b < n) (hs : v b = 122) (hW : p_W f) (h0 : 1 ≤ f 0) (h1 : f 1 = w) (hw : w < 5) (hc : p_C M 28 f) : U_out v n M (F_X2_readWalker (nI w) (z_si M 5 0 3 ((z_gi M 5 0 3) + 1))) (Q_k v n b f) F_X7_readWalker (S_w n w (f 0)) := by
  obtain ⟨⟨w0, w1, w2, w3, w4⟩, w5, w6, w7⟩ := hW
  obtain ⟨⟨c0, c1, c2, c3, c4⟩, c5, c6⟩ := hc
  have hn := ho.1
  have f1 : ∀ a x c, ¬ (a = 5 ∧ c = 3) → ¬ (a = 7 ∧ x = 28 ∧ c = 5) → z_gi (z_si (z_si M 5 0 3 (nI (b + 1))) 7 28 5 (nI (w + 1))) a x c = z_gi M a x c := fun a x c h h2 => by rw [m_off _ _ _ _ _ (by omega), m_off _ _ _ _ _ (by omega)]
  have hm : m_cp M (z_si (z_si M 5 0 3 (nI (b + 1))) 7 28 5 (nI (w + 1))) := fun a x c h h2 => f1 a x c (by omega) (by omega)
  have hY : p_Y (z_up f 1 (w + 1)) w 0 := by
    refine ⟨?_, fun t ht => ?_, fun t ht => ?_, fun x hx => ?_, fun j hj => absurd hj (Nat.not_lt_zero _)⟩
    · rw [z_up_ne (by omega), z_up_eq, z_up_ne (by omega), z_up_ne (by omega), z_up_ne (by omega)]; omega
    · rw [z_up_ne (by omega)] at ht
      rw [z_up_ne (by omega), z_up_ne (by omega)]; exact w5 t ht
    · rw [z_up_ne (by omega)]; exact w6 t ht
    · have := w7 x (by omega)
      unfold s_wok
      rw [z_up_ne (by omega), z_up_ne (by omega), z_up_ne (by omega), z_up_ne (by omega), z_up_ne (by omega)]; exact this
  have hZ : p_Z (z_si (z_si M 5 0 3 (nI (b + 1))) 7 28 5 (nI (w + 1))) (z_up f 1 (w + 1)) w 0 := by
    refine ⟨?_, fun t ht => ?_, fun x hx j hj => ?_, fun j hj => absurd hj (Nat.not_lt_zero _)⟩
    · rw [m_same, f1 _ _ _ (by omega) (by omega), f1 _ _ _ (by omega) (by omega), f1 _ _ _ (by omega) (by omega), f1 _ _ _ (by omega) (by omega), z_up_ne (by omega), z_up_ne (by omega), z_up_ne (by omega), z_up_ne (by omega)]
      exact ⟨c0, rfl, c2, c3, c4⟩
    · rw [z_up_ne (by omega)] at ht
      rw [f1 _ _ _ (by omega) (by omega), f1 _ _ _ (by omega) (by omega), f1 _ _ _ (by omega) (by omega), z_up_ne (by omega), z_up_ne (by omega), z_up_ne (by omega)]
      exact c5 t ht
    · obtain ⟨d0, d1, d2, d3⟩ := c6 x (by omega)
      rw [f1 _ _ _ (by omega) (by omega), z_up_ne (by omega)]
      rcases (show j = 0 ∨ j = 1 ∨ j = 2 ∨ j = 3 by omega) with rfl | rfl | rfl | rfl
      · exact d0
      · exact d1
      · exact d2
      · exact d3
  have u0 : z_up f 1 (w + 1) 0 = f 0 := z_up_ne (by omega)
  have i := W_k ho 4 0 (b + 1) (z_up f 1 (w + 1)) z_fuel _ (by omega) (by unfold z_fuel; omega) (hK.fr hm) (by rw [m_off _ _ _ _ _ (by omega), m_same]) (by omega) hY hZ
  rw [u0] at i
  refine i.step ?_ hm (f1 _ _ _ (by omega) (by omega)) (fun N hN => ?_)
  · unfold F_X2_readWalker F_X5_addWalker
    rw [hb, n_1, nI_add, m_off _ _ _ _ _ (by omega), c1, h1, if_neg (by rw [n_5, n_le (by omega) (by omega)]; omega), Option.bind_some, nI_add]
    rfl
  · have ty : s_ty v n b = 1 := s_ty1 hbn (by rw [hs]; decide)
    obtain ⟨N1, k1, k2, k3⟩ := M_next ho hN.1 (hN.2.1.2.2.2 ty).2 (show b + 1 ≤ n by omega)
    have t1 : p_T N1 28 0 f := hN.2.2.fr (fun c => k3 28 0 c (by omega))
    have hr : m_rp N (z_si N1 28 0 1 (nI (w + 1))) := fun a x c h h2 => by rw [m_off _ _ _ _ _ (by omega), k3 a x c (by omega)]
    refine ⟨z_si N1 28 0 1 (nI (w + 1)), ⟨hN.1.rp hr, ?_, t1.set28 _ _⟩, ?_, hr⟩
    · obtain ⟨a1, a2, a3, a4⟩ := k2
      exact ⟨by rw [m_off _ _ _ _ _ (by omega), a1], by rw [m_off _ _ _ _ _ (by omega), a2], fun h => by rw [m_off _ _ _ _ _ (by omega), m_off _ _ _ _ _ (by omega)]; exact a3 h, fun h => by rw [m_off _ _ _ _ _ (by omega), m_off _ _ _ _ _ (by omega)]; exact a4 h⟩
    · unfold F_X7_readWalker
      rw [z_grd_t (by decide), z_nmI_e, z_grd_t (by decide), z_nmI_e]
      simp only [show (0 : Int32).toNatClampNeg = 0 from rfl, show (1 : Int32).toNatClampNeg = 1 from rfl, M_rd hN.2.2 (show 0 < 49 by decide), M_rd hN.2.2 (show 1 < 49 by decide), h1]
      rw [ n_1, n_sub h0, if_neg (by rw [n_0, n_lt (by omega) (by omega)]; omega), if_neg (by rw [n_5, n_eq (by omega) (by omega)]; omega), k1, Option.bind_some, z_grd_t (by decide), z_grd_t (by decide), M_rd t1 (by decide), h1, nI_add, n_29, n_34, n_39, n_44, nI_add, nI_add, nI_add, nI_add]
      rfl
end
