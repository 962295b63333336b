/-! REL: the relation of class and reference on the memory -/
-- a TOWN as 49 numbers: 0 treads, 1 walkers, 2 wet, 3 reach, 4 day, 5.. kinds, 13.. notes, 21.. worn, 29.. FROM, 34.. TO, 39.. STEP, 44.. START
def p_V (f : Nat → Nat) : Prop := (1 ≤ f 0 ∧ f 0 ≤ 8 ∧ 1 ≤ f 1 ∧ f 1 ≤ 5 ∧ f 2 ≤ 15 ∧ f 3 ≤ 9 ∧ f 4 ≤ 5000) ∧ (∀ t, t < f 0 → 1 ≤ f (5 + t) ∧ f (5 + t) ≤ 5 ∧ f (13 + t) ≤ 9 ∧ f (21 + t) ≤ 99) ∧ ∀ w, w < f 1 → f (29 + w) < f 0 ∧ f (34 + w) < f 0 ∧ 1 ≤ f (39 + w) ∧ f (39 + w) ≤ 3 ∧ f (44 + w) ≤ 20
/-- TOWN i of the class holds f -/
def p_C (M : z_M) (i : Nat) (f : Nat → Nat) : Prop := (z_gi M 7 i 4 = nI (f 0) ∧ z_gi M 7 i 5 = nI (f 1) ∧ z_gi M 7 i 6 = nI (f 2) ∧ z_gi M 7 i 7 = nI (f 3) ∧ z_gi M 7 i 8 = nI (f 4)) ∧ (∀ t, t < f 0 → z_gi M 8 i t = nI (f (5 + t)) ∧ z_gi M 9 i t = nI (f (13 + t)) ∧ z_gi M 10 i t = nI (f (21 + t))) ∧ ∀ w, w < f 1 → z_gi M 11 i (4 * w) = nI (f (29 + w)) ∧ z_gi M 11 i (4 * w + 1) = nI (f (34 + w)) ∧ z_gi M 11 i (4 * w + 2) = nI (f (39 + w)) ∧ z_gi M 11 i (4 * w + 3) = nI (f (44 + w))
/-- 49 places of the reference hold f -/
def p_T (M : z_M) (k o : Nat) (f : Nat → Nat) : Prop := ∀ j, j < 49 → z_gi M k 0 (o + j) = nI (f j)
def p_N (f : Nat → Nat) : Prop := ∀ j, j < 49 → f j = 0
theorem p_C.fr {M M' : z_M} {i : Nat} {f : Nat → Nat} (h : p_C M i f) (e : ∀ a, 7 ≤ a → a ≤ 11 → ∀ c, z_gi M' a i c = z_gi M a i c) : p_C M' i f := by
  obtain ⟨⟨h0, h1, h2, h3, h4⟩, h5, h6⟩ := h
  refine ⟨⟨by rw [e 7 (by omega) (by omega), h0], by rw [e 7 (by omega) (by omega), h1], by rw [e 7 (by omega) (by omega), h2], by rw [e 7 (by omega) (by omega), h3], by rw [e 7 (by omega) (by omega), h4]⟩, fun t ht => ?_, fun w hw => ?_⟩
  · rw [e 8 (by omega) (by omega), e 9 (by omega) (by omega), e 10 (by omega) (by omega)]; exact h5 t ht
  · rw [e 11 (by omega) (by omega), e 11 (by omega) (by omega), e 11 (by omega) (by omega), e 11 (by omega) (by omega)]; exact h6 w hw
theorem p_T.fr {M M' : z_M} {k o : Nat} {f : Nat → Nat} (h : p_T M k o f) (e : ∀ c, z_gi M' k 0 c = z_gi M k 0 c) : p_T M' k o f := fun j hj => by rw [e]; exact h j hj
def R3 (M : z_M) : Prop := ∃ b, b ≤ 100 ∧ z_gi M 5 0 2 = nI b ∧ z_gi M 21 0 8 = nI b ∧ ∀ j, j < b → ∃ v, v ≤ 255 ∧ z_gi M 6 0 j = nI v ∧ z_gi M 27 0 j = nI v
def R4 (M : z_M) : Prop := z_gi M 5 0 4 = z_gi M 21 0 9
def R5 (M : z_M) : Prop := ∃ f, p_C M 24 f ∧ p_T M 25 0 f ∧ ((p_V f ∧ f 4 ≤ 999 ∧ z_gi M 21 0 4 = 1) ∨ (p_N f ∧ z_gi M 21 0 4 = 0))
/-- the j-th latest ACT stands in this TOWN of the ring -/
def p_rg (nx j : Nat) : Nat := (nx + 23 - j) % 24
def C6 (M : z_M) (nx kp : Nat) (h : Nat → Nat → Nat) : Prop := nx < 24 ∧ kp ≤ 24 ∧ z_gi M 12 0 1 = nI nx ∧ z_gi M 12 0 2 = nI kp ∧ ∀ j, j < kp → p_C M (p_rg nx j) (h j)
def M6 (M : z_M) (kp : Nat) (h : Nat → Nat → Nat) : Prop := kp ≤ 24 ∧ z_gi M 21 0 17 = nI kp ∧ ∀ j, j < kp → p_T M 29 (49 * (kp - 1 - j)) (h j)
def R6 (M : z_M) : Prop := ∃ nx kp h, C6 M nx kp h ∧ M6 M kp h ∧ (∀ j, j < kp → p_V (h j) ∧ h j 4 ≤ 999) ∧ (z_gi M 21 0 4 = 0 → kp = 0)
def R7 (M : z_M) : Prop := ∀ k, k < 2 → (z_gi M 31 0 k = 0 ∧ z_gi M 7 (25 + k) 4 = 0) ∨ (z_gi M 31 0 k = 1 ∧ z_gi M 21 0 4 = 1 ∧ ∃ f, p_V f ∧ f 4 ≤ 999 ∧ p_C M (25 + k) f ∧ p_T M 32 (49 * k) f)
def R8 (M : z_M) : Prop := ∃ n, n ≤ 16 ∧ z_gi M 19 0 1 = nI n ∧ z_gi M 21 0 23 = nI n ∧ ∀ j, j < n → z_gi M 20 0 j = z_gi M 33 0 j
def z_Rel (M : z_M) : Prop := R1 M ∧ R2 M ∧ R3 M ∧ R4 M ∧ R5 M ∧ R6 M ∧ R7 M ∧ R8 M
theorem R2.fr {M M' : z_M} (h : R2 M) (e : z_gi M' 0 0 7 = z_gi M 0 0 7) (e2 : z_gi M' 21 0 3 = z_gi M 21 0 3) : R2 M' := by unfold R2; rw [e, e2]; exact h
theorem R3.fr {M M' : z_M} (h : R3 M) (e : z_gi M' 5 0 2 = z_gi M 5 0 2) (e2 : z_gi M' 21 0 8 = z_gi M 21 0 8) (e3 : ∀ a, a = 6 ∨ a = 27 → ∀ c, z_gi M' a 0 c = z_gi M a 0 c) : R3 M' := by
  obtain ⟨b, h1, h2, h3, h4⟩ := h
  refine ⟨b, h1, by rw [e, h2], by rw [e2, h3], fun j hj => ?_⟩
  rw [e3 6 (Or.inl rfl), e3 27 (Or.inr rfl)]
  exact h4 j hj
theorem R4.fr {M M' : z_M} (h : R4 M) (e : z_gi M' 5 0 4 = z_gi M 5 0 4) (e2 : z_gi M' 21 0 9 = z_gi M 21 0 9) : R4 M' := by unfold R4; rw [e, e2]; exact h
theorem R5.fr {M M' : z_M} (h : R5 M) (e : ∀ a, 7 ≤ a → a ≤ 11 → ∀ c, z_gi M' a 24 c = z_gi M a 24 c) (e2 : ∀ c, z_gi M' 25 0 c = z_gi M 25 0 c) (e3 : z_gi M' 21 0 4 = z_gi M 21 0 4) : R5 M' := by
  obtain ⟨f, h1, h2, h3⟩ := h
  exact ⟨f, h1.fr e, h2.fr e2, by rw [e3]; exact h3⟩
theorem p_rg_lt {nx j : Nat} : p_rg nx j < 24 := Nat.mod_lt _ (by decide)
theorem C6.fr {M M' : z_M} {nx kp : Nat} {h : Nat → Nat → Nat} (h6 : C6 M nx kp h) (e : ∀ a, 7 ≤ a → a ≤ 11 → ∀ b, b < 24 → ∀ c, z_gi M' a b c = z_gi M a b c) (e2 : ∀ c, z_gi M' 12 0 c = z_gi M 12 0 c) : C6 M' nx kp h :=
  ⟨h6.1, h6.2.1, by rw [e2, h6.2.2.1], by rw [e2, h6.2.2.2.1], fun j hj => (h6.2.2.2.2 j hj).fr (fun a h1 h2 => e a h1 h2 _ p_rg_lt)⟩
theorem M6.fr {M M' : z_M} {kp : Nat} {h : Nat → Nat → Nat} (h6 : M6 M kp h) (e : ∀ c, z_gi M' 29 0 c = z_gi M 29 0 c) (e2 : z_gi M' 21 0 17 = z_gi M 21 0 17) : M6 M' kp h :=
  ⟨h6.1, by rw [e2, h6.2.1], fun j hj => (h6.2.2 j hj).fr e⟩
theorem R6.fr {M M' : z_M} (h : R6 M) (e : ∀ a, 7 ≤ a → a ≤ 11 → ∀ b, b < 24 → ∀ c, z_gi M' a b c = z_gi M a b c) (e2 : ∀ a, a = 12 ∨ a = 29 → ∀ c, z_gi M' a 0 c = z_gi M a 0 c) (e3 : z_gi M' 21 0 17 = z_gi M 21 0 17) (e4 : z_gi M' 21 0 4 = z_gi M 21 0 4) : R6 M' := by
  obtain ⟨nx, kp, h, h1, h2, h3, h4⟩ := h
  exact ⟨nx, kp, h, h1.fr e (e2 12 (Or.inl rfl)), h2.fr (e2 29 (Or.inr rfl)) e3, h3, by rw [e4]; exact h4⟩
theorem R7.fr {M M' : z_M} (h : R7 M) (e : ∀ a, 7 ≤ a → a ≤ 11 → ∀ b, b = 25 ∨ b = 26 → ∀ c, z_gi M' a b c = z_gi M a b c) (e2 : ∀ a, a = 31 ∨ a = 32 → ∀ c, z_gi M' a 0 c = z_gi M a 0 c) (e4 : z_gi M' 21 0 4 = z_gi M 21 0 4) : R7 M' := by
  intro k hk
  rw [e2 31 (Or.inl rfl), e 7 (by omega) (by omega) (25 + k) (by omega), e4]
  exact (h k hk).imp id (fun ⟨a, s, f, b, c, d, g⟩ => ⟨a, s, f, b, c, d.fr (fun a h1 h2 => e a h1 h2 _ (by omega)), g.fr (e2 32 (Or.inr rfl))⟩)
theorem R8.fr {M M' : z_M} (h : R8 M) (e : z_gi M' 19 0 1 = z_gi M 19 0 1) (e2 : z_gi M' 21 0 23 = z_gi M 21 0 23) (e3 : ∀ a, a = 20 ∨ a = 33 → ∀ c, z_gi M' a 0 c = z_gi M a 0 c) : R8 M' := by
  obtain ⟨n, h1, h2, h3, h4⟩ := h
  refine ⟨n, h1, by rw [e, h2], by rw [e2, h3], fun j hj => ?_⟩
  rw [e3 20 (Or.inl rfl), e3 33 (Or.inr rfl)]
  exact h4 j hj
/-- what may be written freely: the seer, the draft, what is put aside, scratch -/
def p_fr (a b : Nat) : Prop := (7 ≤ a ∧ a ≤ 11 ∧ 27 ≤ b) ∨ a = 15 ∨ a = 16 ∨ a = 17 ∨ a = 18 ∨ a = 26 ∨ a = 28 ∨ a = 30
theorem z_Rel.free {M M' : z_M} (h : z_Rel M) (e : m_of p_fr M M') : z_Rel M' := by
  obtain ⟨h1, h2, h3, h4, h5, h6, h7, h8⟩ := h
  have k : ∀ a b, (7 ≤ a → a ≤ 11 → b < 27) → (a < 15 ∨ 19 ≤ a) → a ≠ 26 → a ≠ 28 → a ≠ 30 → ∀ c, z_gi M' a b c = z_gi M a b c := fun a b x y z w v c => e a b (by unfold p_fr; omega) c
  exact ⟨h1.fr (fun a b hb ha c => k a b (by omega) (by omega) (by omega) (by omega) (by omega) c), h2.fr (k _ _ (by omega) (by omega) (by omega) (by omega) (by omega) _) (k _ _ (by omega) (by omega) (by omega) (by omega) (by omega) _), h3.fr (k _ _ (by omega) (by omega) (by omega) (by omega) (by omega) _) (k _ _ (by omega) (by omega) (by omega) (by omega) (by omega) _) (fun a ha c => k _ _ (by omega) (by omega) (by omega) (by omega) (by omega) _), h4.fr (k _ _ (by omega) (by omega) (by omega) (by omega) (by omega) _) (k _ _ (by omega) (by omega) (by omega) (by omega) (by omega) _), h5.fr (fun a _ _ c => k _ _ (by omega) (by omega) (by omega) (by omega) (by omega) _) (fun c => k _ _ (by omega) (by omega) (by omega) (by omega) (by omega) _) (k _ _ (by omega) (by omega) (by omega) (by omega) (by omega) _), h6.fr (fun a _ _ b _ c => k _ _ (by omega) (by omega) (by omega) (by omega) (by omega) _) (fun a _ c => k _ _ (by omega) (by omega) (by omega) (by omega) (by omega) _) (k _ _ (by omega) (by omega) (by omega) (by omega) (by omega) _) (k _ _ (by omega) (by omega) (by omega) (by omega) (by omega) _), h7.fr (fun a _ _ b _ c => k _ _ (by omega) (by omega) (by omega) (by omega) (by omega) _) (fun a _ c => k _ _ (by omega) (by omega) (by omega) (by omega) (by omega) _) (k _ _ (by omega) (by omega) (by omega) (by omega) (by omega) _), h8.fr (k _ _ (by omega) (by omega) (by omega) (by omega) (by omega) _) (k _ _ (by omega) (by omega) (by omega) (by omega) (by omega) _) (fun a ha c => k _ _ (by omega) (by omega) (by omega) (by omega) (by omega) _)⟩
/-- new ROWS, and a finding told to both -/
theorem z_Rel.rows {M M' : z_M} (h : z_Rel M) (hr : R1 M') (hs : R2 M') (e : ∀ a b c, ¬ (a = 2 ∨ a = 3 ∨ a = 4 ∨ a = 22 ∨ a = 23 ∨ a = 24 ∨ a = 26) → (a = 0 → c ≠ 7) → (a = 21 → c ≠ 3) → z_gi M' a b c = z_gi M a b c) : z_Rel M' := by
  obtain ⟨h1, h2, h3, h4, h5, h6, h7, h8⟩ := h
  have k : ∀ a b c, ¬ (a = 2 ∨ a = 3 ∨ a = 4 ∨ a = 22 ∨ a = 23 ∨ a = 24 ∨ a = 26) → (a = 0 → c ≠ 7) → (a = 21 → c ≠ 3) → z_gi M' a b c = z_gi M a b c := e
  exact ⟨hr, hs, h3.fr (k _ _ _ (by omega) (by omega) (by omega)) (k _ _ _ (by omega) (by omega) (by omega)) (fun a ha c => k _ _ _ (by omega) (by omega) (by omega)), h4.fr (k _ _ _ (by omega) (by omega) (by omega)) (k _ _ _ (by omega) (by omega) (by omega)), h5.fr (fun a _ _ c => k _ _ _ (by omega) (by omega) (by omega)) (fun c => k _ _ _ (by omega) (by omega) (by omega)) (k _ _ _ (by omega) (by omega) (by omega)), h6.fr (fun a _ _ b _ c => k _ _ _ (by omega) (by omega) (by omega)) (fun a _ c => k _ _ _ (by omega) (by omega) (by omega)) (k _ _ _ (by omega) (by omega) (by omega)) (k _ _ _ (by omega) (by omega) (by omega)), h7.fr (fun a _ _ b _ c => k _ _ _ (by omega) (by omega) (by omega)) (fun a _ c => k _ _ _ (by omega) (by omega) (by omega)) (k _ _ _ (by omega) (by omega) (by omega)), h8.fr (k _ _ _ (by omega) (by omega) (by omega)) (k _ _ _ (by omega) (by omega) (by omega)) (fun a ha c => k _ _ _ (by omega) (by omega) (by omega))⟩
/-- a finding alone -/
theorem z_Rel.find {M : z_M} (h : z_Rel M) (v : Int32) : z_Rel (z_si (z_si M 0 0 7 v) 21 0 3 v) := by
  refine h.rows (h.1.fr (fun a b _ ha c => by rw [m_off _ _ _ _ _ (by omega), m_off _ _ _ _ _ (by omega)])) ?_ (fun a b c h1 h2 h3 => by rw [m_off _ _ _ _ _ (by omega), m_off _ _ _ _ _ (by omega)])
  unfold R2
  rw [m_same, m_off _ _ _ _ _ (by omega), m_same]
theorem z_Rel_0 {fS fM : Nat → Int32} (h1 : ∀ j, j < 8 → fS j = -1) (h2 : ∀ j, j < 8 → fM j = -1) : z_Rel ((fun k _ => if k = 4 then fS else if k = 23 then fM else fun _ => 0, fun _ => 0) : z_M) := by
  refine ⟨fun r hr => ⟨(h1 r hr).trans (h2 r hr).symm, Or.inl (h1 r hr)⟩, rfl, ⟨0, by decide, rfl, rfl, fun j hj => by omega⟩, rfl, ⟨fun _ => 0, ⟨⟨rfl, rfl, rfl, rfl, rfl⟩, fun t ht => absurd ht (Nat.not_lt_zero _), fun w hw => absurd hw (Nat.not_lt_zero _)⟩, fun j hj => rfl, Or.inr ⟨fun _ _ => rfl, rfl⟩⟩, ⟨0, 0, fun _ _ => 0, ⟨by decide, by decide, rfl, rfl, fun j hj => by omega⟩, ⟨by decide, rfl, fun j hj => by omega⟩, fun j hj => by omega, fun _ => rfl⟩, fun k hk => Or.inl ⟨rfl, rfl⟩, ⟨0, by decide, rfl, rfl, fun j hj => by omega⟩⟩
