-- ===== end of PART A; then your names; then what follows =====
/-! THE CLAIM OUT OF ONE WALK OF THE LAW'S BODY. Your part is whole_start (and what it stands on); all else here is the same for every law, but numbers. -/
def R_law : String := "StairTunesLaw"
def lw_P (b : Addr) (xs : List Int32) (args : Array Value) (s : State) : Prop := args = #[.ref b] ∧ s.IntsAt b xs ∧ xs.length ≤ 4096 ∧ (Jvm.Cond.and given_1 narrow_1).before args s = true
def lw_Q (_ : Array Value) (s : State) (o : Outcome) (t : State) : Prop := o = .returned (some (.int 1)) ∧ Framed s o t [] 600000 7302250
def lw_Z (below : List Frame) (a : Array Value) (s : State) : State → Prop := fun t => ∃ o, t.status = .running ∧ Ended t below o ∧ lw_Q a s o t
/-- the law's own end, with 1 on the stack, nothing written that was there before, its room as the claim has it -/
theorem lw_ret {p : Program} {l : Launch} {e : Env} {s : State} {m : MethodId} {below : List Frame} {meth : Method} {c : Code} {b : Nat} (hx : p.tables.exec = Jvm.exec) (hb : c.code = code) (hr : meth.sig.returnType = ret) (hlocks : meth.locks = false) {pc : Nat} {H : Heap} {ls : Array Slot} (hdg : decode code pc = .ok (.ireturn, 1)) : W p l e room_1 s m #[Value.ref b] below meth c H [] 600000 7302250 (lw_Z below #[Value.ref b] s) (F0 m pc ls [.int 1]) := by
  intro T hT X
  obtain ⟨fs, hret, hrun, hended, hW, hframe⟩ := X.leave (v := some (.int 1)) (hlocks := hlocks) (fun h => by rw [hr] at h; cases h)
  have hmeth' : T.vm.method? m = some meth := X.method'
  refine ⟨T.setFrames fs, ?_, .returned (some (.int 1)), hrun, hended, rfl, ⟨_, rfl⟩, hW, hframe⟩
  jvm_step X.here [X.here.top, hx, hb, hdg, hmeth', hr, ret, narrow_b1]
  (try refine ⟨rfl, ?_⟩); (try refine ⟨rfl, ?_⟩)
  first | (intro acts; rw [hret _ acts rfl rfl rfl]) | rw [hret _ _ rfl rfl rfl]
  exact Steps.refl _
/-- what holds at the law's entry: the machine, the code, the tables' words (any of lw_tbl by 'hts w (by decide +kernel)'), the script of L ints xs at the cell b, what the Statement gives of the start (any of its parts by flat_of_before) -/
def lw_At (p : Program) (s : State) (m : MethodId) (meth : Method) (c : Code) (b L : Nat) (xs : Nat → Int32) : Prop :=
  p.tables.exec = Jvm.exec ∧ c.code = code ∧ meth.sig.returnType = ret ∧ c.maxLocals = 4 ∧ s.vm.findClass R_law = some m.cls ∧ (∀ w ∈ lw_tbl, w.before #[Value.ref b] s = true) ∧ va_X b L xs s s.heap ∧ b < s.heap.size ∧ meth.locks = false ∧ (Jvm.Cond.and given_1 narrow_1).before #[Value.ref b] s = true
theorem wd_1_12 : Cond.classLink RL 7 RX6 ∈ z_tb := z_tbm (z_m1 (List.mem_of_getElem? (i := 12) (by decide +kernel))) (by decide +kernel)
theorem wd_1_13 : Cond.instantiable RX6 8 ∈ z_tb := z_tbm (z_m1 (List.mem_of_getElem? (i := 13) (by decide +kernel))) (by decide +kernel)
theorem wd_1_14 : Cond.methodLink RL 9 yX6_init ∈ z_tb := z_tbm (z_m1 (List.mem_of_getElem? (i := 14) (by decide +kernel))) (by decide +kernel)
theorem wd_1_15 : Cond.instanceMethod yX6_init ∈ z_tb := z_tbm (z_m1 (List.mem_of_getElem? (i := 15) (by decide +kernel))) (by decide +kernel)
theorem wd_1_16 : Cond.code yX6_init cX6_init 2 none ∈ z_tb := z_tbm (z_m1 (List.mem_of_getElem? (i := 16) (by decide +kernel))) (by decide +kernel)
theorem wd_4_153 : Cond.classLink RL 10 RX7 ∈ z_tb := z_tbm (z_m4 (List.mem_of_getElem? (i := 153) (by decide +kernel))) (by decide +kernel)
theorem wd_4_154 : Cond.instantiable RX7 24 ∈ z_tb := z_tbm (z_m4 (List.mem_of_getElem? (i := 154) (by decide +kernel))) (by decide +kernel)
theorem wd_4_155 : Cond.methodLink RL 12 yX7_init ∈ z_tb := z_tbm (z_m4 (List.mem_of_getElem? (i := 155) (by decide +kernel))) (by decide +kernel)
theorem wd_4_156 : Cond.instanceMethod yX7_init ∈ z_tb := z_tbm (z_m4 (List.mem_of_getElem? (i := 156) (by decide +kernel))) (by decide +kernel)
theorem wd_4_157 : Cond.code yX7_init cX7_init 2 none ∈ z_tb := z_tbm (z_m4 (List.mem_of_getElem? (i := 157) (by decide +kernel))) (by decide +kernel)
/-! START: from the constructors' cells to the world; then the loop -/
theorem c_cell {cA : ClassId} {n : Nat} {f g : Nat → Option Nat} (h : ∀ j, j < n → f j = g j) : vp_cell cA (n, .inr (.inr (.inr (.inr f)))) = vp_cell cA (n, .inr (.inr (.inr (.inr g)))) := by
  rw [vp_cell_q, vp_cell_q]
  unfold arrV
  congr 1
  congr 1
  funext j
  show va_rf (f j.val) = va_rf (g j.val)
  rw [h j.val j.isLt]
theorem c_repP {D : va_G} {cl : List vw_C} {H : Heap} {w1 w2 : va_W} {q : Nat} {cA : ClassId} {n : Nat} {f g : Nat → Option Nat} (h : ∀ j, j < n → f j = g j) (hP : va_P D cl (w1 ++ (q, .inl (cA, n, .inr (.inr (.inr (.inr f))))) :: w2) H) : va_P D cl (w1 ++ (q, .inl (cA, n, .inr (.inr (.inr (.inr g))))) :: w2) H := by
  intro k x hk
  rcases List.mem_append.mp (List.mem_of_getElem? hk) with hm | hm
  · obtain ⟨i, hi⟩ := List.getElem?_of_mem hm
    exact hP i x (by rw [List.getElem?_append_left (List.getElem?_eq_some_iff.mp hi).1]; exact hi)
  · rcases List.mem_cons.mp hm with rfl | hm
    · have h2 := hP w1.length (q, .inl (cA, n, .inr (.inr (.inr (.inr f))))) (by rw [List.getElem?_append_right (Nat.le_refl _)]; simp)
      show H[q]? = some (vp_cell cA _)
      rw [← c_cell h]
      exact h2
    · obtain ⟨i, hi⟩ := List.getElem?_of_mem hm
      exact hP (w1.length + 1 + i) x (by rw [List.getElem?_append_right (by omega), show w1.length + 1 + i - w1.length = i + 1 by omega, List.getElem?_cons_succ]; exact hi)
theorem c_repD {A : Nat → Prop} {w1 w2 : va_W} {q : Nat} {e1 e2 : va_E} (hD : va_D A (w1 ++ (q, e1) :: w2)) : va_D A (w1 ++ (q, e2) :: w2) := by
  have h := hD.set (p := w1.length) (a := q) (e0 := e1) (e := e2) (by rw [List.getElem?_append_right (Nat.le_refl _)]; simp)
  rw [List.set_append_right _ _ (Nat.le_refl _)] at h
  simpa using h
theorem c_repP2 {D : va_G} {cl : List vw_C} {H : Heap} {w0 w1 w2 : va_W} {q : Nat} {cA : ClassId} {n : Nat} {f g : Nat → Option Nat} (h : ∀ j, j < n → f j = g j) (hP : va_P D cl (w0 ++ (w1 ++ (q, .inl (cA, n, .inr (.inr (.inr (.inr f))))) :: w2)) H) : va_P D cl (w0 ++ (w1 ++ (q, .inl (cA, n, .inr (.inr (.inr (.inr g))))) :: w2)) H := by
  rw [← List.append_assoc] at hP ⊢
  exact c_repP h hP
theorem c_repD2 {A : Nat → Prop} {w0 w1 w2 : va_W} {q : Nat} {e1 e2 : va_E} (hD : va_D A (w0 ++ (w1 ++ (q, e1) :: w2))) : va_D A (w0 ++ (w1 ++ (q, e2) :: w2)) := by
  rw [← List.append_assoc] at hD ⊢
  exact c_repD hD
def c_M (fS fM : Nat → Int32) : z_M := (fun k _ => if k = 4 then fS else if k = 23 then fM else fun _ => 0, fun _ => 0)
def c_ad (a : List Nat) (qT : Nat → Nat → Nat) (k i : Nat) : Nat := if 7 ≤ k ∧ k ≤ 11 then qT i (k - 7) else a.getD k 0
theorem c_town {G : z_G} {fS fM : Nat → Int32} {i h q0 q1 q2 q3 : Nat} (e0 : z_ad G 7 i = h) (e1 : z_ad G 8 i = q0) (e2 : z_ad G 9 i = q1) (e3 : z_ad G 10 i = q2) (e4 : z_ad G 11 i = q3) : (z_tix i).map (z_ce G (c_M fS fM)) = y_Town G h q0 q1 q2 q3 := by
  subst e0; subst e1; subst e2; subst e3; subst e4
  rfl
theorem c_towns {G : z_G} {fS fM : Nat → Int32} {q : Nat → Nat → Nat} {n : Nat} (h : ∀ i, i < n → ∀ k, k < 5 → z_ad G (7 + k) i = q i k) : ((List.range n).flatMap z_tix).map (z_ce G (c_M fS fM)) = y_Towns G q n := by
  induction n with
  | zero => rfl
  | succ n ih =>
    rw [List.range_succ, List.flatMap_append, List.map_append, ih (fun i hi => h i (by omega)), y_Towns_s rfl rfl rfl rfl rfl]
    congr 1
    show (z_tix n ++ []).map _ = _
    rw [List.append_nil]
    exact c_town (h n (by omega) 0 (by omega)) (h n (by omega) 1 (by omega)) (h n (by omega) 2 (by omega)) (h n (by omega) 3 (by omega)) (h n (by omega) 4 (by omega))
set_option maxRecDepth 100000 in
set_option maxHeartbeats 8000000 in
theorem c_world {D : va_G} {ca : ClassId × ClassId × ClassId × ClassId} {ad0 : Nat → Nat → Nat} {st : Nat → Nat} {bs h hm : Nat} {ws wm : va_W} {H : Heap} {A : Nat → Prop} (ps : y_pStair (D, ca, ad0, st, bs) h ws) (pm : y_pModel (D, ca, ad0, st, bs) hm wm) (hP : va_P D vwCl (ws ++ wm) H) (hD : va_D A (ws ++ wm)) : ∃ (ad : Nat → Nat → Nat) (fS fM : Nat → Int32), (∀ j, j < 8 → fS j = -1) ∧ (∀ j, j < 8 → fM j = -1) ∧ ad 0 0 = h ∧ ad 21 0 = hm ∧ va_P D vwCl (z_ws (D, ca, ad, st, bs) (c_M fS fM)) H ∧ va_D A (z_ws (D, ca, ad, st, bs) (c_M fS fM)) := by
  obtain ⟨q0, q1, q2, q3, q4, q5, q6, t0, t01, t02, t03, t04, t1, t11, t12, t13, t14, fi, w0, w1, w2, w3, w5, w6, p0_, p1_, p2_, p3_, p5_, p6_, ⟨f0, f1⟩, rfl⟩ := ps
  obtain ⟨s0, s1, s2, fS, hS, rfl⟩ := p0_
  obtain ⟨r0, r1, w1b, ⟨u0, u1, u2, u3, rfl⟩, rfl⟩ := p1_
  obtain ⟨c0, c1, c2, c3, rfl⟩ := p2_
  obtain ⟨p0, qT, fT, hT, rfl⟩ := p3_
  obtain ⟨e0, e1, e2, e3, w5b, ⟨v0, v1, v2, v3, rfl⟩, rfl⟩ := p5_
  obtain ⟨a0, rfl⟩ := p6_
  obtain ⟨m0, m1, m2, m3, m4, m5, m6, m7, m8, m9, m10, m11, fM, hM, rfl⟩ := pm
  refine ⟨c_ad (h :: q0 :: s0 :: s1 :: s2 :: q1 :: r0 :: 0 :: 0 :: 0 :: 0 :: 0 :: q3 :: p0 :: q4 :: q5 :: e1 :: e2 :: e3 :: q6 :: a0 :: hm :: m0 :: m1 :: m2 :: m3 :: m4 :: m5 :: m6 :: m7 :: m8 :: m9 :: m10 :: m11 :: []) (fun i k => if i = 24 then [q2, c0, c1, c2, c3].getD k 0 else if i = 25 then [t0, t01, t02, t03, t04].getD k 0 else if i = 26 then [t1, t11, t12, t13, t14].getD k 0 else if i = 27 then [e0, v0, v1, v2, v3].getD k 0 else if i = 28 then [r1, u0, u1, u2, u3].getD k 0 else qT i k), fS, fM, hS, hM, rfl, rfl, ?_⟩
  have hq : ∀ i, i < 24 → ∀ k, k < 5 → c_ad (h :: q0 :: s0 :: s1 :: s2 :: q1 :: r0 :: 0 :: 0 :: 0 :: 0 :: 0 :: q3 :: p0 :: q4 :: q5 :: e1 :: e2 :: e3 :: q6 :: a0 :: hm :: m0 :: m1 :: m2 :: m3 :: m4 :: m5 :: m6 :: m7 :: m8 :: m9 :: m10 :: m11 :: []) (fun i k => if i = 24 then [q2, c0, c1, c2, c3].getD k 0 else if i = 25 then [t0, t01, t02, t03, t04].getD k 0 else if i = 26 then [t1, t11, t12, t13, t14].getD k 0 else if i = 27 then [e0, v0, v1, v2, v3].getD k 0 else if i = 28 then [r1, u0, u1, u2, u3].getD k 0 else qT i k) (7 + k) i = qT i k := by
    intro i hi k hk
    unfold c_ad
    rw [if_pos (by omega), show 7 + k - 7 = k by omega]
    dsimp only
    rw [if_neg (by omega), if_neg (by omega), if_neg (by omega), if_neg (by omega), if_neg (by omega)]
  have hq0 : ∀ j, j < 24 → c_ad (h :: q0 :: s0 :: s1 :: s2 :: q1 :: r0 :: 0 :: 0 :: 0 :: 0 :: 0 :: q3 :: p0 :: q4 :: q5 :: e1 :: e2 :: e3 :: q6 :: a0 :: hm :: m0 :: m1 :: m2 :: m3 :: m4 :: m5 :: m6 :: m7 :: m8 :: m9 :: m10 :: m11 :: []) (fun i k => if i = 24 then [q2, c0, c1, c2, c3].getD k 0 else if i = 25 then [t0, t01, t02, t03, t04].getD k 0 else if i = 26 then [t1, t11, t12, t13, t14].getD k 0 else if i = 27 then [e0, v0, v1, v2, v3].getD k 0 else if i = 28 then [r1, u0, u1, u2, u3].getD k 0 else qT i k) 7 (0 + j) = qT j 0 := by
    intro j hj
    rw [Nat.zero_add]
    exact hq j hj 0 (by omega)
  generalize hG : ((D, ca, c_ad (h :: q0 :: s0 :: s1 :: s2 :: q1 :: r0 :: 0 :: 0 :: 0 :: 0 :: 0 :: q3 :: p0 :: q4 :: q5 :: e1 :: e2 :: e3 :: q6 :: a0 :: hm :: m0 :: m1 :: m2 :: m3 :: m4 :: m5 :: m6 :: m7 :: m8 :: m9 :: m10 :: m11 :: []) (fun i k => if i = 24 then [q2, c0, c1, c2, c3].getD k 0 else if i = 25 then [t0, t01, t02, t03, t04].getD k 0 else if i = 26 then [t1, t11, t12, t13, t14].getD k 0 else if i = 27 then [e0, v0, v1, v2, v3].getD k 0 else if i = 28 then [r1, u0, u1, u2, u3].getD k 0 else qT i k), st, bs) : z_G) = G
  have hw : z_ws G (c_M fS fM) = (h, .inr (6, [.ref q0, .ref q1, .ref q2, .ref q3, .ref q4, .ref q5, .ref q6, .int 0])) :: ([(q0, .inr (4, [.ref s0, .ref s1, .ref s2])), (s0, .inl (ca.1, 320, .inl (fun _ => 0))), (s1, .inl (ca.1, 8, .inl (fun _ => 0))), (s2, .inl (ca.1, 8, .inl fS))] ++ (((q1, .inr (2, [.ref r0, .ref r1, .int 0, .int 0, .int 0, .int 0])) :: (r0, .inl (ca.1, 100, .inl (fun _ => 0))) :: y_Town G r1 u0 u1 u2 u3) ++ (y_Town G q2 c0 c1 c2 c3 ++ (((q3, .inr (1, [.ref p0, .int 0, .int 0])) :: (p0, .inl (ca.2.2.2, 24, .inr (.inr (.inr (.inr (fun j => some (z_ad G 7 (0 + j)))))))) :: y_Towns G qT 24) ++ ((q4, .inl (ca.2.2.2, 2, .inr (.inr (.inr (.inr (fun j => some (z_ad G 7 (25 + j)))))))) :: (y_Town G t0 t01 t02 t03 t04 ++ (y_Town G t1 t11 t12 t13 t14 ++ (((q5, .inr (3, [.ref e0, .ref e1, .ref e2, .ref e3, .int 0])) :: (y_Town G e0 v0 v1 v2 v3 ++ [(e1, .inl (ca.1, 12, .inl (fun _ => 0))), (e2, .inl (ca.1, 5, .inl (fun _ => 0))), (e3, .inl (ca.2.1, 5, .inr (.inl (fun _ => 0))))])) ++ ([(q6, .inr (0, [.ref a0, .int 0, .int 0, .int 0, .int 0, .int 0])), (a0, .inl (ca.1, 16, .inl (fun _ => 0)))] ++ [(hm, .inr (7, [.ref m0, .ref m1, .ref m2, .int 0, .int 0, .ref m3, .ref m4, .ref m5, .int 0, .int 0, .int 0, .int 0, .int 0, .int 0, .int 0, .ref m6, .ref m7, .int 0, .ref m8, .int 0, .ref m9, .ref m10, .ref m11, .int 0])), (m0, .inl (ca.1, 8, .inl (fun _ => 0))), (m1, .inl (ca.1, 8, .inl fM)), (m2, .inl (ca.1, 320, .inl (fun _ => 0))), (m3, .inl (ca.1, 49, .inl (fun _ => 0))), (m4, .inl (ca.1, 40, .inl (fun _ => 0))), (m5, .inl (ca.1, 100, .inl (fun _ => 0))), (m6, .inl (ca.1, 49, .inl (fun _ => 0))), (m7, .inl (ca.1, 1176, .inl (fun _ => 0))), (m8, .inl (ca.1, 49, .inl (fun _ => 0))), (m9, .inl (ca.2.2.1, 2, .inl (fun _ => 0))), (m10, .inl (ca.1, 98, .inl (fun _ => 0))), (m11, .inl (ca.1, 16, .inl (fun _ => 0)))]))))))))) := by
    unfold z_ws z_ixs
    simp only [List.map_append, List.map_cons, List.map_nil]
    rw [c_town (i := 28) (h := r1) (q0 := u0) (q1 := u1) (q2 := u2) (q3 := u3) (by subst hG; rfl) (by subst hG; rfl) (by subst hG; rfl) (by subst hG; rfl) (by subst hG; rfl),
      c_town (i := 24) (h := q2) (q0 := c0) (q1 := c1) (q2 := c2) (q3 := c3) (by subst hG; rfl) (by subst hG; rfl) (by subst hG; rfl) (by subst hG; rfl) (by subst hG; rfl),
      c_town (i := 25) (h := t0) (q0 := t01) (q1 := t02) (q2 := t03) (q3 := t04) (by subst hG; rfl) (by subst hG; rfl) (by subst hG; rfl) (by subst hG; rfl) (by subst hG; rfl),
      c_town (i := 26) (h := t1) (q0 := t11) (q1 := t12) (q2 := t13) (q3 := t14) (by subst hG; rfl) (by subst hG; rfl) (by subst hG; rfl) (by subst hG; rfl) (by subst hG; rfl),
      c_town (i := 27) (h := e0) (q0 := v0) (q1 := v1) (q2 := v2) (q3 := v3) (by subst hG; rfl) (by subst hG; rfl) (by subst hG; rfl) (by subst hG; rfl) (by subst hG; rfl),
      c_towns (q := qT) (n := 24) (fun i hi k hk => by subst hG; exact hq i hi k hk)]
    subst hG
    rfl
  have hT2 : ∀ j, j < 24 → fT j = (fun j => some (z_ad G 7 (0 + j))) j := by
    intro j hj
    subst hG
    rw [hT j hj]
    exact congrArg some (hq0 j hj).symm
  have hI2 : ∀ j, j < 2 → fi j = (fun j => some (z_ad G 7 (25 + j))) j := by
    intro j hj
    subst hG
    rcases (show j = 0 ∨ j = 1 by omega) with rfl | rfl
    · exact f0
    · exact f1
  rw [hw]
  have eT : ∀ h a b c d, y_Town (D, ca, ad0, st, bs) h a b c d = y_Town G h a b c d := by subst hG; intros; rfl
  have eS : y_Towns (D, ca, ad0, st, bs) qT 24 = y_Towns G qT 24 := by subst hG; rfl
  simp only [eT, eS] at hP hD
  have hg : z_cI G = ca.1 := by subst hG; rfl
  clear hw eT eS
  generalize y_Towns G qT 24 = TT at hP hD ⊢
  generalize (fun j => some (z_ad G 7 (0 + j))) = gT at hT2 ⊢
  generalize (fun j => some (z_ad G 7 (25 + j))) = gI at hI2 ⊢
  simp only [y_Town, hg] at hP hD ⊢
  simp only [List.cons_append, List.append_assoc, List.nil_append, z_cI, z_cJ, z_cZ, z_cT] at hP hD ⊢
  constructor
  · have h1 := c_repP (w1 := ((h, .inr (6, [.ref q0, .ref q1, .ref q2, .ref q3, .ref q4, .ref q5, .ref q6, .int 0])) :: (q0, .inr (4, [.ref s0, .ref s1, .ref s2])) :: (s0, .inl (ca.1, 320, .inl (fun _ => 0))) :: (s1, .inl (ca.1, 8, .inl (fun _ => 0))) :: (s2, .inl (ca.1, 8, .inl fS)) :: (q1, .inr (2, [.ref r0, .ref r1, .int 0, .int 0, .int 0, .int 0])) :: (r0, .inl (ca.1, 100, .inl (fun _ => 0))) :: (r1, .inr (5, [.ref u0, .ref u1, .ref u2, .ref u3, .int 0, .int 0, .int 0, .int 0, .int 0])) :: (u0, .inl (ca.1, 8, .inl (fun _ => 0))) :: (u1, .inl (ca.1, 8, .inl (fun _ => 0))) :: (u2, .inl (ca.1, 8, .inl (fun _ => 0))) :: (u3, .inl (ca.1, 20, .inl (fun _ => 0))) :: (q2, .inr (5, [.ref c0, .ref c1, .ref c2, .ref c3, .int 0, .int 0, .int 0, .int 0, .int 0])) :: (c0, .inl (ca.1, 8, .inl (fun _ => 0))) :: (c1, .inl (ca.1, 8, .inl (fun _ => 0))) :: (c2, .inl (ca.1, 8, .inl (fun _ => 0))) :: (c3, .inl (ca.1, 20, .inl (fun _ => 0))) :: (q3, .inr (1, [.ref p0, .int 0, .int 0])) :: [])) (q := p0) (cA := ca.2.2.2) (n := 24) hT2 hP
    exact c_repP2 (w0 := ((h, .inr (6, [.ref q0, .ref q1, .ref q2, .ref q3, .ref q4, .ref q5, .ref q6, .int 0])) :: (q0, .inr (4, [.ref s0, .ref s1, .ref s2])) :: (s0, .inl (ca.1, 320, .inl (fun _ => 0))) :: (s1, .inl (ca.1, 8, .inl (fun _ => 0))) :: (s2, .inl (ca.1, 8, .inl fS)) :: (q1, .inr (2, [.ref r0, .ref r1, .int 0, .int 0, .int 0, .int 0])) :: (r0, .inl (ca.1, 100, .inl (fun _ => 0))) :: (r1, .inr (5, [.ref u0, .ref u1, .ref u2, .ref u3, .int 0, .int 0, .int 0, .int 0, .int 0])) :: (u0, .inl (ca.1, 8, .inl (fun _ => 0))) :: (u1, .inl (ca.1, 8, .inl (fun _ => 0))) :: (u2, .inl (ca.1, 8, .inl (fun _ => 0))) :: (u3, .inl (ca.1, 20, .inl (fun _ => 0))) :: (q2, .inr (5, [.ref c0, .ref c1, .ref c2, .ref c3, .int 0, .int 0, .int 0, .int 0, .int 0])) :: (c0, .inl (ca.1, 8, .inl (fun _ => 0))) :: (c1, .inl (ca.1, 8, .inl (fun _ => 0))) :: (c2, .inl (ca.1, 8, .inl (fun _ => 0))) :: (c3, .inl (ca.1, 20, .inl (fun _ => 0))) :: (q3, .inr (1, [.ref p0, .int 0, .int 0])) :: (p0, .inl (ca.2.2.2, 24, .inr (.inr (.inr (.inr gT))))) :: [])) (w1 := TT) (q := q4) (cA := ca.2.2.2) (n := 2) hI2 h1
  · have h1 := c_repD (w1 := ((h, .inr (6, [.ref q0, .ref q1, .ref q2, .ref q3, .ref q4, .ref q5, .ref q6, .int 0])) :: (q0, .inr (4, [.ref s0, .ref s1, .ref s2])) :: (s0, .inl (ca.1, 320, .inl (fun _ => 0))) :: (s1, .inl (ca.1, 8, .inl (fun _ => 0))) :: (s2, .inl (ca.1, 8, .inl fS)) :: (q1, .inr (2, [.ref r0, .ref r1, .int 0, .int 0, .int 0, .int 0])) :: (r0, .inl (ca.1, 100, .inl (fun _ => 0))) :: (r1, .inr (5, [.ref u0, .ref u1, .ref u2, .ref u3, .int 0, .int 0, .int 0, .int 0, .int 0])) :: (u0, .inl (ca.1, 8, .inl (fun _ => 0))) :: (u1, .inl (ca.1, 8, .inl (fun _ => 0))) :: (u2, .inl (ca.1, 8, .inl (fun _ => 0))) :: (u3, .inl (ca.1, 20, .inl (fun _ => 0))) :: (q2, .inr (5, [.ref c0, .ref c1, .ref c2, .ref c3, .int 0, .int 0, .int 0, .int 0, .int 0])) :: (c0, .inl (ca.1, 8, .inl (fun _ => 0))) :: (c1, .inl (ca.1, 8, .inl (fun _ => 0))) :: (c2, .inl (ca.1, 8, .inl (fun _ => 0))) :: (c3, .inl (ca.1, 20, .inl (fun _ => 0))) :: (q3, .inr (1, [.ref p0, .int 0, .int 0])) :: [])) (q := p0) (e2 := .inl (ca.2.2.2, 24, .inr (.inr (.inr (.inr gT))))) hD
    exact c_repD2 (w0 := ((h, .inr (6, [.ref q0, .ref q1, .ref q2, .ref q3, .ref q4, .ref q5, .ref q6, .int 0])) :: (q0, .inr (4, [.ref s0, .ref s1, .ref s2])) :: (s0, .inl (ca.1, 320, .inl (fun _ => 0))) :: (s1, .inl (ca.1, 8, .inl (fun _ => 0))) :: (s2, .inl (ca.1, 8, .inl fS)) :: (q1, .inr (2, [.ref r0, .ref r1, .int 0, .int 0, .int 0, .int 0])) :: (r0, .inl (ca.1, 100, .inl (fun _ => 0))) :: (r1, .inr (5, [.ref u0, .ref u1, .ref u2, .ref u3, .int 0, .int 0, .int 0, .int 0, .int 0])) :: (u0, .inl (ca.1, 8, .inl (fun _ => 0))) :: (u1, .inl (ca.1, 8, .inl (fun _ => 0))) :: (u2, .inl (ca.1, 8, .inl (fun _ => 0))) :: (u3, .inl (ca.1, 20, .inl (fun _ => 0))) :: (q2, .inr (5, [.ref c0, .ref c1, .ref c2, .ref c3, .int 0, .int 0, .int 0, .int 0, .int 0])) :: (c0, .inl (ca.1, 8, .inl (fun _ => 0))) :: (c1, .inl (ca.1, 8, .inl (fun _ => 0))) :: (c2, .inl (ca.1, 8, .inl (fun _ => 0))) :: (c3, .inl (ca.1, 20, .inl (fun _ => 0))) :: (q3, .inr (1, [.ref p0, .int 0, .int 0])) :: (p0, .inl (ca.2.2.2, 24, .inr (.inr (.inr (.inr gT))))) :: [])) (w1 := TT) (q := q4) (e2 := .inl (ca.2.2.2, 2, .inr (.inr (.inr (.inr gI))))) h1
set_option maxRecDepth 100000 in
set_option maxHeartbeats 8000000 in
theorem whole_start {p : Program} {e : Env} {s : State} {m : MethodId} {below : List Frame} {meth : Method} {c : Code} (l : Launch) (hflags : l.flags = flags0) {b L : Nat} {xs : Nat → Int32} (hL : L ≤ 4096) (C0 : lw_At p s m meth c b L xs) : W p l e room_1 s m #[Value.ref b] below meth c s.heap [] 0 0 (lw_Z below #[Value.ref b] s) (entryFrame m ([Value.ref b] : List Value).toArray 4) := by
  obtain ⟨hx, hb, hr, hml, hown, hts, hX, hbl, hlocks, hgv⟩ := id C0
  have hgs := flat_of_before _ hgv
  have hts2 : ∀ w ∈ z_tb, w.before #[Value.ref b] s = true := fun w hw => hts w (List.mem_filter.mp hw).1
  have hc : z_C p s m #[Value.ref b] meth c RL code 4 ret := ⟨⟨hx, hb, hml, hown, hts2⟩, hr, hlocks⟩
  obtain ⟨c0, i0, k0⟩ := u_known (C := RX0) (T := TX0) (N := 6) (n := 6) hts2 z_inX0 (hts2 _ wd_1_143)
  obtain ⟨c1, i1, k1⟩ := u_known (C := RX1) (T := TX1) (N := 3) (n := 3) hts2 z_inX1 (hts2 _ wd_1_99)
  obtain ⟨c2, i2, k2⟩ := u_known (C := RX2) (T := TX2) (N := 6) (n := 6) hts2 z_inX2 (hts2 _ wd_1_38)
  obtain ⟨c3, i3, k3⟩ := u_known (C := RX3) (T := TX3) (N := 5) (n := 5) hts2 z_inX3 (hts2 _ wd_1_118)
  obtain ⟨c4, i4, k4⟩ := u_known (C := RX4) (T := TX4) (N := 3) (n := 3) hts2 z_inX4 (hts2 _ wd_1_21)
  obtain ⟨c5, i5, k5⟩ := u_known (C := RX5) (T := TX5) (N := 9) (n := 9) hts2 z_inX5 (hts2 _ wd_1_44)
  obtain ⟨c6, i6, k6⟩ := u_known (C := RX6) (T := TX6) (N := 8) (n := 8) hts2 z_inX6 (hts2 _ wd_1_13)
  obtain ⟨c7, i7, k7⟩ := u_known (C := RX7) (T := TX7) (N := 24) (n := 24) hts2 z_inX7 (hts2 _ wd_4_154)
  obtain ⟨dC, dI, hKc⟩ : ∃ (dC : Nat → ClassId) (dI : Nat → Nat → Nat), ∀ (k : Nat) (q : vw_C), vwCl[k]? = some q → u_Kn s q.1 q.2.1 q.2.2 (dC k) (dI k) := by
    refine ⟨fun k => if k = 0 then c0 else if k = 1 then c1 else if k = 2 then c2 else if k = 3 then c3 else if k = 4 then c4 else if k = 5 then c5 else if k = 6 then c6 else c7, fun k => if k = 0 then i0 else if k = 1 then i1 else if k = 2 then i2 else if k = 3 then i3 else if k = 4 then i4 else if k = 5 then i5 else if k = 6 then i6 else i7, ?_⟩
    intro k q hq
    match k, hq with
    | 0, hq => cases hq; exact k0
    | 1, hq => cases hq; exact k1
    | 2, hq => cases hq; exact k2
    | 3, hq => cases hq; exact k3
    | 4, hq => cases hq; exact k4
    | 5, hq => cases hq; exact k5
    | 6, hq => cases hq; exact k6
    | 7, hq => cases hq; exact k7
    | k + 8, hq => simp [vwCl] at hq
  obtain ⟨cI, kcI, ocI, fcI, gcI, hcI⟩ := Cond.arrayClass_spec (hts2 (.arrayClass .int) wd_1_36)
  obtain ⟨cJ, kcJ, ocJ, fcJ, gcJ, hcJ⟩ := Cond.arrayClass_spec (hts2 (.arrayClass .long) wd_1_141)
  obtain ⟨cZ, kcZ, ocZ, fcZ, gcZ, hcZ⟩ := Cond.arrayClass_spec (hts2 (.arrayClass .boolean) wd_4_232)
  obtain ⟨oT, cT, kT, fT, -, gT, hT, nT⟩ := Cond.arrayOver_spec (hts (.arrayOver (.object RX5)) (z_m1 (List.mem_of_getElem? (i := 105) (by decide +kernel))))
  obtain ⟨st0, es0, hT0⟩ := va_Tof (args := #[Value.ref b]) (s := s) (tm := (.static "StairTunes$Asks" "ABOVE" "[I")) (ty := .int) (N := 6) (f := fun t => .int (z_sv 0 t)) (A := fun q => s.heap.size ≤ q) (by decide) (hgs (.arrayOf (.static "StairTunes$Asks" "ABOVE" "[I") .int) (by decide +kernel)) (va_eqt (hgs (.eq (.length (.static "StairTunes$Asks" "ABOVE" "[I")) (.int 6)) (by decide +kernel))) (fun j hj => by
    rcases (show j = 0 ∨ j = 1 ∨ j = 2 ∨ j = 3 ∨ j = 4 ∨ j = 5 by omega) with rfl | rfl | rfl | rfl | rfl | rfl
    · exact va_eqt (hgs (.eq (.elem (.static "StairTunes$Asks" "ABOVE" "[I") (.int 0)) (.int (-1))) (by decide +kernel))
    · exact va_eqt (hgs (.eq (.elem (.static "StairTunes$Asks" "ABOVE" "[I") (.int 1)) (.int (0))) (by decide +kernel))
    · exact va_eqt (hgs (.eq (.elem (.static "StairTunes$Asks" "ABOVE" "[I") (.int 2)) (.int (1))) (by decide +kernel))
    · exact va_eqt (hgs (.eq (.elem (.static "StairTunes$Asks" "ABOVE" "[I") (.int 3)) (.int (1))) (by decide +kernel))
    · exact va_eqt (hgs (.eq (.elem (.static "StairTunes$Asks" "ABOVE" "[I") (.int 4)) (.int (0))) (by decide +kernel))
    · exact va_eqt (hgs (.eq (.elem (.static "StairTunes$Asks" "ABOVE" "[I") (.int 5)) (.int (4))) (by decide +kernel))) (fun a ha => Nat.not_le.mpr ha)
  have hZ0 := va_Zof (v := .ref st0) (A := fun q => s.heap.size ≤ q) (hts (.laysStatic "StairTunes$Asks" "ABOVE" "[I") (z_m4 (List.mem_of_getElem? (i := 85) (by decide +kernel)))) (hts2 (.initialized RX0) wd_1_7) es0 (fun a ha => Nat.not_le.mpr ha)
  obtain ⟨st1, es1, hT1⟩ := va_Tof (args := #[Value.ref b]) (s := s) (tm := (.static "StairTunes$Asks" "SIZE_BODIES" "[I")) (ty := .int) (N := 6) (f := fun t => .int (z_sv 1 t)) (A := fun q => s.heap.size ≤ q) (by decide) (hgs (.arrayOf (.static "StairTunes$Asks" "SIZE_BODIES" "[I") .int) (by decide +kernel)) (va_eqt (hgs (.eq (.length (.static "StairTunes$Asks" "SIZE_BODIES" "[I")) (.int 6)) (by decide +kernel))) (fun j hj => by
    rcases (show j = 0 ∨ j = 1 ∨ j = 2 ∨ j = 3 ∨ j = 4 ∨ j = 5 by omega) with rfl | rfl | rfl | rfl | rfl | rfl
    · exact va_eqt (hgs (.eq (.elem (.static "StairTunes$Asks" "SIZE_BODIES" "[I") (.int 0)) (.int (10))) (by decide +kernel))
    · exact va_eqt (hgs (.eq (.elem (.static "StairTunes$Asks" "SIZE_BODIES" "[I") (.int 1)) (.int (11))) (by decide +kernel))
    · exact va_eqt (hgs (.eq (.elem (.static "StairTunes$Asks" "SIZE_BODIES" "[I") (.int 2)) (.int (12))) (by decide +kernel))
    · exact va_eqt (hgs (.eq (.elem (.static "StairTunes$Asks" "SIZE_BODIES" "[I") (.int 3)) (.int (0))) (by decide +kernel))
    · exact va_eqt (hgs (.eq (.elem (.static "StairTunes$Asks" "SIZE_BODIES" "[I") (.int 4)) (.int (13))) (by decide +kernel))
    · exact va_eqt (hgs (.eq (.elem (.static "StairTunes$Asks" "SIZE_BODIES" "[I") (.int 5)) (.int (14))) (by decide +kernel))) (fun a ha => Nat.not_le.mpr ha)
  have hZ1 := va_Zof (v := .ref st1) (A := fun q => s.heap.size ≤ q) (hts (.laysStatic "StairTunes$Asks" "SIZE_BODIES" "[I") (z_m4 (List.mem_of_getElem? (i := 103) (by decide +kernel)))) (hts2 (.initialized RX0) wd_1_7) es1 (fun a ha => Nat.not_le.mpr ha)
  obtain ⟨st2, es2, hT2⟩ := va_Tof (args := #[Value.ref b]) (s := s) (tm := (.static "StairTunes$Asks" "MARK_BODIES" "[I")) (ty := .int) (N := 6) (f := fun t => .int (z_sv 2 t)) (A := fun q => s.heap.size ≤ q) (by decide) (hgs (.arrayOf (.static "StairTunes$Asks" "MARK_BODIES" "[I") .int) (by decide +kernel)) (va_eqt (hgs (.eq (.length (.static "StairTunes$Asks" "MARK_BODIES" "[I")) (.int 6)) (by decide +kernel))) (fun j hj => by
    rcases (show j = 0 ∨ j = 1 ∨ j = 2 ∨ j = 3 ∨ j = 4 ∨ j = 5 by omega) with rfl | rfl | rfl | rfl | rfl | rfl
    · exact va_eqt (hgs (.eq (.elem (.static "StairTunes$Asks" "MARK_BODIES" "[I") (.int 0)) (.int (20))) (by decide +kernel))
    · exact va_eqt (hgs (.eq (.elem (.static "StairTunes$Asks" "MARK_BODIES" "[I") (.int 1)) (.int (21))) (by decide +kernel))
    · exact va_eqt (hgs (.eq (.elem (.static "StairTunes$Asks" "MARK_BODIES" "[I") (.int 2)) (.int (24))) (by decide +kernel))
    · exact va_eqt (hgs (.eq (.elem (.static "StairTunes$Asks" "MARK_BODIES" "[I") (.int 3)) (.int (22))) (by decide +kernel))
    · exact va_eqt (hgs (.eq (.elem (.static "StairTunes$Asks" "MARK_BODIES" "[I") (.int 4)) (.int (23))) (by decide +kernel))
    · exact va_eqt (hgs (.eq (.elem (.static "StairTunes$Asks" "MARK_BODIES" "[I") (.int 5)) (.int (0))) (by decide +kernel))) (fun a ha => Nat.not_le.mpr ha)
  have hZ2 := va_Zof (v := .ref st2) (A := fun q => s.heap.size ≤ q) (hts (.laysStatic "StairTunes$Asks" "MARK_BODIES" "[I") (z_m4 (List.mem_of_getElem? (i := 121) (by decide +kernel)))) (hts2 (.initialized RX0) wd_1_7) es2 (fun a ha => Nat.not_le.mpr ha)
  have hK : va_K (dC, dI) vwCl [(cI, .int), (cJ, .long), (cZ, .boolean), (cT, .object RX5)] s := ⟨hKc, fun k q h => by
    match k, h with
    | 0, h => cases h; exact ⟨fun n z => ⟨fun k h => (by cases h), kcI, gcI, ocI, hcI⟩, fcI⟩
    | 1, h => cases h; exact ⟨fun n z => ⟨fun k h => (by cases h), kcJ, gcJ, ocJ, hcJ⟩, fcJ⟩
    | 2, h => cases h; exact ⟨fun n z => ⟨fun k h => (by cases h), kcZ, gcZ, ocZ, hcZ⟩, fcZ⟩
    | 3, h => cases h; exact ⟨fun n z => ⟨fun k h => (by cases h), kT, gT, oT, hT⟩, kT, oT, gT, hT, fT, nT⟩
    | k + 4, h => simp at h⟩
  have hAO : va_AO RX5 s := va_AO.of (hts (.arrayOver (.object RX5)) (z_m1 (List.mem_of_getElem? (i := 105) (by decide +kernel))))
  obtain ⟨st, hst0, hst1, hst2⟩ : ∃ st : Nat → Nat, st 0 = st0 ∧ st 1 = st1 ∧ st 2 = st2 := ⟨fun j => if j = 0 then st0 else if j = 1 then st1 else st2, rfl, rfl, rfl⟩
  obtain ⟨G0, hG0⟩ : ∃ G0 : z_G, G0 = ((dC, dI), (cI, cJ, cZ, cT), (fun _ _ => 0), st, s.heap.size) := ⟨_, rfl⟩
  have hI : y_I G0 (fun q => s.heap.size ≤ q) s [] s.heap [] := by
    subst hG0
    exact ⟨⟨hK, hAO⟩, fun k q h => by simp at h, ⟨fun i j p q h => by simp at h, fun k q h => by simp at h⟩, va_S.rf, fun q h => h⟩
  have hl := lv_entry ([.ref b]) (n := 4) (Nat.le_of_ble_eq_true rfl)
  rw [lg_entry_eq]
  generalize (lg_sl ([.ref b]) ++ List.replicate (4 - (lg_sl ([.ref b])).length) Slot.unset).toArray = ls at hl ⊢
  have hl : lv_has ls 4 [(0, .ref b)] := hl
  refine y_new hc hI (y_X6_init (G := G0) (l := l)) (T := TX6) (N := 8) rfl rfl (by decide +kernel) rfl z_inX6 tyX6 tyX6_ok (by decide) wd_1_12 wd_1_13 wd_1_1 wd_1_14 wd_1_15 wd_1_16 hl.1 (Nat.le_of_ble_eq_true rfl) (by decide) (by decide) (by decide) dL_law_0 dL_law_3 dL_law_4 (fun x6 x6w H locs p6 hI => ?_)
  refine lv_astore_n (lv' := [(1, .ref x6), (0, .ref b)]) hx hb dL_law_7 rfl hl (by decide) rfl (fun ls hl => ?_)
  refine y_new hc hI (y_X7_init (G := G0) (l := l)) (T := TX7) (N := 24) rfl rfl (by decide +kernel) rfl z_inX7 tyX7 tyX7_ok (by decide) wd_4_153 wd_4_154 wd_1_8 wd_4_155 wd_4_156 wd_4_157 hl.1 (Nat.le_of_ble_eq_true rfl) (by decide) (by decide) (by decide) dL_law_8 dL_law_11 dL_law_12 (fun x7 x7w H locs p7 hI => ?_)
  refine lv_astore_n (lv' := [(2, .ref x7), (1, .ref x6), (0, .ref b)]) hx hb dL_law_15 rfl hl (by decide) rfl (fun ls hl => ?_)
  refine lv_iconst (v := 0) hx hb dL_law_16 (by decide) ?_
  refine lv_istore_n (lv' := [(3, .int (nI (8 * 0))), (2, .ref x7), (1, .ref x6), (0, .ref b)]) hx hb dL_law_17 rfl hl (by decide) rfl (fun ls hl => ?_)
  obtain ⟨-, hP, hD, hS, -⟩ := hI
  subst hG0
  obtain ⟨ad, fS, fM, hfS, hfM, a0, a21, hP, hD⟩ := c_world p6 p7 hP hD
  subst a0; subst a21
  have hI : z_I ((dC, dI), (cI, cJ, cZ, cT), ad, st, s.heap.size) s (c_M fS fM) H locs := by
    refine ⟨⟨hK, fun j hj => ?_, fun j hj => ?_⟩, hP, hD, hS, Nat.le_refl _⟩
    · rcases (show j = 0 ∨ j = 1 ∨ j = 2 by omega) with rfl | rfl | rfl
      · show va_Z _ _ _ (.ref (st 0)) _ _ _; rw [hst0]; exact hZ0
      · show va_Z _ _ _ (.ref (st 1)) _ _ _; rw [hst1]; exact hZ1
      · show va_Z _ _ _ (.ref (st 2)) _ _ _; rw [hst2]; exact hZ2
    · rcases (show j = 0 ∨ j = 1 ∨ j = 2 by omega) with rfl | rfl | rfl
      · show va_T _ (st 0) _ _ _ _ _; rw [hst0]; exact hT0
      · show va_T _ (st 1) _ _ _ _ _; rw [hst1]; exact hT1
      · show va_T _ (st 2) _ _ _ _ _; rw [hst2]; exact hT2
  refine lc_loop hL hc hX hbl (show ¬ z_A ((dC, dI), (cI, cJ, cZ, cT), ad, st, s.heap.size) b from Nat.not_le.mpr hbl) ⟨by decide, by decide⟩ (fun H locs ls M hI => ?_) 513 0 (by omega) (by decide) _ H locs ls (z_Rel_0 hfS hfM) hI (lv_sub hl [3, 2, 1, 0] rfl)
  refine lv_iconst (v := 1) hx hb dL_law_1526 (by decide) ?_
  refine va_forget hI.2.2.2.1.2.2 ?_
  refine W.widen (k := 600000) (n := 7302250) (by decide) (by decide) ?_
  exact lw_ret hx hb hr hlocks dL_law_1527
-- ===== YOUR PART ENDS =====
set_option maxHeartbeats 4000000 in
theorem lw_walk (l : Launch) (hflags : l.flags = flags0) (b : Addr) (xs : List Int32) : MetFree l x (headSpec (Jvm.Cond.code x code maxLocals ret :: tables_1) room_1) (lw_P b xs) (fun _ _ _ _ _ => True) lw_Q := by
  refine MetFree.of_bodyS (code := code) (maxLocals := maxLocals) (ret := ret) (by decide) ?_ ?_
  · intro args s m h hn
    obtain ⟨meth, c, h1, h2, h3, h4, h5, h6, -, -⟩ := Cond.code_spec hn (atoms_spec (ws := Jvm.Cond.code x code maxLocals ret :: tables_1) h _ List.mem_cons_self)
    exact ⟨meth, c, h1, h2, h3, h4, h5, h6⟩
  · intro p e s m args below meth c s₁ B hml0 hP _
    obtain ⟨rfl, hx, hbd, hgv⟩ := hP
    obtain ⟨scr, harrAt, hlist, hof, hsmall⟩ := hx
    obtain ⟨hcb, hkn, -, -⟩ := State.arrayAt?_spec harrAt
    have hown : s.vm.findClass R_law = some m.cls := findClass_of_methodNamed B.named
    have hts0 : ∀ c ∈ (Jvm.Cond.code x code maxLocals ret :: tables_1), c.before #[Value.ref b] s = true := atoms_spec (ws := Jvm.Cond.code x code maxLocals ret :: tables_1) B.pre
    have hts : ∀ w ∈ lw_tbl, w.before #[Value.ref b] s = true := k2_hts_sels lw_privs (fun w hw => hts0 w (List.mem_cons_of_mem _ hw)) lw_privs_ok
    have hml : c.maxLocals = 4 := B.maxLocals_eq (hts0 _ List.mem_cons_self)
    have X₀ : Stand p l e room_1 s m #[Value.ref b] below meth c s₁ [] 0 0 := Stand.of_body B
    have hh0 : s₁.heap = s.heap := by rw [B.state]; rfl
    have hsz : scr.slots.size = xs.length := by rw [← Array.length_toList, hlist, List.length_map]
    have hval : ∀ j : Nat, j < xs.length → scr.slots[j]? = some (.int (xs.getD j 0)) := fun j hj => by
      rw [← Array.getElem?_toList, hlist]
      simp [hj]
    have hbl : b < s.heap.size := (Array.getElem?_eq_some_iff.mp hcb).1
    have hX : va_X b xs.length (fun j => xs.getD j 0) s s.heap := ⟨scr, hcb, hof, hkn, hsz, hval⟩
    have K : W p l e room_1 s m #[Value.ref b] below meth c s₁.heap [] 0 0 (lw_Z below #[Value.ref b] s) (entryFrame m ([Value.ref b] : List Value).toArray 4) := by
      rw [hh0]
      exact whole_start l hflags hbd ⟨B.exec, B.bytes, B.returns, hml, hown, hts, hX, hbl, B.notSynchronized, hgv⟩
    obtain ⟨t, a1, o, b1, b2, b3⟩ := K s₁ rfl X₀
    exact ⟨t, o, a1, b1, b2, b3⟩
theorem lw_pre_spec {args : Array Value} {s : State} (h : (Jvm.Cond.and given_1 narrow_1).before args s = true) (hr : rest_1_c.before args s = true) : ∃ (b : Addr) (xs : List Int32), lw_P b xs args s := by
  have hs := flat_of_before _ h
  have hq := flat_of_before _ hr
  have hc : (Cond.count 1).before args s = true := hs _ (by decide +kernel)
  have harr : (Cond.arrayOf (.arg 0) .int).before args s = true := hs _ (by decide +kernel)
  have hle : (Cond.le (.length (.arg 0)) (.int 4096)).before args s = true := hs _ (by decide +kernel)
  have hlen : (Cond.isInt (.length (.arg 0))).before args s = true := hq _ (by decide +kernel)
  have hall : (Cond.all (.arg 0) (.isInt (.elem (.arg 0) (.index 0)))).before args s = true := hq _ (by decide +kernel)
  obtain ⟨b, xs, hb, hx⟩ := State.ints_of_pre rfl harr hlen hall
  have hsm : xs.length < 2 ^ 31 := hx.choose_spec.2.2.2
  have hev : (Term.length (.arg 0)).eval args s none [] s = some (.int xs.length.toInt32) := hx.length_eval hb
  have hv := Cond.le_ints hev (show (Term.int 4096).eval args s none [] s = some (.int 4096) from rfl)
  have hd : xs.length.toInt32 ≤ 4096 := by
    simpa [Cond.before, Cond.holds, hv] using hle
  have hN : xs.length ≤ 4096 := (Int32.ofNat_le_ofNat hsm (by decide)).mp (show Int32.ofNat xs.length ≤ Int32.ofNat 4096 from hd)
  exact ⟨b, xs, Cond.one_arg hc (show args[0]? = some (.ref b) from hb), hx, hN, h⟩
theorem lw_comes (l : Launch) (hflags : l.flags = flags0) : Comes l x (Jvm.Cond.code x code maxLocals ret :: tables_1) room_1 (fun tb e args s => Calls_1 tb e args s ∧ rest_1 tb e args s ∧ Pre_1 tb e args s)
    (fun _ _ args s o t => lw_Q args s o t) := by
  intro p e ha hc hk s m args below hf hfit hheap happ hpre
  obtain ⟨b, xs, hP⟩ := lw_pre_spec hpre.2.2 hpre.2.1
  obtain ⟨k, o, h1, h2, h3, hQ⟩ := lw_walk l hflags b xs p e ha hc hk s m args below hf ((Spec.applies_iff_loose hf).mp happ).1 hP trivial
  exact ⟨k, o, h1, h2, h3, hQ⟩
theorem lw_frame {s t : State} {o : Outcome} {args : Array Value} (h : Framed s o t [] 600000 7302250) :
    Framed s o t (fieldLocs frame_1_writes args s ++ arrayLocs frame_1_arrays args s ++ staticLocs frame_1_statics s) 600000 7302250 := h
theorem lw_limb (L : Cond) (hL : ∀ (args : Array Value) (s t : State), L.after args s (.returned (some (.int 1))) t = true) :
    ArmFor flags0 classFile x code maxLocals ret World_1 tables_1 room_1 Calls_1 rest_1 Pre_1
      (fun tb e a s o t => postC L tb e a s o t ∧ Framed s o t (fieldLocs frame_1_writes a s ++ arrayLocs frame_1_arrays a s ++ staticLocs frame_1_statics s) 600000 7302250) := by
  intro l hflags _ _ p e ha hc hk s m args below hf hfit hheap happ hpre
  obtain ⟨k, o, h1, h2, h3, rfl, hF⟩ := lw_comes l hflags p e ha hc hk s m args below hf hfit hheap happ hpre
  exact ⟨k, _, h1, h2, h3, hL args s _, lw_frame hF⟩
theorem i_vc : Claimed_1_1 ∧ Claimed_1_2 := ⟨lw_limb limb_1_1 (fun args s t => by simp [limb_1_1, Cond.after, Cond.holds, Cond.value]), lw_limb limb_1_2 (fun args s t => Cond.after_iff.mpr (by
  first | (rw [show limb_1_2 = Cond.eq .result (.int 1) from rfl, Cond.eq_ints (x := 1) (y := 1) rfl rfl]; simp; done) | (simp [limb_1_2, Cond.value, Term.eval]; done)))⟩
