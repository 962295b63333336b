/-! BASE: the memory of the two systems as numbers; the world that holds it; contracts over it -/
-- the numbers of all cells: kind, index, place; and the long array
abbrev z_M : Type := (Nat → Nat → Nat → Int32) × (Nat → Int64)
def z_gi (M : z_M) (k i j : Nat) : Int32 := M.1 k i j
def z_gl (M : z_M) (j : Nat) : Int64 := M.2 j
def z_si (M : z_M) (k i j : Nat) (v : Int32) : z_M := (fun a b c => if a = k ∧ b = i ∧ c = j then v else M.1 a b c, M.2)
def z_sl (M : z_M) (j : Nat) (v : Int64) : z_M := (M.1, fun c => if c = j then v else M.2 c)
def z_cp (M : z_M) (k i k' i' sp dp n : Nat) : z_M := (fun a b c => if a = k' ∧ b = i' ∧ dp ≤ c ∧ c < dp + n then M.1 k i (sp + (c - dp)) else M.1 a b c, M.2)
-- steps of the functions that tell what a method does
abbrev z_in (x : Int32) (n : Nat) : Prop := ¬ (x < 0 ∨ n ≤ x.toNatClampNeg)
def z_grd {α : Type} (p : Prop) [Decidable p] (x : Option α) : Option α := if p then x else none
def z_nmI {α : Type} (e : Int32) (f : Int32 → Option α) : Option α := f e
def z_nmL {α : Type} (e : Int64) (f : Int64 → Option α) : Option α := f e
theorem z_grd_some {α : Type} {p : Prop} [Decidable p] {x : Option α} {y : α} (h : z_grd p x = some y) : p ∧ x = some y := by
  unfold z_grd at h
  split at h
  · rename_i hp; exact ⟨hp, h⟩
  · cases h
theorem z_bnd {α β : Type} {x : Option α} {f : α → Option β} {y : β} (h : x.bind f = some y) : ∃ z, x = some z ∧ f z = some y := Option.bind_eq_some_iff.mp h
theorem z_ift {α : Type} {p : Prop} [Decidable p] {A B : α} {y : α} (h : (if p then A else B) = y) (c : p) : A = y := (if_pos c).symm.trans h
theorem z_iff {α : Type} {p : Prop} [Decidable p] {A B : α} {y : α} (h : (if p then A else B) = y) (c : ¬ p) : B = y := (if_neg c).symm.trans h
-- what is fixed: the classes' numbers, the array classes, the addresses, the statics' addresses, the first address of ours
abbrev z_G : Type := va_G × (ClassId × ClassId × ClassId × ClassId) × (Nat → Nat → Nat) × (Nat → Nat) × Nat
def z_gD (G : z_G) : va_G := G.1
def z_cI (G : z_G) : ClassId := G.2.1.1
def z_cJ (G : z_G) : ClassId := G.2.1.2.1
def z_cZ (G : z_G) : ClassId := G.2.1.2.2.1
def z_cT (G : z_G) : ClassId := G.2.1.2.2.2
def z_ad (G : z_G) : Nat → Nat → Nat := G.2.2.1
def z_st (G : z_G) : Nat → Nat := G.2.2.2.1
def z_bs (G : z_G) : Nat := G.2.2.2.2
def z_A (G : z_G) : Nat → Prop := fun q => z_bs G ≤ q
def z_tys (G : z_G) : List (ClassId × FieldType) := [(z_cI G, .int), (z_cJ G, .long), (z_cZ G, .boolean), (z_cT G, .object RX5)]
def z_cnt (k : Nat) : Nat := if 7 ≤ k ∧ k ≤ 11 then 29 else if k < 34 then 1 else 0
def z_tix (i : Nat) : List (Nat × Nat) := [(7, i), (8, i), (9, i), (10, i), (11, i)]
/-- all cells, in the order in which they are made -/
def z_ixs : List (Nat × Nat) := (0, 0) :: ([(1, 0), (2, 0), (3, 0), (4, 0)] ++ (((5, 0) :: (6, 0) :: z_tix 28) ++ (z_tix 24 ++ (((12, 0) :: (13, 0) :: (List.range 24).flatMap z_tix) ++ ((14, 0) :: (z_tix 25 ++ (z_tix 26 ++ (((15, 0) :: (z_tix 27 ++ [(16, 0), (17, 0), (18, 0)])) ++ ([(19, 0), (20, 0)] ++ [(21, 0), (22, 0), (23, 0), (24, 0), (25, 0), (26, 0), (27, 0), (28, 0), (29, 0), (30, 0), (31, 0), (32, 0), (33, 0)])))))))))
theorem z_ixs_nd : z_ixs.Nodup := by decide +kernel
theorem z_ixa : ∀ k, k < 34 → ∀ i, i < z_cnt k → (k, i) ∈ z_ixs := by decide +kernel
theorem z_ixm {k i : Nat} (hk : k < 34) (hi : i < z_cnt k) : (k, i) ∈ z_ixs := z_ixa k hk i hi
theorem z_ixo18 : ∀ q ∈ z_ixs, q.1 = 18 → q.2 = 0 := by decide +kernel
def z_sh (G : z_G) (q : Nat × Nat) (f : Nat → Int32) (g : Nat → Int64) : va_E := match q.1 with
  | 0 => .inr (6, [.ref (z_ad G 1 0), .ref (z_ad G 5 0), .ref (z_ad G 7 24), .ref (z_ad G 12 0), .ref (z_ad G 14 0), .ref (z_ad G 15 0), .ref (z_ad G 19 0), .int (f 7)])
  | 1 => .inr (4, [.ref (z_ad G 2 0), .ref (z_ad G 3 0), .ref (z_ad G 4 0)])
  | 2 => .inl (z_cI G, 320, .inl f)
  | 3 => .inl (z_cI G, 8, .inl f)
  | 4 => .inl (z_cI G, 8, .inl f)
  | 5 => .inr (2, [.ref (z_ad G 6 0), .ref (z_ad G 7 28), .int (f 2), .int (f 3), .int (f 4), .int (f 5)])
  | 6 => .inl (z_cI G, 100, .inl f)
  | 7 => .inr (5, [.ref (z_ad G 8 q.2), .ref (z_ad G 9 q.2), .ref (z_ad G 10 q.2), .ref (z_ad G 11 q.2), .int (f 4), .int (f 5), .int (f 6), .int (f 7), .int (f 8)])
  | 8 => .inl (z_cI G, 8, .inl f)
  | 9 => .inl (z_cI G, 8, .inl f)
  | 10 => .inl (z_cI G, 8, .inl f)
  | 11 => .inl (z_cI G, 20, .inl f)
  | 12 => .inr (1, [.ref (z_ad G 13 0), .int (f 1), .int (f 2)])
  | 13 => .inl (z_cT G, 24, .inr (.inr (.inr (.inr (fun j => some (z_ad G 7 (0 + j)))))))
  | 14 => .inl (z_cT G, 2, .inr (.inr (.inr (.inr (fun j => some (z_ad G 7 (25 + j)))))))
  | 15 => .inr (3, [.ref (z_ad G 7 27), .ref (z_ad G 16 0), .ref (z_ad G 17 0), .ref (z_ad G 18 0), .int (f 4)])
  | 16 => .inl (z_cI G, 12, .inl f)
  | 17 => .inl (z_cI G, 5, .inl f)
  | 18 => .inl (z_cJ G, 5, .inr (.inl g))
  | 19 => .inr (0, [.ref (z_ad G 20 0), .int (f 1), .int (f 2), .int (f 3), .int (f 4), .int (f 5)])
  | 20 => .inl (z_cI G, 16, .inl f)
  | 21 => .inr (7, [.ref (z_ad G 22 0), .ref (z_ad G 23 0), .ref (z_ad G 24 0), .int (f 3), .int (f 4), .ref (z_ad G 25 0), .ref (z_ad G 26 0), .ref (z_ad G 27 0), .int (f 8), .int (f 9), .int (f 10), .int (f 11), .int (f 12), .int (f 13), .int (f 14), .ref (z_ad G 28 0), .ref (z_ad G 29 0), .int (f 17), .ref (z_ad G 30 0), .int (f 19), .ref (z_ad G 31 0), .ref (z_ad G 32 0), .ref (z_ad G 33 0), .int (f 23)])
  | 22 => .inl (z_cI G, 8, .inl f)
  | 23 => .inl (z_cI G, 8, .inl f)
  | 24 => .inl (z_cI G, 320, .inl f)
  | 25 => .inl (z_cI G, 49, .inl f)
  | 26 => .inl (z_cI G, 40, .inl f)
  | 27 => .inl (z_cI G, 100, .inl f)
  | 28 => .inl (z_cI G, 49, .inl f)
  | 29 => .inl (z_cI G, 1176, .inl f)
  | 30 => .inl (z_cI G, 49, .inl f)
  | 31 => .inl (z_cZ G, 2, .inl f)
  | 32 => .inl (z_cI G, 98, .inl f)
  | _ => .inl (z_cI G, 16, .inl f)
def z_ce (G : z_G) (M : z_M) (q : Nat × Nat) : Nat × va_E := (z_ad G q.1 q.2, z_sh G q (M.1 q.1 q.2) M.2)
def z_ws (G : z_G) (M : z_M) : va_W := z_ixs.map (z_ce G M)
theorem z_at {G : z_G} {M : z_M} {q : Nat × Nat} (h : q ∈ z_ixs) : ∃ p : Nat, z_ixs[p]? = some q ∧ (z_ws G M)[p]? = some (z_ce G M q) := by
  obtain ⟨p, hp⟩ := List.getElem?_of_mem h
  exact ⟨p, hp, by unfold z_ws; rw [List.getElem?_map, hp]; rfl⟩
theorem z_set {G : z_G} {M M' : z_M} {q : Nat × Nat} {p : Nat} {x : Nat × va_E} (hp : z_ixs[p]? = some q) (hx : x = z_ce G M' q) (ho : ∀ r, r ≠ q → z_ce G M r = z_ce G M' r) : (z_ws G M).set p x = z_ws G M' := by
  subst hx
  unfold z_ws
  apply List.ext_getElem?
  intro j
  by_cases hj : j = p
  · subst hj
    have hl : j < z_ixs.length := (List.getElem?_eq_some_iff.mp hp).1
    rw [List.getElem?_set_self (by simpa using hl), List.getElem?_map, hp]
    rfl
  · rw [List.getElem?_set_ne (Ne.symm hj), List.getElem?_map, List.getElem?_map]
    cases hr : z_ixs[j]? with
    | none => rfl
    | some r =>
      have hne : r ≠ q := by
        intro e
        subst e
        exact hj ((List.getElem?_inj (List.getElem?_eq_some_iff.mp hr).1 z_ixs_nd).mp (hr.trans hp.symm))
      simp only [Option.map_some]
      rw [ho r hne]
theorem z_ce_si {G : z_G} {M : z_M} {k i j : Nat} {v : Int32} : ∀ r, r ≠ (k, i) → z_ce G M r = z_ce G (z_si M k i j v) r := by
  rintro ⟨a, b⟩ h
  have e : (z_si M k i j v).1 a b = M.1 a b := by
    funext c
    simp only [z_si]
    rw [if_neg]
    rintro ⟨h1, h2, -⟩
    exact h (by rw [h1, h2])
  unfold z_ce
  rw [show (z_si M k i j v).1 (a, b).1 (a, b).2 = M.1 a b from e]
  rfl
theorem z_si_self {M : z_M} {k i j : Nat} {v : Int32} : (z_si M k i j v).1 k i = upd (M.1 k i) j v := by
  funext c
  simp [z_si, upd]
theorem z_cp_self {M : z_M} {k i k' i' sp dp n : Nat} : (z_cp M k i k' i' sp dp n).1 k' i' = va_cpy (M.1 k i) (M.1 k' i') sp dp n := by
  funext c
  simp [z_cp, va_cpy]
theorem z_ce_cp {G : z_G} {M : z_M} {k i k' i' sp dp n : Nat} : ∀ r, r ≠ (k', i') → z_ce G M r = z_ce G (z_cp M k i k' i' sp dp n) r := by
  rintro ⟨a, b⟩ h
  have e : (z_cp M k i k' i' sp dp n).1 a b = M.1 a b := by
    funext c
    simp only [z_cp]
    rw [if_neg]
    rintro ⟨h1, h2, -⟩
    exact h (by rw [h1, h2])
  unfold z_ce
  rw [show (z_cp M k i k' i' sp dp n).1 (a, b).1 (a, b).2 = M.1 a b from e]
  rfl
-- the static tables of Asks: ABOVE, SIZE_BODIES, MARK_BODIES
def z_sf (j : Nat) : String := if j = 0 then "ABOVE" else if j = 1 then "SIZE_BODIES" else "MARK_BODIES"
def z_sl0 : List Int32 := [-1, 0, 1, 1, 0, 4]
def z_sl1 : List Int32 := [10, 11, 12, 0, 13, 14]
def z_sl2 : List Int32 := [20, 21, 24, 22, 23, 0]
def z_sv (j t : Nat) : Int32 := (if j = 0 then z_sl0 else if j = 1 then z_sl1 else z_sl2).getD t 0
-- what stays: the tables of classes, the static tables
def z_Kc (G : z_G) (s : State) : Prop := va_K (z_gD G) vwCl (z_tys G) s ∧ (∀ j, j < 3 → va_Z RX0 (z_sf j) "[I" (.ref (z_st G j)) (z_A G) s s.heap) ∧ ∀ j, j < 3 → va_T .int (z_st G j) 6 (fun t => .int (z_sv j t)) (z_A G) s s.heap
def z_Wd (G : z_G) (M : z_M) (U : State) : Prop := z_Kc G U ∧ va_P (z_gD G) vwCl (z_ws G M) U.heap ∧ va_D (z_A G) (z_ws G M)
def z_I (G : z_G) (s : State) (M : z_M) (H : Heap) (locs : List Loc) : Prop := z_Kc G s ∧ va_P (z_gD G) vwCl (z_ws G M) H ∧ va_D (z_A G) (z_ws G M) ∧ va_S (z_A G) s.heap H locs ∧ z_bs G ≤ s.heap.size
theorem z_Kc.go {G : z_G} {u U : State} {H : Heap} {locs : List Loc} (h : z_Kc G u) (hS : va_S (z_A G) u.heap H locs) (hU : U.heap = H) (hvm : u.vm.Alike U.vm) : z_Kc G U := by
  obtain ⟨h1, h2, h3⟩ := h
  subst hU
  exact ⟨va_K.moved hvm h1, fun j hj => va_Z.kept (va_Z.moved hvm (h2 j hj)) (fun a ha hA => hS.2.1 a ha hA), fun j hj => va_T.kept (va_T.moved hvm (h3 j hj)) (fun a ha hA => hS.2.1 a ha hA)⟩
theorem z_Wd.blind {G : z_G} {M : z_M} {U : State} {g : JFrame} {mk : MethodId} {a : Array Value} (h : z_Wd G M U) : z_Wd G M (U.calling g mk a) := by
  obtain ⟨⟨h1, h2, h3⟩, h4, h5⟩ := h
  have hvm : U.vm.Alike (U.calling g mk a).vm := Vm.Alike.refl U.vm
  exact ⟨⟨va_K.moved hvm h1, fun j hj => va_Z.moved hvm (h2 j hj), fun j hj => va_T.moved hvm (h3 j hj)⟩, h4, h5⟩
def z_Q (G : z_G) (v : Option Value) (M : z_M) : Array Value → State → Outcome → State → Prop := fun _ st oc t => oc = .returned v ∧ z_Wd G M t ∧ va_F (z_A G) st t
/-- the words that any call may carry -/
def z_tb : List Cond := lw_tbl.filter goodWord
def z_rm (d : Nat) : Room := { frames := d, cells := 0, slots := 0, locals := 40 * d + 64 }
def z_wm (y : MethodName) (cc : ByteArray) (nL : Nat) (ret : Option FieldType) : List Cond := .code y cc nL ret :: z_tb
/-- the contract: from any world that holds M, the method answers v, and the world holds M' -/
def z_Met (G : z_G) (l : Launch) (y : MethodName) (cc : ByteArray) (nL : Nat) (ret : Option FieldType) (d : Nat) (av : List Value) (M : z_M) (v : Option Value) (M' : z_M) : Prop :=
  Met l y (z_wm y cc nL ret) (z_rm d) (va_Pc av (fun U => z_Wd G M U ∧ z_bs G ≤ U.heap.size)) (z_Q G v M') 0 0 (z_A G)
def z_C (p : Program) (s : State) (m : MethodId) (args : Array Value) (meth : Method) (c : Code) (own : String) (cc : ByteArray) (nL : Nat) (ret : Option FieldType) : Prop :=
  (p.tables.exec = Jvm.exec ∧ c.code = cc ∧ c.maxLocals = nL ∧ s.vm.findClass own = some m.cls ∧ ∀ w ∈ z_tb, w.before args s = true) ∧ meth.sig.returnType = ret ∧ meth.locks = false
theorem z_goodIn {ws : List Cond} (h : ∀ w ∈ ws, w ∈ z_tb) : GoodIn z_tb ws := fun w hw => ⟨h w hw, good_of_word (List.mem_filter.mp (h w hw)).2⟩
theorem z_tbm {w : Cond} (h : w ∈ lw_tbl) (hg : goodWord w = true) : w ∈ z_tb := List.mem_filter.mpr ⟨h, hg⟩
theorem z_met_of {G : z_G} {l : Launch} {y : MethodName} {own : String} {cc : ByteArray} {nL : Nat} {ret : Option FieldType} {d : Nat} {av : List Value} {M : z_M} {v : Option Value} {M' : z_M} (hy : plainName y.cls = true) (hcl : y.cls = own) (hn : (lg_sl av).length ≤ nL)
    (body : ∀ (p : Program) (e : Env) (s : State) (m : MethodId) (below : List Frame) (meth : Method) (c : Code) (ls : Array Slot), z_C p s m av.toArray meth c own cc nL ret → z_I G s M s.heap [] → lv_has ls nL (lv_args 0 av) →
      W p l e (z_rm d) s m av.toArray below meth c s.heap [] 0 0 (MQ below (z_Q G v M') av.toArray s 0 0 (z_A G)) (F0 m 0 ls [])) : z_Met G l y cc nL ret d av M v M' := by
  subst hcl
  refine Met.ofW (cc := cc) (maxL := nL) (ret := ret) hy rfl ?_
  intro p e s m args below meth c s₁ B hml hv
  obtain ⟨rfl, ⟨hK, hP, hD⟩, hbs⟩ := hv
  have hts := atoms_spec (ws := z_wm y cc nL ret) B.pre
  have hl := lv_entry av (n := nL) hn
  rw [lg_entry_eq]
  exact body p e s m below meth c _ ⟨⟨B.exec, B.bytes, hml, findClass_of_methodNamed B.named, fun w hw => hts w (List.mem_cons_of_mem _ hw)⟩, B.returns, B.notSynchronized⟩ ⟨hK, hP, hD, va_S.rf, hbs⟩ hl

section ZB
variable {p : Program} {l : Launch} {e : Env} {R : Room} {s : State} {m : MethodId} {args : Array Value} {below : List Frame} {meth : Method} {c : Code} {H : Heap} {locs : List Loc} {cells slots : Nat} {Q : State → Prop}
variable {own : String} {cc : ByteArray} {nL : Nat} {ret : Option FieldType} {G : z_G} {M : z_M} {pc : Nat} {ls : Array Slot} {rest : List Value}
/-- naming what was computed -/
theorem z_nI {α : Type} {x : Int32} {f : Int32 → Option α} {o : α} (h : z_nmI x f = some o) (k : ∀ y : Int32, f y = some o → W p l e R s m args below meth c H locs cells slots Q (F0 m pc ls (.int y :: rest))) : W p l e R s m args below meth c H locs cells slots Q (F0 m pc ls (.int x :: rest)) := k x h
theorem z_nL {α : Type} {x : Int64} {f : Int64 → Option α} {o : α} (h : z_nmL x f = some o) (k : ∀ y : Int64, f y = some o → W p l e R s m args below meth c H locs cells slots Q (F0 m pc ls (.long y :: rest))) : W p l e R s m args below meth c H locs cells slots Q (F0 m pc ls (.long x :: rest)) := k x h
/-- a field is read -/
theorem z_get (hc : z_C p s m args meth c own cc nL ret) (hI : z_I G s M H locs) {k i : Nat} (hq : (k, i) ∈ z_ixs) {ci : Nat} {fs : List Value} (hsh : z_sh G (k, i) (M.1 k i) M.2 = .inr (ci, fs)) {C : String} {T : u_T} {N idx : Nat} (hcl : vwCl[ci]? = some (C, T, N)) (hin : ∀ w ∈ u_ws C T N, w ∈ z_tb) (j : Nat) (hj : j < N) (hlink : Cond.fieldLink own idx (T j).1 (T j).2.1 (T j).2.2.1 ∈ z_tb) {v : Value} (hv : fs[j]? = some v) (hdg : decode cc pc = .ok (.getfield idx, 3))
    (kk : W p l e R s m args below meth c H locs cells slots Q (F0 m (pc + 3) ls (v :: rest))) : W p l e R s m args below meth c H locs cells slots Q (F0 m pc ls (.ref (z_ad G k i) :: rest)) := by
  obtain ⟨⟨hx, hb, hml, hown, hts⟩, hr, hlk⟩ := hc
  obtain ⟨hK, hP, hD, hS, -⟩ := hI
  obtain ⟨q0, -, he⟩ := z_at (G := G) (M := M) hq
  exact va_get hx hb hts hin hown hK.1 hP q0 (a := z_ad G k i) (ci := ci) (fs := fs) (by rw [he]; unfold z_ce; rw [hsh]) hcl j hj (hts _ hlink) (fun _ h => h) hv hdg kk
/-- a field of whole numbers is written -/
theorem z_put (hc : z_C p s m args meth c own cc nL ret) (hI : z_I G s M H locs) {k i : Nat} (hq : (k, i) ∈ z_ixs) {ci : Nat} {fs : (Nat → Int32) → List Value} (hsh : ∀ f g, z_sh G (k, i) f g = .inr (ci, fs f)) {C : String} {T : u_T} {N idx : Nat} (hcl : vwCl[ci]? = some (C, T, N)) (hin : ∀ w ∈ u_ws C T N, w ∈ z_tb) (ty0 : Nat → FieldType) (hty : ∀ k, k < N → parseFieldDescriptor (T k).2.2.1 = some (ty0 k)) (hnm : ∀ a, a < N → ∀ b, b < N → a ≠ b → (T a).2.1 ≠ (T b).2.1) (j : Nat) (hj : j < N) (hlink : Cond.fieldLink own idx (T j).1 (T j).2.1 (T j).2.2.1 ∈ z_tb) (hfin : (T j).2.2.2 = false) {ty : FieldType} {x : Int32} (hd : parseFieldDescriptor (T j).2.2.1 = some ty) (hn : narrow ty (.int x) = .int x) (hfit : fits ty (.int x) = true) (hl : ∀ f, j < (fs f).length) (hset : ∀ f, (fs f).set j (.int x) = fs (upd f j x)) (hdg : decode cc pc = .ok (.putfield idx, 3))
    (kk : ∀ (H1 : Heap) (locs1 : List Loc), z_I G s (z_si M k i j x) H1 locs1 → W p l e R s m args below meth c H1 locs1 cells slots Q (F0 m (pc + 3) ls rest)) : W p l e R s m args below meth c H locs cells slots Q (F0 m pc ls (.int x :: .ref (z_ad G k i) :: rest)) := by
  obtain ⟨⟨hx, hb, hml, hown, hts⟩, hr, hlk⟩ := hc
  obtain ⟨hK, hP, hD, hS, hbs⟩ := hI
  obtain ⟨q0, hq0, he⟩ := z_at (G := G) (M := M) hq
  refine va_put hx hb hts hin ty0 hty hnm hown hK.1 hP hD hS q0 (a := z_ad G k i) (ci := ci) (fs := fs (M.1 k i)) (by rw [he]; unfold z_ce; rw [hsh]) hcl j hj (hts _ hlink) (fun _ h => h) hfin hd hn hfit (hl _) hdg (fun H1 locs1 hP1 hD1 hS1 => ?_)
  have e : (z_ws G M).set q0 (z_ad G k i, .inr (ci, (fs (M.1 k i)).set j (.int x))) = z_ws G (z_si M k i j x) := z_set hq0 (by unfold z_ce; rw [hsh, hset]; show _ = (z_ad G k i, Sum.inr (ci, fs ((z_si M k i j x).1 k i))); rw [z_si_self]) z_ce_si
  rw [e] at hP1 hD1
  exact kk H1 locs1 ⟨hK, hP1, hD1, hS1, hbs⟩
theorem z_tyI {G : z_G} : (z_tys G)[0]? = some (z_cI G, .int) := rfl
theorem z_tyJ {G : z_G} : (z_tys G)[1]? = some (z_cJ G, .long) := rfl
theorem z_tyZ {G : z_G} : (z_tys G)[2]? = some (z_cZ G, .boolean) := rfl
theorem z_tyT {G : z_G} : (z_tys G)[3]? = some (z_cT G, .object RX5) := rfl
/-- int arrays -/
theorem z_ild (hc : z_C p s m args meth c own cc nL ret) (hI : z_I G s M H locs) {k i n : Nat} (hq : (k, i) ∈ z_ixs) (hsh : ∀ f g, z_sh G (k, i) f g = .inl (z_cI G, n, .inl f)) {x : Int32} (hin : z_in x n) (hdg : decode cc pc = .ok (.iaload, 1))
    (kk : W p l e R s m args below meth c H locs cells slots Q (F0 m (pc + 1) ls (.int (z_gi M k i x.toNatClampNeg) :: rest))) : W p l e R s m args below meth c H locs cells slots Q (F0 m pc ls (.int x :: .ref (z_ad G k i) :: rest)) := by
  obtain ⟨⟨hx, hb, hml, hown, hts⟩, hr, hlk⟩ := hc
  obtain ⟨hK, hP, hD, hS, -⟩ := hI
  obtain ⟨q0, -, he⟩ := z_at (G := G) (M := M) hq
  exact va_iald hx hb hK.1 hP q0 0 (a := z_ad G k i) (cA := z_cI G) (n := n) (f := M.1 k i) (by rw [he]; unfold z_ce; rw [hsh]) z_tyI hin hdg kk
theorem z_ist (hc : z_C p s m args meth c own cc nL ret) (hI : z_I G s M H locs) {k i n : Nat} (hq : (k, i) ∈ z_ixs) (hsh : ∀ f g, z_sh G (k, i) f g = .inl (z_cI G, n, .inl f)) {x v : Int32} (hin : z_in x n) (hdg : decode cc pc = .ok (.iastore, 1))
    (kk : ∀ (H1 : Heap) (locs1 : List Loc), z_I G s (z_si M k i x.toNatClampNeg v) H1 locs1 → W p l e R s m args below meth c H1 locs1 cells slots Q (F0 m (pc + 1) ls rest)) : W p l e R s m args below meth c H locs cells slots Q (F0 m pc ls (.int v :: .int x :: .ref (z_ad G k i) :: rest)) := by
  obtain ⟨⟨hx, hb, hml, hown, hts⟩, hr, hlk⟩ := hc
  obtain ⟨hK, hP, hD, hS, hbs⟩ := hI
  obtain ⟨q0, hq0, he⟩ := z_at (G := G) (M := M) hq
  refine va_iast hx hb hK.1 hP hD hS q0 0 (a := z_ad G k i) (cA := z_cI G) (n := n) (f := M.1 k i) (by rw [he]; unfold z_ce; rw [hsh]) z_tyI hin hdg (fun H1 locs1 hP1 hD1 hS1 => ?_)
  have e : (z_ws G M).set q0 (z_ad G k i, .inl (z_cI G, n, .inl (upd (M.1 k i) x.toNatClampNeg v))) = z_ws G (z_si M k i x.toNatClampNeg v) := z_set hq0 (by unfold z_ce; rw [hsh]; show _ = (z_ad G k i, Sum.inl (z_cI G, n, Sum.inl ((z_si M k i x.toNatClampNeg v).1 k i))); rw [z_si_self]) z_ce_si
  rw [e] at hP1 hD1
  exact kk H1 locs1 ⟨hK, hP1, hD1, hS1, hbs⟩
/-- the array of booleans -/
theorem z_zld (hc : z_C p s m args meth c own cc nL ret) (hI : z_I G s M H locs) {k i n : Nat} (hq : (k, i) ∈ z_ixs) (hsh : ∀ f g, z_sh G (k, i) f g = .inl (z_cZ G, n, .inl f)) {x : Int32} (hin : z_in x n) (hdg : decode cc pc = .ok (.baload, 1))
    (kk : W p l e R s m args below meth c H locs cells slots Q (F0 m (pc + 1) ls (.int (z_gi M k i x.toNatClampNeg) :: rest))) : W p l e R s m args below meth c H locs cells slots Q (F0 m pc ls (.int x :: .ref (z_ad G k i) :: rest)) := by
  obtain ⟨⟨hx, hb, hml, hown, hts⟩, hr, hlk⟩ := hc
  obtain ⟨hK, hP, hD, hS, -⟩ := hI
  obtain ⟨q0, -, he⟩ := z_at (G := G) (M := M) hq
  exact va_zald hx hb hK.1 hP q0 2 (a := z_ad G k i) (cA := z_cZ G) (n := n) (f := M.1 k i) (by rw [he]; unfold z_ce; rw [hsh]) z_tyZ hin hdg kk
theorem z_zst (hc : z_C p s m args meth c own cc nL ret) (hI : z_I G s M H locs) {k i n : Nat} (hq : (k, i) ∈ z_ixs) (hsh : ∀ f g, z_sh G (k, i) f g = .inl (z_cZ G, n, .inl f)) {x v : Int32} (hv : vp_nar .boolean v = v) (hin : z_in x n) (hdg : decode cc pc = .ok (.bastore, 1))
    (kk : ∀ (H1 : Heap) (locs1 : List Loc), z_I G s (z_si M k i x.toNatClampNeg v) H1 locs1 → W p l e R s m args below meth c H1 locs1 cells slots Q (F0 m (pc + 1) ls rest)) : W p l e R s m args below meth c H locs cells slots Q (F0 m pc ls (.int v :: .int x :: .ref (z_ad G k i) :: rest)) := by
  obtain ⟨⟨hx, hb, hml, hown, hts⟩, hr, hlk⟩ := hc
  obtain ⟨hK, hP, hD, hS, hbs⟩ := hI
  obtain ⟨q0, hq0, he⟩ := z_at (G := G) (M := M) hq
  refine va_zast hx hb hK.1 hP hD hS q0 2 (a := z_ad G k i) (cA := z_cZ G) (n := n) (f := M.1 k i) (by rw [he]; unfold z_ce; rw [hsh]) z_tyZ hin hdg (fun H1 locs1 hP1 hD1 hS1 => ?_)
  rw [hv] at hP1 hD1
  have e : (z_ws G M).set q0 (z_ad G k i, .inl (z_cZ G, n, .inl (upd (M.1 k i) x.toNatClampNeg v))) = z_ws G (z_si M k i x.toNatClampNeg v) := z_set hq0 (by unfold z_ce; rw [hsh]; show _ = (z_ad G k i, Sum.inl (z_cZ G, n, Sum.inl ((z_si M k i x.toNatClampNeg v).1 k i))); rw [z_si_self]) z_ce_si
  rw [e] at hP1 hD1
  exact kk H1 locs1 ⟨hK, hP1, hD1, hS1, hbs⟩
/-- the array of longs -/
theorem z_lld (hc : z_C p s m args meth c own cc nL ret) (hI : z_I G s M H locs) {x : Int32} (hin : z_in x 5) (hdg : decode cc pc = .ok (.laload, 1))
    (kk : W p l e R s m args below meth c H locs cells slots Q (F0 m (pc + 1) ls (.long (z_gl M x.toNatClampNeg) :: rest))) : W p l e R s m args below meth c H locs cells slots Q (F0 m pc ls (.int x :: .ref (z_ad G 18 0) :: rest)) := by
  obtain ⟨⟨hx, hb, hml, hown, hts⟩, hr, hlk⟩ := hc
  obtain ⟨hK, hP, hD, hS, -⟩ := hI
  obtain ⟨q0, -, he⟩ := z_at (G := G) (M := M) (q := (18, 0)) (z_ixm (by decide) (by decide))
  exact va_lald hx hb hK.1 hP q0 1 (a := z_ad G 18 0) (cA := z_cJ G) (n := 5) (f := M.2) he z_tyJ hin hdg kk
theorem z_ce_sl {j : Nat} {v : Int64} : ∀ r, r ≠ (18, 0) → r ∈ z_ixs → z_ce G M r = z_ce G (z_sl M j v) r := by
  rintro ⟨a, b⟩ h hm
  have ha : a ≠ 18 ∨ b ≠ 0 := by
    by_cases ha : a = 18
    · refine Or.inr (fun hb => h (by rw [ha, hb]))
    · exact Or.inl ha
  have hb18 : a = 18 → b = 0 := by
    exact z_ixo18 _ hm
  have ha : a ≠ 18 := by
    intro h18
    rcases ha with h1 | h1
    · exact h1 h18
    · exact h1 (hb18 h18)
  show (z_ad G a b, z_sh G (a, b) (M.1 a b) M.2) = (z_ad G a b, z_sh G (a, b) (M.1 a b) (z_sl M j v).2)
  congr 1
  unfold z_sh
  split <;> first | rfl | (rename_i h18; exact absurd h18 ha)
theorem z_set2 {M' : z_M} {q : Nat × Nat} {p : Nat} {x : Nat × va_E} (hp : z_ixs[p]? = some q) (hx : x = z_ce G M' q) (ho : ∀ r, r ≠ q → r ∈ z_ixs → z_ce G M r = z_ce G M' r) : (z_ws G M).set p x = z_ws G M' := by
  subst hx
  unfold z_ws
  apply List.ext_getElem?
  intro j
  by_cases hj : j = p
  · subst hj
    have hl : j < z_ixs.length := (List.getElem?_eq_some_iff.mp hp).1
    rw [List.getElem?_set_self (by simpa using hl), List.getElem?_map, hp]
    rfl
  · rw [List.getElem?_set_ne (Ne.symm hj), List.getElem?_map, List.getElem?_map]
    cases hr : z_ixs[j]? with
    | none => rfl
    | some r =>
      have hne : r ≠ q := by
        intro e
        subst e
        exact hj ((List.getElem?_inj (List.getElem?_eq_some_iff.mp hr).1 z_ixs_nd).mp (hr.trans hp.symm))
      simp only [Option.map_some]
      rw [ho r hne (List.mem_of_getElem? hr)]
theorem z_lst (hc : z_C p s m args meth c own cc nL ret) (hI : z_I G s M H locs) {x : Int32} {v : Int64} (hin : z_in x 5) (hdg : decode cc pc = .ok (.lastore, 1))
    (kk : ∀ (H1 : Heap) (locs1 : List Loc), z_I G s (z_sl M x.toNatClampNeg v) H1 locs1 → W p l e R s m args below meth c H1 locs1 cells slots Q (F0 m (pc + 1) ls rest)) : W p l e R s m args below meth c H locs cells slots Q (F0 m pc ls (.long v :: .int x :: .ref (z_ad G 18 0) :: rest)) := by
  obtain ⟨⟨hx, hb, hml, hown, hts⟩, hr, hlk⟩ := hc
  obtain ⟨hK, hP, hD, hS, hbs⟩ := hI
  obtain ⟨q0, hq0, he⟩ := z_at (G := G) (M := M) (q := (18, 0)) (z_ixm (by decide) (by decide))
  refine va_last hx hb hK.1 hP hD hS q0 1 (a := z_ad G 18 0) (cA := z_cJ G) (n := 5) (f := M.2) he z_tyJ hin hdg (fun H1 locs1 hP1 hD1 hS1 => ?_)
  have e : (z_ws G M).set q0 (z_ad G 18 0, .inl (z_cJ G, 5, .inr (.inl (vp_updL M.2 x.toNatClampNeg v)))) = z_ws G (z_sl M x.toNatClampNeg v) := z_set2 hq0 rfl z_ce_sl
  rw [e] at hP1 hD1
  exact kk H1 locs1 ⟨hK, hP1, hD1, hS1, hbs⟩
/-- the arrays of TOWNS -/
theorem z_ald (hc : z_C p s m args meth c own cc nL ret) (hI : z_I G s M H locs) {k n o : Nat} (hq : (k, 0) ∈ z_ixs) (hsh : ∀ f g, z_sh G (k, 0) f g = .inl (z_cT G, n, .inr (.inr (.inr (.inr (fun j => some (z_ad G 7 (o + j)))))))) {x : Int32} (hin : z_in x n) (hdg : decode cc pc = .ok (.aaload, 1))
    (kk : W p l e R s m args below meth c H locs cells slots Q (F0 m (pc + 1) ls (.ref (z_ad G 7 (o + x.toNatClampNeg)) :: rest))) : W p l e R s m args below meth c H locs cells slots Q (F0 m pc ls (.int x :: .ref (z_ad G k 0) :: rest)) := by
  obtain ⟨⟨hx, hb, hml, hown, hts⟩, hr, hlk⟩ := hc
  obtain ⟨hK, hP, hD, hS, -⟩ := hI
  obtain ⟨q0, -, he⟩ := z_at (G := G) (M := M) hq
  exact va_aldq hx hb hK.1 hP q0 3 (a := z_ad G k 0) (cA := z_cT G) (n := n) (f := fun j => some (z_ad G 7 (o + j))) (by rw [he]; unfold z_ce; rw [hsh]) z_tyT hin hdg kk
/-- the length of an array -/
theorem z_len (hc : z_C p s m args meth c own cc nL ret) (hI : z_I G s M H locs) {k i n : Nat} (hq : (k, i) ∈ z_ixs) (hsh : ∀ f g, z_sh G (k, i) f g = .inl (z_cI G, n, .inl f)) {v : Int32} (hv : Int32.ofNat n = v) (hdg : decode cc pc = .ok (.arraylength, 1))
    (kk : W p l e R s m args below meth c H locs cells slots Q (F0 m (pc + 1) ls (.int v :: rest))) : W p l e R s m args below meth c H locs cells slots Q (F0 m pc ls (.ref (z_ad G k i) :: rest)) := by
  obtain ⟨⟨hx, hb, hml, hown, hts⟩, hr, hlk⟩ := hc
  obtain ⟨hK, hP, hD, hS, -⟩ := hI
  obtain ⟨q0, -, he⟩ := z_at (G := G) (M := M) hq
  exact va_alen hx hb hK.1 hP q0 0 (a := z_ad G k i) (cA := z_cI G) (x := (n, .inl (M.1 k i))) (by rw [he]; unfold z_ce; rw [hsh]) z_tyI hv hdg kk
/-- the static tables -/
theorem z_gst (hc : z_C p s m args meth c own cc nL ret) (hI : z_I G s M H locs) {j idx : Nat} (hj : j < 3) (hlink : Cond.fieldLink own idx RX0 (z_sf j) "[I" ∈ z_tb) (hdg : decode cc pc = .ok (.getstatic idx, 3))
    (kk : W p l e R s m args below meth c H locs cells slots Q (F0 m (pc + 3) ls (.ref (z_st G j) :: rest))) : W p l e R s m args below meth c H locs cells slots Q (F0 m pc ls rest) := by
  obtain ⟨⟨hx, hb, hml, hown, hts⟩, hr, hlk⟩ := hc
  obtain ⟨hK, hP, hD, hS, -⟩ := hI
  exact va_gets hx hb (hK.2.1 j hj) hS hown (hts _ hlink) (fun _ h => h) hdg kk
theorem z_tld (hc : z_C p s m args meth c own cc nL ret) (hI : z_I G s M H locs) {j : Nat} (hj : j < 3) {x : Int32} (hin : z_in x 6) (hdg : decode cc pc = .ok (.iaload, 1))
    (kk : W p l e R s m args below meth c H locs cells slots Q (F0 m (pc + 1) ls (.int (z_sv j x.toNatClampNeg) :: rest))) : W p l e R s m args below meth c H locs cells slots Q (F0 m pc ls (.int x :: .ref (z_st G j) :: rest)) := by
  obtain ⟨⟨hx, hb, hml, hown, hts⟩, hr, hlk⟩ := hc
  obtain ⟨hK, hP, hD, hS, -⟩ := hI
  exact va_ti hx hb (hK.2.2 j hj) hS hin rfl hdg kk
theorem z_tlen (hc : z_C p s m args meth c own cc nL ret) (hI : z_I G s M H locs) {j : Nat} (hj : j < 3) (hdg : decode cc pc = .ok (.arraylength, 1))
    (kk : W p l e R s m args below meth c H locs cells slots Q (F0 m (pc + 1) ls (.int 6 :: rest))) : W p l e R s m args below meth c H locs cells slots Q (F0 m pc ls (.ref (z_st G j) :: rest)) := by
  obtain ⟨⟨hx, hb, hml, hown, hts⟩, hr, hlk⟩ := hc
  obtain ⟨hK, hP, hD, hS, -⟩ := hI
  exact va_tlen hx hb (hK.2.2 j hj) hS rfl hdg kk
/-- behind any call -/
theorem z_call {mc ms : Nat} {v : Option Value} {M' : z_M} {a : Array Value} {free : Addr → Prop} {st0 : List Value} (hmc : mc = 0) (hms : ms = 0) (hI : z_I G s M H locs) (hfree : free = z_A G) (hr : va_Run p l e R s m args below meth c H locs cells slots mc ms (F0 m pc ls st0) rest (z_Q G v M' a) free)
    (kk : ∀ (H1 : Heap) (locs1 : List Loc), z_I G s M' H1 locs1 → W p l e R s m args below meth c H1 locs1 cells slots Q (F0 m (pc + 3) ls (v.toList ++ rest))) : W p l e R s m args below meth c H locs cells slots Q (F0 m pc ls st0) := by
  subst hmc; subst hms; subst hfree
  obtain ⟨hK, hP, hD, hS, hbs⟩ := hI
  intro T hT X
  obtain ⟨v1, st₀, t, T', L, h0, X', hL, e1, e2, ⟨hv, ⟨hK1, hP1, hD1⟩, hz, hk⟩, st⟩ := hr T hT X
  cases hv
  rw [h0] at hz hk
  have hS1 : va_S (z_A G) s.heap T'.heap (locs ++ L) := ⟨Nat.le_trans hS.1 (by rw [e1]; exact hz), fun q h1 h2 => by rw [e1, hk q (Nat.lt_of_lt_of_le h1 hS.1) h2]; exact hS.2.1 q h1 h2, fun q hq => by
      rcases List.mem_append.mp hq with h | h
      · exact hS.2.2 q h
      · exact hL q h⟩
  obtain ⟨t2, a1, b1⟩ := kk T'.heap (locs ++ L) ⟨hK, by rw [e1]; exact hP1, hD1, hS1, hbs⟩ T' rfl X'
  exact ⟨t2, st t2 a1, b1⟩
theorem z_pre (hI : z_I G s M H locs) {U : State} (hU : U.heap = H) (hW : s.WarmedH U.vm) : z_Wd G M U ∧ z_bs G ≤ U.heap.size := by
  obtain ⟨hK, hP, hD, hS, hbs⟩ := hI
  exact ⟨⟨hK.go hS hU hW.alike, by rw [hU]; exact hP, hD⟩, by rw [hU]; exact Nat.le_trans hbs hS.1⟩
/-- a virtual call -/
theorem z_inv (hc : z_C p s m args meth c own cc nL ret) (hI : z_I G s M H locs) {C : String} {idx maxL n d k i : Nat} {y : MethodName} {by' : ByteArray} {rt : Option FieldType} {As : List Value} {v : Option Value} {M' : z_M} (hM : z_Met G l y by' maxL rt d (.ref (z_ad G k i) :: As) M v M')
    (hq : (k, i) ∈ z_ixs) {ci : Nat} {fs : List Value} (hsh : z_sh G (k, i) (M.1 k i) M.2 = .inr (ci, fs)) {T : u_T} {N : Nat} (hcl : vwCl[ci]? = some (C, T, N))
    (h1 : Cond.methodLink own idx y ∈ z_tb) (h2 : Cond.instanceMethod y ∈ z_tb) (h3 : Cond.selects C y y ∈ z_tb) (h4 : Cond.initialized C ∈ z_tb) (h5 : Cond.code y by' maxL rt ∈ z_tb)
    (hd : y.cls = C ∧ y.cls ≠ "java/lang/invoke/MethodHandle" ∧ y.cls ≠ "java/lang/invoke/VarHandle" ∧ (parseMethodDescriptor y.desc).map (fun d => d.parameters.length) = some n) (hR : (z_rm d).frames + 1 ≤ R.frames ∧ 8 + (maxL + 11) + (z_rm d).locals ≤ R.locals) (hn : As.length = n) (hls : ls.size = nL) (hW : (rest.map fun v => v.category).sum ≤ 8) (hcs : cells ≤ R.cells ∧ slots ≤ R.slots) (hdg : decode cc pc = .ok (.invokevirtual idx, 3))
    (kk : ∀ (H1 : Heap) (locs1 : List Loc), z_I G s M' H1 locs1 → W p l e R s m args below meth c H1 locs1 cells slots Q (F0 m (pc + 3) ls (v.toList ++ rest))) : W p l e R s m args below meth c H locs cells slots Q (F0 m pc ls (As.reverse ++ .ref (z_ad G k i) :: rest)) := by
  have hgood : GoodIn z_tb (wsV own idx C y (z_wm y by' maxL rt)) := z_goodIn (fun w hw => by
    rcases List.mem_append.mp hw with h | h
    · simp only [List.mem_cons, List.not_mem_nil, or_false] at h
      rcases h with rfl | rfl | rfl | rfl <;> assumption
    · rcases List.mem_cons.mp h with rfl | h
      · exact h5
      · exact h)
  obtain ⟨q0, -, he⟩ := z_at (G := G) (M := M) hq
  refine z_call rfl rfl hI rfl (va_runV (As := As) (rest := rest) hc.1 hM (cwV n hc.1.2.2.2.2 hgood rfl rfl rfl hd hR) ⟨fun a U g mk q => ⟨q.1, q.2.1.blind, q.2.2⟩, va_recv hI.1.1 hI.2.1 (ci := ci) (q0 := q0) (fs := fs) hcl (by rw [he]; unfold z_ce; rw [hsh]), fun U hU hW => ⟨rfl, z_pre hI hU hW⟩⟩ rfl hn hls rfl (lv_room hW) hdg hcs) kk
/-- a static call -/
theorem z_ivs (hc : z_C p s m args meth c own cc nL ret) (hI : z_I G s M H locs) {idx maxL n d : Nat} {y : MethodName} {by' : ByteArray} {rt : Option FieldType} {As : List Value} {v : Option Value} {M' : z_M} (hM : z_Met G l y by' maxL rt d As M v M')
    (h1 : Cond.methodLink own idx y ∈ z_tb) (h2 : Cond.static y ∈ z_tb) (h4 : Cond.initialized y.cls ∈ z_tb) (h5 : Cond.code y by' maxL rt ∈ z_tb)
    (hd : y.cls ≠ "java/lang/invoke/MethodHandle" ∧ y.cls ≠ "java/lang/invoke/VarHandle" ∧ (parseMethodDescriptor y.desc).map (fun d => d.parameters.length) = some n) (hR : (z_rm d).frames + 1 ≤ R.frames ∧ 8 + (maxL + 11) + (z_rm d).locals ≤ R.locals) (hn : As.length = n) (hls : ls.size = nL) (hW : (rest.map fun v => v.category).sum ≤ 8) (hcs : cells ≤ R.cells ∧ slots ≤ R.slots) (hdg : decode cc pc = .ok (.invokestatic idx, 3))
    (kk : ∀ (H1 : Heap) (locs1 : List Loc), z_I G s M' H1 locs1 → W p l e R s m args below meth c H1 locs1 cells slots Q (F0 m (pc + 3) ls (v.toList ++ rest))) : W p l e R s m args below meth c H locs cells slots Q (F0 m pc ls (As.reverse ++ rest)) := by
  have hgood : GoodIn z_tb (va_wsS own idx y (z_wm y by' maxL rt)) := z_goodIn (fun w hw => by
    rcases List.mem_append.mp hw with h | h
    · simp only [List.mem_cons, List.not_mem_nil, or_false] at h
      rcases h with rfl | rfl | rfl <;> assumption
    · rcases List.mem_cons.mp h with rfl | h
      · exact h5
      · exact h)
  exact z_call rfl rfl hI rfl (va_runS (As := As) (rest := rest) hc.1 hM (va_cwS n hc.1.2.2.2.2 hgood rfl rfl rfl hd hR) ⟨fun a U g mk q => ⟨q.1, q.2.1.blind, q.2.2⟩, fun U hU hW => ⟨rfl, z_pre hI hU hW⟩⟩ rfl hn hls rfl (lv_room hW) hdg hcs) kk
/-- the ends -/
theorem z_end (hI : z_I G s M H locs) {t : State} (ht : t.heap = H) (hW : s.WarmedH t.vm) {v : Option Value} : z_Q G v M args s (.returned v) t := ⟨rfl, (z_pre hI ht hW).1, hI.2.2.2.1.F ht⟩
theorem z_ri (hc : z_C p s m args meth c own cc nL (some .int)) (hI : z_I G s M H locs) {x : Int32} (hdg : decode cc pc = .ok (.ireturn, 1)) : W p l e R s m args below meth c H locs cells slots (MQ below (z_Q G (some (.int x)) M) args s cells slots (z_A G)) (F0 m pc ls [.int x]) :=
  W.iret hc.1.1 hc.1.2.1 hc.2.1 (fun t ht hW => z_end hI ht hW) hI.2.2.2.1.2.2 hdg hc.2.2
theorem z_rz (hc : z_C p s m args meth c own cc nL (some .boolean)) (hI : z_I G s M H locs) {x : Int32} (hn : x &&& 1 = x) (hdg : decode cc pc = .ok (.ireturn, 1)) : W p l e R s m args below meth c H locs cells slots (MQ below (z_Q G (some (.int x)) M) args s cells slots (z_A G)) (F0 m pc ls [.int x]) :=
  W.zret hc.1.1 hc.1.2.1 hc.2.1 (by show Value.int (x &&& 1) = .int x; rw [hn]) (fun t ht hW => z_end hI ht hW) hI.2.2.2.1.2.2 hdg hc.2.2
theorem z_rl (hc : z_C p s m args meth c own cc nL (some .long)) (hI : z_I G s M H locs) {x : Int64} (hdg : decode cc pc = .ok (.lreturn, 1)) : W p l e R s m args below meth c H locs cells slots (MQ below (z_Q G (some (.long x)) M) args s cells slots (z_A G)) (F0 m pc ls [.long x]) :=
  W.lret hc.1.1 hc.1.2.1 hc.2.1 (fun t ht hW => z_end hI ht hW) hI.2.2.2.1.2.2 hdg hc.2.2
theorem z_rv (hc : z_C p s m args meth c own cc nL none) (hI : z_I G s M H locs) (hdg : decode cc pc = .ok (.return_, 1)) : W p l e R s m args below meth c H locs cells slots (MQ below (z_Q G none M) args s cells slots (z_A G)) (F0 m pc ls []) :=
  W.vret hc.1.1 hc.1.2.1 hc.2.1 (fun t ht hW => z_end hI ht hW) hI.2.2.2.1.2.2 hdg hc.2.2
theorem z_ra {rt : String} (hc : z_C p s m args meth c own cc nL (some (.object rt))) (hI : z_I G s M H locs) {v : Value} (hv : v = .null ∨ ∃ a, v = .ref a) (hdg : decode cc pc = .ok (.areturn, 1)) : W p l e R s m args below meth c H locs cells slots (MQ below (z_Q G (some v) M) args s cells slots (z_A G)) (F0 m pc ls [v]) :=
  W.aret hc.1.1 hc.1.2.1 hc.2.1 (Or.inl ⟨_, rfl⟩) hv (fun t ht hW => z_end hI ht hW) hI.2.2.2.1.2.2 hdg hc.2.2
end ZB
def z_fuel : Nat := 100000
def z_deep : Nat := 14
def z_abs (x : Int32) : Int32 := if 0 ≤ x then x else 0 - x
def z_max (x y : Int32) : Int32 := if x < y then y else x
def z_min (x y : Int32) : Int32 := if y < x then y else x
def z_ush (x y : Int32) : Int32 := (x.toUInt32 >>> (y.toUInt32 &&& Int32.toUInt32 31)).toInt32
def z_opt {α : Type} (o : Option Nat) (a : Option α) (b : Nat → Option α) : Option α := match o with
  | none => a
  | some j => b j
theorem z_opt_none {α : Type} {a : Option α} {b : Nat → Option α} {y : α} (h : z_opt none a b = some y) : a = some y := h
theorem z_opt_some {α : Type} {j : Nat} {a : Option α} {b : Nat → Option α} {y : α} (h : z_opt (some j) a b = some y) : b j = some y := h
def z_ov (G : z_G) (o : Option Nat) : Value := match o with
  | none => .null
  | some j => .ref (z_ad G 7 j)
theorem z_ne {x k : Int32} {n : Int} (hk : k.toInt = n) (h : ¬ x = k) : x.toInt ≠ n := fun e => h (Int32.toInt_inj.mp (e.trans hk.symm))
theorem z_room {d d' nL : Nat} (h : d + 1 ≤ d') (hL : nL ≤ 21) : (z_rm d).frames + 1 ≤ (z_rm d').frames ∧ 8 + (nL + 11) + (z_rm d).locals ≤ (z_rm d').locals :=
  ⟨h, by show 8 + (nL + 11) + (40 * d + 64) ≤ 40 * d' + 64; omega⟩
theorem z_frm {d : Nat} (h : 1 ≤ d) : 1 ≤ (z_rm d).frames := h
theorem z_lrm {d k : Nat} (h : k ≤ 8) : k + 13 ≤ (z_rm d).locals := by show k + 13 ≤ 40 * d + 64; omega
theorem z_nfw : nativeFrameWords "java/lang/System" "arraycopy" 5 ≤ 40 := by decide +kernel
theorem z_lrn {d k : Nat} (h : k ≤ 8) : k + (nativeFrameWords "java/lang/System" "arraycopy" 5 + 11) ≤ (z_rm d).locals := by
  have := z_nfw
  show k + (nativeFrameWords "java/lang/System" "arraycopy" 5 + 11) ≤ 40 * d + 64
  omega
section ZCP
variable {p : Program} {l : Launch} {e : Env} {R : Room} {s : State} {m : MethodId} {args : Array Value} {below : List Frame} {meth : Method} {c : Code} {H : Heap} {locs : List Loc} {cells slots : Nat} {Q : State → Prop}
variable {own : String} {cc : ByteArray} {nL : Nat} {ret : Option FieldType} {G : z_G} {M : z_M} {pc : Nat} {ls : Array Slot} {rest : List Value}
/-- System.arraycopy between two int arrays -/
theorem z_acp (hc : z_C p s m args meth c own cc nL ret) (hI : z_I G s M H locs) {k0 i0 k1 i1 n0 n1 idx : Nat} (hq0 : (k0, i0) ∈ z_ixs) (hq1 : (k1, i1) ∈ z_ixs) (hsh0 : ∀ f g, z_sh G (k0, i0) f g = .inl (z_cI G, n0, .inl f)) (hsh1 : ∀ f g, z_sh G (k1, i1) f g = .inl (z_cI G, n1, .inl f)) {sp dp n : Int32} (hls : ls.size = nL) (hg : ¬ sp < 0 ∧ ¬ dp < 0 ∧ ¬ n < 0 ∧ sp.toNatClampNeg + n.toNatClampNeg ≤ n0 ∧ dp.toNatClampNeg + n.toNatClampNeg ≤ n1) (hfr : 1 ≤ R.frames) (hlo : (rest.map fun v => v.category).sum + (nativeFrameWords "java/lang/System" "arraycopy" 5 + 11) ≤ R.locals)
    (h1 : Cond.methodLink own idx arraycopyName ∈ z_tb) (h2 : Cond.native arraycopyName ∈ z_tb) (h3 : Cond.static arraycopyName ∈ z_tb) (h4 : Cond.initialized "java/lang/System" ∈ z_tb) (hdg : decode cc pc = .ok (.invokestatic idx, 3))
    (kk : ∀ (H1 : Heap) (locs1 : List Loc), z_I G s (z_cp M k0 i0 k1 i1 sp.toNatClampNeg dp.toNatClampNeg n.toNatClampNeg) H1 locs1 → W p l e R s m args below meth c H1 locs1 cells slots Q (F0 m (pc + 3) ls rest)) : W p l e R s m args below meth c H locs cells slots Q (F0 m pc ls (.int n :: .int dp :: .ref (z_ad G k1 i1) :: .int sp :: .ref (z_ad G k0 i0) :: rest)) := by
  obtain ⟨⟨hx, hb, hml, hown, hts⟩, hr, hlk⟩ := hc
  obtain ⟨hK, hP, hD, hS, hbs⟩ := hI
  obtain ⟨q0, hp0, he0⟩ := z_at (G := G) (M := M) hq0
  obtain ⟨q1, hp1, he1⟩ := z_at (G := G) (M := M) hq1
  refine va_copyi hx hb (hml.trans hls.symm) hown (hts _ h1) (hts _ h2) (hts _ h3) (hts _ h4) hK.1 hP hD hS q0 q1 0 0 (a0 := z_ad G k0 i0) (a := z_ad G k1 i1) (c0 := z_cI G) (c1 := z_cI G) (n0 := n0) (n1 := n1) (f := M.1 k0 i0) (g := M.1 k1 i1) (ty := .int) (by rw [he0]; unfold z_ce; rw [hsh0]) (by rw [he1]; unfold z_ce; rw [hsh1]) z_tyI z_tyI rfl hg.1 hg.2.1 hg.2.2.1 hg.2.2.2.1 hg.2.2.2.2 (fun _ _ => rfl) hfr hlo hdg (fun H1 locs1 hP1 hD1 hS1 => ?_)
  have e : (z_ws G M).set q1 (z_ad G k1 i1, .inl (z_cI G, n1, .inl (va_cpy (M.1 k0 i0) (M.1 k1 i1) sp.toNatClampNeg dp.toNatClampNeg n.toNatClampNeg))) = z_ws G (z_cp M k0 i0 k1 i1 sp.toNatClampNeg dp.toNatClampNeg n.toNatClampNeg) := z_set hp1 (by unfold z_ce; rw [hsh1]; show _ = (z_ad G k1 i1, Sum.inl (z_cI G, n1, Sum.inl ((z_cp M k0 i0 k1 i1 sp.toNatClampNeg dp.toNatClampNeg n.toNatClampNeg).1 k1 i1))); rw [z_cp_self]) z_ce_cp
  rw [e] at hP1 hD1
  exact kk H1 locs1 ⟨hK, hP1, hD1, hS1, hbs⟩
end ZCP
def z_nmM {α : Type} (e : z_M) (f : z_M → Option α) : Option α := f e
theorem z_nM {α : Type} {x : z_M} {f : z_M → Option α} {o : α} {G : z_G} {s : State} {H : Heap} {locs : List Loc} (h : z_nmM x f = some o) (hI : z_I G s x H locs) : ∃ y : z_M, f y = some o ∧ z_I G s y H locs := ⟨x, h, hI⟩
