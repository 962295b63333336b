theorem wd_1_100 : Cond.methodLink RX6 32 yX1_init ∈ z_tb := z_tbm (z_m1 (List.mem_of_getElem? (i := 100) (by decide +kernel))) (by decide +kernel)
theorem wd_1_101 : Cond.instanceMethod yX1_init ∈ z_tb := z_tbm (z_m1 (List.mem_of_getElem? (i := 101) (by decide +kernel))) (by decide +kernel)
theorem wd_1_102 : Cond.code yX1_init cX1_init 2 none ∈ z_tb := z_tbm (z_m1 (List.mem_of_getElem? (i := 102) (by decide +kernel))) (by decide +kernel)
theorem wd_1_103 : Cond.methodLink RX1 3 objectInit ∈ z_tb := z_tbm (z_m1 (List.mem_of_getElem? (i := 103) (by decide +kernel))) (by decide +kernel)
theorem wd_1_104 : Cond.classLink RX1 9 RX5 ∈ z_tb := z_tbm (z_m1 (List.mem_of_getElem? (i := 104) (by decide +kernel))) (by decide +kernel)
theorem wd_1_106 : Cond.methodLink RX1 17 yX5_init ∈ z_tb := z_tbm (z_m1 (List.mem_of_getElem? (i := 106) (by decide +kernel))) (by decide +kernel)
theorem wd_1_117 : Cond.classLink RX6 41 RX3 ∈ z_tb := z_tbm (z_m1 (List.mem_of_getElem? (i := 117) (by decide +kernel))) (by decide +kernel)
theorem wd_1_118 : Cond.instantiable RX3 5 ∈ z_tb := z_tbm (z_m1 (List.mem_of_getElem? (i := 118) (by decide +kernel))) (by decide +kernel)
theorem wd_1_119 : Cond.methodLink RX6 43 yX3_init ∈ z_tb := z_tbm (z_m1 (List.mem_of_getElem? (i := 119) (by decide +kernel))) (by decide +kernel)
theorem wd_1_120 : Cond.instanceMethod yX3_init ∈ z_tb := z_tbm (z_m1 (List.mem_of_getElem? (i := 120) (by decide +kernel))) (by decide +kernel)
theorem wd_1_121 : Cond.code yX3_init cX3_init 1 none ∈ z_tb := z_tbm (z_m1 (List.mem_of_getElem? (i := 121) (by decide +kernel))) (by decide +kernel)
theorem wd_1_122 : Cond.methodLink RX3 3 objectInit ∈ z_tb := z_tbm (z_m1 (List.mem_of_getElem? (i := 122) (by decide +kernel))) (by decide +kernel)
theorem wd_1_123 : Cond.classLink RX3 9 RX5 ∈ z_tb := z_tbm (z_m1 (List.mem_of_getElem? (i := 123) (by decide +kernel))) (by decide +kernel)
theorem wd_1_124 : Cond.methodLink RX3 11 yX5_init ∈ z_tb := z_tbm (z_m1 (List.mem_of_getElem? (i := 124) (by decide +kernel))) (by decide +kernel)
theorem wd_1_141 : Cond.arrayClass .long ∈ z_tb := z_tbm (z_m1 (List.mem_of_getElem? (i := 141) (by decide +kernel))) (by decide +kernel)
theorem wd_1_142 : Cond.classLink RX6 48 RX0 ∈ z_tb := z_tbm (z_m1 (List.mem_of_getElem? (i := 142) (by decide +kernel))) (by decide +kernel)
theorem wd_1_143 : Cond.instantiable RX0 6 ∈ z_tb := z_tbm (z_m1 (List.mem_of_getElem? (i := 143) (by decide +kernel))) (by decide +kernel)
theorem wd_1_144 : Cond.methodLink RX6 50 yX0_init ∈ z_tb := z_tbm (z_m1 (List.mem_of_getElem? (i := 144) (by decide +kernel))) (by decide +kernel)
theorem wd_1_145 : Cond.instanceMethod yX0_init ∈ z_tb := z_tbm (z_m1 (List.mem_of_getElem? (i := 145) (by decide +kernel))) (by decide +kernel)
theorem wd_1_146 : Cond.code yX0_init cX0_init 1 none ∈ z_tb := z_tbm (z_m1 (List.mem_of_getElem? (i := 146) (by decide +kernel))) (by decide +kernel)
theorem wd_1_147 : Cond.methodLink RX0 3 objectInit ∈ z_tb := z_tbm (z_m1 (List.mem_of_getElem? (i := 147) (by decide +kernel))) (by decide +kernel)
theorem wd_1_17 : Cond.methodLink RX6 1 objectInit ∈ z_tb := z_tbm (z_m1 (List.mem_of_getElem? (i := 17) (by decide +kernel))) (by decide +kernel)
theorem wd_1_18 : Cond.instanceMethod objectInit ∈ z_tb := z_tbm (z_m1 (List.mem_of_getElem? (i := 18) (by decide +kernel))) (by decide +kernel)
theorem wd_1_19 : Cond.code objectInit ⟨#[0xb1]⟩ 1 none ∈ z_tb := z_tbm (z_m1 (List.mem_of_getElem? (i := 19) (by decide +kernel))) (by decide +kernel)
theorem wd_1_20 : Cond.classLink RX6 7 RX4 ∈ z_tb := z_tbm (z_m1 (List.mem_of_getElem? (i := 20) (by decide +kernel))) (by decide +kernel)
theorem wd_1_21 : Cond.instantiable RX4 3 ∈ z_tb := z_tbm (z_m1 (List.mem_of_getElem? (i := 21) (by decide +kernel))) (by decide +kernel)
theorem wd_1_22 : Cond.methodLink RX6 9 yX4_init ∈ z_tb := z_tbm (z_m1 (List.mem_of_getElem? (i := 22) (by decide +kernel))) (by decide +kernel)
theorem wd_1_23 : Cond.instanceMethod yX4_init ∈ z_tb := z_tbm (z_m1 (List.mem_of_getElem? (i := 23) (by decide +kernel))) (by decide +kernel)
theorem wd_1_24 : Cond.code yX4_init cX4_init 2 none ∈ z_tb := z_tbm (z_m1 (List.mem_of_getElem? (i := 24) (by decide +kernel))) (by decide +kernel)
theorem wd_1_25 : Cond.methodLink RX4 3 objectInit ∈ z_tb := z_tbm (z_m1 (List.mem_of_getElem? (i := 25) (by decide +kernel))) (by decide +kernel)
theorem wd_1_36 : Cond.arrayClass .int ∈ z_tb := z_tbm (z_m1 (List.mem_of_getElem? (i := 36) (by decide +kernel))) (by decide +kernel)
theorem wd_1_37 : Cond.classLink RX6 16 RX2 ∈ z_tb := z_tbm (z_m1 (List.mem_of_getElem? (i := 37) (by decide +kernel))) (by decide +kernel)
theorem wd_1_38 : Cond.instantiable RX2 6 ∈ z_tb := z_tbm (z_m1 (List.mem_of_getElem? (i := 38) (by decide +kernel))) (by decide +kernel)
theorem wd_1_39 : Cond.methodLink RX6 18 yX2_init ∈ z_tb := z_tbm (z_m1 (List.mem_of_getElem? (i := 39) (by decide +kernel))) (by decide +kernel)
theorem wd_1_40 : Cond.instanceMethod yX2_init ∈ z_tb := z_tbm (z_m1 (List.mem_of_getElem? (i := 40) (by decide +kernel))) (by decide +kernel)
theorem wd_1_41 : Cond.code yX2_init cX2_init 1 none ∈ z_tb := z_tbm (z_m1 (List.mem_of_getElem? (i := 41) (by decide +kernel))) (by decide +kernel)
theorem wd_1_42 : Cond.methodLink RX2 3 objectInit ∈ z_tb := z_tbm (z_m1 (List.mem_of_getElem? (i := 42) (by decide +kernel))) (by decide +kernel)
theorem wd_1_43 : Cond.classLink RX2 15 RX5 ∈ z_tb := z_tbm (z_m1 (List.mem_of_getElem? (i := 43) (by decide +kernel))) (by decide +kernel)
theorem wd_1_44 : Cond.instantiable RX5 9 ∈ z_tb := z_tbm (z_m1 (List.mem_of_getElem? (i := 44) (by decide +kernel))) (by decide +kernel)
theorem wd_1_45 : Cond.methodLink RX2 17 yX5_init ∈ z_tb := z_tbm (z_m1 (List.mem_of_getElem? (i := 45) (by decide +kernel))) (by decide +kernel)
theorem wd_1_46 : Cond.instanceMethod yX5_init ∈ z_tb := z_tbm (z_m1 (List.mem_of_getElem? (i := 46) (by decide +kernel))) (by decide +kernel)
theorem wd_1_47 : Cond.code yX5_init cX5_init 1 none ∈ z_tb := z_tbm (z_m1 (List.mem_of_getElem? (i := 47) (by decide +kernel))) (by decide +kernel)
theorem wd_1_48 : Cond.methodLink RX5 3 objectInit ∈ z_tb := z_tbm (z_m1 (List.mem_of_getElem? (i := 48) (by decide +kernel))) (by decide +kernel)
theorem wd_1_96 : Cond.classLink RX6 23 RX5 ∈ z_tb := z_tbm (z_m1 (List.mem_of_getElem? (i := 96) (by decide +kernel))) (by decide +kernel)
theorem wd_1_97 : Cond.methodLink RX6 25 yX5_init ∈ z_tb := z_tbm (z_m1 (List.mem_of_getElem? (i := 97) (by decide +kernel))) (by decide +kernel)
theorem wd_1_98 : Cond.classLink RX6 30 RX1 ∈ z_tb := z_tbm (z_m1 (List.mem_of_getElem? (i := 98) (by decide +kernel))) (by decide +kernel)
theorem wd_1_99 : Cond.instantiable RX1 3 ∈ z_tb := z_tbm (z_m1 (List.mem_of_getElem? (i := 99) (by decide +kernel))) (by decide +kernel)
theorem wd_4_158 : Cond.methodLink RX7 1 objectInit ∈ z_tb := z_tbm (z_m4 (List.mem_of_getElem? (i := 158) (by decide +kernel))) (by decide +kernel)
theorem wd_4_232 : Cond.arrayClass .boolean ∈ z_tb := z_tbm (z_m4 (List.mem_of_getElem? (i := 232) (by decide +kernel))) (by decide +kernel)
/-! CTOR: the constructors, by the cells that they make -/
def y_K (G : z_G) (U : State) : Prop := va_K (z_gD G) vwCl (z_tys G) U ∧ va_AO RX5 U
def y_I (G : z_G) (A : Nat → Prop) (s : State) (ws : va_W) (H : Heap) (locs : List Loc) : Prop := y_K G s ∧ va_P (z_gD G) vwCl ws H ∧ va_D A ws ∧ va_S A s.heap H locs ∧ ∀ q : Nat, s.heap.size ≤ q → A q
theorem y_K.moved {G : z_G} {u U : State} (hvm : u.vm.Alike U.vm) (h : y_K G u) : y_K G U := ⟨va_K.moved hvm h.1, va_AO.moved hvm h.2⟩
def y_rm (d mc ms : Nat) : Room := { frames := d, cells := mc, slots := ms, locals := 40 * d + 64 }
abbrev y_A (ci : Nat) (fs : List Value) (h sz : Nat) : Nat → Prop := va_A [(h, .inr (ci, fs))] sz
def y_Met (G : z_G) (l : Launch) (y : MethodName) (cc : ByteArray) (nL d mc ms ci : Nat) (fs : List Value) (post : Nat → va_W → Prop) : Prop := ∀ h sz : Nat,
  Met l y (z_wm y cc nL none) (y_rm d mc ms) (va_Pc [.ref h] (fun U => U.heap.size = sz ∧ y_K G U ∧ va_P (z_gD G) vwCl [(h, .inr (ci, fs))] U.heap ∧ va_D (fun _ => True) [(h, .inr (ci, fs))])) (va_Qv (fun ws : va_W => post h ws) (fun ws t => va_P (z_gD G) vwCl ws t.heap ∧ va_D (y_A ci fs h sz) ws) (y_A ci fs h sz)) mc ms (y_A ci fs h sz)
section
variable {p : Program} {l : Launch} {e : Env} {R : Room} {s : State} {m : MethodId} {args : Array Value} {below : List Frame} {meth : Method} {c : Code} {H : Heap} {locs : List Loc} {cells slots : Nat} {Q : State → Prop}
variable {own : String} {cc : ByteArray} {nL : Nat} {ret : Option FieldType} {G : z_G} {A : Nat → Prop} {ws : va_W} {pc : Nat} {ls : Array Slot} {rest : List Value}
theorem y_met_of {y : MethodName} {d mc ms ci : Nat} {fs : List Value} {post : Nat → va_W → Prop} (hy : plainName y.cls = true) (hcl : y.cls = own) (hn : 1 ≤ nL)
    (body : ∀ (p : Program) (e : Env) (s : State) (m : MethodId) (below : List Frame) (meth : Method) (c : Code) (ls : Array Slot) (h : Nat) (A : Nat → Prop), z_C p s m #[Value.ref h] meth c own cc nL none → meth.name = y.name → A = y_A ci fs h s.heap.size → y_I G A s [(h, .inr (ci, fs))] s.heap [] → lv_has ls nL [(0, .ref h)] →
      W p l e (y_rm d mc ms) s m #[Value.ref h] below meth c s.heap [] 0 0 (MQ below (va_Qv (fun ws : va_W => post h ws) (fun ws t => va_P (z_gD G) vwCl ws t.heap ∧ va_D A ws) A) #[Value.ref h] s mc ms A) (F0 m 0 ls [])) : y_Met G l y cc nL d mc ms ci fs post := by
  subst hcl
  intro h sz
  refine Met.ofW (cc := cc) (maxL := nL) (ret := none) hy rfl ?_
  intro p e s m args below meth c s₁ B hml hv
  obtain ⟨rfl, hsz, hK, hP, hD⟩ := hv
  subst hsz
  have hts := atoms_spec (ws := z_wm y cc nL none) B.pre
  have hl := lv_entry [Value.ref h] (n := nL) hn
  rw [lg_entry_eq]
  exact body p e s m below meth c _ h _ ⟨⟨B.exec, B.bytes, hml, findClass_of_methodNamed B.named, fun w hw => hts w (List.mem_cons_of_mem _ hw)⟩, B.returns, B.notSynchronized⟩ (name_of_methodNamed B.named B.method).1 rfl ⟨hK, hP, hD.self, va_S.rf, fun q hq => Or.inr hq⟩ hl
theorem y_end {h : Nat} {post : Nat → va_W → Prop} (hc : z_C p s m args meth c own cc nL none) (hI : y_I G A s ws H locs) (hp : post h ws) (hdg : decode cc pc = .ok (.return_, 1)) : W p l e R s m args below meth c H locs cells slots (MQ below (va_Qv (fun ws : va_W => post h ws) (fun ws t => va_P (z_gD G) vwCl ws t.heap ∧ va_D A ws) A) args s cells slots A) (F0 m pc ls []) :=
  W.vret hc.1.1 hc.1.2.1 hc.2.1 (fun t ht hW => ⟨⟨ws, rfl, hp, by rw [ht]; exact hI.2.1, hI.2.2.1⟩, hI.2.2.2.1.F ht⟩) hI.2.2.2.1.2.2 hdg hc.2.2
theorem y_obj (hc : z_C p s m args meth c own cc nL ret) {idx a : Nat} (h1 : Cond.methodLink own idx objectInit ∈ z_tb) (h2 : Cond.instanceMethod objectInit ∈ z_tb) (h3 : Cond.code objectInit ⟨#[0xb1]⟩ 1 none ∈ z_tb) (hls : ls.size = nL) (hfr : 1 ≤ R.frames) (hlo : 76 ≤ R.locals) (hdg : decode cc pc = .ok (.invokespecial idx, 3)) (kk : W p l e R s m args below meth c H locs cells slots Q (F0 m (pc + 3) ls [])) : W p l e R s m args below meth c H locs cells slots Q (F0 m pc ls [.ref a]) := by
  obtain ⟨⟨hx, hb, hml, hown, hts⟩, hr, hlk⟩ := hc
  refine W.objInit hx hb hown (hts _ h1) (hts _ h2) (hts _ h3) rfl (by rw [hml]; exact hls) rfl hdg hfr ?_ kk
  show 2 * 0 + 0 + 12 ≤ _
  omega
theorem y_newI (hc : z_C p s m args meth c own cc nL ret) (hI : y_I G A s ws H locs) {n : Int32} {N : Nat} (hn : ¬ n < 0) (hN : n.toNatClampNeg = N) (hb4 : N * 4 ≤ 536870912) (hce : cells + 1 ≤ R.cells) (hsl : slots + N ≤ R.slots) (hdg : decode cc pc = .ok (.newarray .int, 2)) (kk : ∀ (q : Nat) (H1 : Heap), y_I G A s (ws ++ [(q, .inl (z_cI G, N, .inl (fun _ => 0)))]) H1 locs → W p l e R s m args below meth c H1 locs (cells + 1) (slots + N) Q (F0 m (pc + 2) ls (.ref q :: rest))) : W p l e R s m args below meth c H locs cells slots Q (F0 m pc ls (.int n :: rest)) := by
  obtain ⟨⟨hx, hb, hml, hown, hts⟩, hr, hlk⟩ := hc
  obtain ⟨hK, hP, hD, hS, hA⟩ := hI
  refine va_newa hx hb (atype := .int) (hts _ wd_1_36) (ty := .int) rfl hK.1 hP hD hS hA (a0 := (N, .inl (fun _ => 0))) (N' := N) (fun cA => rfl) hn hN hb4 hce hsl hdg (fun q cA H1 hK1 hP1 hD1 hS1 => ?_)
  have e1 : s.vm.findClass ("[" ++ FieldType.int.toString) = some cA := (hK1.2 4 (cA, .int) rfl).2
  have e2 : s.vm.findClass ("[" ++ FieldType.int.toString) = some (z_cI G) := (hK.1.2 0 _ z_tyI).2
  cases e1.symm.trans e2
  exact kk q H1 ⟨hK, hP1, hD1, hS1, hA⟩
theorem y_newJ (hc : z_C p s m args meth c own cc nL ret) (hI : y_I G A s ws H locs) {n : Int32} {N : Nat} (hn : ¬ n < 0) (hN : n.toNatClampNeg = N) (hb4 : N * 8 ≤ 536870912) (hce : cells + 1 ≤ R.cells) (hsl : slots + N ≤ R.slots) (hdg : decode cc pc = .ok (.newarray .long, 2)) (kk : ∀ (q : Nat) (H1 : Heap), y_I G A s (ws ++ [(q, .inl (z_cJ G, N, .inr (.inl (fun _ => 0))))]) H1 locs → W p l e R s m args below meth c H1 locs (cells + 1) (slots + N) Q (F0 m (pc + 2) ls (.ref q :: rest))) : W p l e R s m args below meth c H locs cells slots Q (F0 m pc ls (.int n :: rest)) := by
  obtain ⟨⟨hx, hb, hml, hown, hts⟩, hr, hlk⟩ := hc
  obtain ⟨hK, hP, hD, hS, hA⟩ := hI
  refine va_newa hx hb (atype := .long) (hts _ wd_1_141) (ty := .long) rfl hK.1 hP hD hS hA (a0 := (N, .inr (.inl (fun _ => 0)))) (N' := N) (fun cA => rfl) hn hN hb4 hce hsl hdg (fun q cA H1 hK1 hP1 hD1 hS1 => ?_)
  have e1 : s.vm.findClass ("[" ++ FieldType.long.toString) = some cA := (hK1.2 4 (cA, .long) rfl).2
  have e2 : s.vm.findClass ("[" ++ FieldType.long.toString) = some (z_cJ G) := (hK.1.2 1 _ z_tyJ).2
  cases e1.symm.trans e2
  exact kk q H1 ⟨hK, hP1, hD1, hS1, hA⟩
theorem y_newZ (hc : z_C p s m args meth c own cc nL ret) (hI : y_I G A s ws H locs) {n : Int32} {N : Nat} (hn : ¬ n < 0) (hN : n.toNatClampNeg = N) (hb4 : N * 1 ≤ 536870912) (hce : cells + 1 ≤ R.cells) (hsl : slots + N ≤ R.slots) (hdg : decode cc pc = .ok (.newarray .boolean, 2)) (kk : ∀ (q : Nat) (H1 : Heap), y_I G A s (ws ++ [(q, .inl (z_cZ G, N, .inl (fun _ => 0)))]) H1 locs → W p l e R s m args below meth c H1 locs (cells + 1) (slots + N) Q (F0 m (pc + 2) ls (.ref q :: rest))) : W p l e R s m args below meth c H locs cells slots Q (F0 m pc ls (.int n :: rest)) := by
  obtain ⟨⟨hx, hb, hml, hown, hts⟩, hr, hlk⟩ := hc
  obtain ⟨hK, hP, hD, hS, hA⟩ := hI
  refine va_newa hx hb (atype := .boolean) (hts _ wd_4_232) (ty := .boolean) rfl hK.1 hP hD hS hA (a0 := (N, .inl (fun _ => 0))) (N' := N) (fun cA => rfl) hn hN hb4 hce hsl hdg (fun q cA H1 hK1 hP1 hD1 hS1 => ?_)
  have e1 : s.vm.findClass ("[" ++ FieldType.boolean.toString) = some cA := (hK1.2 4 (cA, .boolean) rfl).2
  have e2 : s.vm.findClass ("[" ++ FieldType.boolean.toString) = some (z_cZ G) := (hK.1.2 2 _ z_tyZ).2
  cases e1.symm.trans e2
  exact kk q H1 ⟨hK, hP1, hD1, hS1, hA⟩
theorem y_newT (hc : z_C p s m args meth c own cc nL ret) (hI : y_I G A s ws H locs) {idx : Nat} (h1 : Cond.classLink own idx RX5 ∈ z_tb) {n : Int32} {N : Nat} (hn : ¬ n < 0) (hN : n.toNatClampNeg = N) (hb4 : N * 4 ≤ 536870912) (hce : cells + 1 ≤ R.cells) (hsl : slots + N ≤ R.slots) (hdg : decode cc pc = .ok (.anewarray idx, 3)) (kk : ∀ (q : Nat) (H1 : Heap), y_I G A s (ws ++ [(q, .inl (z_cT G, N, .inr (.inr (.inr (.inr (fun _ => none))))))]) H1 locs → W p l e R s m args below meth c H1 locs (cells + 1) (slots + N) Q (F0 m (pc + 3) ls (.ref q :: rest))) : W p l e R s m args below meth c H locs cells slots Q (F0 m pc ls (.int n :: rest)) := by
  obtain ⟨⟨hx, hb, hml, hown, hts⟩, hr, hlk⟩ := hc
  obtain ⟨hK, hP, hD, hS, hA⟩ := hI
  refine va_newq hx hb hown (hts _ h1) hK.2 hK.1 hP hD hS hA (N' := N) hn hN hb4 hce hsl hdg (fun q cA H1 hK1 hP1 hD1 hS1 => ?_)
  obtain ⟨-, -, -, -, -, e1⟩ := (hK1.2 4 (cA, .object RX5) rfl).2
  obtain ⟨-, -, -, -, -, e2⟩ := (hK.1.2 3 _ z_tyT).2
  cases e1.symm.trans e2
  exact kk q H1 ⟨hK, hP1, hD1, hS1, hA⟩
/-- a final field of the object itself, at the head of the world -/
theorem y_putF {r : va_W} {h ci : Nat} {fs : List Value} (hc : z_C p s m args meth c own cc nL ret) (hI : y_I G A s ((h, .inr (ci, fs)) :: r) H locs) (hin : meth.name = "<init>") {C : String} {T : u_T} {N idx : Nat} (hcl : vwCl[ci]? = some (C, T, N)) (hinw : ∀ w ∈ u_ws C T N, w ∈ z_tb) (ty0 : Nat → FieldType) (hty : ∀ k, k < N → parseFieldDescriptor (T k).2.2.1 = some (ty0 k)) (hnm : ∀ a, a < N → ∀ b, b < N → a ≠ b → (T a).2.1 ≠ (T b).2.1) (j : Nat) (hj : j < N) (hlink : Cond.fieldLink own idx (T j).1 (T j).2.1 (T j).2.2.1 ∈ z_tb) (hfin : (T j).2.2.2 = true) (hdecl : (T j).1 = own) {ty : FieldType} {x : Nat} (hd : parseFieldDescriptor (T j).2.2.1 = some ty) (hfit : narrow ty (.ref x) = .ref x ∧ fits ty (.ref x) = true) (hl : j < fs.length) (hdg : decode cc pc = .ok (.putfield idx, 3))
    (kk : ∀ (H1 : Heap) (locs1 : List Loc), y_I G A s ((h, .inr (ci, fs.set j (.ref x))) :: r) H1 locs1 → W p l e R s m args below meth c H1 locs1 cells slots Q (F0 m (pc + 3) ls rest)) : W p l e R s m args below meth c H locs cells slots Q (F0 m pc ls (.ref x :: .ref h :: rest)) := by
  obtain ⟨⟨hx, hb, hml, hown, hts⟩, hr, hlk⟩ := hc
  obtain ⟨hK, hP, hD, hS, hA⟩ := hI
  exact va_putF hx hb hts hinw ty0 hty hnm hown hK.1 hP hD hS 0 (a := h) (ci := ci) (fs := fs) rfl hcl j hj (hts _ hlink) (fun _ h => h) hfin hin hdecl hd hfit.1 hfit.2 hl hdg (fun H1 locs1 hP1 hD1 hS1 => kk H1 locs1 ⟨hK, hP1, hD1, hS1, hA⟩)
/-- a field that is a number, of the object itself -/
theorem y_putI {r : va_W} {h ci : Nat} {fs : List Value} (hc : z_C p s m args meth c own cc nL ret) (hI : y_I G A s ((h, .inr (ci, fs)) :: r) H locs) {C : String} {T : u_T} {N idx : Nat} (hcl : vwCl[ci]? = some (C, T, N)) (hinw : ∀ w ∈ u_ws C T N, w ∈ z_tb) (ty0 : Nat → FieldType) (hty : ∀ k, k < N → parseFieldDescriptor (T k).2.2.1 = some (ty0 k)) (hnm : ∀ a, a < N → ∀ b, b < N → a ≠ b → (T a).2.1 ≠ (T b).2.1) (j : Nat) (hj : j < N) (hlink : Cond.fieldLink own idx (T j).1 (T j).2.1 (T j).2.2.1 ∈ z_tb) (hfin : (T j).2.2.2 = false) {x : Int32} (hd : parseFieldDescriptor (T j).2.2.1 = some .int) (hl : j < fs.length) (hdg : decode cc pc = .ok (.putfield idx, 3))
    (kk : ∀ (H1 : Heap) (locs1 : List Loc), y_I G A s ((h, .inr (ci, fs.set j (.int x))) :: r) H1 locs1 → W p l e R s m args below meth c H1 locs1 cells slots Q (F0 m (pc + 3) ls rest)) : W p l e R s m args below meth c H locs cells slots Q (F0 m pc ls (.int x :: .ref h :: rest)) := by
  obtain ⟨⟨hx, hb, hml, hown, hts⟩, hr, hlk⟩ := hc
  obtain ⟨hK, hP, hD, hS, hA⟩ := hI
  exact va_put hx hb hts hinw ty0 hty hnm hown hK.1 hP hD hS 0 (a := h) (ci := ci) (fs := fs) rfl hcl j hj (hts _ hlink) (fun _ h => h) hfin hd rfl rfl hl hdg (fun H1 locs1 hP1 hD1 hS1 => kk H1 locs1 ⟨hK, hP1, hD1, hS1, hA⟩)
/-- a field of the object itself is read -/
theorem y_get {r : va_W} {h ci : Nat} {fs : List Value} (hc : z_C p s m args meth c own cc nL ret) (hI : y_I G A s ((h, .inr (ci, fs)) :: r) H locs) {C : String} {T : u_T} {N idx : Nat} (hcl : vwCl[ci]? = some (C, T, N)) (hinw : ∀ w ∈ u_ws C T N, w ∈ z_tb) (j : Nat) (hj : j < N) (hlink : Cond.fieldLink own idx (T j).1 (T j).2.1 (T j).2.2.1 ∈ z_tb) {v : Value} (hv : fs[j]? = some v) (hdg : decode cc pc = .ok (.getfield idx, 3))
    (kk : W p l e R s m args below meth c H locs cells slots Q (F0 m (pc + 3) ls (v :: rest))) : W p l e R s m args below meth c H locs cells slots Q (F0 m pc ls (.ref h :: rest)) := by
  obtain ⟨⟨hx, hb, hml, hown, hts⟩, hr, hlk⟩ := hc
  obtain ⟨hK, hP, hD, hS, hA⟩ := hI
  exact va_get hx hb hts hinw hown hK.1 hP 0 (a := h) (ci := ci) (fs := fs) rfl hcl j hj (hts _ hlink) (fun _ h => h) hv hdg kk
theorem y_at {r1 r2 : va_W} {x y : Nat × va_E} : (x :: (r1 ++ y :: r2))[1 + r1.length]? = some y := by
  rw [Nat.add_comm, List.getElem?_cons_succ, List.getElem?_append_right (Nat.le_refl _)]
  simp
theorem y_setat {r1 r2 : va_W} {x y z : Nat × va_E} : (x :: (r1 ++ y :: r2)).set (1 + r1.length) z = x :: (r1 ++ z :: r2) := by
  rw [Nat.add_comm, List.set_cons_succ, List.set_append_right _ _ (Nat.le_refl _)]
  simp
/-- an int array somewhere in the world -/
theorem y_ist {x0 : Nat × va_E} {r1 r2 : va_W} {q n : Nat} {f : Nat → Int32} (hc : z_C p s m args meth c own cc nL ret) (hI : y_I G A s (x0 :: (r1 ++ (q, .inl (z_cI G, n, .inl f)) :: r2)) H locs) {i v : Int32} (hin : z_in i n) (hdg : decode cc pc = .ok (.iastore, 1))
    (kk : ∀ (H1 : Heap) (locs1 : List Loc), y_I G A s (x0 :: (r1 ++ (q, .inl (z_cI G, n, .inl (upd f i.toNatClampNeg v))) :: r2)) H1 locs1 → W p l e R s m args below meth c H1 locs1 cells slots Q (F0 m (pc + 1) ls rest)) : W p l e R s m args below meth c H locs cells slots Q (F0 m pc ls (.int v :: .int i :: .ref q :: rest)) := by
  obtain ⟨⟨hx, hb, hml, hown, hts⟩, hr, hlk⟩ := hc
  obtain ⟨hK, hP, hD, hS, hA⟩ := hI
  refine va_iast hx hb hK.1 hP hD hS (1 + r1.length) 0 (a := q) (cA := z_cI G) (n := n) (f := f) y_at z_tyI hin hdg (fun H1 locs1 hP1 hD1 hS1 => ?_)
  rw [y_setat] at hP1 hD1
  exact kk H1 locs1 ⟨hK, hP1, hD1, hS1, hA⟩
/-- the array of TOWNS somewhere in the world -/
theorem y_ast {x0 : Nat × va_E} {r1 r2 : va_W} {q n v : Nat} {vs : List Value} {f : Nat → Option Nat} (hc : z_C p s m args meth c own cc nL ret) (hI : y_I G A s (x0 :: (r1 ++ (q, .inl (z_cT G, n, .inr (.inr (.inr (.inr f))))) :: r2)) H locs) (hv : (v, Sum.inr (5, vs)) ∈ (x0 :: (r1 ++ (q, .inl (z_cT G, n, .inr (.inr (.inr (.inr f))))) :: r2) : va_W)) {i : Int32} (hin : z_in i n) (hdg : decode cc pc = .ok (.aastore, 1))
    (kk : ∀ (H1 : Heap) (locs1 : List Loc), y_I G A s (x0 :: (r1 ++ (q, .inl (z_cT G, n, .inr (.inr (.inr (.inr (va_up f i.toNatClampNeg (some v))))))) :: r2)) H1 locs1 → W p l e R s m args below meth c H1 locs1 cells slots Q (F0 m (pc + 1) ls rest)) : W p l e R s m args below meth c H locs cells slots Q (F0 m pc ls (.ref v :: .int i :: .ref q :: rest)) := by
  obtain ⟨⟨hx, hb, hml, hown, hts⟩, hr, hlk⟩ := hc
  obtain ⟨hK, hP, hD, hS, hA⟩ := hI
  obtain ⟨qk, hqk⟩ := List.getElem?_of_mem hv
  refine va_astq hx hb hK.1 hP hD hS (1 + r1.length) 3 qk 5 (a := q) (cA := z_cT G) (n := n) (f := f) (r := (RX5, TX5, 9)) y_at z_tyT hqk rfl hin hdg (fun H1 locs1 hP1 hD1 hS1 => ?_)
  rw [y_setat] at hP1 hD1
  exact kk H1 locs1 ⟨hK, hP1, hD1, hS1, hA⟩
theorem y_isC {ws : va_W} {x : Nat × va_E} : [ws.length].map (fun i => (ws ++ [x])[i]?) = [x].map some := by simp
theorem y_isR {ws : va_W} {x : Nat × va_E} : (List.range ws.length).map (fun i => (ws ++ [x])[i]?) = ws.map some := by
  apply List.ext_getElem?
  intro j
  rw [List.getElem?_map, List.getElem?_map]
  by_cases hj : j < ws.length
  · rw [List.getElem?_range hj]
    simp only [Option.map_some]
    rw [List.getElem?_append_left hj, List.getElem?_eq_getElem hj]
    rfl
  · rw [List.getElem?_eq_none (by simpa using hj), List.getElem?_eq_none (by simpa using hj)]
    rfl
theorem y_nd : ∀ n : Nat, va_nd (List.range n) = true := by
  have key : ∀ l : List Nat, l.Nodup → va_nd l = true := by
    intro l
    induction l with
    | nil => intro _; rfl
    | cons a l ih =>
      intro h
      rw [List.nodup_cons] at h
      simp only [va_nd, Bool.and_eq_true, decide_eq_true_eq]
      exact ⟨h.1, ih h.2⟩
  exact fun n => key _ List.nodup_range
/-- new C; dup; its constructor: the cells that it makes come behind the world -/
theorem y_new {C : String} {T : u_T} {idx1 idx2 N ci d mc ms nL' : Nat} {fs : List Value} {y : MethodName} {by' : ByteArray} {post : Nat → va_W → Prop} (hc : z_C p s m args meth c own cc nL ret) (hI : y_I G A s ws H locs) (hM : y_Met G l y by' nL' d mc ms ci fs post) (hyc : y.cls = C) (hyn : y.name = "<init>") (hdesc : y.cls ≠ "java/lang/invoke/MethodHandle" ∧ y.cls ≠ "java/lang/invoke/VarHandle" ∧ (parseMethodDescriptor y.desc).map (fun d => d.parameters.length) = some 0) (hcl : vwCl[ci]? = some (C, T, N)) (hinw : ∀ w ∈ u_ws C T N, w ∈ z_tb) (ty : Nat → FieldType) (hty : ∀ k, k < N → parseFieldDescriptor (T k).2.2.1 = some (ty k)) (hfs : ∀ j, j < N → defaultValue (ty j) = vp_V fs j)
    (h1 : Cond.classLink own idx1 C ∈ z_tb) (h2 : Cond.instantiable C N ∈ z_tb) (h3 : Cond.initialized C ∈ z_tb) (h4 : Cond.methodLink own idx2 y ∈ z_tb) (h5 : Cond.instanceMethod y ∈ z_tb) (h6 : Cond.code y by' nL' none ∈ z_tb)
    (hls : ls.size = nL) (hW : (rest.map fun v => v.category).sum ≤ 7) (hR : d + 1 ≤ R.frames ∧ 8 + (nL' + 11) + (40 * d + 64) ≤ R.locals) (hce : cells + 1 + mc ≤ R.cells) (hsl : slots + N + ms ≤ R.slots) (d1 : decode cc pc = .ok (.new idx1, 3)) (d2 : decode cc (pc + 3) = .ok (.dup, 1)) (d3 : decode cc (pc + 4) = .ok (.invokespecial idx2, 3))
    (kk : ∀ (q : Nat) (ws1 : va_W) (H1 : Heap) (locs1 : List Loc), post q ws1 → y_I G A s (ws ++ ws1) H1 locs1 → W p l e R s m args below meth c H1 locs1 (cells + 1 + mc) (slots + N + ms) Q (F0 m (pc + 7) ls (.ref q :: rest))) : W p l e R s m args below meth c H locs cells slots Q (F0 m pc ls rest) := by
  subst hyc
  obtain ⟨⟨hx, hb, hml, hown, hts⟩, hr, hlk⟩ := id hc
  obtain ⟨hK, hP, hD, hS, hA⟩ := hI
  refine va_new hx hb hts hinw ty hty hown (hts _ h1) (hts _ h2) (hts _ h3) hK.1 hP hD hS hA hcl hfs (by omega) (by omega) d1 (fun q H1 hP1 hD1 hS1 => ?_)
  refine lv_dup hx hb d2 rfl ?_
  have hPc := hP1.sub (ws' := [(q, .inr (ci, fs))]) [ws.length] (by simp)
  have hDc := hD1.sub (ws' := [(q, .inr (ci, fs))]) [ws.length] (by simp [va_nd]) y_isC
  have hFc := va_free (wc := [(q, .inr (ci, fs))]) hD1 hS1 hA [ws.length] y_isC
  have hgood : GoodIn z_tb (z_wm y by' nL' none) := z_goodIn (fun w hw => by
    rcases List.mem_cons.mp hw with rfl | h
    · exact h6
    · exact h)
  have hR' : (y_rm d mc ms).frames + 1 ≤ R.frames ∧ 8 + (nL' + 11) + (y_rm d mc ms).locals ≤ R.locals := hR
  refine va_callv (va_runI (As := []) (rest := .ref q :: rest) ⟨hx, hb, hml, hown, hts⟩ (hM q H1.size) (cwI 0 hts hgood rfl rfl rfl (hts _ h3) (hts _ h4) (hts _ h5) hyn hdesc hR') ⟨fun a U g mk z => ⟨z.1, z.2.1, z.2.2.1.moved (u := U) (U := U.calling g mk a) (Vm.Alike.refl U.vm), z.2.2.2⟩, fun U hU hW' => ⟨rfl, by rw [hU], hK.moved hW'.alike, by rw [hU]; exact hPc, hDc.weaken (fun _ _ _ _ => trivial)⟩⟩ rfl rfl hls rfl (lv_room (by simp only [List.map_cons, List.sum_cons]; show 1 + (rest.map fun v => v.category).sum ≤ 8; omega)) d3 ⟨by omega, by omega⟩) hS1 (fun q _ h => hFc q h) hFc (fun u t H2 locs2 ht hvm hw hB hz1 hk1 hS2 => ?_)
  obtain ⟨hP2, hD2⟩ := hB
  rw [ht] at hP2
  obtain ⟨hP3, hD3⟩ := va_join (wr := ws) (w1 := u) hP1 hD1 [ws.length] (List.range ws.length) y_isC y_isR (y_nd _) (by intro i hi h; have := List.mem_range.mp hi; simp at h; omega) hk1 hFc hP2 hD2
  exact kk q u H2 locs2 hw ⟨hK, hP3, hD3, hS2, hA⟩
end
def y_Town (G : z_G) (h q0 q1 q2 q3 : Nat) : va_W := [(h, .inr (5, [.ref q0, .ref q1, .ref q2, .ref q3, .int 0, .int 0, .int 0, .int 0, .int 0])), (q0, .inl (z_cI G, 8, .inl (fun _ => 0))), (q1, .inl (z_cI G, 8, .inl (fun _ => 0))), (q2, .inl (z_cI G, 8, .inl (fun _ => 0))), (q3, .inl (z_cI G, 20, .inl (fun _ => 0)))]
def y_pTown (G : z_G) (h : Nat) (ws : va_W) : Prop := ∃ q0 q1 q2 q3 : Nat, ws = y_Town G h q0 q1 q2 q3
set_option maxRecDepth 100000 in
set_option maxHeartbeats 4000000 in
theorem y_X5_init {G : z_G} {l : Launch} : y_Met G l yX5_init cX5_init 1 1 4 44 5 [.null, .null, .null, .null, .int 0, .int 0, .int 0, .int 0, .int 0] (y_pTown G) := by
  refine y_met_of (by decide) rfl (by decide) (fun p e s m below meth c ls h A hc hin hAe hI hl => ?_)
  obtain ⟨⟨hx, hb, hml, hown, hts⟩, hr, hlk⟩ := id hc
  clear hAe
  refine lv_aload_n hx hb dX5_init_0 rfl (lv_at hl 0 rfl) ?_
  refine y_obj hc wd_1_48 wd_1_18 wd_1_19 hl.1 (by decide) (by decide) dX5_init_1 ?_
  refine lv_aload_n hx hb dX5_init_4 rfl (lv_at hl 0 rfl) ?_
  refine lv_bipush (v := 8) hx hb dX5_init_5 (by decide) ?_
  refine y_newI hc hI (N := 8) (by decide) (by decide) (by decide) (by decide) (by decide) dX5_init_7 (fun q0 H hI => ?_)
  refine y_putF hc hI hin (C := RX5) (T := TX5) (N := 9) rfl z_inX5 tyX5 tyX5_ok nmX5 0 (by decide) wd_1_49 (by decide) rfl (ty := (.array .int)) (by decide) ⟨rfl, rfl⟩ (Nat.le_of_ble_eq_true rfl) dX5_init_9 (fun H locs hI => ?_)
  refine lv_aload_n hx hb dX5_init_12 rfl (lv_at hl 0 rfl) ?_
  refine lv_bipush (v := 8) hx hb dX5_init_13 (by decide) ?_
  refine y_newI hc hI (N := 8) (by decide) (by decide) (by decide) (by decide) (by decide) dX5_init_15 (fun q1 H hI => ?_)
  refine y_putF hc hI hin (C := RX5) (T := TX5) (N := 9) rfl z_inX5 tyX5 tyX5_ok nmX5 1 (by decide) wd_1_50 (by decide) rfl (ty := (.array .int)) (by decide) ⟨rfl, rfl⟩ (Nat.le_of_ble_eq_true rfl) dX5_init_17 (fun H locs hI => ?_)
  refine lv_aload_n hx hb dX5_init_20 rfl (lv_at hl 0 rfl) ?_
  refine lv_bipush (v := 8) hx hb dX5_init_21 (by decide) ?_
  refine y_newI hc hI (N := 8) (by decide) (by decide) (by decide) (by decide) (by decide) dX5_init_23 (fun q2 H hI => ?_)
  refine y_putF hc hI hin (C := RX5) (T := TX5) (N := 9) rfl z_inX5 tyX5 tyX5_ok nmX5 2 (by decide) wd_1_51 (by decide) rfl (ty := (.array .int)) (by decide) ⟨rfl, rfl⟩ (Nat.le_of_ble_eq_true rfl) dX5_init_25 (fun H locs hI => ?_)
  refine lv_aload_n hx hb dX5_init_28 rfl (lv_at hl 0 rfl) ?_
  refine lv_bipush (v := 20) hx hb dX5_init_29 (by decide) ?_
  refine y_newI hc hI (N := 20) (by decide) (by decide) (by decide) (by decide) (by decide) dX5_init_31 (fun q3 H hI => ?_)
  refine y_putF hc hI hin (C := RX5) (T := TX5) (N := 9) rfl z_inX5 tyX5 tyX5_ok nmX5 3 (by decide) wd_1_52 (by decide) rfl (ty := (.array .int)) (by decide) ⟨rfl, rfl⟩ (Nat.le_of_ble_eq_true rfl) dX5_init_33 (fun H locs hI => ?_)
  exact y_end (h := h) (post := y_pTown G) hc hI ⟨q0, q1, q2, q3, rfl⟩ dX5_init_36

def y_pAsks (G : z_G) (h : Nat) (ws : va_W) : Prop := ∃ q0 : Nat, ws = [(h, .inr (0, [.ref q0, .int 0, .int 0, .int 0, .int 0, .int 0])), (q0, .inl (z_cI G, 16, .inl (fun _ => 0)))]
set_option maxRecDepth 100000 in
set_option maxHeartbeats 4000000 in
theorem y_X0_init {G : z_G} {l : Launch} : y_Met G l yX0_init cX0_init 1 1 1 16 0 [.null, .int 0, .int 0, .int 0, .int 0, .int 0] (y_pAsks G) := by
  refine y_met_of (by decide) rfl (by decide) (fun p e s m below meth c ls h A hc hin hAe hI hl => ?_)
  obtain ⟨⟨hx, hb, hml, hown, hts⟩, hr, hlk⟩ := id hc
  clear hAe
  refine lv_aload_n hx hb dX0_init_0 rfl (lv_at hl 0 rfl) ?_
  refine y_obj hc wd_1_147 wd_1_18 wd_1_19 hl.1 (by decide) (by decide) dX0_init_1 ?_
  refine lv_aload_n hx hb dX0_init_4 rfl (lv_at hl 0 rfl) ?_
  refine lv_bipush (v := 16) hx hb dX0_init_5 (by decide) ?_
  refine y_newI hc hI (N := 16) (by decide) (by decide) (by decide) (by decide) (by decide) dX0_init_7 (fun q0 H hI => ?_)
  refine y_putF hc hI hin (C := RX0) (T := TX0) (N := 6) rfl z_inX0 tyX0 tyX0_ok nmX0 0 (by decide) wd_1_148 (by decide) rfl (ty := (.array .int)) (by decide) ⟨rfl, rfl⟩ (Nat.le_of_ble_eq_true rfl) dX0_init_9 (fun H locs hI => ?_)
  exact y_end (h := h) (post := y_pAsks G) hc hI ⟨q0, rfl⟩ dX0_init_12

def y_pReader (G : z_G) (h : Nat) (ws : va_W) : Prop := ∃ (q0 q1 : Nat) (w1 : va_W), y_pTown G q1 w1 ∧ ws = (h, .inr (2, [.ref q0, .ref q1, .int 0, .int 0, .int 0, .int 0])) :: ((q0, .inl (z_cI G, 100, .inl (fun _ => 0))) :: w1)
set_option maxRecDepth 100000 in
set_option maxHeartbeats 4000000 in
theorem y_X2_init {G : z_G} {l : Launch} : y_Met G l yX2_init cX2_init 1 2 6 153 2 [.null, .null, .int 0, .int 0, .int 0, .int 0] (y_pReader G) := by
  refine y_met_of (by decide) rfl (by decide) (fun p e s m below meth c ls h A hc hin hAe hI hl => ?_)
  obtain ⟨⟨hx, hb, hml, hown, hts⟩, hr, hlk⟩ := id hc
  clear hAe
  refine lv_aload_n hx hb dX2_init_0 rfl (lv_at hl 0 rfl) ?_
  refine y_obj hc wd_1_42 wd_1_18 wd_1_19 hl.1 (by decide) (by decide) dX2_init_1 ?_
  refine lv_aload_n hx hb dX2_init_4 rfl (lv_at hl 0 rfl) ?_
  refine lv_bipush (v := 100) hx hb dX2_init_5 (by decide) ?_
  refine y_newI hc hI (N := 100) (by decide) (by decide) (by decide) (by decide) (by decide) dX2_init_7 (fun q0 H hI => ?_)
  refine y_putF hc hI hin (C := RX2) (T := TX2) (N := 6) rfl z_inX2 tyX2 tyX2_ok nmX2 0 (by decide) wd_1_77 (by decide) rfl (ty := (.array .int)) (by decide) ⟨rfl, rfl⟩ (Nat.le_of_ble_eq_true rfl) dX2_init_9 (fun H locs hI => ?_)
  refine lv_aload_n hx hb dX2_init_12 rfl (lv_at hl 0 rfl) ?_
  refine y_new hc hI (y_X5_init (G := G) (l := l)) (T := TX5) (N := 9) rfl rfl (by decide +kernel) rfl z_inX5 tyX5 tyX5_ok (by decide) wd_1_43 wd_1_44 wd_1_4 wd_1_45 wd_1_46 wd_1_47 hl.1 (Nat.le_of_ble_eq_true rfl) (by decide) (by decide) (by decide) dX2_init_13 dX2_init_16 dX2_init_17 (fun q1 w1 H locs pq1 hI => ?_)
  refine y_putF hc hI hin (C := RX2) (T := TX2) (N := 6) rfl z_inX2 tyX2 tyX2_ok nmX2 1 (by decide) wd_1_78 (by decide) rfl (ty := (.object "StairTunes$Town")) (by decide) ⟨rfl, rfl⟩ (Nat.le_of_ble_eq_true rfl) dX2_init_20 (fun H locs hI => ?_)
  exact y_end (h := h) (post := y_pReader G) hc hI ⟨q0, q1, w1, pq1, rfl⟩ dX2_init_23

def y_pSeer (G : z_G) (h : Nat) (ws : va_W) : Prop := ∃ (q0 q1 q2 q3 : Nat) (w0 : va_W), y_pTown G q0 w0 ∧ ws = (h, .inr (3, [.ref q0, .ref q1, .ref q2, .ref q3, .int 0])) :: (w0 ++ [(q1, .inl (z_cI G, 12, .inl (fun _ => 0))), (q2, .inl (z_cI G, 5, .inl (fun _ => 0))), (q3, .inl (z_cJ G, 5, .inr (.inl (fun _ => 0))))])
set_option maxRecDepth 100000 in
set_option maxHeartbeats 4000000 in
theorem y_X3_init {G : z_G} {l : Launch} : y_Met G l yX3_init cX3_init 1 2 8 75 3 [.null, .null, .null, .null, .int 0] (y_pSeer G) := by
  refine y_met_of (by decide) rfl (by decide) (fun p e s m below meth c ls h A hc hin hAe hI hl => ?_)
  obtain ⟨⟨hx, hb, hml, hown, hts⟩, hr, hlk⟩ := id hc
  clear hAe
  refine lv_aload_n hx hb dX3_init_0 rfl (lv_at hl 0 rfl) ?_
  refine y_obj hc wd_1_122 wd_1_18 wd_1_19 hl.1 (by decide) (by decide) dX3_init_1 ?_
  refine lv_aload_n hx hb dX3_init_4 rfl (lv_at hl 0 rfl) ?_
  refine y_new hc hI (y_X5_init (G := G) (l := l)) (T := TX5) (N := 9) rfl rfl (by decide +kernel) rfl z_inX5 tyX5 tyX5_ok (by decide) wd_1_123 wd_1_44 wd_1_4 wd_1_124 wd_1_46 wd_1_47 hl.1 (Nat.le_of_ble_eq_true rfl) (by decide) (by decide) (by decide) dX3_init_5 dX3_init_8 dX3_init_9 (fun q0 w0 H locs pq0 hI => ?_)
  refine y_putF hc hI hin (C := RX3) (T := TX3) (N := 5) rfl z_inX3 tyX3 tyX3_ok nmX3 0 (by decide) wd_1_125 (by decide) rfl (ty := (.object "StairTunes$Town")) (by decide) ⟨rfl, rfl⟩ (Nat.le_of_ble_eq_true rfl) dX3_init_12 (fun H locs hI => ?_)
  refine lv_aload_n hx hb dX3_init_15 rfl (lv_at hl 0 rfl) ?_
  refine lv_bipush (v := 12) hx hb dX3_init_16 (by decide) ?_
  refine y_newI hc hI (N := 12) (by decide) (by decide) (by decide) (by decide) (by decide) dX3_init_18 (fun q1 H hI => ?_)
  refine y_putF hc hI hin (C := RX3) (T := TX3) (N := 5) rfl z_inX3 tyX3 tyX3_ok nmX3 1 (by decide) wd_1_126 (by decide) rfl (ty := (.array .int)) (by decide) ⟨rfl, rfl⟩ (Nat.le_of_ble_eq_true rfl) dX3_init_20 (fun H locs hI => ?_)
  refine lv_aload_n hx hb dX3_init_23 rfl (lv_at hl 0 rfl) ?_
  refine lv_iconst (v := 5) hx hb dX3_init_24 (by decide) ?_
  refine y_newI hc hI (N := 5) (by decide) (by decide) (by decide) (by decide) (by decide) dX3_init_25 (fun q2 H hI => ?_)
  refine y_putF hc hI hin (C := RX3) (T := TX3) (N := 5) rfl z_inX3 tyX3 tyX3_ok nmX3 2 (by decide) wd_1_127 (by decide) rfl (ty := (.array .int)) (by decide) ⟨rfl, rfl⟩ (Nat.le_of_ble_eq_true rfl) dX3_init_27 (fun H locs hI => ?_)
  refine lv_aload_n hx hb dX3_init_30 rfl (lv_at hl 0 rfl) ?_
  refine lv_iconst (v := 5) hx hb dX3_init_31 (by decide) ?_
  refine y_newJ hc hI (N := 5) (by decide) (by decide) (by decide) (by decide) (by decide) dX3_init_32 (fun q3 H hI => ?_)
  refine y_putF hc hI hin (C := RX3) (T := TX3) (N := 5) rfl z_inX3 tyX3 tyX3_ok nmX3 3 (by decide) wd_1_128 (by decide) rfl (ty := (.array .long)) (by decide) ⟨rfl, rfl⟩ (Nat.le_of_ble_eq_true rfl) dX3_init_34 (fun H locs hI => ?_)
  exact y_end (h := h) (post := y_pSeer G) hc hI ⟨q0, q1, q2, q3, w0, pq0, by simp⟩ dX3_init_37

def y_pShelf (G : z_G) (h : Nat) (ws : va_W) : Prop := ∃ (q0 q1 q2 : Nat) (f : Nat → Int32), (∀ j, j < 8 → f j = -1) ∧ ws = [(h, .inr (4, [.ref q0, .ref q1, .ref q2])), (q0, .inl (z_cI G, 320, .inl (fun _ => 0))), (q1, .inl (z_cI G, 8, .inl (fun _ => 0))), (q2, .inl (z_cI G, 8, .inl f))]
set_option maxRecDepth 100000 in
set_option maxHeartbeats 4000000 in
theorem y_X4_init {G : z_G} {l : Launch} : y_Met G l yX4_init cX4_init 2 1 3 336 4 [.null, .null, .null] (y_pShelf G) := by
  refine y_met_of (by decide) rfl (by decide) (fun p e s m below meth c ls h A hc hin hAe hI hl => ?_)
  obtain ⟨⟨hx, hb, hml, hown, hts⟩, hr, hlk⟩ := id hc
  clear hAe
  refine lv_aload_n hx hb dX4_init_0 rfl (lv_at hl 0 rfl) ?_
  refine y_obj hc wd_1_25 wd_1_18 wd_1_19 hl.1 (by decide) (by decide) dX4_init_1 ?_
  refine lv_aload_n hx hb dX4_init_4 rfl (lv_at hl 0 rfl) ?_
  refine lv_sipush (v := 320) hx hb dX4_init_5 (by decide) ?_
  refine y_newI hc hI (N := 320) (by decide) (by decide) (by decide) (by decide) (by decide) dX4_init_8 (fun q0 H hI => ?_)
  refine y_putF hc hI hin (C := RX4) (T := TX4) (N := 3) rfl z_inX4 tyX4 tyX4_ok nmX4 0 (by decide) wd_1_26 (by decide) rfl (ty := (.array .int)) (by decide) ⟨rfl, rfl⟩ (Nat.le_of_ble_eq_true rfl) dX4_init_10 (fun H locs hI => ?_)
  refine lv_aload_n hx hb dX4_init_13 rfl (lv_at hl 0 rfl) ?_
  refine lv_bipush (v := 8) hx hb dX4_init_14 (by decide) ?_
  refine y_newI hc hI (N := 8) (by decide) (by decide) (by decide) (by decide) (by decide) dX4_init_16 (fun q1 H hI => ?_)
  refine y_putF hc hI hin (C := RX4) (T := TX4) (N := 3) rfl z_inX4 tyX4 tyX4_ok nmX4 1 (by decide) wd_1_27 (by decide) rfl (ty := (.array .int)) (by decide) ⟨rfl, rfl⟩ (Nat.le_of_ble_eq_true rfl) dX4_init_18 (fun H locs hI => ?_)
  refine lv_aload_n hx hb dX4_init_21 rfl (lv_at hl 0 rfl) ?_
  refine lv_bipush (v := 8) hx hb dX4_init_22 (by decide) ?_
  refine y_newI hc hI (N := 8) (by decide) (by decide) (by decide) (by decide) (by decide) dX4_init_24 (fun q2 H hI => ?_)
  refine y_putF hc hI hin (C := RX4) (T := TX4) (N := 3) rfl z_inX4 tyX4 tyX4_ok nmX4 2 (by decide) wd_1_28 (by decide) rfl (ty := (.array .int)) (by decide) ⟨rfl, rfl⟩ (Nat.le_of_ble_eq_true rfl) dX4_init_26 (fun H locs hI => ?_)
  refine lv_iconst (v := 0) hx hb dX4_init_29 (by decide) ?_
  refine lv_istore_n (lv' := [(1, .int (nI 0)), (0, .ref h)]) hx hb dX4_init_30 rfl hl (by decide) rfl (fun ls hl => ?_)
  have loop : ∀ (k i : Nat), i + k = 8 → ∀ (f : Nat → Int32), (∀ j, j < i → f j = -1) → ∀ (H : Heap) (locs : List Loc) (ls : Array Slot), y_I G A s ((h, .inr (4, [.ref q0, .ref q1, .ref q2])) :: ([(q0, .inl (z_cI G, 320, .inl (fun _ => 0))), (q1, .inl (z_cI G, 8, .inl (fun _ => 0)))] ++ (q2, .inl (z_cI G, 8, .inl f)) :: [])) H locs → lv_has ls 2 [(1, .int (nI i)), (0, .ref h)] → W p l e (y_rm 1 3 336) s m #[Value.ref h] below meth c H locs 3 336 (MQ below (va_Qv (fun ws : va_W => y_pShelf G h ws) (fun ws t => va_P (z_gD G) vwCl ws t.heap ∧ va_D A ws) A) #[Value.ref h] s 3 336 A) (F0 m 31 ls []) := by
    intro k
    induction k with
    | zero =>
      intro i hi f hf H locs ls hI hl
      obtain rfl : i = 8 := by omega
      refine lv_iload_n hx hb dX4_init_31 rfl (lv_at hl 0 rfl) ?_
      refine lv_bipush (v := 8) hx hb dX4_init_32 (by decide) ?_
      refine lv_icmp_ge (tgt := 50) hx hb dX4_init_34 (by decide) (fun _ => ?_) (fun c1 => absurd (by decide) c1)
      exact y_end (h := h) (post := y_pShelf G) hc hI ⟨q0, q1, q2, f, hf, rfl⟩ dX4_init_50
    | succ k ih =>
      intro i hi f hf H locs ls hI hl
      refine lv_iload_n hx hb dX4_init_31 rfl (lv_at hl 0 rfl) ?_
      refine lv_bipush (v := 8) hx hb dX4_init_32 (by decide) ?_
      refine lv_icmp_ge (tgt := 50) hx hb dX4_init_34 (by decide) (fun c1 => absurd c1 (nI_ge (a := i) (b := 8) (by omega) (by decide))) (fun _ => ?_)
      refine lv_aload_n hx hb dX4_init_37 rfl (lv_at hl 1 rfl) ?_
      refine y_get hc hI (C := RX4) (T := TX4) (N := 3) rfl z_inX4 2 (by decide) wd_1_28 rfl dX4_init_38 ?_
      refine lv_iload_n hx hb dX4_init_41 rfl (lv_at hl 0 rfl) ?_
      refine lv_iconst (v := -1) hx hb dX4_init_42 (by decide) ?_
      refine y_ist hc hI (nI_in (by omega) (by decide)) dX4_init_43 (fun H locs hI => ?_)
      refine lv_iinc (v := nI (i + 1)) (lv' := [(1, .int (nI (i + 1))), (0, .ref h)]) hx hb dX4_init_44 hl (k := 0) rfl (nI_1 _) (by decide) rfl (fun ls hl => ?_)
      refine lv_goto (tgt := 31) hx hb dX4_init_47 (by decide) ?_
      refine ih (i + 1) (by omega) _ (fun j hj => ?_) H locs ls hI hl
      rw [nI_clamp (by omega)]
      unfold upd
      split
      · rfl
      · exact hf j (by omega)
  exact loop 8 0 rfl _ (fun j hj => by omega) H locs ls hI hl

def y_pModel (G : z_G) (h : Nat) (ws : va_W) : Prop := ∃ (q0 q1 q2 q3 q4 q5 q6 q7 q8 q9 q10 q11 : Nat) (f : Nat → Int32), (∀ j, j < 8 → f j = -1) ∧ ws = [(h, .inr (7, [.ref q0, .ref q1, .ref q2, .int 0, .int 0, .ref q3, .ref q4, .ref q5, .int 0, .int 0, .int 0, .int 0, .int 0, .int 0, .int 0, .ref q6, .ref q7, .int 0, .ref q8, .int 0, .ref q9, .ref q10, .ref q11, .int 0])), (q0, .inl (z_cI G, 8, .inl (fun _ => 0))), (q1, .inl (z_cI G, 8, .inl f)), (q2, .inl (z_cI G, 320, .inl (fun _ => 0))), (q3, .inl (z_cI G, 49, .inl (fun _ => 0))), (q4, .inl (z_cI G, 40, .inl (fun _ => 0))), (q5, .inl (z_cI G, 100, .inl (fun _ => 0))), (q6, .inl (z_cI G, 49, .inl (fun _ => 0))), (q7, .inl (z_cI G, 1176, .inl (fun _ => 0))), (q8, .inl (z_cI G, 49, .inl (fun _ => 0))), (q9, .inl (z_cZ G, 2, .inl (fun _ => 0))), (q10, .inl (z_cI G, 98, .inl (fun _ => 0))), (q11, .inl (z_cI G, 16, .inl (fun _ => 0)))]
set_option maxRecDepth 100000 in
set_option maxHeartbeats 4000000 in
theorem y_X7_init {G : z_G} {l : Launch} : y_Met G l yX7_init cX7_init 2 1 12 1915 7 [.null, .null, .null, .int 0, .int 0, .null, .null, .null, .int 0, .int 0, .int 0, .int 0, .int 0, .int 0, .int 0, .null, .null, .int 0, .null, .int 0, .null, .null, .null, .int 0] (y_pModel G) := by
  refine y_met_of (by decide) rfl (by decide) (fun p e s m below meth c ls h A hc hin hAe hI hl => ?_)
  obtain ⟨⟨hx, hb, hml, hown, hts⟩, hr, hlk⟩ := id hc
  clear hAe
  refine lv_aload_n hx hb dX7_init_0 rfl (lv_at hl 0 rfl) ?_
  refine y_obj hc wd_4_158 wd_1_18 wd_1_19 hl.1 (by decide) (by decide) dX7_init_1 ?_
  refine lv_aload_n hx hb dX7_init_4 rfl (lv_at hl 0 rfl) ?_
  refine lv_bipush (v := 8) hx hb dX7_init_5 (by decide) ?_
  refine y_newI hc hI (N := 8) (by decide) (by decide) (by decide) (by decide) (by decide) dX7_init_7 (fun q0 H hI => ?_)
  refine y_putF hc hI hin (C := RX7) (T := TX7) (N := 24) rfl z_inX7 tyX7 tyX7_ok nmX7 0 (by decide) wd_4_159 (by decide) rfl (ty := (.array .int)) (by decide) ⟨rfl, rfl⟩ (Nat.le_of_ble_eq_true rfl) dX7_init_9 (fun H locs hI => ?_)
  refine lv_aload_n hx hb dX7_init_12 rfl (lv_at hl 0 rfl) ?_
  refine lv_bipush (v := 8) hx hb dX7_init_13 (by decide) ?_
  refine y_newI hc hI (N := 8) (by decide) (by decide) (by decide) (by decide) (by decide) dX7_init_15 (fun q1 H hI => ?_)
  refine y_putF hc hI hin (C := RX7) (T := TX7) (N := 24) rfl z_inX7 tyX7 tyX7_ok nmX7 1 (by decide) wd_4_160 (by decide) rfl (ty := (.array .int)) (by decide) ⟨rfl, rfl⟩ (Nat.le_of_ble_eq_true rfl) dX7_init_17 (fun H locs hI => ?_)
  refine lv_aload_n hx hb dX7_init_20 rfl (lv_at hl 0 rfl) ?_
  refine lv_sipush (v := 320) hx hb dX7_init_21 (by decide) ?_
  refine y_newI hc hI (N := 320) (by decide) (by decide) (by decide) (by decide) (by decide) dX7_init_24 (fun q2 H hI => ?_)
  refine y_putF hc hI hin (C := RX7) (T := TX7) (N := 24) rfl z_inX7 tyX7 tyX7_ok nmX7 2 (by decide) wd_4_161 (by decide) rfl (ty := (.array .int)) (by decide) ⟨rfl, rfl⟩ (Nat.le_of_ble_eq_true rfl) dX7_init_26 (fun H locs hI => ?_)
  refine lv_aload_n hx hb dX7_init_29 rfl (lv_at hl 0 rfl) ?_
  refine lv_bipush (v := 49) hx hb dX7_init_30 (by decide) ?_
  refine y_newI hc hI (N := 49) (by decide) (by decide) (by decide) (by decide) (by decide) dX7_init_32 (fun q3 H hI => ?_)
  refine y_putF hc hI hin (C := RX7) (T := TX7) (N := 24) rfl z_inX7 tyX7 tyX7_ok nmX7 5 (by decide) wd_4_164 (by decide) rfl (ty := (.array .int)) (by decide) ⟨rfl, rfl⟩ (Nat.le_of_ble_eq_true rfl) dX7_init_34 (fun H locs hI => ?_)
  refine lv_aload_n hx hb dX7_init_37 rfl (lv_at hl 0 rfl) ?_
  refine lv_bipush (v := 40) hx hb dX7_init_38 (by decide) ?_
  refine y_newI hc hI (N := 40) (by decide) (by decide) (by decide) (by decide) (by decide) dX7_init_40 (fun q4 H hI => ?_)
  refine y_putF hc hI hin (C := RX7) (T := TX7) (N := 24) rfl z_inX7 tyX7 tyX7_ok nmX7 6 (by decide) wd_4_165 (by decide) rfl (ty := (.array .int)) (by decide) ⟨rfl, rfl⟩ (Nat.le_of_ble_eq_true rfl) dX7_init_42 (fun H locs hI => ?_)
  refine lv_aload_n hx hb dX7_init_45 rfl (lv_at hl 0 rfl) ?_
  refine lv_bipush (v := 100) hx hb dX7_init_46 (by decide) ?_
  refine y_newI hc hI (N := 100) (by decide) (by decide) (by decide) (by decide) (by decide) dX7_init_48 (fun q5 H hI => ?_)
  refine y_putF hc hI hin (C := RX7) (T := TX7) (N := 24) rfl z_inX7 tyX7 tyX7_ok nmX7 7 (by decide) wd_4_166 (by decide) rfl (ty := (.array .int)) (by decide) ⟨rfl, rfl⟩ (Nat.le_of_ble_eq_true rfl) dX7_init_50 (fun H locs hI => ?_)
  refine lv_aload_n hx hb dX7_init_53 rfl (lv_at hl 0 rfl) ?_
  refine lv_bipush (v := 49) hx hb dX7_init_54 (by decide) ?_
  refine y_newI hc hI (N := 49) (by decide) (by decide) (by decide) (by decide) (by decide) dX7_init_56 (fun q6 H hI => ?_)
  refine y_putF hc hI hin (C := RX7) (T := TX7) (N := 24) rfl z_inX7 tyX7 tyX7_ok nmX7 15 (by decide) wd_4_174 (by decide) rfl (ty := (.array .int)) (by decide) ⟨rfl, rfl⟩ (Nat.le_of_ble_eq_true rfl) dX7_init_58 (fun H locs hI => ?_)
  refine lv_aload_n hx hb dX7_init_61 rfl (lv_at hl 0 rfl) ?_
  refine lv_sipush (v := 1176) hx hb dX7_init_62 (by decide) ?_
  refine y_newI hc hI (N := 1176) (by decide) (by decide) (by decide) (by decide) (by decide) dX7_init_65 (fun q7 H hI => ?_)
  refine y_putF hc hI hin (C := RX7) (T := TX7) (N := 24) rfl z_inX7 tyX7 tyX7_ok nmX7 16 (by decide) wd_4_175 (by decide) rfl (ty := (.array .int)) (by decide) ⟨rfl, rfl⟩ (Nat.le_of_ble_eq_true rfl) dX7_init_67 (fun H locs hI => ?_)
  refine lv_aload_n hx hb dX7_init_70 rfl (lv_at hl 0 rfl) ?_
  refine lv_bipush (v := 49) hx hb dX7_init_71 (by decide) ?_
  refine y_newI hc hI (N := 49) (by decide) (by decide) (by decide) (by decide) (by decide) dX7_init_73 (fun q8 H hI => ?_)
  refine y_putF hc hI hin (C := RX7) (T := TX7) (N := 24) rfl z_inX7 tyX7 tyX7_ok nmX7 18 (by decide) wd_4_177 (by decide) rfl (ty := (.array .int)) (by decide) ⟨rfl, rfl⟩ (Nat.le_of_ble_eq_true rfl) dX7_init_75 (fun H locs hI => ?_)
  refine lv_aload_n hx hb dX7_init_78 rfl (lv_at hl 0 rfl) ?_
  refine lv_iconst (v := 2) hx hb dX7_init_79 (by decide) ?_
  refine y_newZ hc hI (N := 2) (by decide) (by decide) (by decide) (by decide) (by decide) dX7_init_80 (fun q9 H hI => ?_)
  refine y_putF hc hI hin (C := RX7) (T := TX7) (N := 24) rfl z_inX7 tyX7 tyX7_ok nmX7 20 (by decide) wd_4_179 (by decide) rfl (ty := (.array .boolean)) (by decide) ⟨rfl, rfl⟩ (Nat.le_of_ble_eq_true rfl) dX7_init_82 (fun H locs hI => ?_)
  refine lv_aload_n hx hb dX7_init_85 rfl (lv_at hl 0 rfl) ?_
  refine lv_bipush (v := 98) hx hb dX7_init_86 (by decide) ?_
  refine y_newI hc hI (N := 98) (by decide) (by decide) (by decide) (by decide) (by decide) dX7_init_88 (fun q10 H hI => ?_)
  refine y_putF hc hI hin (C := RX7) (T := TX7) (N := 24) rfl z_inX7 tyX7 tyX7_ok nmX7 21 (by decide) wd_4_180 (by decide) rfl (ty := (.array .int)) (by decide) ⟨rfl, rfl⟩ (Nat.le_of_ble_eq_true rfl) dX7_init_90 (fun H locs hI => ?_)
  refine lv_aload_n hx hb dX7_init_93 rfl (lv_at hl 0 rfl) ?_
  refine lv_bipush (v := 16) hx hb dX7_init_94 (by decide) ?_
  refine y_newI hc hI (N := 16) (by decide) (by decide) (by decide) (by decide) (by decide) dX7_init_96 (fun q11 H hI => ?_)
  refine y_putF hc hI hin (C := RX7) (T := TX7) (N := 24) rfl z_inX7 tyX7 tyX7_ok nmX7 22 (by decide) wd_4_181 (by decide) rfl (ty := (.array .int)) (by decide) ⟨rfl, rfl⟩ (Nat.le_of_ble_eq_true rfl) dX7_init_98 (fun H locs hI => ?_)
  refine lv_iconst (v := 0) hx hb dX7_init_101 (by decide) ?_
  refine lv_istore_n (lv' := [(1, .int (nI 0)), (0, .ref h)]) hx hb dX7_init_102 rfl hl (by decide) rfl (fun ls hl => ?_)
  have loop : ∀ (k i : Nat), i + k = 8 → ∀ (f : Nat → Int32), (∀ j, j < i → f j = -1) → ∀ (H : Heap) (locs : List Loc) (ls : Array Slot), y_I G A s ((h, .inr (7, [.ref q0, .ref q1, .ref q2, .int 0, .int 0, .ref q3, .ref q4, .ref q5, .int 0, .int 0, .int 0, .int 0, .int 0, .int 0, .int 0, .ref q6, .ref q7, .int 0, .ref q8, .int 0, .ref q9, .ref q10, .ref q11, .int 0])) :: ([(q0, .inl (z_cI G, 8, .inl (fun _ => 0)))] ++ (q1, .inl (z_cI G, 8, .inl f)) :: [(q2, .inl (z_cI G, 320, .inl (fun _ => 0))), (q3, .inl (z_cI G, 49, .inl (fun _ => 0))), (q4, .inl (z_cI G, 40, .inl (fun _ => 0))), (q5, .inl (z_cI G, 100, .inl (fun _ => 0))), (q6, .inl (z_cI G, 49, .inl (fun _ => 0))), (q7, .inl (z_cI G, 1176, .inl (fun _ => 0))), (q8, .inl (z_cI G, 49, .inl (fun _ => 0))), (q9, .inl (z_cZ G, 2, .inl (fun _ => 0))), (q10, .inl (z_cI G, 98, .inl (fun _ => 0))), (q11, .inl (z_cI G, 16, .inl (fun _ => 0)))])) H locs → lv_has ls 2 [(1, .int (nI i)), (0, .ref h)] → W p l e (y_rm 1 12 1915) s m #[Value.ref h] below meth c H locs 12 1915 (MQ below (va_Qv (fun ws : va_W => y_pModel G h ws) (fun ws t => va_P (z_gD G) vwCl ws t.heap ∧ va_D A ws) A) #[Value.ref h] s 12 1915 A) (F0 m 103 ls []) := by
    intro k
    induction k with
    | zero =>
      intro i hi f hf H locs ls hI hl
      obtain rfl : i = 8 := by omega
      refine lv_iload_n hx hb dX7_init_103 rfl (lv_at hl 0 rfl) ?_
      refine lv_bipush (v := 8) hx hb dX7_init_104 (by decide) ?_
      refine lv_icmp_ge (tgt := 122) hx hb dX7_init_106 (by decide) (fun _ => ?_) (fun c1 => absurd (by decide) c1)
      exact y_end (h := h) (post := y_pModel G) hc hI ⟨q0, q1, q2, q3, q4, q5, q6, q7, q8, q9, q10, q11, f, hf, rfl⟩ dX7_init_122
    | succ k ih =>
      intro i hi f hf H locs ls hI hl
      refine lv_iload_n hx hb dX7_init_103 rfl (lv_at hl 0 rfl) ?_
      refine lv_bipush (v := 8) hx hb dX7_init_104 (by decide) ?_
      refine lv_icmp_ge (tgt := 122) hx hb dX7_init_106 (by decide) (fun c1 => absurd c1 (nI_ge (a := i) (b := 8) (by omega) (by decide))) (fun _ => ?_)
      refine lv_aload_n hx hb dX7_init_109 rfl (lv_at hl 1 rfl) ?_
      refine y_get hc hI (C := RX7) (T := TX7) (N := 24) rfl z_inX7 1 (by decide) wd_4_160 rfl dX7_init_110 ?_
      refine lv_iload_n hx hb dX7_init_113 rfl (lv_at hl 0 rfl) ?_
      refine lv_iconst (v := -1) hx hb dX7_init_114 (by decide) ?_
      refine y_ist hc hI (nI_in (by omega) (by decide)) dX7_init_115 (fun H locs hI => ?_)
      refine lv_iinc (v := nI (i + 1)) (lv' := [(1, .int (nI (i + 1))), (0, .ref h)]) hx hb dX7_init_116 hl (k := 0) rfl (nI_1 _) (by decide) rfl (fun ls hl => ?_)
      refine lv_goto (tgt := 103) hx hb dX7_init_119 (by decide) ?_
      refine ih (i + 1) (by omega) _ (fun j hj => ?_) H locs ls hI hl
      rw [nI_clamp (by omega)]
      unfold upd
      split
      · rfl
      · exact hf j (by omega)
  exact loop 8 0 rfl _ (fun j hj => by omega) H locs ls hI hl

def y_Towns (G : z_G) (q : Nat → Nat → Nat) (n : Nat) : va_W := (List.range n).flatMap (fun i => y_Town G (q i 0) (q i 1) (q i 2) (q i 3) (q i 4))
theorem y_Towns_s {G : z_G} {q : Nat → Nat → Nat} {n a b c d e : Nat} (h0 : q n 0 = a) (h1 : q n 1 = b) (h2 : q n 2 = c) (h3 : q n 3 = d) (h4 : q n 4 = e) : y_Towns G q (n + 1) = y_Towns G q n ++ y_Town G a b c d e := by
  subst h0; subst h1; subst h2; subst h3; subst h4
  unfold y_Towns
  rw [List.range_succ, List.flatMap_append]
  simp
theorem y_Towns_c {G : z_G} {q q' : Nat → Nat → Nat} {n : Nat} (h : ∀ i, i < n → q i = q' i) : y_Towns G q n = y_Towns G q' n := by
  induction n with
  | zero => rfl
  | succ n ih =>
    rw [y_Towns_s rfl rfl rfl rfl rfl, ih (fun i hi => h i (by omega)), y_Towns_s rfl rfl rfl rfl rfl, h n (by omega)]
def y_qs (q : Nat → Nat → Nat) (n a b c d e : Nat) : Nat → Nat → Nat := fun i => if i = n then (fun j => if j = 0 then a else if j = 1 then b else if j = 2 then c else if j = 3 then d else e) else q i
def y_pPast (G : z_G) (h : Nat) (ws : va_W) : Prop := ∃ (q0 : Nat) (q : Nat → Nat → Nat) (f : Nat → Option Nat), (∀ j, j < 24 → f j = some (q j 0)) ∧ ws = (h, .inr (1, [.ref q0, .int 0, .int 0])) :: (q0, .inl (z_cT G, 24, .inr (.inr (.inr (.inr f))))) :: y_Towns G q 24
set_option maxRecDepth 100000 in
set_option maxHeartbeats 4000000 in
theorem y_X1_init {G : z_G} {l : Launch} : y_Met G l yX1_init cX1_init 2 2 121 1296 1 [.null, .int 0, .int 0] (y_pPast G) := by
  refine y_met_of (by decide) rfl (by decide) (fun p e s m below meth c ls h A hc hin hAe hI hl => ?_)
  obtain ⟨⟨hx, hb, hml, hown, hts⟩, hr, hlk⟩ := id hc
  clear hAe
  refine lv_aload_n hx hb dX1_init_0 rfl (lv_at hl 0 rfl) ?_
  refine y_obj hc wd_1_103 wd_1_18 wd_1_19 hl.1 (by decide) (by decide) dX1_init_1 ?_
  refine lv_aload_n hx hb dX1_init_4 rfl (lv_at hl 0 rfl) ?_
  refine lv_bipush (v := 24) hx hb dX1_init_5 (by decide) ?_
  refine y_newT hc hI wd_1_104 (N := 24) (by decide) (by decide) (by decide) (by decide) (by decide) dX1_init_7 (fun q0 H hI => ?_)
  refine y_putF hc hI hin (C := RX1) (T := TX1) (N := 3) rfl z_inX1 tyX1 tyX1_ok nmX1 0 (by decide) wd_1_107 (by decide) rfl (ty := (.array (.object "StairTunes$Town"))) (by decide) ⟨rfl, rfl⟩ (Nat.le_of_ble_eq_true rfl) dX1_init_10 (fun H locs hI => ?_)
  refine lv_iconst (v := 0) hx hb dX1_init_13 (by decide) ?_
  refine lv_istore_n (lv' := [(1, .int (nI 0)), (0, .ref h)]) hx hb dX1_init_14 rfl hl (by decide) rfl (fun ls hl => ?_)
  have loop : ∀ (k i : Nat), i + k = 24 → ∀ (q : Nat → Nat → Nat) (f : Nat → Option Nat), (∀ j, j < i → f j = some (q j 0)) → ∀ (H : Heap) (locs : List Loc) (ls : Array Slot), y_I G A s ((h, .inr (1, [.ref q0, .int 0, .int 0])) :: ([] ++ (q0, .inl (z_cT G, 24, .inr (.inr (.inr (.inr f))))) :: y_Towns G q i)) H locs → lv_has ls 2 [(1, .int (nI i)), (0, .ref h)] → W p l e (y_rm 2 121 1296) s m #[Value.ref h] below meth c H locs (1 + 5 * i) (24 + 53 * i) (MQ below (va_Qv (fun ws : va_W => y_pPast G h ws) (fun ws t => va_P (z_gD G) vwCl ws t.heap ∧ va_D A ws) A) #[Value.ref h] s 121 1296 A) (F0 m 15 ls []) := by
    intro k
    induction k with
    | zero =>
      intro i hi q f hf H locs ls hI hl
      obtain rfl : i = 24 := by omega
      refine lv_iload_n hx hb dX1_init_15 rfl (lv_at hl 0 rfl) ?_
      refine lv_bipush (v := 24) hx hb dX1_init_16 (by decide) ?_
      refine lv_icmp_ge (tgt := 40) hx hb dX1_init_18 (by decide) (fun _ => ?_) (fun c1 => absurd (by decide) c1)
      exact y_end (h := h) (post := y_pPast G) hc hI ⟨q0, q, f, hf, rfl⟩ dX1_init_40
    | succ k ih =>
      intro i hi q f hf H locs ls hI hl
      refine lv_iload_n hx hb dX1_init_15 rfl (lv_at hl 0 rfl) ?_
      refine lv_bipush (v := 24) hx hb dX1_init_16 (by decide) ?_
      refine lv_icmp_ge (tgt := 40) hx hb dX1_init_18 (by decide) (fun c1 => absurd c1 (nI_ge (a := i) (b := 24) (by omega) (by decide))) (fun _ => ?_)
      refine lv_aload_n hx hb dX1_init_21 rfl (lv_at hl 1 rfl) ?_
      refine y_get hc hI (C := RX1) (T := TX1) (N := 3) rfl z_inX1 0 (by decide) wd_1_107 rfl dX1_init_22 ?_
      refine lv_iload_n hx hb dX1_init_25 rfl (lv_at hl 0 rfl) ?_
      refine y_new hc hI (y_X5_init (G := G) (l := l)) (T := TX5) (N := 9) rfl rfl (by decide +kernel) rfl z_inX5 tyX5 tyX5_ok (by decide) wd_1_104 wd_1_44 wd_1_4 wd_1_106 wd_1_46 wd_1_47 hl.1 (Nat.le_of_ble_eq_true rfl) (by decide) (by show 1 + 5 * i + 1 + 4 ≤ 121; omega) (by show 24 + 53 * i + 9 + 44 ≤ 1296; omega) dX1_init_26 dX1_init_29 dX1_init_30 (fun t w H locs pt hI => ?_)
      obtain ⟨t1, t2, t3, t4, rfl⟩ := pt
      have hf2 : ∀ j, j < i + 1 → va_up f i (some t) j = some (y_qs q i t t1 t2 t3 t4 j 0) := by
        intro j hj
        unfold va_up y_qs
        by_cases hji : j = i
        · rw [if_pos hji, if_pos hji]; rfl
        · rw [if_neg hji, if_neg hji]; exact hf j (by omega)
      have e1 : y_Towns G (y_qs q i t t1 t2 t3 t4) (i + 1) = y_Towns G q i ++ y_Town G t t1 t2 t3 t4 := by
        rw [y_Towns_s (a := t) (b := t1) (c := t2) (d := t3) (e := t4) (by simp [y_qs]) (by simp [y_qs]) (by simp [y_qs]) (by simp [y_qs]) (by simp [y_qs]), y_Towns_c (q' := q) (fun j hj => by unfold y_qs; rw [if_neg (by omega)])]
      have hI : y_I G A s ((h, .inr (1, [.ref q0, .int 0, .int 0])) :: ([] ++ (q0, .inl (z_cT G, 24, .inr (.inr (.inr (.inr f))))) :: y_Towns G (y_qs q i t t1 t2 t3 t4) (i + 1))) H locs := by
        rw [e1]; exact hI
      refine y_ast hc hI (v := t) (vs := [.ref t1, .ref t2, .ref t3, .ref t4, .int 0, .int 0, .int 0, .int 0, .int 0]) (by rw [e1]; simp [y_Town]) (nI_in (by omega) (by decide)) dX1_init_33 (fun H locs hI => ?_)
      rw [nI_clamp (by omega)] at hI
      refine lv_iinc (v := nI (i + 1)) (lv' := [(1, .int (nI (i + 1))), (0, .ref h)]) hx hb dX1_init_34 hl (k := 0) rfl (nI_1 _) (by decide) rfl (fun ls hl => ?_)
      refine lv_goto (tgt := 15) hx hb dX1_init_37 (by decide) ?_
      exact W.widen (by omega) (by omega) (ih (i + 1) (by omega) _ _ hf2 H locs ls hI hl)
  exact loop 24 0 rfl (fun _ _ => 0) _ (fun j hj => by omega) H locs ls hI hl

def y_pStair (G : z_G) (h : Nat) (ws : va_W) : Prop := ∃ (q0 q1 q2 q3 q4 q5 q6 t0 t01 t02 t03 t04 t1 t11 t12 t13 t14 : Nat) (f : Nat → Option Nat) (w0 w1 w2 w3 w5 w6 : va_W), y_pShelf G q0 w0 ∧ y_pReader G q1 w1 ∧ y_pTown G q2 w2 ∧ y_pPast G q3 w3 ∧ y_pSeer G q5 w5 ∧ y_pAsks G q6 w6 ∧ (f 0 = some t0 ∧ f 1 = some t1) ∧ ws = (h, .inr (6, [.ref q0, .ref q1, .ref q2, .ref q3, .ref q4, .ref q5, .ref q6, .int 0])) :: (w0 ++ (w1 ++ (w2 ++ (w3 ++ ((q4, .inl (z_cT G, 2, .inr (.inr (.inr (.inr f))))) :: (y_Town G t0 t01 t02 t03 t04 ++ (y_Town G t1 t11 t12 t13 t14 ++ (w5 ++ w6))))))))
set_option maxRecDepth 100000 in
set_option maxHeartbeats 4000000 in
theorem y_X6_init {G : z_G} {l : Launch} : y_Met G l yX6_init cX6_init 2 3 160 2060 6 [.null, .null, .null, .null, .null, .null, .null, .int 0] (y_pStair G) := by
  refine y_met_of (by decide) rfl (by decide) (fun p e s m below meth c ls h A hc hin hAe hI hl => ?_)
  obtain ⟨⟨hx, hb, hml, hown, hts⟩, hr, hlk⟩ := id hc
  clear hAe
  refine lv_aload_n hx hb dX6_init_0 rfl (lv_at hl 0 rfl) ?_
  refine y_obj hc wd_1_17 wd_1_18 wd_1_19 hl.1 (by decide) (by decide) dX6_init_1 ?_
  refine lv_aload_n hx hb dX6_init_4 rfl (lv_at hl 0 rfl) ?_
  refine y_new hc hI (y_X4_init (G := G) (l := l)) (T := TX4) (N := 3) rfl rfl (by decide +kernel) rfl z_inX4 tyX4 tyX4_ok (by decide) wd_1_20 wd_1_21 wd_1_2 wd_1_22 wd_1_23 wd_1_24 hl.1 (Nat.le_of_ble_eq_true rfl) (by decide) (by decide) (by decide) dX6_init_5 dX6_init_8 dX6_init_9 (fun q0 w0 H locs pq0 hI => ?_)
  refine y_putF hc hI hin (C := RX6) (T := TX6) (N := 8) rfl z_inX6 tyX6 tyX6_ok nmX6 0 (by decide) wd_1_167 (by decide) rfl (ty := (.object "StairTunes$Shelf")) (by decide) ⟨rfl, rfl⟩ (Nat.le_of_ble_eq_true rfl) dX6_init_12 (fun H locs hI => ?_)
  refine lv_aload_n hx hb dX6_init_15 rfl (lv_at hl 0 rfl) ?_
  refine y_new hc hI (y_X2_init (G := G) (l := l)) (T := TX2) (N := 6) rfl rfl (by decide +kernel) rfl z_inX2 tyX2 tyX2_ok (by decide) wd_1_37 wd_1_38 wd_1_3 wd_1_39 wd_1_40 wd_1_41 hl.1 (Nat.le_of_ble_eq_true rfl) (by decide) (by decide) (by decide) dX6_init_16 dX6_init_19 dX6_init_20 (fun q1 w1 H locs pq1 hI => ?_)
  refine y_putF hc hI hin (C := RX6) (T := TX6) (N := 8) rfl z_inX6 tyX6 tyX6_ok nmX6 1 (by decide) wd_1_168 (by decide) rfl (ty := (.object "StairTunes$Reader")) (by decide) ⟨rfl, rfl⟩ (Nat.le_of_ble_eq_true rfl) dX6_init_23 (fun H locs hI => ?_)
  refine lv_aload_n hx hb dX6_init_26 rfl (lv_at hl 0 rfl) ?_
  refine y_new hc hI (y_X5_init (G := G) (l := l)) (T := TX5) (N := 9) rfl rfl (by decide +kernel) rfl z_inX5 tyX5 tyX5_ok (by decide) wd_1_96 wd_1_44 wd_1_4 wd_1_97 wd_1_46 wd_1_47 hl.1 (Nat.le_of_ble_eq_true rfl) (by decide) (by decide) (by decide) dX6_init_27 dX6_init_30 dX6_init_31 (fun q2 w2 H locs pq2 hI => ?_)
  refine y_putF hc hI hin (C := RX6) (T := TX6) (N := 8) rfl z_inX6 tyX6 tyX6_ok nmX6 2 (by decide) wd_1_169 (by decide) rfl (ty := (.object "StairTunes$Town")) (by decide) ⟨rfl, rfl⟩ (Nat.le_of_ble_eq_true rfl) dX6_init_34 (fun H locs hI => ?_)
  refine lv_aload_n hx hb dX6_init_37 rfl (lv_at hl 0 rfl) ?_
  refine y_new hc hI (y_X1_init (G := G) (l := l)) (T := TX1) (N := 3) rfl rfl (by decide +kernel) rfl z_inX1 tyX1 tyX1_ok (by decide) wd_1_98 wd_1_99 wd_1_5 wd_1_100 wd_1_101 wd_1_102 hl.1 (Nat.le_of_ble_eq_true rfl) (by decide) (by decide) (by decide) dX6_init_38 dX6_init_41 dX6_init_42 (fun q3 w3 H locs pq3 hI => ?_)
  refine y_putF hc hI hin (C := RX6) (T := TX6) (N := 8) rfl z_inX6 tyX6 tyX6_ok nmX6 3 (by decide) wd_1_170 (by decide) rfl (ty := (.object "StairTunes$Past")) (by decide) ⟨rfl, rfl⟩ (Nat.le_of_ble_eq_true rfl) dX6_init_45 (fun H locs hI => ?_)
  refine lv_aload_n hx hb dX6_init_48 rfl (lv_at hl 0 rfl) ?_
  refine lv_iconst (v := 2) hx hb dX6_init_49 (by decide) ?_
  refine y_newT hc hI wd_1_96 (N := 2) (by decide) (by decide) (by decide) (by decide) (by decide) dX6_init_50 (fun q4 H hI => ?_)
  refine y_putF hc hI hin (C := RX6) (T := TX6) (N := 8) rfl z_inX6 tyX6 tyX6_ok nmX6 4 (by decide) wd_1_171 (by decide) rfl (ty := (.array (.object "StairTunes$Town"))) (by decide) ⟨rfl, rfl⟩ (Nat.le_of_ble_eq_true rfl) dX6_init_53 (fun H locs hI => ?_)
  refine lv_iconst (v := 0) hx hb dX6_init_56 (by decide) ?_
  refine lv_istore_n (lv' := [(1, .int (nI 0)), (0, .ref h)]) hx hb dX6_init_57 rfl hl (by decide) rfl (fun ls hl => ?_)
  have hI : y_I G A s ((h, .inr (6, [.ref q0, .ref q1, .ref q2, .ref q3, .ref q4, .null, .null, .int 0])) :: (((((w0 ++ w1) ++ w2) ++ w3)) ++ (q4, .inl (z_cT G, 2, .inr (.inr (.inr (.inr (fun _ => none)))))) :: [])) H locs := hI
  refine lv_iload_n hx hb dX6_init_58 rfl (lv_at hl 0 rfl) ?_
  refine lv_iconst (v := 2) hx hb dX6_init_59 (by decide) ?_
  refine lv_icmp_ge (tgt := 82) hx hb dX6_init_60 (by decide) (fun c1 => absurd c1 (nI_ge (a := 0) (b := 2) (by decide) (by decide))) (fun _ => ?_)
  refine lv_aload_n hx hb dX6_init_63 rfl (lv_at hl 1 rfl) ?_
  refine y_get hc hI (C := RX6) (T := TX6) (N := 8) rfl z_inX6 4 (by decide) wd_1_171 rfl dX6_init_64 ?_
  refine lv_iload_n hx hb dX6_init_67 rfl (lv_at hl 0 rfl) ?_
  refine y_new hc hI (y_X5_init (G := G) (l := l)) (T := TX5) (N := 9) rfl rfl (by decide +kernel) rfl z_inX5 tyX5 tyX5_ok (by decide) wd_1_96 wd_1_44 wd_1_4 wd_1_97 wd_1_46 wd_1_47 hl.1 (Nat.le_of_ble_eq_true rfl) (by decide) (by decide) (by decide) dX6_init_68 dX6_init_71 dX6_init_72 (fun t0 u0 H locs pt0 hI => ?_)
  obtain ⟨t01, t02, t03, t04, rfl⟩ := pt0
  have hI : y_I G A s ((h, .inr (6, [.ref q0, .ref q1, .ref q2, .ref q3, .ref q4, .null, .null, .int 0])) :: (((((w0 ++ w1) ++ w2) ++ w3)) ++ (q4, .inl (z_cT G, 2, .inr (.inr (.inr (.inr (fun _ => none)))))) :: ([] ++ y_Town G t0 t01 t02 t03 t04))) H locs := by
    have e9 : ∀ (x y : Nat × va_E) (a b d : va_W), (x :: (a ++ y :: b)) ++ d = x :: (a ++ y :: (b ++ d)) := fun x y a b d => by simp
    rw [← e9]; exact hI
  refine y_ast hc hI (v := t0) (vs := [.ref t01, .ref t02, .ref t03, .ref t04, .int 0, .int 0, .int 0, .int 0, .int 0]) (by simp [y_Town]) (nI_in (c := 0) (N := 2) (by decide) (by decide)) dX6_init_75 (fun H locs hI => ?_)
  refine lv_iinc (v := nI 1) (lv' := [(1, .int (nI 1)), (0, .ref h)]) hx hb dX6_init_76 hl (k := 0) rfl (nI_1 _) (by decide) rfl (fun ls hl => ?_)
  refine lv_goto (tgt := 58) hx hb dX6_init_79 (by decide) ?_
  refine lv_iload_n hx hb dX6_init_58 rfl (lv_at hl 0 rfl) ?_
  refine lv_iconst (v := 2) hx hb dX6_init_59 (by decide) ?_
  refine lv_icmp_ge (tgt := 82) hx hb dX6_init_60 (by decide) (fun c1 => absurd c1 (nI_ge (a := 1) (b := 2) (by decide) (by decide))) (fun _ => ?_)
  refine lv_aload_n hx hb dX6_init_63 rfl (lv_at hl 1 rfl) ?_
  refine y_get hc hI (C := RX6) (T := TX6) (N := 8) rfl z_inX6 4 (by decide) wd_1_171 rfl dX6_init_64 ?_
  refine lv_iload_n hx hb dX6_init_67 rfl (lv_at hl 0 rfl) ?_
  refine y_new hc hI (y_X5_init (G := G) (l := l)) (T := TX5) (N := 9) rfl rfl (by decide +kernel) rfl z_inX5 tyX5 tyX5_ok (by decide) wd_1_96 wd_1_44 wd_1_4 wd_1_97 wd_1_46 wd_1_47 hl.1 (Nat.le_of_ble_eq_true rfl) (by decide) (by decide) (by decide) dX6_init_68 dX6_init_71 dX6_init_72 (fun t1 u1 H locs pt1 hI => ?_)
  obtain ⟨t11, t12, t13, t14, rfl⟩ := pt1
  have hI : y_I G A s ((h, .inr (6, [.ref q0, .ref q1, .ref q2, .ref q3, .ref q4, .null, .null, .int 0])) :: (((((w0 ++ w1) ++ w2) ++ w3)) ++ (q4, .inl (z_cT G, 2, .inr (.inr (.inr (.inr (va_up (fun _ => none) 0 (some t0))))))) :: (([] ++ y_Town G t0 t01 t02 t03 t04) ++ y_Town G t1 t11 t12 t13 t14))) H locs := by
    have e9 : ∀ (x y : Nat × va_E) (a b d : va_W), (x :: (a ++ y :: b)) ++ d = x :: (a ++ y :: (b ++ d)) := fun x y a b d => by simp
    rw [← e9]; exact hI
  refine y_ast hc hI (v := t1) (vs := [.ref t11, .ref t12, .ref t13, .ref t14, .int 0, .int 0, .int 0, .int 0, .int 0]) (by simp [y_Town]) (nI_in (c := 1) (N := 2) (by decide) (by decide)) dX6_init_75 (fun H locs hI => ?_)
  refine lv_iinc (v := nI 2) (lv' := [(1, .int (nI 2)), (0, .ref h)]) hx hb dX6_init_76 hl (k := 0) rfl (nI_1 _) (by decide) rfl (fun ls hl => ?_)
  refine lv_goto (tgt := 58) hx hb dX6_init_79 (by decide) ?_
  refine lv_iload_n hx hb dX6_init_58 rfl (lv_at hl 0 rfl) ?_
  refine lv_iconst (v := 2) hx hb dX6_init_59 (by decide) ?_
  refine lv_icmp_ge (tgt := 82) hx hb dX6_init_60 (by decide) (fun _ => ?_) (fun c1 => absurd (by decide) c1)
  have hl : lv_has ls 2 [(0, .ref h)] := lv_sub hl [1] rfl
  refine lv_aload_n hx hb dX6_init_82 rfl (lv_at hl 0 rfl) ?_
  refine y_new hc hI (y_X3_init (G := G) (l := l)) (T := TX3) (N := 5) rfl rfl (by decide +kernel) rfl z_inX3 tyX3 tyX3_ok (by decide) wd_1_117 wd_1_118 wd_1_6 wd_1_119 wd_1_120 wd_1_121 hl.1 (Nat.le_of_ble_eq_true rfl) (by decide) (by decide) (by decide) dX6_init_83 dX6_init_86 dX6_init_87 (fun q5 w5 H locs pq5 hI => ?_)
  refine y_putF hc hI hin (C := RX6) (T := TX6) (N := 8) rfl z_inX6 tyX6 tyX6_ok nmX6 5 (by decide) wd_1_172 (by decide) rfl (ty := (.object "StairTunes$Seer")) (by decide) ⟨rfl, rfl⟩ (Nat.le_of_ble_eq_true rfl) dX6_init_90 (fun H locs hI => ?_)
  refine lv_aload_n hx hb dX6_init_93 rfl (lv_at hl 0 rfl) ?_
  refine y_new hc hI (y_X0_init (G := G) (l := l)) (T := TX0) (N := 6) rfl rfl (by decide +kernel) rfl z_inX0 tyX0 tyX0_ok (by decide) wd_1_142 wd_1_143 wd_1_7 wd_1_144 wd_1_145 wd_1_146 hl.1 (Nat.le_of_ble_eq_true rfl) (by decide) (by decide) (by decide) dX6_init_94 dX6_init_97 dX6_init_98 (fun q6 w6 H locs pq6 hI => ?_)
  refine y_putF hc hI hin (C := RX6) (T := TX6) (N := 8) rfl z_inX6 tyX6 tyX6_ok nmX6 6 (by decide) wd_1_173 (by decide) rfl (ty := (.object "StairTunes$Asks")) (by decide) ⟨rfl, rfl⟩ (Nat.le_of_ble_eq_true rfl) dX6_init_101 (fun H locs hI => ?_)
  refine lv_aload_n hx hb dX6_init_104 rfl (lv_at hl 0 rfl) ?_
  refine lv_iconst (v := 0) hx hb dX6_init_105 (by decide) ?_
  refine y_putI hc hI (C := RX6) (T := TX6) (N := 8) rfl z_inX6 tyX6 tyX6_ok nmX6 7 (by decide) wd_1_174 (by decide) (by decide) (Nat.le_of_ble_eq_true rfl) dX6_init_106 (fun H locs hI => ?_)
  rw [show (nI 1).toNatClampNeg = 1 from by decide] at hI
  exact y_end (h := h) (post := y_pStair G) hc hI ⟨q0, q1, q2, q3, q4, q5, q6, t0, t01, t02, t03, t04, t1, t11, t12, t13, t14, va_up (va_up (fun _ => none) 0 (some t0)) 1 (some t1), w0, w1, w2, w3, w5, w6, pq0, pq1, pq2, pq3, pq5, pq6, ⟨rfl, rfl⟩, by simp⟩ dX6_init_109

