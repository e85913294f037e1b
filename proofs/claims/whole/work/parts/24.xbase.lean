/-! Methods that return or throw: the tag 0 returned, 1 IllegalArgumentException, 2 IllegalStateException, 3 NoSuchElementException. -/
abbrev g_IAE : String := "java/lang/IllegalArgumentException"
abbrev g_ISE : String := "java/lang/IllegalStateException"
abbrev g_NSE : String := "java/util/NoSuchElementException"
abbrev g_names : List String := ["java/lang/RuntimeException", "java/lang/Exception"]
def g_E (t : Int32) : String := if t = 1 then "java/lang/IllegalArgumentException" else if t = 2 then "java/lang/IllegalStateException" else "java/util/NoSuchElementException"
def g_strs : List (Nat × String) := [(81, "no such instruction"), (92, "the draft is full"), (119, "the draft is no program"), (125, "no such pass"), (127, "no program that a pass could change"), (143, "no such number of machine registers"), (145, "no program to allocate"), (158, "too few machine registers"), (170, "no such register"), (174, "not allocated"), (181, "no program"), (187, "no such part of an instruction"), (204, "no such cell"), (216, "no run that returned"), (227, "no such number in the trace")]
abbrev g_bad (cls : String) : List Cond := [.castable cls cls, .declares ⟨"java/lang/RuntimeException", "<init>", "(Ljava/lang/String;)V"⟩, .declares ⟨"java/lang/Exception", "<init>", "(Ljava/lang/String;)V"⟩, .declares ⟨"java/lang/Throwable", "<init>", "(Ljava/lang/String;)V"⟩]
/-- what a throw needs of the machine -/
def g_TR (A : Nat → Prop) (U : State) (H : Heap) : Prop :=
  vx_Zq Bundle.tN "UNASSIGNED_STACK" Bundle.steD A U H ∧ vx_Zq Bundle.tN "SUPPRESSED_SENTINEL" Bundle.listD A U H ∧
  (va_Nw (.castable g_IAE g_IAE) U ∧ va_Nw (.castable g_ISE g_ISE) U ∧ va_Nw (.castable g_NSE g_NSE) U) ∧
  (va_Nw (.declares ⟨"java/lang/RuntimeException", "<init>", "(Ljava/lang/String;)V"⟩) U ∧ va_Nw (.declares ⟨"java/lang/Exception", "<init>", "(Ljava/lang/String;)V"⟩) U ∧ va_Nw (.declares ⟨"java/lang/Throwable", "<init>", "(Ljava/lang/String;)V"⟩) U) ∧
  ∀ q ∈ g_strs, ∃ a, vk_R RX8 q.1 q.2 a U
theorem g_TR.warm {A : Nat → Prop} {s U : State} {H : Heap} (hW : s.WarmedH U.vm) (h : g_TR A s H) : g_TR A U H := by
  obtain ⟨h1, h2, ⟨c1, c2, c3⟩, ⟨e1, e2, e3⟩, h5⟩ := h
  refine ⟨vx_Zq.moved hW.alike h1, vx_Zq.moved hW.alike h2, ⟨va_Nw.warmC hW c1, va_Nw.warmC hW c2, va_Nw.warmC hW c3⟩, ⟨va_Nw.warmD hW e1, va_Nw.warmD hW e2, va_Nw.warmD hW e3⟩, fun q hq => ?_⟩
  obtain ⟨a, ha⟩ := h5 q hq
  exact ⟨a, vk_R.warm hW ha⟩
theorem g_TR.same {A : Nat → Prop} {u U : State} {H : Heap} (hv : U.vm = u.vm) (h : g_TR A u H) : g_TR A U H := by
  obtain ⟨h1, h2, ⟨c1, c2, c3⟩, ⟨e1, e2, e3⟩, h5⟩ := h
  have hal : u.vm.Alike U.vm := by rw [hv]; exact Vm.Alike.refl u.vm
  refine ⟨vx_Zq.moved hal h1, vx_Zq.moved hal h2, ⟨va_Nw.same rfl hv.symm c1, va_Nw.same rfl hv.symm c2, va_Nw.same rfl hv.symm c3⟩, ⟨va_Nw.same rfl hv.symm e1, va_Nw.same rfl hv.symm e2, va_Nw.same rfl hv.symm e3⟩, fun q hq => ?_⟩
  obtain ⟨a, ha⟩ := h5 q hq
  exact ⟨a, vk_R.same hv ha⟩
theorem g_TR.kept {A : Nat → Prop} {U : State} {H H1 : Heap} (h : g_TR A U H) (hq : ∀ a : Nat, a < H.size → ¬ A a → H1[a]? = H[a]?) : g_TR A U H1 :=
  ⟨vx_Zq.kept h.1 hq, vx_Zq.kept h.2.1 hq, h.2.2⟩
theorem g_TR.narrow {A B : Nat → Prop} {U : State} {H : Heap} (h : g_TR A U H) (hAB : ∀ q, B q → A q) : g_TR B U H :=
  ⟨vx_Zq.narrow h.1 hAB, vx_Zq.narrow h.2.1 hAB, h.2.2⟩
/-- a start from which may be thrown -/
def g_PreX (D : va_G) (tys : List (ClassId × FieldType)) (av : List Value) (sz : Nat) (w : va_W) : Array Value → State → Prop := va_Pc av (fun U => U.heap.size = sz ∧ va_P D vwCl w U.heap ∧ va_K D vwCl tys U ∧ va_D (fun _ => True) w ∧ g_TR (va_A w sz) U U.heap)
def g_BX (D : va_G) (tys : List (ClassId × FieldType)) (A : Nat → Prop) (tag : Int32) (w1 : va_W) : String → Unit → State → Prop := fun E _ t => E = g_E tag ∧ va_P D vwCl w1 t.heap ∧ va_K D vwCl tys t ∧ va_D A w1
def g_QXi (D : va_G) (tys : List (ClassId × FieldType)) (A : Nat → Prop) (tag r0 : Int32) (w1 : va_W) : Array Value → State → Outcome → State → Prop := va_Qi (fun r (_ : Unit) => tag = 0 ∧ r = r0) (g_B D tys A w1) A
def g_QXv (D : va_G) (tys : List (ClassId × FieldType)) (A : Nat → Prop) (tag : Int32) (w1 : va_W) : Array Value → State → Outcome → State → Prop := va_Qv (fun (_ : Unit) => tag = 0) (g_B D tys A w1) A
def g_XC (D : va_G) (tys : List (ClassId × FieldType)) (A : Nat → Prop) (tag : Int32) (w1 : va_W) : String → State → State → Prop := vx_X (fun (_ : Unit) => ¬ tag = 0) (g_BX D tys A tag w1) A
abbrev Ct_xi (l : Launch) (y : MethodName) (ws : List Cond) (rm : Room) (D : va_G) (tys : List (ClassId × FieldType)) (av : List Value) (sz : Nat) (w : va_W) (tag r0 : Int32) (w1 : va_W) : Prop :=
  vx_Met l y ws rm (g_PreX D tys av sz w) (g_QXi D tys (va_A w sz) tag r0 w1) (g_XC D tys (va_A w sz) tag w1) 1 6 (va_A w sz)
abbrev Ct_xv (l : Launch) (y : MethodName) (ws : List Cond) (rm : Room) (D : va_G) (tys : List (ClassId × FieldType)) (av : List Value) (sz : Nat) (w : va_W) (tag : Int32) (w1 : va_W) : Prop :=
  vx_Met l y ws rm (g_PreX D tys av sz w) (g_QXv D tys (va_A w sz) tag w1) (g_XC D tys (va_A w sz) tag w1) 1 6 (va_A w sz)
section GX
variable {p : Program} {l : Launch} {e : Env} {R : Room} {s : State} {m : MethodId} {args : Array Value} {below : List Frame} {meth : Method} {c : Code} {H : Heap} {locs : List Loc} {cells slots : Nat} {Q : State → Prop}
theorem g_blindX {D : va_G} {tys : List (ClassId × FieldType)} {av : List Value} {sz : Nat} {w : va_W} : FrameBlind (g_PreX D tys av sz w) := fun a U g mk q => by
  obtain ⟨q0, q1, qP, qK, qD, qT⟩ := q
  exact ⟨q0, q1, qP, va_K.moved (u := U) (U := U.calling g mk a) (Vm.Alike.refl U.vm) qK, qD, g_TR.same (u := U) (U := U.calling g mk a) rfl qT⟩
theorem g_preX {D : va_G} {tys : List (ClassId × FieldType)} {av : List Value} {w : va_W} {A : Nat → Prop} (hP : va_P D vwCl w H) (hD : va_D A w) (hK : va_K D vwCl tys s) (hT : g_TR (va_A w H.size) s H) : ∀ U : State, U.heap = H → s.WarmedH U.vm → g_PreX D tys av H.size w av.toArray U :=
  fun U hU hW => ⟨rfl, by rw [hU], by rw [hU]; exact hP, va_K.moved hW.alike hK, hD.weaken (fun _ _ _ _ => trivial), by rw [hU]; exact hT.warm hW⟩
theorem g_ofX {y : MethodName} {ws ws' : List Cond} {rm : Room} {D : va_G} {tys : List (ClassId × FieldType)} {av : List Value} {sz : Nat} {w : va_W} {cc : ByteArray} {maxL : Nat} {ret : Option FieldType} {QQ : (Nat → Prop) → Array Value → State → Outcome → State → Prop} {XX : (Nat → Prop) → String → State → State → Prop}
    (hy : plainName y.cls = true) (hw : ws = Cond.code y cc maxL ret :: ws') (hlen : (lg_sl av).length ≤ maxL)
    (body : ∀ (p : Program) (e : Env) (s : State) (m : MethodId) (args : Array Value) (below : List Frame) (meth : Method) (c : Code) (A : Nat → Prop) (ls : Array Slot),
      CallFix p m c cc maxL s args ws y.cls → meth.sig.returnType = ret → meth.locks = false → (∀ q : Nat, s.heap.size ≤ q → A q) → va_P D vwCl w s.heap → va_K D vwCl tys s → va_D A w → lv_has ls maxL (lv_args 0 av) → g_TR A s s.heap → (∀ x ∈ c.exceptionTable.toList, False) →
      W p l e rm s m args below meth c s.heap [] 0 0 (vx_MQ below (QQ A) (XX A) args s 1 6 A) (F0 m 0 ls [])) : vx_Met l y ws rm (g_PreX D tys av sz w) (QQ (va_A w sz)) (XX (va_A w sz)) 1 6 (va_A w sz) := by
  refine vx_ofW (cc := cc) (maxL := maxL) (ret := ret) hy hw ?_
  intro p e s m args below meth c s₁ B hml hex hv
  obtain ⟨rfl, hsz, hP, hK, hD0, hT⟩ := hv
  have hts := atoms_spec (ws := ws) B.pre
  subst hsz
  have hl := lv_entry av (n := maxL) hlen
  rw [lg_entry_eq]
  exact body p e s m av.toArray below meth c (va_A w s.heap.size) _ ⟨B.exec, B.bytes, hml, findClass_of_methodNamed B.named, hts⟩ B.returns B.notSynchronized (fun q h => Or.inr h) hP hK hD0.self hl hT hex
theorem g_iretX {D : va_G} {tys : List (ClassId × FieldType)} {A : Nat → Prop} {tag r0 v : Int32} {w1 : va_W} {cc : ByteArray} {pc : Nat} {ls : Array Slot} {XC : String → State → State → Prop} (hx : p.tables.exec = Jvm.exec) (hb : c.code = cc) (hr : meth.sig.returnType = some .int) (hlocks : meth.locks = false) (hP : va_P D vwCl w1 H) (hD : va_D A w1) (hK : va_K D vwCl tys s) (hS : va_S A s.heap H locs) (ht : tag = 0) (hv : v = r0) (hc : cells ≤ 1) (hs : slots ≤ 6) (hdg : decode cc pc = .ok (.ireturn, 1)) :
    W p l e R s m args below meth c H locs cells slots (vx_MQ below (g_QXi D tys A tag r0 w1) XC args s 1 6 A) (F0 m pc ls [.int v]) := by
  refine vx_ret ?_
  refine W.widen (k := 1) (n := 6) hc hs ?_
  exact W.iret hx hb hr (fun t ht9 hW => ⟨⟨v, (), rfl, ⟨ht, hv⟩, by rw [ht9]; exact hP, va_K.moved hW.alike hK, hD⟩, hS.F ht9⟩) hS.2.2 hdg
theorem g_vretX {D : va_G} {tys : List (ClassId × FieldType)} {A : Nat → Prop} {tag : Int32} {w1 : va_W} {cc : ByteArray} {pc : Nat} {ls : Array Slot} {XC : String → State → State → Prop} (hx : p.tables.exec = Jvm.exec) (hb : c.code = cc) (hr : meth.sig.returnType = none) (hlocks : meth.locks = false) (hP : va_P D vwCl w1 H) (hD : va_D A w1) (hK : va_K D vwCl tys s) (hS : va_S A s.heap H locs) (ht : tag = 0) (hc : cells ≤ 1) (hs : slots ≤ 6) (hdg : decode cc pc = .ok (.return_, 1)) :
    W p l e R s m args below meth c H locs cells slots (vx_MQ below (g_QXv D tys A tag w1) XC args s 1 6 A) (F0 m pc ls []) := by
  refine vx_ret ?_
  refine W.widen (k := 1) (n := 6) hc hs ?_
  exact W.vret hx hb hr (fun t ht9 hW => ⟨⟨(), rfl, ht, by rw [ht9]; exact hP, va_K.moved hW.alike hK, hD⟩, hS.F ht9⟩) hS.2.2 hdg
/-- throw new E("text") in a method of PassPipeline -/
theorem g_throw {D : va_G} {tys : List (ClassId × FieldType)} {A : Nat → Prop} {tag : Int32} {w1 : va_W} {cc : ByteArray} {pc nL ik is ic : Nat} {ls : Array Slot} {rest : List Value} {Ts : List Cond} {cls text : String} {Qc : Array Value → State → Outcome → State → Prop}
    (S : CallFix p m c cc nL s args Ts RX8) (hl : l.stackTraces = false) (hls : ls.size = nL) (hlocks : meth.locks = false) (hex : ∀ x ∈ c.exceptionTable.toList, False) (TR : g_TR A s s.heap)
    (hP : va_P D vwCl w1 H) (hD : va_D A w1) (hK : va_K D vwCl tys s) (hS : va_S A s.heap H locs)
    (hcls : Bundle.fit cls = true) (hk : (Cond.classLink RX8 ik cls).before args s = true) (hini : (Cond.initialized cls).before args s = true) (hstr : (is, text) ∈ g_strs)
    (hg : ∀ w ∈ (vx_atS RX8 ic cls g_names).filter goodWord, w ∈ Ts) (hbad : ∀ w ∈ (vx_atS RX8 ic cls g_names).filter (fun w => !goodWord w), w ∈ g_bad cls) (hcast : va_Nw (.castable cls cls) s)
    (hgood : ∀ w ∈ Cond.classLink RX8 ik cls :: Cond.initialized cls :: vx_atS RX8 ic cls g_names, vx_ot w = true) (htag : g_E tag = cls) (hne : ¬ tag = 0)
    (d0 : decode cc pc = .ok (.new ik, 3)) (d3 : decode cc (pc + 3) = .ok (.dup, 1)) (d4 : decode cc (pc + 4) = .ok (.ldc is, 2)) (d6 : decode cc (pc + 6) = .ok (.invokespecial ic, 3)) (d9 : decode cc (pc + 9) = .ok (.athrow, 1))
    (hRframes : 5 < R.frames) (hRlocals : (rest.map fun v => v.category).sum + 82 ≤ R.locals) (hRcells : cells + 1 ≤ R.cells) (hRslots : slots + 6 ≤ R.slots) (hc : cells + 1 ≤ 1) (hs : slots + 6 ≤ 6) :
    W p l e R s m args below meth c H locs cells slots (vx_MQ below Qc (g_XC D tys A tag w1) args s 1 6 A) (F0 m pc ls rest) := by
  obtain ⟨hU, hN, -, ⟨e1, e2, e3⟩, hs5⟩ := id TR
  obtain ⟨sa, hsa⟩ := hs5 _ hstr
  obtain ⟨hx, hb, hml, hown, hts⟩ := S
  refine vx_throwS (cls := cls) (text := text) (names := g_names) (sa := sa) hx hb hl hown hcls (by decide) hk hini hsa
    (vx_hat (B := g_bad cls) (fun w hw => hts w (hg w hw)) hbad (vx_c (va_Nw.use rfl hcast) (vx_c (va_Nw.use rfl e1) (vx_c (va_Nw.use rfl e2) (vx_c (va_Nw.use rfl e3) vx_n)))))
    hgood hU hN hS (hls.trans hml.symm) d0 d3 d4 d6 d9 (fun x hx9 => (hex x hx9).elim) hRframes hRlocals hRcells hRslots hlocks ?_ hS.2.2 hc hs
  intro t hal hz hq
  refine ⟨(), hne, ⟨htag.symm, hP.kept (fun k q hk9 => hq q.1 ((hP k q hk9).lt)), va_K.moved hal hK, hD⟩, ?_⟩
  exact ⟨Nat.le_trans hS.1 hz, fun q h1 h2 => (hq q (Nat.lt_of_lt_of_le h1 hS.1)).trans (hS.2.1 q h1 h2)⟩
/-- .. of NoSuchElementException -/
theorem g_throwN {D : va_G} {tys : List (ClassId × FieldType)} {A : Nat → Prop} {tag : Int32} {w1 : va_W} {cc : ByteArray} {pc nL ik is ic : Nat} {ls : Array Slot} {rest : List Value} {Ts : List Cond} {text : String} {Qc : Array Value → State → Outcome → State → Prop}
    (S : CallFix p m c cc nL s args Ts RX8) (hl : l.stackTraces = false) (hls : ls.size = nL) (hlocks : meth.locks = false) (hex : ∀ x ∈ c.exceptionTable.toList, False) (TR : g_TR A s s.heap)
    (hP : va_P D vwCl w1 H) (hD : va_D A w1) (hK : va_K D vwCl tys s) (hS : va_S A s.heap H locs)
    (hk : (Cond.classLink RX8 ik g_NSE).before args s = true) (hini : (Cond.initialized g_NSE).before args s = true) (hstr : (is, text) ∈ g_strs)
    (hg : ∀ w ∈ (nx_at RX8 ic).filter goodWord, w ∈ Ts) (hbad : ∀ w ∈ (nx_at RX8 ic).filter (fun w => !goodWord w), w ∈ g_bad g_NSE) (hcast : va_Nw (.castable g_NSE g_NSE) s)
    (hgood : ∀ w ∈ Cond.classLink RX8 ik g_NSE :: Cond.initialized g_NSE :: nx_at RX8 ic, vx_ot w = true) (htag : g_E tag = g_NSE) (hne : ¬ tag = 0)
    (d0 : decode cc pc = .ok (.new ik, 3)) (d3 : decode cc (pc + 3) = .ok (.dup, 1)) (d4 : decode cc (pc + 4) = .ok (.ldc is, 2)) (d6 : decode cc (pc + 6) = .ok (.invokespecial ic, 3)) (d9 : decode cc (pc + 9) = .ok (.athrow, 1))
    (hRframes : 5 < R.frames) (hRlocals : (rest.map fun v => v.category).sum + 82 ≤ R.locals) (hRcells : cells + 1 ≤ R.cells) (hRslots : slots + 6 ≤ R.slots) (hc : cells + 1 ≤ 1) (hs : slots + 6 ≤ 6) :
    W p l e R s m args below meth c H locs cells slots (vx_MQ below Qc (g_XC D tys A tag w1) args s 1 6 A) (F0 m pc ls rest) := by
  obtain ⟨hU, hN, -, ⟨e1, e2, e3⟩, hs5⟩ := id TR
  obtain ⟨sa, hsa⟩ := hs5 _ hstr
  obtain ⟨hx, hb, hml, hown, hts⟩ := S
  refine nx_throwS (cls := g_NSE) (Y0 := "java/lang/RuntimeException") (text := text) (names := ["java/lang/Exception"]) (sa := sa) hx hb hl hown (by decide +kernel) (by decide +kernel) (by decide) hk hini hsa
    (vx_hat (B := g_bad g_NSE) (fun w hw => hts w (hg w hw)) hbad (vx_c (va_Nw.use rfl hcast) (vx_c (va_Nw.use rfl e1) (vx_c (va_Nw.use rfl e2) (vx_c (va_Nw.use rfl e3) vx_n)))))
    hgood hU hN hS (hls.trans hml.symm) d0 d3 d4 d6 d9 (fun x hx9 => (hex x hx9).elim) hRframes hRlocals hRcells hRslots hlocks ?_ hS.2.2 hc hs
  intro t hal hz hq
  refine ⟨(), hne, ⟨htag.symm, hP.kept (fun k q hk9 => hq q.1 ((hP k q hk9).lt)), va_K.moved hal hK, hD⟩, ?_⟩
  exact ⟨Nat.le_trans hS.1 hz, fun q h1 h2 => (hq q (Nat.lt_of_lt_of_le h1 hS.1)).trans (hS.2.1 q h1 h2)⟩
section EX
variable {D : va_G} {tys : List (ClassId × FieldType)} {A : Nat → Prop} {cc : ByteArray} {pc : Nat} {ls : Array Slot} {ρ : Type} {res v0 : ρ}
theorem e_iretX {XC : String → State → State → Prop} (wf : ρ → va_W) (tf rf : ρ → Int32) (hf : v0 = res) (hx : p.tables.exec = Jvm.exec) (hb : c.code = cc) (hr : meth.sig.returnType = some .int) (hlocks : meth.locks = false) (hP : va_P D vwCl (wf v0) H) (hD : va_D A (wf v0)) (hK : va_K D vwCl tys s) (hS : va_S A s.heap H locs) (ht : tf v0 = 0) (hc : cells ≤ 1) (hs : slots ≤ 6) (hdg : decode cc pc = .ok (.ireturn, 1)) :
    W p l e R s m args below meth c H locs cells slots (vx_MQ below (g_QXi D tys A (tf res) (rf res) (wf res)) XC args s 1 6 A) (F0 m pc ls [.int (rf v0)]) := by
  subst hf
  exact g_iretX hx hb hr hlocks hP hD hK hS ht rfl hc hs hdg
theorem e_vretX {XC : String → State → State → Prop} (wf : ρ → va_W) (tf : ρ → Int32) (hf : v0 = res) (hx : p.tables.exec = Jvm.exec) (hb : c.code = cc) (hr : meth.sig.returnType = none) (hlocks : meth.locks = false) (hP : va_P D vwCl (wf v0) H) (hD : va_D A (wf v0)) (hK : va_K D vwCl tys s) (hS : va_S A s.heap H locs) (ht : tf v0 = 0) (hc : cells ≤ 1) (hs : slots ≤ 6) (hdg : decode cc pc = .ok (.return_, 1)) :
    W p l e R s m args below meth c H locs cells slots (vx_MQ below (g_QXv D tys A (tf res) (wf res)) XC args s 1 6 A) (F0 m pc ls []) := by
  subst hf
  exact g_vretX hx hb hr hlocks hP hD hK hS ht hc hs hdg
theorem e_throw {nL ik is ic : Nat} {rest : List Value} {Ts : List Cond} {cls text : String} {Qc : Array Value → State → Outcome → State → Prop} (wf : ρ → va_W) (tf : ρ → Int32) (hf : v0 = res)
    (S : CallFix p m c cc nL s args Ts RX8) (hl : l.stackTraces = false) (hls : ls.size = nL) (hlocks : meth.locks = false) (hex : ∀ x ∈ c.exceptionTable.toList, False) (TR : g_TR A s s.heap)
    (hP : va_P D vwCl (wf v0) H) (hD : va_D A (wf v0)) (hK : va_K D vwCl tys s) (hS : va_S A s.heap H locs)
    (hcls : Bundle.fit cls = true) (hk : (Cond.classLink RX8 ik cls).before args s = true) (hini : (Cond.initialized cls).before args s = true) (hstr : (is, text) ∈ g_strs)
    (hg : ∀ w ∈ (vx_atS RX8 ic cls g_names).filter goodWord, w ∈ Ts) (hbad : ∀ w ∈ (vx_atS RX8 ic cls g_names).filter (fun w => !goodWord w), w ∈ g_bad cls) (hcast : va_Nw (.castable cls cls) s)
    (hgood : ∀ w ∈ Cond.classLink RX8 ik cls :: Cond.initialized cls :: vx_atS RX8 ic cls g_names, vx_ot w = true) (htag : g_E (tf v0) = cls) (hne : ¬ tf v0 = 0)
    (d0 : decode cc pc = .ok (.new ik, 3)) (d3 : decode cc (pc + 3) = .ok (.dup, 1)) (d4 : decode cc (pc + 4) = .ok (.ldc is, 2)) (d6 : decode cc (pc + 6) = .ok (.invokespecial ic, 3)) (d9 : decode cc (pc + 9) = .ok (.athrow, 1))
    (hRframes : 5 < R.frames) (hRlocals : (rest.map fun v => v.category).sum + 82 ≤ R.locals) (hRcells : cells + 1 ≤ R.cells) (hRslots : slots + 6 ≤ R.slots) (hc : cells + 1 ≤ 1) (hs : slots + 6 ≤ 6) :
    W p l e R s m args below meth c H locs cells slots (vx_MQ below Qc (g_XC D tys A (tf res) (wf res)) args s 1 6 A) (F0 m pc ls rest) := by
  subst hf
  exact g_throw S hl hls hlocks hex TR hP hD hK hS hcls hk hini hstr hg hbad hcast hgood htag hne d0 d3 d4 d6 d9 hRframes hRlocals hRcells hRslots hc hs
theorem e_throwN {nL ik is ic : Nat} {rest : List Value} {Ts : List Cond} {text : String} {Qc : Array Value → State → Outcome → State → Prop} (wf : ρ → va_W) (tf : ρ → Int32) (hf : v0 = res)
    (S : CallFix p m c cc nL s args Ts RX8) (hl : l.stackTraces = false) (hls : ls.size = nL) (hlocks : meth.locks = false) (hex : ∀ x ∈ c.exceptionTable.toList, False) (TR : g_TR A s s.heap)
    (hP : va_P D vwCl (wf v0) H) (hD : va_D A (wf v0)) (hK : va_K D vwCl tys s) (hS : va_S A s.heap H locs)
    (hk : (Cond.classLink RX8 ik g_NSE).before args s = true) (hini : (Cond.initialized g_NSE).before args s = true) (hstr : (is, text) ∈ g_strs)
    (hg : ∀ w ∈ (nx_at RX8 ic).filter goodWord, w ∈ Ts) (hbad : ∀ w ∈ (nx_at RX8 ic).filter (fun w => !goodWord w), w ∈ g_bad g_NSE) (hcast : va_Nw (.castable g_NSE g_NSE) s)
    (hgood : ∀ w ∈ Cond.classLink RX8 ik g_NSE :: Cond.initialized g_NSE :: nx_at RX8 ic, vx_ot w = true) (htag : g_E (tf v0) = g_NSE) (hne : ¬ tf v0 = 0)
    (d0 : decode cc pc = .ok (.new ik, 3)) (d3 : decode cc (pc + 3) = .ok (.dup, 1)) (d4 : decode cc (pc + 4) = .ok (.ldc is, 2)) (d6 : decode cc (pc + 6) = .ok (.invokespecial ic, 3)) (d9 : decode cc (pc + 9) = .ok (.athrow, 1))
    (hRframes : 5 < R.frames) (hRlocals : (rest.map fun v => v.category).sum + 82 ≤ R.locals) (hRcells : cells + 1 ≤ R.cells) (hRslots : slots + 6 ≤ R.slots) (hc : cells + 1 ≤ 1) (hs : slots + 6 ≤ 6) :
    W p l e R s m args below meth c H locs cells slots (vx_MQ below Qc (g_XC D tys A (tf res) (wf res)) args s 1 6 A) (F0 m pc ls rest) := by
  subst hf
  exact g_throwN S hl hls hlocks hex TR hP hD hK hS hk hini hstr hg hbad hcast hgood htag hne d0 d3 d4 d6 d9 hRframes hRlocals hRcells hRslots hc hs
end EX
/-- an answer that is a known cell -/
def g_Qr (D : va_G) (tys : List (ClassId × FieldType)) (A : Nat → Prop) (a0 : Nat) (w1 : va_W) : Array Value → State → Outcome → State → Prop := va_Qr (fun (_ : Unit) => True) (fun _ a t => a = a0 ∧ g_B D tys A w1 () t) A
abbrev Ct_r (l : Launch) (y : MethodName) (ws : List Cond) (rm : Room) (D : va_G) (tys : List (ClassId × FieldType)) (av : List Value) (sz : Nat) (w : va_W) (a0 : Nat) (w1 : va_W) : Prop :=
  Met l y ws rm (g_Pre D tys av sz w) (g_Qr D tys (va_A w sz) a0 w1) 0 0 (va_A w sz)
theorem g_aret {D : va_G} {tys : List (ClassId × FieldType)} {A : Nat → Prop} {a0 v : Nat} {w1 : va_W} {cc : ByteArray} {pc : Nat} {ls : Array Slot} {cn : String} (hx : p.tables.exec = Jvm.exec) (hb : c.code = cc) (hr : meth.sig.returnType = some (.object cn)) (hlocks : meth.locks = false) (hP : va_P D vwCl w1 H) (hD : va_D A w1) (hK : va_K D vwCl tys s) (hS : va_S A s.heap H locs) (hv : v = a0) (hdg : decode cc pc = .ok (.areturn, 1)) :
    W p l e R s m args below meth c H locs cells slots (MQ below (g_Qr D tys A a0 w1) args s cells slots A) (F0 m pc ls [.ref v]) :=
  W.aret hx hb hr (Or.inl ⟨_, rfl⟩) (Or.inr ⟨_, rfl⟩) (fun t ht hW => ⟨⟨(), v, rfl, trivial, hv, by rw [ht]; exact hP, va_K.moved hW.alike hK, hD⟩, hS.F ht⟩) hS.2.2 hdg
theorem g_callVr {y : MethodName} {bytes cc : ByteArray} {maxL nL n index : Nat} {ret : Option FieldType} {ws Ts : List Cond} {rm : Room} {own C : String} {b : Addr} {As rest st0 : List Value} {pc : Nat} {ls : Array Slot} {ww wc w1 : va_W} {A : Nat → Prop} {H0 : Heap} {a0 : Nat} {D : va_G} {tys : List (ClassId × FieldType)}
    (S : CallFix p m c cc nL s args Ts own) (hM : Met l y ws rm (g_Pre D tys (.ref b :: As) H.size wc) (g_Qr D tys (va_A wc H.size) a0 w1) 0 0 (va_A wc H.size)) (cw : CallW R s args own C index y bytes maxL ret ws rm 0 0 n)
    (hK : va_K D vwCl tys s) (hP : va_P D vwCl ww H) (hD : va_D A ww) (hS : va_S A H0 H locs) (hA : ∀ q, H0.size ≤ q → A q)
    (q0 : Nat) {ci N : Nat} {T : u_T} {fs : List Value} (hqc : vwCl[ci]? = some (C, T, N)) (he : ww[q0]? = some (b, .inr (ci, fs)))
    (isC isR : List Nat) (wr : va_W) (hC : isC.map (fun i => ww[i]?) = wc.map some) (hR : isR.map (fun i => ww[i]?) = wr.map some) (hnC : va_nd isC = true) (hnR : va_nd isR = true) (hdis : ∀ i ∈ isR, i ∉ isC)
    (hAn : As.length = n) (hls : ls.size = nL) (hst : st0 = As.reverse ++ .ref b :: rest) (hW : (rest.map fun v => v.category).sum ≤ 8) (hdg : decode cc pc = .ok (.invokevirtual index, 3)) (hcr : cells ≤ R.cells ∧ slots ≤ R.slots)
    (kk : ∀ (H1 : Heap) (locs1 : List Loc), va_P D vwCl (wr ++ w1) H1 → va_D A (wr ++ w1) → va_S A H0 H1 locs1 → W p l e R s m args below meth c H1 locs1 cells slots Q (F0 m (pc + 3) ls (.ref a0 :: rest))) :
    W p l e R s m args below meth c H locs cells slots Q (F0 m pc ls st0) := by
  have hPc := hP.sub (ws' := wc) isC (g_fm hC)
  have hDc := hD.sub (ws' := wc) isC hnC hC
  have hFc := va_free (wc := wc) hD hS hA isC hC
  refine va_callr (va_runV (As := As) (rest := rest) S hM cw ⟨g_blind, va_recv hK hP hqc he, g_pre hPc hDc hK⟩ rfl hAn hls hst (lv_room hW) hdg hcr) hS (fun q _ h => hFc q h) hFc (fun u a t H1 locs ht hvm hw hB hz1 hk1 hS => ?_)
  obtain ⟨ha, hP1, hK1, hD1⟩ := hB
  rw [ht] at hP1
  subst ha
  obtain ⟨hP, hD⟩ := va_join (wr := wr) (w1 := w1) hP hD isC isR hC hR hnR hdis hk1 hFc hP1 hD1
  exact kk H1 locs hP hD hS
end GX
theorem xg_IAE : ∀ w ∈ Cond.classLink RX8 79 g_IAE :: Cond.initialized g_IAE :: vx_atS RX8 83 g_IAE g_names, vx_ot w = true := by decide +kernel
theorem xg_ISE : ∀ w ∈ Cond.classLink RX8 90 g_ISE :: Cond.initialized g_ISE :: vx_atS RX8 94 g_ISE g_names, vx_ot w = true := by decide +kernel
theorem xg_NSE : ∀ w ∈ Cond.classLink RX8 172 g_NSE :: Cond.initialized g_NSE :: nx_at RX8 176, vx_ot w = true := by decide +kernel
theorem xb_IAE : ∀ w ∈ (vx_atS RX8 83 g_IAE g_names).filter (fun w => !goodWord w), w ∈ g_bad g_IAE := by decide +kernel
theorem xb_ISE : ∀ w ∈ (vx_atS RX8 94 g_ISE g_names).filter (fun w => !goodWord w), w ∈ g_bad g_ISE := by decide +kernel
theorem xb_NSE : ∀ w ∈ (nx_at RX8 176).filter (fun w => !goodWord w), w ∈ g_bad g_NSE := by decide +kernel
theorem ge_IAE : g_E 1 = g_IAE := by decide +kernel
theorem ge_ISE : g_E 2 = g_ISE := by decide +kernel
theorem ge_NSE : g_E 3 = g_NSE := by decide +kernel
theorem gn_IAE : ¬ (1 : Int32) = 0 := by decide
theorem gn_ISE : ¬ (2 : Int32) = 0 := by decide
theorem gn_NSE : ¬ (3 : Int32) = 0 := by decide
