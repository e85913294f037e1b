/-! THE LAW: what its entry gives (the first rows are the skeleton's). By wip/gen/lawfacts.py. -/
def R_law : String := "PassPipelineLaw"
def lw_P (b : Addr) (xs : List Int32) (args : Array Value) (s : State) : Prop := args = #[.ref b] ∧ s.IntsAt b xs ∧ xs.length ≤ 2560 ∧ (Jvm.Cond.and given_1 narrow_1).before args s = true
def lw_Q (_ : Array Value) (s : State) (o : Outcome) (t : State) : Prop := o = .returned (some (.int 1)) ∧ Framed s o t [] 601024 7293034
def lw_Z (below : List Frame) (a : Array Value) (s : State) : State → Prop := fun t => ∃ o, t.status = .running ∧ Ended t below o ∧ lw_Q a s o t
/-- the law's own end, with 1 on the stack, nothing written that was there before, its room as the claim has it -/
theorem lw_ret {p : Program} {l : Launch} {e : Env} {s : State} {m : MethodId} {below : List Frame} {meth : Method} {c : Code} {b : Nat} (hx : p.tables.exec = Jvm.exec) (hb : c.code = code) (hr : meth.sig.returnType = ret) (hlocks : meth.locks = false) {pc : Nat} {H : Heap} {ls : Array Slot} (hdg : decode code pc = .ok (.ireturn, 1)) : W p l e room_1 s m #[Value.ref b] below meth c H [] 601024 7293034 (lw_Z below #[Value.ref b] s) (F0 m pc ls [.int 1]) := by
  intro T hT X
  obtain ⟨fs, hret, hrun, hended, hW, hframe⟩ := X.leave (v := some (.int 1)) (hlocks := hlocks) (fun h => by rw [hr] at h; cases h)
  have hmeth' : T.vm.method? m = some meth := X.method'
  refine ⟨T.setFrames fs, ?_, .returned (some (.int 1)), hrun, hended, rfl, ⟨_, rfl⟩, hW, hframe⟩
  jvm_step X.here [X.here.top, hx, hb, hdg, hmeth', hr, ret, narrow_b1]
  (try refine ⟨rfl, ?_⟩); (try refine ⟨rfl, ?_⟩)
  first | (intro acts; rw [hret _ acts rfl rfl rfl]) | rw [hret _ _ rfl rfl rfl]
  exact Steps.refl _
/-- what holds at the law's entry: the machine, the code, the tables' words (any of lw_tbl by 'hts w (by decide +kernel)'), the script of L ints xs at the cell b, what the Statement gives of the start (any of its parts by flat_of_before) -/
def lw_At (p : Program) (s : State) (m : MethodId) (meth : Method) (c : Code) (b L : Nat) (xs : Nat → Int32) : Prop :=
  p.tables.exec = Jvm.exec ∧ c.code = code ∧ meth.sig.returnType = ret ∧ c.maxLocals = 7 ∧ s.vm.findClass R_law = some m.cls ∧ (∀ w ∈ lw_tbl, w.before #[Value.ref b] s = true) ∧ va_X b L xs s s.heap ∧ b < s.heap.size ∧ meth.locks = false ∧ (Jvm.Cond.and given_1 narrow_1).before #[Value.ref b] s = true
set_option maxHeartbeats 4000000 in
set_option maxRecDepth 100000 in
theorem lw_K {s : State} {b : Nat} (hts : ∀ w ∈ lw_tbl, w.before #[Value.ref b] s = true) : ∃ (D : va_G) (cI cZ cJ : ClassId), va_K D vwCl [(cI, .int), (cZ, .boolean), (cJ, .long)] s := by
  obtain ⟨cX0, iX0, kX0⟩ := u_known (C := RX0) (T := TX0) (N := 5) (n := 5) hts inX0 (hts (.instantiable RX0 5) (List.mem_append_right _ (List.mem_of_getElem? (i := 165) (by decide +kernel))))
  obtain ⟨cX1, iX1, kX1⟩ := u_known (C := RX1) (T := TX1) (N := 6) (n := 6) hts inX1 (hts (.instantiable RX1 6) (List.mem_append_right _ (List.mem_of_getElem? (i := 98) (by decide +kernel))))
  obtain ⟨cX3, iX3, kX3⟩ := u_known (C := RX3) (T := TX3) (N := 1) (n := 1) hts inX3 (hts (.instantiable RX3 1) (List.mem_append_right _ (List.mem_of_getElem? (i := 87) (by decide +kernel))))
  obtain ⟨cX4, iX4, kX4⟩ := u_known (C := RX4) (T := TX4) (N := 9) (n := 9) hts inX4 (hts (.instantiable RX4 9) (List.mem_append_right _ (List.mem_of_getElem? (i := 191) (by decide +kernel))))
  obtain ⟨cX5, iX5, kX5⟩ := u_known (C := RX5) (T := TX5) (N := 2) (n := 2) hts inX5 (hts (.instantiable RX5 2) (List.mem_append_right _ (List.mem_of_getElem? (i := 152) (by decide +kernel))))
  obtain ⟨cX6, iX6, kX6⟩ := u_known (C := RX6) (T := TX6) (N := 5) (n := 5) hts inX6 (hts (.instantiable RX6 5) (List.mem_append_right _ (List.mem_of_getElem? (i := 29) (by decide +kernel))))
  obtain ⟨cX7, iX7, kX7⟩ := u_known (C := RX7) (T := TX7) (N := 7) (n := 7) hts inX7 (hts (.instantiable RX7 7) (List.mem_append_right _ (List.mem_of_getElem? (i := 124) (by decide +kernel))))
  obtain ⟨cX8, iX8, kX8⟩ := u_known (C := RX8) (T := TX8) (N := 11) (n := 11) hts inX8 (hts (.instantiable RX8 11) (List.mem_append_right _ (List.mem_of_getElem? (i := 21) (by decide +kernel))))
  obtain ⟨cX9, iX9, kX9⟩ := u_known (C := RX9) (T := TX9) (N := 33) (n := 33) hts inX9 (hts (.instantiable RX9 33) (List.mem_append_right _ (List.mem_of_getElem? (i := 786) (by decide +kernel))))
  obtain ⟨cI, kI, pI, aI1, aI2, aI3⟩ := Cond.arrayClass_spec (type := .int) (hts (.arrayClass .int) (List.mem_append_right _ (List.mem_of_getElem? (i := 85) (by decide +kernel))))
  obtain ⟨cZ, kZ, pZ, aZ1, aZ2, aZ3⟩ := Cond.arrayClass_spec (type := .boolean) (hts (.arrayClass .boolean) (List.mem_append_right _ (List.mem_of_getElem? (i := 122) (by decide +kernel))))
  obtain ⟨cJ, kJ, pJ, aJ1, aJ2, aJ3⟩ := Cond.arrayClass_spec (type := .long) (hts (.arrayClass .long) (List.mem_append_right _ (List.mem_of_getElem? (i := 1080) (by decide +kernel))))
  refine ⟨(fun k => if k = 0 then cX0 else if k = 1 then cX1 else if k = 2 then cX3 else if k = 3 then cX4 else if k = 4 then cX5 else if k = 5 then cX6 else if k = 6 then cX7 else if k = 7 then cX8 else cX9, fun k => if k = 0 then iX0 else if k = 1 then iX1 else if k = 2 then iX3 else if k = 3 then iX4 else if k = 4 then iX5 else if k = 5 then iX6 else if k = 6 then iX7 else if k = 7 then iX8 else iX9), cI, cZ, cJ, ?_, ?_⟩
  · intro k q hq
    match k, hq with
    | 0, hq => cases hq; exact kX0
    | 1, hq => cases hq; exact kX1
    | 2, hq => cases hq; exact kX3
    | 3, hq => cases hq; exact kX4
    | 4, hq => cases hq; exact kX5
    | 5, hq => cases hq; exact kX6
    | 6, hq => cases hq; exact kX7
    | 7, hq => cases hq; exact kX8
    | 8, hq => cases hq; exact kX9
    | k + 9, hq => simp [vwCl] at hq
  · intro k q hq
    match k, hq with
    | 0, hq => cases hq; exact ⟨fun n z => ⟨fun k h => (by cases h), kI, aI2, pI, aI3⟩, aI1⟩
    | 1, hq => cases hq; exact ⟨fun n z => ⟨fun k h => (by cases h), kZ, aZ2, pZ, aZ3⟩, aZ1⟩
    | 2, hq => cases hq; exact ⟨fun n z => ⟨fun k h => (by cases h), kJ, aJ2, pJ, aJ3⟩, aJ1⟩
    | k + 3, hq => simp at hq
theorem lw_str {s : State} {args : Array Value} {k : Nat} {tx : String} {cx : ClassId} (hc : s.vm.findClass RX8 = some cx) (h : (Cond.stringRef RX8 k tx).before args s = true) : ∃ a, vk_R RX8 k tx a s := by
  obtain ⟨-, -, -, a, -, -, -, -, -, hev⟩ := Cond.stringRef_spec hc h
  exact ⟨a, vk_R.of h hev⟩
set_option maxHeartbeats 4000000 in
set_option maxRecDepth 100000 in
theorem lw_TR {s : State} {b : Nat} {D : va_G} {tys : List (ClassId × FieldType)} (hts : ∀ w ∈ lw_tbl, w.before #[Value.ref b] s = true) (hgv : (Jvm.Cond.and given_1 narrow_1).before #[Value.ref b] s = true) (hK : va_K D vwCl tys s) : g_TR (lwA s) s s.heap := by
  have hg := flat_of_before _ hgv
  have hA : ∀ a : Nat, a < s.heap.size → ¬ lwA s a := fun a h => Nat.not_le.mpr h
  refine ⟨vx_Zqof (hts (.laysStatic Bundle.tN "UNASSIGNED_STACK" Bundle.steD) (List.mem_append_right _ (List.mem_of_getElem? (i := 334) (by decide +kernel)))) (hts (.initialized Bundle.tN) (List.mem_append_right _ (List.mem_of_getElem? (i := 11) (by decide +kernel)))) (hg _ (by decide +kernel)) hA, vx_Zqof (hts (.laysStatic Bundle.tN "SUPPRESSED_SENTINEL" Bundle.listD) (List.mem_append_right _ (List.mem_of_getElem? (i := 336) (by decide +kernel)))) (hts (.initialized Bundle.tN) (List.mem_append_right _ (List.mem_of_getElem? (i := 11) (by decide +kernel)))) (hg _ (by decide +kernel)) hA, ?_, ?_, ?_⟩
  · exact ⟨va_Nw.of rfl (hts (.castable g_IAE g_IAE) (List.mem_append_right _ (List.mem_of_getElem? (i := 309) (by decide +kernel)))), va_Nw.of rfl (hts (.castable g_ISE g_ISE) (List.mem_append_right _ (List.mem_of_getElem? (i := 377) (by decide +kernel)))), va_Nw.of rfl (hts (.castable g_NSE g_NSE) (List.mem_append_right _ (List.mem_of_getElem? (i := 682) (by decide +kernel))))⟩
  · exact ⟨va_Nw.of rfl (hts (.declares ⟨"java/lang/RuntimeException", "<init>", "(Ljava/lang/String;)V"⟩) (List.mem_append_right _ (List.mem_of_getElem? (i := 311) (by decide +kernel)))), va_Nw.of rfl (hts (.declares ⟨"java/lang/Exception", "<init>", "(Ljava/lang/String;)V"⟩) (List.mem_append_right _ (List.mem_of_getElem? (i := 313) (by decide +kernel)))), va_Nw.of rfl (hts (.declares ⟨"java/lang/Throwable", "<init>", "(Ljava/lang/String;)V"⟩) (List.mem_append_right _ (List.mem_of_getElem? (i := 315) (by decide +kernel))))⟩
  · have hc := (hK.1 7 _ rfl).2.1
    intro q hq
    simp only [g_strs, List.mem_cons, List.not_mem_nil, or_false] at hq
    rcases hq with rfl | rfl | rfl | rfl | rfl | rfl | rfl | rfl | rfl | rfl | rfl | rfl | rfl | rfl | rfl
    · exact lw_str hc (hts (.stringRef RX8 81 "no such instruction") (List.mem_append_right _ (List.mem_of_getElem? (i := 348) (by decide +kernel))))
    · exact lw_str hc (hts (.stringRef RX8 92 "the draft is full") (List.mem_append_right _ (List.mem_of_getElem? (i := 384) (by decide +kernel))))
    · exact lw_str hc (hts (.stringRef RX8 119 "the draft is no program") (List.mem_append_right _ (List.mem_of_getElem? (i := 419) (by decide +kernel))))
    · exact lw_str hc (hts (.stringRef RX8 125 "no such pass") (List.mem_append_right _ (List.mem_of_getElem? (i := 432) (by decide +kernel))))
    · exact lw_str hc (hts (.stringRef RX8 127 "no program that a pass could change") (List.mem_append_right _ (List.mem_of_getElem? (i := 433) (by decide +kernel))))
    · exact lw_str hc (hts (.stringRef RX8 143 "no such number of machine registers") (List.mem_append_right _ (List.mem_of_getElem? (i := 622) (by decide +kernel))))
    · exact lw_str hc (hts (.stringRef RX8 145 "no program to allocate") (List.mem_append_right _ (List.mem_of_getElem? (i := 623) (by decide +kernel))))
    · exact lw_str hc (hts (.stringRef RX8 158 "too few machine registers") (List.mem_append_right _ (List.mem_of_getElem? (i := 647) (by decide +kernel))))
    · exact lw_str hc (hts (.stringRef RX8 170 "no such register") (List.mem_append_right _ (List.mem_of_getElem? (i := 679) (by decide +kernel))))
    · exact lw_str hc (hts (.stringRef RX8 174 "not allocated") (List.mem_append_right _ (List.mem_of_getElem? (i := 689) (by decide +kernel))))
    · exact lw_str hc (hts (.stringRef RX8 181 "no program") (List.mem_append_right _ (List.mem_of_getElem? (i := 703) (by decide +kernel))))
    · exact lw_str hc (hts (.stringRef RX8 187 "no such part of an instruction") (List.mem_append_right _ (List.mem_of_getElem? (i := 711) (by decide +kernel))))
    · exact lw_str hc (hts (.stringRef RX8 204 "no such cell") (List.mem_append_right _ (List.mem_of_getElem? (i := 722) (by decide +kernel))))
    · exact lw_str hc (hts (.stringRef RX8 216 "no run that returned") (List.mem_append_right _ (List.mem_of_getElem? (i := 769) (by decide +kernel))))
    · exact lw_str hc (hts (.stringRef RX8 227 "no such number in the trace") (List.mem_append_right _ (List.mem_of_getElem? (i := 784) (by decide +kernel))))
theorem lw_NC {s : State} {b : Nat} (hgv : (Jvm.Cond.and given_1 narrow_1).before #[Value.ref b] s = true) : g_NC s := by
  have hg := flat_of_before _ hgv
  exact ⟨va_Nc.of (hg (.not (.castable g_ISE g_IAE)) (by decide +kernel)), va_Nc.of (hg (.not (.castable g_NSE g_IAE)) (by decide +kernel))⟩
theorem lw_NX {s : State} {b : Nat} (hts : ∀ w ∈ lw_tbl, w.before #[Value.ref b] s = true) : g_NX s := ⟨va_Nw.of rfl (hts (.methodLinkNest RX8 26 yX3_init "PassPipeline") (List.mem_append_right _ (List.mem_of_getElem? (i := 88) (by decide +kernel)))), va_Nw.of rfl (hts (.methodLinkNest RX8 33 yX1_init "PassPipeline") (List.mem_append_right _ (List.mem_of_getElem? (i := 99) (by decide +kernel)))), va_Nw.of rfl (hts (.methodLinkNest RX8 40 yX7_init "PassPipeline") (List.mem_append_right _ (List.mem_of_getElem? (i := 125) (by decide +kernel)))), va_Nw.of rfl (hts (.methodLinkNest RX8 47 yX5_init "PassPipeline") (List.mem_append_right _ (List.mem_of_getElem? (i := 153) (by decide +kernel)))), va_Nw.of rfl (hts (.methodLinkNest RX8 54 yX0_init "PassPipeline") (List.mem_append_right _ (List.mem_of_getElem? (i := 166) (by decide +kernel)))), va_Nw.of rfl (hts (.methodLinkNest RX8 61 yX4_init "PassPipeline") (List.mem_append_right _ (List.mem_of_getElem? (i := 192) (by decide +kernel))))⟩
theorem lw_facts {p : Program} {l : Launch} {s : State} {m : MethodId} {meth : Method} {c : Code} {b L : Nat} {xs : Nat → Int32} (hlt : l.stackTraces = false) (C0 : lw_At p s m meth c b L xs) : ∃ (D : va_G) (cI cZ cJ : ClassId), lwF p l s m c D cI cZ cJ b L xs ∧ g_NX s := by
  obtain ⟨hx, hb, hr, hml, hown, hts, hX, hbl, hlocks, hgv⟩ := C0
  obtain ⟨D, cI, cZ, cJ, hK⟩ := lw_K hts
  exact ⟨D, cI, cZ, cJ, ⟨⟨hx, hb, hml, hown, hts⟩, hK, lw_TR hts hgv hK, lw_NC hgv, hX, hbl, hlt⟩, lw_NX hts⟩
