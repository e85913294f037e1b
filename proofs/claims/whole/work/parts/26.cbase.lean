/-! Constructors: contracts whose end names the cells that were made. -/
/-- what X8's constructor needs beside its words: private constructors of its nest mates -/
def g_NX (U : State) : Prop := va_Nw (.methodLinkNest RX8 26 yX3_init "PassPipeline") U ∧ va_Nw (.methodLinkNest RX8 33 yX1_init "PassPipeline") U ∧ va_Nw (.methodLinkNest RX8 40 yX7_init "PassPipeline") U ∧ va_Nw (.methodLinkNest RX8 47 yX5_init "PassPipeline") U ∧ va_Nw (.methodLinkNest RX8 54 yX0_init "PassPipeline") U ∧ va_Nw (.methodLinkNest RX8 61 yX4_init "PassPipeline") U
theorem g_NX.warm {s U : State} (hW : s.WarmedH U.vm) (h : g_NX s) : g_NX U := ⟨va_Nw.warmM hW h.1, va_Nw.warmM hW h.2.1, va_Nw.warmM hW h.2.2.1, va_Nw.warmM hW h.2.2.2.1, va_Nw.warmM hW h.2.2.2.2.1, va_Nw.warmM hW h.2.2.2.2.2⟩
theorem g_NX.same {u U : State} (hv : u.vm = U.vm) (h : g_NX u) : g_NX U := ⟨va_Nw.same rfl hv h.1, va_Nw.same rfl hv h.2.1, va_Nw.same rfl hv h.2.2.1, va_Nw.same rfl hv h.2.2.2.1, va_Nw.same rfl hv h.2.2.2.2.1, va_Nw.same rfl hv h.2.2.2.2.2⟩
def g_PreN (D : va_G) (tys : List (ClassId × FieldType)) (av : List Value) (sz : Nat) (w : va_W) : Array Value → State → Prop := va_Pc av (fun U => U.heap.size = sz ∧ va_P D vwCl w U.heap ∧ va_K D vwCl tys U ∧ va_D (fun _ => True) w ∧ g_NX U)
def g_QC {Sx : Type} (D : va_G) (tys : List (ClassId × FieldType)) (A : Nat → Prop) (wp : Sx → va_W) : Array Value → State → Outcome → State → Prop := va_Qv (fun (_ : Sx) => True) (fun u t => va_P D vwCl (wp u) t.heap ∧ va_K D vwCl tys t ∧ va_D A (wp u)) A
abbrev Ct_c {Sx : Type} (l : Launch) (y : MethodName) (ws : List Cond) (rm : Room) (D : va_G) (tys : List (ClassId × FieldType)) (av : List Value) (sz : Nat) (w : va_W) (mc ms : Nat) (wp : Sx → va_W) : Prop :=
  Met l y ws rm (g_Pre D tys av sz w) (g_QC D tys (va_A w sz) wp) mc ms (va_A w sz)
theorem g_cellI (N : Nat) (cA : ClassId) : vp_cell cA (N, .inl (fun _ => 0)) = arrV cA N (fun _ => defaultValue .int) := by
  rw [vp_cell_i]
  rfl
theorem g_cellZ (N : Nat) (cA : ClassId) : vp_cell cA (N, .inl (fun _ => 0)) = arrV cA N (fun _ => defaultValue .boolean) := by
  rw [vp_cell_i]
  rfl
section GC
variable {p : Program} {l : Launch} {e : Env} {R : Room} {s : State} {m : MethodId} {args : Array Value} {below : List Frame} {meth : Method} {c : Code} {H : Heap} {locs : List Loc} {cells slots : Nat} {Q : State → Prop}
theorem g_blindN {D : va_G} {tys : List (ClassId × FieldType)} {av : List Value} {sz : Nat} {w : va_W} : FrameBlind (g_PreN D tys av sz w) := fun a U g mk q => by
  obtain ⟨q0, q1, qP, qK, qD, qN⟩ := q
  exact ⟨q0, q1, qP, va_K.moved (u := U) (U := U.calling g mk a) (Vm.Alike.refl U.vm) qK, qD, g_NX.same (u := U) (U := U.calling g mk a) rfl qN⟩
theorem g_preN {D : va_G} {tys : List (ClassId × FieldType)} {av : List Value} {w : va_W} {A : Nat → Prop} (hP : va_P D vwCl w H) (hD : va_D A w) (hK : va_K D vwCl tys s) (hN : g_NX s) : ∀ U : State, U.heap = H → s.WarmedH U.vm → g_PreN D tys av H.size w av.toArray U :=
  fun U hU hW => ⟨rfl, by rw [hU], by rw [hU]; exact hP, va_K.moved hW.alike hK, hD.weaken (fun _ _ _ _ => trivial), hN.warm hW⟩
theorem g_ofC {y : MethodName} {ws ws' : List Cond} {rm : Room} {D : va_G} {tys : List (ClassId × FieldType)} {av : List Value} {sz mc ms : Nat} {w : va_W} {cc : ByteArray} {maxL : Nat} {QQ : (Nat → Prop) → Array Value → State → Outcome → State → Prop}
    (hy : plainName y.cls = true) (hyn : y.name = "<init>") (hw : ws = Cond.code y cc maxL none :: ws') (hlen : (lg_sl av).length ≤ maxL)
    (body : ∀ (p : Program) (e : Env) (s : State) (m : MethodId) (args : Array Value) (below : List Frame) (meth : Method) (c : Code) (A : Nat → Prop) (ls : Array Slot),
      CallFix p m c cc maxL s args ws y.cls → meth.sig.returnType = none → meth.locks = false → meth.name = "<init>" → (∀ q : Nat, s.heap.size ≤ q → A q) → va_P D vwCl w s.heap → va_K D vwCl tys s → va_D A w → lv_has ls maxL (lv_args 0 av) →
      W p l e rm s m args below meth c s.heap [] 0 0 (MQ below (QQ A) args s mc ms A) (F0 m 0 ls [])) : Met l y ws rm (g_Pre D tys av sz w) (QQ (va_A w sz)) mc ms (va_A w sz) := by
  refine Met.ofW (cc := cc) (maxL := maxL) (ret := none) hy hw ?_
  intro p e s m args below meth c s₁ B hml hv
  obtain ⟨rfl, hsz, hP, hK, hD0⟩ := hv
  have hts := atoms_spec (ws := ws) B.pre
  subst hsz
  have hl := lv_entry av (n := maxL) hlen
  rw [lg_entry_eq]
  exact body p e s m av.toArray below meth c (va_A w s.heap.size) _ ⟨B.exec, B.bytes, hml, findClass_of_methodNamed B.named, hts⟩ B.returns B.notSynchronized ((name_of_methodNamed B.named B.method).1.trans hyn) (fun q h => Or.inr h) hP hK hD0.self hl
theorem g_ofN {y : MethodName} {ws ws' : List Cond} {rm : Room} {D : va_G} {tys : List (ClassId × FieldType)} {av : List Value} {sz mc ms : Nat} {w : va_W} {cc : ByteArray} {maxL : Nat} {QQ : (Nat → Prop) → Array Value → State → Outcome → State → Prop}
    (hy : plainName y.cls = true) (hyn : y.name = "<init>") (hw : ws = Cond.code y cc maxL none :: ws') (hlen : (lg_sl av).length ≤ maxL)
    (body : ∀ (p : Program) (e : Env) (s : State) (m : MethodId) (args : Array Value) (below : List Frame) (meth : Method) (c : Code) (A : Nat → Prop) (ls : Array Slot),
      CallFix p m c cc maxL s args ws y.cls → meth.sig.returnType = none → meth.locks = false → meth.name = "<init>" → (∀ q : Nat, s.heap.size ≤ q → A q) → va_P D vwCl w s.heap → va_K D vwCl tys s → va_D A w → lv_has ls maxL (lv_args 0 av) → g_NX s →
      W p l e rm s m args below meth c s.heap [] 0 0 (MQ below (QQ A) args s mc ms A) (F0 m 0 ls [])) : Met l y ws rm (g_PreN D tys av sz w) (QQ (va_A w sz)) mc ms (va_A w sz) := by
  refine Met.ofW (cc := cc) (maxL := maxL) (ret := none) hy hw ?_
  intro p e s m args below meth c s₁ B hml hv
  obtain ⟨rfl, hsz, hP, hK, hD0, hN⟩ := hv
  have hts := atoms_spec (ws := ws) B.pre
  subst hsz
  have hl := lv_entry av (n := maxL) hlen
  rw [lg_entry_eq]
  exact body p e s m av.toArray below meth c (va_A w s.heap.size) _ ⟨B.exec, B.bytes, hml, findClass_of_methodNamed B.named, hts⟩ B.returns B.notSynchronized ((name_of_methodNamed B.named B.method).1.trans hyn) (fun q h => Or.inr h) hP hK hD0.self hl hN
theorem g_cret {Sx : Type} {D : va_G} {tys : List (ClassId × FieldType)} {A : Nat → Prop} {wp : Sx → va_W} {mc ms : Nat} {cc : ByteArray} {pc : Nat} {ls : Array Slot} (u : Sx) (hx : p.tables.exec = Jvm.exec) (hb : c.code = cc) (hr : meth.sig.returnType = none) (hlocks : meth.locks = false) (hP : va_P D vwCl (wp u) H) (hD : va_D A (wp u)) (hK : va_K D vwCl tys s) (hS : va_S A s.heap H locs) (hc : cells ≤ mc) (hs : slots ≤ ms) (hdg : decode cc pc = .ok (.return_, 1)) :
    W p l e R s m args below meth c H locs cells slots (MQ below (g_QC D tys A wp) args s mc ms A) (F0 m pc ls []) := by
  refine W.widen (k := mc) (n := ms) hc hs ?_
  exact W.vret hx hb hr (fun t ht hW => ⟨⟨u, rfl, trivial, by rw [ht]; exact hP, va_K.moved hW.alike hK, hD⟩, hS.F ht⟩) hS.2.2 hdg
section NewRows
variable {cc : ByteArray} {pc nL : Nat} {ls : Array Slot} {rest : List Value} {D : va_G} {tys : List (ClassId × FieldType)} {ww wc : va_W} {A : Nat → Prop} {H0 : Heap}
theorem g_newa {atype : ArrayType} {ty : FieldType} {cT : ClassId} {t0 : Nat} {n : Int32} {N' : Nat} {a0 : vp_A} (hx : p.tables.exec = Jvm.exec) (hb : c.code = cc) (harr : (Cond.arrayClass (newarray.typeOf atype)).before args s = true) (hty : newarray.typeOf atype = ty) (hK : va_K D vwCl tys s) (hP : va_P D vwCl ww H) (hD : va_D A ww) (hS : va_S A H0 H locs) (hA : ∀ q, H0.size ≤ q → A q)
    (ht : tys[t0]? = some (cT, ty)) (hra : ∀ k, va_RA s k ty → s.vm.findClass ("[" ++ ty.toString) = some k) (ha : ∀ cA : ClassId, vp_cell cA a0 = arrV cA N' (fun _ => defaultValue ty)) (hn : ¬ n < 0) (hN : n.toNatClampNeg = N') (hbytes : N' * componentBytes ty ≤ 536870912) (hcells : cells + 1 ≤ R.cells) (hslots : slots + N' ≤ R.slots) (hdg : decode cc pc = .ok (.newarray atype, 2))
    (kk : ∀ (q : Nat) (H1 : Heap), va_P D vwCl (ww ++ [(q, .inl (cT, a0))]) H1 → va_D A (ww ++ [(q, .inl (cT, a0))]) → va_S A H0 H1 locs → W p l e R s m args below meth c H1 locs (cells + 1) (slots + N') Q (F0 m (pc + 2) ls (.ref q :: rest))) : W p l e R s m args below meth c H locs cells slots Q (F0 m pc ls (.int n :: rest)) := by
  refine va_newa hx hb harr hty hK hP hD hS hA ha hn hN hbytes hcells hslots hdg (fun q cA H1 hK1 hP1 hD1 hS1 => ?_)
  have e1 := hra _ (hK1.2 tys.length (cA, ty) (by simp)).2
  have e2 := hra _ (hK.2 t0 _ ht).2
  have e3 : cA = cT := Option.some.inj (e1.symm.trans e2)
  rw [e3] at hP1 hD1
  exact kk q H1 hP1 hD1 hS1
variable {y : MethodName} {bytes : ByteArray} {maxL n index mc ms : Nat} {ws Ts : List Cond} {rm : Room} {own host : String} {b : Addr} {As st0 : List Value}
theorem g_callI {Sx : Type} {wp : Sx → va_W} (S : CallFix p m c cc nL s args Ts own) (hM : Ct_c l y ws rm D tys (.ref b :: As) H.size wc mc ms wp) (cw : CallB R s args own index y bytes maxL none ws rm mc ms n ∧ y.name = "<init>" ∧ (Cond.instanceMethod y).before args s = true)
    (hK : va_K D vwCl tys s) (hP : va_P D vwCl ww H) (hD : va_D A ww) (hS : va_S A H0 H locs) (hA : ∀ q, H0.size ≤ q → A q)
    (isC isR : List Nat) (wr : va_W) (hC : isC.map (fun i => ww[i]?) = wc.map some) (hR : isR.map (fun i => ww[i]?) = wr.map some) (hnC : va_nd isC = true) (hnR : va_nd isR = true) (hdis : ∀ i ∈ isR, i ∉ isC)
    (hAn : As.length = n) (hls : ls.size = nL) (hst : st0 = As.reverse ++ .ref b :: rest) (hW : (rest.map fun v => v.category).sum ≤ 8) (hdg : decode cc pc = .ok (.invokespecial index, 3)) (hcr : cells + mc ≤ R.cells ∧ slots + ms ≤ R.slots)
    (kk : ∀ (u : Sx) (H1 : Heap) (locs1 : List Loc), va_P D vwCl (wr ++ wp u) H1 → va_D A (wr ++ wp u) → va_S A H0 H1 locs1 → W p l e R s m args below meth c H1 locs1 (cells + mc) (slots + ms) Q (F0 m (pc + 3) ls rest)) :
    W p l e R s m args below meth c H locs cells slots Q (F0 m pc ls st0) := by
  have hPc := hP.sub (ws' := wc) isC (g_fm hC)
  have hDc := hD.sub (ws' := wc) isC hnC hC
  have hFc := va_free (wc := wc) hD hS hA isC hC
  refine va_callv (va_runI (As := As) (rest := rest) S hM cw ⟨g_blind, g_pre hPc hDc hK⟩ rfl hAn hls hst (lv_room hW) hdg hcr) hS (fun q _ h => hFc q h) hFc (fun u t H1 locs ht hvm hw hB hz1 hk1 hS => ?_)
  obtain ⟨hP1, hK1, hD1⟩ := hB
  rw [ht] at hP1
  obtain ⟨hP, hD⟩ := va_join (wr := wr) (w1 := wp u) hP hD isC isR hC hR hnR hdis hk1 hFc hP1 hD1
  exact kk u H1 locs hP hD hS
theorem g_callIN {Sx : Type} {wp : Sx → va_W} (S : CallFix p m c cc nL s args Ts own) (hM : Ct_c l y ws rm D tys (.ref b :: As) H.size wc mc ms wp) (cw : va_CN R s args own index y host bytes maxL none ws rm mc ms n ∧ y.name = "<init>" ∧ (Cond.instanceMethod y).before args s = true)
    (hK : va_K D vwCl tys s) (hP : va_P D vwCl ww H) (hD : va_D A ww) (hS : va_S A H0 H locs) (hA : ∀ q, H0.size ≤ q → A q)
    (isC isR : List Nat) (wr : va_W) (hC : isC.map (fun i => ww[i]?) = wc.map some) (hR : isR.map (fun i => ww[i]?) = wr.map some) (hnC : va_nd isC = true) (hnR : va_nd isR = true) (hdis : ∀ i ∈ isR, i ∉ isC)
    (hAn : As.length = n) (hls : ls.size = nL) (hst : st0 = As.reverse ++ .ref b :: rest) (hW : (rest.map fun v => v.category).sum ≤ 8) (hdg : decode cc pc = .ok (.invokespecial index, 3)) (hcr : cells + mc ≤ R.cells ∧ slots + ms ≤ R.slots)
    (kk : ∀ (u : Sx) (H1 : Heap) (locs1 : List Loc), va_P D vwCl (wr ++ wp u) H1 → va_D A (wr ++ wp u) → va_S A H0 H1 locs1 → W p l e R s m args below meth c H1 locs1 (cells + mc) (slots + ms) Q (F0 m (pc + 3) ls rest)) :
    W p l e R s m args below meth c H locs cells slots Q (F0 m pc ls st0) := by
  have hPc := hP.sub (ws' := wc) isC (g_fm hC)
  have hDc := hD.sub (ws' := wc) isC hnC hC
  have hFc := va_free (wc := wc) hD hS hA isC hC
  refine va_callv (va_runIN (As := As) (rest := rest) S hM cw ⟨g_blind, g_pre hPc hDc hK⟩ rfl hAn hls hst (lv_room hW) hdg hcr) hS (fun q _ h => hFc q h) hFc (fun u t H1 locs ht hvm hw hB hz1 hk1 hS => ?_)
  obtain ⟨hP1, hK1, hD1⟩ := hB
  rw [ht] at hP1
  obtain ⟨hP, hD⟩ := va_join (wr := wr) (w1 := wp u) hP hD isC isR hC hR hnR hdis hk1 hFc hP1 hD1
  exact kk u H1 locs hP hD hS
end NewRows
end GC
