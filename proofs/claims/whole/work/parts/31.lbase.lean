/-! The law's wrappers: methods with a table of handlers round one call. -/
def g_NC (U : State) : Prop := va_Nc g_ISE g_IAE U ∧ va_Nc g_NSE g_IAE U
def g_PreL (D : va_G) (tys : List (ClassId × FieldType)) (av : List Value) (sz : Nat) (w : va_W) : Array Value → State → Prop := va_Pc av (fun U => U.heap.size = sz ∧ va_P D vwCl w U.heap ∧ va_K D vwCl tys U ∧ va_D (fun _ => True) w ∧ g_TR (va_A w sz) U U.heap ∧ g_NC U)
abbrev Ct_l (l : Launch) (y : MethodName) (ws : List Cond) (rm : Room) (D : va_G) (tys : List (ClassId × FieldType)) (av : List Value) (sz : Nat) (w : va_W) (r0 : Int32) (w1 : va_W) : Prop :=
  Met l y ws rm (g_PreL D tys av sz w) (g_Qi D tys (va_A w sz) r0 w1) 1 6 (va_A w sz)
section GL
variable {p : Program} {l : Launch} {e : Env} {R : Room} {s : State} {m : MethodId} {args : Array Value} {below : List Frame} {meth : Method} {c : Code} {H : Heap} {locs : List Loc} {cells slots : Nat} {Q : State → Prop}
theorem g_NC.moved {u U : State} (hvm : u.vm.Alike U.vm) (h : g_NC u) : g_NC U := ⟨va_Nc.moved hvm h.1, va_Nc.moved hvm h.2⟩
theorem g_blindL {D : va_G} {tys : List (ClassId × FieldType)} {av : List Value} {sz : Nat} {w : va_W} : FrameBlind (g_PreL D tys av sz w) := fun a U g mk q => by
  obtain ⟨q0, q1, qP, qK, qD, qT, qN⟩ := q
  exact ⟨q0, q1, qP, va_K.moved (u := U) (U := U.calling g mk a) (Vm.Alike.refl U.vm) qK, qD, g_TR.same (u := U) (U := U.calling g mk a) rfl qT, g_NC.moved (u := U) (U := U.calling g mk a) (Vm.Alike.refl U.vm) qN⟩
theorem g_preL {D : va_G} {tys : List (ClassId × FieldType)} {av : List Value} {w : va_W} {A : Nat → Prop} (hP : va_P D vwCl w H) (hD : va_D A w) (hK : va_K D vwCl tys s) (hT : g_TR (va_A w H.size) s H) (hN : g_NC s) : ∀ U : State, U.heap = H → s.WarmedH U.vm → g_PreL D tys av H.size w av.toArray U :=
  fun U hU hW => ⟨rfl, by rw [hU], by rw [hU]; exact hP, va_K.moved hW.alike hK, hD.weaken (fun _ _ _ _ => trivial), by rw [hU]; exact hT.warm hW, hN.moved hW.alike⟩
theorem g_ofWH {y : MethodName} {ws ws' : List Cond} {rm : Room} {Pc : Array Value → State → Prop} {Qc : Array Value → State → Outcome → State → Prop} {mc ms : Nat} {free : Addr → Prop} {cc : ByteArray} {maxL : Nat} {ret : Option FieldType} {hh : List (Nat × Nat × Nat × Nat)}
    (hy : plainName y.cls = true) (hw : ws = Cond.codeWith y cc maxL ret hh :: ws')
    (body : ∀ p e s m args below meth c s₁, BodyLoose p l y (headSpec ws rm) cc maxL ret e s m args below meth c s₁ → c.maxLocals = maxL → Pc args s →
      W p l e (headSpec ws rm).room s m args below meth c s.heap [] 0 0 (MQ below Qc args s mc ms free) (entryFrame m args maxL)) : Met l y ws rm Pc Qc mc ms free := by
  refine MetFree.of_bodyS (code := cc) (maxLocals := maxL) (ret := ret) hy ?_ ?_
  · intro args s m h hn
    obtain ⟨m9, meth, c, hn9, h1, h2, h3, h4, -, h5, h6, -⟩ := Cond.codeWith_spec (atoms_spec (ws := ws) h _ (by rw [hw]; exact List.mem_cons_self))
    cases hn.symm.trans hn9
    exact ⟨meth, c, h1, h2, h3, h4, h5, h6⟩
  · intro p e s m args below meth c s₁ B hml hP _
    have hh0 : s₁.heap = s.heap := by rw [B.state]; rfl
    obtain ⟨t, a1, o, b1, b2, b3⟩ := body p e s m args below meth c s₁ B hml hP s₁ hh0 (Stand.of_body B)
    exact ⟨t, o, a1, b1, b2, ⟨b3.1, b3.2⟩⟩
theorem g_ofL {y : MethodName} {ws ws' : List Cond} {rm : Room} {D : va_G} {tys : List (ClassId × FieldType)} {av : List Value} {sz : Nat} {w : va_W} {cc : ByteArray} {maxL : Nat} {ret : Option FieldType} {hh : List (Nat × Nat × Nat × Nat)} {QQ : (Nat → Prop) → Array Value → State → Outcome → State → Prop}
    (hy : plainName y.cls = true) (hw : ws = Cond.codeWith y cc maxL ret hh :: ws') (hlen : (lg_sl av).length ≤ maxL)
    (body : ∀ (p : Program) (e : Env) (s : State) (m : MethodId) (args : Array Value) (below : List Frame) (meth : Method) (c : Code) (A : Nat → Prop) (ls : Array Slot),
      CallFix p m c cc maxL s args ws y.cls → meth.sig.returnType = ret → meth.locks = false → (∀ q : Nat, s.heap.size ≤ q → A q) → va_P D vwCl w s.heap → va_K D vwCl tys s → va_D A w → lv_has ls maxL (lv_args 0 av) → g_TR A s s.heap → g_NC s → c.exceptionTable.toList = tableOf hh →
      W p l e rm s m args below meth c s.heap [] 0 0 (MQ below (QQ A) args s 1 6 A) (F0 m 0 ls [])) : Met l y ws rm (g_PreL D tys av sz w) (QQ (va_A w sz)) 1 6 (va_A w sz) := by
  refine g_ofWH (cc := cc) (maxL := maxL) (ret := ret) (hh := hh) hy hw ?_
  intro p e s m args below meth c s₁ B hml hv
  obtain ⟨rfl, hsz, hP, hK, hD0, hT, hN⟩ := hv
  have hts := atoms_spec (ws := ws) B.pre
  subst hsz
  have hl := lv_entry av (n := maxL) hlen
  rw [lg_entry_eq]
  exact body p e s m av.toArray below meth c (va_A w s.heap.size) _ ⟨B.exec, B.bytes, hml, findClass_of_methodNamed B.named, hts⟩ B.returns B.notSynchronized (fun q h => Or.inr h) hP hK hD0.self hl hT hN (vx_table (x := y) B (hts _ (by rw [hw]; exact List.mem_cons_self)))
section LC
variable {y : MethodName} {bytes cc : ByteArray} {maxL nL n index : Nat} {ret : Option FieldType} {ws Ts : List Cond} {rm : Room} {own C : String} {b : Addr} {As rest st0 : List Value} {pc : Nat} {ls : Array Slot} {ww wc w1 : va_W} {A : Nat → Prop} {tag r0 : Int32} {D : va_G} {tys tysC : List (ClassId × FieldType)}
theorem g_callXi (S : CallFix p m c cc nL s args Ts own) (hM : Ct_xi l y ws rm D tysC (.ref b :: As) H.size wc tag r0 w1) (cw : CallW R s args own C index y bytes maxL ret ws rm 1 6 n)
    (hK : va_K D vwCl tysC s) (hP : va_P D vwCl ww H) (hD : va_D A ww) (hS : va_S A s.heap H locs) (hA : ∀ q, s.heap.size ≤ q → A q) (TR : g_TR A s s.heap)
    (q0 : Nat) {ci N : Nat} {T : u_T} {fs : List Value} (hqc : vwCl[ci]? = some (C, T, N)) (he : ww[q0]? = some (b, .inr (ci, fs)))
    (isC isR : List Nat) (wr : va_W) (hC : isC.map (fun i => ww[i]?) = wc.map some) (hR : isR.map (fun i => ww[i]?) = wr.map some) (hnC : va_nd isC = true) (hnR : va_nd isR = true) (hdis : ∀ i ∈ isR, i ∉ isC)
    (hAn : As.length = n) (hls : ls.size = nL) (hst : st0 = As.reverse ++ .ref b :: rest) (hW : (rest.map fun v => v.category).sum ≤ 8) (hdg : decode cc pc = .ok (.invokevirtual index, 3)) (hcr : cells + 1 ≤ R.cells ∧ slots + 6 ≤ R.slots)
    (kk : tag = 0 → ∀ (H1 : Heap) (locs1 : List Loc), va_P D vwCl (wr ++ w1) H1 → va_D A (wr ++ w1) → va_S A s.heap H1 locs1 → W p l e R s m args below meth c H1 locs1 (cells + 1) (slots + 6) Q (F0 m (pc + 3) ls (.int r0 :: rest)))
    (kx : ¬ tag = 0 → ∀ (q9 : Addr) (ce : Cell) (H1 : Heap) (locs1 : List Loc), va_P D vwCl (wr ++ w1) H1 → va_D A (wr ++ w1) → va_S A s.heap H1 locs1 → H1[q9]? = some ce → ce.vm = .none → s.vm.findClass (g_E tag) = some ce.cls → vx_W p l e R s m args below meth c H1 locs1 (cells + 1) (slots + 6) Q (F0 m pc ls rest) q9) :
    W p l e R s m args below meth c H locs cells slots Q (F0 m pc ls st0) := by
  have hPc := hP.sub (ws' := wc) isC (g_fm hC)
  have hDc := hD.sub (ws' := wc) isC hnC hC
  have hFc := va_free (wc := wc) hD hS hA isC hC
  have hTc : g_TR (va_A wc H.size) s H := (TR.kept hS.2.1).narrow hFc
  refine vx_calli (vx_runV (As := As) (rest := rest) S hM cw ⟨g_blindX, va_recv hK hP hqc he, g_preX hPc hDc hK hTc⟩ rfl hAn hls hst (lv_room hW) hdg hcr) hS (fun q _ h => hFc q h) hFc (fun q _ h => hFc q h)
    (fun E ce q9 u t H1 locs ht hvm hpx hB hz1 hk1 hS hce hcv hcl => ?_) (fun r u t H1 locs ht hvm hw hB hz1 hk1 hS => ?_)
  · obtain ⟨rfl, hP1, hK1, hD1⟩ := hB
    rw [ht] at hP1
    obtain ⟨hP, hD⟩ := va_join (wr := wr) (w1 := w1) hP hD isC isR hC hR hnR hdis hk1 hFc hP1 hD1
    exact kx hpx q9 ce H1 locs hP hD hS hce hcv hcl
  · obtain ⟨hP1, hK1, hD1⟩ := hB
    rw [ht] at hP1
    obtain ⟨h0, hw⟩ := hw
    subst hw
    obtain ⟨hP, hD⟩ := va_join (wr := wr) (w1 := w1) hP hD isC isR hC hR hnR hdis hk1 hFc hP1 hD1
    exact kk h0 H1 locs hP hD hS
theorem g_callXv (S : CallFix p m c cc nL s args Ts own) (hM : Ct_xv l y ws rm D tysC (.ref b :: As) H.size wc tag w1) (cw : CallW R s args own C index y bytes maxL ret ws rm 1 6 n)
    (hK : va_K D vwCl tysC s) (hP : va_P D vwCl ww H) (hD : va_D A ww) (hS : va_S A s.heap H locs) (hA : ∀ q, s.heap.size ≤ q → A q) (TR : g_TR A s s.heap)
    (q0 : Nat) {ci N : Nat} {T : u_T} {fs : List Value} (hqc : vwCl[ci]? = some (C, T, N)) (he : ww[q0]? = some (b, .inr (ci, fs)))
    (isC isR : List Nat) (wr : va_W) (hC : isC.map (fun i => ww[i]?) = wc.map some) (hR : isR.map (fun i => ww[i]?) = wr.map some) (hnC : va_nd isC = true) (hnR : va_nd isR = true) (hdis : ∀ i ∈ isR, i ∉ isC)
    (hAn : As.length = n) (hls : ls.size = nL) (hst : st0 = As.reverse ++ .ref b :: rest) (hW : (rest.map fun v => v.category).sum ≤ 8) (hdg : decode cc pc = .ok (.invokevirtual index, 3)) (hcr : cells + 1 ≤ R.cells ∧ slots + 6 ≤ R.slots)
    (kk : tag = 0 → ∀ (H1 : Heap) (locs1 : List Loc), va_P D vwCl (wr ++ w1) H1 → va_D A (wr ++ w1) → va_S A s.heap H1 locs1 → W p l e R s m args below meth c H1 locs1 (cells + 1) (slots + 6) Q (F0 m (pc + 3) ls rest))
    (kx : ¬ tag = 0 → ∀ (q9 : Addr) (ce : Cell) (H1 : Heap) (locs1 : List Loc), va_P D vwCl (wr ++ w1) H1 → va_D A (wr ++ w1) → va_S A s.heap H1 locs1 → H1[q9]? = some ce → ce.vm = .none → s.vm.findClass (g_E tag) = some ce.cls → vx_W p l e R s m args below meth c H1 locs1 (cells + 1) (slots + 6) Q (F0 m pc ls rest) q9) :
    W p l e R s m args below meth c H locs cells slots Q (F0 m pc ls st0) := by
  have hPc := hP.sub (ws' := wc) isC (g_fm hC)
  have hDc := hD.sub (ws' := wc) isC hnC hC
  have hFc := va_free (wc := wc) hD hS hA isC hC
  have hTc : g_TR (va_A wc H.size) s H := (TR.kept hS.2.1).narrow hFc
  refine vx_callv (vx_runV (As := As) (rest := rest) S hM cw ⟨g_blindX, va_recv hK hP hqc he, g_preX hPc hDc hK hTc⟩ rfl hAn hls hst (lv_room hW) hdg hcr) hS (fun q _ h => hFc q h) hFc (fun q _ h => hFc q h)
    (fun E ce q9 u t H1 locs ht hvm hpx hB hz1 hk1 hS hce hcv hcl => ?_) (fun u t H1 locs ht hvm hw hB hz1 hk1 hS => ?_)
  · obtain ⟨rfl, hP1, hK1, hD1⟩ := hB
    rw [ht] at hP1
    obtain ⟨hP, hD⟩ := va_join (wr := wr) (w1 := w1) hP hD isC isR hC hR hnR hdis hk1 hFc hP1 hD1
    exact kx hpx q9 ce H1 locs hP hD hS hce hcv hcl
  · obtain ⟨hP1, hK1, hD1⟩ := hB
    rw [ht] at hP1
    obtain ⟨hP, hD⟩ := va_join (wr := wr) (w1 := w1) hP hD isC isR hC hR hnR hdis hk1 hFc hP1 hD1
    exact kk hw H1 locs hP hD hS
end LC
end GL
