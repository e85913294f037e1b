/-! The base of the walks: contracts over worlds, a pure function a method. -/
theorem ite_t {α : Sort _} {q : Prop} [Decidable q] {a b r : α} (h : (if q then a else b) = r) (hq : q) : a = r := by rw [if_pos hq] at h; exact h
theorem ite_e {α : Sort _} {q : Prop} [Decidable q] {a b r : α} (h : (if q then a else b) = r) (hq : ¬ q) : b = r := by rw [if_neg hq] at h; exact h
/-- a guard: the index lies in its row -/
def gd {α : Type} (i : Int32) (n : Nat) (k : Option α) : Option α := if i < 0 ∨ n ≤ i.toNatClampNeg then none else k
theorem gd_some {α : Type} {i : Int32} {n : Nat} {k : Option α} {r : α} (h : gd i n k = some r) : vp_in i n ∧ k = some r := by
  unfold gd at h
  by_cases q : i < 0 ∨ n ≤ i.toNatClampNeg
  · rw [if_pos q] at h; cases h
  · rw [if_neg q] at h; exact ⟨q, h⟩
theorem gd_in {α : Type} {i : Int32} {n : Nat} {k : Option α} (h : vp_in i n) : gd i n k = k := if_neg h
/-- a guard: a boolean -/
def gb {α : Type} (x : Int32) (k : Option α) : Option α := if x = 0 ∨ x = 1 then k else none
theorem gb_some {α : Type} {x : Int32} {k : Option α} {r : α} (h : gb x k = some r) : (x = 0 ∨ x = 1) ∧ k = some r := by
  unfold gb at h
  by_cases q : x = 0 ∨ x = 1
  · rw [if_pos q] at h; exact ⟨q, h⟩
  · rw [if_neg q] at h; cases h
theorem gb_in {α : Type} {x : Int32} {k : Option α} (h : x = 0 ∨ x = 1) : gb x k = k := if_pos h
theorem nb_n {x : Int32} (h : x = 0 ∨ x = 1) : narrow .boolean (.int x) = .int x := by
  rcases h with rfl | rfl <;> decide +kernel
theorem nb_f {x : Int32} (h : x = 0 ∨ x = 1) : fits .boolean (.int x) = true := by
  rcases h with rfl | rfl <;> decide +kernel
theorem nb_v {x : Int32} (h : x = 0 ∨ x = 1) : vp_nar .boolean x = x := by
  rcases h with rfl | rfl <;> decide +kernel
/-- a guard: a divisor -/
def gz {α : Type} (y : Int32) (k : Option α) : Option α := if y = 0 then none else k
theorem gz_some {α : Type} {y : Int32} {k : Option α} {r : α} (h : gz y k = some r) : ¬ y = 0 ∧ k = some r := by
  unfold gz at h
  by_cases q : y = 0
  · rw [if_pos q] at h; cases h
  · rw [if_neg q] at h; exact ⟨q, h⟩
theorem gz_in {α : Type} {y : Int32} {k : Option α} (h : ¬ y = 0) : gz y k = k := if_neg h
/-- a guard: a copied stretch -/
def gc {α : Type} (sp dp n : Int32) (n0 n1 : Nat) (k : Option α) : Option α := if (sp < 0 ∨ dp < 0 ∨ n < 0) ∨ (n0 < sp.toNatClampNeg + n.toNatClampNeg ∨ n1 < dp.toNatClampNeg + n.toNatClampNeg) then none else k
theorem gc_some {α : Type} {sp dp n : Int32} {n0 n1 : Nat} {k : Option α} {r : α} (h : gc sp dp n n0 n1 k = some r) : (¬ sp < 0 ∧ ¬ dp < 0 ∧ ¬ n < 0 ∧ sp.toNatClampNeg + n.toNatClampNeg ≤ n0 ∧ dp.toNatClampNeg + n.toNatClampNeg ≤ n1) ∧ k = some r := by
  unfold gc at h
  by_cases q : (sp < 0 ∨ dp < 0 ∨ n < 0) ∨ (n0 < sp.toNatClampNeg + n.toNatClampNeg ∨ n1 < dp.toNatClampNeg + n.toNatClampNeg)
  · rw [if_pos q] at h; cases h
  · rw [if_neg q] at h
    simp only [not_or, Nat.not_lt] at q
    exact ⟨⟨q.1.1, q.1.2.1, q.1.2.2, q.2.1, q.2.2⟩, h⟩
theorem gc_in {α : Type} {sp dp n : Int32} {n0 n1 : Nat} {k : Option α} (h : ¬ sp < 0 ∧ ¬ dp < 0 ∧ ¬ n < 0 ∧ sp.toNatClampNeg + n.toNatClampNeg ≤ n0 ∧ dp.toNatClampNeg + n.toNatClampNeg ≤ n1) : gc sp dp n n0 n1 k = k := by
  refine if_neg ?_
  simp only [not_or, Nat.not_lt]
  exact ⟨⟨h.1, h.2.1, h.2.2.1⟩, h.2.2.2.1, h.2.2.2.2⟩
theorem bd_some {α β : Type} {x : Option α} {k : α → Option β} {r : β} (h : x.bind k = some r) : ∃ u, x = some u ∧ k u = some r := by
  cases x with
  | none => cases h
  | some u => exact ⟨u, rfl, h⟩
theorem sw_eq {x v : Int32} {k : Int} (h : x = v) (hv : v.toInt = k) : x.toInt = k := by rw [h]; exact hv
theorem sw_ne {x v : Int32} {k : Int} (h : ¬ x = v) (hv : v.toInt = k) : ¬ x.toInt = k := fun e => h (Int32.toInt_inj.mp (e.trans hv.symm))
theorem g_fm {α β : Type} {f : α → Option β} {is : List α} {w : List β} (h : is.map f = w.map some) : is.filterMap f = w := by
  induction is generalizing w with
  | nil => cases w with
    | nil => rfl
    | cons b w => simp at h
  | cons a t ih => cases w with
    | nil => simp at h
    | cons b w =>
      simp only [List.map_cons, List.cons.injEq] at h
      rw [List.filterMap_cons, h.1]
      simp [ih h.2]
section GB
variable {p : Program} {l : Launch} {e : Env} {R : Room} {s : State} {m : MethodId} {args : Array Value} {below : List Frame} {meth : Method} {c : Code} {H : Heap} {locs : List Loc} {cells slots : Nat} {Q : State → Prop}
/-- a method's start: the heap has sz cells and holds the world w -/
def g_Pre (D : va_G) (tys : List (ClassId × FieldType)) (av : List Value) (sz : Nat) (w : va_W) : Array Value → State → Prop := va_Pc av (fun U => U.heap.size = sz ∧ va_P D vwCl w U.heap ∧ va_K D vwCl tys U ∧ va_D (fun _ => True) w)
def g_B (D : va_G) (tys : List (ClassId × FieldType)) (A : Nat → Prop) (w1 : va_W) : Unit → State → Prop := fun _ t => va_P D vwCl w1 t.heap ∧ va_K D vwCl tys t ∧ va_D A w1
def g_Qi (D : va_G) (tys : List (ClassId × FieldType)) (A : Nat → Prop) (r0 : Int32) (w1 : va_W) : Array Value → State → Outcome → State → Prop := va_Qi (fun r (_ : Unit) => r = r0) (g_B D tys A w1) A
def g_Qv (D : va_G) (tys : List (ClassId × FieldType)) (A : Nat → Prop) (w1 : va_W) : Array Value → State → Outcome → State → Prop := va_Qv (fun (_ : Unit) => True) (g_B D tys A w1) A
/-- a contract: an int comes back, the world w has become w1 -/
abbrev Ct_i (l : Launch) (y : MethodName) (ws : List Cond) (rm : Room) (D : va_G) (tys : List (ClassId × FieldType)) (av : List Value) (sz : Nat) (w : va_W) (r0 : Int32) (w1 : va_W) : Prop :=
  Met l y ws rm (g_Pre D tys av sz w) (g_Qi D tys (va_A w sz) r0 w1) 0 0 (va_A w sz)
/-- .. nothing comes back -/
abbrev Ct_v (l : Launch) (y : MethodName) (ws : List Cond) (rm : Room) (D : va_G) (tys : List (ClassId × FieldType)) (av : List Value) (sz : Nat) (w : va_W) (w1 : va_W) : Prop :=
  Met l y ws rm (g_Pre D tys av sz w) (g_Qv D tys (va_A w sz) w1) 0 0 (va_A w sz)
theorem g_blind {D : va_G} {tys : List (ClassId × FieldType)} {av : List Value} {sz : Nat} {w : va_W} : FrameBlind (g_Pre D tys av sz w) := fun a U g mk q => by
  obtain ⟨q0, q1, qP, qK, qD⟩ := q
  exact ⟨q0, q1, qP, va_K.moved (u := U) (U := U.calling g mk a) (Vm.Alike.refl U.vm) qK, qD⟩
theorem g_pre {D : va_G} {tys : List (ClassId × FieldType)} {av : List Value} {w : va_W} {A : Nat → Prop} (hP : va_P D vwCl w H) (hD : va_D A w) (hK : va_K D vwCl tys s) : ∀ U : State, U.heap = H → s.WarmedH U.vm → g_Pre D tys av H.size w av.toArray U :=
  fun U hU hW => ⟨rfl, by rw [hU], by rw [hU]; exact hP, va_K.moved hW.alike hK, hD.weaken (fun _ _ _ _ => trivial)⟩
/-- what a body starts with -/
def g_Body (l : Launch) (ws : List Cond) (own : String) (cc : ByteArray) (maxL : Nat) (ret : Option FieldType) (rm : Room) (D : va_G) (tys : List (ClassId × FieldType)) (av : List Value) (w : va_W) (QQ : (Nat → Prop) → Array Value → State → Outcome → State → Prop) : Prop :=
  ∀ (p : Program) (e : Env) (s : State) (m : MethodId) (args : Array Value) (below : List Frame) (meth : Method) (c : Code) (A : Nat → Prop) (ls : Array Slot),
    CallFix p m c cc maxL s args ws own → meth.sig.returnType = ret → meth.locks = false → (∀ q : Nat, s.heap.size ≤ q → A q) → va_P D vwCl w s.heap → va_K D vwCl tys s → va_D A w → lv_has ls maxL (lv_args 0 av) →
    W p l e rm s m args below meth c s.heap [] 0 0 (MQ below (QQ A) args s 0 0 A) (F0 m 0 ls [])
theorem g_of {y : MethodName} {ws ws' : List Cond} {rm : Room} {D : va_G} {tys : List (ClassId × FieldType)} {av : List Value} {sz : Nat} {w : va_W} {cc : ByteArray} {maxL : Nat} {ret : Option FieldType} {QQ : (Nat → Prop) → Array Value → State → Outcome → State → Prop}
    (hy : plainName y.cls = true) (hw : ws = Cond.code y cc maxL ret :: ws') (hlen : (lg_sl av).length ≤ maxL)
    (body : g_Body l ws y.cls cc maxL ret rm D tys av w QQ) : Met l y ws rm (g_Pre D tys av sz w) (QQ (va_A w sz)) 0 0 (va_A w sz) := by
  refine Met.ofW (cc := cc) (maxL := maxL) (ret := ret) hy hw ?_
  intro p e s m args below meth c s₁ B hml hv
  obtain ⟨rfl, hsz, hP, hK, hD0⟩ := hv
  have hts := atoms_spec (ws := ws) B.pre
  subst hsz
  have hl := lv_entry av (n := maxL) hlen
  rw [lg_entry_eq]
  exact body p e s m av.toArray below meth c (va_A w s.heap.size) _ ⟨B.exec, B.bytes, hml, findClass_of_methodNamed B.named, hts⟩ B.returns B.notSynchronized (fun q h => Or.inr h) hP hK hD0.self hl
theorem g_iret {D : va_G} {tys : List (ClassId × FieldType)} {A : Nat → Prop} {r0 v : Int32} {w1 : va_W} {cc : ByteArray} {pc : Nat} {ls : Array Slot} (hx : p.tables.exec = Jvm.exec) (hb : c.code = cc) (hr : meth.sig.returnType = some .int) (hlocks : meth.locks = false) (hP : va_P D vwCl w1 H) (hD : va_D A w1) (hK : va_K D vwCl tys s) (hS : va_S A s.heap H locs) (hv : v = r0) (hdg : decode cc pc = .ok (.ireturn, 1)) :
    W p l e R s m args below meth c H locs cells slots (MQ below (g_Qi D tys A r0 w1) args s cells slots A) (F0 m pc ls [.int v]) :=
  W.iret hx hb hr (fun t ht hW => ⟨⟨v, (), rfl, hv, by rw [ht]; exact hP, va_K.moved hW.alike hK, hD⟩, hS.F ht⟩) hS.2.2 hdg
theorem g_zret {D : va_G} {tys : List (ClassId × FieldType)} {A : Nat → Prop} {r0 v : Int32} {w1 : va_W} {cc : ByteArray} {pc : Nat} {ls : Array Slot} (hx : p.tables.exec = Jvm.exec) (hb : c.code = cc) (hr : meth.sig.returnType = some .boolean) (hlocks : meth.locks = false) (hP : va_P D vwCl w1 H) (hD : va_D A w1) (hK : va_K D vwCl tys s) (hS : va_S A s.heap H locs) (hv : v = r0) (hn : v = 0 ∨ v = 1) (hdg : decode cc pc = .ok (.ireturn, 1)) :
    W p l e R s m args below meth c H locs cells slots (MQ below (g_Qi D tys A r0 w1) args s cells slots A) (F0 m pc ls [.int v]) :=
  W.zret hx hb hr (nb_n hn) (fun t ht hW => ⟨⟨v, (), rfl, hv, by rw [ht]; exact hP, va_K.moved hW.alike hK, hD⟩, hS.F ht⟩) hS.2.2 hdg
theorem g_vret {D : va_G} {tys : List (ClassId × FieldType)} {A : Nat → Prop} {w1 : va_W} {cc : ByteArray} {pc : Nat} {ls : Array Slot} (hx : p.tables.exec = Jvm.exec) (hb : c.code = cc) (hr : meth.sig.returnType = none) (hlocks : meth.locks = false) (hP : va_P D vwCl w1 H) (hD : va_D A w1) (hK : va_K D vwCl tys s) (hS : va_S A s.heap H locs) (hdg : decode cc pc = .ok (.return_, 1)) :
    W p l e R s m args below meth c H locs cells slots (MQ below (g_Qv D tys A w1) args s cells slots A) (F0 m pc ls []) :=
  W.vret hx hb hr (fun t ht hW => ⟨⟨(), rfl, trivial, by rw [ht]; exact hP, va_K.moved hW.alike hK, hD⟩, hS.F ht⟩) hS.2.2 hdg
section CallRows
variable {y : MethodName} {bytes cc : ByteArray} {maxL nL n index : Nat} {ret : Option FieldType} {ws Ts : List Cond} {rm : Room} {own C : String} {b : Addr} {As rest st0 : List Value} {pc : Nat} {ls : Array Slot} {ww wc w1 : va_W} {A : Nat → Prop} {H0 : Heap} {r0 : Int32} {D : va_G} {tys : List (ClassId × FieldType)}
theorem g_callVi (S : CallFix p m c cc nL s args Ts own) (hM : Met l y ws rm (g_Pre D tys (.ref b :: As) H.size wc) (g_Qi D tys (va_A wc H.size) r0 w1) 0 0 (va_A wc H.size)) (cw : CallW R s args own C index y bytes maxL ret ws rm 0 0 n)
    (hK : va_K D vwCl tys s) (hP : va_P D vwCl ww H) (hD : va_D A ww) (hS : va_S A H0 H locs) (hA : ∀ q, H0.size ≤ q → A q)
    (q0 : Nat) {ci N : Nat} {T : u_T} {fs : List Value} (hqc : vwCl[ci]? = some (C, T, N)) (he : ww[q0]? = some (b, .inr (ci, fs)))
    (isC isR : List Nat) (wr : va_W) (hC : isC.map (fun i => ww[i]?) = wc.map some) (hR : isR.map (fun i => ww[i]?) = wr.map some) (hnC : va_nd isC = true) (hnR : va_nd isR = true) (hdis : ∀ i ∈ isR, i ∉ isC)
    (hAn : As.length = n) (hls : ls.size = nL) (hst : st0 = As.reverse ++ .ref b :: rest) (hW : (rest.map fun v => v.category).sum ≤ 8) (hdg : decode cc pc = .ok (.invokevirtual index, 3)) (hcr : cells ≤ R.cells ∧ slots ≤ R.slots)
    (kk : ∀ (H1 : Heap) (locs1 : List Loc), va_P D vwCl (wr ++ w1) H1 → va_D A (wr ++ w1) → va_S A H0 H1 locs1 → W p l e R s m args below meth c H1 locs1 cells slots Q (F0 m (pc + 3) ls (.int r0 :: rest))) :
    W p l e R s m args below meth c H locs cells slots Q (F0 m pc ls st0) := by
  have hPc := hP.sub (ws' := wc) isC (g_fm hC)
  have hDc := hD.sub (ws' := wc) isC hnC hC
  have hFc := va_free (wc := wc) hD hS hA isC hC
  refine va_calli (va_runV (As := As) (rest := rest) S hM cw ⟨g_blind, va_recv hK hP hqc he, g_pre hPc hDc hK⟩ rfl hAn hls hst (lv_room hW) hdg hcr) hS (fun q _ h => hFc q h) hFc (fun r u t H1 locs ht hvm hw hB hz1 hk1 hS => ?_)
  obtain ⟨hP1, hK1, hD1⟩ := hB
  rw [ht] at hP1
  subst hw
  obtain ⟨hP, hD⟩ := va_join (wr := wr) (w1 := w1) hP hD isC isR hC hR hnR hdis hk1 hFc hP1 hD1
  exact kk H1 locs hP hD hS
theorem g_callVv (S : CallFix p m c cc nL s args Ts own) (hM : Met l y ws rm (g_Pre D tys (.ref b :: As) H.size wc) (g_Qv D tys (va_A wc H.size) w1) 0 0 (va_A wc H.size)) (cw : CallW R s args own C index y bytes maxL ret ws rm 0 0 n)
    (hK : va_K D vwCl tys s) (hP : va_P D vwCl ww H) (hD : va_D A ww) (hS : va_S A H0 H locs) (hA : ∀ q, H0.size ≤ q → A q)
    (q0 : Nat) {ci N : Nat} {T : u_T} {fs : List Value} (hqc : vwCl[ci]? = some (C, T, N)) (he : ww[q0]? = some (b, .inr (ci, fs)))
    (isC isR : List Nat) (wr : va_W) (hC : isC.map (fun i => ww[i]?) = wc.map some) (hR : isR.map (fun i => ww[i]?) = wr.map some) (hnC : va_nd isC = true) (hnR : va_nd isR = true) (hdis : ∀ i ∈ isR, i ∉ isC)
    (hAn : As.length = n) (hls : ls.size = nL) (hst : st0 = As.reverse ++ .ref b :: rest) (hW : (rest.map fun v => v.category).sum ≤ 8) (hdg : decode cc pc = .ok (.invokevirtual index, 3)) (hcr : cells ≤ R.cells ∧ slots ≤ R.slots)
    (kk : ∀ (H1 : Heap) (locs1 : List Loc), va_P D vwCl (wr ++ w1) H1 → va_D A (wr ++ w1) → va_S A H0 H1 locs1 → W p l e R s m args below meth c H1 locs1 cells slots Q (F0 m (pc + 3) ls rest)) :
    W p l e R s m args below meth c H locs cells slots Q (F0 m pc ls st0) := by
  have hPc := hP.sub (ws' := wc) isC (g_fm hC)
  have hDc := hD.sub (ws' := wc) isC hnC hC
  have hFc := va_free (wc := wc) hD hS hA isC hC
  refine va_callv (va_runV (As := As) (rest := rest) S hM cw ⟨g_blind, va_recv hK hP hqc he, g_pre hPc hDc hK⟩ rfl hAn hls hst (lv_room hW) hdg hcr) hS (fun q _ h => hFc q h) hFc (fun u t H1 locs ht hvm hw hB hz1 hk1 hS => ?_)
  obtain ⟨hP1, hK1, hD1⟩ := hB
  rw [ht] at hP1
  obtain ⟨hP, hD⟩ := va_join (wr := wr) (w1 := w1) hP hD isC isR hC hR hnR hdis hk1 hFc hP1 hD1
  exact kk H1 locs hP hD hS
theorem g_callSi (S : CallFix p m c cc nL s args Ts own) (hM : Met l y ws rm (g_Pre D tys As H.size wc) (g_Qi D tys (va_A wc H.size) r0 w1) 0 0 (va_A wc H.size)) (cw : CallB R s args own index y bytes maxL ret ws rm 0 0 n ∧ (Cond.static y).before args s = true)
    (hK : va_K D vwCl tys s) (hP : va_P D vwCl ww H) (hD : va_D A ww) (hS : va_S A H0 H locs) (hA : ∀ q, H0.size ≤ q → A q)
    (isC isR : List Nat) (wr : va_W) (hC : isC.map (fun i => ww[i]?) = wc.map some) (hR : isR.map (fun i => ww[i]?) = wr.map some) (hnC : va_nd isC = true) (hnR : va_nd isR = true) (hdis : ∀ i ∈ isR, i ∉ isC)
    (hAn : As.length = n) (hls : ls.size = nL) (hst : st0 = As.reverse ++ rest) (hW : (rest.map fun v => v.category).sum ≤ 8) (hdg : decode cc pc = .ok (.invokestatic index, 3)) (hcr : cells ≤ R.cells ∧ slots ≤ R.slots)
    (kk : ∀ (H1 : Heap) (locs1 : List Loc), va_P D vwCl (wr ++ w1) H1 → va_D A (wr ++ w1) → va_S A H0 H1 locs1 → W p l e R s m args below meth c H1 locs1 cells slots Q (F0 m (pc + 3) ls (.int r0 :: rest))) :
    W p l e R s m args below meth c H locs cells slots Q (F0 m pc ls st0) := by
  have hPc := hP.sub (ws' := wc) isC (g_fm hC)
  have hDc := hD.sub (ws' := wc) isC hnC hC
  have hFc := va_free (wc := wc) hD hS hA isC hC
  refine va_calli (va_runS (As := As) (rest := rest) S hM cw ⟨g_blind, g_pre hPc hDc hK⟩ rfl hAn hls hst (lv_room hW) hdg hcr) hS (fun q _ h => hFc q h) hFc (fun r u t H1 locs ht hvm hw hB hz1 hk1 hS => ?_)
  obtain ⟨hP1, hK1, hD1⟩ := hB
  rw [ht] at hP1
  subst hw
  obtain ⟨hP, hD⟩ := va_join (wr := wr) (w1 := w1) hP hD isC isR hC hR hnR hdis hk1 hFc hP1 hD1
  exact kk H1 locs hP hD hS
theorem g_callSv (S : CallFix p m c cc nL s args Ts own) (hM : Met l y ws rm (g_Pre D tys As H.size wc) (g_Qv D tys (va_A wc H.size) w1) 0 0 (va_A wc H.size)) (cw : CallB R s args own index y bytes maxL ret ws rm 0 0 n ∧ (Cond.static y).before args s = true)
    (hK : va_K D vwCl tys s) (hP : va_P D vwCl ww H) (hD : va_D A ww) (hS : va_S A H0 H locs) (hA : ∀ q, H0.size ≤ q → A q)
    (isC isR : List Nat) (wr : va_W) (hC : isC.map (fun i => ww[i]?) = wc.map some) (hR : isR.map (fun i => ww[i]?) = wr.map some) (hnC : va_nd isC = true) (hnR : va_nd isR = true) (hdis : ∀ i ∈ isR, i ∉ isC)
    (hAn : As.length = n) (hls : ls.size = nL) (hst : st0 = As.reverse ++ rest) (hW : (rest.map fun v => v.category).sum ≤ 8) (hdg : decode cc pc = .ok (.invokestatic index, 3)) (hcr : cells ≤ R.cells ∧ slots ≤ R.slots)
    (kk : ∀ (H1 : Heap) (locs1 : List Loc), va_P D vwCl (wr ++ w1) H1 → va_D A (wr ++ w1) → va_S A H0 H1 locs1 → W p l e R s m args below meth c H1 locs1 cells slots Q (F0 m (pc + 3) ls rest)) :
    W p l e R s m args below meth c H locs cells slots Q (F0 m pc ls st0) := by
  have hPc := hP.sub (ws' := wc) isC (g_fm hC)
  have hDc := hD.sub (ws' := wc) isC hnC hC
  have hFc := va_free (wc := wc) hD hS hA isC hC
  refine va_callv (va_runS (As := As) (rest := rest) S hM cw ⟨g_blind, g_pre hPc hDc hK⟩ rfl hAn hls hst (lv_room hW) hdg hcr) hS (fun q _ h => hFc q h) hFc (fun u t H1 locs ht hvm hw hB hz1 hk1 hS => ?_)
  obtain ⟨hP1, hK1, hD1⟩ := hB
  rw [ht] at hP1
  obtain ⟨hP, hD⟩ := va_join (wr := wr) (w1 := w1) hP hD isC isR hC hR hnR hdis hk1 hFc hP1 hD1
  exact kk H1 locs hP hD hS
end CallRows
end GB
