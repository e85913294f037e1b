/-! Ends of walks by an equation for the result (no substitution in a large context). -/
section GE
variable {p : Program} {l : Launch} {e : Env} {R : Room} {s : State} {m : MethodId} {args : Array Value} {below : List Frame} {meth : Method} {c : Code} {H : Heap} {locs : List Loc} {cells slots : Nat}
variable {D : va_G} {tys : List (ClassId × FieldType)} {A : Nat → Prop} {cc : ByteArray} {pc : Nat} {ls : Array Slot} {ρ : Type} {res v0 : ρ}
theorem e_iret (wf : ρ → va_W) (rf : ρ → Int32) (hf : v0 = res) (hx : p.tables.exec = Jvm.exec) (hb : c.code = cc) (hr : meth.sig.returnType = some .int) (hlocks : meth.locks = false) (hP : va_P D vwCl (wf v0) H) (hD : va_D A (wf v0)) (hK : va_K D vwCl tys s) (hS : va_S A s.heap H locs) (hdg : decode cc pc = .ok (.ireturn, 1)) :
    W p l e R s m args below meth c H locs cells slots (MQ below (g_Qi D tys A (rf res) (wf res)) args s cells slots A) (F0 m pc ls [.int (rf v0)]) := by
  subst hf
  exact g_iret hx hb hr hlocks hP hD hK hS rfl hdg
theorem e_zret (wf : ρ → va_W) (rf : ρ → Int32) (hf : v0 = res) (hx : p.tables.exec = Jvm.exec) (hb : c.code = cc) (hr : meth.sig.returnType = some .boolean) (hlocks : meth.locks = false) (hP : va_P D vwCl (wf v0) H) (hD : va_D A (wf v0)) (hK : va_K D vwCl tys s) (hS : va_S A s.heap H locs) (hn : rf v0 = 0 ∨ rf v0 = 1) (hdg : decode cc pc = .ok (.ireturn, 1)) :
    W p l e R s m args below meth c H locs cells slots (MQ below (g_Qi D tys A (rf res) (wf res)) args s cells slots A) (F0 m pc ls [.int (rf v0)]) := by
  subst hf
  exact g_zret hx hb hr hlocks hP hD hK hS rfl hn hdg
theorem e_vret (wf : ρ → va_W) (hf : v0 = res) (hx : p.tables.exec = Jvm.exec) (hb : c.code = cc) (hr : meth.sig.returnType = none) (hlocks : meth.locks = false) (hP : va_P D vwCl (wf v0) H) (hD : va_D A (wf v0)) (hK : va_K D vwCl tys s) (hS : va_S A s.heap H locs) (hdg : decode cc pc = .ok (.return_, 1)) :
    W p l e R s m args below meth c H locs cells slots (MQ below (g_Qv D tys A (wf res)) args s cells slots A) (F0 m pc ls []) := by
  subst hf
  exact g_vret hx hb hr hlocks hP hD hK hS hdg
end GE
