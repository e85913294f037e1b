def f_X4_answerCall   (f0_trace : (Nat → Int32)) (v0_traceCount : Int32) (x1 : Int32) : Option (Int32 × (Nat → Int32) × Int32) := gd v0_traceCount 16 (some ((((3 : Int32) * x1) + (v0_traceCount + (1 : Int32))), (upd f0_trace (v0_traceCount).toNatClampNeg x1), (v0_traceCount + (1 : Int32))))
theorem iw_X4_answerCall_X4 : ∀ w ∈ wsX40, w ∈ wsX4_answerCall := by decide +kernel
set_option maxHeartbeats 4000000 in
set_option maxRecDepth 100000 in
theorem c_X4_answerCall (l : Launch) (D : va_G) (cI cZ : ClassId) (h0 h0_beginning h0_memory h0_trace h0_registers h0_slots : Nat) (sz : Nat)  (f0_trace : Nat → Int32) (v0_traceCount v0_done v0_ending v0_returned : Int32)  (x1 : Int32) (res : (Int32 × (Nat → Int32) × Int32)) (hf : f_X4_answerCall f0_trace v0_traceCount x1 = some res) : Ct_i l yX4_answerCall wsX4_answerCall ({ frames := 0, cells := 0, slots := 0, locals := 0 }) D [(cI, .int), (cZ, .boolean)] [.ref h0, .int x1] sz [(h0, .inr (3, [.ref h0_beginning, .ref h0_memory, .ref h0_trace, .int v0_traceCount, .int v0_done, .int v0_ending, .int v0_returned, .ref h0_registers, .ref h0_slots])), (h0_trace, .inl (cI, 16, .inl f0_trace))] res.1 [(h0, .inr (3, [.ref h0_beginning, .ref h0_memory, .ref h0_trace, .int res.2.2, .int v0_done, .int v0_ending, .int v0_returned, .ref h0_registers, .ref h0_slots])), (h0_trace, .inl (cI, 16, .inl res.2.1))] := by
  refine g_of (cc := cX4_answerCall) (maxL := 2) (ret := some .int) (QQ := (fun A => g_Qi D [(cI, .int), (cZ, .boolean)] A res.1 [(h0, .inr (3, [.ref h0_beginning, .ref h0_memory, .ref h0_trace, .int res.2.2, .int v0_done, .int v0_ending, .int v0_returned, .ref h0_registers, .ref h0_slots])), (h0_trace, .inl (cI, 16, .inl res.2.1))])) (by decide) rfl (Nat.le_of_ble_eq_true rfl) ?_
  intro p e s m args below meth c A ls S hr hlocks hA hP hK hD hl
  show W p l e ({ frames := 0, cells := 0, slots := 0, locals := 0 }) s m args below meth c s.heap [] 0 0 (MQ below (g_Qi D [(cI, .int), (cZ, .boolean)] A res.1 [(h0, .inr (3, [.ref h0_beginning, .ref h0_memory, .ref h0_trace, .int res.2.2, .int v0_done, .int v0_ending, .int v0_returned, .ref h0_registers, .ref h0_slots])), (h0_trace, .inl (cI, 16, .inl res.2.1))]) args s 0 0 A) (F0 m 0 ls [])
  have hx := S.1
  have hb := S.2.1
  have hml := S.2.2.1
  have hown := S.2.2.2.1
  have hts := S.2.2.2.2
  have fl_18 := hts (.fieldLink RX4 18 "PassPipeline$Machine" "trace" "[I") (by decide +kernel)
  have fl_21 := hts (.fieldLink RX4 21 "PassPipeline$Machine" "traceCount" "I") (by decide +kernel)
  have hS : va_S A s.heap s.heap [] := va_S.rf
  have hl : lv_has ls 2 [(0, .ref h0), (1, .int x1)] := hl
  unfold f_X4_answerCall at hf
  refine lv_aload_n hx hb dX4_answerCall_0 rfl (lv_at hl 0 rfl) ?_
  refine va_get (D := D) (ci := 3) (v := .ref h0_trace) (C := RX4) (T := TX4) (N := 9) hx hb hts iw_X4_answerCall_X4 hown hK hP 0 rfl rfl 2 (by decide) fl_18 (fun _ h9 => h9) rfl dX4_answerCall_1 ?_
  refine lv_aload_n hx hb dX4_answerCall_4 rfl (lv_at hl 0 rfl) ?_
  refine va_get (D := D) (ci := 3) (v := .int v0_traceCount) (C := RX4) (T := TX4) (N := 9) hx hb hts iw_X4_answerCall_X4 hown hK hP 0 rfl rfl 3 (by decide) fl_21 (fun _ h9 => h9) rfl dX4_answerCall_5 ?_
  refine lv_iload_n hx hb dX4_answerCall_8 rfl (lv_at hl 1 rfl) ?_
  obtain ⟨i1, hf⟩ := gd_some hf
  refine va_iast hx hb hK hP hD hS 1 0 rfl rfl i1 dX4_answerCall_9 (fun H locs hP hD hS => ?_)
  have hP : va_P D vwCl [(h0, .inr (3, [.ref h0_beginning, .ref h0_memory, .ref h0_trace, .int v0_traceCount, .int v0_done, .int v0_ending, .int v0_returned, .ref h0_registers, .ref h0_slots])), (h0_trace, .inl (cI, 16, .inl (upd f0_trace (v0_traceCount).toNatClampNeg x1)))] H := hP
  have hD : va_D A [(h0, .inr (3, [.ref h0_beginning, .ref h0_memory, .ref h0_trace, .int v0_traceCount, .int v0_done, .int v0_ending, .int v0_returned, .ref h0_registers, .ref h0_slots])), (h0_trace, .inl (cI, 16, .inl (upd f0_trace (v0_traceCount).toNatClampNeg x1)))] := hD
  refine lv_aload_n hx hb dX4_answerCall_10 rfl (lv_at hl 0 rfl) ?_
  refine lv_dup hx hb dX4_answerCall_11 rfl ?_
  refine va_get (D := D) (ci := 3) (v := .int v0_traceCount) (C := RX4) (T := TX4) (N := 9) hx hb hts iw_X4_answerCall_X4 hown hK hP 0 rfl rfl 3 (by decide) fl_21 (fun _ h9 => h9) rfl dX4_answerCall_12 ?_
  refine lv_iconst (v := (1 : Int32)) hx hb dX4_answerCall_15 (by decide) ?_
  refine lv_iadd hx hb dX4_answerCall_16 ?_
  refine va_put (D := D) (ci := 3) (v := .int (v0_traceCount + (1 : Int32))) (ty := .int) (C := RX4) (T := TX4) (N := 9) hx hb hts iw_X4_answerCall_X4 tyX4 tyX4_ok nmX4 hown hK hP hD hS 0 rfl rfl 3 (by decide) fl_21 (fun _ h9 => h9) rfl (by decide +kernel) rfl rfl (Nat.le_of_ble_eq_true rfl) dX4_answerCall_17 (fun H locs hP hD hS => ?_)
  have hP : va_P D vwCl [(h0, .inr (3, [.ref h0_beginning, .ref h0_memory, .ref h0_trace, .int (v0_traceCount + (1 : Int32)), .int v0_done, .int v0_ending, .int v0_returned, .ref h0_registers, .ref h0_slots])), (h0_trace, .inl (cI, 16, .inl (upd f0_trace (v0_traceCount).toNatClampNeg x1)))] H := hP
  have hD : va_D A [(h0, .inr (3, [.ref h0_beginning, .ref h0_memory, .ref h0_trace, .int (v0_traceCount + (1 : Int32)), .int v0_done, .int v0_ending, .int v0_returned, .ref h0_registers, .ref h0_slots])), (h0_trace, .inl (cI, 16, .inl (upd f0_trace (v0_traceCount).toNatClampNeg x1)))] := hD
  refine lv_iconst (v := (3 : Int32)) hx hb dX4_answerCall_20 (by decide) ?_
  refine lv_iload_n hx hb dX4_answerCall_21 rfl (lv_at hl 1 rfl) ?_
  refine lv_imul hx hb dX4_answerCall_22 ?_
  refine lv_aload_n hx hb dX4_answerCall_23 rfl (lv_at hl 0 rfl) ?_
  refine va_get (D := D) (ci := 3) (v := .int (v0_traceCount + (1 : Int32))) (C := RX4) (T := TX4) (N := 9) hx hb hts iw_X4_answerCall_X4 hown hK hP 0 rfl rfl 3 (by decide) fl_21 (fun _ h9 => h9) rfl dX4_answerCall_24 ?_
  refine lv_iadd hx hb dX4_answerCall_27 ?_
  have hf := Option.some.inj hf
  subst hf
  exact g_iret hx hb hr hlocks (hP.sub [0, 1] rfl) (hD.sub [0, 1] (by decide) rfl) hK hS rfl dX4_answerCall_28

def f_X4_change   (f0_memory : (Nat → Int32)) (f0_registers : (Nat → Int32)) (f0_slots : (Nat → Int32)) (f0_trace : (Nat → Int32)) (v0_traceCount : Int32) (x1 x2 x3 x4 : Int32) : Option ((Nat → Int32) × (Nat → Int32) × (Nat → Int32) × (Nat → Int32) × Int32) := if x1 = (1 : Int32) then (gd x2 8 (some (f0_memory, (upd f0_registers (x2).toNatClampNeg x3), f0_slots, f0_trace, v0_traceCount))) else if x1 = (2 : Int32) then (gd x3 8 (gd x2 8 (some (f0_memory, (upd f0_registers (x2).toNatClampNeg (f0_registers (x3).toNatClampNeg)), f0_slots, f0_trace, v0_traceCount)))) else if x1 = (3 : Int32) then (gd x3 8 (gd x4 8 ((f_X2_compute x1 (f0_registers (x3).toNatClampNeg) (f0_registers (x4).toNatClampNeg)).bind (fun u11 => gd x2 8 (some (f0_memory, (upd f0_registers (x2).toNatClampNeg u11), f0_slots, f0_trace, v0_traceCount)))))) else if x1 = (4 : Int32) then (gd x3 8 (gd x4 8 ((f_X2_compute x1 (f0_registers (x3).toNatClampNeg) (f0_registers (x4).toNatClampNeg)).bind (fun u18 => gd x2 8 (some (f0_memory, (upd f0_registers (x2).toNatClampNeg u18), f0_slots, f0_trace, v0_traceCount)))))) else if x1 = (5 : Int32) then (gd x3 8 (gd x4 8 ((f_X2_compute x1 (f0_registers (x3).toNatClampNeg) (f0_registers (x4).toNatClampNeg)).bind (fun u25 => gd x2 8 (some (f0_memory, (upd f0_registers (x2).toNatClampNeg u25), f0_slots, f0_trace, v0_traceCount)))))) else if x1 = (6 : Int32) then (gd x3 8 (gd x4 8 ((f_X2_compute x1 (f0_registers (x3).toNatClampNeg) (f0_registers (x4).toNatClampNeg)).bind (fun u32 => gd x2 8 (some (f0_memory, (upd f0_registers (x2).toNatClampNeg u32), f0_slots, f0_trace, v0_traceCount)))))) else if x1 = (7 : Int32) then (gd x3 8 (gd (f0_registers (x3).toNatClampNeg) 8 (gd x2 8 (some (f0_memory, (upd f0_registers (x2).toNatClampNeg (f0_memory ((f0_registers (x3).toNatClampNeg)).toNatClampNeg)), f0_slots, f0_trace, v0_traceCount))))) else if x1 = (8 : Int32) then (gd x3 8 (gd x4 8 (gd (f0_registers (x3).toNatClampNeg) 8 (some ((upd f0_memory ((f0_registers (x3).toNatClampNeg)).toNatClampNeg (f0_registers (x4).toNatClampNeg)), f0_registers, f0_slots, f0_trace, v0_traceCount))))) else if x1 = (9 : Int32) then (some (f0_memory, f0_registers, f0_slots, f0_trace, v0_traceCount)) else if x1 = (10 : Int32) then (some (f0_memory, f0_registers, f0_slots, f0_trace, v0_traceCount)) else if x1 = (11 : Int32) then (gd x3 8 ((f_X4_answerCall f0_trace v0_traceCount (f0_registers (x3).toNatClampNeg)).bind (fun u52 => gd x2 8 (some (f0_memory, (upd f0_registers (x2).toNatClampNeg u52.1), f0_slots, u52.2.1, u52.2.2))))) else if x1 = (12 : Int32) then (some (f0_memory, f0_registers, f0_slots, f0_trace, v0_traceCount)) else if x1 = (13 : Int32) then (gd x3 8 (gd x2 8 (some (f0_memory, (upd f0_registers (x2).toNatClampNeg (f0_slots (x3).toNatClampNeg)), f0_slots, f0_trace, v0_traceCount)))) else if x1 = (14 : Int32) then (gd x3 8 (gd x4 8 (some (f0_memory, f0_registers, (upd f0_slots (x4).toNatClampNeg (f0_registers (x3).toNatClampNeg)), f0_trace, v0_traceCount)))) else (some (f0_memory, f0_registers, f0_slots, f0_trace, v0_traceCount))
theorem iw_X4_change_X4 : ∀ w ∈ wsX40, w ∈ wsX4_change := by decide +kernel
set_option maxHeartbeats 4000000 in
set_option maxRecDepth 100000 in
theorem c_X4_change (l : Launch) (D : va_G) (cI cZ : ClassId) (h0 h0_beginning h0_memory h0_trace h0_registers h0_slots : Nat) (sz : Nat)  (f0_memory f0_registers f0_slots f0_trace : Nat → Int32) (v0_traceCount v0_done v0_ending v0_returned : Int32)  (x1 x2 x3 x4 : Int32) (res : ((Nat → Int32) × (Nat → Int32) × (Nat → Int32) × (Nat → Int32) × Int32)) (hf : f_X4_change f0_memory f0_registers f0_slots f0_trace v0_traceCount x1 x2 x3 x4 = some res) : Ct_v l yX4_change wsX4_change ({ frames := 1, cells := 0, slots := 0, locals := 22 }) D [(cI, .int), (cZ, .boolean)] [.ref h0, .int x1, .int x2, .int x3, .int x4] sz [(h0, .inr (3, [.ref h0_beginning, .ref h0_memory, .ref h0_trace, .int v0_traceCount, .int v0_done, .int v0_ending, .int v0_returned, .ref h0_registers, .ref h0_slots])), (h0_memory, .inl (cI, 8, .inl f0_memory)), (h0_registers, .inl (cI, 8, .inl f0_registers)), (h0_slots, .inl (cI, 8, .inl f0_slots)), (h0_trace, .inl (cI, 16, .inl f0_trace))] [(h0, .inr (3, [.ref h0_beginning, .ref h0_memory, .ref h0_trace, .int res.2.2.2.2, .int v0_done, .int v0_ending, .int v0_returned, .ref h0_registers, .ref h0_slots])), (h0_memory, .inl (cI, 8, .inl res.1)), (h0_registers, .inl (cI, 8, .inl res.2.1)), (h0_slots, .inl (cI, 8, .inl res.2.2.1)), (h0_trace, .inl (cI, 16, .inl res.2.2.2.1))] := by
  refine g_of (cc := cX4_change) (maxL := 5) (ret := none) (QQ := (fun A => g_Qv D [(cI, .int), (cZ, .boolean)] A [(h0, .inr (3, [.ref h0_beginning, .ref h0_memory, .ref h0_trace, .int res.2.2.2.2, .int v0_done, .int v0_ending, .int v0_returned, .ref h0_registers, .ref h0_slots])), (h0_memory, .inl (cI, 8, .inl res.1)), (h0_registers, .inl (cI, 8, .inl res.2.1)), (h0_slots, .inl (cI, 8, .inl res.2.2.1)), (h0_trace, .inl (cI, 16, .inl res.2.2.2.1))])) (by decide) rfl (Nat.le_of_ble_eq_true rfl) ?_
  intro p e s m args below meth c A ls S hr hlocks hA hP hK hD hl
  show W p l e ({ frames := 1, cells := 0, slots := 0, locals := 22 }) s m args below meth c s.heap [] 0 0 (MQ below (g_Qv D [(cI, .int), (cZ, .boolean)] A [(h0, .inr (3, [.ref h0_beginning, .ref h0_memory, .ref h0_trace, .int res.2.2.2.2, .int v0_done, .int v0_ending, .int v0_returned, .ref h0_registers, .ref h0_slots])), (h0_memory, .inl (cI, 8, .inl res.1)), (h0_registers, .inl (cI, 8, .inl res.2.1)), (h0_slots, .inl (cI, 8, .inl res.2.2.1)), (h0_trace, .inl (cI, 16, .inl res.2.2.2.1))]) args s 0 0 A) (F0 m 0 ls [])
  have hx := S.1
  have hb := S.2.1
  have hml := S.2.2.1
  have hown := S.2.2.2.1
  have hts := S.2.2.2.2
  have fl_15 := hts (.fieldLink RX4 15 "PassPipeline$Machine" "memory" "[I") (by decide +kernel)
  have fl_34 := hts (.fieldLink RX4 34 "PassPipeline$Machine" "registers" "[I") (by decide +kernel)
  have fl_37 := hts (.fieldLink RX4 37 "PassPipeline$Machine" "slots" "[I") (by decide +kernel)
  have hS : va_S A s.heap s.heap [] := va_S.rf
  have hl : lv_has ls 5 [(0, .ref h0), (1, .int x1), (2, .int x2), (3, .int x3), (4, .int x4)] := hl
  unfold f_X4_change at hf
  refine lv_iload_n hx hb dX4_change_0 rfl (lv_at hl 1 rfl) ?_
  by_cases c1 : x1 = (1 : Int32)
  · have hf := ite_t hf c1
    have e3 := sw_eq (k := 1) c1 (by decide)
    refine lv_tableIn (tgt := 72) (off := 71) hx hb dX4_change_1 (by rw [e3]; decide) (by rw [e3]; decide) (by rw [e3]; rfl) (by decide) ?_
    refine lv_aload_n hx hb dX4_change_72 rfl (lv_at hl 0 rfl) ?_
    refine va_get (D := D) (ci := 3) (v := .ref h0_registers) (C := RX4) (T := TX4) (N := 9) hx hb hts iw_X4_change_X4 hown hK hP 0 rfl rfl 7 (by decide) fl_34 (fun _ h9 => h9) rfl dX4_change_73 ?_
    refine lv_iload_n hx hb dX4_change_76 rfl (lv_at hl 2 rfl) ?_
    refine lv_iload_n hx hb dX4_change_77 rfl (lv_at hl 3 rfl) ?_
    obtain ⟨i2, hf⟩ := gd_some hf
    refine va_iast hx hb hK hP hD hS 2 0 rfl rfl i2 dX4_change_78 (fun H locs hP hD hS => ?_)
    have hP : va_P D vwCl [(h0, .inr (3, [.ref h0_beginning, .ref h0_memory, .ref h0_trace, .int v0_traceCount, .int v0_done, .int v0_ending, .int v0_returned, .ref h0_registers, .ref h0_slots])), (h0_memory, .inl (cI, 8, .inl f0_memory)), (h0_registers, .inl (cI, 8, .inl (upd f0_registers (x2).toNatClampNeg x3))), (h0_slots, .inl (cI, 8, .inl f0_slots)), (h0_trace, .inl (cI, 16, .inl f0_trace))] H := hP
    have hD : va_D A [(h0, .inr (3, [.ref h0_beginning, .ref h0_memory, .ref h0_trace, .int v0_traceCount, .int v0_done, .int v0_ending, .int v0_returned, .ref h0_registers, .ref h0_slots])), (h0_memory, .inl (cI, 8, .inl f0_memory)), (h0_registers, .inl (cI, 8, .inl (upd f0_registers (x2).toNatClampNeg x3))), (h0_slots, .inl (cI, 8, .inl f0_slots)), (h0_trace, .inl (cI, 16, .inl f0_trace))] := hD
    refine lv_goto (tgt := 214) hx hb dX4_change_79 (by decide) ?_
    have hf := Option.some.inj hf
    subst hf
    exact g_vret hx hb hr hlocks (hP.sub [0, 1, 2, 3, 4] rfl) (hD.sub [0, 1, 2, 3, 4] (by decide) rfl) hK hS dX4_change_214
  have hf := ite_e hf c1
  by_cases c4 : x1 = (2 : Int32)
  · have hf := ite_t hf c4
    have e7 := sw_eq (k := 2) c4 (by decide)
    refine lv_tableIn (tgt := 82) (off := 81) hx hb dX4_change_1 (by rw [e7]; decide) (by rw [e7]; decide) (by rw [e7]; rfl) (by decide) ?_
    refine lv_aload_n hx hb dX4_change_82 rfl (lv_at hl 0 rfl) ?_
    refine va_get (D := D) (ci := 3) (v := .ref h0_registers) (C := RX4) (T := TX4) (N := 9) hx hb hts iw_X4_change_X4 hown hK hP 0 rfl rfl 7 (by decide) fl_34 (fun _ h9 => h9) rfl dX4_change_83 ?_
    refine lv_iload_n hx hb dX4_change_86 rfl (lv_at hl 2 rfl) ?_
    refine lv_aload_n hx hb dX4_change_87 rfl (lv_at hl 0 rfl) ?_
    refine va_get (D := D) (ci := 3) (v := .ref h0_registers) (C := RX4) (T := TX4) (N := 9) hx hb hts iw_X4_change_X4 hown hK hP 0 rfl rfl 7 (by decide) fl_34 (fun _ h9 => h9) rfl dX4_change_88 ?_
    refine lv_iload_n hx hb dX4_change_91 rfl (lv_at hl 3 rfl) ?_
    obtain ⟨i5, hf⟩ := gd_some hf
    refine va_iald hx hb hK hP 2 0 rfl rfl i5 dX4_change_92 ?_
    obtain ⟨i6, hf⟩ := gd_some hf
    refine va_iast hx hb hK hP hD hS 2 0 rfl rfl i6 dX4_change_93 (fun H locs hP hD hS => ?_)
    have hP : va_P D vwCl [(h0, .inr (3, [.ref h0_beginning, .ref h0_memory, .ref h0_trace, .int v0_traceCount, .int v0_done, .int v0_ending, .int v0_returned, .ref h0_registers, .ref h0_slots])), (h0_memory, .inl (cI, 8, .inl f0_memory)), (h0_registers, .inl (cI, 8, .inl (upd f0_registers (x2).toNatClampNeg (f0_registers (x3).toNatClampNeg)))), (h0_slots, .inl (cI, 8, .inl f0_slots)), (h0_trace, .inl (cI, 16, .inl f0_trace))] H := hP
    have hD : va_D A [(h0, .inr (3, [.ref h0_beginning, .ref h0_memory, .ref h0_trace, .int v0_traceCount, .int v0_done, .int v0_ending, .int v0_returned, .ref h0_registers, .ref h0_slots])), (h0_memory, .inl (cI, 8, .inl f0_memory)), (h0_registers, .inl (cI, 8, .inl (upd f0_registers (x2).toNatClampNeg (f0_registers (x3).toNatClampNeg)))), (h0_slots, .inl (cI, 8, .inl f0_slots)), (h0_trace, .inl (cI, 16, .inl f0_trace))] := hD
    refine lv_goto (tgt := 214) hx hb dX4_change_94 (by decide) ?_
    have hf := Option.some.inj hf
    subst hf
    exact g_vret hx hb hr hlocks (hP.sub [0, 1, 2, 3, 4] rfl) (hD.sub [0, 1, 2, 3, 4] (by decide) rfl) hK hS dX4_change_214
  have hf := ite_e hf c4
  by_cases c8 : x1 = (3 : Int32)
  · have hf := ite_t hf c8
    have e14 := sw_eq (k := 3) c8 (by decide)
    refine lv_tableIn (tgt := 97) (off := 96) hx hb dX4_change_1 (by rw [e14]; decide) (by rw [e14]; decide) (by rw [e14]; rfl) (by decide) ?_
    refine lv_aload_n hx hb dX4_change_97 rfl (lv_at hl 0 rfl) ?_
    refine va_get (D := D) (ci := 3) (v := .ref h0_registers) (C := RX4) (T := TX4) (N := 9) hx hb hts iw_X4_change_X4 hown hK hP 0 rfl rfl 7 (by decide) fl_34 (fun _ h9 => h9) rfl dX4_change_98 ?_
    refine lv_iload_n hx hb dX4_change_101 rfl (lv_at hl 2 rfl) ?_
    refine lv_iload_n hx hb dX4_change_102 rfl (lv_at hl 1 rfl) ?_
    refine lv_aload_n hx hb dX4_change_103 rfl (lv_at hl 0 rfl) ?_
    refine va_get (D := D) (ci := 3) (v := .ref h0_registers) (C := RX4) (T := TX4) (N := 9) hx hb hts iw_X4_change_X4 hown hK hP 0 rfl rfl 7 (by decide) fl_34 (fun _ h9 => h9) rfl dX4_change_104 ?_
    refine lv_iload_n hx hb dX4_change_107 rfl (lv_at hl 3 rfl) ?_
    obtain ⟨i9, hf⟩ := gd_some hf
    refine va_iald hx hb hK hP 2 0 rfl rfl i9 dX4_change_108 ?_
    refine lv_aload_n hx hb dX4_change_109 rfl (lv_at hl 0 rfl) ?_
    refine va_get (D := D) (ci := 3) (v := .ref h0_registers) (C := RX4) (T := TX4) (N := 9) hx hb hts iw_X4_change_X4 hown hK hP 0 rfl rfl 7 (by decide) fl_34 (fun _ h9 => h9) rfl dX4_change_110 ?_
    refine lv_iload hx hb dX4_change_113 (lv_at hl 4 rfl) ?_
    obtain ⟨i10, hf⟩ := gd_some hf
    refine va_iald hx hb hK hP 2 0 rfl rfl i10 dX4_change_115 ?_
    obtain ⟨u11, g12, hf⟩ := bd_some hf
    refine g_callSi S (c_X2_compute l D cI cZ _ x1 (f0_registers (x3).toNatClampNeg) (f0_registers (x4).toNatClampNeg) u11 g12) (va_cwS 3 hts gX4_change_X2_compute rfl rfl rfl (by decide +kernel) ⟨Nat.le_of_ble_eq_true rfl, Nat.le_of_ble_eq_true rfl⟩) hK hP hD hS hA [] [0, 1, 2, 3, 4] [(h0, .inr (3, [.ref h0_beginning, .ref h0_memory, .ref h0_trace, .int v0_traceCount, .int v0_done, .int v0_ending, .int v0_returned, .ref h0_registers, .ref h0_slots])), (h0_memory, .inl (cI, 8, .inl f0_memory)), (h0_registers, .inl (cI, 8, .inl f0_registers)), (h0_slots, .inl (cI, 8, .inl f0_slots)), (h0_trace, .inl (cI, 16, .inl f0_trace))] rfl rfl (by decide) (by decide) (by decide) rfl hl.1 rfl (Nat.le_of_ble_eq_true rfl) dX4_change_116 ⟨Nat.le_of_ble_eq_true rfl, Nat.le_of_ble_eq_true rfl⟩ (fun H locs hP hD hS => ?_)
    have hP : va_P D vwCl [(h0, .inr (3, [.ref h0_beginning, .ref h0_memory, .ref h0_trace, .int v0_traceCount, .int v0_done, .int v0_ending, .int v0_returned, .ref h0_registers, .ref h0_slots])), (h0_memory, .inl (cI, 8, .inl f0_memory)), (h0_registers, .inl (cI, 8, .inl f0_registers)), (h0_slots, .inl (cI, 8, .inl f0_slots)), (h0_trace, .inl (cI, 16, .inl f0_trace))] H := hP
    have hD : va_D A [(h0, .inr (3, [.ref h0_beginning, .ref h0_memory, .ref h0_trace, .int v0_traceCount, .int v0_done, .int v0_ending, .int v0_returned, .ref h0_registers, .ref h0_slots])), (h0_memory, .inl (cI, 8, .inl f0_memory)), (h0_registers, .inl (cI, 8, .inl f0_registers)), (h0_slots, .inl (cI, 8, .inl f0_slots)), (h0_trace, .inl (cI, 16, .inl f0_trace))] := hD
    obtain ⟨i13, hf⟩ := gd_some hf
    refine va_iast hx hb hK hP hD hS 2 0 rfl rfl i13 dX4_change_119 (fun H locs hP hD hS => ?_)
    have hP : va_P D vwCl [(h0, .inr (3, [.ref h0_beginning, .ref h0_memory, .ref h0_trace, .int v0_traceCount, .int v0_done, .int v0_ending, .int v0_returned, .ref h0_registers, .ref h0_slots])), (h0_memory, .inl (cI, 8, .inl f0_memory)), (h0_registers, .inl (cI, 8, .inl (upd f0_registers (x2).toNatClampNeg u11))), (h0_slots, .inl (cI, 8, .inl f0_slots)), (h0_trace, .inl (cI, 16, .inl f0_trace))] H := hP
    have hD : va_D A [(h0, .inr (3, [.ref h0_beginning, .ref h0_memory, .ref h0_trace, .int v0_traceCount, .int v0_done, .int v0_ending, .int v0_returned, .ref h0_registers, .ref h0_slots])), (h0_memory, .inl (cI, 8, .inl f0_memory)), (h0_registers, .inl (cI, 8, .inl (upd f0_registers (x2).toNatClampNeg u11))), (h0_slots, .inl (cI, 8, .inl f0_slots)), (h0_trace, .inl (cI, 16, .inl f0_trace))] := hD
    refine lv_goto (tgt := 214) hx hb dX4_change_120 (by decide) ?_
    have hf := Option.some.inj hf
    subst hf
    exact g_vret hx hb hr hlocks (hP.sub [0, 1, 2, 3, 4] rfl) (hD.sub [0, 1, 2, 3, 4] (by decide) rfl) hK hS dX4_change_214
  have hf := ite_e hf c8
  by_cases c15 : x1 = (4 : Int32)
  · have hf := ite_t hf c15
    have e21 := sw_eq (k := 4) c15 (by decide)
    refine lv_tableIn (tgt := 97) (off := 96) hx hb dX4_change_1 (by rw [e21]; decide) (by rw [e21]; decide) (by rw [e21]; rfl) (by decide) ?_
    refine lv_aload_n hx hb dX4_change_97 rfl (lv_at hl 0 rfl) ?_
    refine va_get (D := D) (ci := 3) (v := .ref h0_registers) (C := RX4) (T := TX4) (N := 9) hx hb hts iw_X4_change_X4 hown hK hP 0 rfl rfl 7 (by decide) fl_34 (fun _ h9 => h9) rfl dX4_change_98 ?_
    refine lv_iload_n hx hb dX4_change_101 rfl (lv_at hl 2 rfl) ?_
    refine lv_iload_n hx hb dX4_change_102 rfl (lv_at hl 1 rfl) ?_
    refine lv_aload_n hx hb dX4_change_103 rfl (lv_at hl 0 rfl) ?_
    refine va_get (D := D) (ci := 3) (v := .ref h0_registers) (C := RX4) (T := TX4) (N := 9) hx hb hts iw_X4_change_X4 hown hK hP 0 rfl rfl 7 (by decide) fl_34 (fun _ h9 => h9) rfl dX4_change_104 ?_
    refine lv_iload_n hx hb dX4_change_107 rfl (lv_at hl 3 rfl) ?_
    obtain ⟨i16, hf⟩ := gd_some hf
    refine va_iald hx hb hK hP 2 0 rfl rfl i16 dX4_change_108 ?_
    refine lv_aload_n hx hb dX4_change_109 rfl (lv_at hl 0 rfl) ?_
    refine va_get (D := D) (ci := 3) (v := .ref h0_registers) (C := RX4) (T := TX4) (N := 9) hx hb hts iw_X4_change_X4 hown hK hP 0 rfl rfl 7 (by decide) fl_34 (fun _ h9 => h9) rfl dX4_change_110 ?_
    refine lv_iload hx hb dX4_change_113 (lv_at hl 4 rfl) ?_
    obtain ⟨i17, hf⟩ := gd_some hf
    refine va_iald hx hb hK hP 2 0 rfl rfl i17 dX4_change_115 ?_
    obtain ⟨u18, g19, hf⟩ := bd_some hf
    refine g_callSi S (c_X2_compute l D cI cZ _ x1 (f0_registers (x3).toNatClampNeg) (f0_registers (x4).toNatClampNeg) u18 g19) (va_cwS 3 hts gX4_change_X2_compute rfl rfl rfl (by decide +kernel) ⟨Nat.le_of_ble_eq_true rfl, Nat.le_of_ble_eq_true rfl⟩) hK hP hD hS hA [] [0, 1, 2, 3, 4] [(h0, .inr (3, [.ref h0_beginning, .ref h0_memory, .ref h0_trace, .int v0_traceCount, .int v0_done, .int v0_ending, .int v0_returned, .ref h0_registers, .ref h0_slots])), (h0_memory, .inl (cI, 8, .inl f0_memory)), (h0_registers, .inl (cI, 8, .inl f0_registers)), (h0_slots, .inl (cI, 8, .inl f0_slots)), (h0_trace, .inl (cI, 16, .inl f0_trace))] rfl rfl (by decide) (by decide) (by decide) rfl hl.1 rfl (Nat.le_of_ble_eq_true rfl) dX4_change_116 ⟨Nat.le_of_ble_eq_true rfl, Nat.le_of_ble_eq_true rfl⟩ (fun H locs hP hD hS => ?_)
    have hP : va_P D vwCl [(h0, .inr (3, [.ref h0_beginning, .ref h0_memory, .ref h0_trace, .int v0_traceCount, .int v0_done, .int v0_ending, .int v0_returned, .ref h0_registers, .ref h0_slots])), (h0_memory, .inl (cI, 8, .inl f0_memory)), (h0_registers, .inl (cI, 8, .inl f0_registers)), (h0_slots, .inl (cI, 8, .inl f0_slots)), (h0_trace, .inl (cI, 16, .inl f0_trace))] H := hP
    have hD : va_D A [(h0, .inr (3, [.ref h0_beginning, .ref h0_memory, .ref h0_trace, .int v0_traceCount, .int v0_done, .int v0_ending, .int v0_returned, .ref h0_registers, .ref h0_slots])), (h0_memory, .inl (cI, 8, .inl f0_memory)), (h0_registers, .inl (cI, 8, .inl f0_registers)), (h0_slots, .inl (cI, 8, .inl f0_slots)), (h0_trace, .inl (cI, 16, .inl f0_trace))] := hD
    obtain ⟨i20, hf⟩ := gd_some hf
    refine va_iast hx hb hK hP hD hS 2 0 rfl rfl i20 dX4_change_119 (fun H locs hP hD hS => ?_)
    have hP : va_P D vwCl [(h0, .inr (3, [.ref h0_beginning, .ref h0_memory, .ref h0_trace, .int v0_traceCount, .int v0_done, .int v0_ending, .int v0_returned, .ref h0_registers, .ref h0_slots])), (h0_memory, .inl (cI, 8, .inl f0_memory)), (h0_registers, .inl (cI, 8, .inl (upd f0_registers (x2).toNatClampNeg u18))), (h0_slots, .inl (cI, 8, .inl f0_slots)), (h0_trace, .inl (cI, 16, .inl f0_trace))] H := hP
    have hD : va_D A [(h0, .inr (3, [.ref h0_beginning, .ref h0_memory, .ref h0_trace, .int v0_traceCount, .int v0_done, .int v0_ending, .int v0_returned, .ref h0_registers, .ref h0_slots])), (h0_memory, .inl (cI, 8, .inl f0_memory)), (h0_registers, .inl (cI, 8, .inl (upd f0_registers (x2).toNatClampNeg u18))), (h0_slots, .inl (cI, 8, .inl f0_slots)), (h0_trace, .inl (cI, 16, .inl f0_trace))] := hD
    refine lv_goto (tgt := 214) hx hb dX4_change_120 (by decide) ?_
    have hf := Option.some.inj hf
    subst hf
    exact g_vret hx hb hr hlocks (hP.sub [0, 1, 2, 3, 4] rfl) (hD.sub [0, 1, 2, 3, 4] (by decide) rfl) hK hS dX4_change_214
  have hf := ite_e hf c15
  by_cases c22 : x1 = (5 : Int32)
  · have hf := ite_t hf c22
    have e28 := sw_eq (k := 5) c22 (by decide)
    refine lv_tableIn (tgt := 97) (off := 96) hx hb dX4_change_1 (by rw [e28]; decide) (by rw [e28]; decide) (by rw [e28]; rfl) (by decide) ?_
    refine lv_aload_n hx hb dX4_change_97 rfl (lv_at hl 0 rfl) ?_
    refine va_get (D := D) (ci := 3) (v := .ref h0_registers) (C := RX4) (T := TX4) (N := 9) hx hb hts iw_X4_change_X4 hown hK hP 0 rfl rfl 7 (by decide) fl_34 (fun _ h9 => h9) rfl dX4_change_98 ?_
    refine lv_iload_n hx hb dX4_change_101 rfl (lv_at hl 2 rfl) ?_
    refine lv_iload_n hx hb dX4_change_102 rfl (lv_at hl 1 rfl) ?_
    refine lv_aload_n hx hb dX4_change_103 rfl (lv_at hl 0 rfl) ?_
    refine va_get (D := D) (ci := 3) (v := .ref h0_registers) (C := RX4) (T := TX4) (N := 9) hx hb hts iw_X4_change_X4 hown hK hP 0 rfl rfl 7 (by decide) fl_34 (fun _ h9 => h9) rfl dX4_change_104 ?_
    refine lv_iload_n hx hb dX4_change_107 rfl (lv_at hl 3 rfl) ?_
    obtain ⟨i23, hf⟩ := gd_some hf
    refine va_iald hx hb hK hP 2 0 rfl rfl i23 dX4_change_108 ?_
    refine lv_aload_n hx hb dX4_change_109 rfl (lv_at hl 0 rfl) ?_
    refine va_get (D := D) (ci := 3) (v := .ref h0_registers) (C := RX4) (T := TX4) (N := 9) hx hb hts iw_X4_change_X4 hown hK hP 0 rfl rfl 7 (by decide) fl_34 (fun _ h9 => h9) rfl dX4_change_110 ?_
    refine lv_iload hx hb dX4_change_113 (lv_at hl 4 rfl) ?_
    obtain ⟨i24, hf⟩ := gd_some hf
    refine va_iald hx hb hK hP 2 0 rfl rfl i24 dX4_change_115 ?_
    obtain ⟨u25, g26, hf⟩ := bd_some hf
    refine g_callSi S (c_X2_compute l D cI cZ _ x1 (f0_registers (x3).toNatClampNeg) (f0_registers (x4).toNatClampNeg) u25 g26) (va_cwS 3 hts gX4_change_X2_compute rfl rfl rfl (by decide +kernel) ⟨Nat.le_of_ble_eq_true rfl, Nat.le_of_ble_eq_true rfl⟩) hK hP hD hS hA [] [0, 1, 2, 3, 4] [(h0, .inr (3, [.ref h0_beginning, .ref h0_memory, .ref h0_trace, .int v0_traceCount, .int v0_done, .int v0_ending, .int v0_returned, .ref h0_registers, .ref h0_slots])), (h0_memory, .inl (cI, 8, .inl f0_memory)), (h0_registers, .inl (cI, 8, .inl f0_registers)), (h0_slots, .inl (cI, 8, .inl f0_slots)), (h0_trace, .inl (cI, 16, .inl f0_trace))] rfl rfl (by decide) (by decide) (by decide) rfl hl.1 rfl (Nat.le_of_ble_eq_true rfl) dX4_change_116 ⟨Nat.le_of_ble_eq_true rfl, Nat.le_of_ble_eq_true rfl⟩ (fun H locs hP hD hS => ?_)
    have hP : va_P D vwCl [(h0, .inr (3, [.ref h0_beginning, .ref h0_memory, .ref h0_trace, .int v0_traceCount, .int v0_done, .int v0_ending, .int v0_returned, .ref h0_registers, .ref h0_slots])), (h0_memory, .inl (cI, 8, .inl f0_memory)), (h0_registers, .inl (cI, 8, .inl f0_registers)), (h0_slots, .inl (cI, 8, .inl f0_slots)), (h0_trace, .inl (cI, 16, .inl f0_trace))] H := hP
    have hD : va_D A [(h0, .inr (3, [.ref h0_beginning, .ref h0_memory, .ref h0_trace, .int v0_traceCount, .int v0_done, .int v0_ending, .int v0_returned, .ref h0_registers, .ref h0_slots])), (h0_memory, .inl (cI, 8, .inl f0_memory)), (h0_registers, .inl (cI, 8, .inl f0_registers)), (h0_slots, .inl (cI, 8, .inl f0_slots)), (h0_trace, .inl (cI, 16, .inl f0_trace))] := hD
    obtain ⟨i27, hf⟩ := gd_some hf
    refine va_iast hx hb hK hP hD hS 2 0 rfl rfl i27 dX4_change_119 (fun H locs hP hD hS => ?_)
    have hP : va_P D vwCl [(h0, .inr (3, [.ref h0_beginning, .ref h0_memory, .ref h0_trace, .int v0_traceCount, .int v0_done, .int v0_ending, .int v0_returned, .ref h0_registers, .ref h0_slots])), (h0_memory, .inl (cI, 8, .inl f0_memory)), (h0_registers, .inl (cI, 8, .inl (upd f0_registers (x2).toNatClampNeg u25))), (h0_slots, .inl (cI, 8, .inl f0_slots)), (h0_trace, .inl (cI, 16, .inl f0_trace))] H := hP
    have hD : va_D A [(h0, .inr (3, [.ref h0_beginning, .ref h0_memory, .ref h0_trace, .int v0_traceCount, .int v0_done, .int v0_ending, .int v0_returned, .ref h0_registers, .ref h0_slots])), (h0_memory, .inl (cI, 8, .inl f0_memory)), (h0_registers, .inl (cI, 8, .inl (upd f0_registers (x2).toNatClampNeg u25))), (h0_slots, .inl (cI, 8, .inl f0_slots)), (h0_trace, .inl (cI, 16, .inl f0_trace))] := hD
    refine lv_goto (tgt := 214) hx hb dX4_change_120 (by decide) ?_
    have hf := Option.some.inj hf
    subst hf
    exact g_vret hx hb hr hlocks (hP.sub [0, 1, 2, 3, 4] rfl) (hD.sub [0, 1, 2, 3, 4] (by decide) rfl) hK hS dX4_change_214
  have hf := ite_e hf c22
  by_cases c29 : x1 = (6 : Int32)
  · have hf := ite_t hf c29
    have e35 := sw_eq (k := 6) c29 (by decide)
    refine lv_tableIn (tgt := 97) (off := 96) hx hb dX4_change_1 (by rw [e35]; decide) (by rw [e35]; decide) (by rw [e35]; rfl) (by decide) ?_
    refine lv_aload_n hx hb dX4_change_97 rfl (lv_at hl 0 rfl) ?_
    refine va_get (D := D) (ci := 3) (v := .ref h0_registers) (C := RX4) (T := TX4) (N := 9) hx hb hts iw_X4_change_X4 hown hK hP 0 rfl rfl 7 (by decide) fl_34 (fun _ h9 => h9) rfl dX4_change_98 ?_
    refine lv_iload_n hx hb dX4_change_101 rfl (lv_at hl 2 rfl) ?_
    refine lv_iload_n hx hb dX4_change_102 rfl (lv_at hl 1 rfl) ?_
    refine lv_aload_n hx hb dX4_change_103 rfl (lv_at hl 0 rfl) ?_
    refine va_get (D := D) (ci := 3) (v := .ref h0_registers) (C := RX4) (T := TX4) (N := 9) hx hb hts iw_X4_change_X4 hown hK hP 0 rfl rfl 7 (by decide) fl_34 (fun _ h9 => h9) rfl dX4_change_104 ?_
    refine lv_iload_n hx hb dX4_change_107 rfl (lv_at hl 3 rfl) ?_
    obtain ⟨i30, hf⟩ := gd_some hf
    refine va_iald hx hb hK hP 2 0 rfl rfl i30 dX4_change_108 ?_
    refine lv_aload_n hx hb dX4_change_109 rfl (lv_at hl 0 rfl) ?_
    refine va_get (D := D) (ci := 3) (v := .ref h0_registers) (C := RX4) (T := TX4) (N := 9) hx hb hts iw_X4_change_X4 hown hK hP 0 rfl rfl 7 (by decide) fl_34 (fun _ h9 => h9) rfl dX4_change_110 ?_
    refine lv_iload hx hb dX4_change_113 (lv_at hl 4 rfl) ?_
    obtain ⟨i31, hf⟩ := gd_some hf
    refine va_iald hx hb hK hP 2 0 rfl rfl i31 dX4_change_115 ?_
    obtain ⟨u32, g33, hf⟩ := bd_some hf
    refine g_callSi S (c_X2_compute l D cI cZ _ x1 (f0_registers (x3).toNatClampNeg) (f0_registers (x4).toNatClampNeg) u32 g33) (va_cwS 3 hts gX4_change_X2_compute rfl rfl rfl (by decide +kernel) ⟨Nat.le_of_ble_eq_true rfl, Nat.le_of_ble_eq_true rfl⟩) hK hP hD hS hA [] [0, 1, 2, 3, 4] [(h0, .inr (3, [.ref h0_beginning, .ref h0_memory, .ref h0_trace, .int v0_traceCount, .int v0_done, .int v0_ending, .int v0_returned, .ref h0_registers, .ref h0_slots])), (h0_memory, .inl (cI, 8, .inl f0_memory)), (h0_registers, .inl (cI, 8, .inl f0_registers)), (h0_slots, .inl (cI, 8, .inl f0_slots)), (h0_trace, .inl (cI, 16, .inl f0_trace))] rfl rfl (by decide) (by decide) (by decide) rfl hl.1 rfl (Nat.le_of_ble_eq_true rfl) dX4_change_116 ⟨Nat.le_of_ble_eq_true rfl, Nat.le_of_ble_eq_true rfl⟩ (fun H locs hP hD hS => ?_)
    have hP : va_P D vwCl [(h0, .inr (3, [.ref h0_beginning, .ref h0_memory, .ref h0_trace, .int v0_traceCount, .int v0_done, .int v0_ending, .int v0_returned, .ref h0_registers, .ref h0_slots])), (h0_memory, .inl (cI, 8, .inl f0_memory)), (h0_registers, .inl (cI, 8, .inl f0_registers)), (h0_slots, .inl (cI, 8, .inl f0_slots)), (h0_trace, .inl (cI, 16, .inl f0_trace))] H := hP
    have hD : va_D A [(h0, .inr (3, [.ref h0_beginning, .ref h0_memory, .ref h0_trace, .int v0_traceCount, .int v0_done, .int v0_ending, .int v0_returned, .ref h0_registers, .ref h0_slots])), (h0_memory, .inl (cI, 8, .inl f0_memory)), (h0_registers, .inl (cI, 8, .inl f0_registers)), (h0_slots, .inl (cI, 8, .inl f0_slots)), (h0_trace, .inl (cI, 16, .inl f0_trace))] := hD
    obtain ⟨i34, hf⟩ := gd_some hf
    refine va_iast hx hb hK hP hD hS 2 0 rfl rfl i34 dX4_change_119 (fun H locs hP hD hS => ?_)
    have hP : va_P D vwCl [(h0, .inr (3, [.ref h0_beginning, .ref h0_memory, .ref h0_trace, .int v0_traceCount, .int v0_done, .int v0_ending, .int v0_returned, .ref h0_registers, .ref h0_slots])), (h0_memory, .inl (cI, 8, .inl f0_memory)), (h0_registers, .inl (cI, 8, .inl (upd f0_registers (x2).toNatClampNeg u32))), (h0_slots, .inl (cI, 8, .inl f0_slots)), (h0_trace, .inl (cI, 16, .inl f0_trace))] H := hP
    have hD : va_D A [(h0, .inr (3, [.ref h0_beginning, .ref h0_memory, .ref h0_trace, .int v0_traceCount, .int v0_done, .int v0_ending, .int v0_returned, .ref h0_registers, .ref h0_slots])), (h0_memory, .inl (cI, 8, .inl f0_memory)), (h0_registers, .inl (cI, 8, .inl (upd f0_registers (x2).toNatClampNeg u32))), (h0_slots, .inl (cI, 8, .inl f0_slots)), (h0_trace, .inl (cI, 16, .inl f0_trace))] := hD
    refine lv_goto (tgt := 214) hx hb dX4_change_120 (by decide) ?_
    have hf := Option.some.inj hf
    subst hf
    exact g_vret hx hb hr hlocks (hP.sub [0, 1, 2, 3, 4] rfl) (hD.sub [0, 1, 2, 3, 4] (by decide) rfl) hK hS dX4_change_214
  have hf := ite_e hf c29
  by_cases c36 : x1 = (7 : Int32)
  · have hf := ite_t hf c36
    have e40 := sw_eq (k := 7) c36 (by decide)
    refine lv_tableIn (tgt := 123) (off := 122) hx hb dX4_change_1 (by rw [e40]; decide) (by rw [e40]; decide) (by rw [e40]; rfl) (by decide) ?_
    refine lv_aload_n hx hb dX4_change_123 rfl (lv_at hl 0 rfl) ?_
    refine va_get (D := D) (ci := 3) (v := .ref h0_registers) (C := RX4) (T := TX4) (N := 9) hx hb hts iw_X4_change_X4 hown hK hP 0 rfl rfl 7 (by decide) fl_34 (fun _ h9 => h9) rfl dX4_change_124 ?_
    refine lv_iload_n hx hb dX4_change_127 rfl (lv_at hl 2 rfl) ?_
    refine lv_aload_n hx hb dX4_change_128 rfl (lv_at hl 0 rfl) ?_
    refine va_get (D := D) (ci := 3) (v := .ref h0_memory) (C := RX4) (T := TX4) (N := 9) hx hb hts iw_X4_change_X4 hown hK hP 0 rfl rfl 1 (by decide) fl_15 (fun _ h9 => h9) rfl dX4_change_129 ?_
    refine lv_aload_n hx hb dX4_change_132 rfl (lv_at hl 0 rfl) ?_
    refine va_get (D := D) (ci := 3) (v := .ref h0_registers) (C := RX4) (T := TX4) (N := 9) hx hb hts iw_X4_change_X4 hown hK hP 0 rfl rfl 7 (by decide) fl_34 (fun _ h9 => h9) rfl dX4_change_133 ?_
    refine lv_iload_n hx hb dX4_change_136 rfl (lv_at hl 3 rfl) ?_
    obtain ⟨i37, hf⟩ := gd_some hf
    refine va_iald hx hb hK hP 2 0 rfl rfl i37 dX4_change_137 ?_
    obtain ⟨i38, hf⟩ := gd_some hf
    refine va_iald hx hb hK hP 1 0 rfl rfl i38 dX4_change_138 ?_
    obtain ⟨i39, hf⟩ := gd_some hf
    refine va_iast hx hb hK hP hD hS 2 0 rfl rfl i39 dX4_change_139 (fun H locs hP hD hS => ?_)
    have hP : va_P D vwCl [(h0, .inr (3, [.ref h0_beginning, .ref h0_memory, .ref h0_trace, .int v0_traceCount, .int v0_done, .int v0_ending, .int v0_returned, .ref h0_registers, .ref h0_slots])), (h0_memory, .inl (cI, 8, .inl f0_memory)), (h0_registers, .inl (cI, 8, .inl (upd f0_registers (x2).toNatClampNeg (f0_memory ((f0_registers (x3).toNatClampNeg)).toNatClampNeg)))), (h0_slots, .inl (cI, 8, .inl f0_slots)), (h0_trace, .inl (cI, 16, .inl f0_trace))] H := hP
    have hD : va_D A [(h0, .inr (3, [.ref h0_beginning, .ref h0_memory, .ref h0_trace, .int v0_traceCount, .int v0_done, .int v0_ending, .int v0_returned, .ref h0_registers, .ref h0_slots])), (h0_memory, .inl (cI, 8, .inl f0_memory)), (h0_registers, .inl (cI, 8, .inl (upd f0_registers (x2).toNatClampNeg (f0_memory ((f0_registers (x3).toNatClampNeg)).toNatClampNeg)))), (h0_slots, .inl (cI, 8, .inl f0_slots)), (h0_trace, .inl (cI, 16, .inl f0_trace))] := hD
    refine lv_goto (tgt := 214) hx hb dX4_change_140 (by decide) ?_
    have hf := Option.some.inj hf
    subst hf
    exact g_vret hx hb hr hlocks (hP.sub [0, 1, 2, 3, 4] rfl) (hD.sub [0, 1, 2, 3, 4] (by decide) rfl) hK hS dX4_change_214
  have hf := ite_e hf c36
  by_cases c41 : x1 = (8 : Int32)
  · have hf := ite_t hf c41
    have e45 := sw_eq (k := 8) c41 (by decide)
    refine lv_tableIn (tgt := 143) (off := 142) hx hb dX4_change_1 (by rw [e45]; decide) (by rw [e45]; decide) (by rw [e45]; rfl) (by decide) ?_
    refine lv_aload_n hx hb dX4_change_143 rfl (lv_at hl 0 rfl) ?_
    refine va_get (D := D) (ci := 3) (v := .ref h0_memory) (C := RX4) (T := TX4) (N := 9) hx hb hts iw_X4_change_X4 hown hK hP 0 rfl rfl 1 (by decide) fl_15 (fun _ h9 => h9) rfl dX4_change_144 ?_
    refine lv_aload_n hx hb dX4_change_147 rfl (lv_at hl 0 rfl) ?_
    refine va_get (D := D) (ci := 3) (v := .ref h0_registers) (C := RX4) (T := TX4) (N := 9) hx hb hts iw_X4_change_X4 hown hK hP 0 rfl rfl 7 (by decide) fl_34 (fun _ h9 => h9) rfl dX4_change_148 ?_
    refine lv_iload_n hx hb dX4_change_151 rfl (lv_at hl 3 rfl) ?_
    obtain ⟨i42, hf⟩ := gd_some hf
    refine va_iald hx hb hK hP 2 0 rfl rfl i42 dX4_change_152 ?_
    refine lv_aload_n hx hb dX4_change_153 rfl (lv_at hl 0 rfl) ?_
    refine va_get (D := D) (ci := 3) (v := .ref h0_registers) (C := RX4) (T := TX4) (N := 9) hx hb hts iw_X4_change_X4 hown hK hP 0 rfl rfl 7 (by decide) fl_34 (fun _ h9 => h9) rfl dX4_change_154 ?_
    refine lv_iload hx hb dX4_change_157 (lv_at hl 4 rfl) ?_
    obtain ⟨i43, hf⟩ := gd_some hf
    refine va_iald hx hb hK hP 2 0 rfl rfl i43 dX4_change_159 ?_
    obtain ⟨i44, hf⟩ := gd_some hf
    refine va_iast hx hb hK hP hD hS 1 0 rfl rfl i44 dX4_change_160 (fun H locs hP hD hS => ?_)
    have hP : va_P D vwCl [(h0, .inr (3, [.ref h0_beginning, .ref h0_memory, .ref h0_trace, .int v0_traceCount, .int v0_done, .int v0_ending, .int v0_returned, .ref h0_registers, .ref h0_slots])), (h0_memory, .inl (cI, 8, .inl (upd f0_memory ((f0_registers (x3).toNatClampNeg)).toNatClampNeg (f0_registers (x4).toNatClampNeg)))), (h0_registers, .inl (cI, 8, .inl f0_registers)), (h0_slots, .inl (cI, 8, .inl f0_slots)), (h0_trace, .inl (cI, 16, .inl f0_trace))] H := hP
    have hD : va_D A [(h0, .inr (3, [.ref h0_beginning, .ref h0_memory, .ref h0_trace, .int v0_traceCount, .int v0_done, .int v0_ending, .int v0_returned, .ref h0_registers, .ref h0_slots])), (h0_memory, .inl (cI, 8, .inl (upd f0_memory ((f0_registers (x3).toNatClampNeg)).toNatClampNeg (f0_registers (x4).toNatClampNeg)))), (h0_registers, .inl (cI, 8, .inl f0_registers)), (h0_slots, .inl (cI, 8, .inl f0_slots)), (h0_trace, .inl (cI, 16, .inl f0_trace))] := hD
    refine lv_goto (tgt := 214) hx hb dX4_change_161 (by decide) ?_
    have hf := Option.some.inj hf
    subst hf
    exact g_vret hx hb hr hlocks (hP.sub [0, 1, 2, 3, 4] rfl) (hD.sub [0, 1, 2, 3, 4] (by decide) rfl) hK hS dX4_change_214
  have hf := ite_e hf c41
  by_cases c46 : x1 = (9 : Int32)
  · have hf := ite_t hf c46
    have e47 := sw_eq (k := 9) c46 (by decide)
    refine lv_tableIn (tgt := 214) (off := 213) hx hb dX4_change_1 (by rw [e47]; decide) (by rw [e47]; decide) (by rw [e47]; rfl) (by decide) ?_
    have hf := Option.some.inj hf
    subst hf
    exact g_vret hx hb hr hlocks (hP.sub [0, 1, 2, 3, 4] rfl) (hD.sub [0, 1, 2, 3, 4] (by decide) rfl) hK hS dX4_change_214
  have hf := ite_e hf c46
  by_cases c48 : x1 = (10 : Int32)
  · have hf := ite_t hf c48
    have e49 := sw_eq (k := 10) c48 (by decide)
    refine lv_tableIn (tgt := 214) (off := 213) hx hb dX4_change_1 (by rw [e49]; decide) (by rw [e49]; decide) (by rw [e49]; rfl) (by decide) ?_
    have hf := Option.some.inj hf
    subst hf
    exact g_vret hx hb hr hlocks (hP.sub [0, 1, 2, 3, 4] rfl) (hD.sub [0, 1, 2, 3, 4] (by decide) rfl) hK hS dX4_change_214
  have hf := ite_e hf c48
  by_cases c50 : x1 = (11 : Int32)
  · have hf := ite_t hf c50
    have e55 := sw_eq (k := 11) c50 (by decide)
    refine lv_tableIn (tgt := 164) (off := 163) hx hb dX4_change_1 (by rw [e55]; decide) (by rw [e55]; decide) (by rw [e55]; rfl) (by decide) ?_
    refine lv_aload_n hx hb dX4_change_164 rfl (lv_at hl 0 rfl) ?_
    refine va_get (D := D) (ci := 3) (v := .ref h0_registers) (C := RX4) (T := TX4) (N := 9) hx hb hts iw_X4_change_X4 hown hK hP 0 rfl rfl 7 (by decide) fl_34 (fun _ h9 => h9) rfl dX4_change_165 ?_
    refine lv_iload_n hx hb dX4_change_168 rfl (lv_at hl 2 rfl) ?_
    refine lv_aload_n hx hb dX4_change_169 rfl (lv_at hl 0 rfl) ?_
    refine lv_aload_n hx hb dX4_change_170 rfl (lv_at hl 0 rfl) ?_
    refine va_get (D := D) (ci := 3) (v := .ref h0_registers) (C := RX4) (T := TX4) (N := 9) hx hb hts iw_X4_change_X4 hown hK hP 0 rfl rfl 7 (by decide) fl_34 (fun _ h9 => h9) rfl dX4_change_171 ?_
    refine lv_iload_n hx hb dX4_change_174 rfl (lv_at hl 3 rfl) ?_
    obtain ⟨i51, hf⟩ := gd_some hf
    refine va_iald hx hb hK hP 2 0 rfl rfl i51 dX4_change_175 ?_
    obtain ⟨u52, g53, hf⟩ := bd_some hf
    refine g_callVi S (c_X4_answerCall l D cI cZ h0 h0_beginning h0_memory h0_trace h0_registers h0_slots _ f0_trace v0_traceCount v0_done v0_ending v0_returned (f0_registers (x3).toNatClampNeg) u52 g53) (cwV 1 hts gX4_change_X4_answerCall rfl rfl rfl (by decide +kernel) ⟨Nat.le_of_ble_eq_true rfl, Nat.le_of_ble_eq_true rfl⟩) hK hP hD hS hA 0 (ci := 3) rfl rfl [0, 4] [1, 2, 3] [(h0_memory, .inl (cI, 8, .inl f0_memory)), (h0_registers, .inl (cI, 8, .inl f0_registers)), (h0_slots, .inl (cI, 8, .inl f0_slots))] rfl rfl (by decide) (by decide) (by decide) rfl hl.1 rfl (Nat.le_of_ble_eq_true rfl) dX4_change_176 ⟨Nat.le_of_ble_eq_true rfl, Nat.le_of_ble_eq_true rfl⟩ (fun H locs hP hD hS => ?_)
    have hP : va_P D vwCl [(h0_memory, .inl (cI, 8, .inl f0_memory)), (h0_registers, .inl (cI, 8, .inl f0_registers)), (h0_slots, .inl (cI, 8, .inl f0_slots)), (h0, .inr (3, [.ref h0_beginning, .ref h0_memory, .ref h0_trace, .int u52.2.2, .int v0_done, .int v0_ending, .int v0_returned, .ref h0_registers, .ref h0_slots])), (h0_trace, .inl (cI, 16, .inl u52.2.1))] H := hP
    have hD : va_D A [(h0_memory, .inl (cI, 8, .inl f0_memory)), (h0_registers, .inl (cI, 8, .inl f0_registers)), (h0_slots, .inl (cI, 8, .inl f0_slots)), (h0, .inr (3, [.ref h0_beginning, .ref h0_memory, .ref h0_trace, .int u52.2.2, .int v0_done, .int v0_ending, .int v0_returned, .ref h0_registers, .ref h0_slots])), (h0_trace, .inl (cI, 16, .inl u52.2.1))] := hD
    obtain ⟨i54, hf⟩ := gd_some hf
    refine va_iast hx hb hK hP hD hS 1 0 rfl rfl i54 dX4_change_179 (fun H locs hP hD hS => ?_)
    have hP : va_P D vwCl [(h0_memory, .inl (cI, 8, .inl f0_memory)), (h0_registers, .inl (cI, 8, .inl (upd f0_registers (x2).toNatClampNeg u52.1))), (h0_slots, .inl (cI, 8, .inl f0_slots)), (h0, .inr (3, [.ref h0_beginning, .ref h0_memory, .ref h0_trace, .int u52.2.2, .int v0_done, .int v0_ending, .int v0_returned, .ref h0_registers, .ref h0_slots])), (h0_trace, .inl (cI, 16, .inl u52.2.1))] H := hP
    have hD : va_D A [(h0_memory, .inl (cI, 8, .inl f0_memory)), (h0_registers, .inl (cI, 8, .inl (upd f0_registers (x2).toNatClampNeg u52.1))), (h0_slots, .inl (cI, 8, .inl f0_slots)), (h0, .inr (3, [.ref h0_beginning, .ref h0_memory, .ref h0_trace, .int u52.2.2, .int v0_done, .int v0_ending, .int v0_returned, .ref h0_registers, .ref h0_slots])), (h0_trace, .inl (cI, 16, .inl u52.2.1))] := hD
    refine lv_goto (tgt := 214) hx hb dX4_change_180 (by decide) ?_
    have hf := Option.some.inj hf
    subst hf
    exact g_vret hx hb hr hlocks (hP.sub [3, 0, 1, 2, 4] rfl) (hD.sub [3, 0, 1, 2, 4] (by decide) rfl) hK hS dX4_change_214
  have hf := ite_e hf c50
  by_cases c56 : x1 = (12 : Int32)
  · have hf := ite_t hf c56
    have e57 := sw_eq (k := 12) c56 (by decide)
    refine lv_tableIn (tgt := 214) (off := 213) hx hb dX4_change_1 (by rw [e57]; decide) (by rw [e57]; decide) (by rw [e57]; rfl) (by decide) ?_
    have hf := Option.some.inj hf
    subst hf
    exact g_vret hx hb hr hlocks (hP.sub [0, 1, 2, 3, 4] rfl) (hD.sub [0, 1, 2, 3, 4] (by decide) rfl) hK hS dX4_change_214
  have hf := ite_e hf c56
  by_cases c58 : x1 = (13 : Int32)
  · have hf := ite_t hf c58
    have e61 := sw_eq (k := 13) c58 (by decide)
    refine lv_tableIn (tgt := 183) (off := 182) hx hb dX4_change_1 (by rw [e61]; decide) (by rw [e61]; decide) (by rw [e61]; rfl) (by decide) ?_
    refine lv_aload_n hx hb dX4_change_183 rfl (lv_at hl 0 rfl) ?_
    refine va_get (D := D) (ci := 3) (v := .ref h0_registers) (C := RX4) (T := TX4) (N := 9) hx hb hts iw_X4_change_X4 hown hK hP 0 rfl rfl 7 (by decide) fl_34 (fun _ h9 => h9) rfl dX4_change_184 ?_
    refine lv_iload_n hx hb dX4_change_187 rfl (lv_at hl 2 rfl) ?_
    refine lv_aload_n hx hb dX4_change_188 rfl (lv_at hl 0 rfl) ?_
    refine va_get (D := D) (ci := 3) (v := .ref h0_slots) (C := RX4) (T := TX4) (N := 9) hx hb hts iw_X4_change_X4 hown hK hP 0 rfl rfl 8 (by decide) fl_37 (fun _ h9 => h9) rfl dX4_change_189 ?_
    refine lv_iload_n hx hb dX4_change_192 rfl (lv_at hl 3 rfl) ?_
    obtain ⟨i59, hf⟩ := gd_some hf
    refine va_iald hx hb hK hP 3 0 rfl rfl i59 dX4_change_193 ?_
    obtain ⟨i60, hf⟩ := gd_some hf
    refine va_iast hx hb hK hP hD hS 2 0 rfl rfl i60 dX4_change_194 (fun H locs hP hD hS => ?_)
    have hP : va_P D vwCl [(h0, .inr (3, [.ref h0_beginning, .ref h0_memory, .ref h0_trace, .int v0_traceCount, .int v0_done, .int v0_ending, .int v0_returned, .ref h0_registers, .ref h0_slots])), (h0_memory, .inl (cI, 8, .inl f0_memory)), (h0_registers, .inl (cI, 8, .inl (upd f0_registers (x2).toNatClampNeg (f0_slots (x3).toNatClampNeg)))), (h0_slots, .inl (cI, 8, .inl f0_slots)), (h0_trace, .inl (cI, 16, .inl f0_trace))] H := hP
    have hD : va_D A [(h0, .inr (3, [.ref h0_beginning, .ref h0_memory, .ref h0_trace, .int v0_traceCount, .int v0_done, .int v0_ending, .int v0_returned, .ref h0_registers, .ref h0_slots])), (h0_memory, .inl (cI, 8, .inl f0_memory)), (h0_registers, .inl (cI, 8, .inl (upd f0_registers (x2).toNatClampNeg (f0_slots (x3).toNatClampNeg)))), (h0_slots, .inl (cI, 8, .inl f0_slots)), (h0_trace, .inl (cI, 16, .inl f0_trace))] := hD
    refine lv_goto (tgt := 214) hx hb dX4_change_195 (by decide) ?_
    have hf := Option.some.inj hf
    subst hf
    exact g_vret hx hb hr hlocks (hP.sub [0, 1, 2, 3, 4] rfl) (hD.sub [0, 1, 2, 3, 4] (by decide) rfl) hK hS dX4_change_214
  have hf := ite_e hf c58
  by_cases c62 : x1 = (14 : Int32)
  · have hf := ite_t hf c62
    have e65 := sw_eq (k := 14) c62 (by decide)
    refine lv_tableIn (tgt := 198) (off := 197) hx hb dX4_change_1 (by rw [e65]; decide) (by rw [e65]; decide) (by rw [e65]; rfl) (by decide) ?_
    refine lv_aload_n hx hb dX4_change_198 rfl (lv_at hl 0 rfl) ?_
    refine va_get (D := D) (ci := 3) (v := .ref h0_slots) (C := RX4) (T := TX4) (N := 9) hx hb hts iw_X4_change_X4 hown hK hP 0 rfl rfl 8 (by decide) fl_37 (fun _ h9 => h9) rfl dX4_change_199 ?_
    refine lv_iload hx hb dX4_change_202 (lv_at hl 4 rfl) ?_
    refine lv_aload_n hx hb dX4_change_204 rfl (lv_at hl 0 rfl) ?_
    refine va_get (D := D) (ci := 3) (v := .ref h0_registers) (C := RX4) (T := TX4) (N := 9) hx hb hts iw_X4_change_X4 hown hK hP 0 rfl rfl 7 (by decide) fl_34 (fun _ h9 => h9) rfl dX4_change_205 ?_
    refine lv_iload_n hx hb dX4_change_208 rfl (lv_at hl 3 rfl) ?_
    obtain ⟨i63, hf⟩ := gd_some hf
    refine va_iald hx hb hK hP 2 0 rfl rfl i63 dX4_change_209 ?_
    obtain ⟨i64, hf⟩ := gd_some hf
    refine va_iast hx hb hK hP hD hS 3 0 rfl rfl i64 dX4_change_210 (fun H locs hP hD hS => ?_)
    have hP : va_P D vwCl [(h0, .inr (3, [.ref h0_beginning, .ref h0_memory, .ref h0_trace, .int v0_traceCount, .int v0_done, .int v0_ending, .int v0_returned, .ref h0_registers, .ref h0_slots])), (h0_memory, .inl (cI, 8, .inl f0_memory)), (h0_registers, .inl (cI, 8, .inl f0_registers)), (h0_slots, .inl (cI, 8, .inl (upd f0_slots (x4).toNatClampNeg (f0_registers (x3).toNatClampNeg)))), (h0_trace, .inl (cI, 16, .inl f0_trace))] H := hP
    have hD : va_D A [(h0, .inr (3, [.ref h0_beginning, .ref h0_memory, .ref h0_trace, .int v0_traceCount, .int v0_done, .int v0_ending, .int v0_returned, .ref h0_registers, .ref h0_slots])), (h0_memory, .inl (cI, 8, .inl f0_memory)), (h0_registers, .inl (cI, 8, .inl f0_registers)), (h0_slots, .inl (cI, 8, .inl (upd f0_slots (x4).toNatClampNeg (f0_registers (x3).toNatClampNeg)))), (h0_trace, .inl (cI, 16, .inl f0_trace))] := hD
    refine lv_goto (tgt := 214) hx hb dX4_change_211 (by decide) ?_
    have hf := Option.some.inj hf
    subst hf
    exact g_vret hx hb hr hlocks (hP.sub [0, 1, 2, 3, 4] rfl) (hD.sub [0, 1, 2, 3, 4] (by decide) rfl) hK hS dX4_change_214
  have hf := ite_e hf c62
  have e66 := sw_ne (k := 1) c1 (by decide)
  have e67 := sw_ne (k := 2) c4 (by decide)
  have e68 := sw_ne (k := 3) c8 (by decide)
  have e69 := sw_ne (k := 4) c15 (by decide)
  have e70 := sw_ne (k := 5) c22 (by decide)
  have e71 := sw_ne (k := 6) c29 (by decide)
  have e72 := sw_ne (k := 7) c36 (by decide)
  have e73 := sw_ne (k := 8) c41 (by decide)
  have e74 := sw_ne (k := 9) c46 (by decide)
  have e75 := sw_ne (k := 10) c48 (by decide)
  have e76 := sw_ne (k := 11) c50 (by decide)
  have e77 := sw_ne (k := 12) c56 (by decide)
  have e78 := sw_ne (k := 13) c58 (by decide)
  have e79 := sw_ne (k := 14) c62 (by decide)
  refine lv_tableOut (tgt := 214) hx hb dX4_change_1 (by omega) (by decide) ?_
  have hf := Option.some.inj hf
  subst hf
  exact g_vret hx hb hr hlocks (hP.sub [0, 1, 2, 3, 4] rfl) (hD.sub [0, 1, 2, 3, 4] (by decide) rfl) hK hS dX4_change_214

def f_X4_perform  (L1 : Nat) (f0_memory : (Nat → Int32)) (f0_registers : (Nat → Int32)) (f0_slots : (Nat → Int32)) (f0_trace : (Nat → Int32)) (f1_a : (Nat → Int32)) (f1_b : (Nat → Int32)) (f1_d : (Nat → Int32)) (f1_kind : (Nat → Int32)) (v0_traceCount : Int32) (v0_ending : Int32) (v0_returned : Int32) (x2 : Int32) : Option (Int32 × (Nat → Int32) × (Nat → Int32) × (Nat → Int32) × (Nat → Int32) × Int32 × Int32 × Int32) := gd x2 L1 (gd x2 L1 (gd x2 L1 (if (f1_kind (x2).toNatClampNeg) = (9 : Int32) then (some ((f1_d (x2).toNatClampNeg), f0_memory, f0_registers, f0_slots, f0_trace, v0_traceCount, v0_ending, v0_returned)) else if (f1_kind (x2).toNatClampNeg) = (10 : Int32) then (gd (f1_a (x2).toNatClampNeg) 8 (if (f0_registers ((f1_a (x2).toNatClampNeg)).toNatClampNeg) = 0 then (some ((f1_d (x2).toNatClampNeg), f0_memory, f0_registers, f0_slots, f0_trace, v0_traceCount, v0_ending, v0_returned)) else (some ((x2 + (1 : Int32)), f0_memory, f0_registers, f0_slots, f0_trace, v0_traceCount, v0_ending, v0_returned)))) else if (f1_kind (x2).toNatClampNeg) = (11 : Int32) then (gd x2 L1 ((f_X4_change f0_memory f0_registers f0_slots f0_trace v0_traceCount (f1_kind (x2).toNatClampNeg) (f1_d (x2).toNatClampNeg) (f1_a (x2).toNatClampNeg) (f1_b (x2).toNatClampNeg)).bind (fun u12 => some ((x2 + (1 : Int32)), u12.1, u12.2.1, u12.2.2.1, u12.2.2.2.1, u12.2.2.2.2, v0_ending, v0_returned)))) else if (f1_kind (x2).toNatClampNeg) = (12 : Int32) then (gd (f1_a (x2).toNatClampNeg) 8 (some (x2, f0_memory, f0_registers, f0_slots, f0_trace, v0_traceCount, (0 : Int32), (f0_registers ((f1_a (x2).toNatClampNeg)).toNatClampNeg)))) else (gd x2 L1 ((f_X4_change f0_memory f0_registers f0_slots f0_trace v0_traceCount (f1_kind (x2).toNatClampNeg) (f1_d (x2).toNatClampNeg) (f1_a (x2).toNatClampNeg) (f1_b (x2).toNatClampNeg)).bind (fun u19 => some ((x2 + (1 : Int32)), u19.1, u19.2.1, u19.2.2.1, u19.2.2.2.1, u19.2.2.2.2, v0_ending, v0_returned)))))))
theorem iw_X4_perform_X4 : ∀ w ∈ wsX40, w ∈ wsX4_perform := by decide +kernel
theorem iw_X4_perform_X6 : ∀ w ∈ wsX60, w ∈ wsX4_perform := by decide +kernel
set_option maxHeartbeats 4000000 in
set_option maxRecDepth 100000 in
theorem c_X4_perform (l : Launch) (D : va_G) (cI cZ : ClassId) (h0 h1 h0_beginning h0_memory h0_trace h0_registers h0_slots h1_kind h1_d h1_a h1_b : Nat) (sz : Nat) (L1 : Nat) (f0_memory f0_registers f0_slots f0_trace f1_a f1_b f1_d f1_kind : Nat → Int32) (v0_traceCount v0_done v0_ending v0_returned v1_count : Int32)  (x2 : Int32) (res : (Int32 × (Nat → Int32) × (Nat → Int32) × (Nat → Int32) × (Nat → Int32) × Int32 × Int32 × Int32)) (hf : f_X4_perform L1 f0_memory f0_registers f0_slots f0_trace f1_a f1_b f1_d f1_kind v0_traceCount v0_ending v0_returned x2 = some res) : Ct_i l yX4_perform wsX4_perform ({ frames := 2, cells := 0, slots := 0, locals := 46 }) D [(cI, .int), (cZ, .boolean)] [.ref h0, .ref h1, .int x2] sz [(h0, .inr (3, [.ref h0_beginning, .ref h0_memory, .ref h0_trace, .int v0_traceCount, .int v0_done, .int v0_ending, .int v0_returned, .ref h0_registers, .ref h0_slots])), (h0_memory, .inl (cI, 8, .inl f0_memory)), (h0_registers, .inl (cI, 8, .inl f0_registers)), (h0_slots, .inl (cI, 8, .inl f0_slots)), (h0_trace, .inl (cI, 16, .inl f0_trace)), (h1, .inr (5, [.ref h1_kind, .ref h1_d, .ref h1_a, .ref h1_b, .int v1_count])), (h1_a, .inl (cI, L1, .inl f1_a)), (h1_b, .inl (cI, L1, .inl f1_b)), (h1_d, .inl (cI, L1, .inl f1_d)), (h1_kind, .inl (cI, L1, .inl f1_kind))] res.1 [(h0, .inr (3, [.ref h0_beginning, .ref h0_memory, .ref h0_trace, .int res.2.2.2.2.2.1, .int v0_done, .int res.2.2.2.2.2.2.1, .int res.2.2.2.2.2.2.2, .ref h0_registers, .ref h0_slots])), (h0_memory, .inl (cI, 8, .inl res.2.1)), (h0_registers, .inl (cI, 8, .inl res.2.2.1)), (h0_slots, .inl (cI, 8, .inl res.2.2.2.1)), (h0_trace, .inl (cI, 16, .inl res.2.2.2.2.1)), (h1, .inr (5, [.ref h1_kind, .ref h1_d, .ref h1_a, .ref h1_b, .int v1_count])), (h1_a, .inl (cI, L1, .inl f1_a)), (h1_b, .inl (cI, L1, .inl f1_b)), (h1_d, .inl (cI, L1, .inl f1_d)), (h1_kind, .inl (cI, L1, .inl f1_kind))] := by
  refine g_of (cc := cX4_perform) (maxL := 6) (ret := some .int) (QQ := (fun A => g_Qi D [(cI, .int), (cZ, .boolean)] A res.1 [(h0, .inr (3, [.ref h0_beginning, .ref h0_memory, .ref h0_trace, .int res.2.2.2.2.2.1, .int v0_done, .int res.2.2.2.2.2.2.1, .int res.2.2.2.2.2.2.2, .ref h0_registers, .ref h0_slots])), (h0_memory, .inl (cI, 8, .inl res.2.1)), (h0_registers, .inl (cI, 8, .inl res.2.2.1)), (h0_slots, .inl (cI, 8, .inl res.2.2.2.1)), (h0_trace, .inl (cI, 16, .inl res.2.2.2.2.1)), (h1, .inr (5, [.ref h1_kind, .ref h1_d, .ref h1_a, .ref h1_b, .int v1_count])), (h1_a, .inl (cI, L1, .inl f1_a)), (h1_b, .inl (cI, L1, .inl f1_b)), (h1_d, .inl (cI, L1, .inl f1_d)), (h1_kind, .inl (cI, L1, .inl f1_kind))])) (by decide) rfl (Nat.le_of_ble_eq_true rfl) ?_
  intro p e s m args below meth c A ls S hr hlocks hA hP hK hD hl
  show W p l e ({ frames := 2, cells := 0, slots := 0, locals := 46 }) s m args below meth c s.heap [] 0 0 (MQ below (g_Qi D [(cI, .int), (cZ, .boolean)] A res.1 [(h0, .inr (3, [.ref h0_beginning, .ref h0_memory, .ref h0_trace, .int res.2.2.2.2.2.1, .int v0_done, .int res.2.2.2.2.2.2.1, .int res.2.2.2.2.2.2.2, .ref h0_registers, .ref h0_slots])), (h0_memory, .inl (cI, 8, .inl res.2.1)), (h0_registers, .inl (cI, 8, .inl res.2.2.1)), (h0_slots, .inl (cI, 8, .inl res.2.2.2.1)), (h0_trace, .inl (cI, 16, .inl res.2.2.2.2.1)), (h1, .inr (5, [.ref h1_kind, .ref h1_d, .ref h1_a, .ref h1_b, .int v1_count])), (h1_a, .inl (cI, L1, .inl f1_a)), (h1_b, .inl (cI, L1, .inl f1_b)), (h1_d, .inl (cI, L1, .inl f1_d)), (h1_kind, .inl (cI, L1, .inl f1_kind))]) args s 0 0 A) (F0 m 0 ls [])
  have hx := S.1
  have hb := S.2.1
  have hml := S.2.2.1
  have hown := S.2.2.2.1
  have hts := S.2.2.2.2
  have fl_28 := hts (.fieldLink RX4 28 "PassPipeline$Machine" "ending" "I") (by decide +kernel)
  have fl_31 := hts (.fieldLink RX4 31 "PassPipeline$Machine" "returned" "I") (by decide +kernel)
  have fl_34 := hts (.fieldLink RX4 34 "PassPipeline$Machine" "registers" "[I") (by decide +kernel)
  have fl_65 := hts (.fieldLink RX4 65 "PassPipeline$Program" "kind" "[I") (by decide +kernel)
  have fl_68 := hts (.fieldLink RX4 68 "PassPipeline$Program" "a" "[I") (by decide +kernel)
  have fl_71 := hts (.fieldLink RX4 71 "PassPipeline$Program" "b" "[I") (by decide +kernel)
  have fl_87 := hts (.fieldLink RX4 87 "PassPipeline$Program" "d" "[I") (by decide +kernel)
  have hS : va_S A s.heap s.heap [] := va_S.rf
  have hl : lv_has ls 6 [(0, .ref h0), (1, .ref h1), (2, .int x2)] := hl
  unfold f_X4_perform at hf
  refine lv_aload_n hx hb dX4_perform_0 rfl (lv_at hl 1 rfl) ?_
  refine va_get (D := D) (ci := 5) (v := .ref h1_kind) (C := RX6) (T := TX6) (N := 5) hx hb hts iw_X4_perform_X6 hown hK hP 5 rfl rfl 0 (by decide) fl_65 (fun _ h9 => h9) rfl dX4_perform_1 ?_
  refine lv_iload_n hx hb dX4_perform_4 rfl (lv_at hl 2 rfl) ?_
  obtain ⟨i1, hf⟩ := gd_some hf
  refine va_iald hx hb hK hP 9 0 rfl rfl i1 dX4_perform_5 ?_
  refine lv_istore_n (lv' := [(3, .int (f1_kind (x2).toNatClampNeg)), (0, .ref h0), (1, .ref h1), (2, .int x2)]) hx hb dX4_perform_6 rfl hl (by decide) rfl (fun ls hl => ?_)
  refine lv_aload_n hx hb dX4_perform_7 rfl (lv_at hl 2 rfl) ?_
  refine va_get (D := D) (ci := 5) (v := .ref h1_d) (C := RX6) (T := TX6) (N := 5) hx hb hts iw_X4_perform_X6 hown hK hP 5 rfl rfl 1 (by decide) fl_87 (fun _ h9 => h9) rfl dX4_perform_8 ?_
  refine lv_iload_n hx hb dX4_perform_11 rfl (lv_at hl 3 rfl) ?_
  obtain ⟨i2, hf⟩ := gd_some hf
  refine va_iald hx hb hK hP 8 0 rfl rfl i2 dX4_perform_12 ?_
  refine lv_istore (lv' := [(4, .int (f1_d (x2).toNatClampNeg)), (3, .int (f1_kind (x2).toNatClampNeg)), (0, .ref h0), (1, .ref h1), (2, .int x2)]) hx hb dX4_perform_13 hl (by decide) rfl (fun ls hl => ?_)
  refine lv_aload_n hx hb dX4_perform_15 rfl (lv_at hl 3 rfl) ?_
  refine va_get (D := D) (ci := 5) (v := .ref h1_a) (C := RX6) (T := TX6) (N := 5) hx hb hts iw_X4_perform_X6 hown hK hP 5 rfl rfl 2 (by decide) fl_68 (fun _ h9 => h9) rfl dX4_perform_16 ?_
  refine lv_iload_n hx hb dX4_perform_19 rfl (lv_at hl 4 rfl) ?_
  obtain ⟨i3, hf⟩ := gd_some hf
  refine va_iald hx hb hK hP 6 0 rfl rfl i3 dX4_perform_20 ?_
  refine lv_istore (lv' := [(5, .int (f1_a (x2).toNatClampNeg)), (4, .int (f1_d (x2).toNatClampNeg)), (3, .int (f1_kind (x2).toNatClampNeg)), (0, .ref h0), (1, .ref h1), (2, .int x2)]) hx hb dX4_perform_21 hl (by decide) rfl (fun ls hl => ?_)
  refine lv_iload_n hx hb dX4_perform_23 rfl (lv_at hl 2 rfl) ?_
  by_cases c4 : (f1_kind (x2).toNatClampNeg) = (9 : Int32)
  · have hf := ite_t hf c4
    have e5 := sw_eq (k := 9) c4 (by decide)
    refine lv_tableIn (tgt := 56) (off := 32) hx hb dX4_perform_24 (by rw [e5]; decide) (by rw [e5]; decide) (by rw [e5]; rfl) (by decide) ?_
    refine lv_iload hx hb dX4_perform_56 (lv_at hl 1 rfl) ?_
    have hf := Option.some.inj hf
    subst hf
    exact g_iret hx hb hr hlocks (hP.sub [0, 1, 2, 3, 4, 5, 6, 7, 8, 9] rfl) (hD.sub [0, 1, 2, 3, 4, 5, 6, 7, 8, 9] (by decide) rfl) hK hS rfl dX4_perform_58
  have hf := ite_e hf c4
  by_cases c6 : (f1_kind (x2).toNatClampNeg) = (10 : Int32)
  · have hf := ite_t hf c6
    have e9 := sw_eq (k := 10) c6 (by decide)
    refine lv_tableIn (tgt := 59) (off := 35) hx hb dX4_perform_24 (by rw [e9]; decide) (by rw [e9]; decide) (by rw [e9]; rfl) (by decide) ?_
    refine lv_aload_n hx hb dX4_perform_59 rfl (lv_at hl 3 rfl) ?_
    refine va_get (D := D) (ci := 3) (v := .ref h0_registers) (C := RX4) (T := TX4) (N := 9) hx hb hts iw_X4_perform_X4 hown hK hP 0 rfl rfl 7 (by decide) fl_34 (fun _ h9 => h9) rfl dX4_perform_60 ?_
    refine lv_iload hx hb dX4_perform_63 (lv_at hl 0 rfl) ?_
    obtain ⟨i7, hf⟩ := gd_some hf
    refine va_iald hx hb hK hP 2 0 rfl rfl i7 dX4_perform_65 ?_
    refine lv_if_ne (tgt := 74) hx hb dX4_perform_66 (by decide) (fun c8 => ?_) (fun c8 => ?_)
    · have hf := ite_e hf c8
      refine lv_iload_n hx hb dX4_perform_74 rfl (lv_at hl 5 rfl) ?_
      refine lv_iconst (v := (1 : Int32)) hx hb dX4_perform_75 (by decide) ?_
      refine lv_iadd hx hb dX4_perform_76 ?_
      have hf := Option.some.inj hf
      subst hf
      exact g_iret hx hb hr hlocks (hP.sub [0, 1, 2, 3, 4, 5, 6, 7, 8, 9] rfl) (hD.sub [0, 1, 2, 3, 4, 5, 6, 7, 8, 9] (by decide) rfl) hK hS rfl dX4_perform_77
    · have hf := ite_t hf c8
      refine lv_iload hx hb dX4_perform_69 (lv_at hl 1 rfl) ?_
      refine lv_goto (tgt := 77) hx hb dX4_perform_71 (by decide) ?_
      have hf := Option.some.inj hf
      subst hf
      exact g_iret hx hb hr hlocks (hP.sub [0, 1, 2, 3, 4, 5, 6, 7, 8, 9] rfl) (hD.sub [0, 1, 2, 3, 4, 5, 6, 7, 8, 9] (by decide) rfl) hK hS rfl dX4_perform_77
  have hf := ite_e hf c6
  by_cases c10 : (f1_kind (x2).toNatClampNeg) = (11 : Int32)
  · have hf := ite_t hf c10
    have e14 := sw_eq (k := 11) c10 (by decide)
    refine lv_tableIn (tgt := 96) (off := 72) hx hb dX4_perform_24 (by rw [e14]; decide) (by rw [e14]; decide) (by rw [e14]; rfl) (by decide) ?_
    refine lv_aload_n hx hb dX4_perform_96 rfl (lv_at hl 3 rfl) ?_
    refine lv_iload_n hx hb dX4_perform_97 rfl (lv_at hl 2 rfl) ?_
    refine lv_iload hx hb dX4_perform_98 (lv_at hl 1 rfl) ?_
    refine lv_iload hx hb dX4_perform_100 (lv_at hl 0 rfl) ?_
    refine lv_aload_n hx hb dX4_perform_102 rfl (lv_at hl 4 rfl) ?_
    refine va_get (D := D) (ci := 5) (v := .ref h1_b) (C := RX6) (T := TX6) (N := 5) hx hb hts iw_X4_perform_X6 hown hK hP 5 rfl rfl 3 (by decide) fl_71 (fun _ h9 => h9) rfl dX4_perform_103 ?_
    refine lv_iload_n hx hb dX4_perform_106 rfl (lv_at hl 5 rfl) ?_
    obtain ⟨i11, hf⟩ := gd_some hf
    refine va_iald hx hb hK hP 7 0 rfl rfl i11 dX4_perform_107 ?_
    obtain ⟨u12, g13, hf⟩ := bd_some hf
    refine g_callVv S (c_X4_change l D cI cZ h0 h0_beginning h0_memory h0_trace h0_registers h0_slots _ f0_memory f0_registers f0_slots f0_trace v0_traceCount v0_done v0_ending v0_returned (f1_kind (x2).toNatClampNeg) (f1_d (x2).toNatClampNeg) (f1_a (x2).toNatClampNeg) (f1_b (x2).toNatClampNeg) u12 g13) (cwV 4 hts gX4_perform_X4_change rfl rfl rfl (by decide +kernel) ⟨Nat.le_of_ble_eq_true rfl, Nat.le_of_ble_eq_true rfl⟩) hK hP hD hS hA 0 (ci := 3) rfl rfl [0, 1, 2, 3, 4] [5, 6, 7, 8, 9] [(h1, .inr (5, [.ref h1_kind, .ref h1_d, .ref h1_a, .ref h1_b, .int v1_count])), (h1_a, .inl (cI, L1, .inl f1_a)), (h1_b, .inl (cI, L1, .inl f1_b)), (h1_d, .inl (cI, L1, .inl f1_d)), (h1_kind, .inl (cI, L1, .inl f1_kind))] rfl rfl (by decide) (by decide) (by decide) rfl hl.1 rfl (Nat.le_of_ble_eq_true rfl) dX4_perform_108 ⟨Nat.le_of_ble_eq_true rfl, Nat.le_of_ble_eq_true rfl⟩ (fun H locs hP hD hS => ?_)
    have hP : va_P D vwCl [(h1, .inr (5, [.ref h1_kind, .ref h1_d, .ref h1_a, .ref h1_b, .int v1_count])), (h1_a, .inl (cI, L1, .inl f1_a)), (h1_b, .inl (cI, L1, .inl f1_b)), (h1_d, .inl (cI, L1, .inl f1_d)), (h1_kind, .inl (cI, L1, .inl f1_kind)), (h0, .inr (3, [.ref h0_beginning, .ref h0_memory, .ref h0_trace, .int u12.2.2.2.2, .int v0_done, .int v0_ending, .int v0_returned, .ref h0_registers, .ref h0_slots])), (h0_memory, .inl (cI, 8, .inl u12.1)), (h0_registers, .inl (cI, 8, .inl u12.2.1)), (h0_slots, .inl (cI, 8, .inl u12.2.2.1)), (h0_trace, .inl (cI, 16, .inl u12.2.2.2.1))] H := hP
    have hD : va_D A [(h1, .inr (5, [.ref h1_kind, .ref h1_d, .ref h1_a, .ref h1_b, .int v1_count])), (h1_a, .inl (cI, L1, .inl f1_a)), (h1_b, .inl (cI, L1, .inl f1_b)), (h1_d, .inl (cI, L1, .inl f1_d)), (h1_kind, .inl (cI, L1, .inl f1_kind)), (h0, .inr (3, [.ref h0_beginning, .ref h0_memory, .ref h0_trace, .int u12.2.2.2.2, .int v0_done, .int v0_ending, .int v0_returned, .ref h0_registers, .ref h0_slots])), (h0_memory, .inl (cI, 8, .inl u12.1)), (h0_registers, .inl (cI, 8, .inl u12.2.1)), (h0_slots, .inl (cI, 8, .inl u12.2.2.1)), (h0_trace, .inl (cI, 16, .inl u12.2.2.2.1))] := hD
    refine lv_iload_n hx hb dX4_perform_111 rfl (lv_at hl 5 rfl) ?_
    refine lv_iconst (v := (1 : Int32)) hx hb dX4_perform_112 (by decide) ?_
    refine lv_iadd hx hb dX4_perform_113 ?_
    have hf := Option.some.inj hf
    subst hf
    exact g_iret hx hb hr hlocks (hP.sub [5, 6, 7, 8, 9, 0, 1, 2, 3, 4] rfl) (hD.sub [5, 6, 7, 8, 9, 0, 1, 2, 3, 4] (by decide) rfl) hK hS rfl dX4_perform_114
  have hf := ite_e hf c10
  by_cases c15 : (f1_kind (x2).toNatClampNeg) = (12 : Int32)
  · have hf := ite_t hf c15
    have e17 := sw_eq (k := 12) c15 (by decide)
    refine lv_tableIn (tgt := 78) (off := 54) hx hb dX4_perform_24 (by rw [e17]; decide) (by rw [e17]; decide) (by rw [e17]; rfl) (by decide) ?_
    refine lv_aload_n hx hb dX4_perform_78 rfl (lv_at hl 3 rfl) ?_
    refine lv_aload_n hx hb dX4_perform_79 rfl (lv_at hl 3 rfl) ?_
    refine va_get (D := D) (ci := 3) (v := .ref h0_registers) (C := RX4) (T := TX4) (N := 9) hx hb hts iw_X4_perform_X4 hown hK hP 0 rfl rfl 7 (by decide) fl_34 (fun _ h9 => h9) rfl dX4_perform_80 ?_
    refine lv_iload hx hb dX4_perform_83 (lv_at hl 0 rfl) ?_
    obtain ⟨i16, hf⟩ := gd_some hf
    refine va_iald hx hb hK hP 2 0 rfl rfl i16 dX4_perform_85 ?_
    refine va_put (D := D) (ci := 3) (v := .int (f0_registers ((f1_a (x2).toNatClampNeg)).toNatClampNeg)) (ty := .int) (C := RX4) (T := TX4) (N := 9) hx hb hts iw_X4_perform_X4 tyX4 tyX4_ok nmX4 hown hK hP hD hS 0 rfl rfl 6 (by decide) fl_31 (fun _ h9 => h9) rfl (by decide +kernel) rfl rfl (Nat.le_of_ble_eq_true rfl) dX4_perform_86 (fun H locs hP hD hS => ?_)
    have hP : va_P D vwCl [(h0, .inr (3, [.ref h0_beginning, .ref h0_memory, .ref h0_trace, .int v0_traceCount, .int v0_done, .int v0_ending, .int (f0_registers ((f1_a (x2).toNatClampNeg)).toNatClampNeg), .ref h0_registers, .ref h0_slots])), (h0_memory, .inl (cI, 8, .inl f0_memory)), (h0_registers, .inl (cI, 8, .inl f0_registers)), (h0_slots, .inl (cI, 8, .inl f0_slots)), (h0_trace, .inl (cI, 16, .inl f0_trace)), (h1, .inr (5, [.ref h1_kind, .ref h1_d, .ref h1_a, .ref h1_b, .int v1_count])), (h1_a, .inl (cI, L1, .inl f1_a)), (h1_b, .inl (cI, L1, .inl f1_b)), (h1_d, .inl (cI, L1, .inl f1_d)), (h1_kind, .inl (cI, L1, .inl f1_kind))] H := hP
    have hD : va_D A [(h0, .inr (3, [.ref h0_beginning, .ref h0_memory, .ref h0_trace, .int v0_traceCount, .int v0_done, .int v0_ending, .int (f0_registers ((f1_a (x2).toNatClampNeg)).toNatClampNeg), .ref h0_registers, .ref h0_slots])), (h0_memory, .inl (cI, 8, .inl f0_memory)), (h0_registers, .inl (cI, 8, .inl f0_registers)), (h0_slots, .inl (cI, 8, .inl f0_slots)), (h0_trace, .inl (cI, 16, .inl f0_trace)), (h1, .inr (5, [.ref h1_kind, .ref h1_d, .ref h1_a, .ref h1_b, .int v1_count])), (h1_a, .inl (cI, L1, .inl f1_a)), (h1_b, .inl (cI, L1, .inl f1_b)), (h1_d, .inl (cI, L1, .inl f1_d)), (h1_kind, .inl (cI, L1, .inl f1_kind))] := hD
    refine lv_aload_n hx hb dX4_perform_89 rfl (lv_at hl 3 rfl) ?_
    refine lv_iconst (v := (0 : Int32)) hx hb dX4_perform_90 (by decide) ?_
    refine va_put (D := D) (ci := 3) (v := .int (0 : Int32)) (ty := .int) (C := RX4) (T := TX4) (N := 9) hx hb hts iw_X4_perform_X4 tyX4 tyX4_ok nmX4 hown hK hP hD hS 0 rfl rfl 5 (by decide) fl_28 (fun _ h9 => h9) rfl (by decide +kernel) rfl rfl (Nat.le_of_ble_eq_true rfl) dX4_perform_91 (fun H locs hP hD hS => ?_)
    have hP : va_P D vwCl [(h0, .inr (3, [.ref h0_beginning, .ref h0_memory, .ref h0_trace, .int v0_traceCount, .int v0_done, .int (0 : Int32), .int (f0_registers ((f1_a (x2).toNatClampNeg)).toNatClampNeg), .ref h0_registers, .ref h0_slots])), (h0_memory, .inl (cI, 8, .inl f0_memory)), (h0_registers, .inl (cI, 8, .inl f0_registers)), (h0_slots, .inl (cI, 8, .inl f0_slots)), (h0_trace, .inl (cI, 16, .inl f0_trace)), (h1, .inr (5, [.ref h1_kind, .ref h1_d, .ref h1_a, .ref h1_b, .int v1_count])), (h1_a, .inl (cI, L1, .inl f1_a)), (h1_b, .inl (cI, L1, .inl f1_b)), (h1_d, .inl (cI, L1, .inl f1_d)), (h1_kind, .inl (cI, L1, .inl f1_kind))] H := hP
    have hD : va_D A [(h0, .inr (3, [.ref h0_beginning, .ref h0_memory, .ref h0_trace, .int v0_traceCount, .int v0_done, .int (0 : Int32), .int (f0_registers ((f1_a (x2).toNatClampNeg)).toNatClampNeg), .ref h0_registers, .ref h0_slots])), (h0_memory, .inl (cI, 8, .inl f0_memory)), (h0_registers, .inl (cI, 8, .inl f0_registers)), (h0_slots, .inl (cI, 8, .inl f0_slots)), (h0_trace, .inl (cI, 16, .inl f0_trace)), (h1, .inr (5, [.ref h1_kind, .ref h1_d, .ref h1_a, .ref h1_b, .int v1_count])), (h1_a, .inl (cI, L1, .inl f1_a)), (h1_b, .inl (cI, L1, .inl f1_b)), (h1_d, .inl (cI, L1, .inl f1_d)), (h1_kind, .inl (cI, L1, .inl f1_kind))] := hD
    refine lv_iload_n hx hb dX4_perform_94 rfl (lv_at hl 5 rfl) ?_
    have hf := Option.some.inj hf
    subst hf
    exact g_iret hx hb hr hlocks (hP.sub [0, 1, 2, 3, 4, 5, 6, 7, 8, 9] rfl) (hD.sub [0, 1, 2, 3, 4, 5, 6, 7, 8, 9] (by decide) rfl) hK hS rfl dX4_perform_95
  have hf := ite_e hf c15
  have e21 := sw_ne (k := 9) c4 (by decide)
  have e22 := sw_ne (k := 10) c6 (by decide)
  have e23 := sw_ne (k := 11) c10 (by decide)
  have e24 := sw_ne (k := 12) c15 (by decide)
  refine lv_tableOut (tgt := 96) hx hb dX4_perform_24 (by omega) (by decide) ?_
  refine lv_aload_n hx hb dX4_perform_96 rfl (lv_at hl 3 rfl) ?_
  refine lv_iload_n hx hb dX4_perform_97 rfl (lv_at hl 2 rfl) ?_
  refine lv_iload hx hb dX4_perform_98 (lv_at hl 1 rfl) ?_
  refine lv_iload hx hb dX4_perform_100 (lv_at hl 0 rfl) ?_
  refine lv_aload_n hx hb dX4_perform_102 rfl (lv_at hl 4 rfl) ?_
  refine va_get (D := D) (ci := 5) (v := .ref h1_b) (C := RX6) (T := TX6) (N := 5) hx hb hts iw_X4_perform_X6 hown hK hP 5 rfl rfl 3 (by decide) fl_71 (fun _ h9 => h9) rfl dX4_perform_103 ?_
  refine lv_iload_n hx hb dX4_perform_106 rfl (lv_at hl 5 rfl) ?_
  obtain ⟨i18, hf⟩ := gd_some hf
  refine va_iald hx hb hK hP 7 0 rfl rfl i18 dX4_perform_107 ?_
  obtain ⟨u19, g20, hf⟩ := bd_some hf
  refine g_callVv S (c_X4_change l D cI cZ h0 h0_beginning h0_memory h0_trace h0_registers h0_slots _ f0_memory f0_registers f0_slots f0_trace v0_traceCount v0_done v0_ending v0_returned (f1_kind (x2).toNatClampNeg) (f1_d (x2).toNatClampNeg) (f1_a (x2).toNatClampNeg) (f1_b (x2).toNatClampNeg) u19 g20) (cwV 4 hts gX4_perform_X4_change rfl rfl rfl (by decide +kernel) ⟨Nat.le_of_ble_eq_true rfl, Nat.le_of_ble_eq_true rfl⟩) hK hP hD hS hA 0 (ci := 3) rfl rfl [0, 1, 2, 3, 4] [5, 6, 7, 8, 9] [(h1, .inr (5, [.ref h1_kind, .ref h1_d, .ref h1_a, .ref h1_b, .int v1_count])), (h1_a, .inl (cI, L1, .inl f1_a)), (h1_b, .inl (cI, L1, .inl f1_b)), (h1_d, .inl (cI, L1, .inl f1_d)), (h1_kind, .inl (cI, L1, .inl f1_kind))] rfl rfl (by decide) (by decide) (by decide) rfl hl.1 rfl (Nat.le_of_ble_eq_true rfl) dX4_perform_108 ⟨Nat.le_of_ble_eq_true rfl, Nat.le_of_ble_eq_true rfl⟩ (fun H locs hP hD hS => ?_)
  have hP : va_P D vwCl [(h1, .inr (5, [.ref h1_kind, .ref h1_d, .ref h1_a, .ref h1_b, .int v1_count])), (h1_a, .inl (cI, L1, .inl f1_a)), (h1_b, .inl (cI, L1, .inl f1_b)), (h1_d, .inl (cI, L1, .inl f1_d)), (h1_kind, .inl (cI, L1, .inl f1_kind)), (h0, .inr (3, [.ref h0_beginning, .ref h0_memory, .ref h0_trace, .int u19.2.2.2.2, .int v0_done, .int v0_ending, .int v0_returned, .ref h0_registers, .ref h0_slots])), (h0_memory, .inl (cI, 8, .inl u19.1)), (h0_registers, .inl (cI, 8, .inl u19.2.1)), (h0_slots, .inl (cI, 8, .inl u19.2.2.1)), (h0_trace, .inl (cI, 16, .inl u19.2.2.2.1))] H := hP
  have hD : va_D A [(h1, .inr (5, [.ref h1_kind, .ref h1_d, .ref h1_a, .ref h1_b, .int v1_count])), (h1_a, .inl (cI, L1, .inl f1_a)), (h1_b, .inl (cI, L1, .inl f1_b)), (h1_d, .inl (cI, L1, .inl f1_d)), (h1_kind, .inl (cI, L1, .inl f1_kind)), (h0, .inr (3, [.ref h0_beginning, .ref h0_memory, .ref h0_trace, .int u19.2.2.2.2, .int v0_done, .int v0_ending, .int v0_returned, .ref h0_registers, .ref h0_slots])), (h0_memory, .inl (cI, 8, .inl u19.1)), (h0_registers, .inl (cI, 8, .inl u19.2.1)), (h0_slots, .inl (cI, 8, .inl u19.2.2.1)), (h0_trace, .inl (cI, 16, .inl u19.2.2.2.1))] := hD
  refine lv_iload_n hx hb dX4_perform_111 rfl (lv_at hl 5 rfl) ?_
  refine lv_iconst (v := (1 : Int32)) hx hb dX4_perform_112 (by decide) ?_
  refine lv_iadd hx hb dX4_perform_113 ?_
  have hf := Option.some.inj hf
  subst hf
  exact g_iret hx hb hr hlocks (hP.sub [5, 6, 7, 8, 9, 0, 1, 2, 3, 4] rfl) (hD.sub [5, 6, 7, 8, 9, 0, 1, 2, 3, 4] (by decide) rfl) hK hS rfl dX4_perform_114

def f_X4_faultOf_43    (f0_registers : (Nat → Int32)) (v0_traceCount : Int32) (x1 : Int32) : Option Int32 := if x1 = (11 : Int32) then (if v0_traceCount < (16 : Int32) then (some (-1 : Int32)) else (some (4 : Int32))) else (some (-1 : Int32))
def f_X4_faultOf_29    (f0_registers : (Nat → Int32)) (v0_traceCount : Int32) (x1 x2 : Int32) : Option Int32 := gd x2 8 ((f_X2_isCell (f0_registers (x2).toNatClampNeg)).bind (fun u4 => if u4 = 0 then (some (2 : Int32)) else (f_X4_faultOf_43 f0_registers v0_traceCount x1)))
def f_X4_faultOf_17    (f0_registers : (Nat → Int32)) (v0_traceCount : Int32) (x1 x2 : Int32) : Option Int32 := if x1 = (7 : Int32) then (f_X4_faultOf_29 f0_registers v0_traceCount x1 x2) else (if x1 = (8 : Int32) then (f_X4_faultOf_29 f0_registers v0_traceCount x1 x2) else (f_X4_faultOf_43 f0_registers v0_traceCount x1))
def f_X4_faultOf   (f0_registers : (Nat → Int32)) (v0_traceCount : Int32) (x1 x2 x3 : Int32) : Option Int32 := if x1 = (6 : Int32) then (gd x3 8 (if (f0_registers (x3).toNatClampNeg) = 0 then (some (1 : Int32)) else (f_X4_faultOf_17 f0_registers v0_traceCount x1 x2))) else (f_X4_faultOf_17 f0_registers v0_traceCount x1 x2)
theorem iw_X4_faultOf_X4 : ∀ w ∈ wsX40, w ∈ wsX4_faultOf := by decide +kernel
set_option maxHeartbeats 4000000 in
set_option maxRecDepth 100000 in
theorem c_X4_faultOf (l : Launch) (D : va_G) (cI cZ : ClassId) (h0 h0_beginning h0_memory h0_trace h0_registers h0_slots : Nat) (sz : Nat)  (f0_registers : Nat → Int32) (v0_traceCount v0_done v0_ending v0_returned : Int32)  (x1 x2 x3 : Int32) (res : Int32) (hf : f_X4_faultOf f0_registers v0_traceCount x1 x2 x3 = some res) : Ct_i l yX4_faultOf wsX4_faultOf ({ frames := 1, cells := 0, slots := 0, locals := 20 }) D [(cI, .int), (cZ, .boolean)] [.ref h0, .int x1, .int x2, .int x3] sz [(h0, .inr (3, [.ref h0_beginning, .ref h0_memory, .ref h0_trace, .int v0_traceCount, .int v0_done, .int v0_ending, .int v0_returned, .ref h0_registers, .ref h0_slots])), (h0_registers, .inl (cI, 8, .inl f0_registers))] res [(h0, .inr (3, [.ref h0_beginning, .ref h0_memory, .ref h0_trace, .int v0_traceCount, .int v0_done, .int v0_ending, .int v0_returned, .ref h0_registers, .ref h0_slots])), (h0_registers, .inl (cI, 8, .inl f0_registers))] := by
  refine g_of (cc := cX4_faultOf) (maxL := 4) (ret := some .int) (QQ := (fun A => g_Qi D [(cI, .int), (cZ, .boolean)] A res [(h0, .inr (3, [.ref h0_beginning, .ref h0_memory, .ref h0_trace, .int v0_traceCount, .int v0_done, .int v0_ending, .int v0_returned, .ref h0_registers, .ref h0_slots])), (h0_registers, .inl (cI, 8, .inl f0_registers))])) (by decide) rfl (Nat.le_of_ble_eq_true rfl) ?_
  intro p e s m args below meth c A ls S hr hlocks hA hP hK hD hl
  show W p l e ({ frames := 1, cells := 0, slots := 0, locals := 20 }) s m args below meth c s.heap [] 0 0 (MQ below (g_Qi D [(cI, .int), (cZ, .boolean)] A res [(h0, .inr (3, [.ref h0_beginning, .ref h0_memory, .ref h0_trace, .int v0_traceCount, .int v0_done, .int v0_ending, .int v0_returned, .ref h0_registers, .ref h0_slots])), (h0_registers, .inl (cI, 8, .inl f0_registers))]) args s 0 0 A) (F0 m 0 ls [])
  have hx := S.1
  have hb := S.2.1
  have hml := S.2.2.1
  have hown := S.2.2.2.1
  have hts := S.2.2.2.2
  have fl_21 := hts (.fieldLink RX4 21 "PassPipeline$Machine" "traceCount" "I") (by decide +kernel)
  have fl_34 := hts (.fieldLink RX4 34 "PassPipeline$Machine" "registers" "[I") (by decide +kernel)
  have hS : va_S A s.heap s.heap [] := va_S.rf
  have hl : lv_has ls 4 [(0, .ref h0), (1, .int x1), (2, .int x2), (3, .int x3)] := hl
  have hJ_43 : ∀  (x1 : Int32) (H : Heap) (locs : List Loc) (ls : Array Slot), f_X4_faultOf_43 f0_registers v0_traceCount x1 = some res → va_P D vwCl [(h0, .inr (3, [.ref h0_beginning, .ref h0_memory, .ref h0_trace, .int v0_traceCount, .int v0_done, .int v0_ending, .int v0_returned, .ref h0_registers, .ref h0_slots])), (h0_registers, .inl (cI, 8, .inl f0_registers))] H → va_D A [(h0, .inr (3, [.ref h0_beginning, .ref h0_memory, .ref h0_trace, .int v0_traceCount, .int v0_done, .int v0_ending, .int v0_returned, .ref h0_registers, .ref h0_slots])), (h0_registers, .inl (cI, 8, .inl f0_registers))] → va_S A s.heap H locs → lv_has ls 4 [(0, .ref h0), (1, .int x1)] → W p l e ({ frames := 1, cells := 0, slots := 0, locals := 20 }) s m args below meth c H locs 0 0 (MQ below (g_Qi D [(cI, .int), (cZ, .boolean)] A res [(h0, .inr (3, [.ref h0_beginning, .ref h0_memory, .ref h0_trace, .int v0_traceCount, .int v0_done, .int v0_ending, .int v0_returned, .ref h0_registers, .ref h0_slots])), (h0_registers, .inl (cI, 8, .inl f0_registers))]) args s 0 0 A) (F0 m 43 ls []) := by
    intro x1 H locs ls hf hP hD hS hl
    unfold f_X4_faultOf_43 at hf
    refine lv_iload_n hx hb dX4_faultOf_43 rfl (lv_at hl 1 rfl) ?_
    refine lv_bipush (v := (11 : Int32)) hx hb dX4_faultOf_44 (by decide +kernel) ?_
    refine lv_icmp_ne (tgt := 62) hx hb dX4_faultOf_46 (by decide) (fun c1 => ?_) (fun c1 => ?_)
    · have hf := ite_e hf c1
      refine lv_iconst (v := (-1 : Int32)) hx hb dX4_faultOf_62 (by decide) ?_
      have hf := Option.some.inj hf
      subst hf
      exact g_iret hx hb hr hlocks (hP.sub [0, 1] rfl) (hD.sub [0, 1] (by decide) rfl) hK hS rfl dX4_faultOf_63
    · have hf := ite_t hf c1
      refine lv_aload_n hx hb dX4_faultOf_49 rfl (lv_at hl 0 rfl) ?_
      refine va_get (D := D) (ci := 3) (v := .int v0_traceCount) (C := RX4) (T := TX4) (N := 9) hx hb hts iw_X4_faultOf_X4 hown hK hP 0 rfl rfl 3 (by decide) fl_21 (fun _ h9 => h9) rfl dX4_faultOf_50 ?_
      refine lv_bipush (v := (16 : Int32)) hx hb dX4_faultOf_53 (by decide +kernel) ?_
      refine lv_icmp_lt (tgt := 62) hx hb dX4_faultOf_55 (by decide) (fun c2 => ?_) (fun c2 => ?_)
      · have hf := ite_t hf c2
        refine lv_iconst (v := (-1 : Int32)) hx hb dX4_faultOf_62 (by decide) ?_
        have hf := Option.some.inj hf
        subst hf
        exact g_iret hx hb hr hlocks (hP.sub [0, 1] rfl) (hD.sub [0, 1] (by decide) rfl) hK hS rfl dX4_faultOf_63
      · have hf := ite_e hf c2
        refine lv_iconst (v := (4 : Int32)) hx hb dX4_faultOf_58 (by decide) ?_
        refine lv_goto (tgt := 63) hx hb dX4_faultOf_59 (by decide) ?_
        have hf := Option.some.inj hf
        subst hf
        exact g_iret hx hb hr hlocks (hP.sub [0, 1] rfl) (hD.sub [0, 1] (by decide) rfl) hK hS rfl dX4_faultOf_63
  have hJ_29 : ∀  (x1 x2 : Int32) (H : Heap) (locs : List Loc) (ls : Array Slot), f_X4_faultOf_29 f0_registers v0_traceCount x1 x2 = some res → va_P D vwCl [(h0, .inr (3, [.ref h0_beginning, .ref h0_memory, .ref h0_trace, .int v0_traceCount, .int v0_done, .int v0_ending, .int v0_returned, .ref h0_registers, .ref h0_slots])), (h0_registers, .inl (cI, 8, .inl f0_registers))] H → va_D A [(h0, .inr (3, [.ref h0_beginning, .ref h0_memory, .ref h0_trace, .int v0_traceCount, .int v0_done, .int v0_ending, .int v0_returned, .ref h0_registers, .ref h0_slots])), (h0_registers, .inl (cI, 8, .inl f0_registers))] → va_S A s.heap H locs → lv_has ls 4 [(0, .ref h0), (1, .int x1), (2, .int x2)] → W p l e ({ frames := 1, cells := 0, slots := 0, locals := 20 }) s m args below meth c H locs 0 0 (MQ below (g_Qi D [(cI, .int), (cZ, .boolean)] A res [(h0, .inr (3, [.ref h0_beginning, .ref h0_memory, .ref h0_trace, .int v0_traceCount, .int v0_done, .int v0_ending, .int v0_returned, .ref h0_registers, .ref h0_slots])), (h0_registers, .inl (cI, 8, .inl f0_registers))]) args s 0 0 A) (F0 m 29 ls []) := by
    intro x1 x2 H locs ls hf hP hD hS hl
    unfold f_X4_faultOf_29 at hf
    refine lv_aload_n hx hb dX4_faultOf_29 rfl (lv_at hl 0 rfl) ?_
    refine va_get (D := D) (ci := 3) (v := .ref h0_registers) (C := RX4) (T := TX4) (N := 9) hx hb hts iw_X4_faultOf_X4 hown hK hP 0 rfl rfl 7 (by decide) fl_34 (fun _ h9 => h9) rfl dX4_faultOf_30 ?_
    refine lv_iload_n hx hb dX4_faultOf_33 rfl (lv_at hl 2 rfl) ?_
    obtain ⟨i3, hf⟩ := gd_some hf
    refine va_iald hx hb hK hP 1 0 rfl rfl i3 dX4_faultOf_34 ?_
    obtain ⟨u4, g5, hf⟩ := bd_some hf
    refine g_callSi S (c_X2_isCell l D cI cZ _ (f0_registers (x2).toNatClampNeg) u4 g5) (va_cwS 1 hts gX4_faultOf_X2_isCell rfl rfl rfl (by decide +kernel) ⟨Nat.le_of_ble_eq_true rfl, Nat.le_of_ble_eq_true rfl⟩) hK hP hD hS hA [] [0, 1] [(h0, .inr (3, [.ref h0_beginning, .ref h0_memory, .ref h0_trace, .int v0_traceCount, .int v0_done, .int v0_ending, .int v0_returned, .ref h0_registers, .ref h0_slots])), (h0_registers, .inl (cI, 8, .inl f0_registers))] rfl rfl (by decide) (by decide) (by decide) rfl hl.1 rfl (Nat.le_of_ble_eq_true rfl) dX4_faultOf_35 ⟨Nat.le_of_ble_eq_true rfl, Nat.le_of_ble_eq_true rfl⟩ (fun H locs hP hD hS => ?_)
    have hP : va_P D vwCl [(h0, .inr (3, [.ref h0_beginning, .ref h0_memory, .ref h0_trace, .int v0_traceCount, .int v0_done, .int v0_ending, .int v0_returned, .ref h0_registers, .ref h0_slots])), (h0_registers, .inl (cI, 8, .inl f0_registers))] H := hP
    have hD : va_D A [(h0, .inr (3, [.ref h0_beginning, .ref h0_memory, .ref h0_trace, .int v0_traceCount, .int v0_done, .int v0_ending, .int v0_returned, .ref h0_registers, .ref h0_slots])), (h0_registers, .inl (cI, 8, .inl f0_registers))] := hD
    refine lv_if_ne (tgt := 43) hx hb dX4_faultOf_38 (by decide) (fun c6 => ?_) (fun c6 => ?_)
    · have hf := ite_e hf c6
      exact hJ_43 _ _ _ ls hf (hP.sub [0, 1] rfl) (hD.sub [0, 1] (by decide) rfl) hS (lv_sub hl [0, 1] rfl)
    · have hf := ite_t hf c6
      refine lv_iconst (v := (2 : Int32)) hx hb dX4_faultOf_41 (by decide) ?_
      have hf := Option.some.inj hf
      subst hf
      exact g_iret hx hb hr hlocks (hP.sub [0, 1] rfl) (hD.sub [0, 1] (by decide) rfl) hK hS rfl dX4_faultOf_42
  have hJ_17 : ∀  (x1 x2 : Int32) (H : Heap) (locs : List Loc) (ls : Array Slot), f_X4_faultOf_17 f0_registers v0_traceCount x1 x2 = some res → va_P D vwCl [(h0, .inr (3, [.ref h0_beginning, .ref h0_memory, .ref h0_trace, .int v0_traceCount, .int v0_done, .int v0_ending, .int v0_returned, .ref h0_registers, .ref h0_slots])), (h0_registers, .inl (cI, 8, .inl f0_registers))] H → va_D A [(h0, .inr (3, [.ref h0_beginning, .ref h0_memory, .ref h0_trace, .int v0_traceCount, .int v0_done, .int v0_ending, .int v0_returned, .ref h0_registers, .ref h0_slots])), (h0_registers, .inl (cI, 8, .inl f0_registers))] → va_S A s.heap H locs → lv_has ls 4 [(0, .ref h0), (1, .int x1), (2, .int x2)] → W p l e ({ frames := 1, cells := 0, slots := 0, locals := 20 }) s m args below meth c H locs 0 0 (MQ below (g_Qi D [(cI, .int), (cZ, .boolean)] A res [(h0, .inr (3, [.ref h0_beginning, .ref h0_memory, .ref h0_trace, .int v0_traceCount, .int v0_done, .int v0_ending, .int v0_returned, .ref h0_registers, .ref h0_slots])), (h0_registers, .inl (cI, 8, .inl f0_registers))]) args s 0 0 A) (F0 m 17 ls []) := by
    intro x1 x2 H locs ls hf hP hD hS hl
    unfold f_X4_faultOf_17 at hf
    refine lv_iload_n hx hb dX4_faultOf_17 rfl (lv_at hl 1 rfl) ?_
    refine lv_bipush (v := (7 : Int32)) hx hb dX4_faultOf_18 (by decide +kernel) ?_
    refine lv_icmp_eq (tgt := 29) hx hb dX4_faultOf_20 (by decide) (fun c7 => ?_) (fun c7 => ?_)
    · have hf := ite_t hf c7
      exact hJ_29 _ _ _ _ ls hf (hP.sub [0, 1] rfl) (hD.sub [0, 1] (by decide) rfl) hS (lv_sub hl [0, 1, 2] rfl)
    · have hf := ite_e hf c7
      refine lv_iload_n hx hb dX4_faultOf_23 rfl (lv_at hl 1 rfl) ?_
      refine lv_bipush (v := (8 : Int32)) hx hb dX4_faultOf_24 (by decide +kernel) ?_
      refine lv_icmp_ne (tgt := 43) hx hb dX4_faultOf_26 (by decide) (fun c8 => ?_) (fun c8 => ?_)
      · have hf := ite_e hf c8
        exact hJ_43 _ _ _ ls hf (hP.sub [0, 1] rfl) (hD.sub [0, 1] (by decide) rfl) hS (lv_sub hl [0, 1] rfl)
      · have hf := ite_t hf c8
        exact hJ_29 _ _ _ _ ls hf (hP.sub [0, 1] rfl) (hD.sub [0, 1] (by decide) rfl) hS (lv_sub hl [0, 1, 2] rfl)
  unfold f_X4_faultOf at hf
  refine lv_iload_n hx hb dX4_faultOf_0 rfl (lv_at hl 1 rfl) ?_
  refine lv_bipush (v := (6 : Int32)) hx hb dX4_faultOf_1 (by decide +kernel) ?_
  refine lv_icmp_ne (tgt := 17) hx hb dX4_faultOf_3 (by decide) (fun c9 => ?_) (fun c9 => ?_)
  · have hf := ite_e hf c9
    exact hJ_17 _ _ _ _ ls hf (hP.sub [0, 1] rfl) (hD.sub [0, 1] (by decide) rfl) hS (lv_sub hl [0, 1, 2] rfl)
  · have hf := ite_t hf c9
    refine lv_aload_n hx hb dX4_faultOf_6 rfl (lv_at hl 0 rfl) ?_
    refine va_get (D := D) (ci := 3) (v := .ref h0_registers) (C := RX4) (T := TX4) (N := 9) hx hb hts iw_X4_faultOf_X4 hown hK hP 0 rfl rfl 7 (by decide) fl_34 (fun _ h9 => h9) rfl dX4_faultOf_7 ?_
    refine lv_iload_n hx hb dX4_faultOf_10 rfl (lv_at hl 3 rfl) ?_
    obtain ⟨i10, hf⟩ := gd_some hf
    refine va_iald hx hb hK hP 1 0 rfl rfl i10 dX4_faultOf_11 ?_
    refine lv_if_ne (tgt := 17) hx hb dX4_faultOf_12 (by decide) (fun c11 => ?_) (fun c11 => ?_)
    · have hf := ite_e hf c11
      exact hJ_17 _ _ _ _ ls hf (hP.sub [0, 1] rfl) (hD.sub [0, 1] (by decide) rfl) hS (lv_sub hl [0, 1, 2] rfl)
    · have hf := ite_t hf c11
      refine lv_iconst (v := (1 : Int32)) hx hb dX4_faultOf_15 (by decide) ?_
      have hf := Option.some.inj hf
      subst hf
      exact g_iret hx hb hr hlocks (hP.sub [0, 1] rfl) (hD.sub [0, 1] (by decide) rfl) hK hS rfl dX4_faultOf_16

def f_X4_doNext_18   (L1 : Nat) (f0_memory : (Nat → Int32)) (f0_registers : (Nat → Int32)) (f0_slots : (Nat → Int32)) (f0_trace : (Nat → Int32)) (f1_a : (Nat → Int32)) (f1_b : (Nat → Int32)) (f1_d : (Nat → Int32)) (f1_kind : (Nat → Int32)) (v0_traceCount : Int32) (v0_done : Int32) (v0_ending : Int32) (v0_returned : Int32) (v1_count : Int32) (x2 : Int32) : Option (Int32 × (Nat → Int32) × (Nat → Int32) × (Nat → Int32) × (Nat → Int32) × Int32 × Int32 × Int32 × Int32) := some (x2, f0_memory, f0_registers, f0_slots, f0_trace, v0_traceCount, v0_done, (3 : Int32), v0_returned)
def f_X4_doNext  (L1 : Nat) (f0_memory : (Nat → Int32)) (f0_registers : (Nat → Int32)) (f0_slots : (Nat → Int32)) (f0_trace : (Nat → Int32)) (f1_a : (Nat → Int32)) (f1_b : (Nat → Int32)) (f1_d : (Nat → Int32)) (f1_kind : (Nat → Int32)) (v0_traceCount : Int32) (v0_done : Int32) (v0_ending : Int32) (v0_returned : Int32) (v1_count : Int32) (x2 : Int32) : Option (Int32 × (Nat → Int32) × (Nat → Int32) × (Nat → Int32) × (Nat → Int32) × Int32 × Int32 × Int32 × Int32) := if (400 : Int32) ≤ v0_done then (f_X4_doNext_18 L1 f0_memory f0_registers f0_slots f0_trace f1_a f1_b f1_d f1_kind v0_traceCount v0_done v0_ending v0_returned v1_count x2) else (if x2 < v1_count then (gd x2 L1 (gd x2 L1 (gd x2 L1 ((f_X4_faultOf f0_registers v0_traceCount (f1_kind (x2).toNatClampNeg) (f1_a (x2).toNatClampNeg) (f1_b (x2).toNatClampNeg)).bind (fun u6 => if u6 = (-1 : Int32) then ((f_X4_perform L1 f0_memory f0_registers f0_slots f0_trace f1_a f1_b f1_d f1_kind v0_traceCount u6 v0_returned x2).bind (fun u9 => some (u9.1, u9.2.1, u9.2.2.1, u9.2.2.2.1, u9.2.2.2.2.1, u9.2.2.2.2.2.1, (v0_done + (1 : Int32)), u9.2.2.2.2.2.2.1, u9.2.2.2.2.2.2.2))) else (some (x2, f0_memory, f0_registers, f0_slots, f0_trace, v0_traceCount, v0_done, u6, v0_returned))))))) else (f_X4_doNext_18 L1 f0_memory f0_registers f0_slots f0_trace f1_a f1_b f1_d f1_kind v0_traceCount v0_done v0_ending v0_returned v1_count x2))
theorem iw_X4_doNext_X4 : ∀ w ∈ wsX40, w ∈ wsX4_doNext := by decide +kernel
theorem iw_X4_doNext_X6 : ∀ w ∈ wsX60, w ∈ wsX4_doNext := by decide +kernel
set_option maxHeartbeats 4000000 in
set_option maxRecDepth 100000 in
theorem c_X4_doNext (l : Launch) (D : va_G) (cI cZ : ClassId) (h0 h1 h0_beginning h0_memory h0_trace h0_registers h0_slots h1_kind h1_d h1_a h1_b : Nat) (sz : Nat) (L1 : Nat) (f0_memory f0_registers f0_slots f0_trace f1_a f1_b f1_d f1_kind : Nat → Int32) (v0_traceCount v0_done v0_ending v0_returned v1_count : Int32)  (x2 : Int32) (res : (Int32 × (Nat → Int32) × (Nat → Int32) × (Nat → Int32) × (Nat → Int32) × Int32 × Int32 × Int32 × Int32)) (hf : f_X4_doNext L1 f0_memory f0_registers f0_slots f0_trace f1_a f1_b f1_d f1_kind v0_traceCount v0_done v0_ending v0_returned v1_count x2 = some res) : Ct_i l yX4_doNext wsX4_doNext ({ frames := 3, cells := 0, slots := 0, locals := 71 }) D [(cI, .int), (cZ, .boolean)] [.ref h0, .ref h1, .int x2] sz [(h0, .inr (3, [.ref h0_beginning, .ref h0_memory, .ref h0_trace, .int v0_traceCount, .int v0_done, .int v0_ending, .int v0_returned, .ref h0_registers, .ref h0_slots])), (h0_memory, .inl (cI, 8, .inl f0_memory)), (h0_registers, .inl (cI, 8, .inl f0_registers)), (h0_slots, .inl (cI, 8, .inl f0_slots)), (h0_trace, .inl (cI, 16, .inl f0_trace)), (h1, .inr (5, [.ref h1_kind, .ref h1_d, .ref h1_a, .ref h1_b, .int v1_count])), (h1_a, .inl (cI, L1, .inl f1_a)), (h1_b, .inl (cI, L1, .inl f1_b)), (h1_d, .inl (cI, L1, .inl f1_d)), (h1_kind, .inl (cI, L1, .inl f1_kind))] res.1 [(h0, .inr (3, [.ref h0_beginning, .ref h0_memory, .ref h0_trace, .int res.2.2.2.2.2.1, .int res.2.2.2.2.2.2.1, .int res.2.2.2.2.2.2.2.1, .int res.2.2.2.2.2.2.2.2, .ref h0_registers, .ref h0_slots])), (h0_memory, .inl (cI, 8, .inl res.2.1)), (h0_registers, .inl (cI, 8, .inl res.2.2.1)), (h0_slots, .inl (cI, 8, .inl res.2.2.2.1)), (h0_trace, .inl (cI, 16, .inl res.2.2.2.2.1)), (h1, .inr (5, [.ref h1_kind, .ref h1_d, .ref h1_a, .ref h1_b, .int v1_count])), (h1_a, .inl (cI, L1, .inl f1_a)), (h1_b, .inl (cI, L1, .inl f1_b)), (h1_d, .inl (cI, L1, .inl f1_d)), (h1_kind, .inl (cI, L1, .inl f1_kind))] := by
  refine g_of (cc := cX4_doNext) (maxL := 3) (ret := some .int) (QQ := (fun A => g_Qi D [(cI, .int), (cZ, .boolean)] A res.1 [(h0, .inr (3, [.ref h0_beginning, .ref h0_memory, .ref h0_trace, .int res.2.2.2.2.2.1, .int res.2.2.2.2.2.2.1, .int res.2.2.2.2.2.2.2.1, .int res.2.2.2.2.2.2.2.2, .ref h0_registers, .ref h0_slots])), (h0_memory, .inl (cI, 8, .inl res.2.1)), (h0_registers, .inl (cI, 8, .inl res.2.2.1)), (h0_slots, .inl (cI, 8, .inl res.2.2.2.1)), (h0_trace, .inl (cI, 16, .inl res.2.2.2.2.1)), (h1, .inr (5, [.ref h1_kind, .ref h1_d, .ref h1_a, .ref h1_b, .int v1_count])), (h1_a, .inl (cI, L1, .inl f1_a)), (h1_b, .inl (cI, L1, .inl f1_b)), (h1_d, .inl (cI, L1, .inl f1_d)), (h1_kind, .inl (cI, L1, .inl f1_kind))])) (by decide) rfl (Nat.le_of_ble_eq_true rfl) ?_
  intro p e s m args below meth c A ls S hr hlocks hA hP hK hD hl
  show W p l e ({ frames := 3, cells := 0, slots := 0, locals := 71 }) s m args below meth c s.heap [] 0 0 (MQ below (g_Qi D [(cI, .int), (cZ, .boolean)] A res.1 [(h0, .inr (3, [.ref h0_beginning, .ref h0_memory, .ref h0_trace, .int res.2.2.2.2.2.1, .int res.2.2.2.2.2.2.1, .int res.2.2.2.2.2.2.2.1, .int res.2.2.2.2.2.2.2.2, .ref h0_registers, .ref h0_slots])), (h0_memory, .inl (cI, 8, .inl res.2.1)), (h0_registers, .inl (cI, 8, .inl res.2.2.1)), (h0_slots, .inl (cI, 8, .inl res.2.2.2.1)), (h0_trace, .inl (cI, 16, .inl res.2.2.2.2.1)), (h1, .inr (5, [.ref h1_kind, .ref h1_d, .ref h1_a, .ref h1_b, .int v1_count])), (h1_a, .inl (cI, L1, .inl f1_a)), (h1_b, .inl (cI, L1, .inl f1_b)), (h1_d, .inl (cI, L1, .inl f1_d)), (h1_kind, .inl (cI, L1, .inl f1_kind))]) args s 0 0 A) (F0 m 0 ls [])
  have hx := S.1
  have hb := S.2.1
  have hml := S.2.2.1
  have hown := S.2.2.2.1
  have hts := S.2.2.2.2
  have fl_25 := hts (.fieldLink RX4 25 "PassPipeline$Machine" "done" "I") (by decide +kernel)
  have fl_28 := hts (.fieldLink RX4 28 "PassPipeline$Machine" "ending" "I") (by decide +kernel)
  have fl_60 := hts (.fieldLink RX4 60 "PassPipeline$Program" "count" "I") (by decide +kernel)
  have fl_65 := hts (.fieldLink RX4 65 "PassPipeline$Program" "kind" "[I") (by decide +kernel)
  have fl_68 := hts (.fieldLink RX4 68 "PassPipeline$Program" "a" "[I") (by decide +kernel)
  have fl_71 := hts (.fieldLink RX4 71 "PassPipeline$Program" "b" "[I") (by decide +kernel)
  have hS : va_S A s.heap s.heap [] := va_S.rf
  have hl : lv_has ls 3 [(0, .ref h0), (1, .ref h1), (2, .int x2)] := hl
  have hJ_18 : ∀ (f0_memory : (Nat → Int32)) (f0_registers : (Nat → Int32)) (f0_slots : (Nat → Int32)) (f0_trace : (Nat → Int32)) (v0_traceCount : Int32) (v0_done : Int32) (v0_ending : Int32) (v0_returned : Int32) (x2 : Int32) (H : Heap) (locs : List Loc) (ls : Array Slot), f_X4_doNext_18 L1 f0_memory f0_registers f0_slots f0_trace f1_a f1_b f1_d f1_kind v0_traceCount v0_done v0_ending v0_returned v1_count x2 = some res → va_P D vwCl [(h0, .inr (3, [.ref h0_beginning, .ref h0_memory, .ref h0_trace, .int v0_traceCount, .int v0_done, .int v0_ending, .int v0_returned, .ref h0_registers, .ref h0_slots])), (h0_memory, .inl (cI, 8, .inl f0_memory)), (h0_registers, .inl (cI, 8, .inl f0_registers)), (h0_slots, .inl (cI, 8, .inl f0_slots)), (h0_trace, .inl (cI, 16, .inl f0_trace)), (h1, .inr (5, [.ref h1_kind, .ref h1_d, .ref h1_a, .ref h1_b, .int v1_count])), (h1_a, .inl (cI, L1, .inl f1_a)), (h1_b, .inl (cI, L1, .inl f1_b)), (h1_d, .inl (cI, L1, .inl f1_d)), (h1_kind, .inl (cI, L1, .inl f1_kind))] H → va_D A [(h0, .inr (3, [.ref h0_beginning, .ref h0_memory, .ref h0_trace, .int v0_traceCount, .int v0_done, .int v0_ending, .int v0_returned, .ref h0_registers, .ref h0_slots])), (h0_memory, .inl (cI, 8, .inl f0_memory)), (h0_registers, .inl (cI, 8, .inl f0_registers)), (h0_slots, .inl (cI, 8, .inl f0_slots)), (h0_trace, .inl (cI, 16, .inl f0_trace)), (h1, .inr (5, [.ref h1_kind, .ref h1_d, .ref h1_a, .ref h1_b, .int v1_count])), (h1_a, .inl (cI, L1, .inl f1_a)), (h1_b, .inl (cI, L1, .inl f1_b)), (h1_d, .inl (cI, L1, .inl f1_d)), (h1_kind, .inl (cI, L1, .inl f1_kind))] → va_S A s.heap H locs → lv_has ls 3 [(0, .ref h0), (2, .int x2)] → W p l e ({ frames := 3, cells := 0, slots := 0, locals := 71 }) s m args below meth c H locs 0 0 (MQ below (g_Qi D [(cI, .int), (cZ, .boolean)] A res.1 [(h0, .inr (3, [.ref h0_beginning, .ref h0_memory, .ref h0_trace, .int res.2.2.2.2.2.1, .int res.2.2.2.2.2.2.1, .int res.2.2.2.2.2.2.2.1, .int res.2.2.2.2.2.2.2.2, .ref h0_registers, .ref h0_slots])), (h0_memory, .inl (cI, 8, .inl res.2.1)), (h0_registers, .inl (cI, 8, .inl res.2.2.1)), (h0_slots, .inl (cI, 8, .inl res.2.2.2.1)), (h0_trace, .inl (cI, 16, .inl res.2.2.2.2.1)), (h1, .inr (5, [.ref h1_kind, .ref h1_d, .ref h1_a, .ref h1_b, .int v1_count])), (h1_a, .inl (cI, L1, .inl f1_a)), (h1_b, .inl (cI, L1, .inl f1_b)), (h1_d, .inl (cI, L1, .inl f1_d)), (h1_kind, .inl (cI, L1, .inl f1_kind))]) args s 0 0 A) (F0 m 18 ls []) := by
    intro f0_memory f0_registers f0_slots f0_trace v0_traceCount v0_done v0_ending v0_returned x2 H locs ls hf hP hD hS hl
    unfold f_X4_doNext_18 at hf
    refine lv_aload_n hx hb dX4_doNext_18 rfl (lv_at hl 0 rfl) ?_
    refine lv_iconst (v := (3 : Int32)) hx hb dX4_doNext_19 (by decide) ?_
    refine va_put (D := D) (ci := 3) (v := .int (3 : Int32)) (ty := .int) (C := RX4) (T := TX4) (N := 9) hx hb hts iw_X4_doNext_X4 tyX4 tyX4_ok nmX4 hown hK hP hD hS 0 rfl rfl 5 (by decide) fl_28 (fun _ h9 => h9) rfl (by decide +kernel) rfl rfl (Nat.le_of_ble_eq_true rfl) dX4_doNext_20 (fun H locs hP hD hS => ?_)
    have hP : va_P D vwCl [(h0, .inr (3, [.ref h0_beginning, .ref h0_memory, .ref h0_trace, .int v0_traceCount, .int v0_done, .int (3 : Int32), .int v0_returned, .ref h0_registers, .ref h0_slots])), (h0_memory, .inl (cI, 8, .inl f0_memory)), (h0_registers, .inl (cI, 8, .inl f0_registers)), (h0_slots, .inl (cI, 8, .inl f0_slots)), (h0_trace, .inl (cI, 16, .inl f0_trace)), (h1, .inr (5, [.ref h1_kind, .ref h1_d, .ref h1_a, .ref h1_b, .int v1_count])), (h1_a, .inl (cI, L1, .inl f1_a)), (h1_b, .inl (cI, L1, .inl f1_b)), (h1_d, .inl (cI, L1, .inl f1_d)), (h1_kind, .inl (cI, L1, .inl f1_kind))] H := hP
    have hD : va_D A [(h0, .inr (3, [.ref h0_beginning, .ref h0_memory, .ref h0_trace, .int v0_traceCount, .int v0_done, .int (3 : Int32), .int v0_returned, .ref h0_registers, .ref h0_slots])), (h0_memory, .inl (cI, 8, .inl f0_memory)), (h0_registers, .inl (cI, 8, .inl f0_registers)), (h0_slots, .inl (cI, 8, .inl f0_slots)), (h0_trace, .inl (cI, 16, .inl f0_trace)), (h1, .inr (5, [.ref h1_kind, .ref h1_d, .ref h1_a, .ref h1_b, .int v1_count])), (h1_a, .inl (cI, L1, .inl f1_a)), (h1_b, .inl (cI, L1, .inl f1_b)), (h1_d, .inl (cI, L1, .inl f1_d)), (h1_kind, .inl (cI, L1, .inl f1_kind))] := hD
    refine lv_iload_n hx hb dX4_doNext_23 rfl (lv_at hl 1 rfl) ?_
    have hf := Option.some.inj hf
    subst hf
    exact g_iret hx hb hr hlocks (hP.sub [0, 1, 2, 3, 4, 5, 6, 7, 8, 9] rfl) (hD.sub [0, 1, 2, 3, 4, 5, 6, 7, 8, 9] (by decide) rfl) hK hS rfl dX4_doNext_24
  unfold f_X4_doNext at hf
  refine lv_aload_n hx hb dX4_doNext_0 rfl (lv_at hl 0 rfl) ?_
  refine va_get (D := D) (ci := 3) (v := .int v0_done) (C := RX4) (T := TX4) (N := 9) hx hb hts iw_X4_doNext_X4 hown hK hP 0 rfl rfl 4 (by decide) fl_25 (fun _ h9 => h9) rfl dX4_doNext_1 ?_
  refine lv_sipush (v := (400 : Int32)) hx hb dX4_doNext_4 (by decide +kernel) ?_
  refine lv_icmp_ge (tgt := 18) hx hb dX4_doNext_7 (by decide) (fun c1 => ?_) (fun c1 => ?_)
  · have hf := ite_t hf c1
    exact hJ_18 _ _ _ _ _ _ _ _ _ _ _ ls hf (hP.sub [0, 1, 2, 3, 4, 5, 6, 7, 8, 9] rfl) (hD.sub [0, 1, 2, 3, 4, 5, 6, 7, 8, 9] (by decide) rfl) hS (lv_sub hl [0, 2] rfl)
  · have hf := ite_e hf c1
    refine lv_iload_n hx hb dX4_doNext_10 rfl (lv_at hl 2 rfl) ?_
    refine lv_aload_n hx hb dX4_doNext_11 rfl (lv_at hl 1 rfl) ?_
    refine va_get (D := D) (ci := 5) (v := .int v1_count) (C := RX6) (T := TX6) (N := 5) hx hb hts iw_X4_doNext_X6 hown hK hP 5 rfl rfl 4 (by decide) fl_60 (fun _ h9 => h9) rfl dX4_doNext_12 ?_
    refine lv_icmp_lt (tgt := 25) hx hb dX4_doNext_15 (by decide) (fun c2 => ?_) (fun c2 => ?_)
    · have hf := ite_t hf c2
      refine lv_aload_n hx hb dX4_doNext_25 rfl (lv_at hl 0 rfl) ?_
      refine lv_aload_n hx hb dX4_doNext_26 rfl (lv_at hl 0 rfl) ?_
      refine lv_aload_n hx hb dX4_doNext_27 rfl (lv_at hl 1 rfl) ?_
      refine va_get (D := D) (ci := 5) (v := .ref h1_kind) (C := RX6) (T := TX6) (N := 5) hx hb hts iw_X4_doNext_X6 hown hK hP 5 rfl rfl 0 (by decide) fl_65 (fun _ h9 => h9) rfl dX4_doNext_28 ?_
      refine lv_iload_n hx hb dX4_doNext_31 rfl (lv_at hl 2 rfl) ?_
      obtain ⟨i3, hf⟩ := gd_some hf
      refine va_iald hx hb hK hP 9 0 rfl rfl i3 dX4_doNext_32 ?_
      refine lv_aload_n hx hb dX4_doNext_33 rfl (lv_at hl 1 rfl) ?_
      refine va_get (D := D) (ci := 5) (v := .ref h1_a) (C := RX6) (T := TX6) (N := 5) hx hb hts iw_X4_doNext_X6 hown hK hP 5 rfl rfl 2 (by decide) fl_68 (fun _ h9 => h9) rfl dX4_doNext_34 ?_
      refine lv_iload_n hx hb dX4_doNext_37 rfl (lv_at hl 2 rfl) ?_
      obtain ⟨i4, hf⟩ := gd_some hf
      refine va_iald hx hb hK hP 6 0 rfl rfl i4 dX4_doNext_38 ?_
      refine lv_aload_n hx hb dX4_doNext_39 rfl (lv_at hl 1 rfl) ?_
      refine va_get (D := D) (ci := 5) (v := .ref h1_b) (C := RX6) (T := TX6) (N := 5) hx hb hts iw_X4_doNext_X6 hown hK hP 5 rfl rfl 3 (by decide) fl_71 (fun _ h9 => h9) rfl dX4_doNext_40 ?_
      refine lv_iload_n hx hb dX4_doNext_43 rfl (lv_at hl 2 rfl) ?_
      obtain ⟨i5, hf⟩ := gd_some hf
      refine va_iald hx hb hK hP 7 0 rfl rfl i5 dX4_doNext_44 ?_
      obtain ⟨u6, g7, hf⟩ := bd_some hf
      refine g_callVi S (c_X4_faultOf l D cI cZ h0 h0_beginning h0_memory h0_trace h0_registers h0_slots _ f0_registers v0_traceCount v0_done v0_ending v0_returned (f1_kind (x2).toNatClampNeg) (f1_a (x2).toNatClampNeg) (f1_b (x2).toNatClampNeg) u6 g7) (cwV 3 hts gX4_doNext_X4_faultOf rfl rfl rfl (by decide +kernel) ⟨Nat.le_of_ble_eq_true rfl, Nat.le_of_ble_eq_true rfl⟩) hK hP hD hS hA 0 (ci := 3) rfl rfl [0, 2] [1, 3, 4, 5, 6, 7, 8, 9] [(h0_memory, .inl (cI, 8, .inl f0_memory)), (h0_slots, .inl (cI, 8, .inl f0_slots)), (h0_trace, .inl (cI, 16, .inl f0_trace)), (h1, .inr (5, [.ref h1_kind, .ref h1_d, .ref h1_a, .ref h1_b, .int v1_count])), (h1_a, .inl (cI, L1, .inl f1_a)), (h1_b, .inl (cI, L1, .inl f1_b)), (h1_d, .inl (cI, L1, .inl f1_d)), (h1_kind, .inl (cI, L1, .inl f1_kind))] rfl rfl (by decide) (by decide) (by decide) rfl hl.1 rfl (Nat.le_of_ble_eq_true rfl) dX4_doNext_45 ⟨Nat.le_of_ble_eq_true rfl, Nat.le_of_ble_eq_true rfl⟩ (fun H locs hP hD hS => ?_)
      have hP : va_P D vwCl [(h0_memory, .inl (cI, 8, .inl f0_memory)), (h0_slots, .inl (cI, 8, .inl f0_slots)), (h0_trace, .inl (cI, 16, .inl f0_trace)), (h1, .inr (5, [.ref h1_kind, .ref h1_d, .ref h1_a, .ref h1_b, .int v1_count])), (h1_a, .inl (cI, L1, .inl f1_a)), (h1_b, .inl (cI, L1, .inl f1_b)), (h1_d, .inl (cI, L1, .inl f1_d)), (h1_kind, .inl (cI, L1, .inl f1_kind)), (h0, .inr (3, [.ref h0_beginning, .ref h0_memory, .ref h0_trace, .int v0_traceCount, .int v0_done, .int v0_ending, .int v0_returned, .ref h0_registers, .ref h0_slots])), (h0_registers, .inl (cI, 8, .inl f0_registers))] H := hP
      have hD : va_D A [(h0_memory, .inl (cI, 8, .inl f0_memory)), (h0_slots, .inl (cI, 8, .inl f0_slots)), (h0_trace, .inl (cI, 16, .inl f0_trace)), (h1, .inr (5, [.ref h1_kind, .ref h1_d, .ref h1_a, .ref h1_b, .int v1_count])), (h1_a, .inl (cI, L1, .inl f1_a)), (h1_b, .inl (cI, L1, .inl f1_b)), (h1_d, .inl (cI, L1, .inl f1_d)), (h1_kind, .inl (cI, L1, .inl f1_kind)), (h0, .inr (3, [.ref h0_beginning, .ref h0_memory, .ref h0_trace, .int v0_traceCount, .int v0_done, .int v0_ending, .int v0_returned, .ref h0_registers, .ref h0_slots])), (h0_registers, .inl (cI, 8, .inl f0_registers))] := hD
      refine va_put (D := D) (ci := 3) (v := .int u6) (ty := .int) (C := RX4) (T := TX4) (N := 9) hx hb hts iw_X4_doNext_X4 tyX4 tyX4_ok nmX4 hown hK hP hD hS 8 rfl rfl 5 (by decide) fl_28 (fun _ h9 => h9) rfl (by decide +kernel) rfl rfl (Nat.le_of_ble_eq_true rfl) dX4_doNext_48 (fun H locs hP hD hS => ?_)
      have hP : va_P D vwCl [(h0_memory, .inl (cI, 8, .inl f0_memory)), (h0_slots, .inl (cI, 8, .inl f0_slots)), (h0_trace, .inl (cI, 16, .inl f0_trace)), (h1, .inr (5, [.ref h1_kind, .ref h1_d, .ref h1_a, .ref h1_b, .int v1_count])), (h1_a, .inl (cI, L1, .inl f1_a)), (h1_b, .inl (cI, L1, .inl f1_b)), (h1_d, .inl (cI, L1, .inl f1_d)), (h1_kind, .inl (cI, L1, .inl f1_kind)), (h0, .inr (3, [.ref h0_beginning, .ref h0_memory, .ref h0_trace, .int v0_traceCount, .int v0_done, .int u6, .int v0_returned, .ref h0_registers, .ref h0_slots])), (h0_registers, .inl (cI, 8, .inl f0_registers))] H := hP
      have hD : va_D A [(h0_memory, .inl (cI, 8, .inl f0_memory)), (h0_slots, .inl (cI, 8, .inl f0_slots)), (h0_trace, .inl (cI, 16, .inl f0_trace)), (h1, .inr (5, [.ref h1_kind, .ref h1_d, .ref h1_a, .ref h1_b, .int v1_count])), (h1_a, .inl (cI, L1, .inl f1_a)), (h1_b, .inl (cI, L1, .inl f1_b)), (h1_d, .inl (cI, L1, .inl f1_d)), (h1_kind, .inl (cI, L1, .inl f1_kind)), (h0, .inr (3, [.ref h0_beginning, .ref h0_memory, .ref h0_trace, .int v0_traceCount, .int v0_done, .int u6, .int v0_returned, .ref h0_registers, .ref h0_slots])), (h0_registers, .inl (cI, 8, .inl f0_registers))] := hD
      refine lv_aload_n hx hb dX4_doNext_51 rfl (lv_at hl 0 rfl) ?_
      refine va_get (D := D) (ci := 3) (v := .int u6) (C := RX4) (T := TX4) (N := 9) hx hb hts iw_X4_doNext_X4 hown hK hP 8 rfl rfl 5 (by decide) fl_28 (fun _ h9 => h9) rfl dX4_doNext_52 ?_
      refine lv_iconst (v := (-1 : Int32)) hx hb dX4_doNext_55 (by decide) ?_
      refine lv_icmp_eq (tgt := 61) hx hb dX4_doNext_56 (by decide) (fun c8 => ?_) (fun c8 => ?_)
      · have hf := ite_t hf c8
        refine lv_aload_n hx hb dX4_doNext_61 rfl (lv_at hl 0 rfl) ?_
        refine lv_dup hx hb dX4_doNext_62 rfl ?_
        refine va_get (D := D) (ci := 3) (v := .int v0_done) (C := RX4) (T := TX4) (N := 9) hx hb hts iw_X4_doNext_X4 hown hK hP 8 rfl rfl 4 (by decide) fl_25 (fun _ h9 => h9) rfl dX4_doNext_63 ?_
        refine lv_iconst (v := (1 : Int32)) hx hb dX4_doNext_66 (by decide) ?_
        refine lv_iadd hx hb dX4_doNext_67 ?_
        refine va_put (D := D) (ci := 3) (v := .int (v0_done + (1 : Int32))) (ty := .int) (C := RX4) (T := TX4) (N := 9) hx hb hts iw_X4_doNext_X4 tyX4 tyX4_ok nmX4 hown hK hP hD hS 8 rfl rfl 4 (by decide) fl_25 (fun _ h9 => h9) rfl (by decide +kernel) rfl rfl (Nat.le_of_ble_eq_true rfl) dX4_doNext_68 (fun H locs hP hD hS => ?_)
        have hP : va_P D vwCl [(h0_memory, .inl (cI, 8, .inl f0_memory)), (h0_slots, .inl (cI, 8, .inl f0_slots)), (h0_trace, .inl (cI, 16, .inl f0_trace)), (h1, .inr (5, [.ref h1_kind, .ref h1_d, .ref h1_a, .ref h1_b, .int v1_count])), (h1_a, .inl (cI, L1, .inl f1_a)), (h1_b, .inl (cI, L1, .inl f1_b)), (h1_d, .inl (cI, L1, .inl f1_d)), (h1_kind, .inl (cI, L1, .inl f1_kind)), (h0, .inr (3, [.ref h0_beginning, .ref h0_memory, .ref h0_trace, .int v0_traceCount, .int (v0_done + (1 : Int32)), .int u6, .int v0_returned, .ref h0_registers, .ref h0_slots])), (h0_registers, .inl (cI, 8, .inl f0_registers))] H := hP
        have hD : va_D A [(h0_memory, .inl (cI, 8, .inl f0_memory)), (h0_slots, .inl (cI, 8, .inl f0_slots)), (h0_trace, .inl (cI, 16, .inl f0_trace)), (h1, .inr (5, [.ref h1_kind, .ref h1_d, .ref h1_a, .ref h1_b, .int v1_count])), (h1_a, .inl (cI, L1, .inl f1_a)), (h1_b, .inl (cI, L1, .inl f1_b)), (h1_d, .inl (cI, L1, .inl f1_d)), (h1_kind, .inl (cI, L1, .inl f1_kind)), (h0, .inr (3, [.ref h0_beginning, .ref h0_memory, .ref h0_trace, .int v0_traceCount, .int (v0_done + (1 : Int32)), .int u6, .int v0_returned, .ref h0_registers, .ref h0_slots])), (h0_registers, .inl (cI, 8, .inl f0_registers))] := hD
        refine lv_aload_n hx hb dX4_doNext_71 rfl (lv_at hl 0 rfl) ?_
        refine lv_aload_n hx hb dX4_doNext_72 rfl (lv_at hl 1 rfl) ?_
        refine lv_iload_n hx hb dX4_doNext_73 rfl (lv_at hl 2 rfl) ?_
        obtain ⟨u9, g10, hf⟩ := bd_some hf
        refine g_callVi S (c_X4_perform l D cI cZ h0 h1 h0_beginning h0_memory h0_trace h0_registers h0_slots h1_kind h1_d h1_a h1_b _ L1 f0_memory f0_registers f0_slots f0_trace f1_a f1_b f1_d f1_kind v0_traceCount (v0_done + (1 : Int32)) u6 v0_returned v1_count x2 u9 g10) (cwV 2 hts gX4_doNext_X4_perform rfl rfl rfl (by decide +kernel) ⟨Nat.le_of_ble_eq_true rfl, Nat.le_of_ble_eq_true rfl⟩) hK hP hD hS hA 8 (ci := 3) rfl rfl [8, 0, 9, 1, 2, 3, 4, 5, 6, 7] [] [] rfl rfl (by decide) (by decide) (by decide) rfl hl.1 rfl (Nat.le_of_ble_eq_true rfl) dX4_doNext_74 ⟨Nat.le_of_ble_eq_true rfl, Nat.le_of_ble_eq_true rfl⟩ (fun H locs hP hD hS => ?_)
        have hP : va_P D vwCl [(h0, .inr (3, [.ref h0_beginning, .ref h0_memory, .ref h0_trace, .int u9.2.2.2.2.2.1, .int (v0_done + (1 : Int32)), .int u9.2.2.2.2.2.2.1, .int u9.2.2.2.2.2.2.2, .ref h0_registers, .ref h0_slots])), (h0_memory, .inl (cI, 8, .inl u9.2.1)), (h0_registers, .inl (cI, 8, .inl u9.2.2.1)), (h0_slots, .inl (cI, 8, .inl u9.2.2.2.1)), (h0_trace, .inl (cI, 16, .inl u9.2.2.2.2.1)), (h1, .inr (5, [.ref h1_kind, .ref h1_d, .ref h1_a, .ref h1_b, .int v1_count])), (h1_a, .inl (cI, L1, .inl f1_a)), (h1_b, .inl (cI, L1, .inl f1_b)), (h1_d, .inl (cI, L1, .inl f1_d)), (h1_kind, .inl (cI, L1, .inl f1_kind))] H := hP
        have hD : va_D A [(h0, .inr (3, [.ref h0_beginning, .ref h0_memory, .ref h0_trace, .int u9.2.2.2.2.2.1, .int (v0_done + (1 : Int32)), .int u9.2.2.2.2.2.2.1, .int u9.2.2.2.2.2.2.2, .ref h0_registers, .ref h0_slots])), (h0_memory, .inl (cI, 8, .inl u9.2.1)), (h0_registers, .inl (cI, 8, .inl u9.2.2.1)), (h0_slots, .inl (cI, 8, .inl u9.2.2.2.1)), (h0_trace, .inl (cI, 16, .inl u9.2.2.2.2.1)), (h1, .inr (5, [.ref h1_kind, .ref h1_d, .ref h1_a, .ref h1_b, .int v1_count])), (h1_a, .inl (cI, L1, .inl f1_a)), (h1_b, .inl (cI, L1, .inl f1_b)), (h1_d, .inl (cI, L1, .inl f1_d)), (h1_kind, .inl (cI, L1, .inl f1_kind))] := hD
        have hf := Option.some.inj hf
        subst hf
        exact g_iret hx hb hr hlocks (hP.sub [0, 1, 2, 3, 4, 5, 6, 7, 8, 9] rfl) (hD.sub [0, 1, 2, 3, 4, 5, 6, 7, 8, 9] (by decide) rfl) hK hS rfl dX4_doNext_77
      · have hf := ite_e hf c8
        refine lv_iload_n hx hb dX4_doNext_59 rfl (lv_at hl 2 rfl) ?_
        have hf := Option.some.inj hf
        subst hf
        exact g_iret hx hb hr hlocks (hP.sub [8, 0, 9, 1, 2, 3, 4, 5, 6, 7] rfl) (hD.sub [8, 0, 9, 1, 2, 3, 4, 5, 6, 7] (by decide) rfl) hK hS rfl dX4_doNext_60
    · have hf := ite_e hf c2
      exact hJ_18 _ _ _ _ _ _ _ _ _ _ _ ls hf (hP.sub [0, 1, 2, 3, 4, 5, 6, 7, 8, 9] rfl) (hD.sub [0, 1, 2, 3, 4, 5, 6, 7, 8, 9] (by decide) rfl) hS (lv_sub hl [0, 2] rfl)

def f_X4_begin (n : Nat)  (f0_beginning : (Nat → Int32)) (f0_memory : (Nat → Int32)) (f0_registers : (Nat → Int32)) (f0_slots : (Nat → Int32)) (v0_traceCount : Int32) (v0_done : Int32) (v0_ending : Int32) (x1 x2 : Int32) : Option ((Nat → Int32) × (Nat → Int32) × (Nat → Int32) × Int32 × Int32 × Int32) := (f_J7_fill_53178 n 8 f0_registers (0 : Int32)).bind (fun u1 => (f_J7_fill_53178 n 8 f0_slots (0 : Int32)).bind (fun u3 => gd (0 : Int32) 8 (gd (1 : Int32) 8 (gc (0 : Int32) (0 : Int32) (8 : Int32) 8 8 (some ((va_cpy f0_beginning f0_memory ((0 : Int32)).toNatClampNeg ((0 : Int32)).toNatClampNeg ((8 : Int32)).toNatClampNeg), (upd (upd u1 ((0 : Int32)).toNatClampNeg x1) ((1 : Int32)).toNatClampNeg x2), u3, (0 : Int32), (0 : Int32), (-1 : Int32)))))))
theorem iw_X4_begin_X4 : ∀ w ∈ wsX40, w ∈ wsX4_begin := by decide +kernel
set_option maxHeartbeats 4000000 in
set_option maxRecDepth 100000 in
theorem c_X4_begin (l : Launch) (D : va_G) (cI cZ : ClassId) (h0 h0_beginning h0_memory h0_trace h0_registers h0_slots : Nat) (sz : Nat)  (f0_beginning f0_memory f0_registers f0_slots : Nat → Int32) (v0_traceCount v0_done v0_ending v0_returned : Int32) (n : Nat) (x1 x2 : Int32) (res : ((Nat → Int32) × (Nat → Int32) × (Nat → Int32) × Int32 × Int32 × Int32)) (hf : f_X4_begin n f0_beginning f0_memory f0_registers f0_slots v0_traceCount v0_done v0_ending x1 x2 = some res) : Ct_v l yX4_begin wsX4_begin ({ frames := 1, cells := 0, slots := 0, locals := 64 }) D [(cI, .int), (cZ, .boolean)] [.ref h0, .int x1, .int x2] sz [(h0, .inr (3, [.ref h0_beginning, .ref h0_memory, .ref h0_trace, .int v0_traceCount, .int v0_done, .int v0_ending, .int v0_returned, .ref h0_registers, .ref h0_slots])), (h0_beginning, .inl (cI, 8, .inl f0_beginning)), (h0_memory, .inl (cI, 8, .inl f0_memory)), (h0_registers, .inl (cI, 8, .inl f0_registers)), (h0_slots, .inl (cI, 8, .inl f0_slots))] [(h0, .inr (3, [.ref h0_beginning, .ref h0_memory, .ref h0_trace, .int res.2.2.2.1, .int res.2.2.2.2.1, .int res.2.2.2.2.2, .int v0_returned, .ref h0_registers, .ref h0_slots])), (h0_beginning, .inl (cI, 8, .inl f0_beginning)), (h0_memory, .inl (cI, 8, .inl res.1)), (h0_registers, .inl (cI, 8, .inl res.2.1)), (h0_slots, .inl (cI, 8, .inl res.2.2.1))] := by
  refine g_of (cc := cX4_begin) (maxL := 3) (ret := none) (QQ := (fun A => g_Qv D [(cI, .int), (cZ, .boolean)] A [(h0, .inr (3, [.ref h0_beginning, .ref h0_memory, .ref h0_trace, .int res.2.2.2.1, .int res.2.2.2.2.1, .int res.2.2.2.2.2, .int v0_returned, .ref h0_registers, .ref h0_slots])), (h0_beginning, .inl (cI, 8, .inl f0_beginning)), (h0_memory, .inl (cI, 8, .inl res.1)), (h0_registers, .inl (cI, 8, .inl res.2.1)), (h0_slots, .inl (cI, 8, .inl res.2.2.1))])) (by decide) rfl (Nat.le_of_ble_eq_true rfl) ?_
  intro p e s m args below meth c A ls S hr hlocks hA hP hK hD hl
  show W p l e ({ frames := 1, cells := 0, slots := 0, locals := 64 }) s m args below meth c s.heap [] 0 0 (MQ below (g_Qv D [(cI, .int), (cZ, .boolean)] A [(h0, .inr (3, [.ref h0_beginning, .ref h0_memory, .ref h0_trace, .int res.2.2.2.1, .int res.2.2.2.2.1, .int res.2.2.2.2.2, .int v0_returned, .ref h0_registers, .ref h0_slots])), (h0_beginning, .inl (cI, 8, .inl f0_beginning)), (h0_memory, .inl (cI, 8, .inl res.1)), (h0_registers, .inl (cI, 8, .inl res.2.1)), (h0_slots, .inl (cI, 8, .inl res.2.2.1))]) args s 0 0 A) (F0 m 0 ls [])
  have hx := S.1
  have hb := S.2.1
  have hml := S.2.2.1
  have hown := S.2.2.2.1
  have hts := S.2.2.2.2
  have ac_i := hts (.initialized "java/lang/System") (by decide +kernel)
  have ac_l := hts (.methodLink RX4 54 arraycopyName) (by decide +kernel)
  have ac_n := hts (.native arraycopyName) (by decide +kernel)
  have ac_s := hts (.static arraycopyName) (by decide +kernel)
  have fl_15 := hts (.fieldLink RX4 15 "PassPipeline$Machine" "memory" "[I") (by decide +kernel)
  have fl_21 := hts (.fieldLink RX4 21 "PassPipeline$Machine" "traceCount" "I") (by decide +kernel)
  have fl_25 := hts (.fieldLink RX4 25 "PassPipeline$Machine" "done" "I") (by decide +kernel)
  have fl_28 := hts (.fieldLink RX4 28 "PassPipeline$Machine" "ending" "I") (by decide +kernel)
  have fl_34 := hts (.fieldLink RX4 34 "PassPipeline$Machine" "registers" "[I") (by decide +kernel)
  have fl_37 := hts (.fieldLink RX4 37 "PassPipeline$Machine" "slots" "[I") (by decide +kernel)
  have fl_9 := hts (.fieldLink RX4 9 "PassPipeline$Machine" "beginning" "[I") (by decide +kernel)
  have hS : va_S A s.heap s.heap [] := va_S.rf
  have hl : lv_has ls 3 [(0, .ref h0), (1, .int x1), (2, .int x2)] := hl
  unfold f_X4_begin at hf
  refine lv_aload_n hx hb dX4_begin_0 rfl (lv_at hl 0 rfl) ?_
  refine va_get (D := D) (ci := 3) (v := .ref h0_registers) (C := RX4) (T := TX4) (N := 9) hx hb hts iw_X4_begin_X4 hown hK hP 0 rfl rfl 7 (by decide) fl_34 (fun _ h9 => h9) rfl dX4_begin_1 ?_
  refine lv_iconst (v := (0 : Int32)) hx hb dX4_begin_4 (by decide) ?_
  obtain ⟨u1, g2, hf⟩ := bd_some hf
  refine g_callSv S (c_J7_fill_53178 l D cI cZ h0_registers _ 8 f0_registers n (0 : Int32) u1 g2) (va_cwS 2 hts gX4_begin_J7_fill_53178 rfl rfl rfl (by decide +kernel) ⟨Nat.le_of_ble_eq_true rfl, Nat.le_of_ble_eq_true rfl⟩) hK hP hD hS hA [3] [0, 1, 2, 4] [(h0, .inr (3, [.ref h0_beginning, .ref h0_memory, .ref h0_trace, .int v0_traceCount, .int v0_done, .int v0_ending, .int v0_returned, .ref h0_registers, .ref h0_slots])), (h0_beginning, .inl (cI, 8, .inl f0_beginning)), (h0_memory, .inl (cI, 8, .inl f0_memory)), (h0_slots, .inl (cI, 8, .inl f0_slots))] rfl rfl (by decide) (by decide) (by decide) rfl hl.1 rfl (Nat.le_of_ble_eq_true rfl) dX4_begin_5 ⟨Nat.le_of_ble_eq_true rfl, Nat.le_of_ble_eq_true rfl⟩ (fun H locs hP hD hS => ?_)
  have hP : va_P D vwCl [(h0, .inr (3, [.ref h0_beginning, .ref h0_memory, .ref h0_trace, .int v0_traceCount, .int v0_done, .int v0_ending, .int v0_returned, .ref h0_registers, .ref h0_slots])), (h0_beginning, .inl (cI, 8, .inl f0_beginning)), (h0_memory, .inl (cI, 8, .inl f0_memory)), (h0_slots, .inl (cI, 8, .inl f0_slots)), (h0_registers, .inl (cI, 8, .inl u1))] H := hP
  have hD : va_D A [(h0, .inr (3, [.ref h0_beginning, .ref h0_memory, .ref h0_trace, .int v0_traceCount, .int v0_done, .int v0_ending, .int v0_returned, .ref h0_registers, .ref h0_slots])), (h0_beginning, .inl (cI, 8, .inl f0_beginning)), (h0_memory, .inl (cI, 8, .inl f0_memory)), (h0_slots, .inl (cI, 8, .inl f0_slots)), (h0_registers, .inl (cI, 8, .inl u1))] := hD
  refine lv_aload_n hx hb dX4_begin_8 rfl (lv_at hl 0 rfl) ?_
  refine va_get (D := D) (ci := 3) (v := .ref h0_slots) (C := RX4) (T := TX4) (N := 9) hx hb hts iw_X4_begin_X4 hown hK hP 0 rfl rfl 8 (by decide) fl_37 (fun _ h9 => h9) rfl dX4_begin_9 ?_
  refine lv_iconst (v := (0 : Int32)) hx hb dX4_begin_12 (by decide) ?_
  obtain ⟨u3, g4, hf⟩ := bd_some hf
  refine g_callSv S (c_J7_fill_53178 l D cI cZ h0_slots _ 8 f0_slots n (0 : Int32) u3 g4) (va_cwS 2 hts gX4_begin_J7_fill_53178 rfl rfl rfl (by decide +kernel) ⟨Nat.le_of_ble_eq_true rfl, Nat.le_of_ble_eq_true rfl⟩) hK hP hD hS hA [3] [0, 1, 2, 4] [(h0, .inr (3, [.ref h0_beginning, .ref h0_memory, .ref h0_trace, .int v0_traceCount, .int v0_done, .int v0_ending, .int v0_returned, .ref h0_registers, .ref h0_slots])), (h0_beginning, .inl (cI, 8, .inl f0_beginning)), (h0_memory, .inl (cI, 8, .inl f0_memory)), (h0_registers, .inl (cI, 8, .inl u1))] rfl rfl (by decide) (by decide) (by decide) rfl hl.1 rfl (Nat.le_of_ble_eq_true rfl) dX4_begin_13 ⟨Nat.le_of_ble_eq_true rfl, Nat.le_of_ble_eq_true rfl⟩ (fun H locs hP hD hS => ?_)
  have hP : va_P D vwCl [(h0, .inr (3, [.ref h0_beginning, .ref h0_memory, .ref h0_trace, .int v0_traceCount, .int v0_done, .int v0_ending, .int v0_returned, .ref h0_registers, .ref h0_slots])), (h0_beginning, .inl (cI, 8, .inl f0_beginning)), (h0_memory, .inl (cI, 8, .inl f0_memory)), (h0_registers, .inl (cI, 8, .inl u1)), (h0_slots, .inl (cI, 8, .inl u3))] H := hP
  have hD : va_D A [(h0, .inr (3, [.ref h0_beginning, .ref h0_memory, .ref h0_trace, .int v0_traceCount, .int v0_done, .int v0_ending, .int v0_returned, .ref h0_registers, .ref h0_slots])), (h0_beginning, .inl (cI, 8, .inl f0_beginning)), (h0_memory, .inl (cI, 8, .inl f0_memory)), (h0_registers, .inl (cI, 8, .inl u1)), (h0_slots, .inl (cI, 8, .inl u3))] := hD
  refine lv_aload_n hx hb dX4_begin_16 rfl (lv_at hl 0 rfl) ?_
  refine va_get (D := D) (ci := 3) (v := .ref h0_registers) (C := RX4) (T := TX4) (N := 9) hx hb hts iw_X4_begin_X4 hown hK hP 0 rfl rfl 7 (by decide) fl_34 (fun _ h9 => h9) rfl dX4_begin_17 ?_
  refine lv_iconst (v := (0 : Int32)) hx hb dX4_begin_20 (by decide) ?_
  refine lv_iload_n hx hb dX4_begin_21 rfl (lv_at hl 1 rfl) ?_
  obtain ⟨i5, hf⟩ := gd_some hf
  refine va_iast hx hb hK hP hD hS 3 0 rfl rfl i5 dX4_begin_22 (fun H locs hP hD hS => ?_)
  have hP : va_P D vwCl [(h0, .inr (3, [.ref h0_beginning, .ref h0_memory, .ref h0_trace, .int v0_traceCount, .int v0_done, .int v0_ending, .int v0_returned, .ref h0_registers, .ref h0_slots])), (h0_beginning, .inl (cI, 8, .inl f0_beginning)), (h0_memory, .inl (cI, 8, .inl f0_memory)), (h0_registers, .inl (cI, 8, .inl (upd u1 ((0 : Int32)).toNatClampNeg x1))), (h0_slots, .inl (cI, 8, .inl u3))] H := hP
  have hD : va_D A [(h0, .inr (3, [.ref h0_beginning, .ref h0_memory, .ref h0_trace, .int v0_traceCount, .int v0_done, .int v0_ending, .int v0_returned, .ref h0_registers, .ref h0_slots])), (h0_beginning, .inl (cI, 8, .inl f0_beginning)), (h0_memory, .inl (cI, 8, .inl f0_memory)), (h0_registers, .inl (cI, 8, .inl (upd u1 ((0 : Int32)).toNatClampNeg x1))), (h0_slots, .inl (cI, 8, .inl u3))] := hD
  refine lv_aload_n hx hb dX4_begin_23 rfl (lv_at hl 0 rfl) ?_
  refine va_get (D := D) (ci := 3) (v := .ref h0_registers) (C := RX4) (T := TX4) (N := 9) hx hb hts iw_X4_begin_X4 hown hK hP 0 rfl rfl 7 (by decide) fl_34 (fun _ h9 => h9) rfl dX4_begin_24 ?_
  refine lv_iconst (v := (1 : Int32)) hx hb dX4_begin_27 (by decide) ?_
  refine lv_iload_n hx hb dX4_begin_28 rfl (lv_at hl 2 rfl) ?_
  obtain ⟨i6, hf⟩ := gd_some hf
  refine va_iast hx hb hK hP hD hS 3 0 rfl rfl i6 dX4_begin_29 (fun H locs hP hD hS => ?_)
  have hP : va_P D vwCl [(h0, .inr (3, [.ref h0_beginning, .ref h0_memory, .ref h0_trace, .int v0_traceCount, .int v0_done, .int v0_ending, .int v0_returned, .ref h0_registers, .ref h0_slots])), (h0_beginning, .inl (cI, 8, .inl f0_beginning)), (h0_memory, .inl (cI, 8, .inl f0_memory)), (h0_registers, .inl (cI, 8, .inl (upd (upd u1 ((0 : Int32)).toNatClampNeg x1) ((1 : Int32)).toNatClampNeg x2))), (h0_slots, .inl (cI, 8, .inl u3))] H := hP
  have hD : va_D A [(h0, .inr (3, [.ref h0_beginning, .ref h0_memory, .ref h0_trace, .int v0_traceCount, .int v0_done, .int v0_ending, .int v0_returned, .ref h0_registers, .ref h0_slots])), (h0_beginning, .inl (cI, 8, .inl f0_beginning)), (h0_memory, .inl (cI, 8, .inl f0_memory)), (h0_registers, .inl (cI, 8, .inl (upd (upd u1 ((0 : Int32)).toNatClampNeg x1) ((1 : Int32)).toNatClampNeg x2))), (h0_slots, .inl (cI, 8, .inl u3))] := hD
  refine lv_aload_n hx hb dX4_begin_30 rfl (lv_at hl 0 rfl) ?_
  refine va_get (D := D) (ci := 3) (v := .ref h0_beginning) (C := RX4) (T := TX4) (N := 9) hx hb hts iw_X4_begin_X4 hown hK hP 0 rfl rfl 0 (by decide) fl_9 (fun _ h9 => h9) rfl dX4_begin_31 ?_
  refine lv_iconst (v := (0 : Int32)) hx hb dX4_begin_34 (by decide) ?_
  refine lv_aload_n hx hb dX4_begin_35 rfl (lv_at hl 0 rfl) ?_
  refine va_get (D := D) (ci := 3) (v := .ref h0_memory) (C := RX4) (T := TX4) (N := 9) hx hb hts iw_X4_begin_X4 hown hK hP 0 rfl rfl 1 (by decide) fl_15 (fun _ h9 => h9) rfl dX4_begin_36 ?_
  refine lv_iconst (v := (0 : Int32)) hx hb dX4_begin_39 (by decide) ?_
  refine lv_bipush (v := (8 : Int32)) hx hb dX4_begin_40 (by decide +kernel) ?_
  obtain ⟨i7, hf⟩ := gc_some hf
  refine va_copyi hx hb (hml.trans hl.1.symm) hown ac_l ac_n ac_s ac_i hK hP hD hS 1 2 0 0 rfl rfl rfl rfl rfl i7.1 i7.2.1 i7.2.2.1 i7.2.2.2.1 i7.2.2.2.2 (fun _ _ => rfl) (Nat.le_of_ble_eq_true rfl) (by decide +kernel) dX4_begin_42 (fun H locs hP hD hS => ?_)
  have hP : va_P D vwCl [(h0, .inr (3, [.ref h0_beginning, .ref h0_memory, .ref h0_trace, .int v0_traceCount, .int v0_done, .int v0_ending, .int v0_returned, .ref h0_registers, .ref h0_slots])), (h0_beginning, .inl (cI, 8, .inl f0_beginning)), (h0_memory, .inl (cI, 8, .inl (va_cpy f0_beginning f0_memory ((0 : Int32)).toNatClampNeg ((0 : Int32)).toNatClampNeg ((8 : Int32)).toNatClampNeg))), (h0_registers, .inl (cI, 8, .inl (upd (upd u1 ((0 : Int32)).toNatClampNeg x1) ((1 : Int32)).toNatClampNeg x2))), (h0_slots, .inl (cI, 8, .inl u3))] H := hP
  have hD : va_D A [(h0, .inr (3, [.ref h0_beginning, .ref h0_memory, .ref h0_trace, .int v0_traceCount, .int v0_done, .int v0_ending, .int v0_returned, .ref h0_registers, .ref h0_slots])), (h0_beginning, .inl (cI, 8, .inl f0_beginning)), (h0_memory, .inl (cI, 8, .inl (va_cpy f0_beginning f0_memory ((0 : Int32)).toNatClampNeg ((0 : Int32)).toNatClampNeg ((8 : Int32)).toNatClampNeg))), (h0_registers, .inl (cI, 8, .inl (upd (upd u1 ((0 : Int32)).toNatClampNeg x1) ((1 : Int32)).toNatClampNeg x2))), (h0_slots, .inl (cI, 8, .inl u3))] := hD
  refine lv_aload_n hx hb dX4_begin_45 rfl (lv_at hl 0 rfl) ?_
  refine lv_iconst (v := (0 : Int32)) hx hb dX4_begin_46 (by decide) ?_
  refine va_put (D := D) (ci := 3) (v := .int (0 : Int32)) (ty := .int) (C := RX4) (T := TX4) (N := 9) hx hb hts iw_X4_begin_X4 tyX4 tyX4_ok nmX4 hown hK hP hD hS 0 rfl rfl 3 (by decide) fl_21 (fun _ h9 => h9) rfl (by decide +kernel) rfl rfl (Nat.le_of_ble_eq_true rfl) dX4_begin_47 (fun H locs hP hD hS => ?_)
  have hP : va_P D vwCl [(h0, .inr (3, [.ref h0_beginning, .ref h0_memory, .ref h0_trace, .int (0 : Int32), .int v0_done, .int v0_ending, .int v0_returned, .ref h0_registers, .ref h0_slots])), (h0_beginning, .inl (cI, 8, .inl f0_beginning)), (h0_memory, .inl (cI, 8, .inl (va_cpy f0_beginning f0_memory ((0 : Int32)).toNatClampNeg ((0 : Int32)).toNatClampNeg ((8 : Int32)).toNatClampNeg))), (h0_registers, .inl (cI, 8, .inl (upd (upd u1 ((0 : Int32)).toNatClampNeg x1) ((1 : Int32)).toNatClampNeg x2))), (h0_slots, .inl (cI, 8, .inl u3))] H := hP
  have hD : va_D A [(h0, .inr (3, [.ref h0_beginning, .ref h0_memory, .ref h0_trace, .int (0 : Int32), .int v0_done, .int v0_ending, .int v0_returned, .ref h0_registers, .ref h0_slots])), (h0_beginning, .inl (cI, 8, .inl f0_beginning)), (h0_memory, .inl (cI, 8, .inl (va_cpy f0_beginning f0_memory ((0 : Int32)).toNatClampNeg ((0 : Int32)).toNatClampNeg ((8 : Int32)).toNatClampNeg))), (h0_registers, .inl (cI, 8, .inl (upd (upd u1 ((0 : Int32)).toNatClampNeg x1) ((1 : Int32)).toNatClampNeg x2))), (h0_slots, .inl (cI, 8, .inl u3))] := hD
  refine lv_aload_n hx hb dX4_begin_50 rfl (lv_at hl 0 rfl) ?_
  refine lv_iconst (v := (0 : Int32)) hx hb dX4_begin_51 (by decide) ?_
  refine va_put (D := D) (ci := 3) (v := .int (0 : Int32)) (ty := .int) (C := RX4) (T := TX4) (N := 9) hx hb hts iw_X4_begin_X4 tyX4 tyX4_ok nmX4 hown hK hP hD hS 0 rfl rfl 4 (by decide) fl_25 (fun _ h9 => h9) rfl (by decide +kernel) rfl rfl (Nat.le_of_ble_eq_true rfl) dX4_begin_52 (fun H locs hP hD hS => ?_)
  have hP : va_P D vwCl [(h0, .inr (3, [.ref h0_beginning, .ref h0_memory, .ref h0_trace, .int (0 : Int32), .int (0 : Int32), .int v0_ending, .int v0_returned, .ref h0_registers, .ref h0_slots])), (h0_beginning, .inl (cI, 8, .inl f0_beginning)), (h0_memory, .inl (cI, 8, .inl (va_cpy f0_beginning f0_memory ((0 : Int32)).toNatClampNeg ((0 : Int32)).toNatClampNeg ((8 : Int32)).toNatClampNeg))), (h0_registers, .inl (cI, 8, .inl (upd (upd u1 ((0 : Int32)).toNatClampNeg x1) ((1 : Int32)).toNatClampNeg x2))), (h0_slots, .inl (cI, 8, .inl u3))] H := hP
  have hD : va_D A [(h0, .inr (3, [.ref h0_beginning, .ref h0_memory, .ref h0_trace, .int (0 : Int32), .int (0 : Int32), .int v0_ending, .int v0_returned, .ref h0_registers, .ref h0_slots])), (h0_beginning, .inl (cI, 8, .inl f0_beginning)), (h0_memory, .inl (cI, 8, .inl (va_cpy f0_beginning f0_memory ((0 : Int32)).toNatClampNeg ((0 : Int32)).toNatClampNeg ((8 : Int32)).toNatClampNeg))), (h0_registers, .inl (cI, 8, .inl (upd (upd u1 ((0 : Int32)).toNatClampNeg x1) ((1 : Int32)).toNatClampNeg x2))), (h0_slots, .inl (cI, 8, .inl u3))] := hD
  refine lv_aload_n hx hb dX4_begin_55 rfl (lv_at hl 0 rfl) ?_
  refine lv_iconst (v := (-1 : Int32)) hx hb dX4_begin_56 (by decide) ?_
  refine va_put (D := D) (ci := 3) (v := .int (-1 : Int32)) (ty := .int) (C := RX4) (T := TX4) (N := 9) hx hb hts iw_X4_begin_X4 tyX4 tyX4_ok nmX4 hown hK hP hD hS 0 rfl rfl 5 (by decide) fl_28 (fun _ h9 => h9) rfl (by decide +kernel) rfl rfl (Nat.le_of_ble_eq_true rfl) dX4_begin_57 (fun H locs hP hD hS => ?_)
  have hP : va_P D vwCl [(h0, .inr (3, [.ref h0_beginning, .ref h0_memory, .ref h0_trace, .int (0 : Int32), .int (0 : Int32), .int (-1 : Int32), .int v0_returned, .ref h0_registers, .ref h0_slots])), (h0_beginning, .inl (cI, 8, .inl f0_beginning)), (h0_memory, .inl (cI, 8, .inl (va_cpy f0_beginning f0_memory ((0 : Int32)).toNatClampNeg ((0 : Int32)).toNatClampNeg ((8 : Int32)).toNatClampNeg))), (h0_registers, .inl (cI, 8, .inl (upd (upd u1 ((0 : Int32)).toNatClampNeg x1) ((1 : Int32)).toNatClampNeg x2))), (h0_slots, .inl (cI, 8, .inl u3))] H := hP
  have hD : va_D A [(h0, .inr (3, [.ref h0_beginning, .ref h0_memory, .ref h0_trace, .int (0 : Int32), .int (0 : Int32), .int (-1 : Int32), .int v0_returned, .ref h0_registers, .ref h0_slots])), (h0_beginning, .inl (cI, 8, .inl f0_beginning)), (h0_memory, .inl (cI, 8, .inl (va_cpy f0_beginning f0_memory ((0 : Int32)).toNatClampNeg ((0 : Int32)).toNatClampNeg ((8 : Int32)).toNatClampNeg))), (h0_registers, .inl (cI, 8, .inl (upd (upd u1 ((0 : Int32)).toNatClampNeg x1) ((1 : Int32)).toNatClampNeg x2))), (h0_slots, .inl (cI, 8, .inl u3))] := hD
  have hf := Option.some.inj hf
  subst hf
  exact g_vret hx hb hr hlocks (hP.sub [0, 1, 2, 3, 4] rfl) (hD.sub [0, 1, 2, 3, 4] (by decide) rfl) hK hS dX4_begin_60

def f_X4_execute_12 (n : Nat)  : Nat → Nat → (Nat → Int32) → (Nat → Int32) → (Nat → Int32) → (Nat → Int32) → (Nat → Int32) → (Nat → Int32) → (Nat → Int32) → (Nat → Int32) → (Nat → Int32) → Int32 → Int32 → Int32 → Int32 → Int32 → Int32 → Int32 → Option ((Nat → Int32) × (Nat → Int32) × (Nat → Int32) × (Nat → Int32) × Int32 × Int32 × Int32 × Int32)
  | 0, _, _, _, _, _, _, _, _, _, _, _, _, _, _, _, _, _ => none
  | k + 1, L1, f0_beginning, f0_memory, f0_registers, f0_slots, f0_trace, f1_a, f1_b, f1_d, f1_kind, v0_traceCount, v0_done, v0_ending, v0_returned, v1_count, x4, x5 => if (400 : Int32) < x5 then (some (f0_memory, f0_registers, f0_slots, f0_trace, v0_traceCount, v0_done, v0_ending, v0_returned)) else (if v0_ending = (-1 : Int32) then ((f_X4_doNext L1 f0_memory f0_registers f0_slots f0_trace f1_a f1_b f1_d f1_kind v0_traceCount v0_done v0_ending v0_returned v1_count x4).bind (fun u3 => f_X4_execute_12 n k L1 f0_beginning u3.2.1 u3.2.2.1 u3.2.2.2.1 u3.2.2.2.2.1 f1_a f1_b f1_d f1_kind u3.2.2.2.2.2.1 u3.2.2.2.2.2.2.1 u3.2.2.2.2.2.2.2.1 u3.2.2.2.2.2.2.2.2 v1_count u3.1 (x5 + (1 : Int32)))) else (some (f0_memory, f0_registers, f0_slots, f0_trace, v0_traceCount, v0_done, v0_ending, v0_returned)))
def f_X4_execute (n : Nat) (L1 : Nat) (f0_beginning : (Nat → Int32)) (f0_memory : (Nat → Int32)) (f0_registers : (Nat → Int32)) (f0_slots : (Nat → Int32)) (f0_trace : (Nat → Int32)) (f1_a : (Nat → Int32)) (f1_b : (Nat → Int32)) (f1_d : (Nat → Int32)) (f1_kind : (Nat → Int32)) (v0_traceCount : Int32) (v0_done : Int32) (v0_ending : Int32) (v0_returned : Int32) (v1_count : Int32) (x2 x3 : Int32) : Option ((Nat → Int32) × (Nat → Int32) × (Nat → Int32) × (Nat → Int32) × Int32 × Int32 × Int32 × Int32) := (f_X4_begin n f0_beginning f0_memory f0_registers f0_slots v0_traceCount v0_done v0_ending x2 x3).bind (fun u5 => f_X4_execute_12 n n L1 f0_beginning u5.1 u5.2.1 u5.2.2.1 f0_trace f1_a f1_b f1_d f1_kind u5.2.2.2.1 u5.2.2.2.2.1 u5.2.2.2.2.2 v0_returned v1_count (0 : Int32) (0 : Int32))
theorem iw_X4_execute_X4 : ∀ w ∈ wsX40, w ∈ wsX4_execute := by decide +kernel
set_option maxHeartbeats 4000000 in
set_option maxRecDepth 100000 in
theorem c_X4_execute (l : Launch) (D : va_G) (cI cZ : ClassId) (h0 h1 h0_beginning h0_memory h0_trace h0_registers h0_slots h1_kind h1_d h1_a h1_b : Nat) (sz : Nat) (L1 : Nat) (f0_beginning f0_memory f0_registers f0_slots f0_trace f1_a f1_b f1_d f1_kind : Nat → Int32) (v0_traceCount v0_done v0_ending v0_returned v1_count : Int32) (n : Nat) (x2 x3 : Int32) (res : ((Nat → Int32) × (Nat → Int32) × (Nat → Int32) × (Nat → Int32) × Int32 × Int32 × Int32 × Int32)) (hf : f_X4_execute n L1 f0_beginning f0_memory f0_registers f0_slots f0_trace f1_a f1_b f1_d f1_kind v0_traceCount v0_done v0_ending v0_returned v1_count x2 x3 = some res) : Ct_v l yX4_execute wsX4_execute ({ frames := 4, cells := 0, slots := 0, locals := 93 }) D [(cI, .int), (cZ, .boolean)] [.ref h0, .ref h1, .int x2, .int x3] sz [(h0, .inr (3, [.ref h0_beginning, .ref h0_memory, .ref h0_trace, .int v0_traceCount, .int v0_done, .int v0_ending, .int v0_returned, .ref h0_registers, .ref h0_slots])), (h0_beginning, .inl (cI, 8, .inl f0_beginning)), (h0_memory, .inl (cI, 8, .inl f0_memory)), (h0_registers, .inl (cI, 8, .inl f0_registers)), (h0_slots, .inl (cI, 8, .inl f0_slots)), (h0_trace, .inl (cI, 16, .inl f0_trace)), (h1, .inr (5, [.ref h1_kind, .ref h1_d, .ref h1_a, .ref h1_b, .int v1_count])), (h1_a, .inl (cI, L1, .inl f1_a)), (h1_b, .inl (cI, L1, .inl f1_b)), (h1_d, .inl (cI, L1, .inl f1_d)), (h1_kind, .inl (cI, L1, .inl f1_kind))] [(h0, .inr (3, [.ref h0_beginning, .ref h0_memory, .ref h0_trace, .int res.2.2.2.2.1, .int res.2.2.2.2.2.1, .int res.2.2.2.2.2.2.1, .int res.2.2.2.2.2.2.2, .ref h0_registers, .ref h0_slots])), (h0_beginning, .inl (cI, 8, .inl f0_beginning)), (h0_memory, .inl (cI, 8, .inl res.1)), (h0_registers, .inl (cI, 8, .inl res.2.1)), (h0_slots, .inl (cI, 8, .inl res.2.2.1)), (h0_trace, .inl (cI, 16, .inl res.2.2.2.1)), (h1, .inr (5, [.ref h1_kind, .ref h1_d, .ref h1_a, .ref h1_b, .int v1_count])), (h1_a, .inl (cI, L1, .inl f1_a)), (h1_b, .inl (cI, L1, .inl f1_b)), (h1_d, .inl (cI, L1, .inl f1_d)), (h1_kind, .inl (cI, L1, .inl f1_kind))] := by
  refine g_of (cc := cX4_execute) (maxL := 6) (ret := none) (QQ := (fun A => g_Qv D [(cI, .int), (cZ, .boolean)] A [(h0, .inr (3, [.ref h0_beginning, .ref h0_memory, .ref h0_trace, .int res.2.2.2.2.1, .int res.2.2.2.2.2.1, .int res.2.2.2.2.2.2.1, .int res.2.2.2.2.2.2.2, .ref h0_registers, .ref h0_slots])), (h0_beginning, .inl (cI, 8, .inl f0_beginning)), (h0_memory, .inl (cI, 8, .inl res.1)), (h0_registers, .inl (cI, 8, .inl res.2.1)), (h0_slots, .inl (cI, 8, .inl res.2.2.1)), (h0_trace, .inl (cI, 16, .inl res.2.2.2.1)), (h1, .inr (5, [.ref h1_kind, .ref h1_d, .ref h1_a, .ref h1_b, .int v1_count])), (h1_a, .inl (cI, L1, .inl f1_a)), (h1_b, .inl (cI, L1, .inl f1_b)), (h1_d, .inl (cI, L1, .inl f1_d)), (h1_kind, .inl (cI, L1, .inl f1_kind))])) (by decide) rfl (Nat.le_of_ble_eq_true rfl) ?_
  intro p e s m args below meth c A ls S hr hlocks hA hP hK hD hl
  show W p l e ({ frames := 4, cells := 0, slots := 0, locals := 93 }) s m args below meth c s.heap [] 0 0 (MQ below (g_Qv D [(cI, .int), (cZ, .boolean)] A [(h0, .inr (3, [.ref h0_beginning, .ref h0_memory, .ref h0_trace, .int res.2.2.2.2.1, .int res.2.2.2.2.2.1, .int res.2.2.2.2.2.2.1, .int res.2.2.2.2.2.2.2, .ref h0_registers, .ref h0_slots])), (h0_beginning, .inl (cI, 8, .inl f0_beginning)), (h0_memory, .inl (cI, 8, .inl res.1)), (h0_registers, .inl (cI, 8, .inl res.2.1)), (h0_slots, .inl (cI, 8, .inl res.2.2.1)), (h0_trace, .inl (cI, 16, .inl res.2.2.2.1)), (h1, .inr (5, [.ref h1_kind, .ref h1_d, .ref h1_a, .ref h1_b, .int v1_count])), (h1_a, .inl (cI, L1, .inl f1_a)), (h1_b, .inl (cI, L1, .inl f1_b)), (h1_d, .inl (cI, L1, .inl f1_d)), (h1_kind, .inl (cI, L1, .inl f1_kind))]) args s 0 0 A) (F0 m 0 ls [])
  have hx := S.1
  have hb := S.2.1
  have hml := S.2.2.1
  have hown := S.2.2.2.1
  have hts := S.2.2.2.2
  have fl_28 := hts (.fieldLink RX4 28 "PassPipeline$Machine" "ending" "I") (by decide +kernel)
  have hS : va_S A s.heap s.heap [] := va_S.rf
  have hl : lv_has ls 6 [(0, .ref h0), (1, .ref h1), (2, .int x2), (3, .int x3)] := hl
  have hJ_12 : ∀ (k : Nat) (f0_memory : (Nat → Int32)) (f0_registers : (Nat → Int32)) (f0_slots : (Nat → Int32)) (f0_trace : (Nat → Int32)) (v0_traceCount : Int32) (v0_done : Int32) (v0_ending : Int32) (v0_returned : Int32) (x4 x5 : Int32) (H : Heap) (locs : List Loc) (ls : Array Slot), f_X4_execute_12 n k L1 f0_beginning f0_memory f0_registers f0_slots f0_trace f1_a f1_b f1_d f1_kind v0_traceCount v0_done v0_ending v0_returned v1_count x4 x5 = some res → va_P D vwCl [(h0, .inr (3, [.ref h0_beginning, .ref h0_memory, .ref h0_trace, .int v0_traceCount, .int v0_done, .int v0_ending, .int v0_returned, .ref h0_registers, .ref h0_slots])), (h0_beginning, .inl (cI, 8, .inl f0_beginning)), (h0_memory, .inl (cI, 8, .inl f0_memory)), (h0_registers, .inl (cI, 8, .inl f0_registers)), (h0_slots, .inl (cI, 8, .inl f0_slots)), (h0_trace, .inl (cI, 16, .inl f0_trace)), (h1, .inr (5, [.ref h1_kind, .ref h1_d, .ref h1_a, .ref h1_b, .int v1_count])), (h1_a, .inl (cI, L1, .inl f1_a)), (h1_b, .inl (cI, L1, .inl f1_b)), (h1_d, .inl (cI, L1, .inl f1_d)), (h1_kind, .inl (cI, L1, .inl f1_kind))] H → va_D A [(h0, .inr (3, [.ref h0_beginning, .ref h0_memory, .ref h0_trace, .int v0_traceCount, .int v0_done, .int v0_ending, .int v0_returned, .ref h0_registers, .ref h0_slots])), (h0_beginning, .inl (cI, 8, .inl f0_beginning)), (h0_memory, .inl (cI, 8, .inl f0_memory)), (h0_registers, .inl (cI, 8, .inl f0_registers)), (h0_slots, .inl (cI, 8, .inl f0_slots)), (h0_trace, .inl (cI, 16, .inl f0_trace)), (h1, .inr (5, [.ref h1_kind, .ref h1_d, .ref h1_a, .ref h1_b, .int v1_count])), (h1_a, .inl (cI, L1, .inl f1_a)), (h1_b, .inl (cI, L1, .inl f1_b)), (h1_d, .inl (cI, L1, .inl f1_d)), (h1_kind, .inl (cI, L1, .inl f1_kind))] → va_S A s.heap H locs → lv_has ls 6 [(0, .ref h0), (1, .ref h1), (4, .int x4), (5, .int x5)] → W p l e ({ frames := 4, cells := 0, slots := 0, locals := 93 }) s m args below meth c H locs 0 0 (MQ below (g_Qv D [(cI, .int), (cZ, .boolean)] A [(h0, .inr (3, [.ref h0_beginning, .ref h0_memory, .ref h0_trace, .int res.2.2.2.2.1, .int res.2.2.2.2.2.1, .int res.2.2.2.2.2.2.1, .int res.2.2.2.2.2.2.2, .ref h0_registers, .ref h0_slots])), (h0_beginning, .inl (cI, 8, .inl f0_beginning)), (h0_memory, .inl (cI, 8, .inl res.1)), (h0_registers, .inl (cI, 8, .inl res.2.1)), (h0_slots, .inl (cI, 8, .inl res.2.2.1)), (h0_trace, .inl (cI, 16, .inl res.2.2.2.1)), (h1, .inr (5, [.ref h1_kind, .ref h1_d, .ref h1_a, .ref h1_b, .int v1_count])), (h1_a, .inl (cI, L1, .inl f1_a)), (h1_b, .inl (cI, L1, .inl f1_b)), (h1_d, .inl (cI, L1, .inl f1_d)), (h1_kind, .inl (cI, L1, .inl f1_kind))]) args s 0 0 A) (F0 m 12 ls []) := by
    intro k
    induction k with
    | zero => intro f0_memory f0_registers f0_slots f0_trace v0_traceCount v0_done v0_ending v0_returned x4 x5 H locs ls hf; rw [f_X4_execute_12] at hf; cases hf
    | succ m_12 ih =>
      have ih_12 : ∀ (f0_memory : (Nat → Int32)) (f0_registers : (Nat → Int32)) (f0_slots : (Nat → Int32)) (f0_trace : (Nat → Int32)) (v0_traceCount : Int32) (v0_done : Int32) (v0_ending : Int32) (v0_returned : Int32) (x4 x5 : Int32) (H : Heap) (locs : List Loc) (ls : Array Slot), (fun f0_memory' f0_registers' f0_slots' f0_trace' v0_traceCount' v0_done' v0_ending' v0_returned' x4' x5' => f_X4_execute_12 n m_12 L1 f0_beginning f0_memory' f0_registers' f0_slots' f0_trace' f1_a f1_b f1_d f1_kind v0_traceCount' v0_done' v0_ending' v0_returned' v1_count x4' x5') f0_memory f0_registers f0_slots f0_trace v0_traceCount v0_done v0_ending v0_returned x4 x5 = some res → va_P D vwCl [(h0, .inr (3, [.ref h0_beginning, .ref h0_memory, .ref h0_trace, .int v0_traceCount, .int v0_done, .int v0_ending, .int v0_returned, .ref h0_registers, .ref h0_slots])), (h0_beginning, .inl (cI, 8, .inl f0_beginning)), (h0_memory, .inl (cI, 8, .inl f0_memory)), (h0_registers, .inl (cI, 8, .inl f0_registers)), (h0_slots, .inl (cI, 8, .inl f0_slots)), (h0_trace, .inl (cI, 16, .inl f0_trace)), (h1, .inr (5, [.ref h1_kind, .ref h1_d, .ref h1_a, .ref h1_b, .int v1_count])), (h1_a, .inl (cI, L1, .inl f1_a)), (h1_b, .inl (cI, L1, .inl f1_b)), (h1_d, .inl (cI, L1, .inl f1_d)), (h1_kind, .inl (cI, L1, .inl f1_kind))] H → va_D A [(h0, .inr (3, [.ref h0_beginning, .ref h0_memory, .ref h0_trace, .int v0_traceCount, .int v0_done, .int v0_ending, .int v0_returned, .ref h0_registers, .ref h0_slots])), (h0_beginning, .inl (cI, 8, .inl f0_beginning)), (h0_memory, .inl (cI, 8, .inl f0_memory)), (h0_registers, .inl (cI, 8, .inl f0_registers)), (h0_slots, .inl (cI, 8, .inl f0_slots)), (h0_trace, .inl (cI, 16, .inl f0_trace)), (h1, .inr (5, [.ref h1_kind, .ref h1_d, .ref h1_a, .ref h1_b, .int v1_count])), (h1_a, .inl (cI, L1, .inl f1_a)), (h1_b, .inl (cI, L1, .inl f1_b)), (h1_d, .inl (cI, L1, .inl f1_d)), (h1_kind, .inl (cI, L1, .inl f1_kind))] → va_S A s.heap H locs → lv_has ls 6 [(0, .ref h0), (1, .ref h1), (4, .int x4), (5, .int x5)] → W p l e ({ frames := 4, cells := 0, slots := 0, locals := 93 }) s m args below meth c H locs 0 0 (MQ below (g_Qv D [(cI, .int), (cZ, .boolean)] A [(h0, .inr (3, [.ref h0_beginning, .ref h0_memory, .ref h0_trace, .int res.2.2.2.2.1, .int res.2.2.2.2.2.1, .int res.2.2.2.2.2.2.1, .int res.2.2.2.2.2.2.2, .ref h0_registers, .ref h0_slots])), (h0_beginning, .inl (cI, 8, .inl f0_beginning)), (h0_memory, .inl (cI, 8, .inl res.1)), (h0_registers, .inl (cI, 8, .inl res.2.1)), (h0_slots, .inl (cI, 8, .inl res.2.2.1)), (h0_trace, .inl (cI, 16, .inl res.2.2.2.1)), (h1, .inr (5, [.ref h1_kind, .ref h1_d, .ref h1_a, .ref h1_b, .int v1_count])), (h1_a, .inl (cI, L1, .inl f1_a)), (h1_b, .inl (cI, L1, .inl f1_b)), (h1_d, .inl (cI, L1, .inl f1_d)), (h1_kind, .inl (cI, L1, .inl f1_kind))]) args s 0 0 A) (F0 m 12 ls []) := ih
      intro f0_memory f0_registers f0_slots f0_trace v0_traceCount v0_done v0_ending v0_returned x4 x5 H locs ls hf hP hD hS hl
      rw [f_X4_execute_12] at hf
      refine lv_iload hx hb dX4_execute_12 (lv_at hl 3 rfl) ?_
      refine lv_sipush (v := (400 : Int32)) hx hb dX4_execute_14 (by decide +kernel) ?_
      refine lv_icmp_gt (tgt := 43) hx hb dX4_execute_17 (by decide) (fun c1 => ?_) (fun c1 => ?_)
      · have hf := ite_t hf c1
        have hf := Option.some.inj hf
        subst hf
        exact g_vret hx hb hr hlocks (hP.sub [0, 1, 2, 3, 4, 5, 6, 7, 8, 9, 10] rfl) (hD.sub [0, 1, 2, 3, 4, 5, 6, 7, 8, 9, 10] (by decide) rfl) hK hS dX4_execute_43
      · have hf := ite_e hf c1
        refine lv_aload_n hx hb dX4_execute_20 rfl (lv_at hl 0 rfl) ?_
        refine va_get (D := D) (ci := 3) (v := .int v0_ending) (C := RX4) (T := TX4) (N := 9) hx hb hts iw_X4_execute_X4 hown hK hP 0 rfl rfl 5 (by decide) fl_28 (fun _ h9 => h9) rfl dX4_execute_21 ?_
        refine lv_iconst (v := (-1 : Int32)) hx hb dX4_execute_24 (by decide) ?_
        refine lv_icmp_ne (tgt := 43) hx hb dX4_execute_25 (by decide) (fun c2 => ?_) (fun c2 => ?_)
        · have hf := ite_e hf c2
          have hf := Option.some.inj hf
          subst hf
          exact g_vret hx hb hr hlocks (hP.sub [0, 1, 2, 3, 4, 5, 6, 7, 8, 9, 10] rfl) (hD.sub [0, 1, 2, 3, 4, 5, 6, 7, 8, 9, 10] (by decide) rfl) hK hS dX4_execute_43
        · have hf := ite_t hf c2
          refine lv_aload_n hx hb dX4_execute_28 rfl (lv_at hl 0 rfl) ?_
          refine lv_aload_n hx hb dX4_execute_29 rfl (lv_at hl 1 rfl) ?_
          refine lv_iload hx hb dX4_execute_30 (lv_at hl 2 rfl) ?_
          obtain ⟨u3, g4, hf⟩ := bd_some hf
          refine g_callVi S (c_X4_doNext l D cI cZ h0 h1 h0_beginning h0_memory h0_trace h0_registers h0_slots h1_kind h1_d h1_a h1_b _ L1 f0_memory f0_registers f0_slots f0_trace f1_a f1_b f1_d f1_kind v0_traceCount v0_done v0_ending v0_returned v1_count x4 u3 g4) (cwV 2 hts gX4_execute_X4_doNext rfl rfl rfl (by decide +kernel) ⟨Nat.le_of_ble_eq_true rfl, Nat.le_of_ble_eq_true rfl⟩) hK hP hD hS hA 0 (ci := 3) rfl rfl [0, 2, 3, 4, 5, 6, 7, 8, 9, 10] [1] [(h0_beginning, .inl (cI, 8, .inl f0_beginning))] rfl rfl (by decide) (by decide) (by decide) rfl hl.1 rfl (Nat.le_of_ble_eq_true rfl) dX4_execute_32 ⟨Nat.le_of_ble_eq_true rfl, Nat.le_of_ble_eq_true rfl⟩ (fun H locs hP hD hS => ?_)
          have hP : va_P D vwCl [(h0_beginning, .inl (cI, 8, .inl f0_beginning)), (h0, .inr (3, [.ref h0_beginning, .ref h0_memory, .ref h0_trace, .int u3.2.2.2.2.2.1, .int u3.2.2.2.2.2.2.1, .int u3.2.2.2.2.2.2.2.1, .int u3.2.2.2.2.2.2.2.2, .ref h0_registers, .ref h0_slots])), (h0_memory, .inl (cI, 8, .inl u3.2.1)), (h0_registers, .inl (cI, 8, .inl u3.2.2.1)), (h0_slots, .inl (cI, 8, .inl u3.2.2.2.1)), (h0_trace, .inl (cI, 16, .inl u3.2.2.2.2.1)), (h1, .inr (5, [.ref h1_kind, .ref h1_d, .ref h1_a, .ref h1_b, .int v1_count])), (h1_a, .inl (cI, L1, .inl f1_a)), (h1_b, .inl (cI, L1, .inl f1_b)), (h1_d, .inl (cI, L1, .inl f1_d)), (h1_kind, .inl (cI, L1, .inl f1_kind))] H := hP
          have hD : va_D A [(h0_beginning, .inl (cI, 8, .inl f0_beginning)), (h0, .inr (3, [.ref h0_beginning, .ref h0_memory, .ref h0_trace, .int u3.2.2.2.2.2.1, .int u3.2.2.2.2.2.2.1, .int u3.2.2.2.2.2.2.2.1, .int u3.2.2.2.2.2.2.2.2, .ref h0_registers, .ref h0_slots])), (h0_memory, .inl (cI, 8, .inl u3.2.1)), (h0_registers, .inl (cI, 8, .inl u3.2.2.1)), (h0_slots, .inl (cI, 8, .inl u3.2.2.2.1)), (h0_trace, .inl (cI, 16, .inl u3.2.2.2.2.1)), (h1, .inr (5, [.ref h1_kind, .ref h1_d, .ref h1_a, .ref h1_b, .int v1_count])), (h1_a, .inl (cI, L1, .inl f1_a)), (h1_b, .inl (cI, L1, .inl f1_b)), (h1_d, .inl (cI, L1, .inl f1_d)), (h1_kind, .inl (cI, L1, .inl f1_kind))] := hD
          refine lv_istore (lv' := [(4, .int u3.1), (0, .ref h0), (1, .ref h1), (5, .int x5)]) hx hb dX4_execute_35 hl (by decide) rfl (fun ls hl => ?_)
          refine lv_iinc (v := (x5 + (1 : Int32))) (lv' := [(5, .int (x5 + (1 : Int32))), (4, .int u3.1), (0, .ref h0), (1, .ref h1)]) hx hb dX4_execute_37 hl (k := 3) rfl rfl (by decide) rfl (fun ls hl => ?_)
          refine lv_goto (tgt := 12) hx hb dX4_execute_40 (by decide) ?_
          exact ih_12 _ _ _ _ _ _ _ _ _ _ _ _ ls hf (hP.sub [1, 0, 2, 3, 4, 5, 6, 7, 8, 9, 10] rfl) (hD.sub [1, 0, 2, 3, 4, 5, 6, 7, 8, 9, 10] (by decide) rfl) hS (lv_sub hl [2, 3, 1, 0] rfl)
  unfold f_X4_execute at hf
  refine lv_aload_n hx hb dX4_execute_0 rfl (lv_at hl 0 rfl) ?_
  refine lv_iload_n hx hb dX4_execute_1 rfl (lv_at hl 2 rfl) ?_
  refine lv_iload_n hx hb dX4_execute_2 rfl (lv_at hl 3 rfl) ?_
  obtain ⟨u5, g6, hf⟩ := bd_some hf
  refine g_callVv S (c_X4_begin l D cI cZ h0 h0_beginning h0_memory h0_trace h0_registers h0_slots _ f0_beginning f0_memory f0_registers f0_slots v0_traceCount v0_done v0_ending v0_returned n x2 x3 u5 g6) (cwV 2 hts gX4_execute_X4_begin rfl rfl rfl (by decide +kernel) ⟨Nat.le_of_ble_eq_true rfl, Nat.le_of_ble_eq_true rfl⟩) hK hP hD hS hA 0 (ci := 3) rfl rfl [0, 1, 2, 3, 4] [5, 6, 7, 8, 9, 10] [(h0_trace, .inl (cI, 16, .inl f0_trace)), (h1, .inr (5, [.ref h1_kind, .ref h1_d, .ref h1_a, .ref h1_b, .int v1_count])), (h1_a, .inl (cI, L1, .inl f1_a)), (h1_b, .inl (cI, L1, .inl f1_b)), (h1_d, .inl (cI, L1, .inl f1_d)), (h1_kind, .inl (cI, L1, .inl f1_kind))] rfl rfl (by decide) (by decide) (by decide) rfl hl.1 rfl (Nat.le_of_ble_eq_true rfl) dX4_execute_3 ⟨Nat.le_of_ble_eq_true rfl, Nat.le_of_ble_eq_true rfl⟩ (fun H locs hP hD hS => ?_)
  have hP : va_P D vwCl [(h0_trace, .inl (cI, 16, .inl f0_trace)), (h1, .inr (5, [.ref h1_kind, .ref h1_d, .ref h1_a, .ref h1_b, .int v1_count])), (h1_a, .inl (cI, L1, .inl f1_a)), (h1_b, .inl (cI, L1, .inl f1_b)), (h1_d, .inl (cI, L1, .inl f1_d)), (h1_kind, .inl (cI, L1, .inl f1_kind)), (h0, .inr (3, [.ref h0_beginning, .ref h0_memory, .ref h0_trace, .int u5.2.2.2.1, .int u5.2.2.2.2.1, .int u5.2.2.2.2.2, .int v0_returned, .ref h0_registers, .ref h0_slots])), (h0_beginning, .inl (cI, 8, .inl f0_beginning)), (h0_memory, .inl (cI, 8, .inl u5.1)), (h0_registers, .inl (cI, 8, .inl u5.2.1)), (h0_slots, .inl (cI, 8, .inl u5.2.2.1))] H := hP
  have hD : va_D A [(h0_trace, .inl (cI, 16, .inl f0_trace)), (h1, .inr (5, [.ref h1_kind, .ref h1_d, .ref h1_a, .ref h1_b, .int v1_count])), (h1_a, .inl (cI, L1, .inl f1_a)), (h1_b, .inl (cI, L1, .inl f1_b)), (h1_d, .inl (cI, L1, .inl f1_d)), (h1_kind, .inl (cI, L1, .inl f1_kind)), (h0, .inr (3, [.ref h0_beginning, .ref h0_memory, .ref h0_trace, .int u5.2.2.2.1, .int u5.2.2.2.2.1, .int u5.2.2.2.2.2, .int v0_returned, .ref h0_registers, .ref h0_slots])), (h0_beginning, .inl (cI, 8, .inl f0_beginning)), (h0_memory, .inl (cI, 8, .inl u5.1)), (h0_registers, .inl (cI, 8, .inl u5.2.1)), (h0_slots, .inl (cI, 8, .inl u5.2.2.1))] := hD
  refine lv_iconst (v := (0 : Int32)) hx hb dX4_execute_6 (by decide) ?_
  refine lv_istore (lv' := [(4, .int (0 : Int32)), (0, .ref h0), (1, .ref h1), (2, .int x2), (3, .int x3)]) hx hb dX4_execute_7 hl (by decide) rfl (fun ls hl => ?_)
  refine lv_iconst (v := (0 : Int32)) hx hb dX4_execute_9 (by decide) ?_
  refine lv_istore (lv' := [(5, .int (0 : Int32)), (4, .int (0 : Int32)), (0, .ref h0), (1, .ref h1), (2, .int x2), (3, .int x3)]) hx hb dX4_execute_10 hl (by decide) rfl (fun ls hl => ?_)
  exact hJ_12 n _ _ _ _ _ _ _ _ _ _ _ _ ls hf (hP.sub [6, 7, 8, 9, 10, 0, 1, 2, 3, 4, 5] rfl) (hD.sub [6, 7, 8, 9, 10, 0, 1, 2, 3, 4, 5] (by decide) rfl) hS (lv_sub hl [2, 3, 1, 0] rfl)
