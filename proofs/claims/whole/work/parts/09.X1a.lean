def f_X1_knows   (f0_known : (Nat → Int32)) (x1 x2 : Int32) : Option Int32 := gd x1 24 (if (((f0_known (x1).toNatClampNeg) >>> (x2 &&& 31)) &&& (1 : Int32)) = (1 : Int32) then (some (1 : Int32)) else (some (0 : Int32)))
theorem iw_X1_knows_X1 : ∀ w ∈ wsX10, w ∈ wsX1_knows := by decide +kernel
set_option maxHeartbeats 4000000 in
set_option maxRecDepth 100000 in
theorem c_X1_knows (l : Launch) (D : va_G) (cI cZ : ClassId) (h0 h0_reached h0_known h0_numbers h0_flowing : Nat) (sz : Nat)  (f0_known : Nat → Int32) (v0_flowingKnown v0_changed : Int32)  (x1 x2 : Int32) (res : Int32) (hf : f_X1_knows f0_known x1 x2 = some res) : Ct_i l yX1_knows wsX1_knows ({ frames := 0, cells := 0, slots := 0, locals := 0 }) D [(cI, .int), (cZ, .boolean)] [.ref h0, .int x1, .int x2] sz [(h0, .inr (1, [.ref h0_reached, .ref h0_known, .ref h0_numbers, .int v0_flowingKnown, .ref h0_flowing, .int v0_changed])), (h0_known, .inl (cI, 24, .inl f0_known))] res [(h0, .inr (1, [.ref h0_reached, .ref h0_known, .ref h0_numbers, .int v0_flowingKnown, .ref h0_flowing, .int v0_changed])), (h0_known, .inl (cI, 24, .inl f0_known))] := by
  refine g_of (cc := cX1_knows) (maxL := 3) (ret := some .boolean) (QQ := (fun A => g_Qi D [(cI, .int), (cZ, .boolean)] A res [(h0, .inr (1, [.ref h0_reached, .ref h0_known, .ref h0_numbers, .int v0_flowingKnown, .ref h0_flowing, .int v0_changed])), (h0_known, .inl (cI, 24, .inl f0_known))])) (by decide) rfl (Nat.le_of_ble_eq_true rfl) ?_
  intro p e s m args below meth c A ls S hr hlocks hA hP hK hD hl
  show W p l e ({ frames := 0, cells := 0, slots := 0, locals := 0 }) s m args below meth c s.heap [] 0 0 (MQ below (g_Qi D [(cI, .int), (cZ, .boolean)] A res [(h0, .inr (1, [.ref h0_reached, .ref h0_known, .ref h0_numbers, .int v0_flowingKnown, .ref h0_flowing, .int v0_changed])), (h0_known, .inl (cI, 24, .inl f0_known))]) args s 0 0 A) (F0 m 0 ls [])
  have hx := S.1
  have hb := S.2.1
  have hml := S.2.2.1
  have hown := S.2.2.2.1
  have hts := S.2.2.2.2
  have fl_15 := hts (.fieldLink RX1 15 "PassPipeline$Folding" "known" "[I") (by decide +kernel)
  have hS : va_S A s.heap s.heap [] := va_S.rf
  have hl : lv_has ls 3 [(0, .ref h0), (1, .int x1), (2, .int x2)] := hl
  unfold f_X1_knows at hf
  refine lv_aload_n hx hb dX1_knows_0 rfl (lv_at hl 0 rfl) ?_
  refine va_get (D := D) (ci := 1) (v := .ref h0_known) (C := RX1) (T := TX1) (N := 6) hx hb hts iw_X1_knows_X1 hown hK hP 0 rfl rfl 1 (by decide) fl_15 (fun _ h9 => h9) rfl dX1_knows_1 ?_
  refine lv_iload_n hx hb dX1_knows_4 rfl (lv_at hl 1 rfl) ?_
  obtain ⟨i1, hf⟩ := gd_some hf
  refine va_iald hx hb hK hP 1 0 rfl rfl i1 dX1_knows_5 ?_
  refine lv_iload_n hx hb dX1_knows_6 rfl (lv_at hl 2 rfl) ?_
  refine lv_ishr hx hb dX1_knows_7 ?_
  refine lv_iconst (v := (1 : Int32)) hx hb dX1_knows_8 (by decide) ?_
  refine lv_iand hx hb dX1_knows_9 ?_
  refine lv_iconst (v := (1 : Int32)) hx hb dX1_knows_10 (by decide) ?_
  refine lv_icmp_ne (tgt := 18) hx hb dX1_knows_11 (by decide) (fun c2 => ?_) (fun c2 => ?_)
  · have hf := ite_e hf c2
    refine lv_iconst (v := (0 : Int32)) hx hb dX1_knows_18 (by decide) ?_
    have z3 : (0 : Int32) = 0 ∨ (0 : Int32) = 1 := by decide
    have hf := Option.some.inj hf
    subst hf
    exact g_zret hx hb hr hlocks (hP.sub [0, 1] rfl) (hD.sub [0, 1] (by decide) rfl) hK hS rfl z3 dX1_knows_19
  · have hf := ite_t hf c2
    refine lv_iconst (v := (1 : Int32)) hx hb dX1_knows_14 (by decide) ?_
    refine lv_goto (tgt := 19) hx hb dX1_knows_15 (by decide) ?_
    have z4 : (1 : Int32) = 0 ∨ (1 : Int32) = 1 := by decide
    have hf := Option.some.inj hf
    subst hf
    exact g_zret hx hb hr hlocks (hP.sub [0, 1] rfl) (hD.sub [0, 1] (by decide) rfl) hK hS rfl z4 dX1_knows_19

def f_X1_number   (f0_numbers : (Nat → Int32)) (x1 x2 : Int32) : Option Int32 := gd ((x1 * (8 : Int32)) + x2) 192 (some (f0_numbers (((x1 * (8 : Int32)) + x2)).toNatClampNeg))
theorem iw_X1_number_X1 : ∀ w ∈ wsX10, w ∈ wsX1_number := by decide +kernel
set_option maxHeartbeats 4000000 in
set_option maxRecDepth 100000 in
theorem c_X1_number (l : Launch) (D : va_G) (cI cZ : ClassId) (h0 h0_reached h0_known h0_numbers h0_flowing : Nat) (sz : Nat)  (f0_numbers : Nat → Int32) (v0_flowingKnown v0_changed : Int32)  (x1 x2 : Int32) (res : Int32) (hf : f_X1_number f0_numbers x1 x2 = some res) : Ct_i l yX1_number wsX1_number ({ frames := 0, cells := 0, slots := 0, locals := 0 }) D [(cI, .int), (cZ, .boolean)] [.ref h0, .int x1, .int x2] sz [(h0, .inr (1, [.ref h0_reached, .ref h0_known, .ref h0_numbers, .int v0_flowingKnown, .ref h0_flowing, .int v0_changed])), (h0_numbers, .inl (cI, 192, .inl f0_numbers))] res [(h0, .inr (1, [.ref h0_reached, .ref h0_known, .ref h0_numbers, .int v0_flowingKnown, .ref h0_flowing, .int v0_changed])), (h0_numbers, .inl (cI, 192, .inl f0_numbers))] := by
  refine g_of (cc := cX1_number) (maxL := 3) (ret := some .int) (QQ := (fun A => g_Qi D [(cI, .int), (cZ, .boolean)] A res [(h0, .inr (1, [.ref h0_reached, .ref h0_known, .ref h0_numbers, .int v0_flowingKnown, .ref h0_flowing, .int v0_changed])), (h0_numbers, .inl (cI, 192, .inl f0_numbers))])) (by decide) rfl (Nat.le_of_ble_eq_true rfl) ?_
  intro p e s m args below meth c A ls S hr hlocks hA hP hK hD hl
  show W p l e ({ frames := 0, cells := 0, slots := 0, locals := 0 }) s m args below meth c s.heap [] 0 0 (MQ below (g_Qi D [(cI, .int), (cZ, .boolean)] A res [(h0, .inr (1, [.ref h0_reached, .ref h0_known, .ref h0_numbers, .int v0_flowingKnown, .ref h0_flowing, .int v0_changed])), (h0_numbers, .inl (cI, 192, .inl f0_numbers))]) args s 0 0 A) (F0 m 0 ls [])
  have hx := S.1
  have hb := S.2.1
  have hml := S.2.2.1
  have hown := S.2.2.2.1
  have hts := S.2.2.2.2
  have fl_19 := hts (.fieldLink RX1 19 "PassPipeline$Folding" "numbers" "[I") (by decide +kernel)
  have hS : va_S A s.heap s.heap [] := va_S.rf
  have hl : lv_has ls 3 [(0, .ref h0), (1, .int x1), (2, .int x2)] := hl
  unfold f_X1_number at hf
  refine lv_aload_n hx hb dX1_number_0 rfl (lv_at hl 0 rfl) ?_
  refine va_get (D := D) (ci := 1) (v := .ref h0_numbers) (C := RX1) (T := TX1) (N := 6) hx hb hts iw_X1_number_X1 hown hK hP 0 rfl rfl 2 (by decide) fl_19 (fun _ h9 => h9) rfl dX1_number_1 ?_
  refine lv_iload_n hx hb dX1_number_4 rfl (lv_at hl 1 rfl) ?_
  refine lv_bipush (v := (8 : Int32)) hx hb dX1_number_5 (by decide +kernel) ?_
  refine lv_imul hx hb dX1_number_7 ?_
  refine lv_iload_n hx hb dX1_number_8 rfl (lv_at hl 2 rfl) ?_
  refine lv_iadd hx hb dX1_number_9 ?_
  obtain ⟨i1, hf⟩ := gd_some hf
  refine va_iald hx hb hK hP 1 0 rfl rfl i1 dX1_number_10 ?_
  have hf := Option.some.inj hf
  subst hf
  exact g_iret hx hb hr hlocks (hP.sub [0, 1] rfl) (hD.sub [0, 1] (by decide) rfl) hK hS rfl dX1_number_11

def f_X1_isZero   (f0_known : (Nat → Int32)) (f0_numbers : (Nat → Int32)) (x1 x2 : Int32) : Option Int32 := (f_X1_knows f0_known x1 x2).bind (fun u1 => if u1 = 0 then (some (0 : Int32)) else ((f_X1_number f0_numbers x1 x2).bind (fun u5 => if u5 = 0 then (some (1 : Int32)) else (some (0 : Int32)))))
set_option maxHeartbeats 4000000 in
set_option maxRecDepth 100000 in
theorem c_X1_isZero (l : Launch) (D : va_G) (cI cZ : ClassId) (h0 h0_reached h0_known h0_numbers h0_flowing : Nat) (sz : Nat)  (f0_known f0_numbers : Nat → Int32) (v0_flowingKnown v0_changed : Int32)  (x1 x2 : Int32) (res : Int32) (hf : f_X1_isZero f0_known f0_numbers x1 x2 = some res) : Ct_i l yX1_isZero wsX1_isZero ({ frames := 1, cells := 0, slots := 0, locals := 22 }) D [(cI, .int), (cZ, .boolean)] [.ref h0, .int x1, .int x2] sz [(h0, .inr (1, [.ref h0_reached, .ref h0_known, .ref h0_numbers, .int v0_flowingKnown, .ref h0_flowing, .int v0_changed])), (h0_known, .inl (cI, 24, .inl f0_known)), (h0_numbers, .inl (cI, 192, .inl f0_numbers))] res [(h0, .inr (1, [.ref h0_reached, .ref h0_known, .ref h0_numbers, .int v0_flowingKnown, .ref h0_flowing, .int v0_changed])), (h0_known, .inl (cI, 24, .inl f0_known)), (h0_numbers, .inl (cI, 192, .inl f0_numbers))] := by
  refine g_of (cc := cX1_isZero) (maxL := 3) (ret := some .boolean) (QQ := (fun A => g_Qi D [(cI, .int), (cZ, .boolean)] A res [(h0, .inr (1, [.ref h0_reached, .ref h0_known, .ref h0_numbers, .int v0_flowingKnown, .ref h0_flowing, .int v0_changed])), (h0_known, .inl (cI, 24, .inl f0_known)), (h0_numbers, .inl (cI, 192, .inl f0_numbers))])) (by decide) rfl (Nat.le_of_ble_eq_true rfl) ?_
  intro p e s m args below meth c A ls S hr hlocks hA hP hK hD hl
  show W p l e ({ frames := 1, cells := 0, slots := 0, locals := 22 }) s m args below meth c s.heap [] 0 0 (MQ below (g_Qi D [(cI, .int), (cZ, .boolean)] A res [(h0, .inr (1, [.ref h0_reached, .ref h0_known, .ref h0_numbers, .int v0_flowingKnown, .ref h0_flowing, .int v0_changed])), (h0_known, .inl (cI, 24, .inl f0_known)), (h0_numbers, .inl (cI, 192, .inl f0_numbers))]) args s 0 0 A) (F0 m 0 ls [])
  have hx := S.1
  have hb := S.2.1
  have hml := S.2.2.1
  have hown := S.2.2.2.1
  have hts := S.2.2.2.2
  have hS : va_S A s.heap s.heap [] := va_S.rf
  have hl : lv_has ls 3 [(0, .ref h0), (1, .int x1), (2, .int x2)] := hl
  unfold f_X1_isZero at hf
  refine lv_aload_n hx hb dX1_isZero_0 rfl (lv_at hl 0 rfl) ?_
  refine lv_iload_n hx hb dX1_isZero_1 rfl (lv_at hl 1 rfl) ?_
  refine lv_iload_n hx hb dX1_isZero_2 rfl (lv_at hl 2 rfl) ?_
  obtain ⟨u1, g2, hf⟩ := bd_some hf
  refine g_callVi S (c_X1_knows l D cI cZ h0 h0_reached h0_known h0_numbers h0_flowing _ f0_known v0_flowingKnown v0_changed x1 x2 u1 g2) (cwV 2 hts gX1_isZero_X1_knows rfl rfl rfl (by decide +kernel) ⟨Nat.le_of_ble_eq_true rfl, Nat.le_of_ble_eq_true rfl⟩) hK hP hD hS hA 0 (ci := 1) rfl rfl [0, 1] [2] [(h0_numbers, .inl (cI, 192, .inl f0_numbers))] rfl rfl (by decide) (by decide) (by decide) rfl hl.1 rfl (Nat.le_of_ble_eq_true rfl) dX1_isZero_3 ⟨Nat.le_of_ble_eq_true rfl, Nat.le_of_ble_eq_true rfl⟩ (fun H locs hP hD hS => ?_)
  have hP : va_P D vwCl [(h0_numbers, .inl (cI, 192, .inl f0_numbers)), (h0, .inr (1, [.ref h0_reached, .ref h0_known, .ref h0_numbers, .int v0_flowingKnown, .ref h0_flowing, .int v0_changed])), (h0_known, .inl (cI, 24, .inl f0_known))] H := hP
  have hD : va_D A [(h0_numbers, .inl (cI, 192, .inl f0_numbers)), (h0, .inr (1, [.ref h0_reached, .ref h0_known, .ref h0_numbers, .int v0_flowingKnown, .ref h0_flowing, .int v0_changed])), (h0_known, .inl (cI, 24, .inl f0_known))] := hD
  refine lv_if_eq (tgt := 22) hx hb dX1_isZero_6 (by decide) (fun c3 => ?_) (fun c3 => ?_)
  · have hf := ite_t hf c3
    refine lv_iconst (v := (0 : Int32)) hx hb dX1_isZero_22 (by decide) ?_
    have z4 : (0 : Int32) = 0 ∨ (0 : Int32) = 1 := by decide
    have hf := Option.some.inj hf
    subst hf
    exact g_zret hx hb hr hlocks (hP.sub [1, 2, 0] rfl) (hD.sub [1, 2, 0] (by decide) rfl) hK hS rfl z4 dX1_isZero_23
  · have hf := ite_e hf c3
    refine lv_aload_n hx hb dX1_isZero_9 rfl (lv_at hl 0 rfl) ?_
    refine lv_iload_n hx hb dX1_isZero_10 rfl (lv_at hl 1 rfl) ?_
    refine lv_iload_n hx hb dX1_isZero_11 rfl (lv_at hl 2 rfl) ?_
    obtain ⟨u5, g6, hf⟩ := bd_some hf
    refine g_callVi S (c_X1_number l D cI cZ h0 h0_reached h0_known h0_numbers h0_flowing _ f0_numbers v0_flowingKnown v0_changed x1 x2 u5 g6) (cwV 2 hts gX1_isZero_X1_number rfl rfl rfl (by decide +kernel) ⟨Nat.le_of_ble_eq_true rfl, Nat.le_of_ble_eq_true rfl⟩) hK hP hD hS hA 1 (ci := 1) rfl rfl [1, 0] [2] [(h0_known, .inl (cI, 24, .inl f0_known))] rfl rfl (by decide) (by decide) (by decide) rfl hl.1 rfl (Nat.le_of_ble_eq_true rfl) dX1_isZero_12 ⟨Nat.le_of_ble_eq_true rfl, Nat.le_of_ble_eq_true rfl⟩ (fun H locs hP hD hS => ?_)
    have hP : va_P D vwCl [(h0_known, .inl (cI, 24, .inl f0_known)), (h0, .inr (1, [.ref h0_reached, .ref h0_known, .ref h0_numbers, .int v0_flowingKnown, .ref h0_flowing, .int v0_changed])), (h0_numbers, .inl (cI, 192, .inl f0_numbers))] H := hP
    have hD : va_D A [(h0_known, .inl (cI, 24, .inl f0_known)), (h0, .inr (1, [.ref h0_reached, .ref h0_known, .ref h0_numbers, .int v0_flowingKnown, .ref h0_flowing, .int v0_changed])), (h0_numbers, .inl (cI, 192, .inl f0_numbers))] := hD
    refine lv_if_ne (tgt := 22) hx hb dX1_isZero_15 (by decide) (fun c7 => ?_) (fun c7 => ?_)
    · have hf := ite_e hf c7
      refine lv_iconst (v := (0 : Int32)) hx hb dX1_isZero_22 (by decide) ?_
      have z8 : (0 : Int32) = 0 ∨ (0 : Int32) = 1 := by decide
      have hf := Option.some.inj hf
      subst hf
      exact g_zret hx hb hr hlocks (hP.sub [1, 0, 2] rfl) (hD.sub [1, 0, 2] (by decide) rfl) hK hS rfl z8 dX1_isZero_23
    · have hf := ite_t hf c7
      refine lv_iconst (v := (1 : Int32)) hx hb dX1_isZero_18 (by decide) ?_
      refine lv_goto (tgt := 23) hx hb dX1_isZero_19 (by decide) ?_
      have z9 : (1 : Int32) = 0 ∨ (1 : Int32) = 1 := by decide
      have hf := Option.some.inj hf
      subst hf
      exact g_zret hx hb hr hlocks (hP.sub [1, 0, 2] rfl) (hD.sub [1, 0, 2] (by decide) rfl) hK hS rfl z9 dX1_isZero_23

def f_X1_givesNumber_56   (L1 : Nat) (f0_known : (Nat → Int32)) (f0_numbers : (Nat → Int32)) (f1_a : (Nat → Int32)) (f1_b : (Nat → Int32)) (f1_kind : (Nat → Int32)) (x2 x3 t0 : Int32) : Option Int32 := (f_X2_isArithmetic x3).bind (fun u1 => if u1 = 0 then (some (0 : Int32)) else (if t0 = 0 then (gd x2 L1 ((f_X1_knows f0_known x2 (f1_a (x2).toNatClampNeg)).bind (fun u8 => if u8 = 0 then (some (0 : Int32)) else (gd x2 L1 ((f_X1_knows f0_known x2 (f1_b (x2).toNatClampNeg)).bind (fun u13 => if u13 = 0 then (some (0 : Int32)) else (some (1 : Int32)))))))) else (some (0 : Int32))))
def f_X1_givesNumber  (L1 : Nat) (f0_known : (Nat → Int32)) (f0_numbers : (Nat → Int32)) (f1_a : (Nat → Int32)) (f1_b : (Nat → Int32)) (f1_kind : (Nat → Int32)) (x2 : Int32) : Option Int32 := gd x2 L1 (if (f1_kind (x2).toNatClampNeg) = (1 : Int32) then (some (1 : Int32)) else (if (f1_kind (x2).toNatClampNeg) = (2 : Int32) then (gd x2 L1 ((f_X1_knows f0_known x2 (f1_a (x2).toNatClampNeg)).bind (fun u27 => gb u27 (some u27)))) else (if (f1_kind (x2).toNatClampNeg) = (6 : Int32) then (gd x2 L1 ((f_X1_isZero f0_known f0_numbers x2 (f1_b (x2).toNatClampNeg)).bind (fun u23 => if u23 = 0 then (f_X1_givesNumber_56 L1 f0_known f0_numbers f1_a f1_b f1_kind x2 (f1_kind (x2).toNatClampNeg) (0 : Int32)) else (f_X1_givesNumber_56 L1 f0_known f0_numbers f1_a f1_b f1_kind x2 (f1_kind (x2).toNatClampNeg) (1 : Int32))))) else (f_X1_givesNumber_56 L1 f0_known f0_numbers f1_a f1_b f1_kind x2 (f1_kind (x2).toNatClampNeg) (0 : Int32)))))
theorem iw_X1_givesNumber_X6 : ∀ w ∈ wsX60, w ∈ wsX1_givesNumber := by decide +kernel
set_option maxHeartbeats 4000000 in
set_option maxRecDepth 100000 in
theorem c_X1_givesNumber (l : Launch) (D : va_G) (cI cZ : ClassId) (h0 h1 h0_reached h0_known h0_numbers h0_flowing h1_kind h1_d h1_a h1_b : Nat) (sz : Nat) (L1 : Nat) (f0_known f0_numbers f1_a f1_b f1_kind : Nat → Int32) (v0_flowingKnown v0_changed v1_count : Int32)  (x2 : Int32) (res : Int32) (hf : f_X1_givesNumber L1 f0_known f0_numbers f1_a f1_b f1_kind x2 = some res) : Ct_i l yX1_givesNumber wsX1_givesNumber ({ frames := 2, cells := 0, slots := 0, locals := 44 }) D [(cI, .int), (cZ, .boolean)] [.ref h0, .ref h1, .int x2] sz [(h0, .inr (1, [.ref h0_reached, .ref h0_known, .ref h0_numbers, .int v0_flowingKnown, .ref h0_flowing, .int v0_changed])), (h0_known, .inl (cI, 24, .inl f0_known)), (h0_numbers, .inl (cI, 192, .inl f0_numbers)), (h1, .inr (5, [.ref h1_kind, .ref h1_d, .ref h1_a, .ref h1_b, .int v1_count])), (h1_a, .inl (cI, L1, .inl f1_a)), (h1_b, .inl (cI, L1, .inl f1_b)), (h1_kind, .inl (cI, L1, .inl f1_kind))] res [(h0, .inr (1, [.ref h0_reached, .ref h0_known, .ref h0_numbers, .int v0_flowingKnown, .ref h0_flowing, .int v0_changed])), (h0_known, .inl (cI, 24, .inl f0_known)), (h0_numbers, .inl (cI, 192, .inl f0_numbers)), (h1, .inr (5, [.ref h1_kind, .ref h1_d, .ref h1_a, .ref h1_b, .int v1_count])), (h1_a, .inl (cI, L1, .inl f1_a)), (h1_b, .inl (cI, L1, .inl f1_b)), (h1_kind, .inl (cI, L1, .inl f1_kind))] := by
  refine g_of (cc := cX1_givesNumber) (maxL := 5) (ret := some .boolean) (QQ := (fun A => g_Qi D [(cI, .int), (cZ, .boolean)] A res [(h0, .inr (1, [.ref h0_reached, .ref h0_known, .ref h0_numbers, .int v0_flowingKnown, .ref h0_flowing, .int v0_changed])), (h0_known, .inl (cI, 24, .inl f0_known)), (h0_numbers, .inl (cI, 192, .inl f0_numbers)), (h1, .inr (5, [.ref h1_kind, .ref h1_d, .ref h1_a, .ref h1_b, .int v1_count])), (h1_a, .inl (cI, L1, .inl f1_a)), (h1_b, .inl (cI, L1, .inl f1_b)), (h1_kind, .inl (cI, L1, .inl f1_kind))])) (by decide) rfl (Nat.le_of_ble_eq_true rfl) ?_
  intro p e s m args below meth c A ls S hr hlocks hA hP hK hD hl
  show W p l e ({ frames := 2, cells := 0, slots := 0, locals := 44 }) s m args below meth c s.heap [] 0 0 (MQ below (g_Qi D [(cI, .int), (cZ, .boolean)] A res [(h0, .inr (1, [.ref h0_reached, .ref h0_known, .ref h0_numbers, .int v0_flowingKnown, .ref h0_flowing, .int v0_changed])), (h0_known, .inl (cI, 24, .inl f0_known)), (h0_numbers, .inl (cI, 192, .inl f0_numbers)), (h1, .inr (5, [.ref h1_kind, .ref h1_d, .ref h1_a, .ref h1_b, .int v1_count])), (h1_a, .inl (cI, L1, .inl f1_a)), (h1_b, .inl (cI, L1, .inl f1_b)), (h1_kind, .inl (cI, L1, .inl f1_kind))]) args s 0 0 A) (F0 m 0 ls [])
  have hx := S.1
  have hb := S.2.1
  have hml := S.2.2.1
  have hown := S.2.2.2.1
  have hts := S.2.2.2.2
  have fl_59 := hts (.fieldLink RX1 59 "PassPipeline$Program" "kind" "[I") (by decide +kernel)
  have fl_62 := hts (.fieldLink RX1 62 "PassPipeline$Program" "b" "[I") (by decide +kernel)
  have fl_84 := hts (.fieldLink RX1 84 "PassPipeline$Program" "a" "[I") (by decide +kernel)
  have hS : va_S A s.heap s.heap [] := va_S.rf
  have hl : lv_has ls 5 [(0, .ref h0), (1, .ref h1), (2, .int x2)] := hl
  have hJ_56 : ∀  (x2 x3 t0 : Int32) (H : Heap) (locs : List Loc) (ls : Array Slot), f_X1_givesNumber_56 L1 f0_known f0_numbers f1_a f1_b f1_kind x2 x3 t0 = some res → va_P D vwCl [(h0, .inr (1, [.ref h0_reached, .ref h0_known, .ref h0_numbers, .int v0_flowingKnown, .ref h0_flowing, .int v0_changed])), (h0_known, .inl (cI, 24, .inl f0_known)), (h0_numbers, .inl (cI, 192, .inl f0_numbers)), (h1, .inr (5, [.ref h1_kind, .ref h1_d, .ref h1_a, .ref h1_b, .int v1_count])), (h1_a, .inl (cI, L1, .inl f1_a)), (h1_b, .inl (cI, L1, .inl f1_b)), (h1_kind, .inl (cI, L1, .inl f1_kind))] H → va_D A [(h0, .inr (1, [.ref h0_reached, .ref h0_known, .ref h0_numbers, .int v0_flowingKnown, .ref h0_flowing, .int v0_changed])), (h0_known, .inl (cI, 24, .inl f0_known)), (h0_numbers, .inl (cI, 192, .inl f0_numbers)), (h1, .inr (5, [.ref h1_kind, .ref h1_d, .ref h1_a, .ref h1_b, .int v1_count])), (h1_a, .inl (cI, L1, .inl f1_a)), (h1_b, .inl (cI, L1, .inl f1_b)), (h1_kind, .inl (cI, L1, .inl f1_kind))] → va_S A s.heap H locs → lv_has ls 5 [(0, .ref h0), (1, .ref h1), (2, .int x2), (3, .int x3)] → W p l e ({ frames := 2, cells := 0, slots := 0, locals := 44 }) s m args below meth c H locs 0 0 (MQ below (g_Qi D [(cI, .int), (cZ, .boolean)] A res [(h0, .inr (1, [.ref h0_reached, .ref h0_known, .ref h0_numbers, .int v0_flowingKnown, .ref h0_flowing, .int v0_changed])), (h0_known, .inl (cI, 24, .inl f0_known)), (h0_numbers, .inl (cI, 192, .inl f0_numbers)), (h1, .inr (5, [.ref h1_kind, .ref h1_d, .ref h1_a, .ref h1_b, .int v1_count])), (h1_a, .inl (cI, L1, .inl f1_a)), (h1_b, .inl (cI, L1, .inl f1_b)), (h1_kind, .inl (cI, L1, .inl f1_kind))]) args s 0 0 A) (F0 m 56 ls [.int t0]) := by
    intro x2 x3 t0 H locs ls hf hP hD hS hl
    unfold f_X1_givesNumber_56 at hf
    refine lv_istore (lv' := [(4, .int t0), (0, .ref h0), (1, .ref h1), (2, .int x2), (3, .int x3)]) hx hb dX1_givesNumber_56 hl (by decide) rfl (fun ls hl => ?_)
    refine lv_iload_n hx hb dX1_givesNumber_58 rfl (lv_at hl 4 rfl) ?_
    obtain ⟨u1, g2, hf⟩ := bd_some hf
    refine g_callSi S (c_X2_isArithmetic l D cI cZ _ x3 u1 g2) (va_cwS 1 hts gX1_givesNumber_X2_isArithmetic rfl rfl rfl (by decide +kernel) ⟨Nat.le_of_ble_eq_true rfl, Nat.le_of_ble_eq_true rfl⟩) hK hP hD hS hA [] [0, 1, 2, 3, 4, 5, 6] [(h0, .inr (1, [.ref h0_reached, .ref h0_known, .ref h0_numbers, .int v0_flowingKnown, .ref h0_flowing, .int v0_changed])), (h0_known, .inl (cI, 24, .inl f0_known)), (h0_numbers, .inl (cI, 192, .inl f0_numbers)), (h1, .inr (5, [.ref h1_kind, .ref h1_d, .ref h1_a, .ref h1_b, .int v1_count])), (h1_a, .inl (cI, L1, .inl f1_a)), (h1_b, .inl (cI, L1, .inl f1_b)), (h1_kind, .inl (cI, L1, .inl f1_kind))] rfl rfl (by decide) (by decide) (by decide) rfl hl.1 rfl (Nat.le_of_ble_eq_true rfl) dX1_givesNumber_59 ⟨Nat.le_of_ble_eq_true rfl, Nat.le_of_ble_eq_true rfl⟩ (fun H locs hP hD hS => ?_)
    have hP : va_P D vwCl [(h0, .inr (1, [.ref h0_reached, .ref h0_known, .ref h0_numbers, .int v0_flowingKnown, .ref h0_flowing, .int v0_changed])), (h0_known, .inl (cI, 24, .inl f0_known)), (h0_numbers, .inl (cI, 192, .inl f0_numbers)), (h1, .inr (5, [.ref h1_kind, .ref h1_d, .ref h1_a, .ref h1_b, .int v1_count])), (h1_a, .inl (cI, L1, .inl f1_a)), (h1_b, .inl (cI, L1, .inl f1_b)), (h1_kind, .inl (cI, L1, .inl f1_kind))] H := hP
    have hD : va_D A [(h0, .inr (1, [.ref h0_reached, .ref h0_known, .ref h0_numbers, .int v0_flowingKnown, .ref h0_flowing, .int v0_changed])), (h0_known, .inl (cI, 24, .inl f0_known)), (h0_numbers, .inl (cI, 192, .inl f0_numbers)), (h1, .inr (5, [.ref h1_kind, .ref h1_d, .ref h1_a, .ref h1_b, .int v1_count])), (h1_a, .inl (cI, L1, .inl f1_a)), (h1_b, .inl (cI, L1, .inl f1_b)), (h1_kind, .inl (cI, L1, .inl f1_kind))] := hD
    refine lv_if_eq (tgt := 102) hx hb dX1_givesNumber_62 (by decide) (fun c3 => ?_) (fun c3 => ?_)
    · have hf := ite_t hf c3
      refine lv_iconst (v := (0 : Int32)) hx hb dX1_givesNumber_102 (by decide) ?_
      have z4 : (0 : Int32) = 0 ∨ (0 : Int32) = 1 := by decide
      have hf := Option.some.inj hf
      subst hf
      exact g_zret hx hb hr hlocks (hP.sub [0, 1, 2, 3, 4, 5, 6] rfl) (hD.sub [0, 1, 2, 3, 4, 5, 6] (by decide) rfl) hK hS rfl z4 dX1_givesNumber_103
    · have hf := ite_e hf c3
      refine lv_iload hx hb dX1_givesNumber_65 (lv_at hl 0 rfl) ?_
      refine lv_if_ne (tgt := 102) hx hb dX1_givesNumber_67 (by decide) (fun c5 => ?_) (fun c5 => ?_)
      · have hf := ite_e hf c5
        refine lv_iconst (v := (0 : Int32)) hx hb dX1_givesNumber_102 (by decide) ?_
        have z6 : (0 : Int32) = 0 ∨ (0 : Int32) = 1 := by decide
        have hf := Option.some.inj hf
        subst hf
        exact g_zret hx hb hr hlocks (hP.sub [0, 1, 2, 3, 4, 5, 6] rfl) (hD.sub [0, 1, 2, 3, 4, 5, 6] (by decide) rfl) hK hS rfl z6 dX1_givesNumber_103
      · have hf := ite_t hf c5
        refine lv_aload_n hx hb dX1_givesNumber_70 rfl (lv_at hl 1 rfl) ?_
        refine lv_iload_n hx hb dX1_givesNumber_71 rfl (lv_at hl 3 rfl) ?_
        refine lv_aload_n hx hb dX1_givesNumber_72 rfl (lv_at hl 2 rfl) ?_
        refine va_get (D := D) (ci := 5) (v := .ref h1_a) (C := RX6) (T := TX6) (N := 5) hx hb hts iw_X1_givesNumber_X6 hown hK hP 3 rfl rfl 2 (by decide) fl_84 (fun _ h9 => h9) rfl dX1_givesNumber_73 ?_
        refine lv_iload_n hx hb dX1_givesNumber_76 rfl (lv_at hl 3 rfl) ?_
        obtain ⟨i7, hf⟩ := gd_some hf
        refine va_iald hx hb hK hP 4 0 rfl rfl i7 dX1_givesNumber_77 ?_
        obtain ⟨u8, g9, hf⟩ := bd_some hf
        refine g_callVi S (c_X1_knows l D cI cZ h0 h0_reached h0_known h0_numbers h0_flowing _ f0_known v0_flowingKnown v0_changed x2 (f1_a (x2).toNatClampNeg) u8 g9) (cwV 2 hts gX1_givesNumber_X1_knows rfl rfl rfl (by decide +kernel) ⟨Nat.le_of_ble_eq_true rfl, Nat.le_of_ble_eq_true rfl⟩) hK hP hD hS hA 0 (ci := 1) rfl rfl [0, 1] [2, 3, 4, 5, 6] [(h0_numbers, .inl (cI, 192, .inl f0_numbers)), (h1, .inr (5, [.ref h1_kind, .ref h1_d, .ref h1_a, .ref h1_b, .int v1_count])), (h1_a, .inl (cI, L1, .inl f1_a)), (h1_b, .inl (cI, L1, .inl f1_b)), (h1_kind, .inl (cI, L1, .inl f1_kind))] rfl rfl (by decide) (by decide) (by decide) rfl hl.1 rfl (Nat.le_of_ble_eq_true rfl) dX1_givesNumber_78 ⟨Nat.le_of_ble_eq_true rfl, Nat.le_of_ble_eq_true rfl⟩ (fun H locs hP hD hS => ?_)
        have hP : va_P D vwCl [(h0_numbers, .inl (cI, 192, .inl f0_numbers)), (h1, .inr (5, [.ref h1_kind, .ref h1_d, .ref h1_a, .ref h1_b, .int v1_count])), (h1_a, .inl (cI, L1, .inl f1_a)), (h1_b, .inl (cI, L1, .inl f1_b)), (h1_kind, .inl (cI, L1, .inl f1_kind)), (h0, .inr (1, [.ref h0_reached, .ref h0_known, .ref h0_numbers, .int v0_flowingKnown, .ref h0_flowing, .int v0_changed])), (h0_known, .inl (cI, 24, .inl f0_known))] H := hP
        have hD : va_D A [(h0_numbers, .inl (cI, 192, .inl f0_numbers)), (h1, .inr (5, [.ref h1_kind, .ref h1_d, .ref h1_a, .ref h1_b, .int v1_count])), (h1_a, .inl (cI, L1, .inl f1_a)), (h1_b, .inl (cI, L1, .inl f1_b)), (h1_kind, .inl (cI, L1, .inl f1_kind)), (h0, .inr (1, [.ref h0_reached, .ref h0_known, .ref h0_numbers, .int v0_flowingKnown, .ref h0_flowing, .int v0_changed])), (h0_known, .inl (cI, 24, .inl f0_known))] := hD
        refine lv_if_eq (tgt := 102) hx hb dX1_givesNumber_81 (by decide) (fun c10 => ?_) (fun c10 => ?_)
        · have hf := ite_t hf c10
          refine lv_iconst (v := (0 : Int32)) hx hb dX1_givesNumber_102 (by decide) ?_
          have z11 : (0 : Int32) = 0 ∨ (0 : Int32) = 1 := by decide
          have hf := Option.some.inj hf
          subst hf
          exact g_zret hx hb hr hlocks (hP.sub [5, 6, 0, 1, 2, 3, 4] rfl) (hD.sub [5, 6, 0, 1, 2, 3, 4] (by decide) rfl) hK hS rfl z11 dX1_givesNumber_103
        · have hf := ite_e hf c10
          refine lv_aload_n hx hb dX1_givesNumber_84 rfl (lv_at hl 1 rfl) ?_
          refine lv_iload_n hx hb dX1_givesNumber_85 rfl (lv_at hl 3 rfl) ?_
          refine lv_aload_n hx hb dX1_givesNumber_86 rfl (lv_at hl 2 rfl) ?_
          refine va_get (D := D) (ci := 5) (v := .ref h1_b) (C := RX6) (T := TX6) (N := 5) hx hb hts iw_X1_givesNumber_X6 hown hK hP 1 rfl rfl 3 (by decide) fl_62 (fun _ h9 => h9) rfl dX1_givesNumber_87 ?_
          refine lv_iload_n hx hb dX1_givesNumber_90 rfl (lv_at hl 3 rfl) ?_
          obtain ⟨i12, hf⟩ := gd_some hf
          refine va_iald hx hb hK hP 3 0 rfl rfl i12 dX1_givesNumber_91 ?_
          obtain ⟨u13, g14, hf⟩ := bd_some hf
          refine g_callVi S (c_X1_knows l D cI cZ h0 h0_reached h0_known h0_numbers h0_flowing _ f0_known v0_flowingKnown v0_changed x2 (f1_b (x2).toNatClampNeg) u13 g14) (cwV 2 hts gX1_givesNumber_X1_knows rfl rfl rfl (by decide +kernel) ⟨Nat.le_of_ble_eq_true rfl, Nat.le_of_ble_eq_true rfl⟩) hK hP hD hS hA 5 (ci := 1) rfl rfl [5, 6] [0, 1, 2, 3, 4] [(h0_numbers, .inl (cI, 192, .inl f0_numbers)), (h1, .inr (5, [.ref h1_kind, .ref h1_d, .ref h1_a, .ref h1_b, .int v1_count])), (h1_a, .inl (cI, L1, .inl f1_a)), (h1_b, .inl (cI, L1, .inl f1_b)), (h1_kind, .inl (cI, L1, .inl f1_kind))] rfl rfl (by decide) (by decide) (by decide) rfl hl.1 rfl (Nat.le_of_ble_eq_true rfl) dX1_givesNumber_92 ⟨Nat.le_of_ble_eq_true rfl, Nat.le_of_ble_eq_true rfl⟩ (fun H locs hP hD hS => ?_)
          have hP : va_P D vwCl [(h0_numbers, .inl (cI, 192, .inl f0_numbers)), (h1, .inr (5, [.ref h1_kind, .ref h1_d, .ref h1_a, .ref h1_b, .int v1_count])), (h1_a, .inl (cI, L1, .inl f1_a)), (h1_b, .inl (cI, L1, .inl f1_b)), (h1_kind, .inl (cI, L1, .inl f1_kind)), (h0, .inr (1, [.ref h0_reached, .ref h0_known, .ref h0_numbers, .int v0_flowingKnown, .ref h0_flowing, .int v0_changed])), (h0_known, .inl (cI, 24, .inl f0_known))] H := hP
          have hD : va_D A [(h0_numbers, .inl (cI, 192, .inl f0_numbers)), (h1, .inr (5, [.ref h1_kind, .ref h1_d, .ref h1_a, .ref h1_b, .int v1_count])), (h1_a, .inl (cI, L1, .inl f1_a)), (h1_b, .inl (cI, L1, .inl f1_b)), (h1_kind, .inl (cI, L1, .inl f1_kind)), (h0, .inr (1, [.ref h0_reached, .ref h0_known, .ref h0_numbers, .int v0_flowingKnown, .ref h0_flowing, .int v0_changed])), (h0_known, .inl (cI, 24, .inl f0_known))] := hD
          refine lv_if_eq (tgt := 102) hx hb dX1_givesNumber_95 (by decide) (fun c15 => ?_) (fun c15 => ?_)
          · have hf := ite_t hf c15
            refine lv_iconst (v := (0 : Int32)) hx hb dX1_givesNumber_102 (by decide) ?_
            have z16 : (0 : Int32) = 0 ∨ (0 : Int32) = 1 := by decide
            have hf := Option.some.inj hf
            subst hf
            exact g_zret hx hb hr hlocks (hP.sub [5, 6, 0, 1, 2, 3, 4] rfl) (hD.sub [5, 6, 0, 1, 2, 3, 4] (by decide) rfl) hK hS rfl z16 dX1_givesNumber_103
          · have hf := ite_e hf c15
            refine lv_iconst (v := (1 : Int32)) hx hb dX1_givesNumber_98 (by decide) ?_
            refine lv_goto (tgt := 103) hx hb dX1_givesNumber_99 (by decide) ?_
            have z17 : (1 : Int32) = 0 ∨ (1 : Int32) = 1 := by decide
            have hf := Option.some.inj hf
            subst hf
            exact g_zret hx hb hr hlocks (hP.sub [5, 6, 0, 1, 2, 3, 4] rfl) (hD.sub [5, 6, 0, 1, 2, 3, 4] (by decide) rfl) hK hS rfl z17 dX1_givesNumber_103
  unfold f_X1_givesNumber at hf
  refine lv_aload_n hx hb dX1_givesNumber_0 rfl (lv_at hl 1 rfl) ?_
  refine va_get (D := D) (ci := 5) (v := .ref h1_kind) (C := RX6) (T := TX6) (N := 5) hx hb hts iw_X1_givesNumber_X6 hown hK hP 3 rfl rfl 0 (by decide) fl_59 (fun _ h9 => h9) rfl dX1_givesNumber_1 ?_
  refine lv_iload_n hx hb dX1_givesNumber_4 rfl (lv_at hl 2 rfl) ?_
  obtain ⟨i18, hf⟩ := gd_some hf
  refine va_iald hx hb hK hP 6 0 rfl rfl i18 dX1_givesNumber_5 ?_
  refine lv_istore_n (lv' := [(3, .int (f1_kind (x2).toNatClampNeg)), (0, .ref h0), (1, .ref h1), (2, .int x2)]) hx hb dX1_givesNumber_6 rfl hl (by decide) rfl (fun ls hl => ?_)
  refine lv_iload_n hx hb dX1_givesNumber_7 rfl (lv_at hl 0 rfl) ?_
  refine lv_iconst (v := (1 : Int32)) hx hb dX1_givesNumber_8 (by decide) ?_
  refine lv_icmp_ne (tgt := 14) hx hb dX1_givesNumber_9 (by decide) (fun c19 => ?_) (fun c19 => ?_)
  · have hf := ite_e hf c19
    refine lv_iload_n hx hb dX1_givesNumber_14 rfl (lv_at hl 0 rfl) ?_
    refine lv_iconst (v := (2 : Int32)) hx hb dX1_givesNumber_15 (by decide) ?_
    refine lv_icmp_ne (tgt := 31) hx hb dX1_givesNumber_16 (by decide) (fun c20 => ?_) (fun c20 => ?_)
    · have hf := ite_e hf c20
      refine lv_iload_n hx hb dX1_givesNumber_31 rfl (lv_at hl 0 rfl) ?_
      refine lv_bipush (v := (6 : Int32)) hx hb dX1_givesNumber_32 (by decide +kernel) ?_
      refine lv_icmp_ne (tgt := 55) hx hb dX1_givesNumber_34 (by decide) (fun c21 => ?_) (fun c21 => ?_)
      · have hf := ite_e hf c21
        refine lv_iconst (v := (0 : Int32)) hx hb dX1_givesNumber_55 (by decide) ?_
        exact hJ_56 _ _ _ _ _ ls hf (hP.sub [0, 1, 2, 3, 4, 5, 6] rfl) (hD.sub [0, 1, 2, 3, 4, 5, 6] (by decide) rfl) hS (lv_sub hl [1, 2, 3, 0] rfl)
      · have hf := ite_t hf c21
        refine lv_aload_n hx hb dX1_givesNumber_37 rfl (lv_at hl 1 rfl) ?_
        refine lv_iload_n hx hb dX1_givesNumber_38 rfl (lv_at hl 3 rfl) ?_
        refine lv_aload_n hx hb dX1_givesNumber_39 rfl (lv_at hl 2 rfl) ?_
        refine va_get (D := D) (ci := 5) (v := .ref h1_b) (C := RX6) (T := TX6) (N := 5) hx hb hts iw_X1_givesNumber_X6 hown hK hP 3 rfl rfl 3 (by decide) fl_62 (fun _ h9 => h9) rfl dX1_givesNumber_40 ?_
        refine lv_iload_n hx hb dX1_givesNumber_43 rfl (lv_at hl 3 rfl) ?_
        obtain ⟨i22, hf⟩ := gd_some hf
        refine va_iald hx hb hK hP 5 0 rfl rfl i22 dX1_givesNumber_44 ?_
        obtain ⟨u23, g24, hf⟩ := bd_some hf
        refine g_callVi S (c_X1_isZero l D cI cZ h0 h0_reached h0_known h0_numbers h0_flowing _ f0_known f0_numbers v0_flowingKnown v0_changed x2 (f1_b (x2).toNatClampNeg) u23 g24) (cwV 2 hts gX1_givesNumber_X1_isZero rfl rfl rfl (by decide +kernel) ⟨Nat.le_of_ble_eq_true rfl, Nat.le_of_ble_eq_true rfl⟩) hK hP hD hS hA 0 (ci := 1) rfl rfl [0, 1, 2] [3, 4, 5, 6] [(h1, .inr (5, [.ref h1_kind, .ref h1_d, .ref h1_a, .ref h1_b, .int v1_count])), (h1_a, .inl (cI, L1, .inl f1_a)), (h1_b, .inl (cI, L1, .inl f1_b)), (h1_kind, .inl (cI, L1, .inl f1_kind))] rfl rfl (by decide) (by decide) (by decide) rfl hl.1 rfl (Nat.le_of_ble_eq_true rfl) dX1_givesNumber_45 ⟨Nat.le_of_ble_eq_true rfl, Nat.le_of_ble_eq_true rfl⟩ (fun H locs hP hD hS => ?_)
        have hP : va_P D vwCl [(h1, .inr (5, [.ref h1_kind, .ref h1_d, .ref h1_a, .ref h1_b, .int v1_count])), (h1_a, .inl (cI, L1, .inl f1_a)), (h1_b, .inl (cI, L1, .inl f1_b)), (h1_kind, .inl (cI, L1, .inl f1_kind)), (h0, .inr (1, [.ref h0_reached, .ref h0_known, .ref h0_numbers, .int v0_flowingKnown, .ref h0_flowing, .int v0_changed])), (h0_known, .inl (cI, 24, .inl f0_known)), (h0_numbers, .inl (cI, 192, .inl f0_numbers))] H := hP
        have hD : va_D A [(h1, .inr (5, [.ref h1_kind, .ref h1_d, .ref h1_a, .ref h1_b, .int v1_count])), (h1_a, .inl (cI, L1, .inl f1_a)), (h1_b, .inl (cI, L1, .inl f1_b)), (h1_kind, .inl (cI, L1, .inl f1_kind)), (h0, .inr (1, [.ref h0_reached, .ref h0_known, .ref h0_numbers, .int v0_flowingKnown, .ref h0_flowing, .int v0_changed])), (h0_known, .inl (cI, 24, .inl f0_known)), (h0_numbers, .inl (cI, 192, .inl f0_numbers))] := hD
        refine lv_if_eq (tgt := 55) hx hb dX1_givesNumber_48 (by decide) (fun c25 => ?_) (fun c25 => ?_)
        · have hf := ite_t hf c25
          refine lv_iconst (v := (0 : Int32)) hx hb dX1_givesNumber_55 (by decide) ?_
          exact hJ_56 _ _ _ _ _ ls hf (hP.sub [4, 5, 6, 0, 1, 2, 3] rfl) (hD.sub [4, 5, 6, 0, 1, 2, 3] (by decide) rfl) hS (lv_sub hl [1, 2, 3, 0] rfl)
        · have hf := ite_e hf c25
          refine lv_iconst (v := (1 : Int32)) hx hb dX1_givesNumber_51 (by decide) ?_
          refine lv_goto (tgt := 56) hx hb dX1_givesNumber_52 (by decide) ?_
          exact hJ_56 _ _ _ _ _ ls hf (hP.sub [4, 5, 6, 0, 1, 2, 3] rfl) (hD.sub [4, 5, 6, 0, 1, 2, 3] (by decide) rfl) hS (lv_sub hl [1, 2, 3, 0] rfl)
    · have hf := ite_t hf c20
      refine lv_aload_n hx hb dX1_givesNumber_19 rfl (lv_at hl 1 rfl) ?_
      refine lv_iload_n hx hb dX1_givesNumber_20 rfl (lv_at hl 3 rfl) ?_
      refine lv_aload_n hx hb dX1_givesNumber_21 rfl (lv_at hl 2 rfl) ?_
      refine va_get (D := D) (ci := 5) (v := .ref h1_a) (C := RX6) (T := TX6) (N := 5) hx hb hts iw_X1_givesNumber_X6 hown hK hP 3 rfl rfl 2 (by decide) fl_84 (fun _ h9 => h9) rfl dX1_givesNumber_22 ?_
      refine lv_iload_n hx hb dX1_givesNumber_25 rfl (lv_at hl 3 rfl) ?_
      obtain ⟨i26, hf⟩ := gd_some hf
      refine va_iald hx hb hK hP 4 0 rfl rfl i26 dX1_givesNumber_26 ?_
      obtain ⟨u27, g28, hf⟩ := bd_some hf
      refine g_callVi S (c_X1_knows l D cI cZ h0 h0_reached h0_known h0_numbers h0_flowing _ f0_known v0_flowingKnown v0_changed x2 (f1_a (x2).toNatClampNeg) u27 g28) (cwV 2 hts gX1_givesNumber_X1_knows rfl rfl rfl (by decide +kernel) ⟨Nat.le_of_ble_eq_true rfl, Nat.le_of_ble_eq_true rfl⟩) hK hP hD hS hA 0 (ci := 1) rfl rfl [0, 1] [2, 3, 4, 5, 6] [(h0_numbers, .inl (cI, 192, .inl f0_numbers)), (h1, .inr (5, [.ref h1_kind, .ref h1_d, .ref h1_a, .ref h1_b, .int v1_count])), (h1_a, .inl (cI, L1, .inl f1_a)), (h1_b, .inl (cI, L1, .inl f1_b)), (h1_kind, .inl (cI, L1, .inl f1_kind))] rfl rfl (by decide) (by decide) (by decide) rfl hl.1 rfl (Nat.le_of_ble_eq_true rfl) dX1_givesNumber_27 ⟨Nat.le_of_ble_eq_true rfl, Nat.le_of_ble_eq_true rfl⟩ (fun H locs hP hD hS => ?_)
      have hP : va_P D vwCl [(h0_numbers, .inl (cI, 192, .inl f0_numbers)), (h1, .inr (5, [.ref h1_kind, .ref h1_d, .ref h1_a, .ref h1_b, .int v1_count])), (h1_a, .inl (cI, L1, .inl f1_a)), (h1_b, .inl (cI, L1, .inl f1_b)), (h1_kind, .inl (cI, L1, .inl f1_kind)), (h0, .inr (1, [.ref h0_reached, .ref h0_known, .ref h0_numbers, .int v0_flowingKnown, .ref h0_flowing, .int v0_changed])), (h0_known, .inl (cI, 24, .inl f0_known))] H := hP
      have hD : va_D A [(h0_numbers, .inl (cI, 192, .inl f0_numbers)), (h1, .inr (5, [.ref h1_kind, .ref h1_d, .ref h1_a, .ref h1_b, .int v1_count])), (h1_a, .inl (cI, L1, .inl f1_a)), (h1_b, .inl (cI, L1, .inl f1_b)), (h1_kind, .inl (cI, L1, .inl f1_kind)), (h0, .inr (1, [.ref h0_reached, .ref h0_known, .ref h0_numbers, .int v0_flowingKnown, .ref h0_flowing, .int v0_changed])), (h0_known, .inl (cI, 24, .inl f0_known))] := hD
      obtain ⟨z29, hf⟩ := gb_some hf
      have hf := Option.some.inj hf
      subst hf
      exact g_zret hx hb hr hlocks (hP.sub [5, 6, 0, 1, 2, 3, 4] rfl) (hD.sub [5, 6, 0, 1, 2, 3, 4] (by decide) rfl) hK hS rfl z29 dX1_givesNumber_30
  · have hf := ite_t hf c19
    refine lv_iconst (v := (1 : Int32)) hx hb dX1_givesNumber_12 (by decide) ?_
    have z30 : (1 : Int32) = 0 ∨ (1 : Int32) = 1 := by decide
    have hf := Option.some.inj hf
    subst hf
    exact g_zret hx hb hr hlocks (hP.sub [0, 1, 2, 3, 4, 5, 6] rfl) (hD.sub [0, 1, 2, 3, 4, 5, 6] (by decide) rfl) hK hS rfl z30 dX1_givesNumber_13

def f_X1_givenNumber  (L1 : Nat) (f0_numbers : (Nat → Int32)) (f1_a : (Nat → Int32)) (f1_b : (Nat → Int32)) (f1_kind : (Nat → Int32)) (x2 : Int32) : Option Int32 := gd x2 L1 (if (f1_kind (x2).toNatClampNeg) = (1 : Int32) then (gd x2 L1 (some (f1_a (x2).toNatClampNeg))) else (gd x2 L1 ((f_X1_number f0_numbers x2 (f1_a (x2).toNatClampNeg)).bind (fun u4 => if (f1_kind (x2).toNatClampNeg) = (2 : Int32) then (some u4) else (gd x2 L1 ((f_X1_number f0_numbers x2 (f1_b (x2).toNatClampNeg)).bind (fun u8 => (f_X2_compute (f1_kind (x2).toNatClampNeg) u4 u8).bind (fun u10 => some u10))))))))
theorem iw_X1_givenNumber_X6 : ∀ w ∈ wsX60, w ∈ wsX1_givenNumber := by decide +kernel
set_option maxHeartbeats 4000000 in
set_option maxRecDepth 100000 in
theorem c_X1_givenNumber (l : Launch) (D : va_G) (cI cZ : ClassId) (h0 h1 h0_reached h0_known h0_numbers h0_flowing h1_kind h1_d h1_a h1_b : Nat) (sz : Nat) (L1 : Nat) (f0_numbers f1_a f1_b f1_kind : Nat → Int32) (v0_flowingKnown v0_changed v1_count : Int32)  (x2 : Int32) (res : Int32) (hf : f_X1_givenNumber L1 f0_numbers f1_a f1_b f1_kind x2 = some res) : Ct_i l yX1_givenNumber wsX1_givenNumber ({ frames := 1, cells := 0, slots := 0, locals := 22 }) D [(cI, .int), (cZ, .boolean)] [.ref h0, .ref h1, .int x2] sz [(h0, .inr (1, [.ref h0_reached, .ref h0_known, .ref h0_numbers, .int v0_flowingKnown, .ref h0_flowing, .int v0_changed])), (h0_numbers, .inl (cI, 192, .inl f0_numbers)), (h1, .inr (5, [.ref h1_kind, .ref h1_d, .ref h1_a, .ref h1_b, .int v1_count])), (h1_a, .inl (cI, L1, .inl f1_a)), (h1_b, .inl (cI, L1, .inl f1_b)), (h1_kind, .inl (cI, L1, .inl f1_kind))] res [(h0, .inr (1, [.ref h0_reached, .ref h0_known, .ref h0_numbers, .int v0_flowingKnown, .ref h0_flowing, .int v0_changed])), (h0_numbers, .inl (cI, 192, .inl f0_numbers)), (h1, .inr (5, [.ref h1_kind, .ref h1_d, .ref h1_a, .ref h1_b, .int v1_count])), (h1_a, .inl (cI, L1, .inl f1_a)), (h1_b, .inl (cI, L1, .inl f1_b)), (h1_kind, .inl (cI, L1, .inl f1_kind))] := by
  refine g_of (cc := cX1_givenNumber) (maxL := 5) (ret := some .int) (QQ := (fun A => g_Qi D [(cI, .int), (cZ, .boolean)] A res [(h0, .inr (1, [.ref h0_reached, .ref h0_known, .ref h0_numbers, .int v0_flowingKnown, .ref h0_flowing, .int v0_changed])), (h0_numbers, .inl (cI, 192, .inl f0_numbers)), (h1, .inr (5, [.ref h1_kind, .ref h1_d, .ref h1_a, .ref h1_b, .int v1_count])), (h1_a, .inl (cI, L1, .inl f1_a)), (h1_b, .inl (cI, L1, .inl f1_b)), (h1_kind, .inl (cI, L1, .inl f1_kind))])) (by decide) rfl (Nat.le_of_ble_eq_true rfl) ?_
  intro p e s m args below meth c A ls S hr hlocks hA hP hK hD hl
  show W p l e ({ frames := 1, cells := 0, slots := 0, locals := 22 }) s m args below meth c s.heap [] 0 0 (MQ below (g_Qi D [(cI, .int), (cZ, .boolean)] A res [(h0, .inr (1, [.ref h0_reached, .ref h0_known, .ref h0_numbers, .int v0_flowingKnown, .ref h0_flowing, .int v0_changed])), (h0_numbers, .inl (cI, 192, .inl f0_numbers)), (h1, .inr (5, [.ref h1_kind, .ref h1_d, .ref h1_a, .ref h1_b, .int v1_count])), (h1_a, .inl (cI, L1, .inl f1_a)), (h1_b, .inl (cI, L1, .inl f1_b)), (h1_kind, .inl (cI, L1, .inl f1_kind))]) args s 0 0 A) (F0 m 0 ls [])
  have hx := S.1
  have hb := S.2.1
  have hml := S.2.2.1
  have hown := S.2.2.2.1
  have hts := S.2.2.2.2
  have fl_59 := hts (.fieldLink RX1 59 "PassPipeline$Program" "kind" "[I") (by decide +kernel)
  have fl_62 := hts (.fieldLink RX1 62 "PassPipeline$Program" "b" "[I") (by decide +kernel)
  have fl_84 := hts (.fieldLink RX1 84 "PassPipeline$Program" "a" "[I") (by decide +kernel)
  have hS : va_S A s.heap s.heap [] := va_S.rf
  have hl : lv_has ls 5 [(0, .ref h0), (1, .ref h1), (2, .int x2)] := hl
  unfold f_X1_givenNumber at hf
  refine lv_aload_n hx hb dX1_givenNumber_0 rfl (lv_at hl 1 rfl) ?_
  refine va_get (D := D) (ci := 5) (v := .ref h1_kind) (C := RX6) (T := TX6) (N := 5) hx hb hts iw_X1_givenNumber_X6 hown hK hP 2 rfl rfl 0 (by decide) fl_59 (fun _ h9 => h9) rfl dX1_givenNumber_1 ?_
  refine lv_iload_n hx hb dX1_givenNumber_4 rfl (lv_at hl 2 rfl) ?_
  obtain ⟨i1, hf⟩ := gd_some hf
  refine va_iald hx hb hK hP 5 0 rfl rfl i1 dX1_givenNumber_5 ?_
  refine lv_istore_n (lv' := [(3, .int (f1_kind (x2).toNatClampNeg)), (0, .ref h0), (1, .ref h1), (2, .int x2)]) hx hb dX1_givenNumber_6 rfl hl (by decide) rfl (fun ls hl => ?_)
  refine lv_iload_n hx hb dX1_givenNumber_7 rfl (lv_at hl 0 rfl) ?_
  refine lv_iconst (v := (1 : Int32)) hx hb dX1_givenNumber_8 (by decide) ?_
  refine lv_icmp_ne (tgt := 19) hx hb dX1_givenNumber_9 (by decide) (fun c2 => ?_) (fun c2 => ?_)
  · have hf := ite_e hf c2
    refine lv_aload_n hx hb dX1_givenNumber_19 rfl (lv_at hl 1 rfl) ?_
    refine lv_iload_n hx hb dX1_givenNumber_20 rfl (lv_at hl 3 rfl) ?_
    refine lv_aload_n hx hb dX1_givenNumber_21 rfl (lv_at hl 2 rfl) ?_
    refine va_get (D := D) (ci := 5) (v := .ref h1_a) (C := RX6) (T := TX6) (N := 5) hx hb hts iw_X1_givenNumber_X6 hown hK hP 2 rfl rfl 2 (by decide) fl_84 (fun _ h9 => h9) rfl dX1_givenNumber_22 ?_
    refine lv_iload_n hx hb dX1_givenNumber_25 rfl (lv_at hl 3 rfl) ?_
    obtain ⟨i3, hf⟩ := gd_some hf
    refine va_iald hx hb hK hP 3 0 rfl rfl i3 dX1_givenNumber_26 ?_
    obtain ⟨u4, g5, hf⟩ := bd_some hf
    refine g_callVi S (c_X1_number l D cI cZ h0 h0_reached h0_known h0_numbers h0_flowing _ f0_numbers v0_flowingKnown v0_changed x2 (f1_a (x2).toNatClampNeg) u4 g5) (cwV 2 hts gX1_givenNumber_X1_number rfl rfl rfl (by decide +kernel) ⟨Nat.le_of_ble_eq_true rfl, Nat.le_of_ble_eq_true rfl⟩) hK hP hD hS hA 0 (ci := 1) rfl rfl [0, 1] [2, 3, 4, 5] [(h1, .inr (5, [.ref h1_kind, .ref h1_d, .ref h1_a, .ref h1_b, .int v1_count])), (h1_a, .inl (cI, L1, .inl f1_a)), (h1_b, .inl (cI, L1, .inl f1_b)), (h1_kind, .inl (cI, L1, .inl f1_kind))] rfl rfl (by decide) (by decide) (by decide) rfl hl.1 rfl (Nat.le_of_ble_eq_true rfl) dX1_givenNumber_27 ⟨Nat.le_of_ble_eq_true rfl, Nat.le_of_ble_eq_true rfl⟩ (fun H locs hP hD hS => ?_)
    have hP : va_P D vwCl [(h1, .inr (5, [.ref h1_kind, .ref h1_d, .ref h1_a, .ref h1_b, .int v1_count])), (h1_a, .inl (cI, L1, .inl f1_a)), (h1_b, .inl (cI, L1, .inl f1_b)), (h1_kind, .inl (cI, L1, .inl f1_kind)), (h0, .inr (1, [.ref h0_reached, .ref h0_known, .ref h0_numbers, .int v0_flowingKnown, .ref h0_flowing, .int v0_changed])), (h0_numbers, .inl (cI, 192, .inl f0_numbers))] H := hP
    have hD : va_D A [(h1, .inr (5, [.ref h1_kind, .ref h1_d, .ref h1_a, .ref h1_b, .int v1_count])), (h1_a, .inl (cI, L1, .inl f1_a)), (h1_b, .inl (cI, L1, .inl f1_b)), (h1_kind, .inl (cI, L1, .inl f1_kind)), (h0, .inr (1, [.ref h0_reached, .ref h0_known, .ref h0_numbers, .int v0_flowingKnown, .ref h0_flowing, .int v0_changed])), (h0_numbers, .inl (cI, 192, .inl f0_numbers))] := hD
    refine lv_istore (lv' := [(4, .int u4), (3, .int (f1_kind (x2).toNatClampNeg)), (0, .ref h0), (1, .ref h1), (2, .int x2)]) hx hb dX1_givenNumber_30 hl (by decide) rfl (fun ls hl => ?_)
    refine lv_iload_n hx hb dX1_givenNumber_32 rfl (lv_at hl 1 rfl) ?_
    refine lv_iconst (v := (2 : Int32)) hx hb dX1_givenNumber_33 (by decide) ?_
    refine lv_icmp_ne (tgt := 42) hx hb dX1_givenNumber_34 (by decide) (fun c6 => ?_) (fun c6 => ?_)
    · have hf := ite_e hf c6
      refine lv_iload_n hx hb dX1_givenNumber_42 rfl (lv_at hl 1 rfl) ?_
      refine lv_iload hx hb dX1_givenNumber_43 (lv_at hl 0 rfl) ?_
      refine lv_aload_n hx hb dX1_givenNumber_45 rfl (lv_at hl 2 rfl) ?_
      refine lv_iload_n hx hb dX1_givenNumber_46 rfl (lv_at hl 4 rfl) ?_
      refine lv_aload_n hx hb dX1_givenNumber_47 rfl (lv_at hl 3 rfl) ?_
      refine va_get (D := D) (ci := 5) (v := .ref h1_b) (C := RX6) (T := TX6) (N := 5) hx hb hts iw_X1_givenNumber_X6 hown hK hP 0 rfl rfl 3 (by decide) fl_62 (fun _ h9 => h9) rfl dX1_givenNumber_48 ?_
      refine lv_iload_n hx hb dX1_givenNumber_51 rfl (lv_at hl 4 rfl) ?_
      obtain ⟨i7, hf⟩ := gd_some hf
      refine va_iald hx hb hK hP 2 0 rfl rfl i7 dX1_givenNumber_52 ?_
      obtain ⟨u8, g9, hf⟩ := bd_some hf
      refine g_callVi S (c_X1_number l D cI cZ h0 h0_reached h0_known h0_numbers h0_flowing _ f0_numbers v0_flowingKnown v0_changed x2 (f1_b (x2).toNatClampNeg) u8 g9) (cwV 2 hts gX1_givenNumber_X1_number rfl rfl rfl (by decide +kernel) ⟨Nat.le_of_ble_eq_true rfl, Nat.le_of_ble_eq_true rfl⟩) hK hP hD hS hA 4 (ci := 1) rfl rfl [4, 5] [0, 1, 2, 3] [(h1, .inr (5, [.ref h1_kind, .ref h1_d, .ref h1_a, .ref h1_b, .int v1_count])), (h1_a, .inl (cI, L1, .inl f1_a)), (h1_b, .inl (cI, L1, .inl f1_b)), (h1_kind, .inl (cI, L1, .inl f1_kind))] rfl rfl (by decide) (by decide) (by decide) rfl hl.1 rfl (Nat.le_of_ble_eq_true rfl) dX1_givenNumber_53 ⟨Nat.le_of_ble_eq_true rfl, Nat.le_of_ble_eq_true rfl⟩ (fun H locs hP hD hS => ?_)
      have hP : va_P D vwCl [(h1, .inr (5, [.ref h1_kind, .ref h1_d, .ref h1_a, .ref h1_b, .int v1_count])), (h1_a, .inl (cI, L1, .inl f1_a)), (h1_b, .inl (cI, L1, .inl f1_b)), (h1_kind, .inl (cI, L1, .inl f1_kind)), (h0, .inr (1, [.ref h0_reached, .ref h0_known, .ref h0_numbers, .int v0_flowingKnown, .ref h0_flowing, .int v0_changed])), (h0_numbers, .inl (cI, 192, .inl f0_numbers))] H := hP
      have hD : va_D A [(h1, .inr (5, [.ref h1_kind, .ref h1_d, .ref h1_a, .ref h1_b, .int v1_count])), (h1_a, .inl (cI, L1, .inl f1_a)), (h1_b, .inl (cI, L1, .inl f1_b)), (h1_kind, .inl (cI, L1, .inl f1_kind)), (h0, .inr (1, [.ref h0_reached, .ref h0_known, .ref h0_numbers, .int v0_flowingKnown, .ref h0_flowing, .int v0_changed])), (h0_numbers, .inl (cI, 192, .inl f0_numbers))] := hD
      obtain ⟨u10, g11, hf⟩ := bd_some hf
      refine g_callSi S (c_X2_compute l D cI cZ _ (f1_kind (x2).toNatClampNeg) u4 u8 u10 g11) (va_cwS 3 hts gX1_givenNumber_X2_compute rfl rfl rfl (by decide +kernel) ⟨Nat.le_of_ble_eq_true rfl, Nat.le_of_ble_eq_true rfl⟩) hK hP hD hS hA [] [0, 1, 2, 3, 4, 5] [(h1, .inr (5, [.ref h1_kind, .ref h1_d, .ref h1_a, .ref h1_b, .int v1_count])), (h1_a, .inl (cI, L1, .inl f1_a)), (h1_b, .inl (cI, L1, .inl f1_b)), (h1_kind, .inl (cI, L1, .inl f1_kind)), (h0, .inr (1, [.ref h0_reached, .ref h0_known, .ref h0_numbers, .int v0_flowingKnown, .ref h0_flowing, .int v0_changed])), (h0_numbers, .inl (cI, 192, .inl f0_numbers))] rfl rfl (by decide) (by decide) (by decide) rfl hl.1 rfl (Nat.le_of_ble_eq_true rfl) dX1_givenNumber_56 ⟨Nat.le_of_ble_eq_true rfl, Nat.le_of_ble_eq_true rfl⟩ (fun H locs hP hD hS => ?_)
      have hP : va_P D vwCl [(h1, .inr (5, [.ref h1_kind, .ref h1_d, .ref h1_a, .ref h1_b, .int v1_count])), (h1_a, .inl (cI, L1, .inl f1_a)), (h1_b, .inl (cI, L1, .inl f1_b)), (h1_kind, .inl (cI, L1, .inl f1_kind)), (h0, .inr (1, [.ref h0_reached, .ref h0_known, .ref h0_numbers, .int v0_flowingKnown, .ref h0_flowing, .int v0_changed])), (h0_numbers, .inl (cI, 192, .inl f0_numbers))] H := hP
      have hD : va_D A [(h1, .inr (5, [.ref h1_kind, .ref h1_d, .ref h1_a, .ref h1_b, .int v1_count])), (h1_a, .inl (cI, L1, .inl f1_a)), (h1_b, .inl (cI, L1, .inl f1_b)), (h1_kind, .inl (cI, L1, .inl f1_kind)), (h0, .inr (1, [.ref h0_reached, .ref h0_known, .ref h0_numbers, .int v0_flowingKnown, .ref h0_flowing, .int v0_changed])), (h0_numbers, .inl (cI, 192, .inl f0_numbers))] := hD
      have hf := Option.some.inj hf
      subst hf
      exact g_iret hx hb hr hlocks (hP.sub [4, 5, 0, 1, 2, 3] rfl) (hD.sub [4, 5, 0, 1, 2, 3] (by decide) rfl) hK hS rfl dX1_givenNumber_59
    · have hf := ite_t hf c6
      refine lv_iload hx hb dX1_givenNumber_37 (lv_at hl 0 rfl) ?_
      refine lv_goto (tgt := 59) hx hb dX1_givenNumber_39 (by decide) ?_
      have hf := Option.some.inj hf
      subst hf
      exact g_iret hx hb hr hlocks (hP.sub [4, 5, 0, 1, 2, 3] rfl) (hD.sub [4, 5, 0, 1, 2, 3] (by decide) rfl) hK hS rfl dX1_givenNumber_59
  · have hf := ite_t hf c2
    refine lv_aload_n hx hb dX1_givenNumber_12 rfl (lv_at hl 2 rfl) ?_
    refine va_get (D := D) (ci := 5) (v := .ref h1_a) (C := RX6) (T := TX6) (N := 5) hx hb hts iw_X1_givenNumber_X6 hown hK hP 2 rfl rfl 2 (by decide) fl_84 (fun _ h9 => h9) rfl dX1_givenNumber_13 ?_
    refine lv_iload_n hx hb dX1_givenNumber_16 rfl (lv_at hl 3 rfl) ?_
    obtain ⟨i12, hf⟩ := gd_some hf
    refine va_iald hx hb hK hP 3 0 rfl rfl i12 dX1_givenNumber_17 ?_
    have hf := Option.some.inj hf
    subst hf
    exact g_iret hx hb hr hlocks (hP.sub [0, 1, 2, 3, 4, 5] rfl) (hD.sub [0, 1, 2, 3, 4, 5] (by decide) rfl) hK hS rfl dX1_givenNumber_18

def f_X1_sameNumbers_4 (n : Nat)  : Nat → (Nat → Int32) → (Nat → Int32) → Int32 → Int32 → Int32 → Option Int32
  | 0, _, _, _, _, _ => none
  | k + 1, f0_flowing, f0_numbers, x1, x2, x3 => if (8 : Int32) ≤ x3 then (some x2) else (gd ((x1 * (8 : Int32)) + x3) 192 (gd x3 8 (if (f0_numbers (((x1 * (8 : Int32)) + x3)).toNatClampNeg) = (f0_flowing (x3).toNatClampNeg) then (f_X1_sameNumbers_4 n k f0_flowing f0_numbers x1 (x2 ||| ((1 : Int32) <<< (x3 &&& 31))) (x3 + (1 : Int32))) else (f_X1_sameNumbers_4 n k f0_flowing f0_numbers x1 x2 (x3 + (1 : Int32))))))
def f_X1_sameNumbers (n : Nat)  (f0_flowing : (Nat → Int32)) (f0_numbers : (Nat → Int32)) (x1 : Int32) : Option Int32 := f_X1_sameNumbers_4 n n f0_flowing f0_numbers x1 (0 : Int32) (0 : Int32)
theorem iw_X1_sameNumbers_X1 : ∀ w ∈ wsX10, w ∈ wsX1_sameNumbers := by decide +kernel
set_option maxHeartbeats 4000000 in
set_option maxRecDepth 100000 in
theorem c_X1_sameNumbers (l : Launch) (D : va_G) (cI cZ : ClassId) (h0 h0_reached h0_known h0_numbers h0_flowing : Nat) (sz : Nat)  (f0_flowing f0_numbers : Nat → Int32) (v0_flowingKnown v0_changed : Int32) (n : Nat) (x1 : Int32) (res : Int32) (hf : f_X1_sameNumbers n f0_flowing f0_numbers x1 = some res) : Ct_i l yX1_sameNumbers wsX1_sameNumbers ({ frames := 0, cells := 0, slots := 0, locals := 0 }) D [(cI, .int), (cZ, .boolean)] [.ref h0, .int x1] sz [(h0, .inr (1, [.ref h0_reached, .ref h0_known, .ref h0_numbers, .int v0_flowingKnown, .ref h0_flowing, .int v0_changed])), (h0_flowing, .inl (cI, 8, .inl f0_flowing)), (h0_numbers, .inl (cI, 192, .inl f0_numbers))] res [(h0, .inr (1, [.ref h0_reached, .ref h0_known, .ref h0_numbers, .int v0_flowingKnown, .ref h0_flowing, .int v0_changed])), (h0_flowing, .inl (cI, 8, .inl f0_flowing)), (h0_numbers, .inl (cI, 192, .inl f0_numbers))] := by
  refine g_of (cc := cX1_sameNumbers) (maxL := 4) (ret := some .int) (QQ := (fun A => g_Qi D [(cI, .int), (cZ, .boolean)] A res [(h0, .inr (1, [.ref h0_reached, .ref h0_known, .ref h0_numbers, .int v0_flowingKnown, .ref h0_flowing, .int v0_changed])), (h0_flowing, .inl (cI, 8, .inl f0_flowing)), (h0_numbers, .inl (cI, 192, .inl f0_numbers))])) (by decide) rfl (Nat.le_of_ble_eq_true rfl) ?_
  intro p e s m args below meth c A ls S hr hlocks hA hP hK hD hl
  show W p l e ({ frames := 0, cells := 0, slots := 0, locals := 0 }) s m args below meth c s.heap [] 0 0 (MQ below (g_Qi D [(cI, .int), (cZ, .boolean)] A res [(h0, .inr (1, [.ref h0_reached, .ref h0_known, .ref h0_numbers, .int v0_flowingKnown, .ref h0_flowing, .int v0_changed])), (h0_flowing, .inl (cI, 8, .inl f0_flowing)), (h0_numbers, .inl (cI, 192, .inl f0_numbers))]) args s 0 0 A) (F0 m 0 ls [])
  have hx := S.1
  have hb := S.2.1
  have hml := S.2.2.1
  have hown := S.2.2.2.1
  have hts := S.2.2.2.2
  have fl_19 := hts (.fieldLink RX1 19 "PassPipeline$Folding" "numbers" "[I") (by decide +kernel)
  have fl_26 := hts (.fieldLink RX1 26 "PassPipeline$Folding" "flowing" "[I") (by decide +kernel)
  have hS : va_S A s.heap s.heap [] := va_S.rf
  have hl : lv_has ls 4 [(0, .ref h0), (1, .int x1)] := hl
  have hJ_4 : ∀ (k : Nat)  (x1 x2 x3 : Int32) (H : Heap) (locs : List Loc) (ls : Array Slot), f_X1_sameNumbers_4 n k f0_flowing f0_numbers x1 x2 x3 = some res → va_P D vwCl [(h0, .inr (1, [.ref h0_reached, .ref h0_known, .ref h0_numbers, .int v0_flowingKnown, .ref h0_flowing, .int v0_changed])), (h0_flowing, .inl (cI, 8, .inl f0_flowing)), (h0_numbers, .inl (cI, 192, .inl f0_numbers))] H → va_D A [(h0, .inr (1, [.ref h0_reached, .ref h0_known, .ref h0_numbers, .int v0_flowingKnown, .ref h0_flowing, .int v0_changed])), (h0_flowing, .inl (cI, 8, .inl f0_flowing)), (h0_numbers, .inl (cI, 192, .inl f0_numbers))] → va_S A s.heap H locs → lv_has ls 4 [(0, .ref h0), (1, .int x1), (2, .int x2), (3, .int x3)] → W p l e ({ frames := 0, cells := 0, slots := 0, locals := 0 }) s m args below meth c H locs 0 0 (MQ below (g_Qi D [(cI, .int), (cZ, .boolean)] A res [(h0, .inr (1, [.ref h0_reached, .ref h0_known, .ref h0_numbers, .int v0_flowingKnown, .ref h0_flowing, .int v0_changed])), (h0_flowing, .inl (cI, 8, .inl f0_flowing)), (h0_numbers, .inl (cI, 192, .inl f0_numbers))]) args s 0 0 A) (F0 m 4 ls []) := by
    intro k
    induction k with
    | zero => intro x1 x2 x3 H locs ls hf; rw [f_X1_sameNumbers_4] at hf; cases hf
    | succ m_4 ih =>
      have ih_4 : ∀  (x1 x2 x3 : Int32) (H : Heap) (locs : List Loc) (ls : Array Slot), (fun x1' x2' x3' => f_X1_sameNumbers_4 n m_4 f0_flowing f0_numbers x1' x2' x3') x1 x2 x3 = some res → va_P D vwCl [(h0, .inr (1, [.ref h0_reached, .ref h0_known, .ref h0_numbers, .int v0_flowingKnown, .ref h0_flowing, .int v0_changed])), (h0_flowing, .inl (cI, 8, .inl f0_flowing)), (h0_numbers, .inl (cI, 192, .inl f0_numbers))] H → va_D A [(h0, .inr (1, [.ref h0_reached, .ref h0_known, .ref h0_numbers, .int v0_flowingKnown, .ref h0_flowing, .int v0_changed])), (h0_flowing, .inl (cI, 8, .inl f0_flowing)), (h0_numbers, .inl (cI, 192, .inl f0_numbers))] → va_S A s.heap H locs → lv_has ls 4 [(0, .ref h0), (1, .int x1), (2, .int x2), (3, .int x3)] → W p l e ({ frames := 0, cells := 0, slots := 0, locals := 0 }) s m args below meth c H locs 0 0 (MQ below (g_Qi D [(cI, .int), (cZ, .boolean)] A res [(h0, .inr (1, [.ref h0_reached, .ref h0_known, .ref h0_numbers, .int v0_flowingKnown, .ref h0_flowing, .int v0_changed])), (h0_flowing, .inl (cI, 8, .inl f0_flowing)), (h0_numbers, .inl (cI, 192, .inl f0_numbers))]) args s 0 0 A) (F0 m 4 ls []) := ih
      intro x1 x2 x3 H locs ls hf hP hD hS hl
      rw [f_X1_sameNumbers_4] at hf
      refine lv_iload_n hx hb dX1_sameNumbers_4 rfl (lv_at hl 3 rfl) ?_
      refine lv_bipush (v := (8 : Int32)) hx hb dX1_sameNumbers_5 (by decide +kernel) ?_
      refine lv_icmp_ge (tgt := 42) hx hb dX1_sameNumbers_7 (by decide) (fun c1 => ?_) (fun c1 => ?_)
      · have hf := ite_t hf c1
        refine lv_iload_n hx hb dX1_sameNumbers_42 rfl (lv_at hl 2 rfl) ?_
        have hf := Option.some.inj hf
        subst hf
        exact g_iret hx hb hr hlocks (hP.sub [0, 1, 2] rfl) (hD.sub [0, 1, 2] (by decide) rfl) hK hS rfl dX1_sameNumbers_43
      · have hf := ite_e hf c1
        refine lv_aload_n hx hb dX1_sameNumbers_10 rfl (lv_at hl 0 rfl) ?_
        refine va_get (D := D) (ci := 1) (v := .ref h0_numbers) (C := RX1) (T := TX1) (N := 6) hx hb hts iw_X1_sameNumbers_X1 hown hK hP 0 rfl rfl 2 (by decide) fl_19 (fun _ h9 => h9) rfl dX1_sameNumbers_11 ?_
        refine lv_iload_n hx hb dX1_sameNumbers_14 rfl (lv_at hl 1 rfl) ?_
        refine lv_bipush (v := (8 : Int32)) hx hb dX1_sameNumbers_15 (by decide +kernel) ?_
        refine lv_imul hx hb dX1_sameNumbers_17 ?_
        refine lv_iload_n hx hb dX1_sameNumbers_18 rfl (lv_at hl 3 rfl) ?_
        refine lv_iadd hx hb dX1_sameNumbers_19 ?_
        obtain ⟨i2, hf⟩ := gd_some hf
        refine va_iald hx hb hK hP 2 0 rfl rfl i2 dX1_sameNumbers_20 ?_
        refine lv_aload_n hx hb dX1_sameNumbers_21 rfl (lv_at hl 0 rfl) ?_
        refine va_get (D := D) (ci := 1) (v := .ref h0_flowing) (C := RX1) (T := TX1) (N := 6) hx hb hts iw_X1_sameNumbers_X1 hown hK hP 0 rfl rfl 4 (by decide) fl_26 (fun _ h9 => h9) rfl dX1_sameNumbers_22 ?_
        refine lv_iload_n hx hb dX1_sameNumbers_25 rfl (lv_at hl 3 rfl) ?_
        obtain ⟨i3, hf⟩ := gd_some hf
        refine va_iald hx hb hK hP 1 0 rfl rfl i3 dX1_sameNumbers_26 ?_
        refine lv_icmp_ne (tgt := 36) hx hb dX1_sameNumbers_27 (by decide) (fun c4 => ?_) (fun c4 => ?_)
        · have hf := ite_e hf c4
          refine lv_iinc (v := (x3 + (1 : Int32))) (lv' := [(3, .int (x3 + (1 : Int32))), (0, .ref h0), (1, .int x1), (2, .int x2)]) hx hb dX1_sameNumbers_36 hl (k := 3) rfl rfl (by decide) rfl (fun ls hl => ?_)
          refine lv_goto (tgt := 4) hx hb dX1_sameNumbers_39 (by decide) ?_
          exact ih_4 _ _ _ _ _ ls hf (hP.sub [0, 1, 2] rfl) (hD.sub [0, 1, 2] (by decide) rfl) hS (lv_sub hl [1, 2, 3, 0] rfl)
        · have hf := ite_t hf c4
          refine lv_iload_n hx hb dX1_sameNumbers_30 rfl (lv_at hl 2 rfl) ?_
          refine lv_iconst (v := (1 : Int32)) hx hb dX1_sameNumbers_31 (by decide) ?_
          refine lv_iload_n hx hb dX1_sameNumbers_32 rfl (lv_at hl 3 rfl) ?_
          refine lv_ishl hx hb dX1_sameNumbers_33 ?_
          refine lv_ior hx hb dX1_sameNumbers_34 ?_
          refine lv_istore_n (lv' := [(2, .int (x2 ||| ((1 : Int32) <<< (x3 &&& 31)))), (0, .ref h0), (1, .int x1), (3, .int x3)]) hx hb dX1_sameNumbers_35 rfl hl (by decide) rfl (fun ls hl => ?_)
          refine lv_iinc (v := (x3 + (1 : Int32))) (lv' := [(3, .int (x3 + (1 : Int32))), (2, .int (x2 ||| ((1 : Int32) <<< (x3 &&& 31)))), (0, .ref h0), (1, .int x1)]) hx hb dX1_sameNumbers_36 hl (k := 3) rfl rfl (by decide) rfl (fun ls hl => ?_)
          refine lv_goto (tgt := 4) hx hb dX1_sameNumbers_39 (by decide) ?_
          exact ih_4 _ _ _ _ _ ls hf (hP.sub [0, 1, 2] rfl) (hD.sub [0, 1, 2] (by decide) rfl) hS (lv_sub hl [2, 3, 1, 0] rfl)
  unfold f_X1_sameNumbers at hf
  refine lv_iconst (v := (0 : Int32)) hx hb dX1_sameNumbers_0 (by decide) ?_
  refine lv_istore_n (lv' := [(2, .int (0 : Int32)), (0, .ref h0), (1, .int x1)]) hx hb dX1_sameNumbers_1 rfl hl (by decide) rfl (fun ls hl => ?_)
  refine lv_iconst (v := (0 : Int32)) hx hb dX1_sameNumbers_2 (by decide) ?_
  refine lv_istore_n (lv' := [(3, .int (0 : Int32)), (2, .int (0 : Int32)), (0, .ref h0), (1, .int x1)]) hx hb dX1_sameNumbers_3 rfl hl (by decide) rfl (fun ls hl => ?_)
  exact hJ_4 n _ _ _ _ _ ls hf (hP.sub [0, 1, 2] rfl) (hD.sub [0, 1, 2] (by decide) rfl) hS (lv_sub hl [2, 3, 1, 0] rfl)

def f_X1_flowTo_97 (n : Nat)   (f0_flowing : (Nat → Int32)) (f0_known : (Nat → Int32)) (f0_numbers : (Nat → Int32)) (f0_reached : (Nat → Int32)) (v0_flowingKnown : Int32) (v0_changed : Int32) (x1 x2 t1 : Int32) : Option ((Nat → Int32) × (Nat → Int32) × (Nat → Int32) × Int32) := gb t1 (gd x1 24 (some ((upd f0_known (x1).toNatClampNeg x2), f0_numbers, f0_reached, t1)))
def f_X1_flowTo (n : Nat)  (f0_flowing : (Nat → Int32)) (f0_known : (Nat → Int32)) (f0_numbers : (Nat → Int32)) (f0_reached : (Nat → Int32)) (v0_flowingKnown : Int32) (v0_changed : Int32) (x1 : Int32) : Option ((Nat → Int32) × (Nat → Int32) × (Nat → Int32) × Int32) := if x1 = (-1 : Int32) then (some (f0_known, f0_numbers, f0_reached, v0_changed)) else (gd x1 24 (if (f0_reached (x1).toNatClampNeg) = 0 then (gd x1 24 (gd x1 24 (gc (0 : Int32) (x1 * (8 : Int32)) (8 : Int32) 8 192 (some ((upd f0_known (x1).toNatClampNeg v0_flowingKnown), (va_cpy f0_flowing f0_numbers ((0 : Int32)).toNatClampNeg ((x1 * (8 : Int32))).toNatClampNeg ((8 : Int32)).toNatClampNeg), (upd f0_reached (x1).toNatClampNeg (vp_nar .boolean (1 : Int32))), (1 : Int32)))))) else (gd x1 24 ((f_X1_sameNumbers n f0_flowing f0_numbers x1).bind (fun u7 => if v0_changed = 0 then (gd x1 24 (if (((f0_known (x1).toNatClampNeg) &&& v0_flowingKnown) &&& u7) = (f0_known (x1).toNatClampNeg) then (f_X1_flowTo_97 n f0_flowing f0_known f0_numbers f0_reached v0_flowingKnown v0_changed x1 (((f0_known (x1).toNatClampNeg) &&& v0_flowingKnown) &&& u7) (0 : Int32)) else (f_X1_flowTo_97 n f0_flowing f0_known f0_numbers f0_reached v0_flowingKnown v0_changed x1 (((f0_known (x1).toNatClampNeg) &&& v0_flowingKnown) &&& u7) (1 : Int32)))) else (f_X1_flowTo_97 n f0_flowing f0_known f0_numbers f0_reached v0_flowingKnown v0_changed x1 (((f0_known (x1).toNatClampNeg) &&& v0_flowingKnown) &&& u7) (1 : Int32)))))))
theorem iw_X1_flowTo_X1 : ∀ w ∈ wsX10, w ∈ wsX1_flowTo := by decide +kernel
set_option maxHeartbeats 4000000 in
set_option maxRecDepth 100000 in
theorem c_X1_flowTo (l : Launch) (D : va_G) (cI cZ : ClassId) (h0 h0_reached h0_known h0_numbers h0_flowing : Nat) (sz : Nat)  (f0_flowing f0_known f0_numbers f0_reached : Nat → Int32) (v0_flowingKnown v0_changed : Int32) (n : Nat) (x1 : Int32) (res : ((Nat → Int32) × (Nat → Int32) × (Nat → Int32) × Int32)) (hf : f_X1_flowTo n f0_flowing f0_known f0_numbers f0_reached v0_flowingKnown v0_changed x1 = some res) : Ct_v l yX1_flowTo wsX1_flowTo ({ frames := 1, cells := 0, slots := 0, locals := 64 }) D [(cI, .int), (cZ, .boolean)] [.ref h0, .int x1] sz [(h0, .inr (1, [.ref h0_reached, .ref h0_known, .ref h0_numbers, .int v0_flowingKnown, .ref h0_flowing, .int v0_changed])), (h0_flowing, .inl (cI, 8, .inl f0_flowing)), (h0_known, .inl (cI, 24, .inl f0_known)), (h0_numbers, .inl (cI, 192, .inl f0_numbers)), (h0_reached, .inl (cZ, 24, .inl f0_reached))] [(h0, .inr (1, [.ref h0_reached, .ref h0_known, .ref h0_numbers, .int v0_flowingKnown, .ref h0_flowing, .int res.2.2.2])), (h0_flowing, .inl (cI, 8, .inl f0_flowing)), (h0_known, .inl (cI, 24, .inl res.1)), (h0_numbers, .inl (cI, 192, .inl res.2.1)), (h0_reached, .inl (cZ, 24, .inl res.2.2.1))] := by
  refine g_of (cc := cX1_flowTo) (maxL := 3) (ret := none) (QQ := (fun A => g_Qv D [(cI, .int), (cZ, .boolean)] A [(h0, .inr (1, [.ref h0_reached, .ref h0_known, .ref h0_numbers, .int v0_flowingKnown, .ref h0_flowing, .int res.2.2.2])), (h0_flowing, .inl (cI, 8, .inl f0_flowing)), (h0_known, .inl (cI, 24, .inl res.1)), (h0_numbers, .inl (cI, 192, .inl res.2.1)), (h0_reached, .inl (cZ, 24, .inl res.2.2.1))])) (by decide) rfl (Nat.le_of_ble_eq_true rfl) ?_
  intro p e s m args below meth c A ls S hr hlocks hA hP hK hD hl
  show W p l e ({ frames := 1, cells := 0, slots := 0, locals := 64 }) s m args below meth c s.heap [] 0 0 (MQ below (g_Qv D [(cI, .int), (cZ, .boolean)] A [(h0, .inr (1, [.ref h0_reached, .ref h0_known, .ref h0_numbers, .int v0_flowingKnown, .ref h0_flowing, .int res.2.2.2])), (h0_flowing, .inl (cI, 8, .inl f0_flowing)), (h0_known, .inl (cI, 24, .inl res.1)), (h0_numbers, .inl (cI, 192, .inl res.2.1)), (h0_reached, .inl (cZ, 24, .inl res.2.2.1))]) args s 0 0 A) (F0 m 0 ls [])
  have hx := S.1
  have hb := S.2.1
  have hml := S.2.2.1
  have hown := S.2.2.2.1
  have hts := S.2.2.2.2
  have ac_i := hts (.initialized "java/lang/System") (by decide +kernel)
  have ac_l := hts (.methodLink RX1 69 arraycopyName) (by decide +kernel)
  have ac_n := hts (.native arraycopyName) (by decide +kernel)
  have ac_s := hts (.static arraycopyName) (by decide +kernel)
  have fl_15 := hts (.fieldLink RX1 15 "PassPipeline$Folding" "known" "[I") (by decide +kernel)
  have fl_19 := hts (.fieldLink RX1 19 "PassPipeline$Folding" "numbers" "[I") (by decide +kernel)
  have fl_22 := hts (.fieldLink RX1 22 "PassPipeline$Folding" "flowingKnown" "I") (by decide +kernel)
  have fl_26 := hts (.fieldLink RX1 26 "PassPipeline$Folding" "flowing" "[I") (by decide +kernel)
  have fl_29 := hts (.fieldLink RX1 29 "PassPipeline$Folding" "changed" "Z") (by decide +kernel)
  have fl_9 := hts (.fieldLink RX1 9 "PassPipeline$Folding" "reached" "[Z") (by decide +kernel)
  have hS : va_S A s.heap s.heap [] := va_S.rf
  have hl : lv_has ls 3 [(0, .ref h0), (1, .int x1)] := hl
  have hJ_97 : ∀ (f0_known : (Nat → Int32)) (f0_numbers : (Nat → Int32)) (f0_reached : (Nat → Int32)) (v0_changed : Int32) (x1 x2 t1 : Int32) (H : Heap) (locs : List Loc) (ls : Array Slot), f_X1_flowTo_97 n f0_flowing f0_known f0_numbers f0_reached v0_flowingKnown v0_changed x1 x2 t1 = some res → va_P D vwCl [(h0, .inr (1, [.ref h0_reached, .ref h0_known, .ref h0_numbers, .int v0_flowingKnown, .ref h0_flowing, .int v0_changed])), (h0_flowing, .inl (cI, 8, .inl f0_flowing)), (h0_known, .inl (cI, 24, .inl f0_known)), (h0_numbers, .inl (cI, 192, .inl f0_numbers)), (h0_reached, .inl (cZ, 24, .inl f0_reached))] H → va_D A [(h0, .inr (1, [.ref h0_reached, .ref h0_known, .ref h0_numbers, .int v0_flowingKnown, .ref h0_flowing, .int v0_changed])), (h0_flowing, .inl (cI, 8, .inl f0_flowing)), (h0_known, .inl (cI, 24, .inl f0_known)), (h0_numbers, .inl (cI, 192, .inl f0_numbers)), (h0_reached, .inl (cZ, 24, .inl f0_reached))] → va_S A s.heap H locs → lv_has ls 3 [(0, .ref h0), (1, .int x1), (2, .int x2)] → W p l e ({ frames := 1, cells := 0, slots := 0, locals := 64 }) s m args below meth c H locs 0 0 (MQ below (g_Qv D [(cI, .int), (cZ, .boolean)] A [(h0, .inr (1, [.ref h0_reached, .ref h0_known, .ref h0_numbers, .int v0_flowingKnown, .ref h0_flowing, .int res.2.2.2])), (h0_flowing, .inl (cI, 8, .inl f0_flowing)), (h0_known, .inl (cI, 24, .inl res.1)), (h0_numbers, .inl (cI, 192, .inl res.2.1)), (h0_reached, .inl (cZ, 24, .inl res.2.2.1))]) args s 0 0 A) (F0 m 97 ls [.int t1, .ref h0]) := by
    intro f0_known f0_numbers f0_reached v0_changed x1 x2 t1 H locs ls hf hP hD hS hl
    unfold f_X1_flowTo_97 at hf
    obtain ⟨z1, hf⟩ := gb_some hf
    refine va_put (D := D) (ci := 1) (v := .int t1) (ty := .boolean) (C := RX1) (T := TX1) (N := 6) hx hb hts iw_X1_flowTo_X1 tyX1 tyX1_ok nmX1 hown hK hP hD hS 0 rfl rfl 5 (by decide) fl_29 (fun _ h9 => h9) rfl (by decide +kernel) (nb_n z1) (nb_f z1) (Nat.le_of_ble_eq_true rfl) dX1_flowTo_97 (fun H locs hP hD hS => ?_)
    have hP : va_P D vwCl [(h0, .inr (1, [.ref h0_reached, .ref h0_known, .ref h0_numbers, .int v0_flowingKnown, .ref h0_flowing, .int t1])), (h0_flowing, .inl (cI, 8, .inl f0_flowing)), (h0_known, .inl (cI, 24, .inl f0_known)), (h0_numbers, .inl (cI, 192, .inl f0_numbers)), (h0_reached, .inl (cZ, 24, .inl f0_reached))] H := hP
    have hD : va_D A [(h0, .inr (1, [.ref h0_reached, .ref h0_known, .ref h0_numbers, .int v0_flowingKnown, .ref h0_flowing, .int t1])), (h0_flowing, .inl (cI, 8, .inl f0_flowing)), (h0_known, .inl (cI, 24, .inl f0_known)), (h0_numbers, .inl (cI, 192, .inl f0_numbers)), (h0_reached, .inl (cZ, 24, .inl f0_reached))] := hD
    refine lv_aload_n hx hb dX1_flowTo_100 rfl (lv_at hl 0 rfl) ?_
    refine va_get (D := D) (ci := 1) (v := .ref h0_known) (C := RX1) (T := TX1) (N := 6) hx hb hts iw_X1_flowTo_X1 hown hK hP 0 rfl rfl 1 (by decide) fl_15 (fun _ h9 => h9) rfl dX1_flowTo_101 ?_
    refine lv_iload_n hx hb dX1_flowTo_104 rfl (lv_at hl 1 rfl) ?_
    refine lv_iload_n hx hb dX1_flowTo_105 rfl (lv_at hl 2 rfl) ?_
    obtain ⟨i2, hf⟩ := gd_some hf
    refine va_iast hx hb hK hP hD hS 2 0 rfl rfl i2 dX1_flowTo_106 (fun H locs hP hD hS => ?_)
    have hP : va_P D vwCl [(h0, .inr (1, [.ref h0_reached, .ref h0_known, .ref h0_numbers, .int v0_flowingKnown, .ref h0_flowing, .int t1])), (h0_flowing, .inl (cI, 8, .inl f0_flowing)), (h0_known, .inl (cI, 24, .inl (upd f0_known (x1).toNatClampNeg x2))), (h0_numbers, .inl (cI, 192, .inl f0_numbers)), (h0_reached, .inl (cZ, 24, .inl f0_reached))] H := hP
    have hD : va_D A [(h0, .inr (1, [.ref h0_reached, .ref h0_known, .ref h0_numbers, .int v0_flowingKnown, .ref h0_flowing, .int t1])), (h0_flowing, .inl (cI, 8, .inl f0_flowing)), (h0_known, .inl (cI, 24, .inl (upd f0_known (x1).toNatClampNeg x2))), (h0_numbers, .inl (cI, 192, .inl f0_numbers)), (h0_reached, .inl (cZ, 24, .inl f0_reached))] := hD
    have hf := Option.some.inj hf
    subst hf
    exact g_vret hx hb hr hlocks (hP.sub [0, 1, 2, 3, 4] rfl) (hD.sub [0, 1, 2, 3, 4] (by decide) rfl) hK hS dX1_flowTo_107
  unfold f_X1_flowTo at hf
  refine lv_iload_n hx hb dX1_flowTo_0 rfl (lv_at hl 1 rfl) ?_
  refine lv_iconst (v := (-1 : Int32)) hx hb dX1_flowTo_1 (by decide) ?_
  refine lv_icmp_ne (tgt := 6) hx hb dX1_flowTo_2 (by decide) (fun c3 => ?_) (fun c3 => ?_)
  · have hf := ite_e hf c3
    refine lv_aload_n hx hb dX1_flowTo_6 rfl (lv_at hl 0 rfl) ?_
    refine va_get (D := D) (ci := 1) (v := .ref h0_reached) (C := RX1) (T := TX1) (N := 6) hx hb hts iw_X1_flowTo_X1 hown hK hP 0 rfl rfl 0 (by decide) fl_9 (fun _ h9 => h9) rfl dX1_flowTo_7 ?_
    refine lv_iload_n hx hb dX1_flowTo_10 rfl (lv_at hl 1 rfl) ?_
    obtain ⟨i4, hf⟩ := gd_some hf
    refine va_zald hx hb hK hP 4 1 rfl rfl i4 dX1_flowTo_11 ?_
    refine lv_if_ne (tgt := 56) hx hb dX1_flowTo_12 (by decide) (fun c5 => ?_) (fun c5 => ?_)
    · have hf := ite_e hf c5
      refine lv_aload_n hx hb dX1_flowTo_56 rfl (lv_at hl 0 rfl) ?_
      refine va_get (D := D) (ci := 1) (v := .ref h0_known) (C := RX1) (T := TX1) (N := 6) hx hb hts iw_X1_flowTo_X1 hown hK hP 0 rfl rfl 1 (by decide) fl_15 (fun _ h9 => h9) rfl dX1_flowTo_57 ?_
      refine lv_iload_n hx hb dX1_flowTo_60 rfl (lv_at hl 1 rfl) ?_
      obtain ⟨i6, hf⟩ := gd_some hf
      refine va_iald hx hb hK hP 2 0 rfl rfl i6 dX1_flowTo_61 ?_
      refine lv_aload_n hx hb dX1_flowTo_62 rfl (lv_at hl 0 rfl) ?_
      refine va_get (D := D) (ci := 1) (v := .int v0_flowingKnown) (C := RX1) (T := TX1) (N := 6) hx hb hts iw_X1_flowTo_X1 hown hK hP 0 rfl rfl 3 (by decide) fl_22 (fun _ h9 => h9) rfl dX1_flowTo_63 ?_
      refine lv_iand hx hb dX1_flowTo_66 ?_
      refine lv_aload_n hx hb dX1_flowTo_67 rfl (lv_at hl 0 rfl) ?_
      refine lv_iload_n hx hb dX1_flowTo_68 rfl (lv_at hl 1 rfl) ?_
      obtain ⟨u7, g8, hf⟩ := bd_some hf
      refine g_callVi S (c_X1_sameNumbers l D cI cZ h0 h0_reached h0_known h0_numbers h0_flowing _ f0_flowing f0_numbers v0_flowingKnown v0_changed n x1 u7 g8) (cwV 1 hts gX1_flowTo_X1_sameNumbers rfl rfl rfl (by decide +kernel) ⟨Nat.le_of_ble_eq_true rfl, Nat.le_of_ble_eq_true rfl⟩) hK hP hD hS hA 0 (ci := 1) rfl rfl [0, 1, 3] [2, 4] [(h0_known, .inl (cI, 24, .inl f0_known)), (h0_reached, .inl (cZ, 24, .inl f0_reached))] rfl rfl (by decide) (by decide) (by decide) rfl hl.1 rfl (Nat.le_of_ble_eq_true rfl) dX1_flowTo_69 ⟨Nat.le_of_ble_eq_true rfl, Nat.le_of_ble_eq_true rfl⟩ (fun H locs hP hD hS => ?_)
      have hP : va_P D vwCl [(h0_known, .inl (cI, 24, .inl f0_known)), (h0_reached, .inl (cZ, 24, .inl f0_reached)), (h0, .inr (1, [.ref h0_reached, .ref h0_known, .ref h0_numbers, .int v0_flowingKnown, .ref h0_flowing, .int v0_changed])), (h0_flowing, .inl (cI, 8, .inl f0_flowing)), (h0_numbers, .inl (cI, 192, .inl f0_numbers))] H := hP
      have hD : va_D A [(h0_known, .inl (cI, 24, .inl f0_known)), (h0_reached, .inl (cZ, 24, .inl f0_reached)), (h0, .inr (1, [.ref h0_reached, .ref h0_known, .ref h0_numbers, .int v0_flowingKnown, .ref h0_flowing, .int v0_changed])), (h0_flowing, .inl (cI, 8, .inl f0_flowing)), (h0_numbers, .inl (cI, 192, .inl f0_numbers))] := hD
      refine lv_iand hx hb dX1_flowTo_72 ?_
      refine lv_istore_n (lv' := [(2, .int (((f0_known (x1).toNatClampNeg) &&& v0_flowingKnown) &&& u7)), (0, .ref h0), (1, .int x1)]) hx hb dX1_flowTo_73 rfl hl (by decide) rfl (fun ls hl => ?_)
      refine lv_aload_n hx hb dX1_flowTo_74 rfl (lv_at hl 1 rfl) ?_
      refine lv_aload_n hx hb dX1_flowTo_75 rfl (lv_at hl 1 rfl) ?_
      refine va_get (D := D) (ci := 1) (v := .int v0_changed) (C := RX1) (T := TX1) (N := 6) hx hb hts iw_X1_flowTo_X1 hown hK hP 2 rfl rfl 5 (by decide) fl_29 (fun _ h9 => h9) rfl dX1_flowTo_76 ?_
      refine lv_if_ne (tgt := 92) hx hb dX1_flowTo_79 (by decide) (fun c9 => ?_) (fun c9 => ?_)
      · have hf := ite_e hf c9
        refine lv_iconst (v := (1 : Int32)) hx hb dX1_flowTo_92 (by decide) ?_
        refine lv_goto (tgt := 97) hx hb dX1_flowTo_93 (by decide) ?_
        exact hJ_97 _ _ _ _ _ _ _ _ _ ls hf (hP.sub [2, 3, 0, 4, 1] rfl) (hD.sub [2, 3, 0, 4, 1] (by decide) rfl) hS (lv_sub hl [1, 2, 0] rfl)
      · have hf := ite_t hf c9
        refine lv_iload_n hx hb dX1_flowTo_82 rfl (lv_at hl 0 rfl) ?_
        refine lv_aload_n hx hb dX1_flowTo_83 rfl (lv_at hl 1 rfl) ?_
        refine va_get (D := D) (ci := 1) (v := .ref h0_known) (C := RX1) (T := TX1) (N := 6) hx hb hts iw_X1_flowTo_X1 hown hK hP 2 rfl rfl 1 (by decide) fl_15 (fun _ h9 => h9) rfl dX1_flowTo_84 ?_
        refine lv_iload_n hx hb dX1_flowTo_87 rfl (lv_at hl 2 rfl) ?_
        obtain ⟨i10, hf⟩ := gd_some hf
        refine va_iald hx hb hK hP 0 0 rfl rfl i10 dX1_flowTo_88 ?_
        refine lv_icmp_eq (tgt := 96) hx hb dX1_flowTo_89 (by decide) (fun c11 => ?_) (fun c11 => ?_)
        · have hf := ite_t hf c11
          refine lv_iconst (v := (0 : Int32)) hx hb dX1_flowTo_96 (by decide) ?_
          exact hJ_97 _ _ _ _ _ _ _ _ _ ls hf (hP.sub [2, 3, 0, 4, 1] rfl) (hD.sub [2, 3, 0, 4, 1] (by decide) rfl) hS (lv_sub hl [1, 2, 0] rfl)
        · have hf := ite_e hf c11
          refine lv_iconst (v := (1 : Int32)) hx hb dX1_flowTo_92 (by decide) ?_
          refine lv_goto (tgt := 97) hx hb dX1_flowTo_93 (by decide) ?_
          exact hJ_97 _ _ _ _ _ _ _ _ _ ls hf (hP.sub [2, 3, 0, 4, 1] rfl) (hD.sub [2, 3, 0, 4, 1] (by decide) rfl) hS (lv_sub hl [1, 2, 0] rfl)
    · have hf := ite_t hf c5
      refine lv_aload_n hx hb dX1_flowTo_15 rfl (lv_at hl 0 rfl) ?_
      refine va_get (D := D) (ci := 1) (v := .ref h0_reached) (C := RX1) (T := TX1) (N := 6) hx hb hts iw_X1_flowTo_X1 hown hK hP 0 rfl rfl 0 (by decide) fl_9 (fun _ h9 => h9) rfl dX1_flowTo_16 ?_
      refine lv_iload_n hx hb dX1_flowTo_19 rfl (lv_at hl 1 rfl) ?_
      refine lv_iconst (v := (1 : Int32)) hx hb dX1_flowTo_20 (by decide) ?_
      obtain ⟨i12, hf⟩ := gd_some hf
      refine va_zast hx hb hK hP hD hS 4 1 rfl rfl i12 dX1_flowTo_21 (fun H locs hP hD hS => ?_)
      have hP : va_P D vwCl [(h0, .inr (1, [.ref h0_reached, .ref h0_known, .ref h0_numbers, .int v0_flowingKnown, .ref h0_flowing, .int v0_changed])), (h0_flowing, .inl (cI, 8, .inl f0_flowing)), (h0_known, .inl (cI, 24, .inl f0_known)), (h0_numbers, .inl (cI, 192, .inl f0_numbers)), (h0_reached, .inl (cZ, 24, .inl (upd f0_reached (x1).toNatClampNeg (vp_nar .boolean (1 : Int32)))))] H := hP
      have hD : va_D A [(h0, .inr (1, [.ref h0_reached, .ref h0_known, .ref h0_numbers, .int v0_flowingKnown, .ref h0_flowing, .int v0_changed])), (h0_flowing, .inl (cI, 8, .inl f0_flowing)), (h0_known, .inl (cI, 24, .inl f0_known)), (h0_numbers, .inl (cI, 192, .inl f0_numbers)), (h0_reached, .inl (cZ, 24, .inl (upd f0_reached (x1).toNatClampNeg (vp_nar .boolean (1 : Int32)))))] := hD
      refine lv_aload_n hx hb dX1_flowTo_22 rfl (lv_at hl 0 rfl) ?_
      refine va_get (D := D) (ci := 1) (v := .ref h0_known) (C := RX1) (T := TX1) (N := 6) hx hb hts iw_X1_flowTo_X1 hown hK hP 0 rfl rfl 1 (by decide) fl_15 (fun _ h9 => h9) rfl dX1_flowTo_23 ?_
      refine lv_iload_n hx hb dX1_flowTo_26 rfl (lv_at hl 1 rfl) ?_
      refine lv_aload_n hx hb dX1_flowTo_27 rfl (lv_at hl 0 rfl) ?_
      refine va_get (D := D) (ci := 1) (v := .int v0_flowingKnown) (C := RX1) (T := TX1) (N := 6) hx hb hts iw_X1_flowTo_X1 hown hK hP 0 rfl rfl 3 (by decide) fl_22 (fun _ h9 => h9) rfl dX1_flowTo_28 ?_
      obtain ⟨i13, hf⟩ := gd_some hf
      refine va_iast hx hb hK hP hD hS 2 0 rfl rfl i13 dX1_flowTo_31 (fun H locs hP hD hS => ?_)
      have hP : va_P D vwCl [(h0, .inr (1, [.ref h0_reached, .ref h0_known, .ref h0_numbers, .int v0_flowingKnown, .ref h0_flowing, .int v0_changed])), (h0_flowing, .inl (cI, 8, .inl f0_flowing)), (h0_known, .inl (cI, 24, .inl (upd f0_known (x1).toNatClampNeg v0_flowingKnown))), (h0_numbers, .inl (cI, 192, .inl f0_numbers)), (h0_reached, .inl (cZ, 24, .inl (upd f0_reached (x1).toNatClampNeg (vp_nar .boolean (1 : Int32)))))] H := hP
      have hD : va_D A [(h0, .inr (1, [.ref h0_reached, .ref h0_known, .ref h0_numbers, .int v0_flowingKnown, .ref h0_flowing, .int v0_changed])), (h0_flowing, .inl (cI, 8, .inl f0_flowing)), (h0_known, .inl (cI, 24, .inl (upd f0_known (x1).toNatClampNeg v0_flowingKnown))), (h0_numbers, .inl (cI, 192, .inl f0_numbers)), (h0_reached, .inl (cZ, 24, .inl (upd f0_reached (x1).toNatClampNeg (vp_nar .boolean (1 : Int32)))))] := hD
      refine lv_aload_n hx hb dX1_flowTo_32 rfl (lv_at hl 0 rfl) ?_
      refine va_get (D := D) (ci := 1) (v := .ref h0_flowing) (C := RX1) (T := TX1) (N := 6) hx hb hts iw_X1_flowTo_X1 hown hK hP 0 rfl rfl 4 (by decide) fl_26 (fun _ h9 => h9) rfl dX1_flowTo_33 ?_
      refine lv_iconst (v := (0 : Int32)) hx hb dX1_flowTo_36 (by decide) ?_
      refine lv_aload_n hx hb dX1_flowTo_37 rfl (lv_at hl 0 rfl) ?_
      refine va_get (D := D) (ci := 1) (v := .ref h0_numbers) (C := RX1) (T := TX1) (N := 6) hx hb hts iw_X1_flowTo_X1 hown hK hP 0 rfl rfl 2 (by decide) fl_19 (fun _ h9 => h9) rfl dX1_flowTo_38 ?_
      refine lv_iload_n hx hb dX1_flowTo_41 rfl (lv_at hl 1 rfl) ?_
      refine lv_bipush (v := (8 : Int32)) hx hb dX1_flowTo_42 (by decide +kernel) ?_
      refine lv_imul hx hb dX1_flowTo_44 ?_
      refine lv_bipush (v := (8 : Int32)) hx hb dX1_flowTo_45 (by decide +kernel) ?_
      obtain ⟨i14, hf⟩ := gc_some hf
      refine va_copyi hx hb (hml.trans hl.1.symm) hown ac_l ac_n ac_s ac_i hK hP hD hS 1 3 0 0 rfl rfl rfl rfl rfl i14.1 i14.2.1 i14.2.2.1 i14.2.2.2.1 i14.2.2.2.2 (fun _ _ => rfl) (Nat.le_of_ble_eq_true rfl) (by decide +kernel) dX1_flowTo_47 (fun H locs hP hD hS => ?_)
      have hP : va_P D vwCl [(h0, .inr (1, [.ref h0_reached, .ref h0_known, .ref h0_numbers, .int v0_flowingKnown, .ref h0_flowing, .int v0_changed])), (h0_flowing, .inl (cI, 8, .inl f0_flowing)), (h0_known, .inl (cI, 24, .inl (upd f0_known (x1).toNatClampNeg v0_flowingKnown))), (h0_numbers, .inl (cI, 192, .inl (va_cpy f0_flowing f0_numbers ((0 : Int32)).toNatClampNeg ((x1 * (8 : Int32))).toNatClampNeg ((8 : Int32)).toNatClampNeg))), (h0_reached, .inl (cZ, 24, .inl (upd f0_reached (x1).toNatClampNeg (vp_nar .boolean (1 : Int32)))))] H := hP
      have hD : va_D A [(h0, .inr (1, [.ref h0_reached, .ref h0_known, .ref h0_numbers, .int v0_flowingKnown, .ref h0_flowing, .int v0_changed])), (h0_flowing, .inl (cI, 8, .inl f0_flowing)), (h0_known, .inl (cI, 24, .inl (upd f0_known (x1).toNatClampNeg v0_flowingKnown))), (h0_numbers, .inl (cI, 192, .inl (va_cpy f0_flowing f0_numbers ((0 : Int32)).toNatClampNeg ((x1 * (8 : Int32))).toNatClampNeg ((8 : Int32)).toNatClampNeg))), (h0_reached, .inl (cZ, 24, .inl (upd f0_reached (x1).toNatClampNeg (vp_nar .boolean (1 : Int32)))))] := hD
      refine lv_aload_n hx hb dX1_flowTo_50 rfl (lv_at hl 0 rfl) ?_
      refine lv_iconst (v := (1 : Int32)) hx hb dX1_flowTo_51 (by decide) ?_
      have z15 : (1 : Int32) = 0 ∨ (1 : Int32) = 1 := by decide
      refine va_put (D := D) (ci := 1) (v := .int (1 : Int32)) (ty := .boolean) (C := RX1) (T := TX1) (N := 6) hx hb hts iw_X1_flowTo_X1 tyX1 tyX1_ok nmX1 hown hK hP hD hS 0 rfl rfl 5 (by decide) fl_29 (fun _ h9 => h9) rfl (by decide +kernel) (nb_n z15) (nb_f z15) (Nat.le_of_ble_eq_true rfl) dX1_flowTo_52 (fun H locs hP hD hS => ?_)
      have hP : va_P D vwCl [(h0, .inr (1, [.ref h0_reached, .ref h0_known, .ref h0_numbers, .int v0_flowingKnown, .ref h0_flowing, .int (1 : Int32)])), (h0_flowing, .inl (cI, 8, .inl f0_flowing)), (h0_known, .inl (cI, 24, .inl (upd f0_known (x1).toNatClampNeg v0_flowingKnown))), (h0_numbers, .inl (cI, 192, .inl (va_cpy f0_flowing f0_numbers ((0 : Int32)).toNatClampNeg ((x1 * (8 : Int32))).toNatClampNeg ((8 : Int32)).toNatClampNeg))), (h0_reached, .inl (cZ, 24, .inl (upd f0_reached (x1).toNatClampNeg (vp_nar .boolean (1 : Int32)))))] H := hP
      have hD : va_D A [(h0, .inr (1, [.ref h0_reached, .ref h0_known, .ref h0_numbers, .int v0_flowingKnown, .ref h0_flowing, .int (1 : Int32)])), (h0_flowing, .inl (cI, 8, .inl f0_flowing)), (h0_known, .inl (cI, 24, .inl (upd f0_known (x1).toNatClampNeg v0_flowingKnown))), (h0_numbers, .inl (cI, 192, .inl (va_cpy f0_flowing f0_numbers ((0 : Int32)).toNatClampNeg ((x1 * (8 : Int32))).toNatClampNeg ((8 : Int32)).toNatClampNeg))), (h0_reached, .inl (cZ, 24, .inl (upd f0_reached (x1).toNatClampNeg (vp_nar .boolean (1 : Int32)))))] := hD
      have hf := Option.some.inj hf
      subst hf
      exact g_vret hx hb hr hlocks (hP.sub [0, 1, 2, 3, 4] rfl) (hD.sub [0, 1, 2, 3, 4] (by decide) rfl) hK hS dX1_flowTo_55
  · have hf := ite_t hf c3
    have hf := Option.some.inj hf
    subst hf
    exact g_vret hx hb hr hlocks (hP.sub [0, 1, 2, 3, 4] rfl) (hD.sub [0, 1, 2, 3, 4] (by decide) rfl) hK hS dX1_flowTo_5

def f_X1_write  (L1 : Nat) (f0_flowing : (Nat → Int32)) (f0_known : (Nat → Int32)) (f0_numbers : (Nat → Int32)) (f1_a : (Nat → Int32)) (f1_b : (Nat → Int32)) (f1_d : (Nat → Int32)) (f1_kind : (Nat → Int32)) (v0_flowingKnown : Int32) (x2 : Int32) : Option ((Nat → Int32) × Int32) := gd x2 L1 ((f_X1_givesNumber L1 f0_known f0_numbers f1_a f1_b f1_kind x2).bind (fun u2 => if u2 = 0 then (some (f0_flowing, (v0_flowingKnown &&& (((1 : Int32) <<< ((f1_d (x2).toNatClampNeg) &&& 31)) ^^^ (-1 : Int32))))) else ((f_X1_givenNumber L1 f0_numbers f1_a f1_b f1_kind x2).bind (fun u5 => gd (f1_d (x2).toNatClampNeg) 8 (some ((upd f0_flowing ((f1_d (x2).toNatClampNeg)).toNatClampNeg u5), (v0_flowingKnown ||| ((1 : Int32) <<< ((f1_d (x2).toNatClampNeg) &&& 31)))))))))
theorem iw_X1_write_X1 : ∀ w ∈ wsX10, w ∈ wsX1_write := by decide +kernel
theorem iw_X1_write_X6 : ∀ w ∈ wsX60, w ∈ wsX1_write := by decide +kernel
set_option maxHeartbeats 4000000 in
set_option maxRecDepth 100000 in
theorem c_X1_write (l : Launch) (D : va_G) (cI cZ : ClassId) (h0 h1 h0_reached h0_known h0_numbers h0_flowing h1_kind h1_d h1_a h1_b : Nat) (sz : Nat) (L1 : Nat) (f0_flowing f0_known f0_numbers f1_a f1_b f1_d f1_kind : Nat → Int32) (v0_flowingKnown v0_changed v1_count : Int32)  (x2 : Int32) (res : ((Nat → Int32) × Int32)) (hf : f_X1_write L1 f0_flowing f0_known f0_numbers f1_a f1_b f1_d f1_kind v0_flowingKnown x2 = some res) : Ct_v l yX1_write wsX1_write ({ frames := 3, cells := 0, slots := 0, locals := 68 }) D [(cI, .int), (cZ, .boolean)] [.ref h0, .ref h1, .int x2] sz [(h0, .inr (1, [.ref h0_reached, .ref h0_known, .ref h0_numbers, .int v0_flowingKnown, .ref h0_flowing, .int v0_changed])), (h0_flowing, .inl (cI, 8, .inl f0_flowing)), (h0_known, .inl (cI, 24, .inl f0_known)), (h0_numbers, .inl (cI, 192, .inl f0_numbers)), (h1, .inr (5, [.ref h1_kind, .ref h1_d, .ref h1_a, .ref h1_b, .int v1_count])), (h1_a, .inl (cI, L1, .inl f1_a)), (h1_b, .inl (cI, L1, .inl f1_b)), (h1_d, .inl (cI, L1, .inl f1_d)), (h1_kind, .inl (cI, L1, .inl f1_kind))] [(h0, .inr (1, [.ref h0_reached, .ref h0_known, .ref h0_numbers, .int res.2, .ref h0_flowing, .int v0_changed])), (h0_flowing, .inl (cI, 8, .inl res.1)), (h0_known, .inl (cI, 24, .inl f0_known)), (h0_numbers, .inl (cI, 192, .inl f0_numbers)), (h1, .inr (5, [.ref h1_kind, .ref h1_d, .ref h1_a, .ref h1_b, .int v1_count])), (h1_a, .inl (cI, L1, .inl f1_a)), (h1_b, .inl (cI, L1, .inl f1_b)), (h1_d, .inl (cI, L1, .inl f1_d)), (h1_kind, .inl (cI, L1, .inl f1_kind))] := by
  refine g_of (cc := cX1_write) (maxL := 4) (ret := none) (QQ := (fun A => g_Qv D [(cI, .int), (cZ, .boolean)] A [(h0, .inr (1, [.ref h0_reached, .ref h0_known, .ref h0_numbers, .int res.2, .ref h0_flowing, .int v0_changed])), (h0_flowing, .inl (cI, 8, .inl res.1)), (h0_known, .inl (cI, 24, .inl f0_known)), (h0_numbers, .inl (cI, 192, .inl f0_numbers)), (h1, .inr (5, [.ref h1_kind, .ref h1_d, .ref h1_a, .ref h1_b, .int v1_count])), (h1_a, .inl (cI, L1, .inl f1_a)), (h1_b, .inl (cI, L1, .inl f1_b)), (h1_d, .inl (cI, L1, .inl f1_d)), (h1_kind, .inl (cI, L1, .inl f1_kind))])) (by decide) rfl (Nat.le_of_ble_eq_true rfl) ?_
  intro p e s m args below meth c A ls S hr hlocks hA hP hK hD hl
  show W p l e ({ frames := 3, cells := 0, slots := 0, locals := 68 }) s m args below meth c s.heap [] 0 0 (MQ below (g_Qv D [(cI, .int), (cZ, .boolean)] A [(h0, .inr (1, [.ref h0_reached, .ref h0_known, .ref h0_numbers, .int res.2, .ref h0_flowing, .int v0_changed])), (h0_flowing, .inl (cI, 8, .inl res.1)), (h0_known, .inl (cI, 24, .inl f0_known)), (h0_numbers, .inl (cI, 192, .inl f0_numbers)), (h1, .inr (5, [.ref h1_kind, .ref h1_d, .ref h1_a, .ref h1_b, .int v1_count])), (h1_a, .inl (cI, L1, .inl f1_a)), (h1_b, .inl (cI, L1, .inl f1_b)), (h1_d, .inl (cI, L1, .inl f1_d)), (h1_kind, .inl (cI, L1, .inl f1_kind))]) args s 0 0 A) (F0 m 0 ls [])
  have hx := S.1
  have hb := S.2.1
  have hml := S.2.2.1
  have hown := S.2.2.2.1
  have hts := S.2.2.2.2
  have fl_22 := hts (.fieldLink RX1 22 "PassPipeline$Folding" "flowingKnown" "I") (by decide +kernel)
  have fl_26 := hts (.fieldLink RX1 26 "PassPipeline$Folding" "flowing" "[I") (by decide +kernel)
  have fl_97 := hts (.fieldLink RX1 97 "PassPipeline$Program" "d" "[I") (by decide +kernel)
  have hS : va_S A s.heap s.heap [] := va_S.rf
  have hl : lv_has ls 4 [(0, .ref h0), (1, .ref h1), (2, .int x2)] := hl
  unfold f_X1_write at hf
  refine lv_aload_n hx hb dX1_write_0 rfl (lv_at hl 1 rfl) ?_
  refine va_get (D := D) (ci := 5) (v := .ref h1_d) (C := RX6) (T := TX6) (N := 5) hx hb hts iw_X1_write_X6 hown hK hP 4 rfl rfl 1 (by decide) fl_97 (fun _ h9 => h9) rfl dX1_write_1 ?_
  refine lv_iload_n hx hb dX1_write_4 rfl (lv_at hl 2 rfl) ?_
  obtain ⟨i1, hf⟩ := gd_some hf
  refine va_iald hx hb hK hP 7 0 rfl rfl i1 dX1_write_5 ?_
  refine lv_istore_n (lv' := [(3, .int (f1_d (x2).toNatClampNeg)), (0, .ref h0), (1, .ref h1), (2, .int x2)]) hx hb dX1_write_6 rfl hl (by decide) rfl (fun ls hl => ?_)
  refine lv_aload_n hx hb dX1_write_7 rfl (lv_at hl 1 rfl) ?_
  refine lv_aload_n hx hb dX1_write_8 rfl (lv_at hl 2 rfl) ?_
  refine lv_iload_n hx hb dX1_write_9 rfl (lv_at hl 3 rfl) ?_
  obtain ⟨u2, g3, hf⟩ := bd_some hf
  refine g_callVi S (c_X1_givesNumber l D cI cZ h0 h1 h0_reached h0_known h0_numbers h0_flowing h1_kind h1_d h1_a h1_b _ L1 f0_known f0_numbers f1_a f1_b f1_kind v0_flowingKnown v0_changed v1_count x2 u2 g3) (cwV 2 hts gX1_write_X1_givesNumber rfl rfl rfl (by decide +kernel) ⟨Nat.le_of_ble_eq_true rfl, Nat.le_of_ble_eq_true rfl⟩) hK hP hD hS hA 0 (ci := 1) rfl rfl [0, 2, 3, 4, 5, 6, 8] [1, 7] [(h0_flowing, .inl (cI, 8, .inl f0_flowing)), (h1_d, .inl (cI, L1, .inl f1_d))] rfl rfl (by decide) (by decide) (by decide) rfl hl.1 rfl (Nat.le_of_ble_eq_true rfl) dX1_write_10 ⟨Nat.le_of_ble_eq_true rfl, Nat.le_of_ble_eq_true rfl⟩ (fun H locs hP hD hS => ?_)
  have hP : va_P D vwCl [(h0_flowing, .inl (cI, 8, .inl f0_flowing)), (h1_d, .inl (cI, L1, .inl f1_d)), (h0, .inr (1, [.ref h0_reached, .ref h0_known, .ref h0_numbers, .int v0_flowingKnown, .ref h0_flowing, .int v0_changed])), (h0_known, .inl (cI, 24, .inl f0_known)), (h0_numbers, .inl (cI, 192, .inl f0_numbers)), (h1, .inr (5, [.ref h1_kind, .ref h1_d, .ref h1_a, .ref h1_b, .int v1_count])), (h1_a, .inl (cI, L1, .inl f1_a)), (h1_b, .inl (cI, L1, .inl f1_b)), (h1_kind, .inl (cI, L1, .inl f1_kind))] H := hP
  have hD : va_D A [(h0_flowing, .inl (cI, 8, .inl f0_flowing)), (h1_d, .inl (cI, L1, .inl f1_d)), (h0, .inr (1, [.ref h0_reached, .ref h0_known, .ref h0_numbers, .int v0_flowingKnown, .ref h0_flowing, .int v0_changed])), (h0_known, .inl (cI, 24, .inl f0_known)), (h0_numbers, .inl (cI, 192, .inl f0_numbers)), (h1, .inr (5, [.ref h1_kind, .ref h1_d, .ref h1_a, .ref h1_b, .int v1_count])), (h1_a, .inl (cI, L1, .inl f1_a)), (h1_b, .inl (cI, L1, .inl f1_b)), (h1_kind, .inl (cI, L1, .inl f1_kind))] := hD
  refine lv_if_eq (tgt := 43) hx hb dX1_write_13 (by decide) (fun c4 => ?_) (fun c4 => ?_)
  · have hf := ite_t hf c4
    refine lv_aload_n hx hb dX1_write_43 rfl (lv_at hl 1 rfl) ?_
    refine lv_dup hx hb dX1_write_44 rfl ?_
    refine va_get (D := D) (ci := 1) (v := .int v0_flowingKnown) (C := RX1) (T := TX1) (N := 6) hx hb hts iw_X1_write_X1 hown hK hP 2 rfl rfl 3 (by decide) fl_22 (fun _ h9 => h9) rfl dX1_write_45 ?_
    refine lv_iconst (v := (1 : Int32)) hx hb dX1_write_48 (by decide) ?_
    refine lv_iload_n hx hb dX1_write_49 rfl (lv_at hl 0 rfl) ?_
    refine lv_ishl hx hb dX1_write_50 ?_
    refine lv_iconst (v := (-1 : Int32)) hx hb dX1_write_51 (by decide) ?_
    refine lv_ixor hx hb dX1_write_52 ?_
    refine lv_iand hx hb dX1_write_53 ?_
    refine va_put (D := D) (ci := 1) (v := .int (v0_flowingKnown &&& (((1 : Int32) <<< ((f1_d (x2).toNatClampNeg) &&& 31)) ^^^ (-1 : Int32)))) (ty := .int) (C := RX1) (T := TX1) (N := 6) hx hb hts iw_X1_write_X1 tyX1 tyX1_ok nmX1 hown hK hP hD hS 2 rfl rfl 3 (by decide) fl_22 (fun _ h9 => h9) rfl (by decide +kernel) rfl rfl (Nat.le_of_ble_eq_true rfl) dX1_write_54 (fun H locs hP hD hS => ?_)
    have hP : va_P D vwCl [(h0_flowing, .inl (cI, 8, .inl f0_flowing)), (h1_d, .inl (cI, L1, .inl f1_d)), (h0, .inr (1, [.ref h0_reached, .ref h0_known, .ref h0_numbers, .int (v0_flowingKnown &&& (((1 : Int32) <<< ((f1_d (x2).toNatClampNeg) &&& 31)) ^^^ (-1 : Int32))), .ref h0_flowing, .int v0_changed])), (h0_known, .inl (cI, 24, .inl f0_known)), (h0_numbers, .inl (cI, 192, .inl f0_numbers)), (h1, .inr (5, [.ref h1_kind, .ref h1_d, .ref h1_a, .ref h1_b, .int v1_count])), (h1_a, .inl (cI, L1, .inl f1_a)), (h1_b, .inl (cI, L1, .inl f1_b)), (h1_kind, .inl (cI, L1, .inl f1_kind))] H := hP
    have hD : va_D A [(h0_flowing, .inl (cI, 8, .inl f0_flowing)), (h1_d, .inl (cI, L1, .inl f1_d)), (h0, .inr (1, [.ref h0_reached, .ref h0_known, .ref h0_numbers, .int (v0_flowingKnown &&& (((1 : Int32) <<< ((f1_d (x2).toNatClampNeg) &&& 31)) ^^^ (-1 : Int32))), .ref h0_flowing, .int v0_changed])), (h0_known, .inl (cI, 24, .inl f0_known)), (h0_numbers, .inl (cI, 192, .inl f0_numbers)), (h1, .inr (5, [.ref h1_kind, .ref h1_d, .ref h1_a, .ref h1_b, .int v1_count])), (h1_a, .inl (cI, L1, .inl f1_a)), (h1_b, .inl (cI, L1, .inl f1_b)), (h1_kind, .inl (cI, L1, .inl f1_kind))] := hD
    have hf := Option.some.inj hf
    subst hf
    exact g_vret hx hb hr hlocks (hP.sub [2, 0, 3, 4, 5, 6, 7, 1, 8] rfl) (hD.sub [2, 0, 3, 4, 5, 6, 7, 1, 8] (by decide) rfl) hK hS dX1_write_57
  · have hf := ite_e hf c4
    refine lv_aload_n hx hb dX1_write_16 rfl (lv_at hl 1 rfl) ?_
    refine lv_dup hx hb dX1_write_17 rfl ?_
    refine va_get (D := D) (ci := 1) (v := .int v0_flowingKnown) (C := RX1) (T := TX1) (N := 6) hx hb hts iw_X1_write_X1 hown hK hP 2 rfl rfl 3 (by decide) fl_22 (fun _ h9 => h9) rfl dX1_write_18 ?_
    refine lv_iconst (v := (1 : Int32)) hx hb dX1_write_21 (by decide) ?_
    refine lv_iload_n hx hb dX1_write_22 rfl (lv_at hl 0 rfl) ?_
    refine lv_ishl hx hb dX1_write_23 ?_
    refine lv_ior hx hb dX1_write_24 ?_
    refine va_put (D := D) (ci := 1) (v := .int (v0_flowingKnown ||| ((1 : Int32) <<< ((f1_d (x2).toNatClampNeg) &&& 31)))) (ty := .int) (C := RX1) (T := TX1) (N := 6) hx hb hts iw_X1_write_X1 tyX1 tyX1_ok nmX1 hown hK hP hD hS 2 rfl rfl 3 (by decide) fl_22 (fun _ h9 => h9) rfl (by decide +kernel) rfl rfl (Nat.le_of_ble_eq_true rfl) dX1_write_25 (fun H locs hP hD hS => ?_)
    have hP : va_P D vwCl [(h0_flowing, .inl (cI, 8, .inl f0_flowing)), (h1_d, .inl (cI, L1, .inl f1_d)), (h0, .inr (1, [.ref h0_reached, .ref h0_known, .ref h0_numbers, .int (v0_flowingKnown ||| ((1 : Int32) <<< ((f1_d (x2).toNatClampNeg) &&& 31))), .ref h0_flowing, .int v0_changed])), (h0_known, .inl (cI, 24, .inl f0_known)), (h0_numbers, .inl (cI, 192, .inl f0_numbers)), (h1, .inr (5, [.ref h1_kind, .ref h1_d, .ref h1_a, .ref h1_b, .int v1_count])), (h1_a, .inl (cI, L1, .inl f1_a)), (h1_b, .inl (cI, L1, .inl f1_b)), (h1_kind, .inl (cI, L1, .inl f1_kind))] H := hP
    have hD : va_D A [(h0_flowing, .inl (cI, 8, .inl f0_flowing)), (h1_d, .inl (cI, L1, .inl f1_d)), (h0, .inr (1, [.ref h0_reached, .ref h0_known, .ref h0_numbers, .int (v0_flowingKnown ||| ((1 : Int32) <<< ((f1_d (x2).toNatClampNeg) &&& 31))), .ref h0_flowing, .int v0_changed])), (h0_known, .inl (cI, 24, .inl f0_known)), (h0_numbers, .inl (cI, 192, .inl f0_numbers)), (h1, .inr (5, [.ref h1_kind, .ref h1_d, .ref h1_a, .ref h1_b, .int v1_count])), (h1_a, .inl (cI, L1, .inl f1_a)), (h1_b, .inl (cI, L1, .inl f1_b)), (h1_kind, .inl (cI, L1, .inl f1_kind))] := hD
    refine lv_aload_n hx hb dX1_write_28 rfl (lv_at hl 1 rfl) ?_
    refine va_get (D := D) (ci := 1) (v := .ref h0_flowing) (C := RX1) (T := TX1) (N := 6) hx hb hts iw_X1_write_X1 hown hK hP 2 rfl rfl 4 (by decide) fl_26 (fun _ h9 => h9) rfl dX1_write_29 ?_
    refine lv_iload_n hx hb dX1_write_32 rfl (lv_at hl 0 rfl) ?_
    refine lv_aload_n hx hb dX1_write_33 rfl (lv_at hl 1 rfl) ?_
    refine lv_aload_n hx hb dX1_write_34 rfl (lv_at hl 2 rfl) ?_
    refine lv_iload_n hx hb dX1_write_35 rfl (lv_at hl 3 rfl) ?_
    obtain ⟨u5, g6, hf⟩ := bd_some hf
    refine g_callVi S (c_X1_givenNumber l D cI cZ h0 h1 h0_reached h0_known h0_numbers h0_flowing h1_kind h1_d h1_a h1_b _ L1 f0_numbers f1_a f1_b f1_kind (v0_flowingKnown ||| ((1 : Int32) <<< ((f1_d (x2).toNatClampNeg) &&& 31))) v0_changed v1_count x2 u5 g6) (cwV 2 hts gX1_write_X1_givenNumber rfl rfl rfl (by decide +kernel) ⟨Nat.le_of_ble_eq_true rfl, Nat.le_of_ble_eq_true rfl⟩) hK hP hD hS hA 2 (ci := 1) rfl rfl [2, 4, 5, 6, 7, 8] [0, 1, 3] [(h0_flowing, .inl (cI, 8, .inl f0_flowing)), (h1_d, .inl (cI, L1, .inl f1_d)), (h0_known, .inl (cI, 24, .inl f0_known))] rfl rfl (by decide) (by decide) (by decide) rfl hl.1 rfl (Nat.le_of_ble_eq_true rfl) dX1_write_36 ⟨Nat.le_of_ble_eq_true rfl, Nat.le_of_ble_eq_true rfl⟩ (fun H locs hP hD hS => ?_)
    have hP : va_P D vwCl [(h0_flowing, .inl (cI, 8, .inl f0_flowing)), (h1_d, .inl (cI, L1, .inl f1_d)), (h0_known, .inl (cI, 24, .inl f0_known)), (h0, .inr (1, [.ref h0_reached, .ref h0_known, .ref h0_numbers, .int (v0_flowingKnown ||| ((1 : Int32) <<< ((f1_d (x2).toNatClampNeg) &&& 31))), .ref h0_flowing, .int v0_changed])), (h0_numbers, .inl (cI, 192, .inl f0_numbers)), (h1, .inr (5, [.ref h1_kind, .ref h1_d, .ref h1_a, .ref h1_b, .int v1_count])), (h1_a, .inl (cI, L1, .inl f1_a)), (h1_b, .inl (cI, L1, .inl f1_b)), (h1_kind, .inl (cI, L1, .inl f1_kind))] H := hP
    have hD : va_D A [(h0_flowing, .inl (cI, 8, .inl f0_flowing)), (h1_d, .inl (cI, L1, .inl f1_d)), (h0_known, .inl (cI, 24, .inl f0_known)), (h0, .inr (1, [.ref h0_reached, .ref h0_known, .ref h0_numbers, .int (v0_flowingKnown ||| ((1 : Int32) <<< ((f1_d (x2).toNatClampNeg) &&& 31))), .ref h0_flowing, .int v0_changed])), (h0_numbers, .inl (cI, 192, .inl f0_numbers)), (h1, .inr (5, [.ref h1_kind, .ref h1_d, .ref h1_a, .ref h1_b, .int v1_count])), (h1_a, .inl (cI, L1, .inl f1_a)), (h1_b, .inl (cI, L1, .inl f1_b)), (h1_kind, .inl (cI, L1, .inl f1_kind))] := hD
    obtain ⟨i7, hf⟩ := gd_some hf
    refine va_iast hx hb hK hP hD hS 0 0 rfl rfl i7 dX1_write_39 (fun H locs hP hD hS => ?_)
    have hP : va_P D vwCl [(h0_flowing, .inl (cI, 8, .inl (upd f0_flowing ((f1_d (x2).toNatClampNeg)).toNatClampNeg u5))), (h1_d, .inl (cI, L1, .inl f1_d)), (h0_known, .inl (cI, 24, .inl f0_known)), (h0, .inr (1, [.ref h0_reached, .ref h0_known, .ref h0_numbers, .int (v0_flowingKnown ||| ((1 : Int32) <<< ((f1_d (x2).toNatClampNeg) &&& 31))), .ref h0_flowing, .int v0_changed])), (h0_numbers, .inl (cI, 192, .inl f0_numbers)), (h1, .inr (5, [.ref h1_kind, .ref h1_d, .ref h1_a, .ref h1_b, .int v1_count])), (h1_a, .inl (cI, L1, .inl f1_a)), (h1_b, .inl (cI, L1, .inl f1_b)), (h1_kind, .inl (cI, L1, .inl f1_kind))] H := hP
    have hD : va_D A [(h0_flowing, .inl (cI, 8, .inl (upd f0_flowing ((f1_d (x2).toNatClampNeg)).toNatClampNeg u5))), (h1_d, .inl (cI, L1, .inl f1_d)), (h0_known, .inl (cI, 24, .inl f0_known)), (h0, .inr (1, [.ref h0_reached, .ref h0_known, .ref h0_numbers, .int (v0_flowingKnown ||| ((1 : Int32) <<< ((f1_d (x2).toNatClampNeg) &&& 31))), .ref h0_flowing, .int v0_changed])), (h0_numbers, .inl (cI, 192, .inl f0_numbers)), (h1, .inr (5, [.ref h1_kind, .ref h1_d, .ref h1_a, .ref h1_b, .int v1_count])), (h1_a, .inl (cI, L1, .inl f1_a)), (h1_b, .inl (cI, L1, .inl f1_b)), (h1_kind, .inl (cI, L1, .inl f1_kind))] := hD
    refine lv_goto (tgt := 57) hx hb dX1_write_40 (by decide) ?_
    have hf := Option.some.inj hf
    subst hf
    exact g_vret hx hb hr hlocks (hP.sub [3, 0, 2, 4, 5, 6, 7, 1, 8] rfl) (hD.sub [3, 0, 2, 4, 5, 6, 7, 1, 8] (by decide) rfl) hK hS dX1_write_57

def f_X1_follow_143 (n : Nat)  (L1 : Nat) (f0_flowing : (Nat → Int32)) (f0_known : (Nat → Int32)) (f0_numbers : (Nat → Int32)) (f0_reached : (Nat → Int32)) (f1_a : (Nat → Int32)) (f1_b : (Nat → Int32)) (f1_d : (Nat → Int32)) (f1_kind : (Nat → Int32)) (v0_flowingKnown : Int32) (v0_changed : Int32) (v1_count : Int32) (x2 : Int32) : Option ((Nat → Int32) × (Nat → Int32) × (Nat → Int32) × (Nat → Int32) × Int32 × Int32) := (f_X6_target L1 f1_d f1_kind v1_count x2).bind (fun u1 => (f_X1_flowTo n f0_flowing f0_known f0_numbers f0_reached v0_flowingKnown v0_changed u1).bind (fun u3 => some (f0_flowing, u3.1, u3.2.1, u3.2.2.1, v0_flowingKnown, u3.2.2.2)))
def f_X1_follow_124 (n : Nat)  (L1 : Nat) (f0_flowing : (Nat → Int32)) (f0_known : (Nat → Int32)) (f0_numbers : (Nat → Int32)) (f0_reached : (Nat → Int32)) (f1_a : (Nat → Int32)) (f1_b : (Nat → Int32)) (f1_d : (Nat → Int32)) (f1_kind : (Nat → Int32)) (v0_flowingKnown : Int32) (v0_changed : Int32) (v1_count : Int32) (x2 x4 : Int32) : Option ((Nat → Int32) × (Nat → Int32) × (Nat → Int32) × (Nat → Int32) × Int32 × Int32) := if x4 = 0 then (f_X1_follow_143 n L1 f0_flowing f0_known f0_numbers f0_reached f1_a f1_b f1_d f1_kind v0_flowingKnown v0_changed v1_count x2) else (gd x2 L1 ((f_X1_isZero f0_known f0_numbers x2 (f1_a (x2).toNatClampNeg)).bind (fun u7 => if u7 = 0 then (some (f0_flowing, f0_known, f0_numbers, f0_reached, v0_flowingKnown, v0_changed)) else (f_X1_follow_143 n L1 f0_flowing f0_known f0_numbers f0_reached f1_a f1_b f1_d f1_kind v0_flowingKnown v0_changed v1_count x2))))
def f_X1_follow_115 (n : Nat)  (L1 : Nat) (f0_flowing : (Nat → Int32)) (f0_known : (Nat → Int32)) (f0_numbers : (Nat → Int32)) (f0_reached : (Nat → Int32)) (f1_a : (Nat → Int32)) (f1_b : (Nat → Int32)) (f1_d : (Nat → Int32)) (f1_kind : (Nat → Int32)) (v0_flowingKnown : Int32) (v0_changed : Int32) (v1_count : Int32) (x2 x4 : Int32) : Option ((Nat → Int32) × (Nat → Int32) × (Nat → Int32) × (Nat → Int32) × Int32 × Int32) := (f_X6_follower L1 f1_kind v1_count x2).bind (fun u10 => (f_X1_flowTo n f0_flowing f0_known f0_numbers f0_reached v0_flowingKnown v0_changed u10).bind (fun u12 => f_X1_follow_124 n L1 f0_flowing u12.1 u12.2.1 u12.2.2.1 f1_a f1_b f1_d f1_kind v0_flowingKnown u12.2.2.2 v1_count x2 x4))
def f_X1_follow_94 (n : Nat)  (L1 : Nat) (f0_flowing : (Nat → Int32)) (f0_known : (Nat → Int32)) (f0_numbers : (Nat → Int32)) (f0_reached : (Nat → Int32)) (f1_a : (Nat → Int32)) (f1_b : (Nat → Int32)) (f1_d : (Nat → Int32)) (f1_kind : (Nat → Int32)) (v0_flowingKnown : Int32) (v0_changed : Int32) (v1_count : Int32) (x2 t0 : Int32) : Option ((Nat → Int32) × (Nat → Int32) × (Nat → Int32) × (Nat → Int32) × Int32 × Int32) := if t0 = 0 then (f_X1_follow_115 n L1 f0_flowing f0_known f0_numbers f0_reached f1_a f1_b f1_d f1_kind v0_flowingKnown v0_changed v1_count x2 t0) else (gd x2 L1 ((f_X1_isZero f0_known f0_numbers x2 (f1_a (x2).toNatClampNeg)).bind (fun u16 => if u16 = 0 then (f_X1_follow_115 n L1 f0_flowing f0_known f0_numbers f0_reached f1_a f1_b f1_d f1_kind v0_flowingKnown v0_changed v1_count x2 t0) else (f_X1_follow_124 n L1 f0_flowing f0_known f0_numbers f0_reached f1_a f1_b f1_d f1_kind v0_flowingKnown v0_changed v1_count x2 t0))))
def f_X1_follow_69 (n : Nat)  (L1 : Nat) (f0_flowing : (Nat → Int32)) (f0_known : (Nat → Int32)) (f0_numbers : (Nat → Int32)) (f0_reached : (Nat → Int32)) (f1_a : (Nat → Int32)) (f1_b : (Nat → Int32)) (f1_d : (Nat → Int32)) (f1_kind : (Nat → Int32)) (v0_flowingKnown : Int32) (v0_changed : Int32) (v1_count : Int32) (x2 x3 : Int32) : Option ((Nat → Int32) × (Nat → Int32) × (Nat → Int32) × (Nat → Int32) × Int32 × Int32) := if x3 = (10 : Int32) then (gd x2 L1 ((f_X1_knows f0_known x2 (f1_a (x2).toNatClampNeg)).bind (fun u21 => if u21 = 0 then (f_X1_follow_94 n L1 f0_flowing f0_known f0_numbers f0_reached f1_a f1_b f1_d f1_kind v0_flowingKnown v0_changed v1_count x2 (0 : Int32)) else (f_X1_follow_94 n L1 f0_flowing f0_known f0_numbers f0_reached f1_a f1_b f1_d f1_kind v0_flowingKnown v0_changed v1_count x2 (1 : Int32))))) else (f_X1_follow_94 n L1 f0_flowing f0_known f0_numbers f0_reached f1_a f1_b f1_d f1_kind v0_flowingKnown v0_changed v1_count x2 (0 : Int32))
def f_X1_follow_28 (n : Nat)  (L1 : Nat) (f0_flowing : (Nat → Int32)) (f0_known : (Nat → Int32)) (f0_numbers : (Nat → Int32)) (f0_reached : (Nat → Int32)) (f1_a : (Nat → Int32)) (f1_b : (Nat → Int32)) (f1_d : (Nat → Int32)) (f1_kind : (Nat → Int32)) (v0_flowingKnown : Int32) (v0_changed : Int32) (v1_count : Int32) (x2 x3 : Int32) : Option ((Nat → Int32) × (Nat → Int32) × (Nat → Int32) × (Nat → Int32) × Int32 × Int32) := gc (x2 * (8 : Int32)) (0 : Int32) (8 : Int32) 192 8 (gd x2 24 ((f_X2_writesD x3).bind (fun u26 => if u26 = 0 then (f_X1_follow_69 n L1 (va_cpy f0_numbers f0_flowing ((x2 * (8 : Int32))).toNatClampNeg ((0 : Int32)).toNatClampNeg ((8 : Int32)).toNatClampNeg) f0_known f0_numbers f0_reached f1_a f1_b f1_d f1_kind (f0_known (x2).toNatClampNeg) v0_changed v1_count x2 x3) else ((f_X1_write L1 (va_cpy f0_numbers f0_flowing ((x2 * (8 : Int32))).toNatClampNeg ((0 : Int32)).toNatClampNeg ((8 : Int32)).toNatClampNeg) f0_known f0_numbers f1_a f1_b f1_d f1_kind (f0_known (x2).toNatClampNeg) x2).bind (fun u29 => f_X1_follow_69 n L1 u29.1 f0_known f0_numbers f0_reached f1_a f1_b f1_d f1_kind u29.2 v0_changed v1_count x2 x3)))))
def f_X1_follow (n : Nat) (L1 : Nat) (f0_flowing : (Nat → Int32)) (f0_known : (Nat → Int32)) (f0_numbers : (Nat → Int32)) (f0_reached : (Nat → Int32)) (f1_a : (Nat → Int32)) (f1_b : (Nat → Int32)) (f1_d : (Nat → Int32)) (f1_kind : (Nat → Int32)) (v0_flowingKnown : Int32) (v0_changed : Int32) (v1_count : Int32) (x2 : Int32) : Option ((Nat → Int32) × (Nat → Int32) × (Nat → Int32) × (Nat → Int32) × Int32 × Int32) := gd x2 L1 (if (f1_kind (x2).toNatClampNeg) = (6 : Int32) then (gd x2 L1 ((f_X1_isZero f0_known f0_numbers x2 (f1_b (x2).toNatClampNeg)).bind (fun u34 => if u34 = 0 then (f_X1_follow_28 n L1 f0_flowing f0_known f0_numbers f0_reached f1_a f1_b f1_d f1_kind v0_flowingKnown v0_changed v1_count x2 (f1_kind (x2).toNatClampNeg)) else (some (f0_flowing, f0_known, f0_numbers, f0_reached, v0_flowingKnown, v0_changed))))) else (f_X1_follow_28 n L1 f0_flowing f0_known f0_numbers f0_reached f1_a f1_b f1_d f1_kind v0_flowingKnown v0_changed v1_count x2 (f1_kind (x2).toNatClampNeg)))
theorem iw_X1_follow_X1 : ∀ w ∈ wsX10, w ∈ wsX1_follow := by decide +kernel
theorem iw_X1_follow_X6 : ∀ w ∈ wsX60, w ∈ wsX1_follow := by decide +kernel
set_option maxHeartbeats 4000000 in
set_option maxRecDepth 100000 in
theorem c_X1_follow (l : Launch) (D : va_G) (cI cZ : ClassId) (h0 h1 h0_reached h0_known h0_numbers h0_flowing h1_kind h1_d h1_a h1_b : Nat) (sz : Nat) (L1 : Nat) (f0_flowing f0_known f0_numbers f0_reached f1_a f1_b f1_d f1_kind : Nat → Int32) (v0_flowingKnown v0_changed v1_count : Int32) (n : Nat) (x2 : Int32) (res : ((Nat → Int32) × (Nat → Int32) × (Nat → Int32) × (Nat → Int32) × Int32 × Int32)) (hf : f_X1_follow n L1 f0_flowing f0_known f0_numbers f0_reached f1_a f1_b f1_d f1_kind v0_flowingKnown v0_changed v1_count x2 = some res) : Ct_v l yX1_follow wsX1_follow ({ frames := 4, cells := 0, slots := 0, locals := 91 }) D [(cI, .int), (cZ, .boolean)] [.ref h0, .ref h1, .int x2] sz [(h0, .inr (1, [.ref h0_reached, .ref h0_known, .ref h0_numbers, .int v0_flowingKnown, .ref h0_flowing, .int v0_changed])), (h0_flowing, .inl (cI, 8, .inl f0_flowing)), (h0_known, .inl (cI, 24, .inl f0_known)), (h0_numbers, .inl (cI, 192, .inl f0_numbers)), (h0_reached, .inl (cZ, 24, .inl f0_reached)), (h1, .inr (5, [.ref h1_kind, .ref h1_d, .ref h1_a, .ref h1_b, .int v1_count])), (h1_a, .inl (cI, L1, .inl f1_a)), (h1_b, .inl (cI, L1, .inl f1_b)), (h1_d, .inl (cI, L1, .inl f1_d)), (h1_kind, .inl (cI, L1, .inl f1_kind))] [(h0, .inr (1, [.ref h0_reached, .ref h0_known, .ref h0_numbers, .int res.2.2.2.2.1, .ref h0_flowing, .int res.2.2.2.2.2])), (h0_flowing, .inl (cI, 8, .inl res.1)), (h0_known, .inl (cI, 24, .inl res.2.1)), (h0_numbers, .inl (cI, 192, .inl res.2.2.1)), (h0_reached, .inl (cZ, 24, .inl res.2.2.2.1)), (h1, .inr (5, [.ref h1_kind, .ref h1_d, .ref h1_a, .ref h1_b, .int v1_count])), (h1_a, .inl (cI, L1, .inl f1_a)), (h1_b, .inl (cI, L1, .inl f1_b)), (h1_d, .inl (cI, L1, .inl f1_d)), (h1_kind, .inl (cI, L1, .inl f1_kind))] := by
  refine g_of (cc := cX1_follow) (maxL := 5) (ret := none) (QQ := (fun A => g_Qv D [(cI, .int), (cZ, .boolean)] A [(h0, .inr (1, [.ref h0_reached, .ref h0_known, .ref h0_numbers, .int res.2.2.2.2.1, .ref h0_flowing, .int res.2.2.2.2.2])), (h0_flowing, .inl (cI, 8, .inl res.1)), (h0_known, .inl (cI, 24, .inl res.2.1)), (h0_numbers, .inl (cI, 192, .inl res.2.2.1)), (h0_reached, .inl (cZ, 24, .inl res.2.2.2.1)), (h1, .inr (5, [.ref h1_kind, .ref h1_d, .ref h1_a, .ref h1_b, .int v1_count])), (h1_a, .inl (cI, L1, .inl f1_a)), (h1_b, .inl (cI, L1, .inl f1_b)), (h1_d, .inl (cI, L1, .inl f1_d)), (h1_kind, .inl (cI, L1, .inl f1_kind))])) (by decide) rfl (Nat.le_of_ble_eq_true rfl) ?_
  intro p e s m args below meth c A ls S hr hlocks hA hP hK hD hl
  show W p l e ({ frames := 4, cells := 0, slots := 0, locals := 91 }) s m args below meth c s.heap [] 0 0 (MQ below (g_Qv D [(cI, .int), (cZ, .boolean)] A [(h0, .inr (1, [.ref h0_reached, .ref h0_known, .ref h0_numbers, .int res.2.2.2.2.1, .ref h0_flowing, .int res.2.2.2.2.2])), (h0_flowing, .inl (cI, 8, .inl res.1)), (h0_known, .inl (cI, 24, .inl res.2.1)), (h0_numbers, .inl (cI, 192, .inl res.2.2.1)), (h0_reached, .inl (cZ, 24, .inl res.2.2.2.1)), (h1, .inr (5, [.ref h1_kind, .ref h1_d, .ref h1_a, .ref h1_b, .int v1_count])), (h1_a, .inl (cI, L1, .inl f1_a)), (h1_b, .inl (cI, L1, .inl f1_b)), (h1_d, .inl (cI, L1, .inl f1_d)), (h1_kind, .inl (cI, L1, .inl f1_kind))]) args s 0 0 A) (F0 m 0 ls [])
  have hx := S.1
  have hb := S.2.1
  have hml := S.2.2.1
  have hown := S.2.2.2.1
  have hts := S.2.2.2.2
  have ac_i := hts (.initialized "java/lang/System") (by decide +kernel)
  have ac_l := hts (.methodLink RX1 69 arraycopyName) (by decide +kernel)
  have ac_n := hts (.native arraycopyName) (by decide +kernel)
  have ac_s := hts (.static arraycopyName) (by decide +kernel)
  have fl_15 := hts (.fieldLink RX1 15 "PassPipeline$Folding" "known" "[I") (by decide +kernel)
  have fl_19 := hts (.fieldLink RX1 19 "PassPipeline$Folding" "numbers" "[I") (by decide +kernel)
  have fl_22 := hts (.fieldLink RX1 22 "PassPipeline$Folding" "flowingKnown" "I") (by decide +kernel)
  have fl_26 := hts (.fieldLink RX1 26 "PassPipeline$Folding" "flowing" "[I") (by decide +kernel)
  have fl_59 := hts (.fieldLink RX1 59 "PassPipeline$Program" "kind" "[I") (by decide +kernel)
  have fl_62 := hts (.fieldLink RX1 62 "PassPipeline$Program" "b" "[I") (by decide +kernel)
  have fl_84 := hts (.fieldLink RX1 84 "PassPipeline$Program" "a" "[I") (by decide +kernel)
  have hS : va_S A s.heap s.heap [] := va_S.rf
  have hl : lv_has ls 5 [(0, .ref h0), (1, .ref h1), (2, .int x2)] := hl
  have hJ_143 : ∀ (f0_flowing : (Nat → Int32)) (f0_known : (Nat → Int32)) (f0_numbers : (Nat → Int32)) (f0_reached : (Nat → Int32)) (v0_flowingKnown : Int32) (v0_changed : Int32) (x2 : Int32) (H : Heap) (locs : List Loc) (ls : Array Slot), f_X1_follow_143 n L1 f0_flowing f0_known f0_numbers f0_reached f1_a f1_b f1_d f1_kind v0_flowingKnown v0_changed v1_count x2 = some res → va_P D vwCl [(h0, .inr (1, [.ref h0_reached, .ref h0_known, .ref h0_numbers, .int v0_flowingKnown, .ref h0_flowing, .int v0_changed])), (h0_flowing, .inl (cI, 8, .inl f0_flowing)), (h0_known, .inl (cI, 24, .inl f0_known)), (h0_numbers, .inl (cI, 192, .inl f0_numbers)), (h0_reached, .inl (cZ, 24, .inl f0_reached)), (h1, .inr (5, [.ref h1_kind, .ref h1_d, .ref h1_a, .ref h1_b, .int v1_count])), (h1_a, .inl (cI, L1, .inl f1_a)), (h1_b, .inl (cI, L1, .inl f1_b)), (h1_d, .inl (cI, L1, .inl f1_d)), (h1_kind, .inl (cI, L1, .inl f1_kind))] H → va_D A [(h0, .inr (1, [.ref h0_reached, .ref h0_known, .ref h0_numbers, .int v0_flowingKnown, .ref h0_flowing, .int v0_changed])), (h0_flowing, .inl (cI, 8, .inl f0_flowing)), (h0_known, .inl (cI, 24, .inl f0_known)), (h0_numbers, .inl (cI, 192, .inl f0_numbers)), (h0_reached, .inl (cZ, 24, .inl f0_reached)), (h1, .inr (5, [.ref h1_kind, .ref h1_d, .ref h1_a, .ref h1_b, .int v1_count])), (h1_a, .inl (cI, L1, .inl f1_a)), (h1_b, .inl (cI, L1, .inl f1_b)), (h1_d, .inl (cI, L1, .inl f1_d)), (h1_kind, .inl (cI, L1, .inl f1_kind))] → va_S A s.heap H locs → lv_has ls 5 [(0, .ref h0), (1, .ref h1), (2, .int x2)] → W p l e ({ frames := 4, cells := 0, slots := 0, locals := 91 }) s m args below meth c H locs 0 0 (MQ below (g_Qv D [(cI, .int), (cZ, .boolean)] A [(h0, .inr (1, [.ref h0_reached, .ref h0_known, .ref h0_numbers, .int res.2.2.2.2.1, .ref h0_flowing, .int res.2.2.2.2.2])), (h0_flowing, .inl (cI, 8, .inl res.1)), (h0_known, .inl (cI, 24, .inl res.2.1)), (h0_numbers, .inl (cI, 192, .inl res.2.2.1)), (h0_reached, .inl (cZ, 24, .inl res.2.2.2.1)), (h1, .inr (5, [.ref h1_kind, .ref h1_d, .ref h1_a, .ref h1_b, .int v1_count])), (h1_a, .inl (cI, L1, .inl f1_a)), (h1_b, .inl (cI, L1, .inl f1_b)), (h1_d, .inl (cI, L1, .inl f1_d)), (h1_kind, .inl (cI, L1, .inl f1_kind))]) args s 0 0 A) (F0 m 143 ls []) := by
    intro f0_flowing f0_known f0_numbers f0_reached v0_flowingKnown v0_changed x2 H locs ls hf hP hD hS hl
    unfold f_X1_follow_143 at hf
    refine lv_aload_n hx hb dX1_follow_143 rfl (lv_at hl 0 rfl) ?_
    refine lv_aload_n hx hb dX1_follow_144 rfl (lv_at hl 1 rfl) ?_
    refine lv_iload_n hx hb dX1_follow_145 rfl (lv_at hl 2 rfl) ?_
    obtain ⟨u1, g2, hf⟩ := bd_some hf
    refine g_callVi S (c_X6_target l D cI cZ h1 h1_kind h1_d h1_a h1_b _ L1 f1_d f1_kind v1_count x2 u1 g2) (cwV 1 hts gX1_follow_X6_target rfl rfl rfl (by decide +kernel) ⟨Nat.le_of_ble_eq_true rfl, Nat.le_of_ble_eq_true rfl⟩) hK hP hD hS hA 5 (ci := 5) rfl rfl [5, 8, 9] [0, 1, 2, 3, 4, 6, 7] [(h0, .inr (1, [.ref h0_reached, .ref h0_known, .ref h0_numbers, .int v0_flowingKnown, .ref h0_flowing, .int v0_changed])), (h0_flowing, .inl (cI, 8, .inl f0_flowing)), (h0_known, .inl (cI, 24, .inl f0_known)), (h0_numbers, .inl (cI, 192, .inl f0_numbers)), (h0_reached, .inl (cZ, 24, .inl f0_reached)), (h1_a, .inl (cI, L1, .inl f1_a)), (h1_b, .inl (cI, L1, .inl f1_b))] rfl rfl (by decide) (by decide) (by decide) rfl hl.1 rfl (Nat.le_of_ble_eq_true rfl) dX1_follow_146 ⟨Nat.le_of_ble_eq_true rfl, Nat.le_of_ble_eq_true rfl⟩ (fun H locs hP hD hS => ?_)
    have hP : va_P D vwCl [(h0, .inr (1, [.ref h0_reached, .ref h0_known, .ref h0_numbers, .int v0_flowingKnown, .ref h0_flowing, .int v0_changed])), (h0_flowing, .inl (cI, 8, .inl f0_flowing)), (h0_known, .inl (cI, 24, .inl f0_known)), (h0_numbers, .inl (cI, 192, .inl f0_numbers)), (h0_reached, .inl (cZ, 24, .inl f0_reached)), (h1_a, .inl (cI, L1, .inl f1_a)), (h1_b, .inl (cI, L1, .inl f1_b)), (h1, .inr (5, [.ref h1_kind, .ref h1_d, .ref h1_a, .ref h1_b, .int v1_count])), (h1_d, .inl (cI, L1, .inl f1_d)), (h1_kind, .inl (cI, L1, .inl f1_kind))] H := hP
    have hD : va_D A [(h0, .inr (1, [.ref h0_reached, .ref h0_known, .ref h0_numbers, .int v0_flowingKnown, .ref h0_flowing, .int v0_changed])), (h0_flowing, .inl (cI, 8, .inl f0_flowing)), (h0_known, .inl (cI, 24, .inl f0_known)), (h0_numbers, .inl (cI, 192, .inl f0_numbers)), (h0_reached, .inl (cZ, 24, .inl f0_reached)), (h1_a, .inl (cI, L1, .inl f1_a)), (h1_b, .inl (cI, L1, .inl f1_b)), (h1, .inr (5, [.ref h1_kind, .ref h1_d, .ref h1_a, .ref h1_b, .int v1_count])), (h1_d, .inl (cI, L1, .inl f1_d)), (h1_kind, .inl (cI, L1, .inl f1_kind))] := hD
    obtain ⟨u3, g4, hf⟩ := bd_some hf
    refine g_callVv S (c_X1_flowTo l D cI cZ h0 h0_reached h0_known h0_numbers h0_flowing _ f0_flowing f0_known f0_numbers f0_reached v0_flowingKnown v0_changed n u1 u3 g4) (cwV 1 hts gX1_follow_X1_flowTo rfl rfl rfl (by decide +kernel) ⟨Nat.le_of_ble_eq_true rfl, Nat.le_of_ble_eq_true rfl⟩) hK hP hD hS hA 0 (ci := 1) rfl rfl [0, 1, 2, 3, 4] [5, 6, 7, 8, 9] [(h1_a, .inl (cI, L1, .inl f1_a)), (h1_b, .inl (cI, L1, .inl f1_b)), (h1, .inr (5, [.ref h1_kind, .ref h1_d, .ref h1_a, .ref h1_b, .int v1_count])), (h1_d, .inl (cI, L1, .inl f1_d)), (h1_kind, .inl (cI, L1, .inl f1_kind))] rfl rfl (by decide) (by decide) (by decide) rfl hl.1 rfl (Nat.le_of_ble_eq_true rfl) dX1_follow_149 ⟨Nat.le_of_ble_eq_true rfl, Nat.le_of_ble_eq_true rfl⟩ (fun H locs hP hD hS => ?_)
    have hP : va_P D vwCl [(h1_a, .inl (cI, L1, .inl f1_a)), (h1_b, .inl (cI, L1, .inl f1_b)), (h1, .inr (5, [.ref h1_kind, .ref h1_d, .ref h1_a, .ref h1_b, .int v1_count])), (h1_d, .inl (cI, L1, .inl f1_d)), (h1_kind, .inl (cI, L1, .inl f1_kind)), (h0, .inr (1, [.ref h0_reached, .ref h0_known, .ref h0_numbers, .int v0_flowingKnown, .ref h0_flowing, .int u3.2.2.2])), (h0_flowing, .inl (cI, 8, .inl f0_flowing)), (h0_known, .inl (cI, 24, .inl u3.1)), (h0_numbers, .inl (cI, 192, .inl u3.2.1)), (h0_reached, .inl (cZ, 24, .inl u3.2.2.1))] H := hP
    have hD : va_D A [(h1_a, .inl (cI, L1, .inl f1_a)), (h1_b, .inl (cI, L1, .inl f1_b)), (h1, .inr (5, [.ref h1_kind, .ref h1_d, .ref h1_a, .ref h1_b, .int v1_count])), (h1_d, .inl (cI, L1, .inl f1_d)), (h1_kind, .inl (cI, L1, .inl f1_kind)), (h0, .inr (1, [.ref h0_reached, .ref h0_known, .ref h0_numbers, .int v0_flowingKnown, .ref h0_flowing, .int u3.2.2.2])), (h0_flowing, .inl (cI, 8, .inl f0_flowing)), (h0_known, .inl (cI, 24, .inl u3.1)), (h0_numbers, .inl (cI, 192, .inl u3.2.1)), (h0_reached, .inl (cZ, 24, .inl u3.2.2.1))] := hD
    have hf := Option.some.inj hf
    subst hf
    exact g_vret hx hb hr hlocks (hP.sub [5, 6, 7, 8, 9, 2, 0, 1, 3, 4] rfl) (hD.sub [5, 6, 7, 8, 9, 2, 0, 1, 3, 4] (by decide) rfl) hK hS dX1_follow_152
  have hJ_124 : ∀ (f0_flowing : (Nat → Int32)) (f0_known : (Nat → Int32)) (f0_numbers : (Nat → Int32)) (f0_reached : (Nat → Int32)) (v0_flowingKnown : Int32) (v0_changed : Int32) (x2 x4 : Int32) (H : Heap) (locs : List Loc) (ls : Array Slot), f_X1_follow_124 n L1 f0_flowing f0_known f0_numbers f0_reached f1_a f1_b f1_d f1_kind v0_flowingKnown v0_changed v1_count x2 x4 = some res → va_P D vwCl [(h0, .inr (1, [.ref h0_reached, .ref h0_known, .ref h0_numbers, .int v0_flowingKnown, .ref h0_flowing, .int v0_changed])), (h0_flowing, .inl (cI, 8, .inl f0_flowing)), (h0_known, .inl (cI, 24, .inl f0_known)), (h0_numbers, .inl (cI, 192, .inl f0_numbers)), (h0_reached, .inl (cZ, 24, .inl f0_reached)), (h1, .inr (5, [.ref h1_kind, .ref h1_d, .ref h1_a, .ref h1_b, .int v1_count])), (h1_a, .inl (cI, L1, .inl f1_a)), (h1_b, .inl (cI, L1, .inl f1_b)), (h1_d, .inl (cI, L1, .inl f1_d)), (h1_kind, .inl (cI, L1, .inl f1_kind))] H → va_D A [(h0, .inr (1, [.ref h0_reached, .ref h0_known, .ref h0_numbers, .int v0_flowingKnown, .ref h0_flowing, .int v0_changed])), (h0_flowing, .inl (cI, 8, .inl f0_flowing)), (h0_known, .inl (cI, 24, .inl f0_known)), (h0_numbers, .inl (cI, 192, .inl f0_numbers)), (h0_reached, .inl (cZ, 24, .inl f0_reached)), (h1, .inr (5, [.ref h1_kind, .ref h1_d, .ref h1_a, .ref h1_b, .int v1_count])), (h1_a, .inl (cI, L1, .inl f1_a)), (h1_b, .inl (cI, L1, .inl f1_b)), (h1_d, .inl (cI, L1, .inl f1_d)), (h1_kind, .inl (cI, L1, .inl f1_kind))] → va_S A s.heap H locs → lv_has ls 5 [(0, .ref h0), (1, .ref h1), (2, .int x2), (4, .int x4)] → W p l e ({ frames := 4, cells := 0, slots := 0, locals := 91 }) s m args below meth c H locs 0 0 (MQ below (g_Qv D [(cI, .int), (cZ, .boolean)] A [(h0, .inr (1, [.ref h0_reached, .ref h0_known, .ref h0_numbers, .int res.2.2.2.2.1, .ref h0_flowing, .int res.2.2.2.2.2])), (h0_flowing, .inl (cI, 8, .inl res.1)), (h0_known, .inl (cI, 24, .inl res.2.1)), (h0_numbers, .inl (cI, 192, .inl res.2.2.1)), (h0_reached, .inl (cZ, 24, .inl res.2.2.2.1)), (h1, .inr (5, [.ref h1_kind, .ref h1_d, .ref h1_a, .ref h1_b, .int v1_count])), (h1_a, .inl (cI, L1, .inl f1_a)), (h1_b, .inl (cI, L1, .inl f1_b)), (h1_d, .inl (cI, L1, .inl f1_d)), (h1_kind, .inl (cI, L1, .inl f1_kind))]) args s 0 0 A) (F0 m 124 ls []) := by
    intro f0_flowing f0_known f0_numbers f0_reached v0_flowingKnown v0_changed x2 x4 H locs ls hf hP hD hS hl
    unfold f_X1_follow_124 at hf
    refine lv_iload hx hb dX1_follow_124 (lv_at hl 3 rfl) ?_
    refine lv_if_eq (tgt := 143) hx hb dX1_follow_126 (by decide) (fun c5 => ?_) (fun c5 => ?_)
    · have hf := ite_t hf c5
      exact hJ_143 _ _ _ _ _ _ _ _ _ ls hf (hP.sub [0, 1, 2, 3, 4, 5, 6, 7, 8, 9] rfl) (hD.sub [0, 1, 2, 3, 4, 5, 6, 7, 8, 9] (by decide) rfl) hS (lv_sub hl [0, 1, 2] rfl)
    · have hf := ite_e hf c5
      refine lv_aload_n hx hb dX1_follow_129 rfl (lv_at hl 0 rfl) ?_
      refine lv_iload_n hx hb dX1_follow_130 rfl (lv_at hl 2 rfl) ?_
      refine lv_aload_n hx hb dX1_follow_131 rfl (lv_at hl 1 rfl) ?_
      refine va_get (D := D) (ci := 5) (v := .ref h1_a) (C := RX6) (T := TX6) (N := 5) hx hb hts iw_X1_follow_X6 hown hK hP 5 rfl rfl 2 (by decide) fl_84 (fun _ h9 => h9) rfl dX1_follow_132 ?_
      refine lv_iload_n hx hb dX1_follow_135 rfl (lv_at hl 2 rfl) ?_
      obtain ⟨i6, hf⟩ := gd_some hf
      refine va_iald hx hb hK hP 6 0 rfl rfl i6 dX1_follow_136 ?_
      obtain ⟨u7, g8, hf⟩ := bd_some hf
      refine g_callVi S (c_X1_isZero l D cI cZ h0 h0_reached h0_known h0_numbers h0_flowing _ f0_known f0_numbers v0_flowingKnown v0_changed x2 (f1_a (x2).toNatClampNeg) u7 g8) (cwV 2 hts gX1_follow_X1_isZero rfl rfl rfl (by decide +kernel) ⟨Nat.le_of_ble_eq_true rfl, Nat.le_of_ble_eq_true rfl⟩) hK hP hD hS hA 0 (ci := 1) rfl rfl [0, 2, 3] [1, 4, 5, 6, 7, 8, 9] [(h0_flowing, .inl (cI, 8, .inl f0_flowing)), (h0_reached, .inl (cZ, 24, .inl f0_reached)), (h1, .inr (5, [.ref h1_kind, .ref h1_d, .ref h1_a, .ref h1_b, .int v1_count])), (h1_a, .inl (cI, L1, .inl f1_a)), (h1_b, .inl (cI, L1, .inl f1_b)), (h1_d, .inl (cI, L1, .inl f1_d)), (h1_kind, .inl (cI, L1, .inl f1_kind))] rfl rfl (by decide) (by decide) (by decide) rfl hl.1 rfl (Nat.le_of_ble_eq_true rfl) dX1_follow_137 ⟨Nat.le_of_ble_eq_true rfl, Nat.le_of_ble_eq_true rfl⟩ (fun H locs hP hD hS => ?_)
      have hP : va_P D vwCl [(h0_flowing, .inl (cI, 8, .inl f0_flowing)), (h0_reached, .inl (cZ, 24, .inl f0_reached)), (h1, .inr (5, [.ref h1_kind, .ref h1_d, .ref h1_a, .ref h1_b, .int v1_count])), (h1_a, .inl (cI, L1, .inl f1_a)), (h1_b, .inl (cI, L1, .inl f1_b)), (h1_d, .inl (cI, L1, .inl f1_d)), (h1_kind, .inl (cI, L1, .inl f1_kind)), (h0, .inr (1, [.ref h0_reached, .ref h0_known, .ref h0_numbers, .int v0_flowingKnown, .ref h0_flowing, .int v0_changed])), (h0_known, .inl (cI, 24, .inl f0_known)), (h0_numbers, .inl (cI, 192, .inl f0_numbers))] H := hP
      have hD : va_D A [(h0_flowing, .inl (cI, 8, .inl f0_flowing)), (h0_reached, .inl (cZ, 24, .inl f0_reached)), (h1, .inr (5, [.ref h1_kind, .ref h1_d, .ref h1_a, .ref h1_b, .int v1_count])), (h1_a, .inl (cI, L1, .inl f1_a)), (h1_b, .inl (cI, L1, .inl f1_b)), (h1_d, .inl (cI, L1, .inl f1_d)), (h1_kind, .inl (cI, L1, .inl f1_kind)), (h0, .inr (1, [.ref h0_reached, .ref h0_known, .ref h0_numbers, .int v0_flowingKnown, .ref h0_flowing, .int v0_changed])), (h0_known, .inl (cI, 24, .inl f0_known)), (h0_numbers, .inl (cI, 192, .inl f0_numbers))] := hD
      refine lv_if_eq (tgt := 152) hx hb dX1_follow_140 (by decide) (fun c9 => ?_) (fun c9 => ?_)
      · have hf := ite_t hf c9
        have hf := Option.some.inj hf
        subst hf
        exact g_vret hx hb hr hlocks (hP.sub [7, 0, 8, 9, 1, 2, 3, 4, 5, 6] rfl) (hD.sub [7, 0, 8, 9, 1, 2, 3, 4, 5, 6] (by decide) rfl) hK hS dX1_follow_152
      · have hf := ite_e hf c9
        exact hJ_143 _ _ _ _ _ _ _ _ _ ls hf (hP.sub [7, 0, 8, 9, 1, 2, 3, 4, 5, 6] rfl) (hD.sub [7, 0, 8, 9, 1, 2, 3, 4, 5, 6] (by decide) rfl) hS (lv_sub hl [0, 1, 2] rfl)
  have hJ_115 : ∀ (f0_flowing : (Nat → Int32)) (f0_known : (Nat → Int32)) (f0_numbers : (Nat → Int32)) (f0_reached : (Nat → Int32)) (v0_flowingKnown : Int32) (v0_changed : Int32) (x2 x4 : Int32) (H : Heap) (locs : List Loc) (ls : Array Slot), f_X1_follow_115 n L1 f0_flowing f0_known f0_numbers f0_reached f1_a f1_b f1_d f1_kind v0_flowingKnown v0_changed v1_count x2 x4 = some res → va_P D vwCl [(h0, .inr (1, [.ref h0_reached, .ref h0_known, .ref h0_numbers, .int v0_flowingKnown, .ref h0_flowing, .int v0_changed])), (h0_flowing, .inl (cI, 8, .inl f0_flowing)), (h0_known, .inl (cI, 24, .inl f0_known)), (h0_numbers, .inl (cI, 192, .inl f0_numbers)), (h0_reached, .inl (cZ, 24, .inl f0_reached)), (h1, .inr (5, [.ref h1_kind, .ref h1_d, .ref h1_a, .ref h1_b, .int v1_count])), (h1_a, .inl (cI, L1, .inl f1_a)), (h1_b, .inl (cI, L1, .inl f1_b)), (h1_d, .inl (cI, L1, .inl f1_d)), (h1_kind, .inl (cI, L1, .inl f1_kind))] H → va_D A [(h0, .inr (1, [.ref h0_reached, .ref h0_known, .ref h0_numbers, .int v0_flowingKnown, .ref h0_flowing, .int v0_changed])), (h0_flowing, .inl (cI, 8, .inl f0_flowing)), (h0_known, .inl (cI, 24, .inl f0_known)), (h0_numbers, .inl (cI, 192, .inl f0_numbers)), (h0_reached, .inl (cZ, 24, .inl f0_reached)), (h1, .inr (5, [.ref h1_kind, .ref h1_d, .ref h1_a, .ref h1_b, .int v1_count])), (h1_a, .inl (cI, L1, .inl f1_a)), (h1_b, .inl (cI, L1, .inl f1_b)), (h1_d, .inl (cI, L1, .inl f1_d)), (h1_kind, .inl (cI, L1, .inl f1_kind))] → va_S A s.heap H locs → lv_has ls 5 [(0, .ref h0), (1, .ref h1), (2, .int x2), (4, .int x4)] → W p l e ({ frames := 4, cells := 0, slots := 0, locals := 91 }) s m args below meth c H locs 0 0 (MQ below (g_Qv D [(cI, .int), (cZ, .boolean)] A [(h0, .inr (1, [.ref h0_reached, .ref h0_known, .ref h0_numbers, .int res.2.2.2.2.1, .ref h0_flowing, .int res.2.2.2.2.2])), (h0_flowing, .inl (cI, 8, .inl res.1)), (h0_known, .inl (cI, 24, .inl res.2.1)), (h0_numbers, .inl (cI, 192, .inl res.2.2.1)), (h0_reached, .inl (cZ, 24, .inl res.2.2.2.1)), (h1, .inr (5, [.ref h1_kind, .ref h1_d, .ref h1_a, .ref h1_b, .int v1_count])), (h1_a, .inl (cI, L1, .inl f1_a)), (h1_b, .inl (cI, L1, .inl f1_b)), (h1_d, .inl (cI, L1, .inl f1_d)), (h1_kind, .inl (cI, L1, .inl f1_kind))]) args s 0 0 A) (F0 m 115 ls []) := by
    intro f0_flowing f0_known f0_numbers f0_reached v0_flowingKnown v0_changed x2 x4 H locs ls hf hP hD hS hl
    unfold f_X1_follow_115 at hf
    refine lv_aload_n hx hb dX1_follow_115 rfl (lv_at hl 0 rfl) ?_
    refine lv_aload_n hx hb dX1_follow_116 rfl (lv_at hl 1 rfl) ?_
    refine lv_iload_n hx hb dX1_follow_117 rfl (lv_at hl 2 rfl) ?_
    obtain ⟨u10, g11, hf⟩ := bd_some hf
    refine g_callVi S (c_X6_follower l D cI cZ h1 h1_kind h1_d h1_a h1_b _ L1 f1_kind v1_count x2 u10 g11) (cwV 1 hts gX1_follow_X6_follower rfl rfl rfl (by decide +kernel) ⟨Nat.le_of_ble_eq_true rfl, Nat.le_of_ble_eq_true rfl⟩) hK hP hD hS hA 5 (ci := 5) rfl rfl [5, 9] [0, 1, 2, 3, 4, 6, 7, 8] [(h0, .inr (1, [.ref h0_reached, .ref h0_known, .ref h0_numbers, .int v0_flowingKnown, .ref h0_flowing, .int v0_changed])), (h0_flowing, .inl (cI, 8, .inl f0_flowing)), (h0_known, .inl (cI, 24, .inl f0_known)), (h0_numbers, .inl (cI, 192, .inl f0_numbers)), (h0_reached, .inl (cZ, 24, .inl f0_reached)), (h1_a, .inl (cI, L1, .inl f1_a)), (h1_b, .inl (cI, L1, .inl f1_b)), (h1_d, .inl (cI, L1, .inl f1_d))] rfl rfl (by decide) (by decide) (by decide) rfl hl.1 rfl (Nat.le_of_ble_eq_true rfl) dX1_follow_118 ⟨Nat.le_of_ble_eq_true rfl, Nat.le_of_ble_eq_true rfl⟩ (fun H locs hP hD hS => ?_)
    have hP : va_P D vwCl [(h0, .inr (1, [.ref h0_reached, .ref h0_known, .ref h0_numbers, .int v0_flowingKnown, .ref h0_flowing, .int v0_changed])), (h0_flowing, .inl (cI, 8, .inl f0_flowing)), (h0_known, .inl (cI, 24, .inl f0_known)), (h0_numbers, .inl (cI, 192, .inl f0_numbers)), (h0_reached, .inl (cZ, 24, .inl f0_reached)), (h1_a, .inl (cI, L1, .inl f1_a)), (h1_b, .inl (cI, L1, .inl f1_b)), (h1_d, .inl (cI, L1, .inl f1_d)), (h1, .inr (5, [.ref h1_kind, .ref h1_d, .ref h1_a, .ref h1_b, .int v1_count])), (h1_kind, .inl (cI, L1, .inl f1_kind))] H := hP
    have hD : va_D A [(h0, .inr (1, [.ref h0_reached, .ref h0_known, .ref h0_numbers, .int v0_flowingKnown, .ref h0_flowing, .int v0_changed])), (h0_flowing, .inl (cI, 8, .inl f0_flowing)), (h0_known, .inl (cI, 24, .inl f0_known)), (h0_numbers, .inl (cI, 192, .inl f0_numbers)), (h0_reached, .inl (cZ, 24, .inl f0_reached)), (h1_a, .inl (cI, L1, .inl f1_a)), (h1_b, .inl (cI, L1, .inl f1_b)), (h1_d, .inl (cI, L1, .inl f1_d)), (h1, .inr (5, [.ref h1_kind, .ref h1_d, .ref h1_a, .ref h1_b, .int v1_count])), (h1_kind, .inl (cI, L1, .inl f1_kind))] := hD
    obtain ⟨u12, g13, hf⟩ := bd_some hf
    refine g_callVv S (c_X1_flowTo l D cI cZ h0 h0_reached h0_known h0_numbers h0_flowing _ f0_flowing f0_known f0_numbers f0_reached v0_flowingKnown v0_changed n u10 u12 g13) (cwV 1 hts gX1_follow_X1_flowTo rfl rfl rfl (by decide +kernel) ⟨Nat.le_of_ble_eq_true rfl, Nat.le_of_ble_eq_true rfl⟩) hK hP hD hS hA 0 (ci := 1) rfl rfl [0, 1, 2, 3, 4] [5, 6, 7, 8, 9] [(h1_a, .inl (cI, L1, .inl f1_a)), (h1_b, .inl (cI, L1, .inl f1_b)), (h1_d, .inl (cI, L1, .inl f1_d)), (h1, .inr (5, [.ref h1_kind, .ref h1_d, .ref h1_a, .ref h1_b, .int v1_count])), (h1_kind, .inl (cI, L1, .inl f1_kind))] rfl rfl (by decide) (by decide) (by decide) rfl hl.1 rfl (Nat.le_of_ble_eq_true rfl) dX1_follow_121 ⟨Nat.le_of_ble_eq_true rfl, Nat.le_of_ble_eq_true rfl⟩ (fun H locs hP hD hS => ?_)
    have hP : va_P D vwCl [(h1_a, .inl (cI, L1, .inl f1_a)), (h1_b, .inl (cI, L1, .inl f1_b)), (h1_d, .inl (cI, L1, .inl f1_d)), (h1, .inr (5, [.ref h1_kind, .ref h1_d, .ref h1_a, .ref h1_b, .int v1_count])), (h1_kind, .inl (cI, L1, .inl f1_kind)), (h0, .inr (1, [.ref h0_reached, .ref h0_known, .ref h0_numbers, .int v0_flowingKnown, .ref h0_flowing, .int u12.2.2.2])), (h0_flowing, .inl (cI, 8, .inl f0_flowing)), (h0_known, .inl (cI, 24, .inl u12.1)), (h0_numbers, .inl (cI, 192, .inl u12.2.1)), (h0_reached, .inl (cZ, 24, .inl u12.2.2.1))] H := hP
    have hD : va_D A [(h1_a, .inl (cI, L1, .inl f1_a)), (h1_b, .inl (cI, L1, .inl f1_b)), (h1_d, .inl (cI, L1, .inl f1_d)), (h1, .inr (5, [.ref h1_kind, .ref h1_d, .ref h1_a, .ref h1_b, .int v1_count])), (h1_kind, .inl (cI, L1, .inl f1_kind)), (h0, .inr (1, [.ref h0_reached, .ref h0_known, .ref h0_numbers, .int v0_flowingKnown, .ref h0_flowing, .int u12.2.2.2])), (h0_flowing, .inl (cI, 8, .inl f0_flowing)), (h0_known, .inl (cI, 24, .inl u12.1)), (h0_numbers, .inl (cI, 192, .inl u12.2.1)), (h0_reached, .inl (cZ, 24, .inl u12.2.2.1))] := hD
    exact hJ_124 _ _ _ _ _ _ _ _ _ _ ls hf (hP.sub [5, 6, 7, 8, 9, 3, 0, 1, 2, 4] rfl) (hD.sub [5, 6, 7, 8, 9, 3, 0, 1, 2, 4] (by decide) rfl) hS (lv_sub hl [0, 1, 2, 3] rfl)
  have hJ_94 : ∀ (f0_flowing : (Nat → Int32)) (f0_known : (Nat → Int32)) (f0_numbers : (Nat → Int32)) (f0_reached : (Nat → Int32)) (v0_flowingKnown : Int32) (v0_changed : Int32) (x2 t0 : Int32) (H : Heap) (locs : List Loc) (ls : Array Slot), f_X1_follow_94 n L1 f0_flowing f0_known f0_numbers f0_reached f1_a f1_b f1_d f1_kind v0_flowingKnown v0_changed v1_count x2 t0 = some res → va_P D vwCl [(h0, .inr (1, [.ref h0_reached, .ref h0_known, .ref h0_numbers, .int v0_flowingKnown, .ref h0_flowing, .int v0_changed])), (h0_flowing, .inl (cI, 8, .inl f0_flowing)), (h0_known, .inl (cI, 24, .inl f0_known)), (h0_numbers, .inl (cI, 192, .inl f0_numbers)), (h0_reached, .inl (cZ, 24, .inl f0_reached)), (h1, .inr (5, [.ref h1_kind, .ref h1_d, .ref h1_a, .ref h1_b, .int v1_count])), (h1_a, .inl (cI, L1, .inl f1_a)), (h1_b, .inl (cI, L1, .inl f1_b)), (h1_d, .inl (cI, L1, .inl f1_d)), (h1_kind, .inl (cI, L1, .inl f1_kind))] H → va_D A [(h0, .inr (1, [.ref h0_reached, .ref h0_known, .ref h0_numbers, .int v0_flowingKnown, .ref h0_flowing, .int v0_changed])), (h0_flowing, .inl (cI, 8, .inl f0_flowing)), (h0_known, .inl (cI, 24, .inl f0_known)), (h0_numbers, .inl (cI, 192, .inl f0_numbers)), (h0_reached, .inl (cZ, 24, .inl f0_reached)), (h1, .inr (5, [.ref h1_kind, .ref h1_d, .ref h1_a, .ref h1_b, .int v1_count])), (h1_a, .inl (cI, L1, .inl f1_a)), (h1_b, .inl (cI, L1, .inl f1_b)), (h1_d, .inl (cI, L1, .inl f1_d)), (h1_kind, .inl (cI, L1, .inl f1_kind))] → va_S A s.heap H locs → lv_has ls 5 [(0, .ref h0), (1, .ref h1), (2, .int x2)] → W p l e ({ frames := 4, cells := 0, slots := 0, locals := 91 }) s m args below meth c H locs 0 0 (MQ below (g_Qv D [(cI, .int), (cZ, .boolean)] A [(h0, .inr (1, [.ref h0_reached, .ref h0_known, .ref h0_numbers, .int res.2.2.2.2.1, .ref h0_flowing, .int res.2.2.2.2.2])), (h0_flowing, .inl (cI, 8, .inl res.1)), (h0_known, .inl (cI, 24, .inl res.2.1)), (h0_numbers, .inl (cI, 192, .inl res.2.2.1)), (h0_reached, .inl (cZ, 24, .inl res.2.2.2.1)), (h1, .inr (5, [.ref h1_kind, .ref h1_d, .ref h1_a, .ref h1_b, .int v1_count])), (h1_a, .inl (cI, L1, .inl f1_a)), (h1_b, .inl (cI, L1, .inl f1_b)), (h1_d, .inl (cI, L1, .inl f1_d)), (h1_kind, .inl (cI, L1, .inl f1_kind))]) args s 0 0 A) (F0 m 94 ls [.int t0]) := by
    intro f0_flowing f0_known f0_numbers f0_reached v0_flowingKnown v0_changed x2 t0 H locs ls hf hP hD hS hl
    unfold f_X1_follow_94 at hf
    refine lv_istore (lv' := [(4, .int t0), (0, .ref h0), (1, .ref h1), (2, .int x2)]) hx hb dX1_follow_94 hl (by decide) rfl (fun ls hl => ?_)
    refine lv_iload hx hb dX1_follow_96 (lv_at hl 0 rfl) ?_
    refine lv_if_eq (tgt := 115) hx hb dX1_follow_98 (by decide) (fun c14 => ?_) (fun c14 => ?_)
    · have hf := ite_t hf c14
      exact hJ_115 _ _ _ _ _ _ _ _ _ _ ls hf (hP.sub [0, 1, 2, 3, 4, 5, 6, 7, 8, 9] rfl) (hD.sub [0, 1, 2, 3, 4, 5, 6, 7, 8, 9] (by decide) rfl) hS (lv_sub hl [1, 2, 3, 0] rfl)
    · have hf := ite_e hf c14
      refine lv_aload_n hx hb dX1_follow_101 rfl (lv_at hl 1 rfl) ?_
      refine lv_iload_n hx hb dX1_follow_102 rfl (lv_at hl 3 rfl) ?_
      refine lv_aload_n hx hb dX1_follow_103 rfl (lv_at hl 2 rfl) ?_
      refine va_get (D := D) (ci := 5) (v := .ref h1_a) (C := RX6) (T := TX6) (N := 5) hx hb hts iw_X1_follow_X6 hown hK hP 5 rfl rfl 2 (by decide) fl_84 (fun _ h9 => h9) rfl dX1_follow_104 ?_
      refine lv_iload_n hx hb dX1_follow_107 rfl (lv_at hl 3 rfl) ?_
      obtain ⟨i15, hf⟩ := gd_some hf
      refine va_iald hx hb hK hP 6 0 rfl rfl i15 dX1_follow_108 ?_
      obtain ⟨u16, g17, hf⟩ := bd_some hf
      refine g_callVi S (c_X1_isZero l D cI cZ h0 h0_reached h0_known h0_numbers h0_flowing _ f0_known f0_numbers v0_flowingKnown v0_changed x2 (f1_a (x2).toNatClampNeg) u16 g17) (cwV 2 hts gX1_follow_X1_isZero rfl rfl rfl (by decide +kernel) ⟨Nat.le_of_ble_eq_true rfl, Nat.le_of_ble_eq_true rfl⟩) hK hP hD hS hA 0 (ci := 1) rfl rfl [0, 2, 3] [1, 4, 5, 6, 7, 8, 9] [(h0_flowing, .inl (cI, 8, .inl f0_flowing)), (h0_reached, .inl (cZ, 24, .inl f0_reached)), (h1, .inr (5, [.ref h1_kind, .ref h1_d, .ref h1_a, .ref h1_b, .int v1_count])), (h1_a, .inl (cI, L1, .inl f1_a)), (h1_b, .inl (cI, L1, .inl f1_b)), (h1_d, .inl (cI, L1, .inl f1_d)), (h1_kind, .inl (cI, L1, .inl f1_kind))] rfl rfl (by decide) (by decide) (by decide) rfl hl.1 rfl (Nat.le_of_ble_eq_true rfl) dX1_follow_109 ⟨Nat.le_of_ble_eq_true rfl, Nat.le_of_ble_eq_true rfl⟩ (fun H locs hP hD hS => ?_)
      have hP : va_P D vwCl [(h0_flowing, .inl (cI, 8, .inl f0_flowing)), (h0_reached, .inl (cZ, 24, .inl f0_reached)), (h1, .inr (5, [.ref h1_kind, .ref h1_d, .ref h1_a, .ref h1_b, .int v1_count])), (h1_a, .inl (cI, L1, .inl f1_a)), (h1_b, .inl (cI, L1, .inl f1_b)), (h1_d, .inl (cI, L1, .inl f1_d)), (h1_kind, .inl (cI, L1, .inl f1_kind)), (h0, .inr (1, [.ref h0_reached, .ref h0_known, .ref h0_numbers, .int v0_flowingKnown, .ref h0_flowing, .int v0_changed])), (h0_known, .inl (cI, 24, .inl f0_known)), (h0_numbers, .inl (cI, 192, .inl f0_numbers))] H := hP
      have hD : va_D A [(h0_flowing, .inl (cI, 8, .inl f0_flowing)), (h0_reached, .inl (cZ, 24, .inl f0_reached)), (h1, .inr (5, [.ref h1_kind, .ref h1_d, .ref h1_a, .ref h1_b, .int v1_count])), (h1_a, .inl (cI, L1, .inl f1_a)), (h1_b, .inl (cI, L1, .inl f1_b)), (h1_d, .inl (cI, L1, .inl f1_d)), (h1_kind, .inl (cI, L1, .inl f1_kind)), (h0, .inr (1, [.ref h0_reached, .ref h0_known, .ref h0_numbers, .int v0_flowingKnown, .ref h0_flowing, .int v0_changed])), (h0_known, .inl (cI, 24, .inl f0_known)), (h0_numbers, .inl (cI, 192, .inl f0_numbers))] := hD
      refine lv_if_ne (tgt := 124) hx hb dX1_follow_112 (by decide) (fun c18 => ?_) (fun c18 => ?_)
      · have hf := ite_e hf c18
        exact hJ_124 _ _ _ _ _ _ _ _ _ _ ls hf (hP.sub [7, 0, 8, 9, 1, 2, 3, 4, 5, 6] rfl) (hD.sub [7, 0, 8, 9, 1, 2, 3, 4, 5, 6] (by decide) rfl) hS (lv_sub hl [1, 2, 3, 0] rfl)
      · have hf := ite_t hf c18
        exact hJ_115 _ _ _ _ _ _ _ _ _ _ ls hf (hP.sub [7, 0, 8, 9, 1, 2, 3, 4, 5, 6] rfl) (hD.sub [7, 0, 8, 9, 1, 2, 3, 4, 5, 6] (by decide) rfl) hS (lv_sub hl [1, 2, 3, 0] rfl)
  have hJ_69 : ∀ (f0_flowing : (Nat → Int32)) (f0_known : (Nat → Int32)) (f0_numbers : (Nat → Int32)) (f0_reached : (Nat → Int32)) (v0_flowingKnown : Int32) (v0_changed : Int32) (x2 x3 : Int32) (H : Heap) (locs : List Loc) (ls : Array Slot), f_X1_follow_69 n L1 f0_flowing f0_known f0_numbers f0_reached f1_a f1_b f1_d f1_kind v0_flowingKnown v0_changed v1_count x2 x3 = some res → va_P D vwCl [(h0, .inr (1, [.ref h0_reached, .ref h0_known, .ref h0_numbers, .int v0_flowingKnown, .ref h0_flowing, .int v0_changed])), (h0_flowing, .inl (cI, 8, .inl f0_flowing)), (h0_known, .inl (cI, 24, .inl f0_known)), (h0_numbers, .inl (cI, 192, .inl f0_numbers)), (h0_reached, .inl (cZ, 24, .inl f0_reached)), (h1, .inr (5, [.ref h1_kind, .ref h1_d, .ref h1_a, .ref h1_b, .int v1_count])), (h1_a, .inl (cI, L1, .inl f1_a)), (h1_b, .inl (cI, L1, .inl f1_b)), (h1_d, .inl (cI, L1, .inl f1_d)), (h1_kind, .inl (cI, L1, .inl f1_kind))] H → va_D A [(h0, .inr (1, [.ref h0_reached, .ref h0_known, .ref h0_numbers, .int v0_flowingKnown, .ref h0_flowing, .int v0_changed])), (h0_flowing, .inl (cI, 8, .inl f0_flowing)), (h0_known, .inl (cI, 24, .inl f0_known)), (h0_numbers, .inl (cI, 192, .inl f0_numbers)), (h0_reached, .inl (cZ, 24, .inl f0_reached)), (h1, .inr (5, [.ref h1_kind, .ref h1_d, .ref h1_a, .ref h1_b, .int v1_count])), (h1_a, .inl (cI, L1, .inl f1_a)), (h1_b, .inl (cI, L1, .inl f1_b)), (h1_d, .inl (cI, L1, .inl f1_d)), (h1_kind, .inl (cI, L1, .inl f1_kind))] → va_S A s.heap H locs → lv_has ls 5 [(0, .ref h0), (1, .ref h1), (2, .int x2), (3, .int x3)] → W p l e ({ frames := 4, cells := 0, slots := 0, locals := 91 }) s m args below meth c H locs 0 0 (MQ below (g_Qv D [(cI, .int), (cZ, .boolean)] A [(h0, .inr (1, [.ref h0_reached, .ref h0_known, .ref h0_numbers, .int res.2.2.2.2.1, .ref h0_flowing, .int res.2.2.2.2.2])), (h0_flowing, .inl (cI, 8, .inl res.1)), (h0_known, .inl (cI, 24, .inl res.2.1)), (h0_numbers, .inl (cI, 192, .inl res.2.2.1)), (h0_reached, .inl (cZ, 24, .inl res.2.2.2.1)), (h1, .inr (5, [.ref h1_kind, .ref h1_d, .ref h1_a, .ref h1_b, .int v1_count])), (h1_a, .inl (cI, L1, .inl f1_a)), (h1_b, .inl (cI, L1, .inl f1_b)), (h1_d, .inl (cI, L1, .inl f1_d)), (h1_kind, .inl (cI, L1, .inl f1_kind))]) args s 0 0 A) (F0 m 69 ls []) := by
    intro f0_flowing f0_known f0_numbers f0_reached v0_flowingKnown v0_changed x2 x3 H locs ls hf hP hD hS hl
    unfold f_X1_follow_69 at hf
    refine lv_iload_n hx hb dX1_follow_69 rfl (lv_at hl 3 rfl) ?_
    refine lv_bipush (v := (10 : Int32)) hx hb dX1_follow_70 (by decide +kernel) ?_
    refine lv_icmp_ne (tgt := 93) hx hb dX1_follow_72 (by decide) (fun c19 => ?_) (fun c19 => ?_)
    · have hf := ite_e hf c19
      refine lv_iconst (v := (0 : Int32)) hx hb dX1_follow_93 (by decide) ?_
      exact hJ_94 _ _ _ _ _ _ _ _ _ _ ls hf (hP.sub [0, 1, 2, 3, 4, 5, 6, 7, 8, 9] rfl) (hD.sub [0, 1, 2, 3, 4, 5, 6, 7, 8, 9] (by decide) rfl) hS (lv_sub hl [0, 1, 2] rfl)
    · have hf := ite_t hf c19
      refine lv_aload_n hx hb dX1_follow_75 rfl (lv_at hl 0 rfl) ?_
      refine lv_iload_n hx hb dX1_follow_76 rfl (lv_at hl 2 rfl) ?_
      refine lv_aload_n hx hb dX1_follow_77 rfl (lv_at hl 1 rfl) ?_
      refine va_get (D := D) (ci := 5) (v := .ref h1_a) (C := RX6) (T := TX6) (N := 5) hx hb hts iw_X1_follow_X6 hown hK hP 5 rfl rfl 2 (by decide) fl_84 (fun _ h9 => h9) rfl dX1_follow_78 ?_
      refine lv_iload_n hx hb dX1_follow_81 rfl (lv_at hl 2 rfl) ?_
      obtain ⟨i20, hf⟩ := gd_some hf
      refine va_iald hx hb hK hP 6 0 rfl rfl i20 dX1_follow_82 ?_
      obtain ⟨u21, g22, hf⟩ := bd_some hf
      refine g_callVi S (c_X1_knows l D cI cZ h0 h0_reached h0_known h0_numbers h0_flowing _ f0_known v0_flowingKnown v0_changed x2 (f1_a (x2).toNatClampNeg) u21 g22) (cwV 2 hts gX1_follow_X1_knows rfl rfl rfl (by decide +kernel) ⟨Nat.le_of_ble_eq_true rfl, Nat.le_of_ble_eq_true rfl⟩) hK hP hD hS hA 0 (ci := 1) rfl rfl [0, 2] [1, 3, 4, 5, 6, 7, 8, 9] [(h0_flowing, .inl (cI, 8, .inl f0_flowing)), (h0_numbers, .inl (cI, 192, .inl f0_numbers)), (h0_reached, .inl (cZ, 24, .inl f0_reached)), (h1, .inr (5, [.ref h1_kind, .ref h1_d, .ref h1_a, .ref h1_b, .int v1_count])), (h1_a, .inl (cI, L1, .inl f1_a)), (h1_b, .inl (cI, L1, .inl f1_b)), (h1_d, .inl (cI, L1, .inl f1_d)), (h1_kind, .inl (cI, L1, .inl f1_kind))] rfl rfl (by decide) (by decide) (by decide) rfl hl.1 rfl (Nat.le_of_ble_eq_true rfl) dX1_follow_83 ⟨Nat.le_of_ble_eq_true rfl, Nat.le_of_ble_eq_true rfl⟩ (fun H locs hP hD hS => ?_)
      have hP : va_P D vwCl [(h0_flowing, .inl (cI, 8, .inl f0_flowing)), (h0_numbers, .inl (cI, 192, .inl f0_numbers)), (h0_reached, .inl (cZ, 24, .inl f0_reached)), (h1, .inr (5, [.ref h1_kind, .ref h1_d, .ref h1_a, .ref h1_b, .int v1_count])), (h1_a, .inl (cI, L1, .inl f1_a)), (h1_b, .inl (cI, L1, .inl f1_b)), (h1_d, .inl (cI, L1, .inl f1_d)), (h1_kind, .inl (cI, L1, .inl f1_kind)), (h0, .inr (1, [.ref h0_reached, .ref h0_known, .ref h0_numbers, .int v0_flowingKnown, .ref h0_flowing, .int v0_changed])), (h0_known, .inl (cI, 24, .inl f0_known))] H := hP
      have hD : va_D A [(h0_flowing, .inl (cI, 8, .inl f0_flowing)), (h0_numbers, .inl (cI, 192, .inl f0_numbers)), (h0_reached, .inl (cZ, 24, .inl f0_reached)), (h1, .inr (5, [.ref h1_kind, .ref h1_d, .ref h1_a, .ref h1_b, .int v1_count])), (h1_a, .inl (cI, L1, .inl f1_a)), (h1_b, .inl (cI, L1, .inl f1_b)), (h1_d, .inl (cI, L1, .inl f1_d)), (h1_kind, .inl (cI, L1, .inl f1_kind)), (h0, .inr (1, [.ref h0_reached, .ref h0_known, .ref h0_numbers, .int v0_flowingKnown, .ref h0_flowing, .int v0_changed])), (h0_known, .inl (cI, 24, .inl f0_known))] := hD
      refine lv_if_eq (tgt := 93) hx hb dX1_follow_86 (by decide) (fun c23 => ?_) (fun c23 => ?_)
      · have hf := ite_t hf c23
        refine lv_iconst (v := (0 : Int32)) hx hb dX1_follow_93 (by decide) ?_
        exact hJ_94 _ _ _ _ _ _ _ _ _ _ ls hf (hP.sub [8, 0, 9, 1, 2, 3, 4, 5, 6, 7] rfl) (hD.sub [8, 0, 9, 1, 2, 3, 4, 5, 6, 7] (by decide) rfl) hS (lv_sub hl [0, 1, 2] rfl)
      · have hf := ite_e hf c23
        refine lv_iconst (v := (1 : Int32)) hx hb dX1_follow_89 (by decide) ?_
        refine lv_goto (tgt := 94) hx hb dX1_follow_90 (by decide) ?_
        exact hJ_94 _ _ _ _ _ _ _ _ _ _ ls hf (hP.sub [8, 0, 9, 1, 2, 3, 4, 5, 6, 7] rfl) (hD.sub [8, 0, 9, 1, 2, 3, 4, 5, 6, 7] (by decide) rfl) hS (lv_sub hl [0, 1, 2] rfl)
  have hJ_28 : ∀ (f0_flowing : (Nat → Int32)) (f0_known : (Nat → Int32)) (f0_numbers : (Nat → Int32)) (f0_reached : (Nat → Int32)) (v0_flowingKnown : Int32) (v0_changed : Int32) (x2 x3 : Int32) (H : Heap) (locs : List Loc) (ls : Array Slot), f_X1_follow_28 n L1 f0_flowing f0_known f0_numbers f0_reached f1_a f1_b f1_d f1_kind v0_flowingKnown v0_changed v1_count x2 x3 = some res → va_P D vwCl [(h0, .inr (1, [.ref h0_reached, .ref h0_known, .ref h0_numbers, .int v0_flowingKnown, .ref h0_flowing, .int v0_changed])), (h0_flowing, .inl (cI, 8, .inl f0_flowing)), (h0_known, .inl (cI, 24, .inl f0_known)), (h0_numbers, .inl (cI, 192, .inl f0_numbers)), (h0_reached, .inl (cZ, 24, .inl f0_reached)), (h1, .inr (5, [.ref h1_kind, .ref h1_d, .ref h1_a, .ref h1_b, .int v1_count])), (h1_a, .inl (cI, L1, .inl f1_a)), (h1_b, .inl (cI, L1, .inl f1_b)), (h1_d, .inl (cI, L1, .inl f1_d)), (h1_kind, .inl (cI, L1, .inl f1_kind))] H → va_D A [(h0, .inr (1, [.ref h0_reached, .ref h0_known, .ref h0_numbers, .int v0_flowingKnown, .ref h0_flowing, .int v0_changed])), (h0_flowing, .inl (cI, 8, .inl f0_flowing)), (h0_known, .inl (cI, 24, .inl f0_known)), (h0_numbers, .inl (cI, 192, .inl f0_numbers)), (h0_reached, .inl (cZ, 24, .inl f0_reached)), (h1, .inr (5, [.ref h1_kind, .ref h1_d, .ref h1_a, .ref h1_b, .int v1_count])), (h1_a, .inl (cI, L1, .inl f1_a)), (h1_b, .inl (cI, L1, .inl f1_b)), (h1_d, .inl (cI, L1, .inl f1_d)), (h1_kind, .inl (cI, L1, .inl f1_kind))] → va_S A s.heap H locs → lv_has ls 5 [(0, .ref h0), (1, .ref h1), (2, .int x2), (3, .int x3)] → W p l e ({ frames := 4, cells := 0, slots := 0, locals := 91 }) s m args below meth c H locs 0 0 (MQ below (g_Qv D [(cI, .int), (cZ, .boolean)] A [(h0, .inr (1, [.ref h0_reached, .ref h0_known, .ref h0_numbers, .int res.2.2.2.2.1, .ref h0_flowing, .int res.2.2.2.2.2])), (h0_flowing, .inl (cI, 8, .inl res.1)), (h0_known, .inl (cI, 24, .inl res.2.1)), (h0_numbers, .inl (cI, 192, .inl res.2.2.1)), (h0_reached, .inl (cZ, 24, .inl res.2.2.2.1)), (h1, .inr (5, [.ref h1_kind, .ref h1_d, .ref h1_a, .ref h1_b, .int v1_count])), (h1_a, .inl (cI, L1, .inl f1_a)), (h1_b, .inl (cI, L1, .inl f1_b)), (h1_d, .inl (cI, L1, .inl f1_d)), (h1_kind, .inl (cI, L1, .inl f1_kind))]) args s 0 0 A) (F0 m 28 ls []) := by
    intro f0_flowing f0_known f0_numbers f0_reached v0_flowingKnown v0_changed x2 x3 H locs ls hf hP hD hS hl
    unfold f_X1_follow_28 at hf
    refine lv_aload_n hx hb dX1_follow_28 rfl (lv_at hl 0 rfl) ?_
    refine va_get (D := D) (ci := 1) (v := .ref h0_numbers) (C := RX1) (T := TX1) (N := 6) hx hb hts iw_X1_follow_X1 hown hK hP 0 rfl rfl 2 (by decide) fl_19 (fun _ h9 => h9) rfl dX1_follow_29 ?_
    refine lv_iload_n hx hb dX1_follow_32 rfl (lv_at hl 2 rfl) ?_
    refine lv_bipush (v := (8 : Int32)) hx hb dX1_follow_33 (by decide +kernel) ?_
    refine lv_imul hx hb dX1_follow_35 ?_
    refine lv_aload_n hx hb dX1_follow_36 rfl (lv_at hl 0 rfl) ?_
    refine va_get (D := D) (ci := 1) (v := .ref h0_flowing) (C := RX1) (T := TX1) (N := 6) hx hb hts iw_X1_follow_X1 hown hK hP 0 rfl rfl 4 (by decide) fl_26 (fun _ h9 => h9) rfl dX1_follow_37 ?_
    refine lv_iconst (v := (0 : Int32)) hx hb dX1_follow_40 (by decide) ?_
    refine lv_bipush (v := (8 : Int32)) hx hb dX1_follow_41 (by decide +kernel) ?_
    obtain ⟨i24, hf⟩ := gc_some hf
    refine va_copyi hx hb (hml.trans hl.1.symm) hown ac_l ac_n ac_s ac_i hK hP hD hS 3 1 0 0 rfl rfl rfl rfl rfl i24.1 i24.2.1 i24.2.2.1 i24.2.2.2.1 i24.2.2.2.2 (fun _ _ => rfl) (Nat.le_of_ble_eq_true rfl) (by decide +kernel) dX1_follow_43 (fun H locs hP hD hS => ?_)
    have hP : va_P D vwCl [(h0, .inr (1, [.ref h0_reached, .ref h0_known, .ref h0_numbers, .int v0_flowingKnown, .ref h0_flowing, .int v0_changed])), (h0_flowing, .inl (cI, 8, .inl (va_cpy f0_numbers f0_flowing ((x2 * (8 : Int32))).toNatClampNeg ((0 : Int32)).toNatClampNeg ((8 : Int32)).toNatClampNeg))), (h0_known, .inl (cI, 24, .inl f0_known)), (h0_numbers, .inl (cI, 192, .inl f0_numbers)), (h0_reached, .inl (cZ, 24, .inl f0_reached)), (h1, .inr (5, [.ref h1_kind, .ref h1_d, .ref h1_a, .ref h1_b, .int v1_count])), (h1_a, .inl (cI, L1, .inl f1_a)), (h1_b, .inl (cI, L1, .inl f1_b)), (h1_d, .inl (cI, L1, .inl f1_d)), (h1_kind, .inl (cI, L1, .inl f1_kind))] H := hP
    have hD : va_D A [(h0, .inr (1, [.ref h0_reached, .ref h0_known, .ref h0_numbers, .int v0_flowingKnown, .ref h0_flowing, .int v0_changed])), (h0_flowing, .inl (cI, 8, .inl (va_cpy f0_numbers f0_flowing ((x2 * (8 : Int32))).toNatClampNeg ((0 : Int32)).toNatClampNeg ((8 : Int32)).toNatClampNeg))), (h0_known, .inl (cI, 24, .inl f0_known)), (h0_numbers, .inl (cI, 192, .inl f0_numbers)), (h0_reached, .inl (cZ, 24, .inl f0_reached)), (h1, .inr (5, [.ref h1_kind, .ref h1_d, .ref h1_a, .ref h1_b, .int v1_count])), (h1_a, .inl (cI, L1, .inl f1_a)), (h1_b, .inl (cI, L1, .inl f1_b)), (h1_d, .inl (cI, L1, .inl f1_d)), (h1_kind, .inl (cI, L1, .inl f1_kind))] := hD
    refine lv_aload_n hx hb dX1_follow_46 rfl (lv_at hl 0 rfl) ?_
    refine lv_aload_n hx hb dX1_follow_47 rfl (lv_at hl 0 rfl) ?_
    refine va_get (D := D) (ci := 1) (v := .ref h0_known) (C := RX1) (T := TX1) (N := 6) hx hb hts iw_X1_follow_X1 hown hK hP 0 rfl rfl 1 (by decide) fl_15 (fun _ h9 => h9) rfl dX1_follow_48 ?_
    refine lv_iload_n hx hb dX1_follow_51 rfl (lv_at hl 2 rfl) ?_
    obtain ⟨i25, hf⟩ := gd_some hf
    refine va_iald hx hb hK hP 2 0 rfl rfl i25 dX1_follow_52 ?_
    refine va_put (D := D) (ci := 1) (v := .int (f0_known (x2).toNatClampNeg)) (ty := .int) (C := RX1) (T := TX1) (N := 6) hx hb hts iw_X1_follow_X1 tyX1 tyX1_ok nmX1 hown hK hP hD hS 0 rfl rfl 3 (by decide) fl_22 (fun _ h9 => h9) rfl (by decide +kernel) rfl rfl (Nat.le_of_ble_eq_true rfl) dX1_follow_53 (fun H locs hP hD hS => ?_)
    have hP : va_P D vwCl [(h0, .inr (1, [.ref h0_reached, .ref h0_known, .ref h0_numbers, .int (f0_known (x2).toNatClampNeg), .ref h0_flowing, .int v0_changed])), (h0_flowing, .inl (cI, 8, .inl (va_cpy f0_numbers f0_flowing ((x2 * (8 : Int32))).toNatClampNeg ((0 : Int32)).toNatClampNeg ((8 : Int32)).toNatClampNeg))), (h0_known, .inl (cI, 24, .inl f0_known)), (h0_numbers, .inl (cI, 192, .inl f0_numbers)), (h0_reached, .inl (cZ, 24, .inl f0_reached)), (h1, .inr (5, [.ref h1_kind, .ref h1_d, .ref h1_a, .ref h1_b, .int v1_count])), (h1_a, .inl (cI, L1, .inl f1_a)), (h1_b, .inl (cI, L1, .inl f1_b)), (h1_d, .inl (cI, L1, .inl f1_d)), (h1_kind, .inl (cI, L1, .inl f1_kind))] H := hP
    have hD : va_D A [(h0, .inr (1, [.ref h0_reached, .ref h0_known, .ref h0_numbers, .int (f0_known (x2).toNatClampNeg), .ref h0_flowing, .int v0_changed])), (h0_flowing, .inl (cI, 8, .inl (va_cpy f0_numbers f0_flowing ((x2 * (8 : Int32))).toNatClampNeg ((0 : Int32)).toNatClampNeg ((8 : Int32)).toNatClampNeg))), (h0_known, .inl (cI, 24, .inl f0_known)), (h0_numbers, .inl (cI, 192, .inl f0_numbers)), (h0_reached, .inl (cZ, 24, .inl f0_reached)), (h1, .inr (5, [.ref h1_kind, .ref h1_d, .ref h1_a, .ref h1_b, .int v1_count])), (h1_a, .inl (cI, L1, .inl f1_a)), (h1_b, .inl (cI, L1, .inl f1_b)), (h1_d, .inl (cI, L1, .inl f1_d)), (h1_kind, .inl (cI, L1, .inl f1_kind))] := hD
    refine lv_iload_n hx hb dX1_follow_56 rfl (lv_at hl 3 rfl) ?_
    obtain ⟨u26, g27, hf⟩ := bd_some hf
    refine g_callSi S (c_X2_writesD l D cI cZ _ x3 u26 g27) (va_cwS 1 hts gX1_follow_X2_writesD rfl rfl rfl (by decide +kernel) ⟨Nat.le_of_ble_eq_true rfl, Nat.le_of_ble_eq_true rfl⟩) hK hP hD hS hA [] [0, 1, 2, 3, 4, 5, 6, 7, 8, 9] [(h0, .inr (1, [.ref h0_reached, .ref h0_known, .ref h0_numbers, .int (f0_known (x2).toNatClampNeg), .ref h0_flowing, .int v0_changed])), (h0_flowing, .inl (cI, 8, .inl (va_cpy f0_numbers f0_flowing ((x2 * (8 : Int32))).toNatClampNeg ((0 : Int32)).toNatClampNeg ((8 : Int32)).toNatClampNeg))), (h0_known, .inl (cI, 24, .inl f0_known)), (h0_numbers, .inl (cI, 192, .inl f0_numbers)), (h0_reached, .inl (cZ, 24, .inl f0_reached)), (h1, .inr (5, [.ref h1_kind, .ref h1_d, .ref h1_a, .ref h1_b, .int v1_count])), (h1_a, .inl (cI, L1, .inl f1_a)), (h1_b, .inl (cI, L1, .inl f1_b)), (h1_d, .inl (cI, L1, .inl f1_d)), (h1_kind, .inl (cI, L1, .inl f1_kind))] rfl rfl (by decide) (by decide) (by decide) rfl hl.1 rfl (Nat.le_of_ble_eq_true rfl) dX1_follow_57 ⟨Nat.le_of_ble_eq_true rfl, Nat.le_of_ble_eq_true rfl⟩ (fun H locs hP hD hS => ?_)
    have hP : va_P D vwCl [(h0, .inr (1, [.ref h0_reached, .ref h0_known, .ref h0_numbers, .int (f0_known (x2).toNatClampNeg), .ref h0_flowing, .int v0_changed])), (h0_flowing, .inl (cI, 8, .inl (va_cpy f0_numbers f0_flowing ((x2 * (8 : Int32))).toNatClampNeg ((0 : Int32)).toNatClampNeg ((8 : Int32)).toNatClampNeg))), (h0_known, .inl (cI, 24, .inl f0_known)), (h0_numbers, .inl (cI, 192, .inl f0_numbers)), (h0_reached, .inl (cZ, 24, .inl f0_reached)), (h1, .inr (5, [.ref h1_kind, .ref h1_d, .ref h1_a, .ref h1_b, .int v1_count])), (h1_a, .inl (cI, L1, .inl f1_a)), (h1_b, .inl (cI, L1, .inl f1_b)), (h1_d, .inl (cI, L1, .inl f1_d)), (h1_kind, .inl (cI, L1, .inl f1_kind))] H := hP
    have hD : va_D A [(h0, .inr (1, [.ref h0_reached, .ref h0_known, .ref h0_numbers, .int (f0_known (x2).toNatClampNeg), .ref h0_flowing, .int v0_changed])), (h0_flowing, .inl (cI, 8, .inl (va_cpy f0_numbers f0_flowing ((x2 * (8 : Int32))).toNatClampNeg ((0 : Int32)).toNatClampNeg ((8 : Int32)).toNatClampNeg))), (h0_known, .inl (cI, 24, .inl f0_known)), (h0_numbers, .inl (cI, 192, .inl f0_numbers)), (h0_reached, .inl (cZ, 24, .inl f0_reached)), (h1, .inr (5, [.ref h1_kind, .ref h1_d, .ref h1_a, .ref h1_b, .int v1_count])), (h1_a, .inl (cI, L1, .inl f1_a)), (h1_b, .inl (cI, L1, .inl f1_b)), (h1_d, .inl (cI, L1, .inl f1_d)), (h1_kind, .inl (cI, L1, .inl f1_kind))] := hD
    refine lv_if_eq (tgt := 69) hx hb dX1_follow_60 (by decide) (fun c28 => ?_) (fun c28 => ?_)
    · have hf := ite_t hf c28
      exact hJ_69 _ _ _ _ _ _ _ _ _ _ ls hf (hP.sub [0, 1, 2, 3, 4, 5, 6, 7, 8, 9] rfl) (hD.sub [0, 1, 2, 3, 4, 5, 6, 7, 8, 9] (by decide) rfl) hS (lv_sub hl [0, 1, 2, 3] rfl)
    · have hf := ite_e hf c28
      refine lv_aload_n hx hb dX1_follow_63 rfl (lv_at hl 0 rfl) ?_
      refine lv_aload_n hx hb dX1_follow_64 rfl (lv_at hl 1 rfl) ?_
      refine lv_iload_n hx hb dX1_follow_65 rfl (lv_at hl 2 rfl) ?_
      obtain ⟨u29, g30, hf⟩ := bd_some hf
      refine g_callVv S (c_X1_write l D cI cZ h0 h1 h0_reached h0_known h0_numbers h0_flowing h1_kind h1_d h1_a h1_b _ L1 (va_cpy f0_numbers f0_flowing ((x2 * (8 : Int32))).toNatClampNeg ((0 : Int32)).toNatClampNeg ((8 : Int32)).toNatClampNeg) f0_known f0_numbers f1_a f1_b f1_d f1_kind (f0_known (x2).toNatClampNeg) v0_changed v1_count x2 u29 g30) (cwV 2 hts gX1_follow_X1_write rfl rfl rfl (by decide +kernel) ⟨Nat.le_of_ble_eq_true rfl, Nat.le_of_ble_eq_true rfl⟩) hK hP hD hS hA 0 (ci := 1) rfl rfl [0, 1, 2, 3, 5, 6, 7, 8, 9] [4] [(h0_reached, .inl (cZ, 24, .inl f0_reached))] rfl rfl (by decide) (by decide) (by decide) rfl hl.1 rfl (Nat.le_of_ble_eq_true rfl) dX1_follow_66 ⟨Nat.le_of_ble_eq_true rfl, Nat.le_of_ble_eq_true rfl⟩ (fun H locs hP hD hS => ?_)
      have hP : va_P D vwCl [(h0_reached, .inl (cZ, 24, .inl f0_reached)), (h0, .inr (1, [.ref h0_reached, .ref h0_known, .ref h0_numbers, .int u29.2, .ref h0_flowing, .int v0_changed])), (h0_flowing, .inl (cI, 8, .inl u29.1)), (h0_known, .inl (cI, 24, .inl f0_known)), (h0_numbers, .inl (cI, 192, .inl f0_numbers)), (h1, .inr (5, [.ref h1_kind, .ref h1_d, .ref h1_a, .ref h1_b, .int v1_count])), (h1_a, .inl (cI, L1, .inl f1_a)), (h1_b, .inl (cI, L1, .inl f1_b)), (h1_d, .inl (cI, L1, .inl f1_d)), (h1_kind, .inl (cI, L1, .inl f1_kind))] H := hP
      have hD : va_D A [(h0_reached, .inl (cZ, 24, .inl f0_reached)), (h0, .inr (1, [.ref h0_reached, .ref h0_known, .ref h0_numbers, .int u29.2, .ref h0_flowing, .int v0_changed])), (h0_flowing, .inl (cI, 8, .inl u29.1)), (h0_known, .inl (cI, 24, .inl f0_known)), (h0_numbers, .inl (cI, 192, .inl f0_numbers)), (h1, .inr (5, [.ref h1_kind, .ref h1_d, .ref h1_a, .ref h1_b, .int v1_count])), (h1_a, .inl (cI, L1, .inl f1_a)), (h1_b, .inl (cI, L1, .inl f1_b)), (h1_d, .inl (cI, L1, .inl f1_d)), (h1_kind, .inl (cI, L1, .inl f1_kind))] := hD
      exact hJ_69 _ _ _ _ _ _ _ _ _ _ ls hf (hP.sub [1, 2, 3, 4, 0, 5, 6, 7, 8, 9] rfl) (hD.sub [1, 2, 3, 4, 0, 5, 6, 7, 8, 9] (by decide) rfl) hS (lv_sub hl [0, 1, 2, 3] rfl)
  unfold f_X1_follow at hf
  refine lv_aload_n hx hb dX1_follow_0 rfl (lv_at hl 1 rfl) ?_
  refine va_get (D := D) (ci := 5) (v := .ref h1_kind) (C := RX6) (T := TX6) (N := 5) hx hb hts iw_X1_follow_X6 hown hK hP 5 rfl rfl 0 (by decide) fl_59 (fun _ h9 => h9) rfl dX1_follow_1 ?_
  refine lv_iload_n hx hb dX1_follow_4 rfl (lv_at hl 2 rfl) ?_
  obtain ⟨i31, hf⟩ := gd_some hf
  refine va_iald hx hb hK hP 9 0 rfl rfl i31 dX1_follow_5 ?_
  refine lv_istore_n (lv' := [(3, .int (f1_kind (x2).toNatClampNeg)), (0, .ref h0), (1, .ref h1), (2, .int x2)]) hx hb dX1_follow_6 rfl hl (by decide) rfl (fun ls hl => ?_)
  refine lv_iload_n hx hb dX1_follow_7 rfl (lv_at hl 0 rfl) ?_
  refine lv_bipush (v := (6 : Int32)) hx hb dX1_follow_8 (by decide +kernel) ?_
  refine lv_icmp_ne (tgt := 28) hx hb dX1_follow_10 (by decide) (fun c32 => ?_) (fun c32 => ?_)
  · have hf := ite_e hf c32
    exact hJ_28 _ _ _ _ _ _ _ _ _ _ ls hf (hP.sub [0, 1, 2, 3, 4, 5, 6, 7, 8, 9] rfl) (hD.sub [0, 1, 2, 3, 4, 5, 6, 7, 8, 9] (by decide) rfl) hS (lv_sub hl [1, 2, 3, 0] rfl)
  · have hf := ite_t hf c32
    refine lv_aload_n hx hb dX1_follow_13 rfl (lv_at hl 1 rfl) ?_
    refine lv_iload_n hx hb dX1_follow_14 rfl (lv_at hl 3 rfl) ?_
    refine lv_aload_n hx hb dX1_follow_15 rfl (lv_at hl 2 rfl) ?_
    refine va_get (D := D) (ci := 5) (v := .ref h1_b) (C := RX6) (T := TX6) (N := 5) hx hb hts iw_X1_follow_X6 hown hK hP 5 rfl rfl 3 (by decide) fl_62 (fun _ h9 => h9) rfl dX1_follow_16 ?_
    refine lv_iload_n hx hb dX1_follow_19 rfl (lv_at hl 3 rfl) ?_
    obtain ⟨i33, hf⟩ := gd_some hf
    refine va_iald hx hb hK hP 7 0 rfl rfl i33 dX1_follow_20 ?_
    obtain ⟨u34, g35, hf⟩ := bd_some hf
    refine g_callVi S (c_X1_isZero l D cI cZ h0 h0_reached h0_known h0_numbers h0_flowing _ f0_known f0_numbers v0_flowingKnown v0_changed x2 (f1_b (x2).toNatClampNeg) u34 g35) (cwV 2 hts gX1_follow_X1_isZero rfl rfl rfl (by decide +kernel) ⟨Nat.le_of_ble_eq_true rfl, Nat.le_of_ble_eq_true rfl⟩) hK hP hD hS hA 0 (ci := 1) rfl rfl [0, 2, 3] [1, 4, 5, 6, 7, 8, 9] [(h0_flowing, .inl (cI, 8, .inl f0_flowing)), (h0_reached, .inl (cZ, 24, .inl f0_reached)), (h1, .inr (5, [.ref h1_kind, .ref h1_d, .ref h1_a, .ref h1_b, .int v1_count])), (h1_a, .inl (cI, L1, .inl f1_a)), (h1_b, .inl (cI, L1, .inl f1_b)), (h1_d, .inl (cI, L1, .inl f1_d)), (h1_kind, .inl (cI, L1, .inl f1_kind))] rfl rfl (by decide) (by decide) (by decide) rfl hl.1 rfl (Nat.le_of_ble_eq_true rfl) dX1_follow_21 ⟨Nat.le_of_ble_eq_true rfl, Nat.le_of_ble_eq_true rfl⟩ (fun H locs hP hD hS => ?_)
    have hP : va_P D vwCl [(h0_flowing, .inl (cI, 8, .inl f0_flowing)), (h0_reached, .inl (cZ, 24, .inl f0_reached)), (h1, .inr (5, [.ref h1_kind, .ref h1_d, .ref h1_a, .ref h1_b, .int v1_count])), (h1_a, .inl (cI, L1, .inl f1_a)), (h1_b, .inl (cI, L1, .inl f1_b)), (h1_d, .inl (cI, L1, .inl f1_d)), (h1_kind, .inl (cI, L1, .inl f1_kind)), (h0, .inr (1, [.ref h0_reached, .ref h0_known, .ref h0_numbers, .int v0_flowingKnown, .ref h0_flowing, .int v0_changed])), (h0_known, .inl (cI, 24, .inl f0_known)), (h0_numbers, .inl (cI, 192, .inl f0_numbers))] H := hP
    have hD : va_D A [(h0_flowing, .inl (cI, 8, .inl f0_flowing)), (h0_reached, .inl (cZ, 24, .inl f0_reached)), (h1, .inr (5, [.ref h1_kind, .ref h1_d, .ref h1_a, .ref h1_b, .int v1_count])), (h1_a, .inl (cI, L1, .inl f1_a)), (h1_b, .inl (cI, L1, .inl f1_b)), (h1_d, .inl (cI, L1, .inl f1_d)), (h1_kind, .inl (cI, L1, .inl f1_kind)), (h0, .inr (1, [.ref h0_reached, .ref h0_known, .ref h0_numbers, .int v0_flowingKnown, .ref h0_flowing, .int v0_changed])), (h0_known, .inl (cI, 24, .inl f0_known)), (h0_numbers, .inl (cI, 192, .inl f0_numbers))] := hD
    refine lv_if_eq (tgt := 28) hx hb dX1_follow_24 (by decide) (fun c36 => ?_) (fun c36 => ?_)
    · have hf := ite_t hf c36
      exact hJ_28 _ _ _ _ _ _ _ _ _ _ ls hf (hP.sub [7, 0, 8, 9, 1, 2, 3, 4, 5, 6] rfl) (hD.sub [7, 0, 8, 9, 1, 2, 3, 4, 5, 6] (by decide) rfl) hS (lv_sub hl [1, 2, 3, 0] rfl)
    · have hf := ite_e hf c36
      have hf := Option.some.inj hf
      subst hf
      exact g_vret hx hb hr hlocks (hP.sub [7, 0, 8, 9, 1, 2, 3, 4, 5, 6] rfl) (hD.sub [7, 0, 8, 9, 1, 2, 3, 4, 5, 6] (by decide) rfl) hK hS dX1_follow_27

def f_X1_begin_2 (n : Nat)  : Nat → (Nat → Int32) → (Nat → Int32) → (Nat → Int32) → (Nat → Int32) → Int32 → Int32 → Int32 → Option ((Nat → Int32) × (Nat → Int32) × (Nat → Int32) × (Nat → Int32) × Int32 × Int32)
  | 0, _, _, _, _, _, _, _ => none
  | k + 1, f0_flowing, f0_known, f0_numbers, f0_reached, v0_flowingKnown, v0_changed, x1 => if (24 : Int32) ≤ x1 then ((f_J7_fill_53178 n 8 f0_flowing (0 : Int32)).bind (fun u2 => (f_X1_flowTo n u2 f0_known f0_numbers f0_reached (252 : Int32) v0_changed (0 : Int32)).bind (fun u4 => some (u2, u4.1, u4.2.1, u4.2.2.1, (252 : Int32), u4.2.2.2)))) else (gd x1 24 (f_X1_begin_2 n k f0_flowing f0_known f0_numbers (upd f0_reached (x1).toNatClampNeg (vp_nar .boolean (0 : Int32))) v0_flowingKnown v0_changed (x1 + (1 : Int32))))
def f_X1_begin (n : Nat)  (f0_flowing : (Nat → Int32)) (f0_known : (Nat → Int32)) (f0_numbers : (Nat → Int32)) (f0_reached : (Nat → Int32)) (v0_flowingKnown : Int32) (v0_changed : Int32)  : Option ((Nat → Int32) × (Nat → Int32) × (Nat → Int32) × (Nat → Int32) × Int32 × Int32) := f_X1_begin_2 n n f0_flowing f0_known f0_numbers f0_reached v0_flowingKnown v0_changed (0 : Int32)
theorem iw_X1_begin_X1 : ∀ w ∈ wsX10, w ∈ wsX1_begin := by decide +kernel
set_option maxHeartbeats 4000000 in
set_option maxRecDepth 100000 in
theorem c_X1_begin (l : Launch) (D : va_G) (cI cZ : ClassId) (h0 h0_reached h0_known h0_numbers h0_flowing : Nat) (sz : Nat)  (f0_flowing f0_known f0_numbers f0_reached : Nat → Int32) (v0_flowingKnown v0_changed : Int32) (n : Nat)  (res : ((Nat → Int32) × (Nat → Int32) × (Nat → Int32) × (Nat → Int32) × Int32 × Int32)) (hf : f_X1_begin n f0_flowing f0_known f0_numbers f0_reached v0_flowingKnown v0_changed = some res) : Ct_v l yX1_begin wsX1_begin ({ frames := 2, cells := 0, slots := 0, locals := 86 }) D [(cI, .int), (cZ, .boolean)] [.ref h0] sz [(h0, .inr (1, [.ref h0_reached, .ref h0_known, .ref h0_numbers, .int v0_flowingKnown, .ref h0_flowing, .int v0_changed])), (h0_flowing, .inl (cI, 8, .inl f0_flowing)), (h0_known, .inl (cI, 24, .inl f0_known)), (h0_numbers, .inl (cI, 192, .inl f0_numbers)), (h0_reached, .inl (cZ, 24, .inl f0_reached))] [(h0, .inr (1, [.ref h0_reached, .ref h0_known, .ref h0_numbers, .int res.2.2.2.2.1, .ref h0_flowing, .int res.2.2.2.2.2])), (h0_flowing, .inl (cI, 8, .inl res.1)), (h0_known, .inl (cI, 24, .inl res.2.1)), (h0_numbers, .inl (cI, 192, .inl res.2.2.1)), (h0_reached, .inl (cZ, 24, .inl res.2.2.2.1))] := by
  refine g_of (cc := cX1_begin) (maxL := 2) (ret := none) (QQ := (fun A => g_Qv D [(cI, .int), (cZ, .boolean)] A [(h0, .inr (1, [.ref h0_reached, .ref h0_known, .ref h0_numbers, .int res.2.2.2.2.1, .ref h0_flowing, .int res.2.2.2.2.2])), (h0_flowing, .inl (cI, 8, .inl res.1)), (h0_known, .inl (cI, 24, .inl res.2.1)), (h0_numbers, .inl (cI, 192, .inl res.2.2.1)), (h0_reached, .inl (cZ, 24, .inl res.2.2.2.1))])) (by decide) rfl (Nat.le_of_ble_eq_true rfl) ?_
  intro p e s m args below meth c A ls S hr hlocks hA hP hK hD hl
  show W p l e ({ frames := 2, cells := 0, slots := 0, locals := 86 }) s m args below meth c s.heap [] 0 0 (MQ below (g_Qv D [(cI, .int), (cZ, .boolean)] A [(h0, .inr (1, [.ref h0_reached, .ref h0_known, .ref h0_numbers, .int res.2.2.2.2.1, .ref h0_flowing, .int res.2.2.2.2.2])), (h0_flowing, .inl (cI, 8, .inl res.1)), (h0_known, .inl (cI, 24, .inl res.2.1)), (h0_numbers, .inl (cI, 192, .inl res.2.2.1)), (h0_reached, .inl (cZ, 24, .inl res.2.2.2.1))]) args s 0 0 A) (F0 m 0 ls [])
  have hx := S.1
  have hb := S.2.1
  have hml := S.2.2.1
  have hown := S.2.2.2.1
  have hts := S.2.2.2.2
  have fl_22 := hts (.fieldLink RX1 22 "PassPipeline$Folding" "flowingKnown" "I") (by decide +kernel)
  have fl_26 := hts (.fieldLink RX1 26 "PassPipeline$Folding" "flowing" "[I") (by decide +kernel)
  have fl_9 := hts (.fieldLink RX1 9 "PassPipeline$Folding" "reached" "[Z") (by decide +kernel)
  have hS : va_S A s.heap s.heap [] := va_S.rf
  have hl : lv_has ls 2 [(0, .ref h0)] := hl
  have hJ_2 : ∀ (k : Nat) (f0_flowing : (Nat → Int32)) (f0_known : (Nat → Int32)) (f0_numbers : (Nat → Int32)) (f0_reached : (Nat → Int32)) (v0_flowingKnown : Int32) (v0_changed : Int32) (x1 : Int32) (H : Heap) (locs : List Loc) (ls : Array Slot), f_X1_begin_2 n k f0_flowing f0_known f0_numbers f0_reached v0_flowingKnown v0_changed x1 = some res → va_P D vwCl [(h0, .inr (1, [.ref h0_reached, .ref h0_known, .ref h0_numbers, .int v0_flowingKnown, .ref h0_flowing, .int v0_changed])), (h0_flowing, .inl (cI, 8, .inl f0_flowing)), (h0_known, .inl (cI, 24, .inl f0_known)), (h0_numbers, .inl (cI, 192, .inl f0_numbers)), (h0_reached, .inl (cZ, 24, .inl f0_reached))] H → va_D A [(h0, .inr (1, [.ref h0_reached, .ref h0_known, .ref h0_numbers, .int v0_flowingKnown, .ref h0_flowing, .int v0_changed])), (h0_flowing, .inl (cI, 8, .inl f0_flowing)), (h0_known, .inl (cI, 24, .inl f0_known)), (h0_numbers, .inl (cI, 192, .inl f0_numbers)), (h0_reached, .inl (cZ, 24, .inl f0_reached))] → va_S A s.heap H locs → lv_has ls 2 [(0, .ref h0), (1, .int x1)] → W p l e ({ frames := 2, cells := 0, slots := 0, locals := 86 }) s m args below meth c H locs 0 0 (MQ below (g_Qv D [(cI, .int), (cZ, .boolean)] A [(h0, .inr (1, [.ref h0_reached, .ref h0_known, .ref h0_numbers, .int res.2.2.2.2.1, .ref h0_flowing, .int res.2.2.2.2.2])), (h0_flowing, .inl (cI, 8, .inl res.1)), (h0_known, .inl (cI, 24, .inl res.2.1)), (h0_numbers, .inl (cI, 192, .inl res.2.2.1)), (h0_reached, .inl (cZ, 24, .inl res.2.2.2.1))]) args s 0 0 A) (F0 m 2 ls []) := by
    intro k
    induction k with
    | zero => intro f0_flowing f0_known f0_numbers f0_reached v0_flowingKnown v0_changed x1 H locs ls hf; rw [f_X1_begin_2] at hf; cases hf
    | succ m_2 ih =>
      have ih_2 : ∀ (f0_flowing : (Nat → Int32)) (f0_known : (Nat → Int32)) (f0_numbers : (Nat → Int32)) (f0_reached : (Nat → Int32)) (v0_flowingKnown : Int32) (v0_changed : Int32) (x1 : Int32) (H : Heap) (locs : List Loc) (ls : Array Slot), (fun f0_flowing' f0_known' f0_numbers' f0_reached' v0_flowingKnown' v0_changed' x1' => f_X1_begin_2 n m_2 f0_flowing' f0_known' f0_numbers' f0_reached' v0_flowingKnown' v0_changed' x1') f0_flowing f0_known f0_numbers f0_reached v0_flowingKnown v0_changed x1 = some res → va_P D vwCl [(h0, .inr (1, [.ref h0_reached, .ref h0_known, .ref h0_numbers, .int v0_flowingKnown, .ref h0_flowing, .int v0_changed])), (h0_flowing, .inl (cI, 8, .inl f0_flowing)), (h0_known, .inl (cI, 24, .inl f0_known)), (h0_numbers, .inl (cI, 192, .inl f0_numbers)), (h0_reached, .inl (cZ, 24, .inl f0_reached))] H → va_D A [(h0, .inr (1, [.ref h0_reached, .ref h0_known, .ref h0_numbers, .int v0_flowingKnown, .ref h0_flowing, .int v0_changed])), (h0_flowing, .inl (cI, 8, .inl f0_flowing)), (h0_known, .inl (cI, 24, .inl f0_known)), (h0_numbers, .inl (cI, 192, .inl f0_numbers)), (h0_reached, .inl (cZ, 24, .inl f0_reached))] → va_S A s.heap H locs → lv_has ls 2 [(0, .ref h0), (1, .int x1)] → W p l e ({ frames := 2, cells := 0, slots := 0, locals := 86 }) s m args below meth c H locs 0 0 (MQ below (g_Qv D [(cI, .int), (cZ, .boolean)] A [(h0, .inr (1, [.ref h0_reached, .ref h0_known, .ref h0_numbers, .int res.2.2.2.2.1, .ref h0_flowing, .int res.2.2.2.2.2])), (h0_flowing, .inl (cI, 8, .inl res.1)), (h0_known, .inl (cI, 24, .inl res.2.1)), (h0_numbers, .inl (cI, 192, .inl res.2.2.1)), (h0_reached, .inl (cZ, 24, .inl res.2.2.2.1))]) args s 0 0 A) (F0 m 2 ls []) := ih
      intro f0_flowing f0_known f0_numbers f0_reached v0_flowingKnown v0_changed x1 H locs ls hf hP hD hS hl
      rw [f_X1_begin_2] at hf
      refine lv_iload_n hx hb dX1_begin_2 rfl (lv_at hl 1 rfl) ?_
      refine lv_bipush (v := (24 : Int32)) hx hb dX1_begin_3 (by decide +kernel) ?_
      refine lv_icmp_ge (tgt := 21) hx hb dX1_begin_5 (by decide) (fun c1 => ?_) (fun c1 => ?_)
      · have hf := ite_t hf c1
        refine lv_aload_n hx hb dX1_begin_21 rfl (lv_at hl 0 rfl) ?_
        refine va_get (D := D) (ci := 1) (v := .ref h0_flowing) (C := RX1) (T := TX1) (N := 6) hx hb hts iw_X1_begin_X1 hown hK hP 0 rfl rfl 4 (by decide) fl_26 (fun _ h9 => h9) rfl dX1_begin_22 ?_
        refine lv_iconst (v := (0 : Int32)) hx hb dX1_begin_25 (by decide) ?_
        obtain ⟨u2, g3, hf⟩ := bd_some hf
        refine g_callSv S (c_J7_fill_53178 l D cI cZ h0_flowing _ 8 f0_flowing n (0 : Int32) u2 g3) (va_cwS 2 hts gX1_begin_J7_fill_53178 rfl rfl rfl (by decide +kernel) ⟨Nat.le_of_ble_eq_true rfl, Nat.le_of_ble_eq_true rfl⟩) hK hP hD hS hA [1] [0, 2, 3, 4] [(h0, .inr (1, [.ref h0_reached, .ref h0_known, .ref h0_numbers, .int v0_flowingKnown, .ref h0_flowing, .int v0_changed])), (h0_known, .inl (cI, 24, .inl f0_known)), (h0_numbers, .inl (cI, 192, .inl f0_numbers)), (h0_reached, .inl (cZ, 24, .inl f0_reached))] rfl rfl (by decide) (by decide) (by decide) rfl hl.1 rfl (Nat.le_of_ble_eq_true rfl) dX1_begin_26 ⟨Nat.le_of_ble_eq_true rfl, Nat.le_of_ble_eq_true rfl⟩ (fun H locs hP hD hS => ?_)
        have hP : va_P D vwCl [(h0, .inr (1, [.ref h0_reached, .ref h0_known, .ref h0_numbers, .int v0_flowingKnown, .ref h0_flowing, .int v0_changed])), (h0_known, .inl (cI, 24, .inl f0_known)), (h0_numbers, .inl (cI, 192, .inl f0_numbers)), (h0_reached, .inl (cZ, 24, .inl f0_reached)), (h0_flowing, .inl (cI, 8, .inl u2))] H := hP
        have hD : va_D A [(h0, .inr (1, [.ref h0_reached, .ref h0_known, .ref h0_numbers, .int v0_flowingKnown, .ref h0_flowing, .int v0_changed])), (h0_known, .inl (cI, 24, .inl f0_known)), (h0_numbers, .inl (cI, 192, .inl f0_numbers)), (h0_reached, .inl (cZ, 24, .inl f0_reached)), (h0_flowing, .inl (cI, 8, .inl u2))] := hD
        refine lv_aload_n hx hb dX1_begin_29 rfl (lv_at hl 0 rfl) ?_
        refine lv_sipush (v := (252 : Int32)) hx hb dX1_begin_30 (by decide +kernel) ?_
        refine va_put (D := D) (ci := 1) (v := .int (252 : Int32)) (ty := .int) (C := RX1) (T := TX1) (N := 6) hx hb hts iw_X1_begin_X1 tyX1 tyX1_ok nmX1 hown hK hP hD hS 0 rfl rfl 3 (by decide) fl_22 (fun _ h9 => h9) rfl (by decide +kernel) rfl rfl (Nat.le_of_ble_eq_true rfl) dX1_begin_33 (fun H locs hP hD hS => ?_)
        have hP : va_P D vwCl [(h0, .inr (1, [.ref h0_reached, .ref h0_known, .ref h0_numbers, .int (252 : Int32), .ref h0_flowing, .int v0_changed])), (h0_known, .inl (cI, 24, .inl f0_known)), (h0_numbers, .inl (cI, 192, .inl f0_numbers)), (h0_reached, .inl (cZ, 24, .inl f0_reached)), (h0_flowing, .inl (cI, 8, .inl u2))] H := hP
        have hD : va_D A [(h0, .inr (1, [.ref h0_reached, .ref h0_known, .ref h0_numbers, .int (252 : Int32), .ref h0_flowing, .int v0_changed])), (h0_known, .inl (cI, 24, .inl f0_known)), (h0_numbers, .inl (cI, 192, .inl f0_numbers)), (h0_reached, .inl (cZ, 24, .inl f0_reached)), (h0_flowing, .inl (cI, 8, .inl u2))] := hD
        refine lv_aload_n hx hb dX1_begin_36 rfl (lv_at hl 0 rfl) ?_
        refine lv_iconst (v := (0 : Int32)) hx hb dX1_begin_37 (by decide) ?_
        obtain ⟨u4, g5, hf⟩ := bd_some hf
        refine g_callVv S (c_X1_flowTo l D cI cZ h0 h0_reached h0_known h0_numbers h0_flowing _ u2 f0_known f0_numbers f0_reached (252 : Int32) v0_changed n (0 : Int32) u4 g5) (cwV 1 hts gX1_begin_X1_flowTo rfl rfl rfl (by decide +kernel) ⟨Nat.le_of_ble_eq_true rfl, Nat.le_of_ble_eq_true rfl⟩) hK hP hD hS hA 0 (ci := 1) rfl rfl [0, 4, 1, 2, 3] [] [] rfl rfl (by decide) (by decide) (by decide) rfl hl.1 rfl (Nat.le_of_ble_eq_true rfl) dX1_begin_38 ⟨Nat.le_of_ble_eq_true rfl, Nat.le_of_ble_eq_true rfl⟩ (fun H locs hP hD hS => ?_)
        have hP : va_P D vwCl [(h0, .inr (1, [.ref h0_reached, .ref h0_known, .ref h0_numbers, .int (252 : Int32), .ref h0_flowing, .int u4.2.2.2])), (h0_flowing, .inl (cI, 8, .inl u2)), (h0_known, .inl (cI, 24, .inl u4.1)), (h0_numbers, .inl (cI, 192, .inl u4.2.1)), (h0_reached, .inl (cZ, 24, .inl u4.2.2.1))] H := hP
        have hD : va_D A [(h0, .inr (1, [.ref h0_reached, .ref h0_known, .ref h0_numbers, .int (252 : Int32), .ref h0_flowing, .int u4.2.2.2])), (h0_flowing, .inl (cI, 8, .inl u2)), (h0_known, .inl (cI, 24, .inl u4.1)), (h0_numbers, .inl (cI, 192, .inl u4.2.1)), (h0_reached, .inl (cZ, 24, .inl u4.2.2.1))] := hD
        have hf := Option.some.inj hf
        subst hf
        exact g_vret hx hb hr hlocks (hP.sub [0, 1, 2, 3, 4] rfl) (hD.sub [0, 1, 2, 3, 4] (by decide) rfl) hK hS dX1_begin_41
      · have hf := ite_e hf c1
        refine lv_aload_n hx hb dX1_begin_8 rfl (lv_at hl 0 rfl) ?_
        refine va_get (D := D) (ci := 1) (v := .ref h0_reached) (C := RX1) (T := TX1) (N := 6) hx hb hts iw_X1_begin_X1 hown hK hP 0 rfl rfl 0 (by decide) fl_9 (fun _ h9 => h9) rfl dX1_begin_9 ?_
        refine lv_iload_n hx hb dX1_begin_12 rfl (lv_at hl 1 rfl) ?_
        refine lv_iconst (v := (0 : Int32)) hx hb dX1_begin_13 (by decide) ?_
        obtain ⟨i6, hf⟩ := gd_some hf
        refine va_zast hx hb hK hP hD hS 4 1 rfl rfl i6 dX1_begin_14 (fun H locs hP hD hS => ?_)
        have hP : va_P D vwCl [(h0, .inr (1, [.ref h0_reached, .ref h0_known, .ref h0_numbers, .int v0_flowingKnown, .ref h0_flowing, .int v0_changed])), (h0_flowing, .inl (cI, 8, .inl f0_flowing)), (h0_known, .inl (cI, 24, .inl f0_known)), (h0_numbers, .inl (cI, 192, .inl f0_numbers)), (h0_reached, .inl (cZ, 24, .inl (upd f0_reached (x1).toNatClampNeg (vp_nar .boolean (0 : Int32)))))] H := hP
        have hD : va_D A [(h0, .inr (1, [.ref h0_reached, .ref h0_known, .ref h0_numbers, .int v0_flowingKnown, .ref h0_flowing, .int v0_changed])), (h0_flowing, .inl (cI, 8, .inl f0_flowing)), (h0_known, .inl (cI, 24, .inl f0_known)), (h0_numbers, .inl (cI, 192, .inl f0_numbers)), (h0_reached, .inl (cZ, 24, .inl (upd f0_reached (x1).toNatClampNeg (vp_nar .boolean (0 : Int32)))))] := hD
        refine lv_iinc (v := (x1 + (1 : Int32))) (lv' := [(1, .int (x1 + (1 : Int32))), (0, .ref h0)]) hx hb dX1_begin_15 hl (k := 1) rfl rfl (by decide) rfl (fun ls hl => ?_)
        refine lv_goto (tgt := 2) hx hb dX1_begin_18 (by decide) ?_
        exact ih_2 _ _ _ _ _ _ _ _ _ ls hf (hP.sub [0, 1, 2, 3, 4] rfl) (hD.sub [0, 1, 2, 3, 4] (by decide) rfl) hS (lv_sub hl [1, 0] rfl)
  unfold f_X1_begin at hf
  refine lv_iconst (v := (0 : Int32)) hx hb dX1_begin_0 (by decide) ?_
  refine lv_istore_n (lv' := [(1, .int (0 : Int32)), (0, .ref h0)]) hx hb dX1_begin_1 rfl hl (by decide) rfl (fun ls hl => ?_)
  exact hJ_2 n _ _ _ _ _ _ _ _ _ ls hf (hP.sub [0, 1, 2, 3, 4] rfl) (hD.sub [0, 1, 2, 3, 4] (by decide) rfl) hS (lv_sub hl [1, 0] rfl)
