def f_X6_clear   (v0_count : Int32)  : Option Int32 := some (0 : Int32)
theorem iw_X6_clear_X6 : ∀ w ∈ wsX60, w ∈ wsX6_clear := by decide +kernel
set_option maxHeartbeats 4000000 in
set_option maxRecDepth 100000 in
theorem c_X6_clear (l : Launch) (D : va_G) (cI cZ : ClassId) (h0 h0_kind h0_d h0_a h0_b : Nat) (sz : Nat)   (v0_count : Int32)   (res : Int32) (hf : f_X6_clear v0_count = some res) : Ct_v l yX6_clear wsX6_clear ({ frames := 0, cells := 0, slots := 0, locals := 0 }) D [(cI, .int), (cZ, .boolean)] [.ref h0] sz [(h0, .inr (5, [.ref h0_kind, .ref h0_d, .ref h0_a, .ref h0_b, .int v0_count]))] [(h0, .inr (5, [.ref h0_kind, .ref h0_d, .ref h0_a, .ref h0_b, .int res]))] := by
  refine g_of (cc := cX6_clear) (maxL := 1) (ret := none) (QQ := (fun A => g_Qv D [(cI, .int), (cZ, .boolean)] A [(h0, .inr (5, [.ref h0_kind, .ref h0_d, .ref h0_a, .ref h0_b, .int res]))])) (by decide) rfl (Nat.le_of_ble_eq_true rfl) ?_
  intro p e s m args below meth c A ls S hr hlocks hA hP hK hD hl
  show W p l e ({ frames := 0, cells := 0, slots := 0, locals := 0 }) s m args below meth c s.heap [] 0 0 (MQ below (g_Qv D [(cI, .int), (cZ, .boolean)] A [(h0, .inr (5, [.ref h0_kind, .ref h0_d, .ref h0_a, .ref h0_b, .int res]))]) args s 0 0 A) (F0 m 0 ls [])
  have hx := S.1
  have hb := S.2.1
  have hml := S.2.2.1
  have hown := S.2.2.2.1
  have hts := S.2.2.2.2
  have fl_9 := hts (.fieldLink RX6 9 "PassPipeline$Program" "count" "I") (by decide +kernel)
  have hS : va_S A s.heap s.heap [] := va_S.rf
  have hl : lv_has ls 1 [(0, .ref h0)] := hl
  unfold f_X6_clear at hf
  refine lv_aload_n hx hb dX6_clear_0 rfl (lv_at hl 0 rfl) ?_
  refine lv_iconst (v := (0 : Int32)) hx hb dX6_clear_1 (by decide) ?_
  refine va_put (D := D) (ci := 5) (v := .int (0 : Int32)) (ty := .int) (C := RX6) (T := TX6) (N := 5) hx hb hts iw_X6_clear_X6 tyX6 tyX6_ok nmX6 hown hK hP hD hS 0 rfl rfl 4 (by decide) fl_9 (fun _ h9 => h9) rfl (by decide +kernel) rfl rfl (Nat.le_of_ble_eq_true rfl) dX6_clear_2 (fun H locs hP hD hS => ?_)
  have hP : va_P D vwCl [(h0, .inr (5, [.ref h0_kind, .ref h0_d, .ref h0_a, .ref h0_b, .int (0 : Int32)]))] H := hP
  have hD : va_D A [(h0, .inr (5, [.ref h0_kind, .ref h0_d, .ref h0_a, .ref h0_b, .int (0 : Int32)]))] := hD
  have hf := Option.some.inj hf
  subst hf
  exact g_vret hx hb hr hlocks (hP.sub [0] rfl) (hD.sub [0] (by decide) rfl) hK hS dX6_clear_5

def f_X6_put_47   (L0 : Nat) (f0_a : (Nat → Int32)) (f0_b : (Nat → Int32)) (f0_d : (Nat → Int32)) (f0_kind : (Nat → Int32)) (x1 x2 x3 x4 x5 t0 : Int32) : Option (Int32 × (Nat → Int32) × (Nat → Int32) × (Nat → Int32) × (Nat → Int32)) := gd x1 L0 (gd x1 L0 (gd x1 L0 (gd x1 L0 (if t0 = 0 then (some ((1 : Int32), (upd f0_a (x1).toNatClampNeg x4), (upd f0_b (x1).toNatClampNeg x5), (upd f0_d (x1).toNatClampNeg x3), (upd f0_kind (x1).toNatClampNeg x2))) else (some ((0 : Int32), (upd f0_a (x1).toNatClampNeg x4), (upd f0_b (x1).toNatClampNeg x5), (upd f0_d (x1).toNatClampNeg x3), (upd f0_kind (x1).toNatClampNeg x2)))))))
def f_X6_put  (L0 : Nat) (f0_a : (Nat → Int32)) (f0_b : (Nat → Int32)) (f0_d : (Nat → Int32)) (f0_kind : (Nat → Int32)) (x1 x2 x3 x4 x5 : Int32) : Option (Int32 × (Nat → Int32) × (Nat → Int32) × (Nat → Int32) × (Nat → Int32)) := gd x1 L0 (if (f0_kind (x1).toNatClampNeg) = x2 then (gd x1 L0 (if (f0_d (x1).toNatClampNeg) = x3 then (gd x1 L0 (if (f0_a (x1).toNatClampNeg) = x4 then (gd x1 L0 (if (f0_b (x1).toNatClampNeg) = x5 then (f_X6_put_47 L0 f0_a f0_b f0_d f0_kind x1 x2 x3 x4 x5 (1 : Int32)) else (f_X6_put_47 L0 f0_a f0_b f0_d f0_kind x1 x2 x3 x4 x5 (0 : Int32)))) else (f_X6_put_47 L0 f0_a f0_b f0_d f0_kind x1 x2 x3 x4 x5 (0 : Int32)))) else (f_X6_put_47 L0 f0_a f0_b f0_d f0_kind x1 x2 x3 x4 x5 (0 : Int32)))) else (f_X6_put_47 L0 f0_a f0_b f0_d f0_kind x1 x2 x3 x4 x5 (0 : Int32)))
theorem iw_X6_put_X6 : ∀ w ∈ wsX60, w ∈ wsX6_put := by decide +kernel
set_option maxHeartbeats 4000000 in
set_option maxRecDepth 100000 in
theorem c_X6_put (l : Launch) (D : va_G) (cI cZ : ClassId) (h0 h0_kind h0_d h0_a h0_b : Nat) (sz : Nat) (L0 : Nat) (f0_a f0_b f0_d f0_kind : Nat → Int32) (v0_count : Int32)  (x1 x2 x3 x4 x5 : Int32) (res : (Int32 × (Nat → Int32) × (Nat → Int32) × (Nat → Int32) × (Nat → Int32))) (hf : f_X6_put L0 f0_a f0_b f0_d f0_kind x1 x2 x3 x4 x5 = some res) : Ct_i l yX6_put wsX6_put ({ frames := 0, cells := 0, slots := 0, locals := 0 }) D [(cI, .int), (cZ, .boolean)] [.ref h0, .int x1, .int x2, .int x3, .int x4, .int x5] sz [(h0, .inr (5, [.ref h0_kind, .ref h0_d, .ref h0_a, .ref h0_b, .int v0_count])), (h0_a, .inl (cI, L0, .inl f0_a)), (h0_b, .inl (cI, L0, .inl f0_b)), (h0_d, .inl (cI, L0, .inl f0_d)), (h0_kind, .inl (cI, L0, .inl f0_kind))] res.1 [(h0, .inr (5, [.ref h0_kind, .ref h0_d, .ref h0_a, .ref h0_b, .int v0_count])), (h0_a, .inl (cI, L0, .inl res.2.1)), (h0_b, .inl (cI, L0, .inl res.2.2.1)), (h0_d, .inl (cI, L0, .inl res.2.2.2.1)), (h0_kind, .inl (cI, L0, .inl res.2.2.2.2))] := by
  refine g_of (cc := cX6_put) (maxL := 7) (ret := some .boolean) (QQ := (fun A => g_Qi D [(cI, .int), (cZ, .boolean)] A res.1 [(h0, .inr (5, [.ref h0_kind, .ref h0_d, .ref h0_a, .ref h0_b, .int v0_count])), (h0_a, .inl (cI, L0, .inl res.2.1)), (h0_b, .inl (cI, L0, .inl res.2.2.1)), (h0_d, .inl (cI, L0, .inl res.2.2.2.1)), (h0_kind, .inl (cI, L0, .inl res.2.2.2.2))])) (by decide) rfl (Nat.le_of_ble_eq_true rfl) ?_
  intro p e s m args below meth c A ls S hr hlocks hA hP hK hD hl
  show W p l e ({ frames := 0, cells := 0, slots := 0, locals := 0 }) s m args below meth c s.heap [] 0 0 (MQ below (g_Qi D [(cI, .int), (cZ, .boolean)] A res.1 [(h0, .inr (5, [.ref h0_kind, .ref h0_d, .ref h0_a, .ref h0_b, .int v0_count])), (h0_a, .inl (cI, L0, .inl res.2.1)), (h0_b, .inl (cI, L0, .inl res.2.2.1)), (h0_d, .inl (cI, L0, .inl res.2.2.2.1)), (h0_kind, .inl (cI, L0, .inl res.2.2.2.2))]) args s 0 0 A) (F0 m 0 ls [])
  have hx := S.1
  have hb := S.2.1
  have hml := S.2.2.1
  have hown := S.2.2.2.1
  have hts := S.2.2.2.2
  have fl_15 := hts (.fieldLink RX6 15 "PassPipeline$Program" "kind" "[I") (by decide +kernel)
  have fl_19 := hts (.fieldLink RX6 19 "PassPipeline$Program" "d" "[I") (by decide +kernel)
  have fl_22 := hts (.fieldLink RX6 22 "PassPipeline$Program" "a" "[I") (by decide +kernel)
  have fl_25 := hts (.fieldLink RX6 25 "PassPipeline$Program" "b" "[I") (by decide +kernel)
  have hS : va_S A s.heap s.heap [] := va_S.rf
  have hl : lv_has ls 7 [(0, .ref h0), (1, .int x1), (2, .int x2), (3, .int x3), (4, .int x4), (5, .int x5)] := hl
  have hJ_47 : ∀ (f0_a : (Nat → Int32)) (f0_b : (Nat → Int32)) (f0_d : (Nat → Int32)) (f0_kind : (Nat → Int32)) (x1 x2 x3 x4 x5 t0 : Int32) (H : Heap) (locs : List Loc) (ls : Array Slot), f_X6_put_47 L0 f0_a f0_b f0_d f0_kind x1 x2 x3 x4 x5 t0 = some res → va_P D vwCl [(h0, .inr (5, [.ref h0_kind, .ref h0_d, .ref h0_a, .ref h0_b, .int v0_count])), (h0_a, .inl (cI, L0, .inl f0_a)), (h0_b, .inl (cI, L0, .inl f0_b)), (h0_d, .inl (cI, L0, .inl f0_d)), (h0_kind, .inl (cI, L0, .inl f0_kind))] H → va_D A [(h0, .inr (5, [.ref h0_kind, .ref h0_d, .ref h0_a, .ref h0_b, .int v0_count])), (h0_a, .inl (cI, L0, .inl f0_a)), (h0_b, .inl (cI, L0, .inl f0_b)), (h0_d, .inl (cI, L0, .inl f0_d)), (h0_kind, .inl (cI, L0, .inl f0_kind))] → va_S A s.heap H locs → lv_has ls 7 [(0, .ref h0), (1, .int x1), (2, .int x2), (3, .int x3), (4, .int x4), (5, .int x5)] → W p l e ({ frames := 0, cells := 0, slots := 0, locals := 0 }) s m args below meth c H locs 0 0 (MQ below (g_Qi D [(cI, .int), (cZ, .boolean)] A res.1 [(h0, .inr (5, [.ref h0_kind, .ref h0_d, .ref h0_a, .ref h0_b, .int v0_count])), (h0_a, .inl (cI, L0, .inl res.2.1)), (h0_b, .inl (cI, L0, .inl res.2.2.1)), (h0_d, .inl (cI, L0, .inl res.2.2.2.1)), (h0_kind, .inl (cI, L0, .inl res.2.2.2.2))]) args s 0 0 A) (F0 m 47 ls [.int t0]) := by
    intro f0_a f0_b f0_d f0_kind x1 x2 x3 x4 x5 t0 H locs ls hf hP hD hS hl
    unfold f_X6_put_47 at hf
    refine lv_istore (lv' := [(6, .int t0), (0, .ref h0), (1, .int x1), (2, .int x2), (3, .int x3), (4, .int x4), (5, .int x5)]) hx hb dX6_put_47 hl (by decide) rfl (fun ls hl => ?_)
    refine lv_aload_n hx hb dX6_put_49 rfl (lv_at hl 1 rfl) ?_
    refine va_get (D := D) (ci := 5) (v := .ref h0_kind) (C := RX6) (T := TX6) (N := 5) hx hb hts iw_X6_put_X6 hown hK hP 0 rfl rfl 0 (by decide) fl_15 (fun _ h9 => h9) rfl dX6_put_50 ?_
    refine lv_iload_n hx hb dX6_put_53 rfl (lv_at hl 2 rfl) ?_
    refine lv_iload_n hx hb dX6_put_54 rfl (lv_at hl 3 rfl) ?_
    obtain ⟨i1, hf⟩ := gd_some hf
    refine va_iast hx hb hK hP hD hS 4 0 rfl rfl i1 dX6_put_55 (fun H locs hP hD hS => ?_)
    have hP : va_P D vwCl [(h0, .inr (5, [.ref h0_kind, .ref h0_d, .ref h0_a, .ref h0_b, .int v0_count])), (h0_a, .inl (cI, L0, .inl f0_a)), (h0_b, .inl (cI, L0, .inl f0_b)), (h0_d, .inl (cI, L0, .inl f0_d)), (h0_kind, .inl (cI, L0, .inl (upd f0_kind (x1).toNatClampNeg x2)))] H := hP
    have hD : va_D A [(h0, .inr (5, [.ref h0_kind, .ref h0_d, .ref h0_a, .ref h0_b, .int v0_count])), (h0_a, .inl (cI, L0, .inl f0_a)), (h0_b, .inl (cI, L0, .inl f0_b)), (h0_d, .inl (cI, L0, .inl f0_d)), (h0_kind, .inl (cI, L0, .inl (upd f0_kind (x1).toNatClampNeg x2)))] := hD
    refine lv_aload_n hx hb dX6_put_56 rfl (lv_at hl 1 rfl) ?_
    refine va_get (D := D) (ci := 5) (v := .ref h0_d) (C := RX6) (T := TX6) (N := 5) hx hb hts iw_X6_put_X6 hown hK hP 0 rfl rfl 1 (by decide) fl_19 (fun _ h9 => h9) rfl dX6_put_57 ?_
    refine lv_iload_n hx hb dX6_put_60 rfl (lv_at hl 2 rfl) ?_
    refine lv_iload_n hx hb dX6_put_61 rfl (lv_at hl 4 rfl) ?_
    obtain ⟨i2, hf⟩ := gd_some hf
    refine va_iast hx hb hK hP hD hS 3 0 rfl rfl i2 dX6_put_62 (fun H locs hP hD hS => ?_)
    have hP : va_P D vwCl [(h0, .inr (5, [.ref h0_kind, .ref h0_d, .ref h0_a, .ref h0_b, .int v0_count])), (h0_a, .inl (cI, L0, .inl f0_a)), (h0_b, .inl (cI, L0, .inl f0_b)), (h0_d, .inl (cI, L0, .inl (upd f0_d (x1).toNatClampNeg x3))), (h0_kind, .inl (cI, L0, .inl (upd f0_kind (x1).toNatClampNeg x2)))] H := hP
    have hD : va_D A [(h0, .inr (5, [.ref h0_kind, .ref h0_d, .ref h0_a, .ref h0_b, .int v0_count])), (h0_a, .inl (cI, L0, .inl f0_a)), (h0_b, .inl (cI, L0, .inl f0_b)), (h0_d, .inl (cI, L0, .inl (upd f0_d (x1).toNatClampNeg x3))), (h0_kind, .inl (cI, L0, .inl (upd f0_kind (x1).toNatClampNeg x2)))] := hD
    refine lv_aload_n hx hb dX6_put_63 rfl (lv_at hl 1 rfl) ?_
    refine va_get (D := D) (ci := 5) (v := .ref h0_a) (C := RX6) (T := TX6) (N := 5) hx hb hts iw_X6_put_X6 hown hK hP 0 rfl rfl 2 (by decide) fl_22 (fun _ h9 => h9) rfl dX6_put_64 ?_
    refine lv_iload_n hx hb dX6_put_67 rfl (lv_at hl 2 rfl) ?_
    refine lv_iload hx hb dX6_put_68 (lv_at hl 5 rfl) ?_
    obtain ⟨i3, hf⟩ := gd_some hf
    refine va_iast hx hb hK hP hD hS 1 0 rfl rfl i3 dX6_put_70 (fun H locs hP hD hS => ?_)
    have hP : va_P D vwCl [(h0, .inr (5, [.ref h0_kind, .ref h0_d, .ref h0_a, .ref h0_b, .int v0_count])), (h0_a, .inl (cI, L0, .inl (upd f0_a (x1).toNatClampNeg x4))), (h0_b, .inl (cI, L0, .inl f0_b)), (h0_d, .inl (cI, L0, .inl (upd f0_d (x1).toNatClampNeg x3))), (h0_kind, .inl (cI, L0, .inl (upd f0_kind (x1).toNatClampNeg x2)))] H := hP
    have hD : va_D A [(h0, .inr (5, [.ref h0_kind, .ref h0_d, .ref h0_a, .ref h0_b, .int v0_count])), (h0_a, .inl (cI, L0, .inl (upd f0_a (x1).toNatClampNeg x4))), (h0_b, .inl (cI, L0, .inl f0_b)), (h0_d, .inl (cI, L0, .inl (upd f0_d (x1).toNatClampNeg x3))), (h0_kind, .inl (cI, L0, .inl (upd f0_kind (x1).toNatClampNeg x2)))] := hD
    refine lv_aload_n hx hb dX6_put_71 rfl (lv_at hl 1 rfl) ?_
    refine va_get (D := D) (ci := 5) (v := .ref h0_b) (C := RX6) (T := TX6) (N := 5) hx hb hts iw_X6_put_X6 hown hK hP 0 rfl rfl 3 (by decide) fl_25 (fun _ h9 => h9) rfl dX6_put_72 ?_
    refine lv_iload_n hx hb dX6_put_75 rfl (lv_at hl 2 rfl) ?_
    refine lv_iload hx hb dX6_put_76 (lv_at hl 6 rfl) ?_
    obtain ⟨i4, hf⟩ := gd_some hf
    refine va_iast hx hb hK hP hD hS 2 0 rfl rfl i4 dX6_put_78 (fun H locs hP hD hS => ?_)
    have hP : va_P D vwCl [(h0, .inr (5, [.ref h0_kind, .ref h0_d, .ref h0_a, .ref h0_b, .int v0_count])), (h0_a, .inl (cI, L0, .inl (upd f0_a (x1).toNatClampNeg x4))), (h0_b, .inl (cI, L0, .inl (upd f0_b (x1).toNatClampNeg x5))), (h0_d, .inl (cI, L0, .inl (upd f0_d (x1).toNatClampNeg x3))), (h0_kind, .inl (cI, L0, .inl (upd f0_kind (x1).toNatClampNeg x2)))] H := hP
    have hD : va_D A [(h0, .inr (5, [.ref h0_kind, .ref h0_d, .ref h0_a, .ref h0_b, .int v0_count])), (h0_a, .inl (cI, L0, .inl (upd f0_a (x1).toNatClampNeg x4))), (h0_b, .inl (cI, L0, .inl (upd f0_b (x1).toNatClampNeg x5))), (h0_d, .inl (cI, L0, .inl (upd f0_d (x1).toNatClampNeg x3))), (h0_kind, .inl (cI, L0, .inl (upd f0_kind (x1).toNatClampNeg x2)))] := hD
    refine lv_iload hx hb dX6_put_79 (lv_at hl 0 rfl) ?_
    refine lv_if_ne (tgt := 88) hx hb dX6_put_81 (by decide) (fun c5 => ?_) (fun c5 => ?_)
    · have hf := ite_e hf c5
      refine lv_iconst (v := (0 : Int32)) hx hb dX6_put_88 (by decide) ?_
      have z6 : (0 : Int32) = 0 ∨ (0 : Int32) = 1 := by decide
      have hf := Option.some.inj hf
      subst hf
      exact g_zret hx hb hr hlocks (hP.sub [0, 1, 2, 3, 4] rfl) (hD.sub [0, 1, 2, 3, 4] (by decide) rfl) hK hS rfl z6 dX6_put_89
    · have hf := ite_t hf c5
      refine lv_iconst (v := (1 : Int32)) hx hb dX6_put_84 (by decide) ?_
      refine lv_goto (tgt := 89) hx hb dX6_put_85 (by decide) ?_
      have z7 : (1 : Int32) = 0 ∨ (1 : Int32) = 1 := by decide
      have hf := Option.some.inj hf
      subst hf
      exact g_zret hx hb hr hlocks (hP.sub [0, 1, 2, 3, 4] rfl) (hD.sub [0, 1, 2, 3, 4] (by decide) rfl) hK hS rfl z7 dX6_put_89
  unfold f_X6_put at hf
  refine lv_aload_n hx hb dX6_put_0 rfl (lv_at hl 0 rfl) ?_
  refine va_get (D := D) (ci := 5) (v := .ref h0_kind) (C := RX6) (T := TX6) (N := 5) hx hb hts iw_X6_put_X6 hown hK hP 0 rfl rfl 0 (by decide) fl_15 (fun _ h9 => h9) rfl dX6_put_1 ?_
  refine lv_iload_n hx hb dX6_put_4 rfl (lv_at hl 1 rfl) ?_
  obtain ⟨i8, hf⟩ := gd_some hf
  refine va_iald hx hb hK hP 4 0 rfl rfl i8 dX6_put_5 ?_
  refine lv_iload_n hx hb dX6_put_6 rfl (lv_at hl 2 rfl) ?_
  refine lv_icmp_ne (tgt := 46) hx hb dX6_put_7 (by decide) (fun c9 => ?_) (fun c9 => ?_)
  · have hf := ite_e hf c9
    refine lv_iconst (v := (0 : Int32)) hx hb dX6_put_46 (by decide) ?_
    exact hJ_47 _ _ _ _ _ _ _ _ _ _ _ _ ls hf (hP.sub [0, 1, 2, 3, 4] rfl) (hD.sub [0, 1, 2, 3, 4] (by decide) rfl) hS (lv_sub hl [0, 1, 2, 3, 4, 5] rfl)
  · have hf := ite_t hf c9
    refine lv_aload_n hx hb dX6_put_10 rfl (lv_at hl 0 rfl) ?_
    refine va_get (D := D) (ci := 5) (v := .ref h0_d) (C := RX6) (T := TX6) (N := 5) hx hb hts iw_X6_put_X6 hown hK hP 0 rfl rfl 1 (by decide) fl_19 (fun _ h9 => h9) rfl dX6_put_11 ?_
    refine lv_iload_n hx hb dX6_put_14 rfl (lv_at hl 1 rfl) ?_
    obtain ⟨i10, hf⟩ := gd_some hf
    refine va_iald hx hb hK hP 3 0 rfl rfl i10 dX6_put_15 ?_
    refine lv_iload_n hx hb dX6_put_16 rfl (lv_at hl 3 rfl) ?_
    refine lv_icmp_ne (tgt := 46) hx hb dX6_put_17 (by decide) (fun c11 => ?_) (fun c11 => ?_)
    · have hf := ite_e hf c11
      refine lv_iconst (v := (0 : Int32)) hx hb dX6_put_46 (by decide) ?_
      exact hJ_47 _ _ _ _ _ _ _ _ _ _ _ _ ls hf (hP.sub [0, 1, 2, 3, 4] rfl) (hD.sub [0, 1, 2, 3, 4] (by decide) rfl) hS (lv_sub hl [0, 1, 2, 3, 4, 5] rfl)
    · have hf := ite_t hf c11
      refine lv_aload_n hx hb dX6_put_20 rfl (lv_at hl 0 rfl) ?_
      refine va_get (D := D) (ci := 5) (v := .ref h0_a) (C := RX6) (T := TX6) (N := 5) hx hb hts iw_X6_put_X6 hown hK hP 0 rfl rfl 2 (by decide) fl_22 (fun _ h9 => h9) rfl dX6_put_21 ?_
      refine lv_iload_n hx hb dX6_put_24 rfl (lv_at hl 1 rfl) ?_
      obtain ⟨i12, hf⟩ := gd_some hf
      refine va_iald hx hb hK hP 1 0 rfl rfl i12 dX6_put_25 ?_
      refine lv_iload hx hb dX6_put_26 (lv_at hl 4 rfl) ?_
      refine lv_icmp_ne (tgt := 46) hx hb dX6_put_28 (by decide) (fun c13 => ?_) (fun c13 => ?_)
      · have hf := ite_e hf c13
        refine lv_iconst (v := (0 : Int32)) hx hb dX6_put_46 (by decide) ?_
        exact hJ_47 _ _ _ _ _ _ _ _ _ _ _ _ ls hf (hP.sub [0, 1, 2, 3, 4] rfl) (hD.sub [0, 1, 2, 3, 4] (by decide) rfl) hS (lv_sub hl [0, 1, 2, 3, 4, 5] rfl)
      · have hf := ite_t hf c13
        refine lv_aload_n hx hb dX6_put_31 rfl (lv_at hl 0 rfl) ?_
        refine va_get (D := D) (ci := 5) (v := .ref h0_b) (C := RX6) (T := TX6) (N := 5) hx hb hts iw_X6_put_X6 hown hK hP 0 rfl rfl 3 (by decide) fl_25 (fun _ h9 => h9) rfl dX6_put_32 ?_
        refine lv_iload_n hx hb dX6_put_35 rfl (lv_at hl 1 rfl) ?_
        obtain ⟨i14, hf⟩ := gd_some hf
        refine va_iald hx hb hK hP 2 0 rfl rfl i14 dX6_put_36 ?_
        refine lv_iload hx hb dX6_put_37 (lv_at hl 5 rfl) ?_
        refine lv_icmp_ne (tgt := 46) hx hb dX6_put_39 (by decide) (fun c15 => ?_) (fun c15 => ?_)
        · have hf := ite_e hf c15
          refine lv_iconst (v := (0 : Int32)) hx hb dX6_put_46 (by decide) ?_
          exact hJ_47 _ _ _ _ _ _ _ _ _ _ _ _ ls hf (hP.sub [0, 1, 2, 3, 4] rfl) (hD.sub [0, 1, 2, 3, 4] (by decide) rfl) hS (lv_sub hl [0, 1, 2, 3, 4, 5] rfl)
        · have hf := ite_t hf c15
          refine lv_iconst (v := (1 : Int32)) hx hb dX6_put_42 (by decide) ?_
          refine lv_goto (tgt := 47) hx hb dX6_put_43 (by decide) ?_
          exact hJ_47 _ _ _ _ _ _ _ _ _ _ _ _ ls hf (hP.sub [0, 1, 2, 3, 4] rfl) (hD.sub [0, 1, 2, 3, 4] (by decide) rfl) hS (lv_sub hl [0, 1, 2, 3, 4, 5] rfl)

def f_X6_append  (L0 : Nat) (f0_a : (Nat → Int32)) (f0_b : (Nat → Int32)) (f0_d : (Nat → Int32)) (f0_kind : (Nat → Int32)) (v0_count : Int32) (x1 x2 x3 x4 : Int32) : Option ((Nat → Int32) × (Nat → Int32) × (Nat → Int32) × (Nat → Int32) × Int32) := if (Int32.ofNat L0) ≤ v0_count then (some (f0_a, f0_b, f0_d, f0_kind, v0_count)) else ((f_X6_put L0 f0_a f0_b f0_d f0_kind ((v0_count + (1 : Int32)) - (1 : Int32)) x1 x2 x3 x4).bind (fun u2 => some (u2.2.1, u2.2.2.1, u2.2.2.2.1, u2.2.2.2.2, (v0_count + (1 : Int32)))))
theorem iw_X6_append_X6 : ∀ w ∈ wsX60, w ∈ wsX6_append := by decide +kernel
set_option maxHeartbeats 4000000 in
set_option maxRecDepth 100000 in
theorem c_X6_append (l : Launch) (D : va_G) (cI cZ : ClassId) (h0 h0_kind h0_d h0_a h0_b : Nat) (sz : Nat) (L0 : Nat) (f0_a f0_b f0_d f0_kind : Nat → Int32) (v0_count : Int32)  (x1 x2 x3 x4 : Int32) (res : ((Nat → Int32) × (Nat → Int32) × (Nat → Int32) × (Nat → Int32) × Int32)) (hf : f_X6_append L0 f0_a f0_b f0_d f0_kind v0_count x1 x2 x3 x4 = some res) : Ct_v l yX6_append wsX6_append ({ frames := 1, cells := 0, slots := 0, locals := 26 }) D [(cI, .int), (cZ, .boolean)] [.ref h0, .int x1, .int x2, .int x3, .int x4] sz [(h0, .inr (5, [.ref h0_kind, .ref h0_d, .ref h0_a, .ref h0_b, .int v0_count])), (h0_a, .inl (cI, L0, .inl f0_a)), (h0_b, .inl (cI, L0, .inl f0_b)), (h0_d, .inl (cI, L0, .inl f0_d)), (h0_kind, .inl (cI, L0, .inl f0_kind))] [(h0, .inr (5, [.ref h0_kind, .ref h0_d, .ref h0_a, .ref h0_b, .int res.2.2.2.2])), (h0_a, .inl (cI, L0, .inl res.1)), (h0_b, .inl (cI, L0, .inl res.2.1)), (h0_d, .inl (cI, L0, .inl res.2.2.1)), (h0_kind, .inl (cI, L0, .inl res.2.2.2.1))] := by
  refine g_of (cc := cX6_append) (maxL := 5) (ret := none) (QQ := (fun A => g_Qv D [(cI, .int), (cZ, .boolean)] A [(h0, .inr (5, [.ref h0_kind, .ref h0_d, .ref h0_a, .ref h0_b, .int res.2.2.2.2])), (h0_a, .inl (cI, L0, .inl res.1)), (h0_b, .inl (cI, L0, .inl res.2.1)), (h0_d, .inl (cI, L0, .inl res.2.2.1)), (h0_kind, .inl (cI, L0, .inl res.2.2.2.1))])) (by decide) rfl (Nat.le_of_ble_eq_true rfl) ?_
  intro p e s m args below meth c A ls S hr hlocks hA hP hK hD hl
  show W p l e ({ frames := 1, cells := 0, slots := 0, locals := 26 }) s m args below meth c s.heap [] 0 0 (MQ below (g_Qv D [(cI, .int), (cZ, .boolean)] A [(h0, .inr (5, [.ref h0_kind, .ref h0_d, .ref h0_a, .ref h0_b, .int res.2.2.2.2])), (h0_a, .inl (cI, L0, .inl res.1)), (h0_b, .inl (cI, L0, .inl res.2.1)), (h0_d, .inl (cI, L0, .inl res.2.2.1)), (h0_kind, .inl (cI, L0, .inl res.2.2.2.1))]) args s 0 0 A) (F0 m 0 ls [])
  have hx := S.1
  have hb := S.2.1
  have hml := S.2.2.1
  have hown := S.2.2.2.1
  have hts := S.2.2.2.2
  have fl_15 := hts (.fieldLink RX6 15 "PassPipeline$Program" "kind" "[I") (by decide +kernel)
  have fl_9 := hts (.fieldLink RX6 9 "PassPipeline$Program" "count" "I") (by decide +kernel)
  have hS : va_S A s.heap s.heap [] := va_S.rf
  have hl : lv_has ls 5 [(0, .ref h0), (1, .int x1), (2, .int x2), (3, .int x3), (4, .int x4)] := hl
  unfold f_X6_append at hf
  refine lv_aload_n hx hb dX6_append_0 rfl (lv_at hl 0 rfl) ?_
  refine va_get (D := D) (ci := 5) (v := .int v0_count) (C := RX6) (T := TX6) (N := 5) hx hb hts iw_X6_append_X6 hown hK hP 0 rfl rfl 4 (by decide) fl_9 (fun _ h9 => h9) rfl dX6_append_1 ?_
  refine lv_aload_n hx hb dX6_append_4 rfl (lv_at hl 0 rfl) ?_
  refine va_get (D := D) (ci := 5) (v := .ref h0_kind) (C := RX6) (T := TX6) (N := 5) hx hb hts iw_X6_append_X6 hown hK hP 0 rfl rfl 0 (by decide) fl_15 (fun _ h9 => h9) rfl dX6_append_5 ?_
  refine va_alen (v := (Int32.ofNat L0)) hx hb hK hP 4 0 rfl rfl rfl dX6_append_8 ?_
  refine lv_icmp_ge (tgt := 38) hx hb dX6_append_9 (by decide) (fun c1 => ?_) (fun c1 => ?_)
  · have hf := ite_t hf c1
    have hf := Option.some.inj hf
    subst hf
    exact g_vret hx hb hr hlocks (hP.sub [0, 1, 2, 3, 4] rfl) (hD.sub [0, 1, 2, 3, 4] (by decide) rfl) hK hS dX6_append_38
  · have hf := ite_e hf c1
    refine lv_aload_n hx hb dX6_append_12 rfl (lv_at hl 0 rfl) ?_
    refine lv_dup hx hb dX6_append_13 rfl ?_
    refine va_get (D := D) (ci := 5) (v := .int v0_count) (C := RX6) (T := TX6) (N := 5) hx hb hts iw_X6_append_X6 hown hK hP 0 rfl rfl 4 (by decide) fl_9 (fun _ h9 => h9) rfl dX6_append_14 ?_
    refine lv_iconst (v := (1 : Int32)) hx hb dX6_append_17 (by decide) ?_
    refine lv_iadd hx hb dX6_append_18 ?_
    refine va_put (D := D) (ci := 5) (v := .int (v0_count + (1 : Int32))) (ty := .int) (C := RX6) (T := TX6) (N := 5) hx hb hts iw_X6_append_X6 tyX6 tyX6_ok nmX6 hown hK hP hD hS 0 rfl rfl 4 (by decide) fl_9 (fun _ h9 => h9) rfl (by decide +kernel) rfl rfl (Nat.le_of_ble_eq_true rfl) dX6_append_19 (fun H locs hP hD hS => ?_)
    have hP : va_P D vwCl [(h0, .inr (5, [.ref h0_kind, .ref h0_d, .ref h0_a, .ref h0_b, .int (v0_count + (1 : Int32))])), (h0_a, .inl (cI, L0, .inl f0_a)), (h0_b, .inl (cI, L0, .inl f0_b)), (h0_d, .inl (cI, L0, .inl f0_d)), (h0_kind, .inl (cI, L0, .inl f0_kind))] H := hP
    have hD : va_D A [(h0, .inr (5, [.ref h0_kind, .ref h0_d, .ref h0_a, .ref h0_b, .int (v0_count + (1 : Int32))])), (h0_a, .inl (cI, L0, .inl f0_a)), (h0_b, .inl (cI, L0, .inl f0_b)), (h0_d, .inl (cI, L0, .inl f0_d)), (h0_kind, .inl (cI, L0, .inl f0_kind))] := hD
    refine lv_aload_n hx hb dX6_append_22 rfl (lv_at hl 0 rfl) ?_
    refine lv_aload_n hx hb dX6_append_23 rfl (lv_at hl 0 rfl) ?_
    refine va_get (D := D) (ci := 5) (v := .int (v0_count + (1 : Int32))) (C := RX6) (T := TX6) (N := 5) hx hb hts iw_X6_append_X6 hown hK hP 0 rfl rfl 4 (by decide) fl_9 (fun _ h9 => h9) rfl dX6_append_24 ?_
    refine lv_iconst (v := (1 : Int32)) hx hb dX6_append_27 (by decide) ?_
    refine lv_isub hx hb dX6_append_28 ?_
    refine lv_iload_n hx hb dX6_append_29 rfl (lv_at hl 1 rfl) ?_
    refine lv_iload_n hx hb dX6_append_30 rfl (lv_at hl 2 rfl) ?_
    refine lv_iload_n hx hb dX6_append_31 rfl (lv_at hl 3 rfl) ?_
    refine lv_iload hx hb dX6_append_32 (lv_at hl 4 rfl) ?_
    obtain ⟨u2, g3, hf⟩ := bd_some hf
    refine g_callVi S (c_X6_put l D cI cZ h0 h0_kind h0_d h0_a h0_b _ L0 f0_a f0_b f0_d f0_kind (v0_count + (1 : Int32)) ((v0_count + (1 : Int32)) - (1 : Int32)) x1 x2 x3 x4 u2 g3) (cwV 5 hts gX6_append_X6_put rfl rfl rfl (by decide +kernel) ⟨Nat.le_of_ble_eq_true rfl, Nat.le_of_ble_eq_true rfl⟩) hK hP hD hS hA 0 (ci := 5) rfl rfl [0, 1, 2, 3, 4] [] [] rfl rfl (by decide) (by decide) (by decide) rfl hl.1 rfl (Nat.le_of_ble_eq_true rfl) dX6_append_34 ⟨Nat.le_of_ble_eq_true rfl, Nat.le_of_ble_eq_true rfl⟩ (fun H locs hP hD hS => ?_)
    have hP : va_P D vwCl [(h0, .inr (5, [.ref h0_kind, .ref h0_d, .ref h0_a, .ref h0_b, .int (v0_count + (1 : Int32))])), (h0_a, .inl (cI, L0, .inl u2.2.1)), (h0_b, .inl (cI, L0, .inl u2.2.2.1)), (h0_d, .inl (cI, L0, .inl u2.2.2.2.1)), (h0_kind, .inl (cI, L0, .inl u2.2.2.2.2))] H := hP
    have hD : va_D A [(h0, .inr (5, [.ref h0_kind, .ref h0_d, .ref h0_a, .ref h0_b, .int (v0_count + (1 : Int32))])), (h0_a, .inl (cI, L0, .inl u2.2.1)), (h0_b, .inl (cI, L0, .inl u2.2.2.1)), (h0_d, .inl (cI, L0, .inl u2.2.2.2.1)), (h0_kind, .inl (cI, L0, .inl u2.2.2.2.2))] := hD
    refine lv_pop hx hb dX6_append_37 rfl ?_
    have hf := Option.some.inj hf
    subst hf
    exact g_vret hx hb hr hlocks (hP.sub [0, 1, 2, 3, 4] rfl) (hD.sub [0, 1, 2, 3, 4] (by decide) rfl) hK hS dX6_append_38

def f_X6_copyFrom_7 (n : Nat)  : Nat → Nat → Nat → (Nat → Int32) → (Nat → Int32) → (Nat → Int32) → (Nat → Int32) → (Nat → Int32) → (Nat → Int32) → (Nat → Int32) → (Nat → Int32) → Int32 → Int32 → Int32 → Option ((Nat → Int32) × (Nat → Int32) × (Nat → Int32) × (Nat → Int32) × Int32)
  | 0, _, _, _, _, _, _, _, _, _, _, _, _, _ => none
  | k + 1, L0, L1, f0_a, f0_b, f0_d, f0_kind, f1_a, f1_b, f1_d, f1_kind, v0_count, v1_count, x2 => if v1_count ≤ x2 then (some (f0_a, f0_b, f0_d, f0_kind, v0_count)) else (gd x2 L1 (gd x2 L1 (gd x2 L1 (gd x2 L1 ((f_X6_append L0 f0_a f0_b f0_d f0_kind v0_count (f1_kind (x2).toNatClampNeg) (f1_d (x2).toNatClampNeg) (f1_a (x2).toNatClampNeg) (f1_b (x2).toNatClampNeg)).bind (fun u6 => f_X6_copyFrom_7 n k L0 L1 u6.1 u6.2.1 u6.2.2.1 u6.2.2.2.1 f1_a f1_b f1_d f1_kind u6.2.2.2.2 v1_count (x2 + (1 : Int32))))))))
def f_X6_copyFrom (n : Nat) (L0 L1 : Nat) (f0_a : (Nat → Int32)) (f0_b : (Nat → Int32)) (f0_d : (Nat → Int32)) (f0_kind : (Nat → Int32)) (f1_a : (Nat → Int32)) (f1_b : (Nat → Int32)) (f1_d : (Nat → Int32)) (f1_kind : (Nat → Int32)) (v0_count : Int32) (v1_count : Int32)  : Option ((Nat → Int32) × (Nat → Int32) × (Nat → Int32) × (Nat → Int32) × Int32) := f_X6_copyFrom_7 n n L0 L1 f0_a f0_b f0_d f0_kind f1_a f1_b f1_d f1_kind (0 : Int32) v1_count (0 : Int32)
theorem iw_X6_copyFrom_X6 : ∀ w ∈ wsX60, w ∈ wsX6_copyFrom := by decide +kernel
set_option maxHeartbeats 4000000 in
set_option maxRecDepth 100000 in
theorem c_X6_copyFrom (l : Launch) (D : va_G) (cI cZ : ClassId) (h0 h1 h0_kind h0_d h0_a h0_b h1_kind h1_d h1_a h1_b : Nat) (sz : Nat) (L0 L1 : Nat) (f0_a f0_b f0_d f0_kind f1_a f1_b f1_d f1_kind : Nat → Int32) (v0_count v1_count : Int32) (n : Nat)  (res : ((Nat → Int32) × (Nat → Int32) × (Nat → Int32) × (Nat → Int32) × Int32)) (hf : f_X6_copyFrom n L0 L1 f0_a f0_b f0_d f0_kind f1_a f1_b f1_d f1_kind v0_count v1_count = some res) : Ct_v l yX6_copyFrom wsX6_copyFrom ({ frames := 2, cells := 0, slots := 0, locals := 50 }) D [(cI, .int), (cZ, .boolean)] [.ref h0, .ref h1] sz [(h0, .inr (5, [.ref h0_kind, .ref h0_d, .ref h0_a, .ref h0_b, .int v0_count])), (h0_a, .inl (cI, L0, .inl f0_a)), (h0_b, .inl (cI, L0, .inl f0_b)), (h0_d, .inl (cI, L0, .inl f0_d)), (h0_kind, .inl (cI, L0, .inl f0_kind)), (h1, .inr (5, [.ref h1_kind, .ref h1_d, .ref h1_a, .ref h1_b, .int v1_count])), (h1_a, .inl (cI, L1, .inl f1_a)), (h1_b, .inl (cI, L1, .inl f1_b)), (h1_d, .inl (cI, L1, .inl f1_d)), (h1_kind, .inl (cI, L1, .inl f1_kind))] [(h0, .inr (5, [.ref h0_kind, .ref h0_d, .ref h0_a, .ref h0_b, .int res.2.2.2.2])), (h0_a, .inl (cI, L0, .inl res.1)), (h0_b, .inl (cI, L0, .inl res.2.1)), (h0_d, .inl (cI, L0, .inl res.2.2.1)), (h0_kind, .inl (cI, L0, .inl res.2.2.2.1)), (h1, .inr (5, [.ref h1_kind, .ref h1_d, .ref h1_a, .ref h1_b, .int v1_count])), (h1_a, .inl (cI, L1, .inl f1_a)), (h1_b, .inl (cI, L1, .inl f1_b)), (h1_d, .inl (cI, L1, .inl f1_d)), (h1_kind, .inl (cI, L1, .inl f1_kind))] := by
  refine g_of (cc := cX6_copyFrom) (maxL := 3) (ret := none) (QQ := (fun A => g_Qv D [(cI, .int), (cZ, .boolean)] A [(h0, .inr (5, [.ref h0_kind, .ref h0_d, .ref h0_a, .ref h0_b, .int res.2.2.2.2])), (h0_a, .inl (cI, L0, .inl res.1)), (h0_b, .inl (cI, L0, .inl res.2.1)), (h0_d, .inl (cI, L0, .inl res.2.2.1)), (h0_kind, .inl (cI, L0, .inl res.2.2.2.1)), (h1, .inr (5, [.ref h1_kind, .ref h1_d, .ref h1_a, .ref h1_b, .int v1_count])), (h1_a, .inl (cI, L1, .inl f1_a)), (h1_b, .inl (cI, L1, .inl f1_b)), (h1_d, .inl (cI, L1, .inl f1_d)), (h1_kind, .inl (cI, L1, .inl f1_kind))])) (by decide) rfl (Nat.le_of_ble_eq_true rfl) ?_
  intro p e s m args below meth c A ls S hr hlocks hA hP hK hD hl
  show W p l e ({ frames := 2, cells := 0, slots := 0, locals := 50 }) s m args below meth c s.heap [] 0 0 (MQ below (g_Qv D [(cI, .int), (cZ, .boolean)] A [(h0, .inr (5, [.ref h0_kind, .ref h0_d, .ref h0_a, .ref h0_b, .int res.2.2.2.2])), (h0_a, .inl (cI, L0, .inl res.1)), (h0_b, .inl (cI, L0, .inl res.2.1)), (h0_d, .inl (cI, L0, .inl res.2.2.1)), (h0_kind, .inl (cI, L0, .inl res.2.2.2.1)), (h1, .inr (5, [.ref h1_kind, .ref h1_d, .ref h1_a, .ref h1_b, .int v1_count])), (h1_a, .inl (cI, L1, .inl f1_a)), (h1_b, .inl (cI, L1, .inl f1_b)), (h1_d, .inl (cI, L1, .inl f1_d)), (h1_kind, .inl (cI, L1, .inl f1_kind))]) args s 0 0 A) (F0 m 0 ls [])
  have hx := S.1
  have hb := S.2.1
  have hml := S.2.2.1
  have hown := S.2.2.2.1
  have hts := S.2.2.2.2
  have fl_15 := hts (.fieldLink RX6 15 "PassPipeline$Program" "kind" "[I") (by decide +kernel)
  have fl_19 := hts (.fieldLink RX6 19 "PassPipeline$Program" "d" "[I") (by decide +kernel)
  have fl_22 := hts (.fieldLink RX6 22 "PassPipeline$Program" "a" "[I") (by decide +kernel)
  have fl_25 := hts (.fieldLink RX6 25 "PassPipeline$Program" "b" "[I") (by decide +kernel)
  have fl_9 := hts (.fieldLink RX6 9 "PassPipeline$Program" "count" "I") (by decide +kernel)
  have hS : va_S A s.heap s.heap [] := va_S.rf
  have hl : lv_has ls 3 [(0, .ref h0), (1, .ref h1)] := hl
  have hJ_7 : ∀ (k : Nat) (f0_a : (Nat → Int32)) (f0_b : (Nat → Int32)) (f0_d : (Nat → Int32)) (f0_kind : (Nat → Int32)) (v0_count : Int32) (x2 : Int32) (H : Heap) (locs : List Loc) (ls : Array Slot), f_X6_copyFrom_7 n k L0 L1 f0_a f0_b f0_d f0_kind f1_a f1_b f1_d f1_kind v0_count v1_count x2 = some res → va_P D vwCl [(h0, .inr (5, [.ref h0_kind, .ref h0_d, .ref h0_a, .ref h0_b, .int v0_count])), (h0_a, .inl (cI, L0, .inl f0_a)), (h0_b, .inl (cI, L0, .inl f0_b)), (h0_d, .inl (cI, L0, .inl f0_d)), (h0_kind, .inl (cI, L0, .inl f0_kind)), (h1, .inr (5, [.ref h1_kind, .ref h1_d, .ref h1_a, .ref h1_b, .int v1_count])), (h1_a, .inl (cI, L1, .inl f1_a)), (h1_b, .inl (cI, L1, .inl f1_b)), (h1_d, .inl (cI, L1, .inl f1_d)), (h1_kind, .inl (cI, L1, .inl f1_kind))] H → va_D A [(h0, .inr (5, [.ref h0_kind, .ref h0_d, .ref h0_a, .ref h0_b, .int v0_count])), (h0_a, .inl (cI, L0, .inl f0_a)), (h0_b, .inl (cI, L0, .inl f0_b)), (h0_d, .inl (cI, L0, .inl f0_d)), (h0_kind, .inl (cI, L0, .inl f0_kind)), (h1, .inr (5, [.ref h1_kind, .ref h1_d, .ref h1_a, .ref h1_b, .int v1_count])), (h1_a, .inl (cI, L1, .inl f1_a)), (h1_b, .inl (cI, L1, .inl f1_b)), (h1_d, .inl (cI, L1, .inl f1_d)), (h1_kind, .inl (cI, L1, .inl f1_kind))] → va_S A s.heap H locs → lv_has ls 3 [(0, .ref h0), (1, .ref h1), (2, .int x2)] → W p l e ({ frames := 2, cells := 0, slots := 0, locals := 50 }) s m args below meth c H locs 0 0 (MQ below (g_Qv D [(cI, .int), (cZ, .boolean)] A [(h0, .inr (5, [.ref h0_kind, .ref h0_d, .ref h0_a, .ref h0_b, .int res.2.2.2.2])), (h0_a, .inl (cI, L0, .inl res.1)), (h0_b, .inl (cI, L0, .inl res.2.1)), (h0_d, .inl (cI, L0, .inl res.2.2.1)), (h0_kind, .inl (cI, L0, .inl res.2.2.2.1)), (h1, .inr (5, [.ref h1_kind, .ref h1_d, .ref h1_a, .ref h1_b, .int v1_count])), (h1_a, .inl (cI, L1, .inl f1_a)), (h1_b, .inl (cI, L1, .inl f1_b)), (h1_d, .inl (cI, L1, .inl f1_d)), (h1_kind, .inl (cI, L1, .inl f1_kind))]) args s 0 0 A) (F0 m 7 ls []) := by
    intro k
    induction k with
    | zero => intro f0_a f0_b f0_d f0_kind v0_count x2 H locs ls hf; rw [f_X6_copyFrom_7] at hf; cases hf
    | succ m_7 ih =>
      have ih_7 : ∀ (f0_a : (Nat → Int32)) (f0_b : (Nat → Int32)) (f0_d : (Nat → Int32)) (f0_kind : (Nat → Int32)) (v0_count : Int32) (x2 : Int32) (H : Heap) (locs : List Loc) (ls : Array Slot), (fun f0_a' f0_b' f0_d' f0_kind' v0_count' x2' => f_X6_copyFrom_7 n m_7 L0 L1 f0_a' f0_b' f0_d' f0_kind' f1_a f1_b f1_d f1_kind v0_count' v1_count x2') f0_a f0_b f0_d f0_kind v0_count x2 = some res → va_P D vwCl [(h0, .inr (5, [.ref h0_kind, .ref h0_d, .ref h0_a, .ref h0_b, .int v0_count])), (h0_a, .inl (cI, L0, .inl f0_a)), (h0_b, .inl (cI, L0, .inl f0_b)), (h0_d, .inl (cI, L0, .inl f0_d)), (h0_kind, .inl (cI, L0, .inl f0_kind)), (h1, .inr (5, [.ref h1_kind, .ref h1_d, .ref h1_a, .ref h1_b, .int v1_count])), (h1_a, .inl (cI, L1, .inl f1_a)), (h1_b, .inl (cI, L1, .inl f1_b)), (h1_d, .inl (cI, L1, .inl f1_d)), (h1_kind, .inl (cI, L1, .inl f1_kind))] H → va_D A [(h0, .inr (5, [.ref h0_kind, .ref h0_d, .ref h0_a, .ref h0_b, .int v0_count])), (h0_a, .inl (cI, L0, .inl f0_a)), (h0_b, .inl (cI, L0, .inl f0_b)), (h0_d, .inl (cI, L0, .inl f0_d)), (h0_kind, .inl (cI, L0, .inl f0_kind)), (h1, .inr (5, [.ref h1_kind, .ref h1_d, .ref h1_a, .ref h1_b, .int v1_count])), (h1_a, .inl (cI, L1, .inl f1_a)), (h1_b, .inl (cI, L1, .inl f1_b)), (h1_d, .inl (cI, L1, .inl f1_d)), (h1_kind, .inl (cI, L1, .inl f1_kind))] → va_S A s.heap H locs → lv_has ls 3 [(0, .ref h0), (1, .ref h1), (2, .int x2)] → W p l e ({ frames := 2, cells := 0, slots := 0, locals := 50 }) s m args below meth c H locs 0 0 (MQ below (g_Qv D [(cI, .int), (cZ, .boolean)] A [(h0, .inr (5, [.ref h0_kind, .ref h0_d, .ref h0_a, .ref h0_b, .int res.2.2.2.2])), (h0_a, .inl (cI, L0, .inl res.1)), (h0_b, .inl (cI, L0, .inl res.2.1)), (h0_d, .inl (cI, L0, .inl res.2.2.1)), (h0_kind, .inl (cI, L0, .inl res.2.2.2.1)), (h1, .inr (5, [.ref h1_kind, .ref h1_d, .ref h1_a, .ref h1_b, .int v1_count])), (h1_a, .inl (cI, L1, .inl f1_a)), (h1_b, .inl (cI, L1, .inl f1_b)), (h1_d, .inl (cI, L1, .inl f1_d)), (h1_kind, .inl (cI, L1, .inl f1_kind))]) args s 0 0 A) (F0 m 7 ls []) := ih
      intro f0_a f0_b f0_d f0_kind v0_count x2 H locs ls hf hP hD hS hl
      rw [f_X6_copyFrom_7] at hf
      refine lv_iload_n hx hb dX6_copyFrom_7 rfl (lv_at hl 2 rfl) ?_
      refine lv_aload_n hx hb dX6_copyFrom_8 rfl (lv_at hl 1 rfl) ?_
      refine va_get (D := D) (ci := 5) (v := .int v1_count) (C := RX6) (T := TX6) (N := 5) hx hb hts iw_X6_copyFrom_X6 hown hK hP 5 rfl rfl 4 (by decide) fl_9 (fun _ h9 => h9) rfl dX6_copyFrom_9 ?_
      refine lv_icmp_ge (tgt := 49) hx hb dX6_copyFrom_12 (by decide) (fun c1 => ?_) (fun c1 => ?_)
      · have hf := ite_t hf c1
        have hf := Option.some.inj hf
        subst hf
        exact g_vret hx hb hr hlocks (hP.sub [0, 1, 2, 3, 4, 5, 6, 7, 8, 9] rfl) (hD.sub [0, 1, 2, 3, 4, 5, 6, 7, 8, 9] (by decide) rfl) hK hS dX6_copyFrom_49
      · have hf := ite_e hf c1
        refine lv_aload_n hx hb dX6_copyFrom_15 rfl (lv_at hl 0 rfl) ?_
        refine lv_aload_n hx hb dX6_copyFrom_16 rfl (lv_at hl 1 rfl) ?_
        refine va_get (D := D) (ci := 5) (v := .ref h1_kind) (C := RX6) (T := TX6) (N := 5) hx hb hts iw_X6_copyFrom_X6 hown hK hP 5 rfl rfl 0 (by decide) fl_15 (fun _ h9 => h9) rfl dX6_copyFrom_17 ?_
        refine lv_iload_n hx hb dX6_copyFrom_20 rfl (lv_at hl 2 rfl) ?_
        obtain ⟨i2, hf⟩ := gd_some hf
        refine va_iald hx hb hK hP 9 0 rfl rfl i2 dX6_copyFrom_21 ?_
        refine lv_aload_n hx hb dX6_copyFrom_22 rfl (lv_at hl 1 rfl) ?_
        refine va_get (D := D) (ci := 5) (v := .ref h1_d) (C := RX6) (T := TX6) (N := 5) hx hb hts iw_X6_copyFrom_X6 hown hK hP 5 rfl rfl 1 (by decide) fl_19 (fun _ h9 => h9) rfl dX6_copyFrom_23 ?_
        refine lv_iload_n hx hb dX6_copyFrom_26 rfl (lv_at hl 2 rfl) ?_
        obtain ⟨i3, hf⟩ := gd_some hf
        refine va_iald hx hb hK hP 8 0 rfl rfl i3 dX6_copyFrom_27 ?_
        refine lv_aload_n hx hb dX6_copyFrom_28 rfl (lv_at hl 1 rfl) ?_
        refine va_get (D := D) (ci := 5) (v := .ref h1_a) (C := RX6) (T := TX6) (N := 5) hx hb hts iw_X6_copyFrom_X6 hown hK hP 5 rfl rfl 2 (by decide) fl_22 (fun _ h9 => h9) rfl dX6_copyFrom_29 ?_
        refine lv_iload_n hx hb dX6_copyFrom_32 rfl (lv_at hl 2 rfl) ?_
        obtain ⟨i4, hf⟩ := gd_some hf
        refine va_iald hx hb hK hP 6 0 rfl rfl i4 dX6_copyFrom_33 ?_
        refine lv_aload_n hx hb dX6_copyFrom_34 rfl (lv_at hl 1 rfl) ?_
        refine va_get (D := D) (ci := 5) (v := .ref h1_b) (C := RX6) (T := TX6) (N := 5) hx hb hts iw_X6_copyFrom_X6 hown hK hP 5 rfl rfl 3 (by decide) fl_25 (fun _ h9 => h9) rfl dX6_copyFrom_35 ?_
        refine lv_iload_n hx hb dX6_copyFrom_38 rfl (lv_at hl 2 rfl) ?_
        obtain ⟨i5, hf⟩ := gd_some hf
        refine va_iald hx hb hK hP 7 0 rfl rfl i5 dX6_copyFrom_39 ?_
        obtain ⟨u6, g7, hf⟩ := bd_some hf
        refine g_callVv S (c_X6_append l D cI cZ h0 h0_kind h0_d h0_a h0_b _ L0 f0_a f0_b f0_d f0_kind v0_count (f1_kind (x2).toNatClampNeg) (f1_d (x2).toNatClampNeg) (f1_a (x2).toNatClampNeg) (f1_b (x2).toNatClampNeg) u6 g7) (cwV 4 hts gX6_copyFrom_X6_append rfl rfl rfl (by decide +kernel) ⟨Nat.le_of_ble_eq_true rfl, Nat.le_of_ble_eq_true rfl⟩) hK hP hD hS hA 0 (ci := 5) rfl rfl [0, 1, 2, 3, 4] [5, 6, 7, 8, 9] [(h1, .inr (5, [.ref h1_kind, .ref h1_d, .ref h1_a, .ref h1_b, .int v1_count])), (h1_a, .inl (cI, L1, .inl f1_a)), (h1_b, .inl (cI, L1, .inl f1_b)), (h1_d, .inl (cI, L1, .inl f1_d)), (h1_kind, .inl (cI, L1, .inl f1_kind))] rfl rfl (by decide) (by decide) (by decide) rfl hl.1 rfl (Nat.le_of_ble_eq_true rfl) dX6_copyFrom_40 ⟨Nat.le_of_ble_eq_true rfl, Nat.le_of_ble_eq_true rfl⟩ (fun H locs hP hD hS => ?_)
        have hP : va_P D vwCl [(h1, .inr (5, [.ref h1_kind, .ref h1_d, .ref h1_a, .ref h1_b, .int v1_count])), (h1_a, .inl (cI, L1, .inl f1_a)), (h1_b, .inl (cI, L1, .inl f1_b)), (h1_d, .inl (cI, L1, .inl f1_d)), (h1_kind, .inl (cI, L1, .inl f1_kind)), (h0, .inr (5, [.ref h0_kind, .ref h0_d, .ref h0_a, .ref h0_b, .int u6.2.2.2.2])), (h0_a, .inl (cI, L0, .inl u6.1)), (h0_b, .inl (cI, L0, .inl u6.2.1)), (h0_d, .inl (cI, L0, .inl u6.2.2.1)), (h0_kind, .inl (cI, L0, .inl u6.2.2.2.1))] H := hP
        have hD : va_D A [(h1, .inr (5, [.ref h1_kind, .ref h1_d, .ref h1_a, .ref h1_b, .int v1_count])), (h1_a, .inl (cI, L1, .inl f1_a)), (h1_b, .inl (cI, L1, .inl f1_b)), (h1_d, .inl (cI, L1, .inl f1_d)), (h1_kind, .inl (cI, L1, .inl f1_kind)), (h0, .inr (5, [.ref h0_kind, .ref h0_d, .ref h0_a, .ref h0_b, .int u6.2.2.2.2])), (h0_a, .inl (cI, L0, .inl u6.1)), (h0_b, .inl (cI, L0, .inl u6.2.1)), (h0_d, .inl (cI, L0, .inl u6.2.2.1)), (h0_kind, .inl (cI, L0, .inl u6.2.2.2.1))] := hD
        refine lv_iinc (v := (x2 + (1 : Int32))) (lv' := [(2, .int (x2 + (1 : Int32))), (0, .ref h0), (1, .ref h1)]) hx hb dX6_copyFrom_43 hl (k := 2) rfl rfl (by decide) rfl (fun ls hl => ?_)
        refine lv_goto (tgt := 7) hx hb dX6_copyFrom_46 (by decide) ?_
        exact ih_7 _ _ _ _ _ _ _ _ ls hf (hP.sub [5, 6, 7, 8, 9, 0, 1, 2, 3, 4] rfl) (hD.sub [5, 6, 7, 8, 9, 0, 1, 2, 3, 4] (by decide) rfl) hS (lv_sub hl [1, 2, 0] rfl)
  unfold f_X6_copyFrom at hf
  refine lv_aload_n hx hb dX6_copyFrom_0 rfl (lv_at hl 0 rfl) ?_
  refine lv_iconst (v := (0 : Int32)) hx hb dX6_copyFrom_1 (by decide) ?_
  refine va_put (D := D) (ci := 5) (v := .int (0 : Int32)) (ty := .int) (C := RX6) (T := TX6) (N := 5) hx hb hts iw_X6_copyFrom_X6 tyX6 tyX6_ok nmX6 hown hK hP hD hS 0 rfl rfl 4 (by decide) fl_9 (fun _ h9 => h9) rfl (by decide +kernel) rfl rfl (Nat.le_of_ble_eq_true rfl) dX6_copyFrom_2 (fun H locs hP hD hS => ?_)
  have hP : va_P D vwCl [(h0, .inr (5, [.ref h0_kind, .ref h0_d, .ref h0_a, .ref h0_b, .int (0 : Int32)])), (h0_a, .inl (cI, L0, .inl f0_a)), (h0_b, .inl (cI, L0, .inl f0_b)), (h0_d, .inl (cI, L0, .inl f0_d)), (h0_kind, .inl (cI, L0, .inl f0_kind)), (h1, .inr (5, [.ref h1_kind, .ref h1_d, .ref h1_a, .ref h1_b, .int v1_count])), (h1_a, .inl (cI, L1, .inl f1_a)), (h1_b, .inl (cI, L1, .inl f1_b)), (h1_d, .inl (cI, L1, .inl f1_d)), (h1_kind, .inl (cI, L1, .inl f1_kind))] H := hP
  have hD : va_D A [(h0, .inr (5, [.ref h0_kind, .ref h0_d, .ref h0_a, .ref h0_b, .int (0 : Int32)])), (h0_a, .inl (cI, L0, .inl f0_a)), (h0_b, .inl (cI, L0, .inl f0_b)), (h0_d, .inl (cI, L0, .inl f0_d)), (h0_kind, .inl (cI, L0, .inl f0_kind)), (h1, .inr (5, [.ref h1_kind, .ref h1_d, .ref h1_a, .ref h1_b, .int v1_count])), (h1_a, .inl (cI, L1, .inl f1_a)), (h1_b, .inl (cI, L1, .inl f1_b)), (h1_d, .inl (cI, L1, .inl f1_d)), (h1_kind, .inl (cI, L1, .inl f1_kind))] := hD
  refine lv_iconst (v := (0 : Int32)) hx hb dX6_copyFrom_5 (by decide) ?_
  refine lv_istore_n (lv' := [(2, .int (0 : Int32)), (0, .ref h0), (1, .ref h1)]) hx hb dX6_copyFrom_6 rfl hl (by decide) rfl (fun ls hl => ?_)
  exact hJ_7 n _ _ _ _ _ _ _ _ ls hf (hP.sub [0, 1, 2, 3, 4, 5, 6, 7, 8, 9] rfl) (hD.sub [0, 1, 2, 3, 4, 5, 6, 7, 8, 9] (by decide) rfl) hS (lv_sub hl [1, 2, 0] rfl)

def f_X6_isWhole_43 (n : Nat)  : Nat → Nat → (Nat → Int32) → (Nat → Int32) → Int32 → Int32 → Option Int32
  | 0, _, _, _, _, _ => none
  | k + 1, L0, f0_d, f0_kind, v0_count, x1 => if v0_count ≤ x1 then (some (1 : Int32)) else (gd x1 L0 ((f_X2_goesToD (f0_kind (x1).toNatClampNeg)).bind (fun u4 => if u4 = 0 then (f_X6_isWhole_43 n k L0 f0_d f0_kind v0_count (x1 + (1 : Int32))) else (gd x1 L0 (if (f0_d (x1).toNatClampNeg) < v0_count then (f_X6_isWhole_43 n k L0 f0_d f0_kind v0_count (x1 + (1 : Int32))) else (some (0 : Int32)))))))
def f_X6_isWhole (n : Nat) (L0 : Nat) (f0_d : (Nat → Int32)) (f0_kind : (Nat → Int32)) (v0_count : Int32)  : Option Int32 := if v0_count = 0 then (some (0 : Int32)) else (gd (v0_count - (1 : Int32)) L0 (if (f0_kind ((v0_count - (1 : Int32))).toNatClampNeg) = (9 : Int32) then (f_X6_isWhole_43 n n L0 f0_d f0_kind v0_count (0 : Int32)) else (gd (v0_count - (1 : Int32)) L0 (if (f0_kind ((v0_count - (1 : Int32))).toNatClampNeg) = (12 : Int32) then (f_X6_isWhole_43 n n L0 f0_d f0_kind v0_count (0 : Int32)) else (some (0 : Int32))))))
theorem iw_X6_isWhole_X6 : ∀ w ∈ wsX60, w ∈ wsX6_isWhole := by decide +kernel
set_option maxHeartbeats 4000000 in
set_option maxRecDepth 100000 in
theorem c_X6_isWhole (l : Launch) (D : va_G) (cI cZ : ClassId) (h0 h0_kind h0_d h0_a h0_b : Nat) (sz : Nat) (L0 : Nat) (f0_d f0_kind : Nat → Int32) (v0_count : Int32) (n : Nat)  (res : Int32) (hf : f_X6_isWhole n L0 f0_d f0_kind v0_count = some res) : Ct_i l yX6_isWhole wsX6_isWhole ({ frames := 1, cells := 0, slots := 0, locals := 20 }) D [(cI, .int), (cZ, .boolean)] [.ref h0] sz [(h0, .inr (5, [.ref h0_kind, .ref h0_d, .ref h0_a, .ref h0_b, .int v0_count])), (h0_d, .inl (cI, L0, .inl f0_d)), (h0_kind, .inl (cI, L0, .inl f0_kind))] res [(h0, .inr (5, [.ref h0_kind, .ref h0_d, .ref h0_a, .ref h0_b, .int v0_count])), (h0_d, .inl (cI, L0, .inl f0_d)), (h0_kind, .inl (cI, L0, .inl f0_kind))] := by
  refine g_of (cc := cX6_isWhole) (maxL := 2) (ret := some .boolean) (QQ := (fun A => g_Qi D [(cI, .int), (cZ, .boolean)] A res [(h0, .inr (5, [.ref h0_kind, .ref h0_d, .ref h0_a, .ref h0_b, .int v0_count])), (h0_d, .inl (cI, L0, .inl f0_d)), (h0_kind, .inl (cI, L0, .inl f0_kind))])) (by decide) rfl (Nat.le_of_ble_eq_true rfl) ?_
  intro p e s m args below meth c A ls S hr hlocks hA hP hK hD hl
  show W p l e ({ frames := 1, cells := 0, slots := 0, locals := 20 }) s m args below meth c s.heap [] 0 0 (MQ below (g_Qi D [(cI, .int), (cZ, .boolean)] A res [(h0, .inr (5, [.ref h0_kind, .ref h0_d, .ref h0_a, .ref h0_b, .int v0_count])), (h0_d, .inl (cI, L0, .inl f0_d)), (h0_kind, .inl (cI, L0, .inl f0_kind))]) args s 0 0 A) (F0 m 0 ls [])
  have hx := S.1
  have hb := S.2.1
  have hml := S.2.2.1
  have hown := S.2.2.2.1
  have hts := S.2.2.2.2
  have fl_15 := hts (.fieldLink RX6 15 "PassPipeline$Program" "kind" "[I") (by decide +kernel)
  have fl_19 := hts (.fieldLink RX6 19 "PassPipeline$Program" "d" "[I") (by decide +kernel)
  have fl_9 := hts (.fieldLink RX6 9 "PassPipeline$Program" "count" "I") (by decide +kernel)
  have hS : va_S A s.heap s.heap [] := va_S.rf
  have hl : lv_has ls 2 [(0, .ref h0)] := hl
  have hJ_43 : ∀ (k : Nat)  (x1 : Int32) (H : Heap) (locs : List Loc) (ls : Array Slot), f_X6_isWhole_43 n k L0 f0_d f0_kind v0_count x1 = some res → va_P D vwCl [(h0, .inr (5, [.ref h0_kind, .ref h0_d, .ref h0_a, .ref h0_b, .int v0_count])), (h0_d, .inl (cI, L0, .inl f0_d)), (h0_kind, .inl (cI, L0, .inl f0_kind))] H → va_D A [(h0, .inr (5, [.ref h0_kind, .ref h0_d, .ref h0_a, .ref h0_b, .int v0_count])), (h0_d, .inl (cI, L0, .inl f0_d)), (h0_kind, .inl (cI, L0, .inl f0_kind))] → va_S A s.heap H locs → lv_has ls 2 [(0, .ref h0), (1, .int x1)] → W p l e ({ frames := 1, cells := 0, slots := 0, locals := 20 }) s m args below meth c H locs 0 0 (MQ below (g_Qi D [(cI, .int), (cZ, .boolean)] A res [(h0, .inr (5, [.ref h0_kind, .ref h0_d, .ref h0_a, .ref h0_b, .int v0_count])), (h0_d, .inl (cI, L0, .inl f0_d)), (h0_kind, .inl (cI, L0, .inl f0_kind))]) args s 0 0 A) (F0 m 43 ls []) := by
    intro k
    induction k with
    | zero => intro x1 H locs ls hf; rw [f_X6_isWhole_43] at hf; cases hf
    | succ m_43 ih =>
      have ih_43 : ∀  (x1 : Int32) (H : Heap) (locs : List Loc) (ls : Array Slot), (fun x1' => f_X6_isWhole_43 n m_43 L0 f0_d f0_kind v0_count x1') x1 = some res → va_P D vwCl [(h0, .inr (5, [.ref h0_kind, .ref h0_d, .ref h0_a, .ref h0_b, .int v0_count])), (h0_d, .inl (cI, L0, .inl f0_d)), (h0_kind, .inl (cI, L0, .inl f0_kind))] H → va_D A [(h0, .inr (5, [.ref h0_kind, .ref h0_d, .ref h0_a, .ref h0_b, .int v0_count])), (h0_d, .inl (cI, L0, .inl f0_d)), (h0_kind, .inl (cI, L0, .inl f0_kind))] → va_S A s.heap H locs → lv_has ls 2 [(0, .ref h0), (1, .int x1)] → W p l e ({ frames := 1, cells := 0, slots := 0, locals := 20 }) s m args below meth c H locs 0 0 (MQ below (g_Qi D [(cI, .int), (cZ, .boolean)] A res [(h0, .inr (5, [.ref h0_kind, .ref h0_d, .ref h0_a, .ref h0_b, .int v0_count])), (h0_d, .inl (cI, L0, .inl f0_d)), (h0_kind, .inl (cI, L0, .inl f0_kind))]) args s 0 0 A) (F0 m 43 ls []) := ih
      intro x1 H locs ls hf hP hD hS hl
      rw [f_X6_isWhole_43] at hf
      refine lv_iload_n hx hb dX6_isWhole_43 rfl (lv_at hl 1 rfl) ?_
      refine lv_aload_n hx hb dX6_isWhole_44 rfl (lv_at hl 0 rfl) ?_
      refine va_get (D := D) (ci := 5) (v := .int v0_count) (C := RX6) (T := TX6) (N := 5) hx hb hts iw_X6_isWhole_X6 hown hK hP 0 rfl rfl 4 (by decide) fl_9 (fun _ h9 => h9) rfl dX6_isWhole_45 ?_
      refine lv_icmp_ge (tgt := 84) hx hb dX6_isWhole_48 (by decide) (fun c1 => ?_) (fun c1 => ?_)
      · have hf := ite_t hf c1
        refine lv_iconst (v := (1 : Int32)) hx hb dX6_isWhole_84 (by decide) ?_
        have z2 : (1 : Int32) = 0 ∨ (1 : Int32) = 1 := by decide
        have hf := Option.some.inj hf
        subst hf
        exact g_zret hx hb hr hlocks (hP.sub [0, 1, 2] rfl) (hD.sub [0, 1, 2] (by decide) rfl) hK hS rfl z2 dX6_isWhole_85
      · have hf := ite_e hf c1
        refine lv_aload_n hx hb dX6_isWhole_51 rfl (lv_at hl 0 rfl) ?_
        refine va_get (D := D) (ci := 5) (v := .ref h0_kind) (C := RX6) (T := TX6) (N := 5) hx hb hts iw_X6_isWhole_X6 hown hK hP 0 rfl rfl 0 (by decide) fl_15 (fun _ h9 => h9) rfl dX6_isWhole_52 ?_
        refine lv_iload_n hx hb dX6_isWhole_55 rfl (lv_at hl 1 rfl) ?_
        obtain ⟨i3, hf⟩ := gd_some hf
        refine va_iald hx hb hK hP 2 0 rfl rfl i3 dX6_isWhole_56 ?_
        obtain ⟨u4, g5, hf⟩ := bd_some hf
        refine g_callSi S (c_X2_goesToD l D cI cZ _ (f0_kind (x1).toNatClampNeg) u4 g5) (va_cwS 1 hts gX6_isWhole_X2_goesToD rfl rfl rfl (by decide +kernel) ⟨Nat.le_of_ble_eq_true rfl, Nat.le_of_ble_eq_true rfl⟩) hK hP hD hS hA [] [0, 1, 2] [(h0, .inr (5, [.ref h0_kind, .ref h0_d, .ref h0_a, .ref h0_b, .int v0_count])), (h0_d, .inl (cI, L0, .inl f0_d)), (h0_kind, .inl (cI, L0, .inl f0_kind))] rfl rfl (by decide) (by decide) (by decide) rfl hl.1 rfl (Nat.le_of_ble_eq_true rfl) dX6_isWhole_57 ⟨Nat.le_of_ble_eq_true rfl, Nat.le_of_ble_eq_true rfl⟩ (fun H locs hP hD hS => ?_)
        have hP : va_P D vwCl [(h0, .inr (5, [.ref h0_kind, .ref h0_d, .ref h0_a, .ref h0_b, .int v0_count])), (h0_d, .inl (cI, L0, .inl f0_d)), (h0_kind, .inl (cI, L0, .inl f0_kind))] H := hP
        have hD : va_D A [(h0, .inr (5, [.ref h0_kind, .ref h0_d, .ref h0_a, .ref h0_b, .int v0_count])), (h0_d, .inl (cI, L0, .inl f0_d)), (h0_kind, .inl (cI, L0, .inl f0_kind))] := hD
        refine lv_if_eq (tgt := 78) hx hb dX6_isWhole_60 (by decide) (fun c6 => ?_) (fun c6 => ?_)
        · have hf := ite_t hf c6
          refine lv_iinc (v := (x1 + (1 : Int32))) (lv' := [(1, .int (x1 + (1 : Int32))), (0, .ref h0)]) hx hb dX6_isWhole_78 hl (k := 1) rfl rfl (by decide) rfl (fun ls hl => ?_)
          refine lv_goto (tgt := 43) hx hb dX6_isWhole_81 (by decide) ?_
          exact ih_43 _ _ _ ls hf (hP.sub [0, 1, 2] rfl) (hD.sub [0, 1, 2] (by decide) rfl) hS (lv_sub hl [1, 0] rfl)
        · have hf := ite_e hf c6
          refine lv_aload_n hx hb dX6_isWhole_63 rfl (lv_at hl 0 rfl) ?_
          refine va_get (D := D) (ci := 5) (v := .ref h0_d) (C := RX6) (T := TX6) (N := 5) hx hb hts iw_X6_isWhole_X6 hown hK hP 0 rfl rfl 1 (by decide) fl_19 (fun _ h9 => h9) rfl dX6_isWhole_64 ?_
          refine lv_iload_n hx hb dX6_isWhole_67 rfl (lv_at hl 1 rfl) ?_
          obtain ⟨i7, hf⟩ := gd_some hf
          refine va_iald hx hb hK hP 1 0 rfl rfl i7 dX6_isWhole_68 ?_
          refine lv_aload_n hx hb dX6_isWhole_69 rfl (lv_at hl 0 rfl) ?_
          refine va_get (D := D) (ci := 5) (v := .int v0_count) (C := RX6) (T := TX6) (N := 5) hx hb hts iw_X6_isWhole_X6 hown hK hP 0 rfl rfl 4 (by decide) fl_9 (fun _ h9 => h9) rfl dX6_isWhole_70 ?_
          refine lv_icmp_lt (tgt := 78) hx hb dX6_isWhole_73 (by decide) (fun c8 => ?_) (fun c8 => ?_)
          · have hf := ite_t hf c8
            refine lv_iinc (v := (x1 + (1 : Int32))) (lv' := [(1, .int (x1 + (1 : Int32))), (0, .ref h0)]) hx hb dX6_isWhole_78 hl (k := 1) rfl rfl (by decide) rfl (fun ls hl => ?_)
            refine lv_goto (tgt := 43) hx hb dX6_isWhole_81 (by decide) ?_
            exact ih_43 _ _ _ ls hf (hP.sub [0, 1, 2] rfl) (hD.sub [0, 1, 2] (by decide) rfl) hS (lv_sub hl [1, 0] rfl)
          · have hf := ite_e hf c8
            refine lv_iconst (v := (0 : Int32)) hx hb dX6_isWhole_76 (by decide) ?_
            have z9 : (0 : Int32) = 0 ∨ (0 : Int32) = 1 := by decide
            have hf := Option.some.inj hf
            subst hf
            exact g_zret hx hb hr hlocks (hP.sub [0, 1, 2] rfl) (hD.sub [0, 1, 2] (by decide) rfl) hK hS rfl z9 dX6_isWhole_77
  unfold f_X6_isWhole at hf
  refine lv_aload_n hx hb dX6_isWhole_0 rfl (lv_at hl 0 rfl) ?_
  refine va_get (D := D) (ci := 5) (v := .int v0_count) (C := RX6) (T := TX6) (N := 5) hx hb hts iw_X6_isWhole_X6 hown hK hP 0 rfl rfl 4 (by decide) fl_9 (fun _ h9 => h9) rfl dX6_isWhole_1 ?_
  refine lv_if_eq (tgt := 39) hx hb dX6_isWhole_4 (by decide) (fun c10 => ?_) (fun c10 => ?_)
  · have hf := ite_t hf c10
    refine lv_iconst (v := (0 : Int32)) hx hb dX6_isWhole_39 (by decide) ?_
    have z11 : (0 : Int32) = 0 ∨ (0 : Int32) = 1 := by decide
    have hf := Option.some.inj hf
    subst hf
    exact g_zret hx hb hr hlocks (hP.sub [0, 1, 2] rfl) (hD.sub [0, 1, 2] (by decide) rfl) hK hS rfl z11 dX6_isWhole_40
  · have hf := ite_e hf c10
    refine lv_aload_n hx hb dX6_isWhole_7 rfl (lv_at hl 0 rfl) ?_
    refine va_get (D := D) (ci := 5) (v := .ref h0_kind) (C := RX6) (T := TX6) (N := 5) hx hb hts iw_X6_isWhole_X6 hown hK hP 0 rfl rfl 0 (by decide) fl_15 (fun _ h9 => h9) rfl dX6_isWhole_8 ?_
    refine lv_aload_n hx hb dX6_isWhole_11 rfl (lv_at hl 0 rfl) ?_
    refine va_get (D := D) (ci := 5) (v := .int v0_count) (C := RX6) (T := TX6) (N := 5) hx hb hts iw_X6_isWhole_X6 hown hK hP 0 rfl rfl 4 (by decide) fl_9 (fun _ h9 => h9) rfl dX6_isWhole_12 ?_
    refine lv_iconst (v := (1 : Int32)) hx hb dX6_isWhole_15 (by decide) ?_
    refine lv_isub hx hb dX6_isWhole_16 ?_
    obtain ⟨i12, hf⟩ := gd_some hf
    refine va_iald hx hb hK hP 2 0 rfl rfl i12 dX6_isWhole_17 ?_
    refine lv_bipush (v := (9 : Int32)) hx hb dX6_isWhole_18 (by decide +kernel) ?_
    refine lv_icmp_eq (tgt := 41) hx hb dX6_isWhole_20 (by decide) (fun c13 => ?_) (fun c13 => ?_)
    · have hf := ite_t hf c13
      refine lv_iconst (v := (0 : Int32)) hx hb dX6_isWhole_41 (by decide) ?_
      refine lv_istore_n (lv' := [(1, .int (0 : Int32)), (0, .ref h0)]) hx hb dX6_isWhole_42 rfl hl (by decide) rfl (fun ls hl => ?_)
      exact hJ_43 n _ _ _ ls hf (hP.sub [0, 1, 2] rfl) (hD.sub [0, 1, 2] (by decide) rfl) hS (lv_sub hl [1, 0] rfl)
    · have hf := ite_e hf c13
      refine lv_aload_n hx hb dX6_isWhole_23 rfl (lv_at hl 0 rfl) ?_
      refine va_get (D := D) (ci := 5) (v := .ref h0_kind) (C := RX6) (T := TX6) (N := 5) hx hb hts iw_X6_isWhole_X6 hown hK hP 0 rfl rfl 0 (by decide) fl_15 (fun _ h9 => h9) rfl dX6_isWhole_24 ?_
      refine lv_aload_n hx hb dX6_isWhole_27 rfl (lv_at hl 0 rfl) ?_
      refine va_get (D := D) (ci := 5) (v := .int v0_count) (C := RX6) (T := TX6) (N := 5) hx hb hts iw_X6_isWhole_X6 hown hK hP 0 rfl rfl 4 (by decide) fl_9 (fun _ h9 => h9) rfl dX6_isWhole_28 ?_
      refine lv_iconst (v := (1 : Int32)) hx hb dX6_isWhole_31 (by decide) ?_
      refine lv_isub hx hb dX6_isWhole_32 ?_
      obtain ⟨i14, hf⟩ := gd_some hf
      refine va_iald hx hb hK hP 2 0 rfl rfl i14 dX6_isWhole_33 ?_
      refine lv_bipush (v := (12 : Int32)) hx hb dX6_isWhole_34 (by decide +kernel) ?_
      refine lv_icmp_eq (tgt := 41) hx hb dX6_isWhole_36 (by decide) (fun c15 => ?_) (fun c15 => ?_)
      · have hf := ite_t hf c15
        refine lv_iconst (v := (0 : Int32)) hx hb dX6_isWhole_41 (by decide) ?_
        refine lv_istore_n (lv' := [(1, .int (0 : Int32)), (0, .ref h0)]) hx hb dX6_isWhole_42 rfl hl (by decide) rfl (fun ls hl => ?_)
        exact hJ_43 n _ _ _ ls hf (hP.sub [0, 1, 2] rfl) (hD.sub [0, 1, 2] (by decide) rfl) hS (lv_sub hl [1, 0] rfl)
      · have hf := ite_e hf c15
        refine lv_iconst (v := (0 : Int32)) hx hb dX6_isWhole_39 (by decide) ?_
        have z16 : (0 : Int32) = 0 ∨ (0 : Int32) = 1 := by decide
        have hf := Option.some.inj hf
        subst hf
        exact g_zret hx hb hr hlocks (hP.sub [0, 1, 2] rfl) (hD.sub [0, 1, 2] (by decide) rfl) hK hS rfl z16 dX6_isWhole_40

def f_X6_follower_37   (L0 : Nat) (f0_kind : (Nat → Int32)) (v0_count : Int32) (x1 t0 : Int32) : Option Int32 := if t0 = 0 then (some (-1 : Int32)) else (some (x1 + (1 : Int32)))
def f_X6_follower  (L0 : Nat) (f0_kind : (Nat → Int32)) (v0_count : Int32) (x1 : Int32) : Option Int32 := gd x1 L0 (if (f0_kind (x1).toNatClampNeg) = (9 : Int32) then (f_X6_follower_37 L0 f0_kind v0_count x1 (0 : Int32)) else (gd x1 L0 (if (f0_kind (x1).toNatClampNeg) = (12 : Int32) then (f_X6_follower_37 L0 f0_kind v0_count x1 (0 : Int32)) else (if v0_count ≤ (x1 + (1 : Int32)) then (f_X6_follower_37 L0 f0_kind v0_count x1 (0 : Int32)) else (f_X6_follower_37 L0 f0_kind v0_count x1 (1 : Int32))))))
theorem iw_X6_follower_X6 : ∀ w ∈ wsX60, w ∈ wsX6_follower := by decide +kernel
set_option maxHeartbeats 4000000 in
set_option maxRecDepth 100000 in
theorem c_X6_follower (l : Launch) (D : va_G) (cI cZ : ClassId) (h0 h0_kind h0_d h0_a h0_b : Nat) (sz : Nat) (L0 : Nat) (f0_kind : Nat → Int32) (v0_count : Int32)  (x1 : Int32) (res : Int32) (hf : f_X6_follower L0 f0_kind v0_count x1 = some res) : Ct_i l yX6_follower wsX6_follower ({ frames := 0, cells := 0, slots := 0, locals := 0 }) D [(cI, .int), (cZ, .boolean)] [.ref h0, .int x1] sz [(h0, .inr (5, [.ref h0_kind, .ref h0_d, .ref h0_a, .ref h0_b, .int v0_count])), (h0_kind, .inl (cI, L0, .inl f0_kind))] res [(h0, .inr (5, [.ref h0_kind, .ref h0_d, .ref h0_a, .ref h0_b, .int v0_count])), (h0_kind, .inl (cI, L0, .inl f0_kind))] := by
  refine g_of (cc := cX6_follower) (maxL := 3) (ret := some .int) (QQ := (fun A => g_Qi D [(cI, .int), (cZ, .boolean)] A res [(h0, .inr (5, [.ref h0_kind, .ref h0_d, .ref h0_a, .ref h0_b, .int v0_count])), (h0_kind, .inl (cI, L0, .inl f0_kind))])) (by decide) rfl (Nat.le_of_ble_eq_true rfl) ?_
  intro p e s m args below meth c A ls S hr hlocks hA hP hK hD hl
  show W p l e ({ frames := 0, cells := 0, slots := 0, locals := 0 }) s m args below meth c s.heap [] 0 0 (MQ below (g_Qi D [(cI, .int), (cZ, .boolean)] A res [(h0, .inr (5, [.ref h0_kind, .ref h0_d, .ref h0_a, .ref h0_b, .int v0_count])), (h0_kind, .inl (cI, L0, .inl f0_kind))]) args s 0 0 A) (F0 m 0 ls [])
  have hx := S.1
  have hb := S.2.1
  have hml := S.2.2.1
  have hown := S.2.2.2.1
  have hts := S.2.2.2.2
  have fl_15 := hts (.fieldLink RX6 15 "PassPipeline$Program" "kind" "[I") (by decide +kernel)
  have fl_9 := hts (.fieldLink RX6 9 "PassPipeline$Program" "count" "I") (by decide +kernel)
  have hS : va_S A s.heap s.heap [] := va_S.rf
  have hl : lv_has ls 3 [(0, .ref h0), (1, .int x1)] := hl
  have hJ_37 : ∀  (x1 t0 : Int32) (H : Heap) (locs : List Loc) (ls : Array Slot), f_X6_follower_37 L0 f0_kind v0_count x1 t0 = some res → va_P D vwCl [(h0, .inr (5, [.ref h0_kind, .ref h0_d, .ref h0_a, .ref h0_b, .int v0_count])), (h0_kind, .inl (cI, L0, .inl f0_kind))] H → va_D A [(h0, .inr (5, [.ref h0_kind, .ref h0_d, .ref h0_a, .ref h0_b, .int v0_count])), (h0_kind, .inl (cI, L0, .inl f0_kind))] → va_S A s.heap H locs → lv_has ls 3 [(1, .int x1)] → W p l e ({ frames := 0, cells := 0, slots := 0, locals := 0 }) s m args below meth c H locs 0 0 (MQ below (g_Qi D [(cI, .int), (cZ, .boolean)] A res [(h0, .inr (5, [.ref h0_kind, .ref h0_d, .ref h0_a, .ref h0_b, .int v0_count])), (h0_kind, .inl (cI, L0, .inl f0_kind))]) args s 0 0 A) (F0 m 37 ls [.int t0]) := by
    intro x1 t0 H locs ls hf hP hD hS hl
    unfold f_X6_follower_37 at hf
    refine lv_istore_n (lv' := [(2, .int t0), (1, .int x1)]) hx hb dX6_follower_37 rfl hl (by decide) rfl (fun ls hl => ?_)
    refine lv_iload_n hx hb dX6_follower_38 rfl (lv_at hl 0 rfl) ?_
    refine lv_if_eq (tgt := 48) hx hb dX6_follower_39 (by decide) (fun c1 => ?_) (fun c1 => ?_)
    · have hf := ite_t hf c1
      refine lv_iconst (v := (-1 : Int32)) hx hb dX6_follower_48 (by decide) ?_
      have hf := Option.some.inj hf
      subst hf
      exact g_iret hx hb hr hlocks (hP.sub [0, 1] rfl) (hD.sub [0, 1] (by decide) rfl) hK hS rfl dX6_follower_49
    · have hf := ite_e hf c1
      refine lv_iload_n hx hb dX6_follower_42 rfl (lv_at hl 1 rfl) ?_
      refine lv_iconst (v := (1 : Int32)) hx hb dX6_follower_43 (by decide) ?_
      refine lv_iadd hx hb dX6_follower_44 ?_
      refine lv_goto (tgt := 49) hx hb dX6_follower_45 (by decide) ?_
      have hf := Option.some.inj hf
      subst hf
      exact g_iret hx hb hr hlocks (hP.sub [0, 1] rfl) (hD.sub [0, 1] (by decide) rfl) hK hS rfl dX6_follower_49
  unfold f_X6_follower at hf
  refine lv_aload_n hx hb dX6_follower_0 rfl (lv_at hl 0 rfl) ?_
  refine va_get (D := D) (ci := 5) (v := .ref h0_kind) (C := RX6) (T := TX6) (N := 5) hx hb hts iw_X6_follower_X6 hown hK hP 0 rfl rfl 0 (by decide) fl_15 (fun _ h9 => h9) rfl dX6_follower_1 ?_
  refine lv_iload_n hx hb dX6_follower_4 rfl (lv_at hl 1 rfl) ?_
  obtain ⟨i2, hf⟩ := gd_some hf
  refine va_iald hx hb hK hP 1 0 rfl rfl i2 dX6_follower_5 ?_
  refine lv_bipush (v := (9 : Int32)) hx hb dX6_follower_6 (by decide +kernel) ?_
  refine lv_icmp_eq (tgt := 36) hx hb dX6_follower_8 (by decide) (fun c3 => ?_) (fun c3 => ?_)
  · have hf := ite_t hf c3
    refine lv_iconst (v := (0 : Int32)) hx hb dX6_follower_36 (by decide) ?_
    exact hJ_37 _ _ _ _ ls hf (hP.sub [0, 1] rfl) (hD.sub [0, 1] (by decide) rfl) hS (lv_sub hl [1] rfl)
  · have hf := ite_e hf c3
    refine lv_aload_n hx hb dX6_follower_11 rfl (lv_at hl 0 rfl) ?_
    refine va_get (D := D) (ci := 5) (v := .ref h0_kind) (C := RX6) (T := TX6) (N := 5) hx hb hts iw_X6_follower_X6 hown hK hP 0 rfl rfl 0 (by decide) fl_15 (fun _ h9 => h9) rfl dX6_follower_12 ?_
    refine lv_iload_n hx hb dX6_follower_15 rfl (lv_at hl 1 rfl) ?_
    obtain ⟨i4, hf⟩ := gd_some hf
    refine va_iald hx hb hK hP 1 0 rfl rfl i4 dX6_follower_16 ?_
    refine lv_bipush (v := (12 : Int32)) hx hb dX6_follower_17 (by decide +kernel) ?_
    refine lv_icmp_eq (tgt := 36) hx hb dX6_follower_19 (by decide) (fun c5 => ?_) (fun c5 => ?_)
    · have hf := ite_t hf c5
      refine lv_iconst (v := (0 : Int32)) hx hb dX6_follower_36 (by decide) ?_
      exact hJ_37 _ _ _ _ ls hf (hP.sub [0, 1] rfl) (hD.sub [0, 1] (by decide) rfl) hS (lv_sub hl [1] rfl)
    · have hf := ite_e hf c5
      refine lv_iload_n hx hb dX6_follower_22 rfl (lv_at hl 1 rfl) ?_
      refine lv_iconst (v := (1 : Int32)) hx hb dX6_follower_23 (by decide) ?_
      refine lv_iadd hx hb dX6_follower_24 ?_
      refine lv_aload_n hx hb dX6_follower_25 rfl (lv_at hl 0 rfl) ?_
      refine va_get (D := D) (ci := 5) (v := .int v0_count) (C := RX6) (T := TX6) (N := 5) hx hb hts iw_X6_follower_X6 hown hK hP 0 rfl rfl 4 (by decide) fl_9 (fun _ h9 => h9) rfl dX6_follower_26 ?_
      refine lv_icmp_ge (tgt := 36) hx hb dX6_follower_29 (by decide) (fun c6 => ?_) (fun c6 => ?_)
      · have hf := ite_t hf c6
        refine lv_iconst (v := (0 : Int32)) hx hb dX6_follower_36 (by decide) ?_
        exact hJ_37 _ _ _ _ ls hf (hP.sub [0, 1] rfl) (hD.sub [0, 1] (by decide) rfl) hS (lv_sub hl [1] rfl)
      · have hf := ite_e hf c6
        refine lv_iconst (v := (1 : Int32)) hx hb dX6_follower_32 (by decide) ?_
        refine lv_goto (tgt := 37) hx hb dX6_follower_33 (by decide) ?_
        exact hJ_37 _ _ _ _ ls hf (hP.sub [0, 1] rfl) (hD.sub [0, 1] (by decide) rfl) hS (lv_sub hl [1] rfl)

def f_X6_target  (L0 : Nat) (f0_d : (Nat → Int32)) (f0_kind : (Nat → Int32)) (v0_count : Int32) (x1 : Int32) : Option Int32 := gd x1 L0 ((f_X2_goesToD (f0_kind (x1).toNatClampNeg)).bind (fun u2 => if u2 = 0 then (some (-1 : Int32)) else (gd x1 L0 (if v0_count ≤ (f0_d (x1).toNatClampNeg) then (some (-1 : Int32)) else (gd x1 L0 (some (f0_d (x1).toNatClampNeg)))))))
theorem iw_X6_target_X6 : ∀ w ∈ wsX60, w ∈ wsX6_target := by decide +kernel
set_option maxHeartbeats 4000000 in
set_option maxRecDepth 100000 in
theorem c_X6_target (l : Launch) (D : va_G) (cI cZ : ClassId) (h0 h0_kind h0_d h0_a h0_b : Nat) (sz : Nat) (L0 : Nat) (f0_d f0_kind : Nat → Int32) (v0_count : Int32)  (x1 : Int32) (res : Int32) (hf : f_X6_target L0 f0_d f0_kind v0_count x1 = some res) : Ct_i l yX6_target wsX6_target ({ frames := 1, cells := 0, slots := 0, locals := 20 }) D [(cI, .int), (cZ, .boolean)] [.ref h0, .int x1] sz [(h0, .inr (5, [.ref h0_kind, .ref h0_d, .ref h0_a, .ref h0_b, .int v0_count])), (h0_d, .inl (cI, L0, .inl f0_d)), (h0_kind, .inl (cI, L0, .inl f0_kind))] res [(h0, .inr (5, [.ref h0_kind, .ref h0_d, .ref h0_a, .ref h0_b, .int v0_count])), (h0_d, .inl (cI, L0, .inl f0_d)), (h0_kind, .inl (cI, L0, .inl f0_kind))] := by
  refine g_of (cc := cX6_target) (maxL := 2) (ret := some .int) (QQ := (fun A => g_Qi D [(cI, .int), (cZ, .boolean)] A res [(h0, .inr (5, [.ref h0_kind, .ref h0_d, .ref h0_a, .ref h0_b, .int v0_count])), (h0_d, .inl (cI, L0, .inl f0_d)), (h0_kind, .inl (cI, L0, .inl f0_kind))])) (by decide) rfl (Nat.le_of_ble_eq_true rfl) ?_
  intro p e s m args below meth c A ls S hr hlocks hA hP hK hD hl
  show W p l e ({ frames := 1, cells := 0, slots := 0, locals := 20 }) s m args below meth c s.heap [] 0 0 (MQ below (g_Qi D [(cI, .int), (cZ, .boolean)] A res [(h0, .inr (5, [.ref h0_kind, .ref h0_d, .ref h0_a, .ref h0_b, .int v0_count])), (h0_d, .inl (cI, L0, .inl f0_d)), (h0_kind, .inl (cI, L0, .inl f0_kind))]) args s 0 0 A) (F0 m 0 ls [])
  have hx := S.1
  have hb := S.2.1
  have hml := S.2.2.1
  have hown := S.2.2.2.1
  have hts := S.2.2.2.2
  have fl_15 := hts (.fieldLink RX6 15 "PassPipeline$Program" "kind" "[I") (by decide +kernel)
  have fl_19 := hts (.fieldLink RX6 19 "PassPipeline$Program" "d" "[I") (by decide +kernel)
  have fl_9 := hts (.fieldLink RX6 9 "PassPipeline$Program" "count" "I") (by decide +kernel)
  have hS : va_S A s.heap s.heap [] := va_S.rf
  have hl : lv_has ls 2 [(0, .ref h0), (1, .int x1)] := hl
  unfold f_X6_target at hf
  refine lv_aload_n hx hb dX6_target_0 rfl (lv_at hl 0 rfl) ?_
  refine va_get (D := D) (ci := 5) (v := .ref h0_kind) (C := RX6) (T := TX6) (N := 5) hx hb hts iw_X6_target_X6 hown hK hP 0 rfl rfl 0 (by decide) fl_15 (fun _ h9 => h9) rfl dX6_target_1 ?_
  refine lv_iload_n hx hb dX6_target_4 rfl (lv_at hl 1 rfl) ?_
  obtain ⟨i1, hf⟩ := gd_some hf
  refine va_iald hx hb hK hP 2 0 rfl rfl i1 dX6_target_5 ?_
  obtain ⟨u2, g3, hf⟩ := bd_some hf
  refine g_callSi S (c_X2_goesToD l D cI cZ _ (f0_kind (x1).toNatClampNeg) u2 g3) (va_cwS 1 hts gX6_target_X2_goesToD rfl rfl rfl (by decide +kernel) ⟨Nat.le_of_ble_eq_true rfl, Nat.le_of_ble_eq_true rfl⟩) hK hP hD hS hA [] [0, 1, 2] [(h0, .inr (5, [.ref h0_kind, .ref h0_d, .ref h0_a, .ref h0_b, .int v0_count])), (h0_d, .inl (cI, L0, .inl f0_d)), (h0_kind, .inl (cI, L0, .inl f0_kind))] rfl rfl (by decide) (by decide) (by decide) rfl hl.1 rfl (Nat.le_of_ble_eq_true rfl) dX6_target_6 ⟨Nat.le_of_ble_eq_true rfl, Nat.le_of_ble_eq_true rfl⟩ (fun H locs hP hD hS => ?_)
  have hP : va_P D vwCl [(h0, .inr (5, [.ref h0_kind, .ref h0_d, .ref h0_a, .ref h0_b, .int v0_count])), (h0_d, .inl (cI, L0, .inl f0_d)), (h0_kind, .inl (cI, L0, .inl f0_kind))] H := hP
  have hD : va_D A [(h0, .inr (5, [.ref h0_kind, .ref h0_d, .ref h0_a, .ref h0_b, .int v0_count])), (h0_d, .inl (cI, L0, .inl f0_d)), (h0_kind, .inl (cI, L0, .inl f0_kind))] := hD
  refine lv_if_eq (tgt := 34) hx hb dX6_target_9 (by decide) (fun c4 => ?_) (fun c4 => ?_)
  · have hf := ite_t hf c4
    refine lv_iconst (v := (-1 : Int32)) hx hb dX6_target_34 (by decide) ?_
    have hf := Option.some.inj hf
    subst hf
    exact g_iret hx hb hr hlocks (hP.sub [0, 1, 2] rfl) (hD.sub [0, 1, 2] (by decide) rfl) hK hS rfl dX6_target_35
  · have hf := ite_e hf c4
    refine lv_aload_n hx hb dX6_target_12 rfl (lv_at hl 0 rfl) ?_
    refine va_get (D := D) (ci := 5) (v := .ref h0_d) (C := RX6) (T := TX6) (N := 5) hx hb hts iw_X6_target_X6 hown hK hP 0 rfl rfl 1 (by decide) fl_19 (fun _ h9 => h9) rfl dX6_target_13 ?_
    refine lv_iload_n hx hb dX6_target_16 rfl (lv_at hl 1 rfl) ?_
    obtain ⟨i5, hf⟩ := gd_some hf
    refine va_iald hx hb hK hP 1 0 rfl rfl i5 dX6_target_17 ?_
    refine lv_aload_n hx hb dX6_target_18 rfl (lv_at hl 0 rfl) ?_
    refine va_get (D := D) (ci := 5) (v := .int v0_count) (C := RX6) (T := TX6) (N := 5) hx hb hts iw_X6_target_X6 hown hK hP 0 rfl rfl 4 (by decide) fl_9 (fun _ h9 => h9) rfl dX6_target_19 ?_
    refine lv_icmp_ge (tgt := 34) hx hb dX6_target_22 (by decide) (fun c6 => ?_) (fun c6 => ?_)
    · have hf := ite_t hf c6
      refine lv_iconst (v := (-1 : Int32)) hx hb dX6_target_34 (by decide) ?_
      have hf := Option.some.inj hf
      subst hf
      exact g_iret hx hb hr hlocks (hP.sub [0, 1, 2] rfl) (hD.sub [0, 1, 2] (by decide) rfl) hK hS rfl dX6_target_35
    · have hf := ite_e hf c6
      refine lv_aload_n hx hb dX6_target_25 rfl (lv_at hl 0 rfl) ?_
      refine va_get (D := D) (ci := 5) (v := .ref h0_d) (C := RX6) (T := TX6) (N := 5) hx hb hts iw_X6_target_X6 hown hK hP 0 rfl rfl 1 (by decide) fl_19 (fun _ h9 => h9) rfl dX6_target_26 ?_
      refine lv_iload_n hx hb dX6_target_29 rfl (lv_at hl 1 rfl) ?_
      obtain ⟨i7, hf⟩ := gd_some hf
      refine va_iald hx hb hK hP 1 0 rfl rfl i7 dX6_target_30 ?_
      refine lv_goto (tgt := 35) hx hb dX6_target_31 (by decide) ?_
      have hf := Option.some.inj hf
      subst hf
      exact g_iret hx hb hr hlocks (hP.sub [0, 1, 2] rfl) (hD.sub [0, 1, 2] (by decide) rfl) hK hS rfl dX6_target_35

def f_X6_isTarget_2 (n : Nat)  : Nat → Nat → (Nat → Int32) → (Nat → Int32) → Int32 → Int32 → Int32 → Option Int32
  | 0, _, _, _, _, _, _ => none
  | k + 1, L0, f0_d, f0_kind, v0_count, x1, x2 => if v0_count ≤ x2 then (some (0 : Int32)) else (gd x2 L0 ((f_X2_goesToD (f0_kind (x2).toNatClampNeg)).bind (fun u4 => if u4 = 0 then (f_X6_isTarget_2 n k L0 f0_d f0_kind v0_count x1 (x2 + (1 : Int32))) else (gd x2 L0 (if (f0_d (x2).toNatClampNeg) = x1 then (some (1 : Int32)) else (f_X6_isTarget_2 n k L0 f0_d f0_kind v0_count x1 (x2 + (1 : Int32))))))))
def f_X6_isTarget (n : Nat) (L0 : Nat) (f0_d : (Nat → Int32)) (f0_kind : (Nat → Int32)) (v0_count : Int32) (x1 : Int32) : Option Int32 := f_X6_isTarget_2 n n L0 f0_d f0_kind v0_count x1 (0 : Int32)
theorem iw_X6_isTarget_X6 : ∀ w ∈ wsX60, w ∈ wsX6_isTarget := by decide +kernel
set_option maxHeartbeats 4000000 in
set_option maxRecDepth 100000 in
theorem c_X6_isTarget (l : Launch) (D : va_G) (cI cZ : ClassId) (h0 h0_kind h0_d h0_a h0_b : Nat) (sz : Nat) (L0 : Nat) (f0_d f0_kind : Nat → Int32) (v0_count : Int32) (n : Nat) (x1 : Int32) (res : Int32) (hf : f_X6_isTarget n L0 f0_d f0_kind v0_count x1 = some res) : Ct_i l yX6_isTarget wsX6_isTarget ({ frames := 1, cells := 0, slots := 0, locals := 20 }) D [(cI, .int), (cZ, .boolean)] [.ref h0, .int x1] sz [(h0, .inr (5, [.ref h0_kind, .ref h0_d, .ref h0_a, .ref h0_b, .int v0_count])), (h0_d, .inl (cI, L0, .inl f0_d)), (h0_kind, .inl (cI, L0, .inl f0_kind))] res [(h0, .inr (5, [.ref h0_kind, .ref h0_d, .ref h0_a, .ref h0_b, .int v0_count])), (h0_d, .inl (cI, L0, .inl f0_d)), (h0_kind, .inl (cI, L0, .inl f0_kind))] := by
  refine g_of (cc := cX6_isTarget) (maxL := 3) (ret := some .boolean) (QQ := (fun A => g_Qi D [(cI, .int), (cZ, .boolean)] A res [(h0, .inr (5, [.ref h0_kind, .ref h0_d, .ref h0_a, .ref h0_b, .int v0_count])), (h0_d, .inl (cI, L0, .inl f0_d)), (h0_kind, .inl (cI, L0, .inl f0_kind))])) (by decide) rfl (Nat.le_of_ble_eq_true rfl) ?_
  intro p e s m args below meth c A ls S hr hlocks hA hP hK hD hl
  show W p l e ({ frames := 1, cells := 0, slots := 0, locals := 20 }) s m args below meth c s.heap [] 0 0 (MQ below (g_Qi D [(cI, .int), (cZ, .boolean)] A res [(h0, .inr (5, [.ref h0_kind, .ref h0_d, .ref h0_a, .ref h0_b, .int v0_count])), (h0_d, .inl (cI, L0, .inl f0_d)), (h0_kind, .inl (cI, L0, .inl f0_kind))]) args s 0 0 A) (F0 m 0 ls [])
  have hx := S.1
  have hb := S.2.1
  have hml := S.2.2.1
  have hown := S.2.2.2.1
  have hts := S.2.2.2.2
  have fl_15 := hts (.fieldLink RX6 15 "PassPipeline$Program" "kind" "[I") (by decide +kernel)
  have fl_19 := hts (.fieldLink RX6 19 "PassPipeline$Program" "d" "[I") (by decide +kernel)
  have fl_9 := hts (.fieldLink RX6 9 "PassPipeline$Program" "count" "I") (by decide +kernel)
  have hS : va_S A s.heap s.heap [] := va_S.rf
  have hl : lv_has ls 3 [(0, .ref h0), (1, .int x1)] := hl
  have hJ_2 : ∀ (k : Nat)  (x1 x2 : Int32) (H : Heap) (locs : List Loc) (ls : Array Slot), f_X6_isTarget_2 n k L0 f0_d f0_kind v0_count x1 x2 = some res → va_P D vwCl [(h0, .inr (5, [.ref h0_kind, .ref h0_d, .ref h0_a, .ref h0_b, .int v0_count])), (h0_d, .inl (cI, L0, .inl f0_d)), (h0_kind, .inl (cI, L0, .inl f0_kind))] H → va_D A [(h0, .inr (5, [.ref h0_kind, .ref h0_d, .ref h0_a, .ref h0_b, .int v0_count])), (h0_d, .inl (cI, L0, .inl f0_d)), (h0_kind, .inl (cI, L0, .inl f0_kind))] → va_S A s.heap H locs → lv_has ls 3 [(0, .ref h0), (1, .int x1), (2, .int x2)] → W p l e ({ frames := 1, cells := 0, slots := 0, locals := 20 }) s m args below meth c H locs 0 0 (MQ below (g_Qi D [(cI, .int), (cZ, .boolean)] A res [(h0, .inr (5, [.ref h0_kind, .ref h0_d, .ref h0_a, .ref h0_b, .int v0_count])), (h0_d, .inl (cI, L0, .inl f0_d)), (h0_kind, .inl (cI, L0, .inl f0_kind))]) args s 0 0 A) (F0 m 2 ls []) := by
    intro k
    induction k with
    | zero => intro x1 x2 H locs ls hf; rw [f_X6_isTarget_2] at hf; cases hf
    | succ m_2 ih =>
      have ih_2 : ∀  (x1 x2 : Int32) (H : Heap) (locs : List Loc) (ls : Array Slot), (fun x1' x2' => f_X6_isTarget_2 n m_2 L0 f0_d f0_kind v0_count x1' x2') x1 x2 = some res → va_P D vwCl [(h0, .inr (5, [.ref h0_kind, .ref h0_d, .ref h0_a, .ref h0_b, .int v0_count])), (h0_d, .inl (cI, L0, .inl f0_d)), (h0_kind, .inl (cI, L0, .inl f0_kind))] H → va_D A [(h0, .inr (5, [.ref h0_kind, .ref h0_d, .ref h0_a, .ref h0_b, .int v0_count])), (h0_d, .inl (cI, L0, .inl f0_d)), (h0_kind, .inl (cI, L0, .inl f0_kind))] → va_S A s.heap H locs → lv_has ls 3 [(0, .ref h0), (1, .int x1), (2, .int x2)] → W p l e ({ frames := 1, cells := 0, slots := 0, locals := 20 }) s m args below meth c H locs 0 0 (MQ below (g_Qi D [(cI, .int), (cZ, .boolean)] A res [(h0, .inr (5, [.ref h0_kind, .ref h0_d, .ref h0_a, .ref h0_b, .int v0_count])), (h0_d, .inl (cI, L0, .inl f0_d)), (h0_kind, .inl (cI, L0, .inl f0_kind))]) args s 0 0 A) (F0 m 2 ls []) := ih
      intro x1 x2 H locs ls hf hP hD hS hl
      rw [f_X6_isTarget_2] at hf
      refine lv_iload_n hx hb dX6_isTarget_2 rfl (lv_at hl 2 rfl) ?_
      refine lv_aload_n hx hb dX6_isTarget_3 rfl (lv_at hl 0 rfl) ?_
      refine va_get (D := D) (ci := 5) (v := .int v0_count) (C := RX6) (T := TX6) (N := 5) hx hb hts iw_X6_isTarget_X6 hown hK hP 0 rfl rfl 4 (by decide) fl_9 (fun _ h9 => h9) rfl dX6_isTarget_4 ?_
      refine lv_icmp_ge (tgt := 40) hx hb dX6_isTarget_7 (by decide) (fun c1 => ?_) (fun c1 => ?_)
      · have hf := ite_t hf c1
        refine lv_iconst (v := (0 : Int32)) hx hb dX6_isTarget_40 (by decide) ?_
        have z2 : (0 : Int32) = 0 ∨ (0 : Int32) = 1 := by decide
        have hf := Option.some.inj hf
        subst hf
        exact g_zret hx hb hr hlocks (hP.sub [0, 1, 2] rfl) (hD.sub [0, 1, 2] (by decide) rfl) hK hS rfl z2 dX6_isTarget_41
      · have hf := ite_e hf c1
        refine lv_aload_n hx hb dX6_isTarget_10 rfl (lv_at hl 0 rfl) ?_
        refine va_get (D := D) (ci := 5) (v := .ref h0_kind) (C := RX6) (T := TX6) (N := 5) hx hb hts iw_X6_isTarget_X6 hown hK hP 0 rfl rfl 0 (by decide) fl_15 (fun _ h9 => h9) rfl dX6_isTarget_11 ?_
        refine lv_iload_n hx hb dX6_isTarget_14 rfl (lv_at hl 2 rfl) ?_
        obtain ⟨i3, hf⟩ := gd_some hf
        refine va_iald hx hb hK hP 2 0 rfl rfl i3 dX6_isTarget_15 ?_
        obtain ⟨u4, g5, hf⟩ := bd_some hf
        refine g_callSi S (c_X2_goesToD l D cI cZ _ (f0_kind (x2).toNatClampNeg) u4 g5) (va_cwS 1 hts gX6_isTarget_X2_goesToD rfl rfl rfl (by decide +kernel) ⟨Nat.le_of_ble_eq_true rfl, Nat.le_of_ble_eq_true rfl⟩) hK hP hD hS hA [] [0, 1, 2] [(h0, .inr (5, [.ref h0_kind, .ref h0_d, .ref h0_a, .ref h0_b, .int v0_count])), (h0_d, .inl (cI, L0, .inl f0_d)), (h0_kind, .inl (cI, L0, .inl f0_kind))] rfl rfl (by decide) (by decide) (by decide) rfl hl.1 rfl (Nat.le_of_ble_eq_true rfl) dX6_isTarget_16 ⟨Nat.le_of_ble_eq_true rfl, Nat.le_of_ble_eq_true rfl⟩ (fun H locs hP hD hS => ?_)
        have hP : va_P D vwCl [(h0, .inr (5, [.ref h0_kind, .ref h0_d, .ref h0_a, .ref h0_b, .int v0_count])), (h0_d, .inl (cI, L0, .inl f0_d)), (h0_kind, .inl (cI, L0, .inl f0_kind))] H := hP
        have hD : va_D A [(h0, .inr (5, [.ref h0_kind, .ref h0_d, .ref h0_a, .ref h0_b, .int v0_count])), (h0_d, .inl (cI, L0, .inl f0_d)), (h0_kind, .inl (cI, L0, .inl f0_kind))] := hD
        refine lv_if_eq (tgt := 34) hx hb dX6_isTarget_19 (by decide) (fun c6 => ?_) (fun c6 => ?_)
        · have hf := ite_t hf c6
          refine lv_iinc (v := (x2 + (1 : Int32))) (lv' := [(2, .int (x2 + (1 : Int32))), (0, .ref h0), (1, .int x1)]) hx hb dX6_isTarget_34 hl (k := 2) rfl rfl (by decide) rfl (fun ls hl => ?_)
          refine lv_goto (tgt := 2) hx hb dX6_isTarget_37 (by decide) ?_
          exact ih_2 _ _ _ _ ls hf (hP.sub [0, 1, 2] rfl) (hD.sub [0, 1, 2] (by decide) rfl) hS (lv_sub hl [1, 2, 0] rfl)
        · have hf := ite_e hf c6
          refine lv_aload_n hx hb dX6_isTarget_22 rfl (lv_at hl 0 rfl) ?_
          refine va_get (D := D) (ci := 5) (v := .ref h0_d) (C := RX6) (T := TX6) (N := 5) hx hb hts iw_X6_isTarget_X6 hown hK hP 0 rfl rfl 1 (by decide) fl_19 (fun _ h9 => h9) rfl dX6_isTarget_23 ?_
          refine lv_iload_n hx hb dX6_isTarget_26 rfl (lv_at hl 2 rfl) ?_
          obtain ⟨i7, hf⟩ := gd_some hf
          refine va_iald hx hb hK hP 1 0 rfl rfl i7 dX6_isTarget_27 ?_
          refine lv_iload_n hx hb dX6_isTarget_28 rfl (lv_at hl 1 rfl) ?_
          refine lv_icmp_ne (tgt := 34) hx hb dX6_isTarget_29 (by decide) (fun c8 => ?_) (fun c8 => ?_)
          · have hf := ite_e hf c8
            refine lv_iinc (v := (x2 + (1 : Int32))) (lv' := [(2, .int (x2 + (1 : Int32))), (0, .ref h0), (1, .int x1)]) hx hb dX6_isTarget_34 hl (k := 2) rfl rfl (by decide) rfl (fun ls hl => ?_)
            refine lv_goto (tgt := 2) hx hb dX6_isTarget_37 (by decide) ?_
            exact ih_2 _ _ _ _ ls hf (hP.sub [0, 1, 2] rfl) (hD.sub [0, 1, 2] (by decide) rfl) hS (lv_sub hl [1, 2, 0] rfl)
          · have hf := ite_t hf c8
            refine lv_iconst (v := (1 : Int32)) hx hb dX6_isTarget_32 (by decide) ?_
            have z9 : (1 : Int32) = 0 ∨ (1 : Int32) = 1 := by decide
            have hf := Option.some.inj hf
            subst hf
            exact g_zret hx hb hr hlocks (hP.sub [0, 1, 2] rfl) (hD.sub [0, 1, 2] (by decide) rfl) hK hS rfl z9 dX6_isTarget_33
  unfold f_X6_isTarget at hf
  refine lv_iconst (v := (0 : Int32)) hx hb dX6_isTarget_0 (by decide) ?_
  refine lv_istore_n (lv' := [(2, .int (0 : Int32)), (0, .ref h0), (1, .int x1)]) hx hb dX6_isTarget_1 rfl hl (by decide) rfl (fun ls hl => ?_)
  exact hJ_2 n _ _ _ _ ls hf (hP.sub [0, 1, 2] rfl) (hD.sub [0, 1, 2] (by decide) rfl) hS (lv_sub hl [1, 2, 0] rfl)
