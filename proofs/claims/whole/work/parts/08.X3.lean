def f_X3_after_28   (L1 : Nat) (f0_before : (Nat → Int32)) (f1_d : (Nat → Int32)) (f1_kind : (Nat → Int32)) (v1_count : Int32) (x4 t0 : Int32) : Option Int32 := if x4 = (-1 : Int32) then (some t0) else (gd x4 24 (some (t0 ||| (f0_before (x4).toNatClampNeg))))
def f_X3_after  (L1 : Nat) (f0_before : (Nat → Int32)) (f1_d : (Nat → Int32)) (f1_kind : (Nat → Int32)) (v1_count : Int32) (x2 : Int32) : Option Int32 := (f_X6_follower L1 f1_kind v1_count x2).bind (fun u3 => (f_X6_target L1 f1_d f1_kind v1_count x2).bind (fun u5 => if u3 = (-1 : Int32) then (f_X3_after_28 L1 f0_before f1_d f1_kind v1_count u5 (0 : Int32)) else (gd u3 24 (f_X3_after_28 L1 f0_before f1_d f1_kind v1_count u5 (f0_before (u3).toNatClampNeg)))))
theorem iw_X3_after_X3 : ∀ w ∈ wsX30, w ∈ wsX3_after := by decide +kernel
set_option maxHeartbeats 4000000 in
set_option maxRecDepth 100000 in
theorem c_X3_after (l : Launch) (D : va_G) (cI cZ : ClassId) (h0 h1 h0_before h1_kind h1_d h1_a h1_b : Nat) (sz : Nat) (L1 : Nat) (f0_before f1_d f1_kind : Nat → Int32) (v1_count : Int32)  (x2 : Int32) (res : Int32) (hf : f_X3_after L1 f0_before f1_d f1_kind v1_count x2 = some res) : Ct_i l yX3_after wsX3_after ({ frames := 2, cells := 0, slots := 0, locals := 41 }) D [(cI, .int), (cZ, .boolean)] [.ref h0, .ref h1, .int x2] sz [(h0, .inr (2, [.ref h0_before])), (h0_before, .inl (cI, 24, .inl f0_before)), (h1, .inr (5, [.ref h1_kind, .ref h1_d, .ref h1_a, .ref h1_b, .int v1_count])), (h1_d, .inl (cI, L1, .inl f1_d)), (h1_kind, .inl (cI, L1, .inl f1_kind))] res [(h0, .inr (2, [.ref h0_before])), (h0_before, .inl (cI, 24, .inl f0_before)), (h1, .inr (5, [.ref h1_kind, .ref h1_d, .ref h1_a, .ref h1_b, .int v1_count])), (h1_d, .inl (cI, L1, .inl f1_d)), (h1_kind, .inl (cI, L1, .inl f1_kind))] := by
  refine g_of (cc := cX3_after) (maxL := 6) (ret := some .int) (QQ := (fun A => g_Qi D [(cI, .int), (cZ, .boolean)] A res [(h0, .inr (2, [.ref h0_before])), (h0_before, .inl (cI, 24, .inl f0_before)), (h1, .inr (5, [.ref h1_kind, .ref h1_d, .ref h1_a, .ref h1_b, .int v1_count])), (h1_d, .inl (cI, L1, .inl f1_d)), (h1_kind, .inl (cI, L1, .inl f1_kind))])) (by decide) rfl (Nat.le_of_ble_eq_true rfl) ?_
  intro p e s m args below meth c A ls S hr hlocks hA hP hK hD hl
  show W p l e ({ frames := 2, cells := 0, slots := 0, locals := 41 }) s m args below meth c s.heap [] 0 0 (MQ below (g_Qi D [(cI, .int), (cZ, .boolean)] A res [(h0, .inr (2, [.ref h0_before])), (h0_before, .inl (cI, 24, .inl f0_before)), (h1, .inr (5, [.ref h1_kind, .ref h1_d, .ref h1_a, .ref h1_b, .int v1_count])), (h1_d, .inl (cI, L1, .inl f1_d)), (h1_kind, .inl (cI, L1, .inl f1_kind))]) args s 0 0 A) (F0 m 0 ls [])
  have hx := S.1
  have hb := S.2.1
  have hml := S.2.2.1
  have hown := S.2.2.2.1
  have hts := S.2.2.2.2
  have fl_9 := hts (.fieldLink RX3 9 "PassPipeline$Liveness" "before" "[I") (by decide +kernel)
  have hS : va_S A s.heap s.heap [] := va_S.rf
  have hl : lv_has ls 6 [(0, .ref h0), (1, .ref h1), (2, .int x2)] := hl
  have hJ_28 : ∀  (x4 t0 : Int32) (H : Heap) (locs : List Loc) (ls : Array Slot), f_X3_after_28 L1 f0_before f1_d f1_kind v1_count x4 t0 = some res → va_P D vwCl [(h0, .inr (2, [.ref h0_before])), (h0_before, .inl (cI, 24, .inl f0_before)), (h1, .inr (5, [.ref h1_kind, .ref h1_d, .ref h1_a, .ref h1_b, .int v1_count])), (h1_d, .inl (cI, L1, .inl f1_d)), (h1_kind, .inl (cI, L1, .inl f1_kind))] H → va_D A [(h0, .inr (2, [.ref h0_before])), (h0_before, .inl (cI, 24, .inl f0_before)), (h1, .inr (5, [.ref h1_kind, .ref h1_d, .ref h1_a, .ref h1_b, .int v1_count])), (h1_d, .inl (cI, L1, .inl f1_d)), (h1_kind, .inl (cI, L1, .inl f1_kind))] → va_S A s.heap H locs → lv_has ls 6 [(0, .ref h0), (4, .int x4)] → W p l e ({ frames := 2, cells := 0, slots := 0, locals := 41 }) s m args below meth c H locs 0 0 (MQ below (g_Qi D [(cI, .int), (cZ, .boolean)] A res [(h0, .inr (2, [.ref h0_before])), (h0_before, .inl (cI, 24, .inl f0_before)), (h1, .inr (5, [.ref h1_kind, .ref h1_d, .ref h1_a, .ref h1_b, .int v1_count])), (h1_d, .inl (cI, L1, .inl f1_d)), (h1_kind, .inl (cI, L1, .inl f1_kind))]) args s 0 0 A) (F0 m 28 ls [.int t0]) := by
    intro x4 t0 H locs ls hf hP hD hS hl
    unfold f_X3_after_28 at hf
    refine lv_istore (lv' := [(5, .int t0), (0, .ref h0), (4, .int x4)]) hx hb dX3_after_28 hl (by decide) rfl (fun ls hl => ?_)
    refine lv_iload hx hb dX3_after_30 (lv_at hl 2 rfl) ?_
    refine lv_iconst (v := (-1 : Int32)) hx hb dX3_after_32 (by decide) ?_
    refine lv_icmp_ne (tgt := 41) hx hb dX3_after_33 (by decide) (fun c1 => ?_) (fun c1 => ?_)
    · have hf := ite_e hf c1
      refine lv_iload hx hb dX3_after_41 (lv_at hl 0 rfl) ?_
      refine lv_aload_n hx hb dX3_after_43 rfl (lv_at hl 1 rfl) ?_
      refine va_get (D := D) (ci := 2) (v := .ref h0_before) (C := RX3) (T := TX3) (N := 1) hx hb hts iw_X3_after_X3 hown hK hP 0 rfl rfl 0 (by decide) fl_9 (fun _ h9 => h9) rfl dX3_after_44 ?_
      refine lv_iload hx hb dX3_after_47 (lv_at hl 2 rfl) ?_
      obtain ⟨i2, hf⟩ := gd_some hf
      refine va_iald hx hb hK hP 1 0 rfl rfl i2 dX3_after_49 ?_
      refine lv_ior hx hb dX3_after_50 ?_
      have hf := Option.some.inj hf
      subst hf
      exact g_iret hx hb hr hlocks (hP.sub [0, 1, 2, 3, 4] rfl) (hD.sub [0, 1, 2, 3, 4] (by decide) rfl) hK hS rfl dX3_after_51
    · have hf := ite_t hf c1
      refine lv_iload hx hb dX3_after_36 (lv_at hl 0 rfl) ?_
      refine lv_goto (tgt := 51) hx hb dX3_after_38 (by decide) ?_
      have hf := Option.some.inj hf
      subst hf
      exact g_iret hx hb hr hlocks (hP.sub [0, 1, 2, 3, 4] rfl) (hD.sub [0, 1, 2, 3, 4] (by decide) rfl) hK hS rfl dX3_after_51
  unfold f_X3_after at hf
  refine lv_aload_n hx hb dX3_after_0 rfl (lv_at hl 1 rfl) ?_
  refine lv_iload_n hx hb dX3_after_1 rfl (lv_at hl 2 rfl) ?_
  obtain ⟨u3, g4, hf⟩ := bd_some hf
  refine g_callVi S (c_X6_follower l D cI cZ h1 h1_kind h1_d h1_a h1_b _ L1 f1_kind v1_count x2 u3 g4) (cwV 1 hts gX3_after_X6_follower rfl rfl rfl (by decide +kernel) ⟨Nat.le_of_ble_eq_true rfl, Nat.le_of_ble_eq_true rfl⟩) hK hP hD hS hA 2 (ci := 5) rfl rfl [2, 4] [0, 1, 3] [(h0, .inr (2, [.ref h0_before])), (h0_before, .inl (cI, 24, .inl f0_before)), (h1_d, .inl (cI, L1, .inl f1_d))] rfl rfl (by decide) (by decide) (by decide) rfl hl.1 rfl (Nat.le_of_ble_eq_true rfl) dX3_after_2 ⟨Nat.le_of_ble_eq_true rfl, Nat.le_of_ble_eq_true rfl⟩ (fun H locs hP hD hS => ?_)
  have hP : va_P D vwCl [(h0, .inr (2, [.ref h0_before])), (h0_before, .inl (cI, 24, .inl f0_before)), (h1_d, .inl (cI, L1, .inl f1_d)), (h1, .inr (5, [.ref h1_kind, .ref h1_d, .ref h1_a, .ref h1_b, .int v1_count])), (h1_kind, .inl (cI, L1, .inl f1_kind))] H := hP
  have hD : va_D A [(h0, .inr (2, [.ref h0_before])), (h0_before, .inl (cI, 24, .inl f0_before)), (h1_d, .inl (cI, L1, .inl f1_d)), (h1, .inr (5, [.ref h1_kind, .ref h1_d, .ref h1_a, .ref h1_b, .int v1_count])), (h1_kind, .inl (cI, L1, .inl f1_kind))] := hD
  refine lv_istore_n (lv' := [(3, .int u3), (0, .ref h0), (1, .ref h1), (2, .int x2)]) hx hb dX3_after_5 rfl hl (by decide) rfl (fun ls hl => ?_)
  refine lv_aload_n hx hb dX3_after_6 rfl (lv_at hl 2 rfl) ?_
  refine lv_iload_n hx hb dX3_after_7 rfl (lv_at hl 3 rfl) ?_
  obtain ⟨u5, g6, hf⟩ := bd_some hf
  refine g_callVi S (c_X6_target l D cI cZ h1 h1_kind h1_d h1_a h1_b _ L1 f1_d f1_kind v1_count x2 u5 g6) (cwV 1 hts gX3_after_X6_target rfl rfl rfl (by decide +kernel) ⟨Nat.le_of_ble_eq_true rfl, Nat.le_of_ble_eq_true rfl⟩) hK hP hD hS hA 3 (ci := 5) rfl rfl [3, 2, 4] [0, 1] [(h0, .inr (2, [.ref h0_before])), (h0_before, .inl (cI, 24, .inl f0_before))] rfl rfl (by decide) (by decide) (by decide) rfl hl.1 rfl (Nat.le_of_ble_eq_true rfl) dX3_after_8 ⟨Nat.le_of_ble_eq_true rfl, Nat.le_of_ble_eq_true rfl⟩ (fun H locs hP hD hS => ?_)
  have hP : va_P D vwCl [(h0, .inr (2, [.ref h0_before])), (h0_before, .inl (cI, 24, .inl f0_before)), (h1, .inr (5, [.ref h1_kind, .ref h1_d, .ref h1_a, .ref h1_b, .int v1_count])), (h1_d, .inl (cI, L1, .inl f1_d)), (h1_kind, .inl (cI, L1, .inl f1_kind))] H := hP
  have hD : va_D A [(h0, .inr (2, [.ref h0_before])), (h0_before, .inl (cI, 24, .inl f0_before)), (h1, .inr (5, [.ref h1_kind, .ref h1_d, .ref h1_a, .ref h1_b, .int v1_count])), (h1_d, .inl (cI, L1, .inl f1_d)), (h1_kind, .inl (cI, L1, .inl f1_kind))] := hD
  refine lv_istore (lv' := [(4, .int u5), (3, .int u3), (0, .ref h0), (1, .ref h1), (2, .int x2)]) hx hb dX3_after_11 hl (by decide) rfl (fun ls hl => ?_)
  refine lv_iload_n hx hb dX3_after_13 rfl (lv_at hl 1 rfl) ?_
  refine lv_iconst (v := (-1 : Int32)) hx hb dX3_after_14 (by decide) ?_
  refine lv_icmp_ne (tgt := 22) hx hb dX3_after_15 (by decide) (fun c7 => ?_) (fun c7 => ?_)
  · have hf := ite_e hf c7
    refine lv_aload_n hx hb dX3_after_22 rfl (lv_at hl 2 rfl) ?_
    refine va_get (D := D) (ci := 2) (v := .ref h0_before) (C := RX3) (T := TX3) (N := 1) hx hb hts iw_X3_after_X3 hown hK hP 0 rfl rfl 0 (by decide) fl_9 (fun _ h9 => h9) rfl dX3_after_23 ?_
    refine lv_iload_n hx hb dX3_after_26 rfl (lv_at hl 1 rfl) ?_
    obtain ⟨i8, hf⟩ := gd_some hf
    refine va_iald hx hb hK hP 1 0 rfl rfl i8 dX3_after_27 ?_
    exact hJ_28 _ _ _ _ ls hf (hP.sub [0, 1, 2, 3, 4] rfl) (hD.sub [0, 1, 2, 3, 4] (by decide) rfl) hS (lv_sub hl [2, 0] rfl)
  · have hf := ite_t hf c7
    refine lv_iconst (v := (0 : Int32)) hx hb dX3_after_18 (by decide) ?_
    refine lv_goto (tgt := 28) hx hb dX3_after_19 (by decide) ?_
    exact hJ_28 _ _ _ _ ls hf (hP.sub [0, 1, 2, 3, 4] rfl) (hD.sub [0, 1, 2, 3, 4] (by decide) rfl) hS (lv_sub hl [2, 0] rfl)

def f_X3_liveBefore_57   (L1 : Nat) (f0_before : (Nat → Int32)) (f1_a : (Nat → Int32)) (f1_b : (Nat → Int32)) (f1_d : (Nat → Int32)) (f1_kind : (Nat → Int32)) (v1_count : Int32) (x2 x3 x4 : Int32) : Option Int32 := (f_X2_readsB x3).bind (fun u1 => if u1 = 0 then (some x4) else (gd x2 L1 (some (x4 ||| ((1 : Int32) <<< ((f1_b (x2).toNatClampNeg) &&& 31))))))
def f_X3_liveBefore_37   (L1 : Nat) (f0_before : (Nat → Int32)) (f1_a : (Nat → Int32)) (f1_b : (Nat → Int32)) (f1_d : (Nat → Int32)) (f1_kind : (Nat → Int32)) (v1_count : Int32) (x2 x3 x4 : Int32) : Option Int32 := (f_X2_readsA x3).bind (fun u5 => if u5 = 0 then (f_X3_liveBefore_57 L1 f0_before f1_a f1_b f1_d f1_kind v1_count x2 x3 x4) else (gd x2 L1 (f_X3_liveBefore_57 L1 f0_before f1_a f1_b f1_d f1_kind v1_count x2 x3 (x4 ||| ((1 : Int32) <<< ((f1_a (x2).toNatClampNeg) &&& 31))))))
def f_X3_liveBefore  (L1 : Nat) (f0_before : (Nat → Int32)) (f1_a : (Nat → Int32)) (f1_b : (Nat → Int32)) (f1_d : (Nat → Int32)) (f1_kind : (Nat → Int32)) (v1_count : Int32) (x2 : Int32) : Option Int32 := gd x2 L1 ((f_X3_after L1 f0_before f1_d f1_kind v1_count x2).bind (fun u10 => (f_X2_writesD (f1_kind (x2).toNatClampNeg)).bind (fun u12 => if u12 = 0 then (f_X3_liveBefore_37 L1 f0_before f1_a f1_b f1_d f1_kind v1_count x2 (f1_kind (x2).toNatClampNeg) u10) else (gd x2 L1 (f_X3_liveBefore_37 L1 f0_before f1_a f1_b f1_d f1_kind v1_count x2 (f1_kind (x2).toNatClampNeg) (u10 &&& (((1 : Int32) <<< ((f1_d (x2).toNatClampNeg) &&& 31)) ^^^ (-1 : Int32))))))))
theorem iw_X3_liveBefore_X6 : ∀ w ∈ wsX60, w ∈ wsX3_liveBefore := by decide +kernel
set_option maxHeartbeats 4000000 in
set_option maxRecDepth 100000 in
theorem c_X3_liveBefore (l : Launch) (D : va_G) (cI cZ : ClassId) (h0 h1 h0_before h1_kind h1_d h1_a h1_b : Nat) (sz : Nat) (L1 : Nat) (f0_before f1_a f1_b f1_d f1_kind : Nat → Int32) (v1_count : Int32)  (x2 : Int32) (res : Int32) (hf : f_X3_liveBefore L1 f0_before f1_a f1_b f1_d f1_kind v1_count x2 = some res) : Ct_i l yX3_liveBefore wsX3_liveBefore ({ frames := 3, cells := 0, slots := 0, locals := 66 }) D [(cI, .int), (cZ, .boolean)] [.ref h0, .ref h1, .int x2] sz [(h0, .inr (2, [.ref h0_before])), (h0_before, .inl (cI, 24, .inl f0_before)), (h1, .inr (5, [.ref h1_kind, .ref h1_d, .ref h1_a, .ref h1_b, .int v1_count])), (h1_a, .inl (cI, L1, .inl f1_a)), (h1_b, .inl (cI, L1, .inl f1_b)), (h1_d, .inl (cI, L1, .inl f1_d)), (h1_kind, .inl (cI, L1, .inl f1_kind))] res [(h0, .inr (2, [.ref h0_before])), (h0_before, .inl (cI, 24, .inl f0_before)), (h1, .inr (5, [.ref h1_kind, .ref h1_d, .ref h1_a, .ref h1_b, .int v1_count])), (h1_a, .inl (cI, L1, .inl f1_a)), (h1_b, .inl (cI, L1, .inl f1_b)), (h1_d, .inl (cI, L1, .inl f1_d)), (h1_kind, .inl (cI, L1, .inl f1_kind))] := by
  refine g_of (cc := cX3_liveBefore) (maxL := 5) (ret := some .int) (QQ := (fun A => g_Qi D [(cI, .int), (cZ, .boolean)] A res [(h0, .inr (2, [.ref h0_before])), (h0_before, .inl (cI, 24, .inl f0_before)), (h1, .inr (5, [.ref h1_kind, .ref h1_d, .ref h1_a, .ref h1_b, .int v1_count])), (h1_a, .inl (cI, L1, .inl f1_a)), (h1_b, .inl (cI, L1, .inl f1_b)), (h1_d, .inl (cI, L1, .inl f1_d)), (h1_kind, .inl (cI, L1, .inl f1_kind))])) (by decide) rfl (Nat.le_of_ble_eq_true rfl) ?_
  intro p e s m args below meth c A ls S hr hlocks hA hP hK hD hl
  show W p l e ({ frames := 3, cells := 0, slots := 0, locals := 66 }) s m args below meth c s.heap [] 0 0 (MQ below (g_Qi D [(cI, .int), (cZ, .boolean)] A res [(h0, .inr (2, [.ref h0_before])), (h0_before, .inl (cI, 24, .inl f0_before)), (h1, .inr (5, [.ref h1_kind, .ref h1_d, .ref h1_a, .ref h1_b, .int v1_count])), (h1_a, .inl (cI, L1, .inl f1_a)), (h1_b, .inl (cI, L1, .inl f1_b)), (h1_d, .inl (cI, L1, .inl f1_d)), (h1_kind, .inl (cI, L1, .inl f1_kind))]) args s 0 0 A) (F0 m 0 ls [])
  have hx := S.1
  have hb := S.2.1
  have hml := S.2.2.1
  have hown := S.2.2.2.1
  have hts := S.2.2.2.2
  have fl_35 := hts (.fieldLink RX3 35 "PassPipeline$Program" "kind" "[I") (by decide +kernel)
  have fl_47 := hts (.fieldLink RX3 47 "PassPipeline$Program" "d" "[I") (by decide +kernel)
  have fl_53 := hts (.fieldLink RX3 53 "PassPipeline$Program" "a" "[I") (by decide +kernel)
  have fl_59 := hts (.fieldLink RX3 59 "PassPipeline$Program" "b" "[I") (by decide +kernel)
  have hS : va_S A s.heap s.heap [] := va_S.rf
  have hl : lv_has ls 5 [(0, .ref h0), (1, .ref h1), (2, .int x2)] := hl
  have hJ_57 : ∀  (x2 x3 x4 : Int32) (H : Heap) (locs : List Loc) (ls : Array Slot), f_X3_liveBefore_57 L1 f0_before f1_a f1_b f1_d f1_kind v1_count x2 x3 x4 = some res → va_P D vwCl [(h0, .inr (2, [.ref h0_before])), (h0_before, .inl (cI, 24, .inl f0_before)), (h1, .inr (5, [.ref h1_kind, .ref h1_d, .ref h1_a, .ref h1_b, .int v1_count])), (h1_a, .inl (cI, L1, .inl f1_a)), (h1_b, .inl (cI, L1, .inl f1_b)), (h1_d, .inl (cI, L1, .inl f1_d)), (h1_kind, .inl (cI, L1, .inl f1_kind))] H → va_D A [(h0, .inr (2, [.ref h0_before])), (h0_before, .inl (cI, 24, .inl f0_before)), (h1, .inr (5, [.ref h1_kind, .ref h1_d, .ref h1_a, .ref h1_b, .int v1_count])), (h1_a, .inl (cI, L1, .inl f1_a)), (h1_b, .inl (cI, L1, .inl f1_b)), (h1_d, .inl (cI, L1, .inl f1_d)), (h1_kind, .inl (cI, L1, .inl f1_kind))] → va_S A s.heap H locs → lv_has ls 5 [(1, .ref h1), (2, .int x2), (3, .int x3), (4, .int x4)] → W p l e ({ frames := 3, cells := 0, slots := 0, locals := 66 }) s m args below meth c H locs 0 0 (MQ below (g_Qi D [(cI, .int), (cZ, .boolean)] A res [(h0, .inr (2, [.ref h0_before])), (h0_before, .inl (cI, 24, .inl f0_before)), (h1, .inr (5, [.ref h1_kind, .ref h1_d, .ref h1_a, .ref h1_b, .int v1_count])), (h1_a, .inl (cI, L1, .inl f1_a)), (h1_b, .inl (cI, L1, .inl f1_b)), (h1_d, .inl (cI, L1, .inl f1_d)), (h1_kind, .inl (cI, L1, .inl f1_kind))]) args s 0 0 A) (F0 m 57 ls []) := by
    intro x2 x3 x4 H locs ls hf hP hD hS hl
    unfold f_X3_liveBefore_57 at hf
    refine lv_iload_n hx hb dX3_liveBefore_57 rfl (lv_at hl 2 rfl) ?_
    obtain ⟨u1, g2, hf⟩ := bd_some hf
    refine g_callSi S (c_X2_readsB l D cI cZ _ x3 u1 g2) (va_cwS 1 hts gX3_liveBefore_X2_readsB rfl rfl rfl (by decide +kernel) ⟨Nat.le_of_ble_eq_true rfl, Nat.le_of_ble_eq_true rfl⟩) hK hP hD hS hA [] [0, 1, 2, 3, 4, 5, 6] [(h0, .inr (2, [.ref h0_before])), (h0_before, .inl (cI, 24, .inl f0_before)), (h1, .inr (5, [.ref h1_kind, .ref h1_d, .ref h1_a, .ref h1_b, .int v1_count])), (h1_a, .inl (cI, L1, .inl f1_a)), (h1_b, .inl (cI, L1, .inl f1_b)), (h1_d, .inl (cI, L1, .inl f1_d)), (h1_kind, .inl (cI, L1, .inl f1_kind))] rfl rfl (by decide) (by decide) (by decide) rfl hl.1 rfl (Nat.le_of_ble_eq_true rfl) dX3_liveBefore_58 ⟨Nat.le_of_ble_eq_true rfl, Nat.le_of_ble_eq_true rfl⟩ (fun H locs hP hD hS => ?_)
    have hP : va_P D vwCl [(h0, .inr (2, [.ref h0_before])), (h0_before, .inl (cI, 24, .inl f0_before)), (h1, .inr (5, [.ref h1_kind, .ref h1_d, .ref h1_a, .ref h1_b, .int v1_count])), (h1_a, .inl (cI, L1, .inl f1_a)), (h1_b, .inl (cI, L1, .inl f1_b)), (h1_d, .inl (cI, L1, .inl f1_d)), (h1_kind, .inl (cI, L1, .inl f1_kind))] H := hP
    have hD : va_D A [(h0, .inr (2, [.ref h0_before])), (h0_before, .inl (cI, 24, .inl f0_before)), (h1, .inr (5, [.ref h1_kind, .ref h1_d, .ref h1_a, .ref h1_b, .int v1_count])), (h1_a, .inl (cI, L1, .inl f1_a)), (h1_b, .inl (cI, L1, .inl f1_b)), (h1_d, .inl (cI, L1, .inl f1_d)), (h1_kind, .inl (cI, L1, .inl f1_kind))] := hD
    refine lv_if_eq (tgt := 77) hx hb dX3_liveBefore_61 (by decide) (fun c3 => ?_) (fun c3 => ?_)
    · have hf := ite_t hf c3
      refine lv_iload hx hb dX3_liveBefore_77 (lv_at hl 3 rfl) ?_
      have hf := Option.some.inj hf
      subst hf
      exact g_iret hx hb hr hlocks (hP.sub [0, 1, 2, 3, 4, 5, 6] rfl) (hD.sub [0, 1, 2, 3, 4, 5, 6] (by decide) rfl) hK hS rfl dX3_liveBefore_79
    · have hf := ite_e hf c3
      refine lv_iload hx hb dX3_liveBefore_64 (lv_at hl 3 rfl) ?_
      refine lv_iconst (v := (1 : Int32)) hx hb dX3_liveBefore_66 (by decide) ?_
      refine lv_aload_n hx hb dX3_liveBefore_67 rfl (lv_at hl 0 rfl) ?_
      refine va_get (D := D) (ci := 5) (v := .ref h1_b) (C := RX6) (T := TX6) (N := 5) hx hb hts iw_X3_liveBefore_X6 hown hK hP 2 rfl rfl 3 (by decide) fl_59 (fun _ h9 => h9) rfl dX3_liveBefore_68 ?_
      refine lv_iload_n hx hb dX3_liveBefore_71 rfl (lv_at hl 1 rfl) ?_
      obtain ⟨i4, hf⟩ := gd_some hf
      refine va_iald hx hb hK hP 4 0 rfl rfl i4 dX3_liveBefore_72 ?_
      refine lv_ishl hx hb dX3_liveBefore_73 ?_
      refine lv_ior hx hb dX3_liveBefore_74 ?_
      refine lv_istore (lv' := [(4, .int (x4 ||| ((1 : Int32) <<< ((f1_b (x2).toNatClampNeg) &&& 31)))), (1, .ref h1), (2, .int x2), (3, .int x3)]) hx hb dX3_liveBefore_75 hl (by decide) rfl (fun ls hl => ?_)
      refine lv_iload hx hb dX3_liveBefore_77 (lv_at hl 0 rfl) ?_
      have hf := Option.some.inj hf
      subst hf
      exact g_iret hx hb hr hlocks (hP.sub [0, 1, 2, 3, 4, 5, 6] rfl) (hD.sub [0, 1, 2, 3, 4, 5, 6] (by decide) rfl) hK hS rfl dX3_liveBefore_79
  have hJ_37 : ∀  (x2 x3 x4 : Int32) (H : Heap) (locs : List Loc) (ls : Array Slot), f_X3_liveBefore_37 L1 f0_before f1_a f1_b f1_d f1_kind v1_count x2 x3 x4 = some res → va_P D vwCl [(h0, .inr (2, [.ref h0_before])), (h0_before, .inl (cI, 24, .inl f0_before)), (h1, .inr (5, [.ref h1_kind, .ref h1_d, .ref h1_a, .ref h1_b, .int v1_count])), (h1_a, .inl (cI, L1, .inl f1_a)), (h1_b, .inl (cI, L1, .inl f1_b)), (h1_d, .inl (cI, L1, .inl f1_d)), (h1_kind, .inl (cI, L1, .inl f1_kind))] H → va_D A [(h0, .inr (2, [.ref h0_before])), (h0_before, .inl (cI, 24, .inl f0_before)), (h1, .inr (5, [.ref h1_kind, .ref h1_d, .ref h1_a, .ref h1_b, .int v1_count])), (h1_a, .inl (cI, L1, .inl f1_a)), (h1_b, .inl (cI, L1, .inl f1_b)), (h1_d, .inl (cI, L1, .inl f1_d)), (h1_kind, .inl (cI, L1, .inl f1_kind))] → va_S A s.heap H locs → lv_has ls 5 [(1, .ref h1), (2, .int x2), (3, .int x3), (4, .int x4)] → W p l e ({ frames := 3, cells := 0, slots := 0, locals := 66 }) s m args below meth c H locs 0 0 (MQ below (g_Qi D [(cI, .int), (cZ, .boolean)] A res [(h0, .inr (2, [.ref h0_before])), (h0_before, .inl (cI, 24, .inl f0_before)), (h1, .inr (5, [.ref h1_kind, .ref h1_d, .ref h1_a, .ref h1_b, .int v1_count])), (h1_a, .inl (cI, L1, .inl f1_a)), (h1_b, .inl (cI, L1, .inl f1_b)), (h1_d, .inl (cI, L1, .inl f1_d)), (h1_kind, .inl (cI, L1, .inl f1_kind))]) args s 0 0 A) (F0 m 37 ls []) := by
    intro x2 x3 x4 H locs ls hf hP hD hS hl
    unfold f_X3_liveBefore_37 at hf
    refine lv_iload_n hx hb dX3_liveBefore_37 rfl (lv_at hl 2 rfl) ?_
    obtain ⟨u5, g6, hf⟩ := bd_some hf
    refine g_callSi S (c_X2_readsA l D cI cZ _ x3 u5 g6) (va_cwS 1 hts gX3_liveBefore_X2_readsA rfl rfl rfl (by decide +kernel) ⟨Nat.le_of_ble_eq_true rfl, Nat.le_of_ble_eq_true rfl⟩) hK hP hD hS hA [] [0, 1, 2, 3, 4, 5, 6] [(h0, .inr (2, [.ref h0_before])), (h0_before, .inl (cI, 24, .inl f0_before)), (h1, .inr (5, [.ref h1_kind, .ref h1_d, .ref h1_a, .ref h1_b, .int v1_count])), (h1_a, .inl (cI, L1, .inl f1_a)), (h1_b, .inl (cI, L1, .inl f1_b)), (h1_d, .inl (cI, L1, .inl f1_d)), (h1_kind, .inl (cI, L1, .inl f1_kind))] rfl rfl (by decide) (by decide) (by decide) rfl hl.1 rfl (Nat.le_of_ble_eq_true rfl) dX3_liveBefore_38 ⟨Nat.le_of_ble_eq_true rfl, Nat.le_of_ble_eq_true rfl⟩ (fun H locs hP hD hS => ?_)
    have hP : va_P D vwCl [(h0, .inr (2, [.ref h0_before])), (h0_before, .inl (cI, 24, .inl f0_before)), (h1, .inr (5, [.ref h1_kind, .ref h1_d, .ref h1_a, .ref h1_b, .int v1_count])), (h1_a, .inl (cI, L1, .inl f1_a)), (h1_b, .inl (cI, L1, .inl f1_b)), (h1_d, .inl (cI, L1, .inl f1_d)), (h1_kind, .inl (cI, L1, .inl f1_kind))] H := hP
    have hD : va_D A [(h0, .inr (2, [.ref h0_before])), (h0_before, .inl (cI, 24, .inl f0_before)), (h1, .inr (5, [.ref h1_kind, .ref h1_d, .ref h1_a, .ref h1_b, .int v1_count])), (h1_a, .inl (cI, L1, .inl f1_a)), (h1_b, .inl (cI, L1, .inl f1_b)), (h1_d, .inl (cI, L1, .inl f1_d)), (h1_kind, .inl (cI, L1, .inl f1_kind))] := hD
    refine lv_if_eq (tgt := 57) hx hb dX3_liveBefore_41 (by decide) (fun c7 => ?_) (fun c7 => ?_)
    · have hf := ite_t hf c7
      exact hJ_57 _ _ _ _ _ ls hf (hP.sub [0, 1, 2, 3, 4, 5, 6] rfl) (hD.sub [0, 1, 2, 3, 4, 5, 6] (by decide) rfl) hS (lv_sub hl [0, 1, 2, 3] rfl)
    · have hf := ite_e hf c7
      refine lv_iload hx hb dX3_liveBefore_44 (lv_at hl 3 rfl) ?_
      refine lv_iconst (v := (1 : Int32)) hx hb dX3_liveBefore_46 (by decide) ?_
      refine lv_aload_n hx hb dX3_liveBefore_47 rfl (lv_at hl 0 rfl) ?_
      refine va_get (D := D) (ci := 5) (v := .ref h1_a) (C := RX6) (T := TX6) (N := 5) hx hb hts iw_X3_liveBefore_X6 hown hK hP 2 rfl rfl 2 (by decide) fl_53 (fun _ h9 => h9) rfl dX3_liveBefore_48 ?_
      refine lv_iload_n hx hb dX3_liveBefore_51 rfl (lv_at hl 1 rfl) ?_
      obtain ⟨i8, hf⟩ := gd_some hf
      refine va_iald hx hb hK hP 3 0 rfl rfl i8 dX3_liveBefore_52 ?_
      refine lv_ishl hx hb dX3_liveBefore_53 ?_
      refine lv_ior hx hb dX3_liveBefore_54 ?_
      refine lv_istore (lv' := [(4, .int (x4 ||| ((1 : Int32) <<< ((f1_a (x2).toNatClampNeg) &&& 31)))), (1, .ref h1), (2, .int x2), (3, .int x3)]) hx hb dX3_liveBefore_55 hl (by decide) rfl (fun ls hl => ?_)
      exact hJ_57 _ _ _ _ _ ls hf (hP.sub [0, 1, 2, 3, 4, 5, 6] rfl) (hD.sub [0, 1, 2, 3, 4, 5, 6] (by decide) rfl) hS (lv_sub hl [1, 2, 3, 0] rfl)
  unfold f_X3_liveBefore at hf
  refine lv_aload_n hx hb dX3_liveBefore_0 rfl (lv_at hl 1 rfl) ?_
  refine va_get (D := D) (ci := 5) (v := .ref h1_kind) (C := RX6) (T := TX6) (N := 5) hx hb hts iw_X3_liveBefore_X6 hown hK hP 2 rfl rfl 0 (by decide) fl_35 (fun _ h9 => h9) rfl dX3_liveBefore_1 ?_
  refine lv_iload_n hx hb dX3_liveBefore_4 rfl (lv_at hl 2 rfl) ?_
  obtain ⟨i9, hf⟩ := gd_some hf
  refine va_iald hx hb hK hP 6 0 rfl rfl i9 dX3_liveBefore_5 ?_
  refine lv_istore_n (lv' := [(3, .int (f1_kind (x2).toNatClampNeg)), (0, .ref h0), (1, .ref h1), (2, .int x2)]) hx hb dX3_liveBefore_6 rfl hl (by decide) rfl (fun ls hl => ?_)
  refine lv_aload_n hx hb dX3_liveBefore_7 rfl (lv_at hl 1 rfl) ?_
  refine lv_aload_n hx hb dX3_liveBefore_8 rfl (lv_at hl 2 rfl) ?_
  refine lv_iload_n hx hb dX3_liveBefore_9 rfl (lv_at hl 3 rfl) ?_
  obtain ⟨u10, g11, hf⟩ := bd_some hf
  refine g_callVi S (c_X3_after l D cI cZ h0 h1 h0_before h1_kind h1_d h1_a h1_b _ L1 f0_before f1_d f1_kind v1_count x2 u10 g11) (cwV 2 hts gX3_liveBefore_X3_after rfl rfl rfl (by decide +kernel) ⟨Nat.le_of_ble_eq_true rfl, Nat.le_of_ble_eq_true rfl⟩) hK hP hD hS hA 0 (ci := 2) rfl rfl [0, 1, 2, 5, 6] [3, 4] [(h1_a, .inl (cI, L1, .inl f1_a)), (h1_b, .inl (cI, L1, .inl f1_b))] rfl rfl (by decide) (by decide) (by decide) rfl hl.1 rfl (Nat.le_of_ble_eq_true rfl) dX3_liveBefore_10 ⟨Nat.le_of_ble_eq_true rfl, Nat.le_of_ble_eq_true rfl⟩ (fun H locs hP hD hS => ?_)
  have hP : va_P D vwCl [(h1_a, .inl (cI, L1, .inl f1_a)), (h1_b, .inl (cI, L1, .inl f1_b)), (h0, .inr (2, [.ref h0_before])), (h0_before, .inl (cI, 24, .inl f0_before)), (h1, .inr (5, [.ref h1_kind, .ref h1_d, .ref h1_a, .ref h1_b, .int v1_count])), (h1_d, .inl (cI, L1, .inl f1_d)), (h1_kind, .inl (cI, L1, .inl f1_kind))] H := hP
  have hD : va_D A [(h1_a, .inl (cI, L1, .inl f1_a)), (h1_b, .inl (cI, L1, .inl f1_b)), (h0, .inr (2, [.ref h0_before])), (h0_before, .inl (cI, 24, .inl f0_before)), (h1, .inr (5, [.ref h1_kind, .ref h1_d, .ref h1_a, .ref h1_b, .int v1_count])), (h1_d, .inl (cI, L1, .inl f1_d)), (h1_kind, .inl (cI, L1, .inl f1_kind))] := hD
  refine lv_istore (lv' := [(4, .int u10), (3, .int (f1_kind (x2).toNatClampNeg)), (0, .ref h0), (1, .ref h1), (2, .int x2)]) hx hb dX3_liveBefore_13 hl (by decide) rfl (fun ls hl => ?_)
  refine lv_iload_n hx hb dX3_liveBefore_15 rfl (lv_at hl 1 rfl) ?_
  obtain ⟨u12, g13, hf⟩ := bd_some hf
  refine g_callSi S (c_X2_writesD l D cI cZ _ (f1_kind (x2).toNatClampNeg) u12 g13) (va_cwS 1 hts gX3_liveBefore_X2_writesD rfl rfl rfl (by decide +kernel) ⟨Nat.le_of_ble_eq_true rfl, Nat.le_of_ble_eq_true rfl⟩) hK hP hD hS hA [] [0, 1, 2, 3, 4, 5, 6] [(h1_a, .inl (cI, L1, .inl f1_a)), (h1_b, .inl (cI, L1, .inl f1_b)), (h0, .inr (2, [.ref h0_before])), (h0_before, .inl (cI, 24, .inl f0_before)), (h1, .inr (5, [.ref h1_kind, .ref h1_d, .ref h1_a, .ref h1_b, .int v1_count])), (h1_d, .inl (cI, L1, .inl f1_d)), (h1_kind, .inl (cI, L1, .inl f1_kind))] rfl rfl (by decide) (by decide) (by decide) rfl hl.1 rfl (Nat.le_of_ble_eq_true rfl) dX3_liveBefore_16 ⟨Nat.le_of_ble_eq_true rfl, Nat.le_of_ble_eq_true rfl⟩ (fun H locs hP hD hS => ?_)
  have hP : va_P D vwCl [(h1_a, .inl (cI, L1, .inl f1_a)), (h1_b, .inl (cI, L1, .inl f1_b)), (h0, .inr (2, [.ref h0_before])), (h0_before, .inl (cI, 24, .inl f0_before)), (h1, .inr (5, [.ref h1_kind, .ref h1_d, .ref h1_a, .ref h1_b, .int v1_count])), (h1_d, .inl (cI, L1, .inl f1_d)), (h1_kind, .inl (cI, L1, .inl f1_kind))] H := hP
  have hD : va_D A [(h1_a, .inl (cI, L1, .inl f1_a)), (h1_b, .inl (cI, L1, .inl f1_b)), (h0, .inr (2, [.ref h0_before])), (h0_before, .inl (cI, 24, .inl f0_before)), (h1, .inr (5, [.ref h1_kind, .ref h1_d, .ref h1_a, .ref h1_b, .int v1_count])), (h1_d, .inl (cI, L1, .inl f1_d)), (h1_kind, .inl (cI, L1, .inl f1_kind))] := hD
  refine lv_if_eq (tgt := 37) hx hb dX3_liveBefore_19 (by decide) (fun c14 => ?_) (fun c14 => ?_)
  · have hf := ite_t hf c14
    exact hJ_37 _ _ _ _ _ ls hf (hP.sub [2, 3, 4, 0, 1, 5, 6] rfl) (hD.sub [2, 3, 4, 0, 1, 5, 6] (by decide) rfl) hS (lv_sub hl [3, 4, 1, 0] rfl)
  · have hf := ite_e hf c14
    refine lv_iload hx hb dX3_liveBefore_22 (lv_at hl 0 rfl) ?_
    refine lv_iconst (v := (1 : Int32)) hx hb dX3_liveBefore_24 (by decide) ?_
    refine lv_aload_n hx hb dX3_liveBefore_25 rfl (lv_at hl 3 rfl) ?_
    refine va_get (D := D) (ci := 5) (v := .ref h1_d) (C := RX6) (T := TX6) (N := 5) hx hb hts iw_X3_liveBefore_X6 hown hK hP 4 rfl rfl 1 (by decide) fl_47 (fun _ h9 => h9) rfl dX3_liveBefore_26 ?_
    refine lv_iload_n hx hb dX3_liveBefore_29 rfl (lv_at hl 4 rfl) ?_
    obtain ⟨i15, hf⟩ := gd_some hf
    refine va_iald hx hb hK hP 5 0 rfl rfl i15 dX3_liveBefore_30 ?_
    refine lv_ishl hx hb dX3_liveBefore_31 ?_
    refine lv_iconst (v := (-1 : Int32)) hx hb dX3_liveBefore_32 (by decide) ?_
    refine lv_ixor hx hb dX3_liveBefore_33 ?_
    refine lv_iand hx hb dX3_liveBefore_34 ?_
    refine lv_istore (lv' := [(4, .int (u10 &&& (((1 : Int32) <<< ((f1_d (x2).toNatClampNeg) &&& 31)) ^^^ (-1 : Int32)))), (3, .int (f1_kind (x2).toNatClampNeg)), (0, .ref h0), (1, .ref h1), (2, .int x2)]) hx hb dX3_liveBefore_35 hl (by decide) rfl (fun ls hl => ?_)
    exact hJ_37 _ _ _ _ _ ls hf (hP.sub [2, 3, 4, 0, 1, 5, 6] rfl) (hD.sub [2, 3, 4, 0, 1, 5, 6] (by decide) rfl) hS (lv_sub hl [3, 4, 1, 0] rfl)

def f_X3_sweep_41 (n : Nat) (k_9 : (Nat → Int32) → Int32 → Int32 → Option (Int32 × (Nat → Int32))) (L1 : Nat) (f0_before : (Nat → Int32)) (f1_a : (Nat → Int32)) (f1_b : (Nat → Int32)) (f1_d : (Nat → Int32)) (f1_kind : (Nat → Int32)) (v1_count : Int32) (x3 x4 t0 : Int32) : Option (Int32 × (Nat → Int32)) := gd x3 24 (k_9 (upd f0_before (x3).toNatClampNeg x4) t0 (x3 + (-1 : Int32)))
def f_X3_sweep_9 (n : Nat)  : Nat → Nat → (Nat → Int32) → (Nat → Int32) → (Nat → Int32) → (Nat → Int32) → (Nat → Int32) → Int32 → Int32 → Int32 → Option (Int32 × (Nat → Int32))
  | 0, _, _, _, _, _, _, _, _, _ => none
  | k + 1, L1, f0_before, f1_a, f1_b, f1_d, f1_kind, v1_count, x2, x3 => if x3 < 0 then (gb x2 (some (x2, f0_before))) else ((f_X3_liveBefore L1 f0_before f1_a f1_b f1_d f1_kind v1_count x3).bind (fun u4 => if x2 = 0 then (gd x3 24 (if u4 = (f0_before (x3).toNatClampNeg) then (f_X3_sweep_41 n (fun f0_before' x2' x3' => f_X3_sweep_9 n k L1 f0_before' f1_a f1_b f1_d f1_kind v1_count x2' x3') L1 f0_before f1_a f1_b f1_d f1_kind v1_count x3 u4 (0 : Int32)) else (f_X3_sweep_41 n (fun f0_before' x2' x3' => f_X3_sweep_9 n k L1 f0_before' f1_a f1_b f1_d f1_kind v1_count x2' x3') L1 f0_before f1_a f1_b f1_d f1_kind v1_count x3 u4 (1 : Int32)))) else (f_X3_sweep_41 n (fun f0_before' x2' x3' => f_X3_sweep_9 n k L1 f0_before' f1_a f1_b f1_d f1_kind v1_count x2' x3') L1 f0_before f1_a f1_b f1_d f1_kind v1_count x3 u4 (1 : Int32))))
def f_X3_sweep (n : Nat) (L1 : Nat) (f0_before : (Nat → Int32)) (f1_a : (Nat → Int32)) (f1_b : (Nat → Int32)) (f1_d : (Nat → Int32)) (f1_kind : (Nat → Int32)) (v1_count : Int32)  : Option (Int32 × (Nat → Int32)) := f_X3_sweep_9 n n L1 f0_before f1_a f1_b f1_d f1_kind v1_count (0 : Int32) (v1_count - (1 : Int32))
theorem iw_X3_sweep_X3 : ∀ w ∈ wsX30, w ∈ wsX3_sweep := by decide +kernel
theorem iw_X3_sweep_X6 : ∀ w ∈ wsX60, w ∈ wsX3_sweep := by decide +kernel
set_option maxHeartbeats 4000000 in
set_option maxRecDepth 100000 in
theorem c_X3_sweep (l : Launch) (D : va_G) (cI cZ : ClassId) (h0 h1 h0_before h1_kind h1_d h1_a h1_b : Nat) (sz : Nat) (L1 : Nat) (f0_before f1_a f1_b f1_d f1_kind : Nat → Int32) (v1_count : Int32) (n : Nat)  (res : (Int32 × (Nat → Int32))) (hf : f_X3_sweep n L1 f0_before f1_a f1_b f1_d f1_kind v1_count = some res) : Ct_i l yX3_sweep wsX3_sweep ({ frames := 4, cells := 0, slots := 0, locals := 90 }) D [(cI, .int), (cZ, .boolean)] [.ref h0, .ref h1] sz [(h0, .inr (2, [.ref h0_before])), (h0_before, .inl (cI, 24, .inl f0_before)), (h1, .inr (5, [.ref h1_kind, .ref h1_d, .ref h1_a, .ref h1_b, .int v1_count])), (h1_a, .inl (cI, L1, .inl f1_a)), (h1_b, .inl (cI, L1, .inl f1_b)), (h1_d, .inl (cI, L1, .inl f1_d)), (h1_kind, .inl (cI, L1, .inl f1_kind))] res.1 [(h0, .inr (2, [.ref h0_before])), (h0_before, .inl (cI, 24, .inl res.2)), (h1, .inr (5, [.ref h1_kind, .ref h1_d, .ref h1_a, .ref h1_b, .int v1_count])), (h1_a, .inl (cI, L1, .inl f1_a)), (h1_b, .inl (cI, L1, .inl f1_b)), (h1_d, .inl (cI, L1, .inl f1_d)), (h1_kind, .inl (cI, L1, .inl f1_kind))] := by
  refine g_of (cc := cX3_sweep) (maxL := 5) (ret := some .boolean) (QQ := (fun A => g_Qi D [(cI, .int), (cZ, .boolean)] A res.1 [(h0, .inr (2, [.ref h0_before])), (h0_before, .inl (cI, 24, .inl res.2)), (h1, .inr (5, [.ref h1_kind, .ref h1_d, .ref h1_a, .ref h1_b, .int v1_count])), (h1_a, .inl (cI, L1, .inl f1_a)), (h1_b, .inl (cI, L1, .inl f1_b)), (h1_d, .inl (cI, L1, .inl f1_d)), (h1_kind, .inl (cI, L1, .inl f1_kind))])) (by decide) rfl (Nat.le_of_ble_eq_true rfl) ?_
  intro p e s m args below meth c A ls S hr hlocks hA hP hK hD hl
  show W p l e ({ frames := 4, cells := 0, slots := 0, locals := 90 }) s m args below meth c s.heap [] 0 0 (MQ below (g_Qi D [(cI, .int), (cZ, .boolean)] A res.1 [(h0, .inr (2, [.ref h0_before])), (h0_before, .inl (cI, 24, .inl res.2)), (h1, .inr (5, [.ref h1_kind, .ref h1_d, .ref h1_a, .ref h1_b, .int v1_count])), (h1_a, .inl (cI, L1, .inl f1_a)), (h1_b, .inl (cI, L1, .inl f1_b)), (h1_d, .inl (cI, L1, .inl f1_d)), (h1_kind, .inl (cI, L1, .inl f1_kind))]) args s 0 0 A) (F0 m 0 ls [])
  have hx := S.1
  have hb := S.2.1
  have hml := S.2.2.1
  have hown := S.2.2.2.1
  have hts := S.2.2.2.2
  have fl_25 := hts (.fieldLink RX3 25 "PassPipeline$Program" "count" "I") (by decide +kernel)
  have fl_9 := hts (.fieldLink RX3 9 "PassPipeline$Liveness" "before" "[I") (by decide +kernel)
  have hS : va_S A s.heap s.heap [] := va_S.rf
  have hl : lv_has ls 5 [(0, .ref h0), (1, .ref h1)] := hl
  have hJ_9 : ∀ (k : Nat) (f0_before : (Nat → Int32)) (x2 x3 : Int32) (H : Heap) (locs : List Loc) (ls : Array Slot), f_X3_sweep_9 n k L1 f0_before f1_a f1_b f1_d f1_kind v1_count x2 x3 = some res → va_P D vwCl [(h0, .inr (2, [.ref h0_before])), (h0_before, .inl (cI, 24, .inl f0_before)), (h1, .inr (5, [.ref h1_kind, .ref h1_d, .ref h1_a, .ref h1_b, .int v1_count])), (h1_a, .inl (cI, L1, .inl f1_a)), (h1_b, .inl (cI, L1, .inl f1_b)), (h1_d, .inl (cI, L1, .inl f1_d)), (h1_kind, .inl (cI, L1, .inl f1_kind))] H → va_D A [(h0, .inr (2, [.ref h0_before])), (h0_before, .inl (cI, 24, .inl f0_before)), (h1, .inr (5, [.ref h1_kind, .ref h1_d, .ref h1_a, .ref h1_b, .int v1_count])), (h1_a, .inl (cI, L1, .inl f1_a)), (h1_b, .inl (cI, L1, .inl f1_b)), (h1_d, .inl (cI, L1, .inl f1_d)), (h1_kind, .inl (cI, L1, .inl f1_kind))] → va_S A s.heap H locs → lv_has ls 5 [(0, .ref h0), (1, .ref h1), (2, .int x2), (3, .int x3)] → W p l e ({ frames := 4, cells := 0, slots := 0, locals := 90 }) s m args below meth c H locs 0 0 (MQ below (g_Qi D [(cI, .int), (cZ, .boolean)] A res.1 [(h0, .inr (2, [.ref h0_before])), (h0_before, .inl (cI, 24, .inl res.2)), (h1, .inr (5, [.ref h1_kind, .ref h1_d, .ref h1_a, .ref h1_b, .int v1_count])), (h1_a, .inl (cI, L1, .inl f1_a)), (h1_b, .inl (cI, L1, .inl f1_b)), (h1_d, .inl (cI, L1, .inl f1_d)), (h1_kind, .inl (cI, L1, .inl f1_kind))]) args s 0 0 A) (F0 m 9 ls []) := by
    intro k
    induction k with
    | zero => intro f0_before x2 x3 H locs ls hf; rw [f_X3_sweep_9] at hf; cases hf
    | succ m_9 ih =>
      have ih_9 : ∀ (f0_before : (Nat → Int32)) (x2 x3 : Int32) (H : Heap) (locs : List Loc) (ls : Array Slot), (fun f0_before' x2' x3' => f_X3_sweep_9 n m_9 L1 f0_before' f1_a f1_b f1_d f1_kind v1_count x2' x3') f0_before x2 x3 = some res → va_P D vwCl [(h0, .inr (2, [.ref h0_before])), (h0_before, .inl (cI, 24, .inl f0_before)), (h1, .inr (5, [.ref h1_kind, .ref h1_d, .ref h1_a, .ref h1_b, .int v1_count])), (h1_a, .inl (cI, L1, .inl f1_a)), (h1_b, .inl (cI, L1, .inl f1_b)), (h1_d, .inl (cI, L1, .inl f1_d)), (h1_kind, .inl (cI, L1, .inl f1_kind))] H → va_D A [(h0, .inr (2, [.ref h0_before])), (h0_before, .inl (cI, 24, .inl f0_before)), (h1, .inr (5, [.ref h1_kind, .ref h1_d, .ref h1_a, .ref h1_b, .int v1_count])), (h1_a, .inl (cI, L1, .inl f1_a)), (h1_b, .inl (cI, L1, .inl f1_b)), (h1_d, .inl (cI, L1, .inl f1_d)), (h1_kind, .inl (cI, L1, .inl f1_kind))] → va_S A s.heap H locs → lv_has ls 5 [(0, .ref h0), (1, .ref h1), (2, .int x2), (3, .int x3)] → W p l e ({ frames := 4, cells := 0, slots := 0, locals := 90 }) s m args below meth c H locs 0 0 (MQ below (g_Qi D [(cI, .int), (cZ, .boolean)] A res.1 [(h0, .inr (2, [.ref h0_before])), (h0_before, .inl (cI, 24, .inl res.2)), (h1, .inr (5, [.ref h1_kind, .ref h1_d, .ref h1_a, .ref h1_b, .int v1_count])), (h1_a, .inl (cI, L1, .inl f1_a)), (h1_b, .inl (cI, L1, .inl f1_b)), (h1_d, .inl (cI, L1, .inl f1_d)), (h1_kind, .inl (cI, L1, .inl f1_kind))]) args s 0 0 A) (F0 m 9 ls []) := ih
      have hJ_41 : ∀ (f0_before : (Nat → Int32)) (x3 x4 t0 : Int32) (H : Heap) (locs : List Loc) (ls : Array Slot), f_X3_sweep_41 n (fun f0_before' x2' x3' => f_X3_sweep_9 n m_9 L1 f0_before' f1_a f1_b f1_d f1_kind v1_count x2' x3') L1 f0_before f1_a f1_b f1_d f1_kind v1_count x3 x4 t0 = some res → va_P D vwCl [(h0, .inr (2, [.ref h0_before])), (h0_before, .inl (cI, 24, .inl f0_before)), (h1, .inr (5, [.ref h1_kind, .ref h1_d, .ref h1_a, .ref h1_b, .int v1_count])), (h1_a, .inl (cI, L1, .inl f1_a)), (h1_b, .inl (cI, L1, .inl f1_b)), (h1_d, .inl (cI, L1, .inl f1_d)), (h1_kind, .inl (cI, L1, .inl f1_kind))] H → va_D A [(h0, .inr (2, [.ref h0_before])), (h0_before, .inl (cI, 24, .inl f0_before)), (h1, .inr (5, [.ref h1_kind, .ref h1_d, .ref h1_a, .ref h1_b, .int v1_count])), (h1_a, .inl (cI, L1, .inl f1_a)), (h1_b, .inl (cI, L1, .inl f1_b)), (h1_d, .inl (cI, L1, .inl f1_d)), (h1_kind, .inl (cI, L1, .inl f1_kind))] → va_S A s.heap H locs → lv_has ls 5 [(0, .ref h0), (1, .ref h1), (3, .int x3), (4, .int x4)] → W p l e ({ frames := 4, cells := 0, slots := 0, locals := 90 }) s m args below meth c H locs 0 0 (MQ below (g_Qi D [(cI, .int), (cZ, .boolean)] A res.1 [(h0, .inr (2, [.ref h0_before])), (h0_before, .inl (cI, 24, .inl res.2)), (h1, .inr (5, [.ref h1_kind, .ref h1_d, .ref h1_a, .ref h1_b, .int v1_count])), (h1_a, .inl (cI, L1, .inl f1_a)), (h1_b, .inl (cI, L1, .inl f1_b)), (h1_d, .inl (cI, L1, .inl f1_d)), (h1_kind, .inl (cI, L1, .inl f1_kind))]) args s 0 0 A) (F0 m 41 ls [.int t0]) := by
        intro f0_before x3 x4 t0 H locs ls hf hP hD hS hl
        unfold f_X3_sweep_41 at hf
        refine lv_istore_n (lv' := [(2, .int t0), (0, .ref h0), (1, .ref h1), (3, .int x3), (4, .int x4)]) hx hb dX3_sweep_41 rfl hl (by decide) rfl (fun ls hl => ?_)
        refine lv_aload_n hx hb dX3_sweep_42 rfl (lv_at hl 1 rfl) ?_
        refine va_get (D := D) (ci := 2) (v := .ref h0_before) (C := RX3) (T := TX3) (N := 1) hx hb hts iw_X3_sweep_X3 hown hK hP 0 rfl rfl 0 (by decide) fl_9 (fun _ h9 => h9) rfl dX3_sweep_43 ?_
        refine lv_iload_n hx hb dX3_sweep_46 rfl (lv_at hl 3 rfl) ?_
        refine lv_iload hx hb dX3_sweep_47 (lv_at hl 4 rfl) ?_
        obtain ⟨i1, hf⟩ := gd_some hf
        refine va_iast hx hb hK hP hD hS 1 0 rfl rfl i1 dX3_sweep_49 (fun H locs hP hD hS => ?_)
        have hP : va_P D vwCl [(h0, .inr (2, [.ref h0_before])), (h0_before, .inl (cI, 24, .inl (upd f0_before (x3).toNatClampNeg x4))), (h1, .inr (5, [.ref h1_kind, .ref h1_d, .ref h1_a, .ref h1_b, .int v1_count])), (h1_a, .inl (cI, L1, .inl f1_a)), (h1_b, .inl (cI, L1, .inl f1_b)), (h1_d, .inl (cI, L1, .inl f1_d)), (h1_kind, .inl (cI, L1, .inl f1_kind))] H := hP
        have hD : va_D A [(h0, .inr (2, [.ref h0_before])), (h0_before, .inl (cI, 24, .inl (upd f0_before (x3).toNatClampNeg x4))), (h1, .inr (5, [.ref h1_kind, .ref h1_d, .ref h1_a, .ref h1_b, .int v1_count])), (h1_a, .inl (cI, L1, .inl f1_a)), (h1_b, .inl (cI, L1, .inl f1_b)), (h1_d, .inl (cI, L1, .inl f1_d)), (h1_kind, .inl (cI, L1, .inl f1_kind))] := hD
        refine lv_iinc (v := (x3 + (-1 : Int32))) (lv' := [(3, .int (x3 + (-1 : Int32))), (2, .int t0), (0, .ref h0), (1, .ref h1), (4, .int x4)]) hx hb dX3_sweep_50 hl (k := 3) rfl rfl (by decide) rfl (fun ls hl => ?_)
        refine lv_goto (tgt := 9) hx hb dX3_sweep_53 (by decide) ?_
        exact ih_9 _ _ _ _ _ ls hf (hP.sub [0, 1, 2, 3, 4, 5, 6] rfl) (hD.sub [0, 1, 2, 3, 4, 5, 6] (by decide) rfl) hS (lv_sub hl [2, 3, 1, 0] rfl)
      intro f0_before x2 x3 H locs ls hf hP hD hS hl
      rw [f_X3_sweep_9] at hf
      refine lv_iload_n hx hb dX3_sweep_9 rfl (lv_at hl 3 rfl) ?_
      refine lv_if_lt (tgt := 56) hx hb dX3_sweep_10 (by decide) (fun c2 => ?_) (fun c2 => ?_)
      · have hf := ite_t hf c2
        refine lv_iload_n hx hb dX3_sweep_56 rfl (lv_at hl 2 rfl) ?_
        obtain ⟨z3, hf⟩ := gb_some hf
        have hf := Option.some.inj hf
        subst hf
        exact g_zret hx hb hr hlocks (hP.sub [0, 1, 2, 3, 4, 5, 6] rfl) (hD.sub [0, 1, 2, 3, 4, 5, 6] (by decide) rfl) hK hS rfl z3 dX3_sweep_57
      · have hf := ite_e hf c2
        refine lv_aload_n hx hb dX3_sweep_13 rfl (lv_at hl 0 rfl) ?_
        refine lv_aload_n hx hb dX3_sweep_14 rfl (lv_at hl 1 rfl) ?_
        refine lv_iload_n hx hb dX3_sweep_15 rfl (lv_at hl 3 rfl) ?_
        obtain ⟨u4, g5, hf⟩ := bd_some hf
        refine g_callVi S (c_X3_liveBefore l D cI cZ h0 h1 h0_before h1_kind h1_d h1_a h1_b _ L1 f0_before f1_a f1_b f1_d f1_kind v1_count x3 u4 g5) (cwV 2 hts gX3_sweep_X3_liveBefore rfl rfl rfl (by decide +kernel) ⟨Nat.le_of_ble_eq_true rfl, Nat.le_of_ble_eq_true rfl⟩) hK hP hD hS hA 0 (ci := 2) rfl rfl [0, 1, 2, 3, 4, 5, 6] [] [] rfl rfl (by decide) (by decide) (by decide) rfl hl.1 rfl (Nat.le_of_ble_eq_true rfl) dX3_sweep_16 ⟨Nat.le_of_ble_eq_true rfl, Nat.le_of_ble_eq_true rfl⟩ (fun H locs hP hD hS => ?_)
        have hP : va_P D vwCl [(h0, .inr (2, [.ref h0_before])), (h0_before, .inl (cI, 24, .inl f0_before)), (h1, .inr (5, [.ref h1_kind, .ref h1_d, .ref h1_a, .ref h1_b, .int v1_count])), (h1_a, .inl (cI, L1, .inl f1_a)), (h1_b, .inl (cI, L1, .inl f1_b)), (h1_d, .inl (cI, L1, .inl f1_d)), (h1_kind, .inl (cI, L1, .inl f1_kind))] H := hP
        have hD : va_D A [(h0, .inr (2, [.ref h0_before])), (h0_before, .inl (cI, 24, .inl f0_before)), (h1, .inr (5, [.ref h1_kind, .ref h1_d, .ref h1_a, .ref h1_b, .int v1_count])), (h1_a, .inl (cI, L1, .inl f1_a)), (h1_b, .inl (cI, L1, .inl f1_b)), (h1_d, .inl (cI, L1, .inl f1_d)), (h1_kind, .inl (cI, L1, .inl f1_kind))] := hD
        refine lv_istore (lv' := [(4, .int u4), (0, .ref h0), (1, .ref h1), (2, .int x2), (3, .int x3)]) hx hb dX3_sweep_19 hl (by decide) rfl (fun ls hl => ?_)
        refine lv_iload_n hx hb dX3_sweep_21 rfl (lv_at hl 3 rfl) ?_
        refine lv_if_ne (tgt := 36) hx hb dX3_sweep_22 (by decide) (fun c6 => ?_) (fun c6 => ?_)
        · have hf := ite_e hf c6
          refine lv_iconst (v := (1 : Int32)) hx hb dX3_sweep_36 (by decide) ?_
          refine lv_goto (tgt := 41) hx hb dX3_sweep_37 (by decide) ?_
          exact hJ_41 _ _ _ _ _ _ ls hf (hP.sub [0, 1, 2, 3, 4, 5, 6] rfl) (hD.sub [0, 1, 2, 3, 4, 5, 6] (by decide) rfl) hS (lv_sub hl [1, 2, 4, 0] rfl)
        · have hf := ite_t hf c6
          refine lv_iload hx hb dX3_sweep_25 (lv_at hl 0 rfl) ?_
          refine lv_aload_n hx hb dX3_sweep_27 rfl (lv_at hl 1 rfl) ?_
          refine va_get (D := D) (ci := 2) (v := .ref h0_before) (C := RX3) (T := TX3) (N := 1) hx hb hts iw_X3_sweep_X3 hown hK hP 0 rfl rfl 0 (by decide) fl_9 (fun _ h9 => h9) rfl dX3_sweep_28 ?_
          refine lv_iload_n hx hb dX3_sweep_31 rfl (lv_at hl 4 rfl) ?_
          obtain ⟨i7, hf⟩ := gd_some hf
          refine va_iald hx hb hK hP 1 0 rfl rfl i7 dX3_sweep_32 ?_
          refine lv_icmp_eq (tgt := 40) hx hb dX3_sweep_33 (by decide) (fun c8 => ?_) (fun c8 => ?_)
          · have hf := ite_t hf c8
            refine lv_iconst (v := (0 : Int32)) hx hb dX3_sweep_40 (by decide) ?_
            exact hJ_41 _ _ _ _ _ _ ls hf (hP.sub [0, 1, 2, 3, 4, 5, 6] rfl) (hD.sub [0, 1, 2, 3, 4, 5, 6] (by decide) rfl) hS (lv_sub hl [1, 2, 4, 0] rfl)
          · have hf := ite_e hf c8
            refine lv_iconst (v := (1 : Int32)) hx hb dX3_sweep_36 (by decide) ?_
            refine lv_goto (tgt := 41) hx hb dX3_sweep_37 (by decide) ?_
            exact hJ_41 _ _ _ _ _ _ ls hf (hP.sub [0, 1, 2, 3, 4, 5, 6] rfl) (hD.sub [0, 1, 2, 3, 4, 5, 6] (by decide) rfl) hS (lv_sub hl [1, 2, 4, 0] rfl)
  unfold f_X3_sweep at hf
  refine lv_iconst (v := (0 : Int32)) hx hb dX3_sweep_0 (by decide) ?_
  refine lv_istore_n (lv' := [(2, .int (0 : Int32)), (0, .ref h0), (1, .ref h1)]) hx hb dX3_sweep_1 rfl hl (by decide) rfl (fun ls hl => ?_)
  refine lv_aload_n hx hb dX3_sweep_2 rfl (lv_at hl 2 rfl) ?_
  refine va_get (D := D) (ci := 5) (v := .int v1_count) (C := RX6) (T := TX6) (N := 5) hx hb hts iw_X3_sweep_X6 hown hK hP 2 rfl rfl 4 (by decide) fl_25 (fun _ h9 => h9) rfl dX3_sweep_3 ?_
  refine lv_iconst (v := (1 : Int32)) hx hb dX3_sweep_6 (by decide) ?_
  refine lv_isub hx hb dX3_sweep_7 ?_
  refine lv_istore_n (lv' := [(3, .int (v1_count - (1 : Int32))), (2, .int (0 : Int32)), (0, .ref h0), (1, .ref h1)]) hx hb dX3_sweep_8 rfl hl (by decide) rfl (fun ls hl => ?_)
  exact hJ_9 n _ _ _ _ _ ls hf (hP.sub [0, 1, 2, 3, 4, 5, 6] rfl) (hD.sub [0, 1, 2, 3, 4, 5, 6] (by decide) rfl) hS (lv_sub hl [2, 3, 1, 0] rfl)

def f_X3_find_12 (n : Nat)  : Nat → Nat → (Nat → Int32) → (Nat → Int32) → (Nat → Int32) → (Nat → Int32) → (Nat → Int32) → Int32 → Int32 → Int32 → Option (Nat → Int32)
  | 0, _, _, _, _, _, _, _, _, _ => none
  | k + 1, L1, f0_before, f1_a, f1_b, f1_d, f1_kind, v1_count, x2, x3 => if x2 = 0 then (some f0_before) else (if (1000 : Int32) ≤ x3 then (some f0_before) else ((f_X3_sweep n L1 f0_before f1_a f1_b f1_d f1_kind v1_count).bind (fun u3 => f_X3_find_12 n k L1 u3.2 f1_a f1_b f1_d f1_kind v1_count u3.1 (x3 + (1 : Int32)))))
def f_X3_find (n : Nat) (L1 : Nat) (f0_before : (Nat → Int32)) (f1_a : (Nat → Int32)) (f1_b : (Nat → Int32)) (f1_d : (Nat → Int32)) (f1_kind : (Nat → Int32)) (v1_count : Int32)  : Option (Nat → Int32) := (f_J7_fill_53178 n 24 f0_before (0 : Int32)).bind (fun u5 => f_X3_find_12 n n L1 u5 f1_a f1_b f1_d f1_kind v1_count (1 : Int32) (0 : Int32))
theorem iw_X3_find_X3 : ∀ w ∈ wsX30, w ∈ wsX3_find := by decide +kernel
set_option maxHeartbeats 4000000 in
set_option maxRecDepth 100000 in
theorem c_X3_find (l : Launch) (D : va_G) (cI cZ : ClassId) (h0 h1 h0_before h1_kind h1_d h1_a h1_b : Nat) (sz : Nat) (L1 : Nat) (f0_before f1_a f1_b f1_d f1_kind : Nat → Int32) (v1_count : Int32) (n : Nat)  (res : (Nat → Int32)) (hf : f_X3_find n L1 f0_before f1_a f1_b f1_d f1_kind v1_count = some res) : Ct_v l yX3_find wsX3_find ({ frames := 5, cells := 0, slots := 0, locals := 114 }) D [(cI, .int), (cZ, .boolean)] [.ref h0, .ref h1] sz [(h0, .inr (2, [.ref h0_before])), (h0_before, .inl (cI, 24, .inl f0_before)), (h1, .inr (5, [.ref h1_kind, .ref h1_d, .ref h1_a, .ref h1_b, .int v1_count])), (h1_a, .inl (cI, L1, .inl f1_a)), (h1_b, .inl (cI, L1, .inl f1_b)), (h1_d, .inl (cI, L1, .inl f1_d)), (h1_kind, .inl (cI, L1, .inl f1_kind))] [(h0, .inr (2, [.ref h0_before])), (h0_before, .inl (cI, 24, .inl res)), (h1, .inr (5, [.ref h1_kind, .ref h1_d, .ref h1_a, .ref h1_b, .int v1_count])), (h1_a, .inl (cI, L1, .inl f1_a)), (h1_b, .inl (cI, L1, .inl f1_b)), (h1_d, .inl (cI, L1, .inl f1_d)), (h1_kind, .inl (cI, L1, .inl f1_kind))] := by
  refine g_of (cc := cX3_find) (maxL := 4) (ret := none) (QQ := (fun A => g_Qv D [(cI, .int), (cZ, .boolean)] A [(h0, .inr (2, [.ref h0_before])), (h0_before, .inl (cI, 24, .inl res)), (h1, .inr (5, [.ref h1_kind, .ref h1_d, .ref h1_a, .ref h1_b, .int v1_count])), (h1_a, .inl (cI, L1, .inl f1_a)), (h1_b, .inl (cI, L1, .inl f1_b)), (h1_d, .inl (cI, L1, .inl f1_d)), (h1_kind, .inl (cI, L1, .inl f1_kind))])) (by decide) rfl (Nat.le_of_ble_eq_true rfl) ?_
  intro p e s m args below meth c A ls S hr hlocks hA hP hK hD hl
  show W p l e ({ frames := 5, cells := 0, slots := 0, locals := 114 }) s m args below meth c s.heap [] 0 0 (MQ below (g_Qv D [(cI, .int), (cZ, .boolean)] A [(h0, .inr (2, [.ref h0_before])), (h0_before, .inl (cI, 24, .inl res)), (h1, .inr (5, [.ref h1_kind, .ref h1_d, .ref h1_a, .ref h1_b, .int v1_count])), (h1_a, .inl (cI, L1, .inl f1_a)), (h1_b, .inl (cI, L1, .inl f1_b)), (h1_d, .inl (cI, L1, .inl f1_d)), (h1_kind, .inl (cI, L1, .inl f1_kind))]) args s 0 0 A) (F0 m 0 ls [])
  have hx := S.1
  have hb := S.2.1
  have hml := S.2.2.1
  have hown := S.2.2.2.1
  have hts := S.2.2.2.2
  have fl_9 := hts (.fieldLink RX3 9 "PassPipeline$Liveness" "before" "[I") (by decide +kernel)
  have hS : va_S A s.heap s.heap [] := va_S.rf
  have hl : lv_has ls 4 [(0, .ref h0), (1, .ref h1)] := hl
  have hJ_12 : ∀ (k : Nat) (f0_before : (Nat → Int32)) (x2 x3 : Int32) (H : Heap) (locs : List Loc) (ls : Array Slot), f_X3_find_12 n k L1 f0_before f1_a f1_b f1_d f1_kind v1_count x2 x3 = some res → va_P D vwCl [(h0, .inr (2, [.ref h0_before])), (h0_before, .inl (cI, 24, .inl f0_before)), (h1, .inr (5, [.ref h1_kind, .ref h1_d, .ref h1_a, .ref h1_b, .int v1_count])), (h1_a, .inl (cI, L1, .inl f1_a)), (h1_b, .inl (cI, L1, .inl f1_b)), (h1_d, .inl (cI, L1, .inl f1_d)), (h1_kind, .inl (cI, L1, .inl f1_kind))] H → va_D A [(h0, .inr (2, [.ref h0_before])), (h0_before, .inl (cI, 24, .inl f0_before)), (h1, .inr (5, [.ref h1_kind, .ref h1_d, .ref h1_a, .ref h1_b, .int v1_count])), (h1_a, .inl (cI, L1, .inl f1_a)), (h1_b, .inl (cI, L1, .inl f1_b)), (h1_d, .inl (cI, L1, .inl f1_d)), (h1_kind, .inl (cI, L1, .inl f1_kind))] → va_S A s.heap H locs → lv_has ls 4 [(0, .ref h0), (1, .ref h1), (2, .int x2), (3, .int x3)] → W p l e ({ frames := 5, cells := 0, slots := 0, locals := 114 }) s m args below meth c H locs 0 0 (MQ below (g_Qv D [(cI, .int), (cZ, .boolean)] A [(h0, .inr (2, [.ref h0_before])), (h0_before, .inl (cI, 24, .inl res)), (h1, .inr (5, [.ref h1_kind, .ref h1_d, .ref h1_a, .ref h1_b, .int v1_count])), (h1_a, .inl (cI, L1, .inl f1_a)), (h1_b, .inl (cI, L1, .inl f1_b)), (h1_d, .inl (cI, L1, .inl f1_d)), (h1_kind, .inl (cI, L1, .inl f1_kind))]) args s 0 0 A) (F0 m 12 ls []) := by
    intro k
    induction k with
    | zero => intro f0_before x2 x3 H locs ls hf; rw [f_X3_find_12] at hf; cases hf
    | succ m_12 ih =>
      have ih_12 : ∀ (f0_before : (Nat → Int32)) (x2 x3 : Int32) (H : Heap) (locs : List Loc) (ls : Array Slot), (fun f0_before' x2' x3' => f_X3_find_12 n m_12 L1 f0_before' f1_a f1_b f1_d f1_kind v1_count x2' x3') f0_before x2 x3 = some res → va_P D vwCl [(h0, .inr (2, [.ref h0_before])), (h0_before, .inl (cI, 24, .inl f0_before)), (h1, .inr (5, [.ref h1_kind, .ref h1_d, .ref h1_a, .ref h1_b, .int v1_count])), (h1_a, .inl (cI, L1, .inl f1_a)), (h1_b, .inl (cI, L1, .inl f1_b)), (h1_d, .inl (cI, L1, .inl f1_d)), (h1_kind, .inl (cI, L1, .inl f1_kind))] H → va_D A [(h0, .inr (2, [.ref h0_before])), (h0_before, .inl (cI, 24, .inl f0_before)), (h1, .inr (5, [.ref h1_kind, .ref h1_d, .ref h1_a, .ref h1_b, .int v1_count])), (h1_a, .inl (cI, L1, .inl f1_a)), (h1_b, .inl (cI, L1, .inl f1_b)), (h1_d, .inl (cI, L1, .inl f1_d)), (h1_kind, .inl (cI, L1, .inl f1_kind))] → va_S A s.heap H locs → lv_has ls 4 [(0, .ref h0), (1, .ref h1), (2, .int x2), (3, .int x3)] → W p l e ({ frames := 5, cells := 0, slots := 0, locals := 114 }) s m args below meth c H locs 0 0 (MQ below (g_Qv D [(cI, .int), (cZ, .boolean)] A [(h0, .inr (2, [.ref h0_before])), (h0_before, .inl (cI, 24, .inl res)), (h1, .inr (5, [.ref h1_kind, .ref h1_d, .ref h1_a, .ref h1_b, .int v1_count])), (h1_a, .inl (cI, L1, .inl f1_a)), (h1_b, .inl (cI, L1, .inl f1_b)), (h1_d, .inl (cI, L1, .inl f1_d)), (h1_kind, .inl (cI, L1, .inl f1_kind))]) args s 0 0 A) (F0 m 12 ls []) := ih
      intro f0_before x2 x3 H locs ls hf hP hD hS hl
      rw [f_X3_find_12] at hf
      refine lv_iload_n hx hb dX3_find_12 rfl (lv_at hl 2 rfl) ?_
      refine lv_if_eq (tgt := 35) hx hb dX3_find_13 (by decide) (fun c1 => ?_) (fun c1 => ?_)
      · have hf := ite_t hf c1
        have hf := Option.some.inj hf
        subst hf
        exact g_vret hx hb hr hlocks (hP.sub [0, 1, 2, 3, 4, 5, 6] rfl) (hD.sub [0, 1, 2, 3, 4, 5, 6] (by decide) rfl) hK hS dX3_find_35
      · have hf := ite_e hf c1
        refine lv_iload_n hx hb dX3_find_16 rfl (lv_at hl 3 rfl) ?_
        refine lv_sipush (v := (1000 : Int32)) hx hb dX3_find_17 (by decide +kernel) ?_
        refine lv_icmp_ge (tgt := 35) hx hb dX3_find_20 (by decide) (fun c2 => ?_) (fun c2 => ?_)
        · have hf := ite_t hf c2
          have hf := Option.some.inj hf
          subst hf
          exact g_vret hx hb hr hlocks (hP.sub [0, 1, 2, 3, 4, 5, 6] rfl) (hD.sub [0, 1, 2, 3, 4, 5, 6] (by decide) rfl) hK hS dX3_find_35
        · have hf := ite_e hf c2
          refine lv_aload_n hx hb dX3_find_23 rfl (lv_at hl 0 rfl) ?_
          refine lv_aload_n hx hb dX3_find_24 rfl (lv_at hl 1 rfl) ?_
          obtain ⟨u3, g4, hf⟩ := bd_some hf
          refine g_callVi S (c_X3_sweep l D cI cZ h0 h1 h0_before h1_kind h1_d h1_a h1_b _ L1 f0_before f1_a f1_b f1_d f1_kind v1_count n u3 g4) (cwV 1 hts gX3_find_X3_sweep rfl rfl rfl (by decide +kernel) ⟨Nat.le_of_ble_eq_true rfl, Nat.le_of_ble_eq_true rfl⟩) hK hP hD hS hA 0 (ci := 2) rfl rfl [0, 1, 2, 3, 4, 5, 6] [] [] rfl rfl (by decide) (by decide) (by decide) rfl hl.1 rfl (Nat.le_of_ble_eq_true rfl) dX3_find_25 ⟨Nat.le_of_ble_eq_true rfl, Nat.le_of_ble_eq_true rfl⟩ (fun H locs hP hD hS => ?_)
          have hP : va_P D vwCl [(h0, .inr (2, [.ref h0_before])), (h0_before, .inl (cI, 24, .inl u3.2)), (h1, .inr (5, [.ref h1_kind, .ref h1_d, .ref h1_a, .ref h1_b, .int v1_count])), (h1_a, .inl (cI, L1, .inl f1_a)), (h1_b, .inl (cI, L1, .inl f1_b)), (h1_d, .inl (cI, L1, .inl f1_d)), (h1_kind, .inl (cI, L1, .inl f1_kind))] H := hP
          have hD : va_D A [(h0, .inr (2, [.ref h0_before])), (h0_before, .inl (cI, 24, .inl u3.2)), (h1, .inr (5, [.ref h1_kind, .ref h1_d, .ref h1_a, .ref h1_b, .int v1_count])), (h1_a, .inl (cI, L1, .inl f1_a)), (h1_b, .inl (cI, L1, .inl f1_b)), (h1_d, .inl (cI, L1, .inl f1_d)), (h1_kind, .inl (cI, L1, .inl f1_kind))] := hD
          refine lv_istore_n (lv' := [(2, .int u3.1), (0, .ref h0), (1, .ref h1), (3, .int x3)]) hx hb dX3_find_28 rfl hl (by decide) rfl (fun ls hl => ?_)
          refine lv_iinc (v := (x3 + (1 : Int32))) (lv' := [(3, .int (x3 + (1 : Int32))), (2, .int u3.1), (0, .ref h0), (1, .ref h1)]) hx hb dX3_find_29 hl (k := 3) rfl rfl (by decide) rfl (fun ls hl => ?_)
          refine lv_goto (tgt := 12) hx hb dX3_find_32 (by decide) ?_
          exact ih_12 _ _ _ _ _ ls hf (hP.sub [0, 1, 2, 3, 4, 5, 6] rfl) (hD.sub [0, 1, 2, 3, 4, 5, 6] (by decide) rfl) hS (lv_sub hl [2, 3, 1, 0] rfl)
  unfold f_X3_find at hf
  refine lv_aload_n hx hb dX3_find_0 rfl (lv_at hl 0 rfl) ?_
  refine va_get (D := D) (ci := 2) (v := .ref h0_before) (C := RX3) (T := TX3) (N := 1) hx hb hts iw_X3_find_X3 hown hK hP 0 rfl rfl 0 (by decide) fl_9 (fun _ h9 => h9) rfl dX3_find_1 ?_
  refine lv_iconst (v := (0 : Int32)) hx hb dX3_find_4 (by decide) ?_
  obtain ⟨u5, g6, hf⟩ := bd_some hf
  refine g_callSv S (c_J7_fill_53178 l D cI cZ h0_before _ 24 f0_before n (0 : Int32) u5 g6) (va_cwS 2 hts gX3_find_J7_fill_53178 rfl rfl rfl (by decide +kernel) ⟨Nat.le_of_ble_eq_true rfl, Nat.le_of_ble_eq_true rfl⟩) hK hP hD hS hA [1] [0, 2, 3, 4, 5, 6] [(h0, .inr (2, [.ref h0_before])), (h1, .inr (5, [.ref h1_kind, .ref h1_d, .ref h1_a, .ref h1_b, .int v1_count])), (h1_a, .inl (cI, L1, .inl f1_a)), (h1_b, .inl (cI, L1, .inl f1_b)), (h1_d, .inl (cI, L1, .inl f1_d)), (h1_kind, .inl (cI, L1, .inl f1_kind))] rfl rfl (by decide) (by decide) (by decide) rfl hl.1 rfl (Nat.le_of_ble_eq_true rfl) dX3_find_5 ⟨Nat.le_of_ble_eq_true rfl, Nat.le_of_ble_eq_true rfl⟩ (fun H locs hP hD hS => ?_)
  have hP : va_P D vwCl [(h0, .inr (2, [.ref h0_before])), (h1, .inr (5, [.ref h1_kind, .ref h1_d, .ref h1_a, .ref h1_b, .int v1_count])), (h1_a, .inl (cI, L1, .inl f1_a)), (h1_b, .inl (cI, L1, .inl f1_b)), (h1_d, .inl (cI, L1, .inl f1_d)), (h1_kind, .inl (cI, L1, .inl f1_kind)), (h0_before, .inl (cI, 24, .inl u5))] H := hP
  have hD : va_D A [(h0, .inr (2, [.ref h0_before])), (h1, .inr (5, [.ref h1_kind, .ref h1_d, .ref h1_a, .ref h1_b, .int v1_count])), (h1_a, .inl (cI, L1, .inl f1_a)), (h1_b, .inl (cI, L1, .inl f1_b)), (h1_d, .inl (cI, L1, .inl f1_d)), (h1_kind, .inl (cI, L1, .inl f1_kind)), (h0_before, .inl (cI, 24, .inl u5))] := hD
  refine lv_iconst (v := (1 : Int32)) hx hb dX3_find_8 (by decide) ?_
  refine lv_istore_n (lv' := [(2, .int (1 : Int32)), (0, .ref h0), (1, .ref h1)]) hx hb dX3_find_9 rfl hl (by decide) rfl (fun ls hl => ?_)
  refine lv_iconst (v := (0 : Int32)) hx hb dX3_find_10 (by decide) ?_
  refine lv_istore_n (lv' := [(3, .int (0 : Int32)), (2, .int (1 : Int32)), (0, .ref h0), (1, .ref h1)]) hx hb dX3_find_11 rfl hl (by decide) rfl (fun ls hl => ?_)
  exact hJ_12 n _ _ _ _ _ ls hf (hP.sub [0, 6, 1, 2, 3, 4, 5] rfl) (hD.sub [0, 6, 1, 2, 3, 4, 5] (by decide) rfl) hS (lv_sub hl [2, 3, 1, 0] rfl)

def f_X3_dropUnused_35 (n : Nat) (k_4 : (Nat → Int32) → (Nat → Int32) → (Nat → Int32) → (Nat → Int32) → Int32 → Int32 → Option (Int32 × (Nat → Int32) × (Nat → Int32) × (Nat → Int32) × (Nat → Int32))) (L1 : Nat) (f0_before : (Nat → Int32)) (f1_a : (Nat → Int32)) (f1_b : (Nat → Int32)) (f1_d : (Nat → Int32)) (f1_kind : (Nat → Int32)) (v1_count : Int32) (x2 x3 t0 : Int32) : Option (Int32 × (Nat → Int32) × (Nat → Int32) × (Nat → Int32) × (Nat → Int32)) := gd x3 L1 ((f_X2_onlyGivesD (f1_kind (x3).toNatClampNeg)).bind (fun u2 => if u2 = 0 then (k_4 f1_a f1_b f1_d f1_kind x2 (x3 + (1 : Int32))) else (if t0 = 0 then (k_4 f1_a f1_b f1_d f1_kind x2 (x3 + (1 : Int32))) else ((f_X6_put L1 f1_a f1_b f1_d f1_kind x3 (0 : Int32) (0 : Int32) (0 : Int32) (0 : Int32)).bind (fun u6 => k_4 u6.2.1 u6.2.2.1 u6.2.2.2.1 u6.2.2.2.2 (x2 + (1 : Int32)) (x3 + (1 : Int32)))))))
def f_X3_dropUnused_4 (n : Nat)  : Nat → Nat → (Nat → Int32) → (Nat → Int32) → (Nat → Int32) → (Nat → Int32) → (Nat → Int32) → Int32 → Int32 → Int32 → Option (Int32 × (Nat → Int32) × (Nat → Int32) × (Nat → Int32) × (Nat → Int32))
  | 0, _, _, _, _, _, _, _, _, _ => none
  | k + 1, L1, f0_before, f1_a, f1_b, f1_d, f1_kind, v1_count, x2, x3 => if v1_count ≤ x3 then (some (x2, f1_a, f1_b, f1_d, f1_kind)) else ((f_X3_after L1 f0_before f1_d f1_kind v1_count x3).bind (fun u9 => gd x3 L1 (if ((u9 >>> ((f1_d (x3).toNatClampNeg) &&& 31)) &&& (1 : Int32)) = 0 then (f_X3_dropUnused_35 n (fun f1_a' f1_b' f1_d' f1_kind' x2' x3' => f_X3_dropUnused_4 n k L1 f0_before f1_a' f1_b' f1_d' f1_kind' v1_count x2' x3') L1 f0_before f1_a f1_b f1_d f1_kind v1_count x2 x3 (1 : Int32)) else (f_X3_dropUnused_35 n (fun f1_a' f1_b' f1_d' f1_kind' x2' x3' => f_X3_dropUnused_4 n k L1 f0_before f1_a' f1_b' f1_d' f1_kind' v1_count x2' x3') L1 f0_before f1_a f1_b f1_d f1_kind v1_count x2 x3 (0 : Int32)))))
def f_X3_dropUnused (n : Nat) (L1 : Nat) (f0_before : (Nat → Int32)) (f1_a : (Nat → Int32)) (f1_b : (Nat → Int32)) (f1_d : (Nat → Int32)) (f1_kind : (Nat → Int32)) (v1_count : Int32)  : Option (Int32 × (Nat → Int32) × (Nat → Int32) × (Nat → Int32) × (Nat → Int32)) := f_X3_dropUnused_4 n n L1 f0_before f1_a f1_b f1_d f1_kind v1_count (0 : Int32) (0 : Int32)
theorem iw_X3_dropUnused_X6 : ∀ w ∈ wsX60, w ∈ wsX3_dropUnused := by decide +kernel
set_option maxHeartbeats 4000000 in
set_option maxRecDepth 100000 in
theorem c_X3_dropUnused (l : Launch) (D : va_G) (cI cZ : ClassId) (h0 h1 h0_before h1_kind h1_d h1_a h1_b : Nat) (sz : Nat) (L1 : Nat) (f0_before f1_a f1_b f1_d f1_kind : Nat → Int32) (v1_count : Int32) (n : Nat)  (res : (Int32 × (Nat → Int32) × (Nat → Int32) × (Nat → Int32) × (Nat → Int32))) (hf : f_X3_dropUnused n L1 f0_before f1_a f1_b f1_d f1_kind v1_count = some res) : Ct_i l yX3_dropUnused wsX3_dropUnused ({ frames := 3, cells := 0, slots := 0, locals := 66 }) D [(cI, .int), (cZ, .boolean)] [.ref h0, .ref h1] sz [(h0, .inr (2, [.ref h0_before])), (h0_before, .inl (cI, 24, .inl f0_before)), (h1, .inr (5, [.ref h1_kind, .ref h1_d, .ref h1_a, .ref h1_b, .int v1_count])), (h1_a, .inl (cI, L1, .inl f1_a)), (h1_b, .inl (cI, L1, .inl f1_b)), (h1_d, .inl (cI, L1, .inl f1_d)), (h1_kind, .inl (cI, L1, .inl f1_kind))] res.1 [(h0, .inr (2, [.ref h0_before])), (h0_before, .inl (cI, 24, .inl f0_before)), (h1, .inr (5, [.ref h1_kind, .ref h1_d, .ref h1_a, .ref h1_b, .int v1_count])), (h1_a, .inl (cI, L1, .inl res.2.1)), (h1_b, .inl (cI, L1, .inl res.2.2.1)), (h1_d, .inl (cI, L1, .inl res.2.2.2.1)), (h1_kind, .inl (cI, L1, .inl res.2.2.2.2))] := by
  refine g_of (cc := cX3_dropUnused) (maxL := 5) (ret := some .int) (QQ := (fun A => g_Qi D [(cI, .int), (cZ, .boolean)] A res.1 [(h0, .inr (2, [.ref h0_before])), (h0_before, .inl (cI, 24, .inl f0_before)), (h1, .inr (5, [.ref h1_kind, .ref h1_d, .ref h1_a, .ref h1_b, .int v1_count])), (h1_a, .inl (cI, L1, .inl res.2.1)), (h1_b, .inl (cI, L1, .inl res.2.2.1)), (h1_d, .inl (cI, L1, .inl res.2.2.2.1)), (h1_kind, .inl (cI, L1, .inl res.2.2.2.2))])) (by decide) rfl (Nat.le_of_ble_eq_true rfl) ?_
  intro p e s m args below meth c A ls S hr hlocks hA hP hK hD hl
  show W p l e ({ frames := 3, cells := 0, slots := 0, locals := 66 }) s m args below meth c s.heap [] 0 0 (MQ below (g_Qi D [(cI, .int), (cZ, .boolean)] A res.1 [(h0, .inr (2, [.ref h0_before])), (h0_before, .inl (cI, 24, .inl f0_before)), (h1, .inr (5, [.ref h1_kind, .ref h1_d, .ref h1_a, .ref h1_b, .int v1_count])), (h1_a, .inl (cI, L1, .inl res.2.1)), (h1_b, .inl (cI, L1, .inl res.2.2.1)), (h1_d, .inl (cI, L1, .inl res.2.2.2.1)), (h1_kind, .inl (cI, L1, .inl res.2.2.2.2))]) args s 0 0 A) (F0 m 0 ls [])
  have hx := S.1
  have hb := S.2.1
  have hml := S.2.2.1
  have hown := S.2.2.2.1
  have hts := S.2.2.2.2
  have fl_25 := hts (.fieldLink RX3 25 "PassPipeline$Program" "count" "I") (by decide +kernel)
  have fl_35 := hts (.fieldLink RX3 35 "PassPipeline$Program" "kind" "[I") (by decide +kernel)
  have fl_47 := hts (.fieldLink RX3 47 "PassPipeline$Program" "d" "[I") (by decide +kernel)
  have hS : va_S A s.heap s.heap [] := va_S.rf
  have hl : lv_has ls 5 [(0, .ref h0), (1, .ref h1)] := hl
  have hJ_4 : ∀ (k : Nat) (f1_a : (Nat → Int32)) (f1_b : (Nat → Int32)) (f1_d : (Nat → Int32)) (f1_kind : (Nat → Int32)) (x2 x3 : Int32) (H : Heap) (locs : List Loc) (ls : Array Slot), f_X3_dropUnused_4 n k L1 f0_before f1_a f1_b f1_d f1_kind v1_count x2 x3 = some res → va_P D vwCl [(h0, .inr (2, [.ref h0_before])), (h0_before, .inl (cI, 24, .inl f0_before)), (h1, .inr (5, [.ref h1_kind, .ref h1_d, .ref h1_a, .ref h1_b, .int v1_count])), (h1_a, .inl (cI, L1, .inl f1_a)), (h1_b, .inl (cI, L1, .inl f1_b)), (h1_d, .inl (cI, L1, .inl f1_d)), (h1_kind, .inl (cI, L1, .inl f1_kind))] H → va_D A [(h0, .inr (2, [.ref h0_before])), (h0_before, .inl (cI, 24, .inl f0_before)), (h1, .inr (5, [.ref h1_kind, .ref h1_d, .ref h1_a, .ref h1_b, .int v1_count])), (h1_a, .inl (cI, L1, .inl f1_a)), (h1_b, .inl (cI, L1, .inl f1_b)), (h1_d, .inl (cI, L1, .inl f1_d)), (h1_kind, .inl (cI, L1, .inl f1_kind))] → va_S A s.heap H locs → lv_has ls 5 [(0, .ref h0), (1, .ref h1), (2, .int x2), (3, .int x3)] → W p l e ({ frames := 3, cells := 0, slots := 0, locals := 66 }) s m args below meth c H locs 0 0 (MQ below (g_Qi D [(cI, .int), (cZ, .boolean)] A res.1 [(h0, .inr (2, [.ref h0_before])), (h0_before, .inl (cI, 24, .inl f0_before)), (h1, .inr (5, [.ref h1_kind, .ref h1_d, .ref h1_a, .ref h1_b, .int v1_count])), (h1_a, .inl (cI, L1, .inl res.2.1)), (h1_b, .inl (cI, L1, .inl res.2.2.1)), (h1_d, .inl (cI, L1, .inl res.2.2.2.1)), (h1_kind, .inl (cI, L1, .inl res.2.2.2.2))]) args s 0 0 A) (F0 m 4 ls []) := by
    intro k
    induction k with
    | zero => intro f1_a f1_b f1_d f1_kind x2 x3 H locs ls hf; rw [f_X3_dropUnused_4] at hf; cases hf
    | succ m_4 ih =>
      have ih_4 : ∀ (f1_a : (Nat → Int32)) (f1_b : (Nat → Int32)) (f1_d : (Nat → Int32)) (f1_kind : (Nat → Int32)) (x2 x3 : Int32) (H : Heap) (locs : List Loc) (ls : Array Slot), (fun f1_a' f1_b' f1_d' f1_kind' x2' x3' => f_X3_dropUnused_4 n m_4 L1 f0_before f1_a' f1_b' f1_d' f1_kind' v1_count x2' x3') f1_a f1_b f1_d f1_kind x2 x3 = some res → va_P D vwCl [(h0, .inr (2, [.ref h0_before])), (h0_before, .inl (cI, 24, .inl f0_before)), (h1, .inr (5, [.ref h1_kind, .ref h1_d, .ref h1_a, .ref h1_b, .int v1_count])), (h1_a, .inl (cI, L1, .inl f1_a)), (h1_b, .inl (cI, L1, .inl f1_b)), (h1_d, .inl (cI, L1, .inl f1_d)), (h1_kind, .inl (cI, L1, .inl f1_kind))] H → va_D A [(h0, .inr (2, [.ref h0_before])), (h0_before, .inl (cI, 24, .inl f0_before)), (h1, .inr (5, [.ref h1_kind, .ref h1_d, .ref h1_a, .ref h1_b, .int v1_count])), (h1_a, .inl (cI, L1, .inl f1_a)), (h1_b, .inl (cI, L1, .inl f1_b)), (h1_d, .inl (cI, L1, .inl f1_d)), (h1_kind, .inl (cI, L1, .inl f1_kind))] → va_S A s.heap H locs → lv_has ls 5 [(0, .ref h0), (1, .ref h1), (2, .int x2), (3, .int x3)] → W p l e ({ frames := 3, cells := 0, slots := 0, locals := 66 }) s m args below meth c H locs 0 0 (MQ below (g_Qi D [(cI, .int), (cZ, .boolean)] A res.1 [(h0, .inr (2, [.ref h0_before])), (h0_before, .inl (cI, 24, .inl f0_before)), (h1, .inr (5, [.ref h1_kind, .ref h1_d, .ref h1_a, .ref h1_b, .int v1_count])), (h1_a, .inl (cI, L1, .inl res.2.1)), (h1_b, .inl (cI, L1, .inl res.2.2.1)), (h1_d, .inl (cI, L1, .inl res.2.2.2.1)), (h1_kind, .inl (cI, L1, .inl res.2.2.2.2))]) args s 0 0 A) (F0 m 4 ls []) := ih
      have hJ_35 : ∀ (f1_a : (Nat → Int32)) (f1_b : (Nat → Int32)) (f1_d : (Nat → Int32)) (f1_kind : (Nat → Int32)) (x2 x3 t0 : Int32) (H : Heap) (locs : List Loc) (ls : Array Slot), f_X3_dropUnused_35 n (fun f1_a' f1_b' f1_d' f1_kind' x2' x3' => f_X3_dropUnused_4 n m_4 L1 f0_before f1_a' f1_b' f1_d' f1_kind' v1_count x2' x3') L1 f0_before f1_a f1_b f1_d f1_kind v1_count x2 x3 t0 = some res → va_P D vwCl [(h0, .inr (2, [.ref h0_before])), (h0_before, .inl (cI, 24, .inl f0_before)), (h1, .inr (5, [.ref h1_kind, .ref h1_d, .ref h1_a, .ref h1_b, .int v1_count])), (h1_a, .inl (cI, L1, .inl f1_a)), (h1_b, .inl (cI, L1, .inl f1_b)), (h1_d, .inl (cI, L1, .inl f1_d)), (h1_kind, .inl (cI, L1, .inl f1_kind))] H → va_D A [(h0, .inr (2, [.ref h0_before])), (h0_before, .inl (cI, 24, .inl f0_before)), (h1, .inr (5, [.ref h1_kind, .ref h1_d, .ref h1_a, .ref h1_b, .int v1_count])), (h1_a, .inl (cI, L1, .inl f1_a)), (h1_b, .inl (cI, L1, .inl f1_b)), (h1_d, .inl (cI, L1, .inl f1_d)), (h1_kind, .inl (cI, L1, .inl f1_kind))] → va_S A s.heap H locs → lv_has ls 5 [(0, .ref h0), (1, .ref h1), (2, .int x2), (3, .int x3)] → W p l e ({ frames := 3, cells := 0, slots := 0, locals := 66 }) s m args below meth c H locs 0 0 (MQ below (g_Qi D [(cI, .int), (cZ, .boolean)] A res.1 [(h0, .inr (2, [.ref h0_before])), (h0_before, .inl (cI, 24, .inl f0_before)), (h1, .inr (5, [.ref h1_kind, .ref h1_d, .ref h1_a, .ref h1_b, .int v1_count])), (h1_a, .inl (cI, L1, .inl res.2.1)), (h1_b, .inl (cI, L1, .inl res.2.2.1)), (h1_d, .inl (cI, L1, .inl res.2.2.2.1)), (h1_kind, .inl (cI, L1, .inl res.2.2.2.2))]) args s 0 0 A) (F0 m 35 ls [.int t0]) := by
        intro f1_a f1_b f1_d f1_kind x2 x3 t0 H locs ls hf hP hD hS hl
        unfold f_X3_dropUnused_35 at hf
        refine lv_istore (lv' := [(4, .int t0), (0, .ref h0), (1, .ref h1), (2, .int x2), (3, .int x3)]) hx hb dX3_dropUnused_35 hl (by decide) rfl (fun ls hl => ?_)
        refine lv_aload_n hx hb dX3_dropUnused_37 rfl (lv_at hl 2 rfl) ?_
        refine va_get (D := D) (ci := 5) (v := .ref h1_kind) (C := RX6) (T := TX6) (N := 5) hx hb hts iw_X3_dropUnused_X6 hown hK hP 2 rfl rfl 0 (by decide) fl_35 (fun _ h9 => h9) rfl dX3_dropUnused_38 ?_
        refine lv_iload_n hx hb dX3_dropUnused_41 rfl (lv_at hl 4 rfl) ?_
        obtain ⟨i1, hf⟩ := gd_some hf
        refine va_iald hx hb hK hP 6 0 rfl rfl i1 dX3_dropUnused_42 ?_
        obtain ⟨u2, g3, hf⟩ := bd_some hf
        refine g_callSi S (c_X2_onlyGivesD l D cI cZ _ (f1_kind (x3).toNatClampNeg) u2 g3) (va_cwS 1 hts gX3_dropUnused_X2_onlyGivesD rfl rfl rfl (by decide +kernel) ⟨Nat.le_of_ble_eq_true rfl, Nat.le_of_ble_eq_true rfl⟩) hK hP hD hS hA [] [0, 1, 2, 3, 4, 5, 6] [(h0, .inr (2, [.ref h0_before])), (h0_before, .inl (cI, 24, .inl f0_before)), (h1, .inr (5, [.ref h1_kind, .ref h1_d, .ref h1_a, .ref h1_b, .int v1_count])), (h1_a, .inl (cI, L1, .inl f1_a)), (h1_b, .inl (cI, L1, .inl f1_b)), (h1_d, .inl (cI, L1, .inl f1_d)), (h1_kind, .inl (cI, L1, .inl f1_kind))] rfl rfl (by decide) (by decide) (by decide) rfl hl.1 rfl (Nat.le_of_ble_eq_true rfl) dX3_dropUnused_43 ⟨Nat.le_of_ble_eq_true rfl, Nat.le_of_ble_eq_true rfl⟩ (fun H locs hP hD hS => ?_)
        have hP : va_P D vwCl [(h0, .inr (2, [.ref h0_before])), (h0_before, .inl (cI, 24, .inl f0_before)), (h1, .inr (5, [.ref h1_kind, .ref h1_d, .ref h1_a, .ref h1_b, .int v1_count])), (h1_a, .inl (cI, L1, .inl f1_a)), (h1_b, .inl (cI, L1, .inl f1_b)), (h1_d, .inl (cI, L1, .inl f1_d)), (h1_kind, .inl (cI, L1, .inl f1_kind))] H := hP
        have hD : va_D A [(h0, .inr (2, [.ref h0_before])), (h0_before, .inl (cI, 24, .inl f0_before)), (h1, .inr (5, [.ref h1_kind, .ref h1_d, .ref h1_a, .ref h1_b, .int v1_count])), (h1_a, .inl (cI, L1, .inl f1_a)), (h1_b, .inl (cI, L1, .inl f1_b)), (h1_d, .inl (cI, L1, .inl f1_d)), (h1_kind, .inl (cI, L1, .inl f1_kind))] := hD
        refine lv_if_eq (tgt := 67) hx hb dX3_dropUnused_46 (by decide) (fun c4 => ?_) (fun c4 => ?_)
        · have hf := ite_t hf c4
          refine lv_iinc (v := (x3 + (1 : Int32))) (lv' := [(3, .int (x3 + (1 : Int32))), (4, .int t0), (0, .ref h0), (1, .ref h1), (2, .int x2)]) hx hb dX3_dropUnused_67 hl (k := 4) rfl rfl (by decide) rfl (fun ls hl => ?_)
          refine lv_goto (tgt := 4) hx hb dX3_dropUnused_70 (by decide) ?_
          exact ih_4 _ _ _ _ _ _ _ _ ls hf (hP.sub [0, 1, 2, 3, 4, 5, 6] rfl) (hD.sub [0, 1, 2, 3, 4, 5, 6] (by decide) rfl) hS (lv_sub hl [2, 3, 4, 0] rfl)
        · have hf := ite_e hf c4
          refine lv_iload hx hb dX3_dropUnused_49 (lv_at hl 0 rfl) ?_
          refine lv_if_eq (tgt := 67) hx hb dX3_dropUnused_51 (by decide) (fun c5 => ?_) (fun c5 => ?_)
          · have hf := ite_t hf c5
            refine lv_iinc (v := (x3 + (1 : Int32))) (lv' := [(3, .int (x3 + (1 : Int32))), (4, .int t0), (0, .ref h0), (1, .ref h1), (2, .int x2)]) hx hb dX3_dropUnused_67 hl (k := 4) rfl rfl (by decide) rfl (fun ls hl => ?_)
            refine lv_goto (tgt := 4) hx hb dX3_dropUnused_70 (by decide) ?_
            exact ih_4 _ _ _ _ _ _ _ _ ls hf (hP.sub [0, 1, 2, 3, 4, 5, 6] rfl) (hD.sub [0, 1, 2, 3, 4, 5, 6] (by decide) rfl) hS (lv_sub hl [2, 3, 4, 0] rfl)
          · have hf := ite_e hf c5
            refine lv_aload_n hx hb dX3_dropUnused_54 rfl (lv_at hl 2 rfl) ?_
            refine lv_iload_n hx hb dX3_dropUnused_55 rfl (lv_at hl 4 rfl) ?_
            refine lv_iconst (v := (0 : Int32)) hx hb dX3_dropUnused_56 (by decide) ?_
            refine lv_iconst (v := (0 : Int32)) hx hb dX3_dropUnused_57 (by decide) ?_
            refine lv_iconst (v := (0 : Int32)) hx hb dX3_dropUnused_58 (by decide) ?_
            refine lv_iconst (v := (0 : Int32)) hx hb dX3_dropUnused_59 (by decide) ?_
            obtain ⟨u6, g7, hf⟩ := bd_some hf
            refine g_callVi S (c_X6_put l D cI cZ h1 h1_kind h1_d h1_a h1_b _ L1 f1_a f1_b f1_d f1_kind v1_count x3 (0 : Int32) (0 : Int32) (0 : Int32) (0 : Int32) u6 g7) (cwV 5 hts gX3_dropUnused_X6_put rfl rfl rfl (by decide +kernel) ⟨Nat.le_of_ble_eq_true rfl, Nat.le_of_ble_eq_true rfl⟩) hK hP hD hS hA 2 (ci := 5) rfl rfl [2, 3, 4, 5, 6] [0, 1] [(h0, .inr (2, [.ref h0_before])), (h0_before, .inl (cI, 24, .inl f0_before))] rfl rfl (by decide) (by decide) (by decide) rfl hl.1 rfl (Nat.le_of_ble_eq_true rfl) dX3_dropUnused_60 ⟨Nat.le_of_ble_eq_true rfl, Nat.le_of_ble_eq_true rfl⟩ (fun H locs hP hD hS => ?_)
            have hP : va_P D vwCl [(h0, .inr (2, [.ref h0_before])), (h0_before, .inl (cI, 24, .inl f0_before)), (h1, .inr (5, [.ref h1_kind, .ref h1_d, .ref h1_a, .ref h1_b, .int v1_count])), (h1_a, .inl (cI, L1, .inl u6.2.1)), (h1_b, .inl (cI, L1, .inl u6.2.2.1)), (h1_d, .inl (cI, L1, .inl u6.2.2.2.1)), (h1_kind, .inl (cI, L1, .inl u6.2.2.2.2))] H := hP
            have hD : va_D A [(h0, .inr (2, [.ref h0_before])), (h0_before, .inl (cI, 24, .inl f0_before)), (h1, .inr (5, [.ref h1_kind, .ref h1_d, .ref h1_a, .ref h1_b, .int v1_count])), (h1_a, .inl (cI, L1, .inl u6.2.1)), (h1_b, .inl (cI, L1, .inl u6.2.2.1)), (h1_d, .inl (cI, L1, .inl u6.2.2.2.1)), (h1_kind, .inl (cI, L1, .inl u6.2.2.2.2))] := hD
            refine lv_pop hx hb dX3_dropUnused_63 rfl ?_
            refine lv_iinc (v := (x2 + (1 : Int32))) (lv' := [(2, .int (x2 + (1 : Int32))), (4, .int t0), (0, .ref h0), (1, .ref h1), (3, .int x3)]) hx hb dX3_dropUnused_64 hl (k := 3) rfl rfl (by decide) rfl (fun ls hl => ?_)
            refine lv_iinc (v := (x3 + (1 : Int32))) (lv' := [(3, .int (x3 + (1 : Int32))), (2, .int (x2 + (1 : Int32))), (4, .int t0), (0, .ref h0), (1, .ref h1)]) hx hb dX3_dropUnused_67 hl (k := 4) rfl rfl (by decide) rfl (fun ls hl => ?_)
            refine lv_goto (tgt := 4) hx hb dX3_dropUnused_70 (by decide) ?_
            exact ih_4 _ _ _ _ _ _ _ _ ls hf (hP.sub [0, 1, 2, 3, 4, 5, 6] rfl) (hD.sub [0, 1, 2, 3, 4, 5, 6] (by decide) rfl) hS (lv_sub hl [3, 4, 1, 0] rfl)
      intro f1_a f1_b f1_d f1_kind x2 x3 H locs ls hf hP hD hS hl
      rw [f_X3_dropUnused_4] at hf
      refine lv_iload_n hx hb dX3_dropUnused_4 rfl (lv_at hl 3 rfl) ?_
      refine lv_aload_n hx hb dX3_dropUnused_5 rfl (lv_at hl 1 rfl) ?_
      refine va_get (D := D) (ci := 5) (v := .int v1_count) (C := RX6) (T := TX6) (N := 5) hx hb hts iw_X3_dropUnused_X6 hown hK hP 2 rfl rfl 4 (by decide) fl_25 (fun _ h9 => h9) rfl dX3_dropUnused_6 ?_
      refine lv_icmp_ge (tgt := 73) hx hb dX3_dropUnused_9 (by decide) (fun c8 => ?_) (fun c8 => ?_)
      · have hf := ite_t hf c8
        refine lv_iload_n hx hb dX3_dropUnused_73 rfl (lv_at hl 2 rfl) ?_
        have hf := Option.some.inj hf
        subst hf
        exact g_iret hx hb hr hlocks (hP.sub [0, 1, 2, 3, 4, 5, 6] rfl) (hD.sub [0, 1, 2, 3, 4, 5, 6] (by decide) rfl) hK hS rfl dX3_dropUnused_74
      · have hf := ite_e hf c8
        refine lv_aload_n hx hb dX3_dropUnused_12 rfl (lv_at hl 0 rfl) ?_
        refine lv_aload_n hx hb dX3_dropUnused_13 rfl (lv_at hl 1 rfl) ?_
        refine lv_iload_n hx hb dX3_dropUnused_14 rfl (lv_at hl 3 rfl) ?_
        obtain ⟨u9, g10, hf⟩ := bd_some hf
        refine g_callVi S (c_X3_after l D cI cZ h0 h1 h0_before h1_kind h1_d h1_a h1_b _ L1 f0_before f1_d f1_kind v1_count x3 u9 g10) (cwV 2 hts gX3_dropUnused_X3_after rfl rfl rfl (by decide +kernel) ⟨Nat.le_of_ble_eq_true rfl, Nat.le_of_ble_eq_true rfl⟩) hK hP hD hS hA 0 (ci := 2) rfl rfl [0, 1, 2, 5, 6] [3, 4] [(h1_a, .inl (cI, L1, .inl f1_a)), (h1_b, .inl (cI, L1, .inl f1_b))] rfl rfl (by decide) (by decide) (by decide) rfl hl.1 rfl (Nat.le_of_ble_eq_true rfl) dX3_dropUnused_15 ⟨Nat.le_of_ble_eq_true rfl, Nat.le_of_ble_eq_true rfl⟩ (fun H locs hP hD hS => ?_)
        have hP : va_P D vwCl [(h1_a, .inl (cI, L1, .inl f1_a)), (h1_b, .inl (cI, L1, .inl f1_b)), (h0, .inr (2, [.ref h0_before])), (h0_before, .inl (cI, 24, .inl f0_before)), (h1, .inr (5, [.ref h1_kind, .ref h1_d, .ref h1_a, .ref h1_b, .int v1_count])), (h1_d, .inl (cI, L1, .inl f1_d)), (h1_kind, .inl (cI, L1, .inl f1_kind))] H := hP
        have hD : va_D A [(h1_a, .inl (cI, L1, .inl f1_a)), (h1_b, .inl (cI, L1, .inl f1_b)), (h0, .inr (2, [.ref h0_before])), (h0_before, .inl (cI, 24, .inl f0_before)), (h1, .inr (5, [.ref h1_kind, .ref h1_d, .ref h1_a, .ref h1_b, .int v1_count])), (h1_d, .inl (cI, L1, .inl f1_d)), (h1_kind, .inl (cI, L1, .inl f1_kind))] := hD
        refine lv_aload_n hx hb dX3_dropUnused_18 rfl (lv_at hl 1 rfl) ?_
        refine va_get (D := D) (ci := 5) (v := .ref h1_d) (C := RX6) (T := TX6) (N := 5) hx hb hts iw_X3_dropUnused_X6 hown hK hP 4 rfl rfl 1 (by decide) fl_47 (fun _ h9 => h9) rfl dX3_dropUnused_19 ?_
        refine lv_iload_n hx hb dX3_dropUnused_22 rfl (lv_at hl 3 rfl) ?_
        obtain ⟨i11, hf⟩ := gd_some hf
        refine va_iald hx hb hK hP 5 0 rfl rfl i11 dX3_dropUnused_23 ?_
        refine lv_ishr hx hb dX3_dropUnused_24 ?_
        refine lv_iconst (v := (1 : Int32)) hx hb dX3_dropUnused_25 (by decide) ?_
        refine lv_iand hx hb dX3_dropUnused_26 ?_
        refine lv_if_ne (tgt := 34) hx hb dX3_dropUnused_27 (by decide) (fun c12 => ?_) (fun c12 => ?_)
        · have hf := ite_e hf c12
          refine lv_iconst (v := (0 : Int32)) hx hb dX3_dropUnused_34 (by decide) ?_
          exact hJ_35 _ _ _ _ _ _ _ _ _ ls hf (hP.sub [2, 3, 4, 0, 1, 5, 6] rfl) (hD.sub [2, 3, 4, 0, 1, 5, 6] (by decide) rfl) hS (lv_sub hl [0, 1, 2, 3] rfl)
        · have hf := ite_t hf c12
          refine lv_iconst (v := (1 : Int32)) hx hb dX3_dropUnused_30 (by decide) ?_
          refine lv_goto (tgt := 35) hx hb dX3_dropUnused_31 (by decide) ?_
          exact hJ_35 _ _ _ _ _ _ _ _ _ ls hf (hP.sub [2, 3, 4, 0, 1, 5, 6] rfl) (hD.sub [2, 3, 4, 0, 1, 5, 6] (by decide) rfl) hS (lv_sub hl [0, 1, 2, 3] rfl)
  unfold f_X3_dropUnused at hf
  refine lv_iconst (v := (0 : Int32)) hx hb dX3_dropUnused_0 (by decide) ?_
  refine lv_istore_n (lv' := [(2, .int (0 : Int32)), (0, .ref h0), (1, .ref h1)]) hx hb dX3_dropUnused_1 rfl hl (by decide) rfl (fun ls hl => ?_)
  refine lv_iconst (v := (0 : Int32)) hx hb dX3_dropUnused_2 (by decide) ?_
  refine lv_istore_n (lv' := [(3, .int (0 : Int32)), (2, .int (0 : Int32)), (0, .ref h0), (1, .ref h1)]) hx hb dX3_dropUnused_3 rfl hl (by decide) rfl (fun ls hl => ?_)
  exact hJ_4 n _ _ _ _ _ _ _ _ ls hf (hP.sub [0, 1, 2, 3, 4, 5, 6] rfl) (hD.sub [0, 1, 2, 3, 4, 5, 6] (by decide) rfl) hS (lv_sub hl [2, 3, 1, 0] rfl)
