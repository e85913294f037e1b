def f_X2_isRegister    (x0 : Int32) : Option Int32 := if x0 < 0 then (some (0 : Int32)) else (if (8 : Int32) ≤ x0 then (some (0 : Int32)) else (some (1 : Int32)))
set_option maxHeartbeats 4000000 in
set_option maxRecDepth 100000 in
theorem c_X2_isRegister (l : Launch) (D : va_G) (cI cZ : ClassId)  (sz : Nat)     (x0 : Int32) (res : Int32) (hf : f_X2_isRegister x0 = some res) : Ct_i l yX2_isRegister wsX2_isRegister ({ frames := 0, cells := 0, slots := 0, locals := 0 }) D [(cI, .int), (cZ, .boolean)] [.int x0] sz [] res [] := by
  refine g_of (cc := cX2_isRegister) (maxL := 1) (ret := some .boolean) (QQ := (fun A => g_Qi D [(cI, .int), (cZ, .boolean)] A res [])) (by decide) rfl (Nat.le_of_ble_eq_true rfl) ?_
  intro p e s m args below meth c A ls S hr hlocks hA hP hK hD hl
  show W p l e ({ frames := 0, cells := 0, slots := 0, locals := 0 }) s m args below meth c s.heap [] 0 0 (MQ below (g_Qi D [(cI, .int), (cZ, .boolean)] A res []) args s 0 0 A) (F0 m 0 ls [])
  have hx := S.1
  have hb := S.2.1
  have hml := S.2.2.1
  have hown := S.2.2.2.1
  have hts := S.2.2.2.2
  have hS : va_S A s.heap s.heap [] := va_S.rf
  have hl : lv_has ls 1 [(0, .int x0)] := hl
  unfold f_X2_isRegister at hf
  refine lv_iload_n hx hb dX2_isRegister_0 rfl (lv_at hl 0 rfl) ?_
  refine lv_if_lt (tgt := 14) hx hb dX2_isRegister_1 (by decide) (fun c1 => ?_) (fun c1 => ?_)
  · have hf := ite_t hf c1
    refine lv_iconst (v := (0 : Int32)) hx hb dX2_isRegister_14 (by decide) ?_
    have z2 : (0 : Int32) = 0 ∨ (0 : Int32) = 1 := by decide
    have hf := Option.some.inj hf
    subst hf
    exact g_zret hx hb hr hlocks (hP.sub [] rfl) (hD.sub [] (by decide) rfl) hK hS rfl z2 dX2_isRegister_15
  · have hf := ite_e hf c1
    refine lv_iload_n hx hb dX2_isRegister_4 rfl (lv_at hl 0 rfl) ?_
    refine lv_bipush (v := (8 : Int32)) hx hb dX2_isRegister_5 (by decide +kernel) ?_
    refine lv_icmp_ge (tgt := 14) hx hb dX2_isRegister_7 (by decide) (fun c3 => ?_) (fun c3 => ?_)
    · have hf := ite_t hf c3
      refine lv_iconst (v := (0 : Int32)) hx hb dX2_isRegister_14 (by decide) ?_
      have z4 : (0 : Int32) = 0 ∨ (0 : Int32) = 1 := by decide
      have hf := Option.some.inj hf
      subst hf
      exact g_zret hx hb hr hlocks (hP.sub [] rfl) (hD.sub [] (by decide) rfl) hK hS rfl z4 dX2_isRegister_15
    · have hf := ite_e hf c3
      refine lv_iconst (v := (1 : Int32)) hx hb dX2_isRegister_10 (by decide) ?_
      refine lv_goto (tgt := 15) hx hb dX2_isRegister_11 (by decide) ?_
      have z5 : (1 : Int32) = 0 ∨ (1 : Int32) = 1 := by decide
      have hf := Option.some.inj hf
      subst hf
      exact g_zret hx hb hr hlocks (hP.sub [] rfl) (hD.sub [] (by decide) rfl) hK hS rfl z5 dX2_isRegister_15

def f_X2_isCell    (x0 : Int32) : Option Int32 := if x0 < 0 then (some (0 : Int32)) else (if (8 : Int32) ≤ x0 then (some (0 : Int32)) else (some (1 : Int32)))
set_option maxHeartbeats 4000000 in
set_option maxRecDepth 100000 in
theorem c_X2_isCell (l : Launch) (D : va_G) (cI cZ : ClassId)  (sz : Nat)     (x0 : Int32) (res : Int32) (hf : f_X2_isCell x0 = some res) : Ct_i l yX2_isCell wsX2_isCell ({ frames := 0, cells := 0, slots := 0, locals := 0 }) D [(cI, .int), (cZ, .boolean)] [.int x0] sz [] res [] := by
  refine g_of (cc := cX2_isCell) (maxL := 1) (ret := some .boolean) (QQ := (fun A => g_Qi D [(cI, .int), (cZ, .boolean)] A res [])) (by decide) rfl (Nat.le_of_ble_eq_true rfl) ?_
  intro p e s m args below meth c A ls S hr hlocks hA hP hK hD hl
  show W p l e ({ frames := 0, cells := 0, slots := 0, locals := 0 }) s m args below meth c s.heap [] 0 0 (MQ below (g_Qi D [(cI, .int), (cZ, .boolean)] A res []) args s 0 0 A) (F0 m 0 ls [])
  have hx := S.1
  have hb := S.2.1
  have hml := S.2.2.1
  have hown := S.2.2.2.1
  have hts := S.2.2.2.2
  have hS : va_S A s.heap s.heap [] := va_S.rf
  have hl : lv_has ls 1 [(0, .int x0)] := hl
  unfold f_X2_isCell at hf
  refine lv_iload_n hx hb dX2_isCell_0 rfl (lv_at hl 0 rfl) ?_
  refine lv_if_lt (tgt := 14) hx hb dX2_isCell_1 (by decide) (fun c1 => ?_) (fun c1 => ?_)
  · have hf := ite_t hf c1
    refine lv_iconst (v := (0 : Int32)) hx hb dX2_isCell_14 (by decide) ?_
    have z2 : (0 : Int32) = 0 ∨ (0 : Int32) = 1 := by decide
    have hf := Option.some.inj hf
    subst hf
    exact g_zret hx hb hr hlocks (hP.sub [] rfl) (hD.sub [] (by decide) rfl) hK hS rfl z2 dX2_isCell_15
  · have hf := ite_e hf c1
    refine lv_iload_n hx hb dX2_isCell_4 rfl (lv_at hl 0 rfl) ?_
    refine lv_bipush (v := (8 : Int32)) hx hb dX2_isCell_5 (by decide +kernel) ?_
    refine lv_icmp_ge (tgt := 14) hx hb dX2_isCell_7 (by decide) (fun c3 => ?_) (fun c3 => ?_)
    · have hf := ite_t hf c3
      refine lv_iconst (v := (0 : Int32)) hx hb dX2_isCell_14 (by decide) ?_
      have z4 : (0 : Int32) = 0 ∨ (0 : Int32) = 1 := by decide
      have hf := Option.some.inj hf
      subst hf
      exact g_zret hx hb hr hlocks (hP.sub [] rfl) (hD.sub [] (by decide) rfl) hK hS rfl z4 dX2_isCell_15
    · have hf := ite_e hf c3
      refine lv_iconst (v := (1 : Int32)) hx hb dX2_isCell_10 (by decide) ?_
      refine lv_goto (tgt := 15) hx hb dX2_isCell_11 (by decide) ?_
      have z5 : (1 : Int32) = 0 ∨ (1 : Int32) = 1 := by decide
      have hf := Option.some.inj hf
      subst hf
      exact g_zret hx hb hr hlocks (hP.sub [] rfl) (hD.sub [] (by decide) rfl) hK hS rfl z5 dX2_isCell_15

def f_X2_writesD_11     (x0 : Int32) : Option Int32 := if x0 = (11 : Int32) then (some (1 : Int32)) else (some (0 : Int32))
def f_X2_writesD    (x0 : Int32) : Option Int32 := if x0 < (1 : Int32) then (f_X2_writesD_11 x0) else (if x0 ≤ (7 : Int32) then (some (1 : Int32)) else (f_X2_writesD_11 x0))
set_option maxHeartbeats 4000000 in
set_option maxRecDepth 100000 in
theorem c_X2_writesD (l : Launch) (D : va_G) (cI cZ : ClassId)  (sz : Nat)     (x0 : Int32) (res : Int32) (hf : f_X2_writesD x0 = some res) : Ct_i l yX2_writesD wsX2_writesD ({ frames := 0, cells := 0, slots := 0, locals := 0 }) D [(cI, .int), (cZ, .boolean)] [.int x0] sz [] res [] := by
  refine g_of (cc := cX2_writesD) (maxL := 1) (ret := some .boolean) (QQ := (fun A => g_Qi D [(cI, .int), (cZ, .boolean)] A res [])) (by decide) rfl (Nat.le_of_ble_eq_true rfl) ?_
  intro p e s m args below meth c A ls S hr hlocks hA hP hK hD hl
  show W p l e ({ frames := 0, cells := 0, slots := 0, locals := 0 }) s m args below meth c s.heap [] 0 0 (MQ below (g_Qi D [(cI, .int), (cZ, .boolean)] A res []) args s 0 0 A) (F0 m 0 ls [])
  have hx := S.1
  have hb := S.2.1
  have hml := S.2.2.1
  have hown := S.2.2.2.1
  have hts := S.2.2.2.2
  have hS : va_S A s.heap s.heap [] := va_S.rf
  have hl : lv_has ls 1 [(0, .int x0)] := hl
  have hJ_11 : ∀  (x0 : Int32) (H : Heap) (locs : List Loc) (ls : Array Slot), f_X2_writesD_11 x0 = some res → va_P D vwCl [] H → va_D A [] → va_S A s.heap H locs → lv_has ls 1 [(0, .int x0)] → W p l e ({ frames := 0, cells := 0, slots := 0, locals := 0 }) s m args below meth c H locs 0 0 (MQ below (g_Qi D [(cI, .int), (cZ, .boolean)] A res []) args s 0 0 A) (F0 m 11 ls []) := by
    intro x0 H locs ls hf hP hD hS hl
    unfold f_X2_writesD_11 at hf
    refine lv_iload_n hx hb dX2_writesD_11 rfl (lv_at hl 0 rfl) ?_
    refine lv_bipush (v := (11 : Int32)) hx hb dX2_writesD_12 (by decide +kernel) ?_
    refine lv_icmp_ne (tgt := 21) hx hb dX2_writesD_14 (by decide) (fun c1 => ?_) (fun c1 => ?_)
    · have hf := ite_e hf c1
      refine lv_iconst (v := (0 : Int32)) hx hb dX2_writesD_21 (by decide) ?_
      have z2 : (0 : Int32) = 0 ∨ (0 : Int32) = 1 := by decide
      have hf := Option.some.inj hf
      subst hf
      exact g_zret hx hb hr hlocks (hP.sub [] rfl) (hD.sub [] (by decide) rfl) hK hS rfl z2 dX2_writesD_22
    · have hf := ite_t hf c1
      refine lv_iconst (v := (1 : Int32)) hx hb dX2_writesD_17 (by decide) ?_
      refine lv_goto (tgt := 22) hx hb dX2_writesD_18 (by decide) ?_
      have z3 : (1 : Int32) = 0 ∨ (1 : Int32) = 1 := by decide
      have hf := Option.some.inj hf
      subst hf
      exact g_zret hx hb hr hlocks (hP.sub [] rfl) (hD.sub [] (by decide) rfl) hK hS rfl z3 dX2_writesD_22
  unfold f_X2_writesD at hf
  refine lv_iload_n hx hb dX2_writesD_0 rfl (lv_at hl 0 rfl) ?_
  refine lv_iconst (v := (1 : Int32)) hx hb dX2_writesD_1 (by decide) ?_
  refine lv_icmp_lt (tgt := 11) hx hb dX2_writesD_2 (by decide) (fun c4 => ?_) (fun c4 => ?_)
  · have hf := ite_t hf c4
    exact hJ_11 _ _ _ ls hf (hP.sub [] rfl) (hD.sub [] (by decide) rfl) hS (lv_sub hl [0] rfl)
  · have hf := ite_e hf c4
    refine lv_iload_n hx hb dX2_writesD_5 rfl (lv_at hl 0 rfl) ?_
    refine lv_bipush (v := (7 : Int32)) hx hb dX2_writesD_6 (by decide +kernel) ?_
    refine lv_icmp_le (tgt := 17) hx hb dX2_writesD_8 (by decide) (fun c5 => ?_) (fun c5 => ?_)
    · have hf := ite_t hf c5
      refine lv_iconst (v := (1 : Int32)) hx hb dX2_writesD_17 (by decide) ?_
      refine lv_goto (tgt := 22) hx hb dX2_writesD_18 (by decide) ?_
      have z6 : (1 : Int32) = 0 ∨ (1 : Int32) = 1 := by decide
      have hf := Option.some.inj hf
      subst hf
      exact g_zret hx hb hr hlocks (hP.sub [] rfl) (hD.sub [] (by decide) rfl) hK hS rfl z6 dX2_writesD_22
    · have hf := ite_e hf c5
      exact hJ_11 _ _ _ ls hf (hP.sub [] rfl) (hD.sub [] (by decide) rfl) hS (lv_sub hl [0] rfl)

def f_X2_readsA_11     (x0 : Int32) : Option Int32 := if x0 = (10 : Int32) then (some (1 : Int32)) else (if x0 = (11 : Int32) then (some (1 : Int32)) else (if x0 = (12 : Int32) then (some (1 : Int32)) else (some (0 : Int32))))
def f_X2_readsA    (x0 : Int32) : Option Int32 := if x0 < (2 : Int32) then (f_X2_readsA_11 x0) else (if x0 ≤ (8 : Int32) then (some (1 : Int32)) else (f_X2_readsA_11 x0))
set_option maxHeartbeats 4000000 in
set_option maxRecDepth 100000 in
theorem c_X2_readsA (l : Launch) (D : va_G) (cI cZ : ClassId)  (sz : Nat)     (x0 : Int32) (res : Int32) (hf : f_X2_readsA x0 = some res) : Ct_i l yX2_readsA wsX2_readsA ({ frames := 0, cells := 0, slots := 0, locals := 0 }) D [(cI, .int), (cZ, .boolean)] [.int x0] sz [] res [] := by
  refine g_of (cc := cX2_readsA) (maxL := 1) (ret := some .boolean) (QQ := (fun A => g_Qi D [(cI, .int), (cZ, .boolean)] A res [])) (by decide) rfl (Nat.le_of_ble_eq_true rfl) ?_
  intro p e s m args below meth c A ls S hr hlocks hA hP hK hD hl
  show W p l e ({ frames := 0, cells := 0, slots := 0, locals := 0 }) s m args below meth c s.heap [] 0 0 (MQ below (g_Qi D [(cI, .int), (cZ, .boolean)] A res []) args s 0 0 A) (F0 m 0 ls [])
  have hx := S.1
  have hb := S.2.1
  have hml := S.2.2.1
  have hown := S.2.2.2.1
  have hts := S.2.2.2.2
  have hS : va_S A s.heap s.heap [] := va_S.rf
  have hl : lv_has ls 1 [(0, .int x0)] := hl
  have hJ_11 : ∀  (x0 : Int32) (H : Heap) (locs : List Loc) (ls : Array Slot), f_X2_readsA_11 x0 = some res → va_P D vwCl [] H → va_D A [] → va_S A s.heap H locs → lv_has ls 1 [(0, .int x0)] → W p l e ({ frames := 0, cells := 0, slots := 0, locals := 0 }) s m args below meth c H locs 0 0 (MQ below (g_Qi D [(cI, .int), (cZ, .boolean)] A res []) args s 0 0 A) (F0 m 11 ls []) := by
    intro x0 H locs ls hf hP hD hS hl
    unfold f_X2_readsA_11 at hf
    refine lv_iload_n hx hb dX2_readsA_11 rfl (lv_at hl 0 rfl) ?_
    refine lv_bipush (v := (10 : Int32)) hx hb dX2_readsA_12 (by decide +kernel) ?_
    refine lv_icmp_eq (tgt := 29) hx hb dX2_readsA_14 (by decide) (fun c1 => ?_) (fun c1 => ?_)
    · have hf := ite_t hf c1
      refine lv_iconst (v := (1 : Int32)) hx hb dX2_readsA_29 (by decide) ?_
      refine lv_goto (tgt := 34) hx hb dX2_readsA_30 (by decide) ?_
      have z2 : (1 : Int32) = 0 ∨ (1 : Int32) = 1 := by decide
      have hf := Option.some.inj hf
      subst hf
      exact g_zret hx hb hr hlocks (hP.sub [] rfl) (hD.sub [] (by decide) rfl) hK hS rfl z2 dX2_readsA_34
    · have hf := ite_e hf c1
      refine lv_iload_n hx hb dX2_readsA_17 rfl (lv_at hl 0 rfl) ?_
      refine lv_bipush (v := (11 : Int32)) hx hb dX2_readsA_18 (by decide +kernel) ?_
      refine lv_icmp_eq (tgt := 29) hx hb dX2_readsA_20 (by decide) (fun c3 => ?_) (fun c3 => ?_)
      · have hf := ite_t hf c3
        refine lv_iconst (v := (1 : Int32)) hx hb dX2_readsA_29 (by decide) ?_
        refine lv_goto (tgt := 34) hx hb dX2_readsA_30 (by decide) ?_
        have z4 : (1 : Int32) = 0 ∨ (1 : Int32) = 1 := by decide
        have hf := Option.some.inj hf
        subst hf
        exact g_zret hx hb hr hlocks (hP.sub [] rfl) (hD.sub [] (by decide) rfl) hK hS rfl z4 dX2_readsA_34
      · have hf := ite_e hf c3
        refine lv_iload_n hx hb dX2_readsA_23 rfl (lv_at hl 0 rfl) ?_
        refine lv_bipush (v := (12 : Int32)) hx hb dX2_readsA_24 (by decide +kernel) ?_
        refine lv_icmp_ne (tgt := 33) hx hb dX2_readsA_26 (by decide) (fun c5 => ?_) (fun c5 => ?_)
        · have hf := ite_e hf c5
          refine lv_iconst (v := (0 : Int32)) hx hb dX2_readsA_33 (by decide) ?_
          have z6 : (0 : Int32) = 0 ∨ (0 : Int32) = 1 := by decide
          have hf := Option.some.inj hf
          subst hf
          exact g_zret hx hb hr hlocks (hP.sub [] rfl) (hD.sub [] (by decide) rfl) hK hS rfl z6 dX2_readsA_34
        · have hf := ite_t hf c5
          refine lv_iconst (v := (1 : Int32)) hx hb dX2_readsA_29 (by decide) ?_
          refine lv_goto (tgt := 34) hx hb dX2_readsA_30 (by decide) ?_
          have z7 : (1 : Int32) = 0 ∨ (1 : Int32) = 1 := by decide
          have hf := Option.some.inj hf
          subst hf
          exact g_zret hx hb hr hlocks (hP.sub [] rfl) (hD.sub [] (by decide) rfl) hK hS rfl z7 dX2_readsA_34
  unfold f_X2_readsA at hf
  refine lv_iload_n hx hb dX2_readsA_0 rfl (lv_at hl 0 rfl) ?_
  refine lv_iconst (v := (2 : Int32)) hx hb dX2_readsA_1 (by decide) ?_
  refine lv_icmp_lt (tgt := 11) hx hb dX2_readsA_2 (by decide) (fun c8 => ?_) (fun c8 => ?_)
  · have hf := ite_t hf c8
    exact hJ_11 _ _ _ ls hf (hP.sub [] rfl) (hD.sub [] (by decide) rfl) hS (lv_sub hl [0] rfl)
  · have hf := ite_e hf c8
    refine lv_iload_n hx hb dX2_readsA_5 rfl (lv_at hl 0 rfl) ?_
    refine lv_bipush (v := (8 : Int32)) hx hb dX2_readsA_6 (by decide +kernel) ?_
    refine lv_icmp_le (tgt := 29) hx hb dX2_readsA_8 (by decide) (fun c9 => ?_) (fun c9 => ?_)
    · have hf := ite_t hf c9
      refine lv_iconst (v := (1 : Int32)) hx hb dX2_readsA_29 (by decide) ?_
      refine lv_goto (tgt := 34) hx hb dX2_readsA_30 (by decide) ?_
      have z10 : (1 : Int32) = 0 ∨ (1 : Int32) = 1 := by decide
      have hf := Option.some.inj hf
      subst hf
      exact g_zret hx hb hr hlocks (hP.sub [] rfl) (hD.sub [] (by decide) rfl) hK hS rfl z10 dX2_readsA_34
    · have hf := ite_e hf c9
      exact hJ_11 _ _ _ ls hf (hP.sub [] rfl) (hD.sub [] (by decide) rfl) hS (lv_sub hl [0] rfl)

def f_X2_isArithmetic    (x0 : Int32) : Option Int32 := if x0 < (3 : Int32) then (some (0 : Int32)) else (if (6 : Int32) < x0 then (some (0 : Int32)) else (some (1 : Int32)))
set_option maxHeartbeats 4000000 in
set_option maxRecDepth 100000 in
theorem c_X2_isArithmetic (l : Launch) (D : va_G) (cI cZ : ClassId)  (sz : Nat)     (x0 : Int32) (res : Int32) (hf : f_X2_isArithmetic x0 = some res) : Ct_i l yX2_isArithmetic wsX2_isArithmetic ({ frames := 0, cells := 0, slots := 0, locals := 0 }) D [(cI, .int), (cZ, .boolean)] [.int x0] sz [] res [] := by
  refine g_of (cc := cX2_isArithmetic) (maxL := 1) (ret := some .boolean) (QQ := (fun A => g_Qi D [(cI, .int), (cZ, .boolean)] A res [])) (by decide) rfl (Nat.le_of_ble_eq_true rfl) ?_
  intro p e s m args below meth c A ls S hr hlocks hA hP hK hD hl
  show W p l e ({ frames := 0, cells := 0, slots := 0, locals := 0 }) s m args below meth c s.heap [] 0 0 (MQ below (g_Qi D [(cI, .int), (cZ, .boolean)] A res []) args s 0 0 A) (F0 m 0 ls [])
  have hx := S.1
  have hb := S.2.1
  have hml := S.2.2.1
  have hown := S.2.2.2.1
  have hts := S.2.2.2.2
  have hS : va_S A s.heap s.heap [] := va_S.rf
  have hl : lv_has ls 1 [(0, .int x0)] := hl
  unfold f_X2_isArithmetic at hf
  refine lv_iload_n hx hb dX2_isArithmetic_0 rfl (lv_at hl 0 rfl) ?_
  refine lv_iconst (v := (3 : Int32)) hx hb dX2_isArithmetic_1 (by decide) ?_
  refine lv_icmp_lt (tgt := 15) hx hb dX2_isArithmetic_2 (by decide) (fun c1 => ?_) (fun c1 => ?_)
  · have hf := ite_t hf c1
    refine lv_iconst (v := (0 : Int32)) hx hb dX2_isArithmetic_15 (by decide) ?_
    have z2 : (0 : Int32) = 0 ∨ (0 : Int32) = 1 := by decide
    have hf := Option.some.inj hf
    subst hf
    exact g_zret hx hb hr hlocks (hP.sub [] rfl) (hD.sub [] (by decide) rfl) hK hS rfl z2 dX2_isArithmetic_16
  · have hf := ite_e hf c1
    refine lv_iload_n hx hb dX2_isArithmetic_5 rfl (lv_at hl 0 rfl) ?_
    refine lv_bipush (v := (6 : Int32)) hx hb dX2_isArithmetic_6 (by decide +kernel) ?_
    refine lv_icmp_gt (tgt := 15) hx hb dX2_isArithmetic_8 (by decide) (fun c3 => ?_) (fun c3 => ?_)
    · have hf := ite_t hf c3
      refine lv_iconst (v := (0 : Int32)) hx hb dX2_isArithmetic_15 (by decide) ?_
      have z4 : (0 : Int32) = 0 ∨ (0 : Int32) = 1 := by decide
      have hf := Option.some.inj hf
      subst hf
      exact g_zret hx hb hr hlocks (hP.sub [] rfl) (hD.sub [] (by decide) rfl) hK hS rfl z4 dX2_isArithmetic_16
    · have hf := ite_e hf c3
      refine lv_iconst (v := (1 : Int32)) hx hb dX2_isArithmetic_11 (by decide) ?_
      refine lv_goto (tgt := 16) hx hb dX2_isArithmetic_12 (by decide) ?_
      have z5 : (1 : Int32) = 0 ∨ (1 : Int32) = 1 := by decide
      have hf := Option.some.inj hf
      subst hf
      exact g_zret hx hb hr hlocks (hP.sub [] rfl) (hD.sub [] (by decide) rfl) hK hS rfl z5 dX2_isArithmetic_16

def f_X2_readsB    (x0 : Int32) : Option Int32 := (f_X2_isArithmetic x0).bind (fun u1 => if u1 = 0 then (if x0 = (8 : Int32) then (some (1 : Int32)) else (some (0 : Int32))) else (some (1 : Int32)))
set_option maxHeartbeats 4000000 in
set_option maxRecDepth 100000 in
theorem c_X2_readsB (l : Launch) (D : va_G) (cI cZ : ClassId)  (sz : Nat)     (x0 : Int32) (res : Int32) (hf : f_X2_readsB x0 = some res) : Ct_i l yX2_readsB wsX2_readsB ({ frames := 1, cells := 0, slots := 0, locals := 20 }) D [(cI, .int), (cZ, .boolean)] [.int x0] sz [] res [] := by
  refine g_of (cc := cX2_readsB) (maxL := 1) (ret := some .boolean) (QQ := (fun A => g_Qi D [(cI, .int), (cZ, .boolean)] A res [])) (by decide) rfl (Nat.le_of_ble_eq_true rfl) ?_
  intro p e s m args below meth c A ls S hr hlocks hA hP hK hD hl
  show W p l e ({ frames := 1, cells := 0, slots := 0, locals := 20 }) s m args below meth c s.heap [] 0 0 (MQ below (g_Qi D [(cI, .int), (cZ, .boolean)] A res []) args s 0 0 A) (F0 m 0 ls [])
  have hx := S.1
  have hb := S.2.1
  have hml := S.2.2.1
  have hown := S.2.2.2.1
  have hts := S.2.2.2.2
  have hS : va_S A s.heap s.heap [] := va_S.rf
  have hl : lv_has ls 1 [(0, .int x0)] := hl
  unfold f_X2_readsB at hf
  refine lv_iload_n hx hb dX2_readsB_0 rfl (lv_at hl 0 rfl) ?_
  obtain ⟨u1, g2, hf⟩ := bd_some hf
  refine g_callSi S (c_X2_isArithmetic l D cI cZ _ x0 u1 g2) (va_cwS 1 hts gX2_readsB_X2_isArithmetic rfl rfl rfl (by decide +kernel) ⟨Nat.le_of_ble_eq_true rfl, Nat.le_of_ble_eq_true rfl⟩) hK hP hD hS hA [] [] [] rfl rfl (by decide) (by decide) (by decide) rfl hl.1 rfl (Nat.le_of_ble_eq_true rfl) dX2_readsB_1 ⟨Nat.le_of_ble_eq_true rfl, Nat.le_of_ble_eq_true rfl⟩ (fun H locs hP hD hS => ?_)
  have hP : va_P D vwCl [] H := hP
  have hD : va_D A [] := hD
  refine lv_if_ne (tgt := 13) hx hb dX2_readsB_4 (by decide) (fun c3 => ?_) (fun c3 => ?_)
  · have hf := ite_e hf c3
    refine lv_iconst (v := (1 : Int32)) hx hb dX2_readsB_13 (by decide) ?_
    refine lv_goto (tgt := 18) hx hb dX2_readsB_14 (by decide) ?_
    have z4 : (1 : Int32) = 0 ∨ (1 : Int32) = 1 := by decide
    have hf := Option.some.inj hf
    subst hf
    exact g_zret hx hb hr hlocks (hP.sub [] rfl) (hD.sub [] (by decide) rfl) hK hS rfl z4 dX2_readsB_18
  · have hf := ite_t hf c3
    refine lv_iload_n hx hb dX2_readsB_7 rfl (lv_at hl 0 rfl) ?_
    refine lv_bipush (v := (8 : Int32)) hx hb dX2_readsB_8 (by decide +kernel) ?_
    refine lv_icmp_ne (tgt := 17) hx hb dX2_readsB_10 (by decide) (fun c5 => ?_) (fun c5 => ?_)
    · have hf := ite_e hf c5
      refine lv_iconst (v := (0 : Int32)) hx hb dX2_readsB_17 (by decide) ?_
      have z6 : (0 : Int32) = 0 ∨ (0 : Int32) = 1 := by decide
      have hf := Option.some.inj hf
      subst hf
      exact g_zret hx hb hr hlocks (hP.sub [] rfl) (hD.sub [] (by decide) rfl) hK hS rfl z6 dX2_readsB_18
    · have hf := ite_t hf c5
      refine lv_iconst (v := (1 : Int32)) hx hb dX2_readsB_13 (by decide) ?_
      refine lv_goto (tgt := 18) hx hb dX2_readsB_14 (by decide) ?_
      have z7 : (1 : Int32) = 0 ∨ (1 : Int32) = 1 := by decide
      have hf := Option.some.inj hf
      subst hf
      exact g_zret hx hb hr hlocks (hP.sub [] rfl) (hD.sub [] (by decide) rfl) hK hS rfl z7 dX2_readsB_18

def f_X2_goesToD    (x0 : Int32) : Option Int32 := if x0 = (9 : Int32) then (some (1 : Int32)) else (if x0 = (10 : Int32) then (some (1 : Int32)) else (some (0 : Int32)))
set_option maxHeartbeats 4000000 in
set_option maxRecDepth 100000 in
theorem c_X2_goesToD (l : Launch) (D : va_G) (cI cZ : ClassId)  (sz : Nat)     (x0 : Int32) (res : Int32) (hf : f_X2_goesToD x0 = some res) : Ct_i l yX2_goesToD wsX2_goesToD ({ frames := 0, cells := 0, slots := 0, locals := 0 }) D [(cI, .int), (cZ, .boolean)] [.int x0] sz [] res [] := by
  refine g_of (cc := cX2_goesToD) (maxL := 1) (ret := some .boolean) (QQ := (fun A => g_Qi D [(cI, .int), (cZ, .boolean)] A res [])) (by decide) rfl (Nat.le_of_ble_eq_true rfl) ?_
  intro p e s m args below meth c A ls S hr hlocks hA hP hK hD hl
  show W p l e ({ frames := 0, cells := 0, slots := 0, locals := 0 }) s m args below meth c s.heap [] 0 0 (MQ below (g_Qi D [(cI, .int), (cZ, .boolean)] A res []) args s 0 0 A) (F0 m 0 ls [])
  have hx := S.1
  have hb := S.2.1
  have hml := S.2.2.1
  have hown := S.2.2.2.1
  have hts := S.2.2.2.2
  have hS : va_S A s.heap s.heap [] := va_S.rf
  have hl : lv_has ls 1 [(0, .int x0)] := hl
  unfold f_X2_goesToD at hf
  refine lv_iload_n hx hb dX2_goesToD_0 rfl (lv_at hl 0 rfl) ?_
  refine lv_bipush (v := (9 : Int32)) hx hb dX2_goesToD_1 (by decide +kernel) ?_
  refine lv_icmp_eq (tgt := 12) hx hb dX2_goesToD_3 (by decide) (fun c1 => ?_) (fun c1 => ?_)
  · have hf := ite_t hf c1
    refine lv_iconst (v := (1 : Int32)) hx hb dX2_goesToD_12 (by decide) ?_
    refine lv_goto (tgt := 17) hx hb dX2_goesToD_13 (by decide) ?_
    have z2 : (1 : Int32) = 0 ∨ (1 : Int32) = 1 := by decide
    have hf := Option.some.inj hf
    subst hf
    exact g_zret hx hb hr hlocks (hP.sub [] rfl) (hD.sub [] (by decide) rfl) hK hS rfl z2 dX2_goesToD_17
  · have hf := ite_e hf c1
    refine lv_iload_n hx hb dX2_goesToD_6 rfl (lv_at hl 0 rfl) ?_
    refine lv_bipush (v := (10 : Int32)) hx hb dX2_goesToD_7 (by decide +kernel) ?_
    refine lv_icmp_ne (tgt := 16) hx hb dX2_goesToD_9 (by decide) (fun c3 => ?_) (fun c3 => ?_)
    · have hf := ite_e hf c3
      refine lv_iconst (v := (0 : Int32)) hx hb dX2_goesToD_16 (by decide) ?_
      have z4 : (0 : Int32) = 0 ∨ (0 : Int32) = 1 := by decide
      have hf := Option.some.inj hf
      subst hf
      exact g_zret hx hb hr hlocks (hP.sub [] rfl) (hD.sub [] (by decide) rfl) hK hS rfl z4 dX2_goesToD_17
    · have hf := ite_t hf c3
      refine lv_iconst (v := (1 : Int32)) hx hb dX2_goesToD_12 (by decide) ?_
      refine lv_goto (tgt := 17) hx hb dX2_goesToD_13 (by decide) ?_
      have z5 : (1 : Int32) = 0 ∨ (1 : Int32) = 1 := by decide
      have hf := Option.some.inj hf
      subst hf
      exact g_zret hx hb hr hlocks (hP.sub [] rfl) (hD.sub [] (by decide) rfl) hK hS rfl z5 dX2_goesToD_17

def f_X2_onlyGivesD    (x0 : Int32) : Option Int32 := if x0 < (1 : Int32) then (some (0 : Int32)) else (if (5 : Int32) < x0 then (some (0 : Int32)) else (some (1 : Int32)))
set_option maxHeartbeats 4000000 in
set_option maxRecDepth 100000 in
theorem c_X2_onlyGivesD (l : Launch) (D : va_G) (cI cZ : ClassId)  (sz : Nat)     (x0 : Int32) (res : Int32) (hf : f_X2_onlyGivesD x0 = some res) : Ct_i l yX2_onlyGivesD wsX2_onlyGivesD ({ frames := 0, cells := 0, slots := 0, locals := 0 }) D [(cI, .int), (cZ, .boolean)] [.int x0] sz [] res [] := by
  refine g_of (cc := cX2_onlyGivesD) (maxL := 1) (ret := some .boolean) (QQ := (fun A => g_Qi D [(cI, .int), (cZ, .boolean)] A res [])) (by decide) rfl (Nat.le_of_ble_eq_true rfl) ?_
  intro p e s m args below meth c A ls S hr hlocks hA hP hK hD hl
  show W p l e ({ frames := 0, cells := 0, slots := 0, locals := 0 }) s m args below meth c s.heap [] 0 0 (MQ below (g_Qi D [(cI, .int), (cZ, .boolean)] A res []) args s 0 0 A) (F0 m 0 ls [])
  have hx := S.1
  have hb := S.2.1
  have hml := S.2.2.1
  have hown := S.2.2.2.1
  have hts := S.2.2.2.2
  have hS : va_S A s.heap s.heap [] := va_S.rf
  have hl : lv_has ls 1 [(0, .int x0)] := hl
  unfold f_X2_onlyGivesD at hf
  refine lv_iload_n hx hb dX2_onlyGivesD_0 rfl (lv_at hl 0 rfl) ?_
  refine lv_iconst (v := (1 : Int32)) hx hb dX2_onlyGivesD_1 (by decide) ?_
  refine lv_icmp_lt (tgt := 14) hx hb dX2_onlyGivesD_2 (by decide) (fun c1 => ?_) (fun c1 => ?_)
  · have hf := ite_t hf c1
    refine lv_iconst (v := (0 : Int32)) hx hb dX2_onlyGivesD_14 (by decide) ?_
    have z2 : (0 : Int32) = 0 ∨ (0 : Int32) = 1 := by decide
    have hf := Option.some.inj hf
    subst hf
    exact g_zret hx hb hr hlocks (hP.sub [] rfl) (hD.sub [] (by decide) rfl) hK hS rfl z2 dX2_onlyGivesD_15
  · have hf := ite_e hf c1
    refine lv_iload_n hx hb dX2_onlyGivesD_5 rfl (lv_at hl 0 rfl) ?_
    refine lv_iconst (v := (5 : Int32)) hx hb dX2_onlyGivesD_6 (by decide) ?_
    refine lv_icmp_gt (tgt := 14) hx hb dX2_onlyGivesD_7 (by decide) (fun c3 => ?_) (fun c3 => ?_)
    · have hf := ite_t hf c3
      refine lv_iconst (v := (0 : Int32)) hx hb dX2_onlyGivesD_14 (by decide) ?_
      have z4 : (0 : Int32) = 0 ∨ (0 : Int32) = 1 := by decide
      have hf := Option.some.inj hf
      subst hf
      exact g_zret hx hb hr hlocks (hP.sub [] rfl) (hD.sub [] (by decide) rfl) hK hS rfl z4 dX2_onlyGivesD_15
    · have hf := ite_e hf c3
      refine lv_iconst (v := (1 : Int32)) hx hb dX2_onlyGivesD_10 (by decide) ?_
      refine lv_goto (tgt := 15) hx hb dX2_onlyGivesD_11 (by decide) ?_
      have z5 : (1 : Int32) = 0 ∨ (1 : Int32) = 1 := by decide
      have hf := Option.some.inj hf
      subst hf
      exact g_zret hx hb hr hlocks (hP.sub [] rfl) (hD.sub [] (by decide) rfl) hK hS rfl z5 dX2_onlyGivesD_15

def f_X2_fitsDraft_59     (x0 x3 : Int32) : Option Int32 := (f_X2_readsB x0).bind (fun u1 => if u1 = 0 then (some (1 : Int32)) else ((f_X2_isRegister x3).bind (fun u5 => if u5 = 0 then (some (0 : Int32)) else (some (1 : Int32)))))
def f_X2_fitsDraft_45     (x0 x2 x3 : Int32) : Option Int32 := (f_X2_readsA x0).bind (fun u10 => if u10 = 0 then (f_X2_fitsDraft_59 x0 x3) else ((f_X2_isRegister x2).bind (fun u13 => if u13 = 0 then (some (0 : Int32)) else (f_X2_fitsDraft_59 x0 x3))))
def f_X2_fitsDraft_31     (x0 x1 x2 x3 : Int32) : Option Int32 := (f_X2_writesD x0).bind (fun u17 => if u17 = 0 then (f_X2_fitsDraft_45 x0 x2 x3) else ((f_X2_isRegister x1).bind (fun u20 => if u20 = 0 then (some (0 : Int32)) else (f_X2_fitsDraft_45 x0 x2 x3))))
def f_X2_fitsDraft    (x0 x1 x2 x3 : Int32) : Option Int32 := if x0 < 0 then (some (0 : Int32)) else (if x0 ≤ (12 : Int32) then ((f_X2_goesToD x0).bind (fun u27 => if u27 = 0 then (f_X2_fitsDraft_31 x0 x1 x2 x3) else (if x1 < 0 then (some (0 : Int32)) else (if x1 < (24 : Int32) then (f_X2_fitsDraft_31 x0 x1 x2 x3) else (some (0 : Int32)))))) else (some (0 : Int32)))
set_option maxHeartbeats 4000000 in
set_option maxRecDepth 100000 in
theorem c_X2_fitsDraft (l : Launch) (D : va_G) (cI cZ : ClassId)  (sz : Nat)     (x0 x1 x2 x3 : Int32) (res : Int32) (hf : f_X2_fitsDraft x0 x1 x2 x3 = some res) : Ct_i l yX2_fitsDraft wsX2_fitsDraft ({ frames := 2, cells := 0, slots := 0, locals := 40 }) D [(cI, .int), (cZ, .boolean)] [.int x0, .int x1, .int x2, .int x3] sz [] res [] := by
  refine g_of (cc := cX2_fitsDraft) (maxL := 4) (ret := some .boolean) (QQ := (fun A => g_Qi D [(cI, .int), (cZ, .boolean)] A res [])) (by decide) rfl (Nat.le_of_ble_eq_true rfl) ?_
  intro p e s m args below meth c A ls S hr hlocks hA hP hK hD hl
  show W p l e ({ frames := 2, cells := 0, slots := 0, locals := 40 }) s m args below meth c s.heap [] 0 0 (MQ below (g_Qi D [(cI, .int), (cZ, .boolean)] A res []) args s 0 0 A) (F0 m 0 ls [])
  have hx := S.1
  have hb := S.2.1
  have hml := S.2.2.1
  have hown := S.2.2.2.1
  have hts := S.2.2.2.2
  have hS : va_S A s.heap s.heap [] := va_S.rf
  have hl : lv_has ls 4 [(0, .int x0), (1, .int x1), (2, .int x2), (3, .int x3)] := hl
  have hJ_59 : ∀  (x0 x3 : Int32) (H : Heap) (locs : List Loc) (ls : Array Slot), f_X2_fitsDraft_59 x0 x3 = some res → va_P D vwCl [] H → va_D A [] → va_S A s.heap H locs → lv_has ls 4 [(0, .int x0), (3, .int x3)] → W p l e ({ frames := 2, cells := 0, slots := 0, locals := 40 }) s m args below meth c H locs 0 0 (MQ below (g_Qi D [(cI, .int), (cZ, .boolean)] A res []) args s 0 0 A) (F0 m 59 ls []) := by
    intro x0 x3 H locs ls hf hP hD hS hl
    unfold f_X2_fitsDraft_59 at hf
    refine lv_iload_n hx hb dX2_fitsDraft_59 rfl (lv_at hl 0 rfl) ?_
    obtain ⟨u1, g2, hf⟩ := bd_some hf
    refine g_callSi S (c_X2_readsB l D cI cZ _ x0 u1 g2) (va_cwS 1 hts gX2_fitsDraft_X2_readsB rfl rfl rfl (by decide +kernel) ⟨Nat.le_of_ble_eq_true rfl, Nat.le_of_ble_eq_true rfl⟩) hK hP hD hS hA [] [] [] rfl rfl (by decide) (by decide) (by decide) rfl hl.1 rfl (Nat.le_of_ble_eq_true rfl) dX2_fitsDraft_60 ⟨Nat.le_of_ble_eq_true rfl, Nat.le_of_ble_eq_true rfl⟩ (fun H locs hP hD hS => ?_)
    have hP : va_P D vwCl [] H := hP
    have hD : va_D A [] := hD
    refine lv_if_eq (tgt := 73) hx hb dX2_fitsDraft_63 (by decide) (fun c3 => ?_) (fun c3 => ?_)
    · have hf := ite_t hf c3
      refine lv_iconst (v := (1 : Int32)) hx hb dX2_fitsDraft_73 (by decide) ?_
      refine lv_goto (tgt := 78) hx hb dX2_fitsDraft_74 (by decide) ?_
      have z4 : (1 : Int32) = 0 ∨ (1 : Int32) = 1 := by decide
      have hf := Option.some.inj hf
      subst hf
      exact g_zret hx hb hr hlocks (hP.sub [] rfl) (hD.sub [] (by decide) rfl) hK hS rfl z4 dX2_fitsDraft_78
    · have hf := ite_e hf c3
      refine lv_iload_n hx hb dX2_fitsDraft_66 rfl (lv_at hl 1 rfl) ?_
      obtain ⟨u5, g6, hf⟩ := bd_some hf
      refine g_callSi S (c_X2_isRegister l D cI cZ _ x3 u5 g6) (va_cwS 1 hts gX2_fitsDraft_X2_isRegister rfl rfl rfl (by decide +kernel) ⟨Nat.le_of_ble_eq_true rfl, Nat.le_of_ble_eq_true rfl⟩) hK hP hD hS hA [] [] [] rfl rfl (by decide) (by decide) (by decide) rfl hl.1 rfl (Nat.le_of_ble_eq_true rfl) dX2_fitsDraft_67 ⟨Nat.le_of_ble_eq_true rfl, Nat.le_of_ble_eq_true rfl⟩ (fun H locs hP hD hS => ?_)
      have hP : va_P D vwCl [] H := hP
      have hD : va_D A [] := hD
      refine lv_if_eq (tgt := 77) hx hb dX2_fitsDraft_70 (by decide) (fun c7 => ?_) (fun c7 => ?_)
      · have hf := ite_t hf c7
        refine lv_iconst (v := (0 : Int32)) hx hb dX2_fitsDraft_77 (by decide) ?_
        have z8 : (0 : Int32) = 0 ∨ (0 : Int32) = 1 := by decide
        have hf := Option.some.inj hf
        subst hf
        exact g_zret hx hb hr hlocks (hP.sub [] rfl) (hD.sub [] (by decide) rfl) hK hS rfl z8 dX2_fitsDraft_78
      · have hf := ite_e hf c7
        refine lv_iconst (v := (1 : Int32)) hx hb dX2_fitsDraft_73 (by decide) ?_
        refine lv_goto (tgt := 78) hx hb dX2_fitsDraft_74 (by decide) ?_
        have z9 : (1 : Int32) = 0 ∨ (1 : Int32) = 1 := by decide
        have hf := Option.some.inj hf
        subst hf
        exact g_zret hx hb hr hlocks (hP.sub [] rfl) (hD.sub [] (by decide) rfl) hK hS rfl z9 dX2_fitsDraft_78
  have hJ_45 : ∀  (x0 x2 x3 : Int32) (H : Heap) (locs : List Loc) (ls : Array Slot), f_X2_fitsDraft_45 x0 x2 x3 = some res → va_P D vwCl [] H → va_D A [] → va_S A s.heap H locs → lv_has ls 4 [(0, .int x0), (2, .int x2), (3, .int x3)] → W p l e ({ frames := 2, cells := 0, slots := 0, locals := 40 }) s m args below meth c H locs 0 0 (MQ below (g_Qi D [(cI, .int), (cZ, .boolean)] A res []) args s 0 0 A) (F0 m 45 ls []) := by
    intro x0 x2 x3 H locs ls hf hP hD hS hl
    unfold f_X2_fitsDraft_45 at hf
    refine lv_iload_n hx hb dX2_fitsDraft_45 rfl (lv_at hl 0 rfl) ?_
    obtain ⟨u10, g11, hf⟩ := bd_some hf
    refine g_callSi S (c_X2_readsA l D cI cZ _ x0 u10 g11) (va_cwS 1 hts gX2_fitsDraft_X2_readsA rfl rfl rfl (by decide +kernel) ⟨Nat.le_of_ble_eq_true rfl, Nat.le_of_ble_eq_true rfl⟩) hK hP hD hS hA [] [] [] rfl rfl (by decide) (by decide) (by decide) rfl hl.1 rfl (Nat.le_of_ble_eq_true rfl) dX2_fitsDraft_46 ⟨Nat.le_of_ble_eq_true rfl, Nat.le_of_ble_eq_true rfl⟩ (fun H locs hP hD hS => ?_)
    have hP : va_P D vwCl [] H := hP
    have hD : va_D A [] := hD
    refine lv_if_eq (tgt := 59) hx hb dX2_fitsDraft_49 (by decide) (fun c12 => ?_) (fun c12 => ?_)
    · have hf := ite_t hf c12
      exact hJ_59 _ _ _ _ ls hf (hP.sub [] rfl) (hD.sub [] (by decide) rfl) hS (lv_sub hl [0, 2] rfl)
    · have hf := ite_e hf c12
      refine lv_iload_n hx hb dX2_fitsDraft_52 rfl (lv_at hl 1 rfl) ?_
      obtain ⟨u13, g14, hf⟩ := bd_some hf
      refine g_callSi S (c_X2_isRegister l D cI cZ _ x2 u13 g14) (va_cwS 1 hts gX2_fitsDraft_X2_isRegister rfl rfl rfl (by decide +kernel) ⟨Nat.le_of_ble_eq_true rfl, Nat.le_of_ble_eq_true rfl⟩) hK hP hD hS hA [] [] [] rfl rfl (by decide) (by decide) (by decide) rfl hl.1 rfl (Nat.le_of_ble_eq_true rfl) dX2_fitsDraft_53 ⟨Nat.le_of_ble_eq_true rfl, Nat.le_of_ble_eq_true rfl⟩ (fun H locs hP hD hS => ?_)
      have hP : va_P D vwCl [] H := hP
      have hD : va_D A [] := hD
      refine lv_if_eq (tgt := 77) hx hb dX2_fitsDraft_56 (by decide) (fun c15 => ?_) (fun c15 => ?_)
      · have hf := ite_t hf c15
        refine lv_iconst (v := (0 : Int32)) hx hb dX2_fitsDraft_77 (by decide) ?_
        have z16 : (0 : Int32) = 0 ∨ (0 : Int32) = 1 := by decide
        have hf := Option.some.inj hf
        subst hf
        exact g_zret hx hb hr hlocks (hP.sub [] rfl) (hD.sub [] (by decide) rfl) hK hS rfl z16 dX2_fitsDraft_78
      · have hf := ite_e hf c15
        exact hJ_59 _ _ _ _ ls hf (hP.sub [] rfl) (hD.sub [] (by decide) rfl) hS (lv_sub hl [0, 2] rfl)
  have hJ_31 : ∀  (x0 x1 x2 x3 : Int32) (H : Heap) (locs : List Loc) (ls : Array Slot), f_X2_fitsDraft_31 x0 x1 x2 x3 = some res → va_P D vwCl [] H → va_D A [] → va_S A s.heap H locs → lv_has ls 4 [(0, .int x0), (1, .int x1), (2, .int x2), (3, .int x3)] → W p l e ({ frames := 2, cells := 0, slots := 0, locals := 40 }) s m args below meth c H locs 0 0 (MQ below (g_Qi D [(cI, .int), (cZ, .boolean)] A res []) args s 0 0 A) (F0 m 31 ls []) := by
    intro x0 x1 x2 x3 H locs ls hf hP hD hS hl
    unfold f_X2_fitsDraft_31 at hf
    refine lv_iload_n hx hb dX2_fitsDraft_31 rfl (lv_at hl 0 rfl) ?_
    obtain ⟨u17, g18, hf⟩ := bd_some hf
    refine g_callSi S (c_X2_writesD l D cI cZ _ x0 u17 g18) (va_cwS 1 hts gX2_fitsDraft_X2_writesD rfl rfl rfl (by decide +kernel) ⟨Nat.le_of_ble_eq_true rfl, Nat.le_of_ble_eq_true rfl⟩) hK hP hD hS hA [] [] [] rfl rfl (by decide) (by decide) (by decide) rfl hl.1 rfl (Nat.le_of_ble_eq_true rfl) dX2_fitsDraft_32 ⟨Nat.le_of_ble_eq_true rfl, Nat.le_of_ble_eq_true rfl⟩ (fun H locs hP hD hS => ?_)
    have hP : va_P D vwCl [] H := hP
    have hD : va_D A [] := hD
    refine lv_if_eq (tgt := 45) hx hb dX2_fitsDraft_35 (by decide) (fun c19 => ?_) (fun c19 => ?_)
    · have hf := ite_t hf c19
      exact hJ_45 _ _ _ _ _ ls hf (hP.sub [] rfl) (hD.sub [] (by decide) rfl) hS (lv_sub hl [0, 2, 3] rfl)
    · have hf := ite_e hf c19
      refine lv_iload_n hx hb dX2_fitsDraft_38 rfl (lv_at hl 1 rfl) ?_
      obtain ⟨u20, g21, hf⟩ := bd_some hf
      refine g_callSi S (c_X2_isRegister l D cI cZ _ x1 u20 g21) (va_cwS 1 hts gX2_fitsDraft_X2_isRegister rfl rfl rfl (by decide +kernel) ⟨Nat.le_of_ble_eq_true rfl, Nat.le_of_ble_eq_true rfl⟩) hK hP hD hS hA [] [] [] rfl rfl (by decide) (by decide) (by decide) rfl hl.1 rfl (Nat.le_of_ble_eq_true rfl) dX2_fitsDraft_39 ⟨Nat.le_of_ble_eq_true rfl, Nat.le_of_ble_eq_true rfl⟩ (fun H locs hP hD hS => ?_)
      have hP : va_P D vwCl [] H := hP
      have hD : va_D A [] := hD
      refine lv_if_eq (tgt := 77) hx hb dX2_fitsDraft_42 (by decide) (fun c22 => ?_) (fun c22 => ?_)
      · have hf := ite_t hf c22
        refine lv_iconst (v := (0 : Int32)) hx hb dX2_fitsDraft_77 (by decide) ?_
        have z23 : (0 : Int32) = 0 ∨ (0 : Int32) = 1 := by decide
        have hf := Option.some.inj hf
        subst hf
        exact g_zret hx hb hr hlocks (hP.sub [] rfl) (hD.sub [] (by decide) rfl) hK hS rfl z23 dX2_fitsDraft_78
      · have hf := ite_e hf c22
        exact hJ_45 _ _ _ _ _ ls hf (hP.sub [] rfl) (hD.sub [] (by decide) rfl) hS (lv_sub hl [0, 2, 3] rfl)
  unfold f_X2_fitsDraft at hf
  refine lv_iload_n hx hb dX2_fitsDraft_0 rfl (lv_at hl 0 rfl) ?_
  refine lv_if_lt (tgt := 10) hx hb dX2_fitsDraft_1 (by decide) (fun c24 => ?_) (fun c24 => ?_)
  · have hf := ite_t hf c24
    refine lv_iconst (v := (0 : Int32)) hx hb dX2_fitsDraft_10 (by decide) ?_
    have z25 : (0 : Int32) = 0 ∨ (0 : Int32) = 1 := by decide
    have hf := Option.some.inj hf
    subst hf
    exact g_zret hx hb hr hlocks (hP.sub [] rfl) (hD.sub [] (by decide) rfl) hK hS rfl z25 dX2_fitsDraft_11
  · have hf := ite_e hf c24
    refine lv_iload_n hx hb dX2_fitsDraft_4 rfl (lv_at hl 0 rfl) ?_
    refine lv_bipush (v := (12 : Int32)) hx hb dX2_fitsDraft_5 (by decide +kernel) ?_
    refine lv_icmp_le (tgt := 12) hx hb dX2_fitsDraft_7 (by decide) (fun c26 => ?_) (fun c26 => ?_)
    · have hf := ite_t hf c26
      refine lv_iload_n hx hb dX2_fitsDraft_12 rfl (lv_at hl 0 rfl) ?_
      obtain ⟨u27, g28, hf⟩ := bd_some hf
      refine g_callSi S (c_X2_goesToD l D cI cZ _ x0 u27 g28) (va_cwS 1 hts gX2_fitsDraft_X2_goesToD rfl rfl rfl (by decide +kernel) ⟨Nat.le_of_ble_eq_true rfl, Nat.le_of_ble_eq_true rfl⟩) hK hP hD hS hA [] [] [] rfl rfl (by decide) (by decide) (by decide) rfl hl.1 rfl (Nat.le_of_ble_eq_true rfl) dX2_fitsDraft_13 ⟨Nat.le_of_ble_eq_true rfl, Nat.le_of_ble_eq_true rfl⟩ (fun H locs hP hD hS => ?_)
      have hP : va_P D vwCl [] H := hP
      have hD : va_D A [] := hD
      refine lv_if_eq (tgt := 31) hx hb dX2_fitsDraft_16 (by decide) (fun c29 => ?_) (fun c29 => ?_)
      · have hf := ite_t hf c29
        exact hJ_31 _ _ _ _ _ _ ls hf (hP.sub [] rfl) (hD.sub [] (by decide) rfl) hS (lv_sub hl [0, 1, 2, 3] rfl)
      · have hf := ite_e hf c29
        refine lv_iload_n hx hb dX2_fitsDraft_19 rfl (lv_at hl 1 rfl) ?_
        refine lv_if_lt (tgt := 29) hx hb dX2_fitsDraft_20 (by decide) (fun c30 => ?_) (fun c30 => ?_)
        · have hf := ite_t hf c30
          refine lv_iconst (v := (0 : Int32)) hx hb dX2_fitsDraft_29 (by decide) ?_
          have z31 : (0 : Int32) = 0 ∨ (0 : Int32) = 1 := by decide
          have hf := Option.some.inj hf
          subst hf
          exact g_zret hx hb hr hlocks (hP.sub [] rfl) (hD.sub [] (by decide) rfl) hK hS rfl z31 dX2_fitsDraft_30
        · have hf := ite_e hf c30
          refine lv_iload_n hx hb dX2_fitsDraft_23 rfl (lv_at hl 1 rfl) ?_
          refine lv_bipush (v := (24 : Int32)) hx hb dX2_fitsDraft_24 (by decide +kernel) ?_
          refine lv_icmp_lt (tgt := 31) hx hb dX2_fitsDraft_26 (by decide) (fun c32 => ?_) (fun c32 => ?_)
          · have hf := ite_t hf c32
            exact hJ_31 _ _ _ _ _ _ ls hf (hP.sub [] rfl) (hD.sub [] (by decide) rfl) hS (lv_sub hl [0, 1, 2, 3] rfl)
          · have hf := ite_e hf c32
            refine lv_iconst (v := (0 : Int32)) hx hb dX2_fitsDraft_29 (by decide) ?_
            have z33 : (0 : Int32) = 0 ∨ (0 : Int32) = 1 := by decide
            have hf := Option.some.inj hf
            subst hf
            exact g_zret hx hb hr hlocks (hP.sub [] rfl) (hD.sub [] (by decide) rfl) hK hS rfl z33 dX2_fitsDraft_30
    · have hf := ite_e hf c26
      refine lv_iconst (v := (0 : Int32)) hx hb dX2_fitsDraft_10 (by decide) ?_
      have z34 : (0 : Int32) = 0 ∨ (0 : Int32) = 1 := by decide
      have hf := Option.some.inj hf
      subst hf
      exact g_zret hx hb hr hlocks (hP.sub [] rfl) (hD.sub [] (by decide) rfl) hK hS rfl z34 dX2_fitsDraft_11

def f_X2_compute    (x0 x1 x2 : Int32) : Option Int32 := if x0 = (3 : Int32) then (some (x1 + x2)) else if x0 = (4 : Int32) then (some (x1 - x2)) else if x0 = (5 : Int32) then (some (x1 * x2)) else if x0 = (6 : Int32) then (if x2 = 0 then (some (0 : Int32)) else (gz x2 (some (x1 / x2)))) else (some (0 : Int32))
set_option maxHeartbeats 4000000 in
set_option maxRecDepth 100000 in
theorem c_X2_compute (l : Launch) (D : va_G) (cI cZ : ClassId)  (sz : Nat)     (x0 x1 x2 : Int32) (res : Int32) (hf : f_X2_compute x0 x1 x2 = some res) : Ct_i l yX2_compute wsX2_compute ({ frames := 0, cells := 0, slots := 0, locals := 0 }) D [(cI, .int), (cZ, .boolean)] [.int x0, .int x1, .int x2] sz [] res [] := by
  refine g_of (cc := cX2_compute) (maxL := 3) (ret := some .int) (QQ := (fun A => g_Qi D [(cI, .int), (cZ, .boolean)] A res [])) (by decide) rfl (Nat.le_of_ble_eq_true rfl) ?_
  intro p e s m args below meth c A ls S hr hlocks hA hP hK hD hl
  show W p l e ({ frames := 0, cells := 0, slots := 0, locals := 0 }) s m args below meth c s.heap [] 0 0 (MQ below (g_Qi D [(cI, .int), (cZ, .boolean)] A res []) args s 0 0 A) (F0 m 0 ls [])
  have hx := S.1
  have hb := S.2.1
  have hml := S.2.2.1
  have hown := S.2.2.2.1
  have hts := S.2.2.2.2
  have hS : va_S A s.heap s.heap [] := va_S.rf
  have hl : lv_has ls 3 [(0, .int x0), (1, .int x1), (2, .int x2)] := hl
  unfold f_X2_compute at hf
  refine lv_iload_n hx hb dX2_compute_0 rfl (lv_at hl 0 rfl) ?_
  by_cases c1 : x0 = (3 : Int32)
  · have hf := ite_t hf c1
    have e2 := sw_eq (k := 3) c1 (by decide)
    refine lv_tableIn (tgt := 32) (off := 31) hx hb dX2_compute_1 (by rw [e2]; decide) (by rw [e2]; decide) (by rw [e2]; rfl) (by decide) ?_
    refine lv_iload_n hx hb dX2_compute_32 rfl (lv_at hl 1 rfl) ?_
    refine lv_iload_n hx hb dX2_compute_33 rfl (lv_at hl 2 rfl) ?_
    refine lv_iadd hx hb dX2_compute_34 ?_
    have hf := Option.some.inj hf
    subst hf
    exact g_iret hx hb hr hlocks (hP.sub [] rfl) (hD.sub [] (by decide) rfl) hK hS rfl dX2_compute_35
  have hf := ite_e hf c1
  by_cases c3 : x0 = (4 : Int32)
  · have hf := ite_t hf c3
    have e4 := sw_eq (k := 4) c3 (by decide)
    refine lv_tableIn (tgt := 36) (off := 35) hx hb dX2_compute_1 (by rw [e4]; decide) (by rw [e4]; decide) (by rw [e4]; rfl) (by decide) ?_
    refine lv_iload_n hx hb dX2_compute_36 rfl (lv_at hl 1 rfl) ?_
    refine lv_iload_n hx hb dX2_compute_37 rfl (lv_at hl 2 rfl) ?_
    refine lv_isub hx hb dX2_compute_38 ?_
    have hf := Option.some.inj hf
    subst hf
    exact g_iret hx hb hr hlocks (hP.sub [] rfl) (hD.sub [] (by decide) rfl) hK hS rfl dX2_compute_39
  have hf := ite_e hf c3
  by_cases c5 : x0 = (5 : Int32)
  · have hf := ite_t hf c5
    have e6 := sw_eq (k := 5) c5 (by decide)
    refine lv_tableIn (tgt := 40) (off := 39) hx hb dX2_compute_1 (by rw [e6]; decide) (by rw [e6]; decide) (by rw [e6]; rfl) (by decide) ?_
    refine lv_iload_n hx hb dX2_compute_40 rfl (lv_at hl 1 rfl) ?_
    refine lv_iload_n hx hb dX2_compute_41 rfl (lv_at hl 2 rfl) ?_
    refine lv_imul hx hb dX2_compute_42 ?_
    have hf := Option.some.inj hf
    subst hf
    exact g_iret hx hb hr hlocks (hP.sub [] rfl) (hD.sub [] (by decide) rfl) hK hS rfl dX2_compute_43
  have hf := ite_e hf c5
  by_cases c7 : x0 = (6 : Int32)
  · have hf := ite_t hf c7
    have e10 := sw_eq (k := 6) c7 (by decide)
    refine lv_tableIn (tgt := 44) (off := 43) hx hb dX2_compute_1 (by rw [e10]; decide) (by rw [e10]; decide) (by rw [e10]; rfl) (by decide) ?_
    refine lv_iload_n hx hb dX2_compute_44 rfl (lv_at hl 2 rfl) ?_
    refine lv_if_ne (tgt := 52) hx hb dX2_compute_45 (by decide) (fun c8 => ?_) (fun c8 => ?_)
    · have hf := ite_e hf c8
      refine lv_iload_n hx hb dX2_compute_52 rfl (lv_at hl 1 rfl) ?_
      refine lv_iload_n hx hb dX2_compute_53 rfl (lv_at hl 2 rfl) ?_
      obtain ⟨z9, hf⟩ := gz_some hf
      refine lv_idiv hx hb dX2_compute_54 z9 ?_
      have hf := Option.some.inj hf
      subst hf
      exact g_iret hx hb hr hlocks (hP.sub [] rfl) (hD.sub [] (by decide) rfl) hK hS rfl dX2_compute_55
    · have hf := ite_t hf c8
      refine lv_iconst (v := (0 : Int32)) hx hb dX2_compute_48 (by decide) ?_
      refine lv_goto (tgt := 55) hx hb dX2_compute_49 (by decide) ?_
      have hf := Option.some.inj hf
      subst hf
      exact g_iret hx hb hr hlocks (hP.sub [] rfl) (hD.sub [] (by decide) rfl) hK hS rfl dX2_compute_55
  have hf := ite_e hf c7
  have e11 := sw_ne (k := 3) c1 (by decide)
  have e12 := sw_ne (k := 4) c3 (by decide)
  have e13 := sw_ne (k := 5) c5 (by decide)
  have e14 := sw_ne (k := 6) c7 (by decide)
  refine lv_tableOut (tgt := 56) hx hb dX2_compute_1 (by omega) (by decide) ?_
  refine lv_iconst (v := (0 : Int32)) hx hb dX2_compute_56 (by decide) ?_
  have hf := Option.some.inj hf
  subst hf
  exact g_iret hx hb hr hlocks (hP.sub [] rfl) (hD.sub [] (by decide) rfl) hK hS rfl dX2_compute_57
